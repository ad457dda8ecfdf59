/-! a whole program: what the root stands for, AP, STOP -/
noncomputable def gprog (K V : Nat → Int32) (kids : Nat → List Nat) : GG := gseq (comp K V kids 13 [] 0) (gseq (gput 3 0 0) (gput 20 0 0))
theorem trans_class {m : Nat} {K V F fr co wo : Nat → Int32} {kids : Nat → List Nat} {w dp : Nat → Nat} {fc er sz lc : Int32} {post : Int32 → Int32 → Int32 → (Nat → Int32) → Int32 → Int32 → (Nat → Int32) → (Nat → Int32) → Prop} (hT : TC m K V F kids w dp) (hm : 0 < m) (hw : w 0 ≤ 200)
    (hp : ∀ er' fr' pc nc co' wo', pc ≤ 512 → nc ≤ 200 → OUT (gprog K V kids) 0 0 co wo er' pc nc co' wo' → post er' 0 er' fr' (nI pc) (nI nc) co' wo') : wp_Translator_translate fc er (fun x => formC.getD x 0) fr sz lc co (nI m) F K V wo post := by
  have h := CR.seq (expr_class hT 13 [] 0 hm (by omega) (Nat.zero_le _)) (CR.seq (CR.put (o := 3) (a := 0) (b := 0) rfl rfl rfl) (CR.put (o := 20) (a := 0) (b := 0) rfl rfl rfl))
  have := h.2 0 fr 0 0 co wo (fun fc er fr sz lc co wo => post er fc er fr sz lc co wo) (by omega) (by omega) (fun _ => by omega) trivial (fun er' fr' pc nc co' wo' h1 h2 h3 h4 h5 => hp er' fr' pc nc co' wo' h1 h2 (h5 rfl))
  exact this
theorem prog_bound {m : Nat} {K V F : Nat → Int32} {kids : Nat → List Nat} {w dp : Nat → Nat} (hT : TC m K V F kids w dp) (hm : 0 < m) (hw : w 0 ≤ 200) : GB (gprog K V kids) 401 200 :=
  (CR.seq (expr_class hT 13 [] 0 hm (by omega) (Nat.zero_le _)) (CR.seq (CR.put (o := 3) (a := 0) (b := 0) rfl rfl rfl) (CR.put (o := 20) (a := 0) (b := 0) rfl rfl rfl))).1.mono (by omega) (by omega)
theorem trans_model {b m q to : Nat} {K V F S W C N : Nat → Int32} {kids : Nat → List Nat} {w dp : Nat → Nat} {bank ts fr : Int32} {ab ar fi fx fo li nm op pd wh wi x1 x2 : Nat → Int32} {post : KT} (hT : TREE b m q K V F S W C N kids w dp) (hb : b ≤ 200) (hbb : b = 200 * to) (hbk : (1 : Int32) - bank = nI to) (hto : to < 2) (hfo : ∀ x, x < 16 → fo x = formM.getD x 0) (hm : 0 < m) (hq : q ≤ 200)
    (h1 : ∀ r ts fr ab ar fi' fx' li' nm op' pd wh wi x1' x2', gprog K V kids 0 0 = .ok r → MOK b to r 0 0 fi fx li op x1 x2 fi' fx' li' op' x1' x2' → post 0 ts fr ab ar fi' fx' li' nm op' pd wh wi x1' x2')
    (h0 : ∀ e ts fr ab ar fi' fx' li' nm op' pd wh wi x1' x2', gprog K V kids 0 0 = .error e → KEPT to fi fx li op x1 x2 fi' fx' li' op' x1' x2' → post e ts fr ab ar fi' fx' li' nm op' pd wh wi x1' x2') :
    wp_Model_translate bank ts fr ab ar C fi fx fo li nm N op pd S W wh wi x1 x2 post := by
  have vt : vp_in (nI to) 2 := vp_in_nI hto (by decide)
  have et : (nI to).toNatClampNeg = to := nI_clamp (by omega)
  have hw : 1 ≤ w 0 ∧ w 0 ≤ q := ⟨(hT.2 0 hm).1, (hT.2 0 hm).2.1⟩
  unfold wp_Model_translate
  rw [hbk, et, show (200 : Int32) * nI to = nI (b + 0) from by rw [hbb]; exact pk_mul 200 _]
  refine ⟨vt, vt, ?_⟩
  refine q_later (n := 0) (tc := 0) (l := []) (ab0 := ab) (wh0 := wh) (wi0 := wi) SS.nil rfl (by omega) (fun ab1 wh1 wi1 s1 => ⟨2001, ?_⟩)
  have kept0 : KEPT to fi fx li op x1 x2 fi (upd fx to 0) (upd li to 0) op x1 x2 := ⟨fun k hk => ⟨pk_un hk, pk_un hk⟩, fun _ _ => ⟨rfl, rfl, rfl⟩, fun _ _ => rfl⟩
  have key := (expr_model (KK := fun v2 i_tasks i_frames f_about f_around f_fixed f_fixeds f_lines f_names f_op f_paired f_what f_within f_x1 f_x2 => wp_Model_emit bank f_lines f_op f_x1 f_x2 (3 : Int32) (0 : Int32) (0 : Int32) (fun r_58 f_lines_59 f_op_60 f_x1_61 f_x2_62 => wp_Model_emit bank f_lines_59 f_op_60 f_x1_61 f_x2_62 (20 : Int32) (0 : Int32) (0 : Int32) (fun r_63 f_lines_64 f_op_65 f_x1_66 f_x2_67 => post v2 i_tasks i_frames f_about f_around f_fixed f_fixeds f_lines_64 f_names f_op_65 f_paired f_what f_within f_x1_66 f_x2_67))) (PP := post) hT hb hbk hto hfo 13 0 hm (by omega) [] (-1)).2 0 0 0 0 0 ab1 ar fi (upd fx to 0) (upd li to 0) nm op pd wh1 wi1 x1 x2 rfl s1.1 pk_us pk_us (by omega) (by omega) (by omega) (by omega) (by omega) (fun k' fc' r ab' ar' fi' fx' li' nm' op' pd' wh' wi' x1' x2' b0 b1 b2 b3 b4 b5 b6 b7 => ?_) (fun e ts fr ab' ar' fi' fx' li' nm' op' pd' wh' wi' x1' x2' b1 b2 b3 => ?_)
  · unfold LPm at key
    rw [hbk] at key
    exact key
  · unfold LPm
    rw [show 2001 - k' = (2000 - k') + 1 by omega]
    have gb := (expr_class hT.tc 13 [] 0 hm (by omega) (Nat.zero_le _)).1 0 0
    rw [b6] at gb
    simp only at gb
    have fin : wp_Model_emit bank li' op' x1' x2' (3 : Int32) (0 : Int32) (0 : Int32) (fun r_58 f_lines_59 f_op_60 f_x1_61 f_x2_62 => wp_Model_emit bank f_lines_59 f_op_60 f_x1_61 f_x2_62 (20 : Int32) (0 : Int32) (0 : Int32) (fun r_63 f_lines_64 f_op_65 f_x1_66 f_x2_67 => post 0 (nI 0) (nI fc') ab' ar' fi' fx' f_lines_64 nm' f_op_65 pd' wh' wi' f_x1_66 f_x2_67)) := by
      have l1 : li' to = nI (0 + r.1.length) := b7.1
      have l2 : fx' to = nI (0 + r.2.length) := b7.2.1
      refine q_memit hbk hto l1 (by omega) (q_memit hbk hto pk_us (by omega) ?_)
      refine h1 (r.1 ++ ([(3, 0, 0)] ++ [(20, 0, 0)]), r.2 ++ ([] ++ [])) _ _ _ _ _ _ _ _ _ _ _ _ _ _ (by unfold gprog gseq; rw [b6]; rfl) ?_
      have M1 := MOK.one (b := b) (fi := fi') (op := op') (x1 := x1') (x2 := x2') (o := 3) (a := 0) (c := 0) l1 l2 (by omega)
      have M2 := MOK.one (b := b) (fi := fi') (op := upd op' (512 * to + (0 + r.1.length)) (nI 3)) (x1 := upd x1' (512 * to + (0 + r.1.length)) (nI 0)) (x2 := upd x2' (512 * to + (0 + r.1.length)) (nI 0)) (li := upd li' to (nI (0 + r.1.length + 1))) (pc := 0 + r.1.length + 1) (o := 20) (a := 0) (c := 0) pk_us l2 (by omega)
      have M3 := b7.seq (MOK.seq M1 M2 (by show _ + 1 ≤ 512; omega) (by show _ + 0 ≤ 256; omega)) (by omega) (by omega)
      obtain ⟨c1, c2, c3, c4, c5, c6, c7⟩ := M3
      refine ⟨c1, c2, fun k hk => ⟨(c3 k hk).1.trans (pk_un hk), (c3 k hk).2.trans (pk_un hk)⟩, c4, c5, c6, c7⟩
    exact ⟨fun _ => fin, fun _ => ⟨fun _ => fin, fun z => absurd (by decide) z⟩⟩
  · obtain ⟨pc', p1, p2⟩ := b3
    refine q_memit hbk hto p2 (by omega) (q_memit hbk hto pk_us (by omega) (h0 e _ _ _ _ _ _ _ _ _ _ _ _ _ _ (by unfold gprog gseq; rw [b1]) (kept0.trans (b2.trans ⟨fun k hk => ⟨(pk_un hk).trans (pk_un hk), rfl⟩, fun k hk => ⟨(pk_un (by omega)).trans (pk_un (by omega)), (pk_un (by omega)).trans (pk_un (by omega)), (pk_un (by omega)).trans (pk_un (by omega))⟩, fun _ _ => rfl⟩))))

theorem va_cpy_lt {f g : Nat → Int32} {n k : Nat} (h : k < n) : va_cpy f g 0 0 n k = f k := by
  rw [pk_cpy_in (Nat.zero_le _) (by omega), Nat.zero_add, Nat.sub_zero]
theorem ch.to {F F' : Nat → Int32} {m : Nat} : ∀ {l : List Nat} {lo : Nat} {x : Int32}, ch F x l → inc lo m l → (∀ k, k < m → F' k = F k) → ch F' x l
  | [], _, _, h, _, _ => h
  | j :: l, _, _, h, hi, e => ⟨h.1, by rw [e j hi.2.1]; exact ch.to h.2 hi.2.2 e⟩
theorem chM.to {b : Nat} {N N' : Nat → Int32} {m : Nat} : ∀ {l : List Nat} {lo : Nat} {x : Int32}, chM b N x l → inc lo m l → (∀ k, k < m → N' (b + k) = N (b + k)) → chM b N' x l
  | [], _, _, h, _, _ => h
  | j :: l, _, _, h, hi, e => ⟨h.1, by rw [e j hi.2.1]; exact chM.to h.2 hi.2.2 e⟩
/-- the tables may change behind their nodes -/
theorem TREE.to {b m q : Nat} {K V F S W C N K' V' F' S' W' C' N' : Nat → Int32} {kids : Nat → List Nat} {w dp : Nat → Nat} (h : TREE b m q K V F S W C N kids w dp) (hc : ∀ k, k < m → K' k = K k ∧ V' k = V k ∧ F' k = F k) (hm : ∀ k, k < m → S' (b + k) = S (b + k) ∧ W' (b + k) = W (b + k) ∧ C' (b + k) = C (b + k) ∧ N' (b + k) = N (b + k)) : TREE b m q K' V' F' S' W' C' N' kids w dp := by
  refine ⟨h.1, fun j hj => ?_⟩
  obtain ⟨h1, h2, h3, h4⟩ := h.2 j hj
  obtain ⟨c1, c2, c3⟩ := hc j hj
  obtain ⟨m1, m2, m3, m4⟩ := hm j hj
  rw [c1, c2, m1, m2, m3]
  refine ⟨h1, h2, h3, ?_⟩
  rcases h4 with z | z | ⟨z1, z2, z3, z4, z5, z6, z7⟩
  · exact Or.inl z
  · exact Or.inr (Or.inl z)
  · exact Or.inr (Or.inr ⟨z1, z2, z3, z4.to z6 (fun k hk => (hc k hk).2.2), z5.to z6 (fun k hk => (hm k hk).2.2.2), z6, z7⟩)
/-! an error is negative -/
def GN (g : GG) : Prop := ∀ pc nc e, g pc nc = .error e → e < 0
theorem GN.put {o a b : Nat} : GN (gput o a b) := fun _ _ _ h => by cases h
theorem GN.skip : GN gskip := fun _ _ _ h => by cases h
theorem GN.con {j : Nat} : GN (gcon j) := fun _ _ _ h => by cases h
theorem GN.err {x : Int32} (hx : x < 0) : GN (gerr x) := fun _ _ e h => by
  have : x = e := Except.error.inj h
  rw [← this]; exact hx
theorem GN.seq {g h : GG} (hg : GN g) (hh : GN h) : GN (gseq g h) := fun pc nc e he => by
  unfold gseq at he
  cases e1 : g pc nc with
  | error x => rw [e1] at he; exact (Except.error.inj he) ▸ hg pc nc x e1
  | ok r =>
    rw [e1] at he
    simp only at he
    cases e2 : h (pc + r.1.length) (nc + r.2.length) with
    | error x => rw [e2] at he; exact (Except.error.inj he) ▸ hh _ _ x e2
    | ok s => rw [e2] at he; cases he
theorem GN.fn {g : GG} (hg : GN g) : GN (gfn g) := fun pc nc e he => by
  unfold gfn at he
  cases e1 : g (pc + 1) nc with
  | error x => rw [e1] at he; exact (Except.error.inj he) ▸ hg _ _ x e1
  | ok r => rw [e1] at he; cases he
theorem GN.sel {g h : GG} (hg : GN g) (hh : GN h) : GN (gsel g h) := fun pc nc e he => by
  unfold gsel at he
  cases e1 : g (pc + 1) nc with
  | error x => rw [e1] at he; exact (Except.error.inj he) ▸ hg _ _ x e1
  | ok r =>
    rw [e1] at he
    simp only at he
    cases e2 : h (pc + r.1.length + 2) (nc + r.2.length) with
    | error x => rw [e2] at he; exact (Except.error.inj he) ▸ hh _ _ x e2
    | ok s => rw [e2] at he; cases he
theorem GN.down {c : Nat → GG} {l : List Nat} (hc : ∀ j, GN (c j)) : ∀ k, GN (gdown c l k)
  | 0 => GN.skip
  | k + 1 => GN.seq (hc _) (GN.seq GN.put (GN.down hc k))
theorem GN.args {c : Nat → GG} {l : List Nat} (hc : ∀ j, GN (c j)) : GN (gargs c l) := GN.seq GN.put (GN.down hc _)
theorem GN.form {kids : Nat → List Nat} {c : List (List Nat) → Nat → GG} (hc : ∀ fs j, GN (c fs j)) (fs : List (List Nat)) (i : Nat) (t : List Nat) : GN (cform kids c fs i t) := by
  unfold cform
  split
  · exact GN.seq (hc _ _) GN.put
  split
  · exact GN.seq (hc _ _) (GN.seq (hc _ _) GN.put)
  split
  · exact GN.seq (hc _ _) (GN.seq (hc _ _) GN.put)
  split
  · exact GN.con
  split
  · exact GN.seq (hc _ _) (GN.sel (hc _ _) (hc _ _))
  split
  · exact GN.fn (hc _ _)
  split
  · exact GN.seq (GN.args (fun j => hc _ _)) (GN.seq (GN.fn (hc _ _)) GN.put)
  · exact GN.seq GN.put (GN.seq (GN.args (fun j => hc _ _)) (GN.seq (GN.fn (hc _ _)) GN.put))
theorem GN.cmp {K V : Nat → Int32} {kids : Nat → List Nat} : ∀ d fs j, GN (comp K V kids d fs j)
  | 0, _, _ => GN.err (by decide)
  | d + 1, fs, j => by
    unfold comp
    split
    · exact GN.con
    split
    · split
      · exact GN.put
      · exact GN.err (by decide)
    · split
      · exact GN.err (by decide)
      · split
        · exact GN.seq (GN.args (fun j => GN.cmp d fs j)) (GN.seq (GN.cmp d fs _) GN.put)
        · split
          · exact GN.form (fun fs j => GN.cmp d fs j) _ _ _
          · exact GN.err (by decide)
theorem GN.prog {K V : Nat → Int32} {kids : Nat → List Nat} : GN (gprog K V kids) := GN.seq (GN.cmp _ _ _) (GN.seq GN.put GN.put)
/-- the program that both hold: none, or one whose lines and constants are those of a tree; bk is the reference's bank -/
def PRG (bk : Nat) (psz plc : Int32) (pco : Nat → Int32) (pcnt : Int32) (pF pK pV pwo : Nat → Int32) (pr : Int32) (S W C N fi fx li op x1 x2 : Nat → Int32) : Prop :=
  (psz = 0 ∧ pr = 0) ∨ (pr = 1 ∧ ∃ (m q : Nat) (K V : Nat → Int32) (kids : Nat → List Nat) (w dp : Nat → Nat) (r : List (Nat × Nat × Nat) × List Nat), 0 < m ∧ q ≤ 200 ∧ (TREE (200 * bk) m q pK pV pF S W C N kids w dp ∧ ∃ en, CTI m pK kids en) ∧ (∀ k, k < m → K k = pK k ∧ V k = pV k) ∧ pcnt = nI m ∧ gprog K V kids 0 0 = .ok r ∧ r.1.length ≤ 401 ∧ r.2.length ≤ 200 ∧ psz = nI r.1.length ∧ plc = nI r.2.length ∧ WL pwo 0 r.1 ∧ CL pco 0 r.2 ∧ li bk = nI r.1.length ∧ fx bk = nI r.2.length ∧ ML op x1 x2 (512 * bk) r.1 ∧ MC (200 * bk) fi (256 * bk) r.2)
theorem PRG.keep {bk : Nat} {psz plc : Int32} {pco : Nat → Int32} {pcnt : Int32} {pF pK pV pwo : Nat → Int32} {pr : Int32} {S W C N fi fx li op x1 x2 S' W' C' N' fi' fx' li' op' x1' x2' : Nat → Int32} (hbk : bk < 2) (h : PRG bk psz plc pco pcnt pF pK pV pwo pr S W C N fi fx li op x1 x2) (ho : OUTS (200 * (1 - bk)) S W C N S' W' C' N') (hk : KEPT (1 - bk) fi fx li op x1 x2 fi' fx' li' op' x1' x2') : PRG bk psz plc pco pcnt pF pK pV pwo pr S' W' C' N' fi' fx' li' op' x1' x2' := by
  rcases h with h | ⟨h0, m, q, K, V, kids, w, dp, r, h1, h2, h3, h4, h5, h6, h7, h8, h9, h10, h11, h12, h13, h14, h15, h16⟩
  · exact Or.inl h
  · have hm := h3.1.1
    refine Or.inr ⟨h0, m, q, K, V, kids, w, dp, r, h1, h2, ⟨h3.1.to (fun _ _ => ⟨rfl, rfl, rfl⟩) (fun k hk => ho (200 * bk + k) ?_), h3.2⟩, h4, h5, h6, h7, h8, h9, h10, h11, h12, by rw [(hk.1 bk (by omega)).1]; exact h13, by rw [(hk.1 bk (by omega)).2]; exact h14, h15.to (fun k k1 k2 => hk.2.1 k ?_), h16.to (fun k k1 k2 => hk.2.2 k ?_)⟩
    · rcases (show bk = 0 ∨ bk = 1 by omega) with rfl | rfl
      · left; omega
      · right; omega
    · rcases (show bk = 0 ∨ bk = 1 by omega) with rfl | rfl
      · left; omega
      · right; omega
    · rcases (show bk = 0 ∨ bk = 1 by omega) with rfl | rfl
      · left; omega
      · right; omega
/-! compile, both -/
theorem bank_to {bk : Nat} (h : bk < 2) : (1 : Int32) - nI bk = nI (1 - bk) ∧ (200 : Int32) * ((1 : Int32) - nI bk) = nI (200 * (1 - bk)) := by
  rcases (show bk = 0 ∨ bk = 1 by omega) with rfl | rfl
  · exact ⟨by decide, by decide⟩
  · exact ⟨by decide, by decide⟩
theorem compile_both {n bk : Nat} {dsz dlc dcnt doc mst psz plc pcnt tfc ter pr nd ts fr st : Int32} {dco dF dK dP dO dV dwo pco pF pK pV pwo ct tfn tfr ab ar C fi fx fo R li nm N op Q pd S mt W wh wi x1 x2 : Nat → Int32}
    {PM : Int32 → Int32 → Int32 → Int32 → (Nat → Int32) → Int32 → Int32 → (Nat → Int32) → (Nat → Int32) → (Nat → Int32) → (Nat → Int32) → (Nat → Int32) → (Nat → Int32) → Int32 → Int32 → Int32 → (Nat → Int32) → Int32 → (Nat → Int32) → (Nat → Int32) → (Nat → Int32) → (Nat → Int32) → Int32 → Int32 → (Nat → Int32) → Int32 → Int32 → Int32 → Int32 → Int32 → Int32 → Int32 → Int32 → (Nat → Int32) → (Nat → Int32) → (Nat → Int32) → (Nat → Int32) → (Nat → Int32) → (Nat → Int32) → (Nat → Int32) → (Nat → Int32) → (Nat → Int32) → (Nat → Int32) → (Nat → Int32) → (Nat → Int32) → (Nat → Int32) → (Nat → Int32) → (Nat → Int32) → (Nat → Int32) → (Nat → Int32) → (Nat → Int32) → Prop}
    (hn : n ≤ 200) (hbk : bk < 2) (het : ∀ k, k < n → ct k = mt k) (hfn : tfn = fun x => formC.getD x 0) (hfo : ∀ x, x < 16 → fo x = formM.getD x 0) (hP : PRG bk psz plc pco pcnt pF pK pV pwo pr S W C N fi fx li op x1 x2)
    (hJ : ∀ (r dsz' dlc' dcnt' doc' mst' psz' plc' pcnt' tfc' ter' pr' nd' ts' fr' st' : Int32) (n' bk' : Nat) (dco' dF' dK' dP' dO' dV' dwo' pco' pF' pK' pV' pwo' tfr' ab' ar' C' fi' fx' R' li' nm' N' op' Q' pd' S' W' wh' wi' x1' x2' : Nat → Int32), n' ≤ n → bk' < 2 → PRG bk' psz' plc' pco' pcnt' pF' pK' pV' pwo' pr' S' W' C' N' fi' fx' li' op' x1' x2' →
      ((mst' = mst ∧ st' = st ∧ psz' = psz ∧ plc' = plc ∧ pco' = pco ∧ pcnt' = pcnt ∧ pF' = pF ∧ pK' = pK ∧ pV' = pV ∧ pwo' = pwo ∧ pr' = pr ∧ bk' = bk ∧ KEPT (1 - bk) fi fx li op x1 x2 fi' fx' li' op' x1' x2') ∨ (mst' = 0 ∧ st' = 0)) →
      PM r (nI n') dsz' dlc' dco' dcnt' doc' dF' dK' dP' dO' dV' dwo' mst' psz' plc' pco' pcnt' pF' pK' pV' pwo' tfc' ter' tfr' r (nI n') (nI bk') pr' nd' ts' fr' st' ab' ar' C' fi' fx' R' li' nm' N' op' Q' pd' S' W' wh' wi' x1' x2') :
    wp_Secd_compile (nI n) dsz dlc dco dcnt doc dF dK dP dO dV dwo mst psz plc pco pcnt pF pK pV pwo ct tfc ter tfn tfr (fun a1 a2 a3 a4 a5 a6 a7 a8 a9 a10 a11 a12 a13 a14 a15 a16 a17 a18 a19 a20 a21 a22 a23 a24 a25 => wp_Model_compile (nI n) (nI bk) pr nd ts fr st ab ar C fi fx fo R li nm N op Q pd S mt W wh wi x1 x2 (PM a1 a2 a3 a4 a5 a6 a7 a8 a9 a10 a11 a12 a13 a14 a15 a16 a17 a18 a19 a20 a21 a22 a23 a24 a25)) := by
  subst hfn
  obtain ⟨hb1, hb2⟩ := bank_to hbk
  unfold wp_Secd_compile wp_Model_compile
  rcases read_both (ct := ct) (mt := mt) (bank := nI bk) hn (b := 200 * (1 - bk)) (by omega) hb2 het dcnt doc nd dK dV dF dO dP S W C N Q R with ⟨m, K', V', F', O', P', S', W', C', N', Q', R', hm0, hRX, ho, gc, gm⟩ | ⟨c1, c2, e1, K', V', F', O', P', S', W', C', N', Q', R', ho, gc, gm⟩
  · obtain ⟨kids, w, dp, hT⟩ := tree_of hRX
    obtain ⟨en, hen⟩ := cont_of hRX hm0 hT
    have hw : w 0 ≤ 200 := by have := (hT.2 0 hm0).2.1; omega
    refine gc _ ⟨fun z => absurd z (by decide), fun _ => ?_⟩
    refine trans_class hT.tc hm0 hw (fun er' fr' pc nc co' wo' p1 p2 hO => ?_)
    cases hg : gprog K' V' kids 0 0 with
    | error e =>
      have he : e < 0 := GN.prog 0 0 e hg
      have hne : ¬ e = 0 := fun z => by rw [z] at he; exact absurd he (by decide)
      have hnl : ¬ 0 ≤ e := fun z => absurd (Int32.lt_of_le_of_lt z he) (by decide)
      unfold OUT at hO
      rw [hg] at hO
      simp only at hO
      subst hO
      refine ⟨fun z => absurd z hne, fun _ => gm _ ⟨fun z => absurd z (by decide), fun _ => ?_⟩⟩
      refine trans_model hT (by omega) rfl hb1 (by omega) hfo hm0 hn (fun r ts fr ab ar fi' fx' li' nm op' pd wh wi x1' x2' z => by rw [hg] at z; cases z) (fun e2 ts fr ab ar fi' fx' li' nm op' pd wh wi x1' x2' z hk => ?_)
      rw [hg] at z
      have z2 := Except.error.inj z
      subst z2
      refine ⟨fun z => absurd z hnl, fun _ => hJ _ _ _ _ _ _ _ _ _ _ _ _ _ _ _ _ n bk _ _ _ _ _ _ _ _ _ _ _ _ _ _ _ _ _ _ _ _ _ _ _ _ _ _ _ _ _ _ _ (Nat.le_refl _) hbk (hP.keep hbk ho hk) (Or.inl ⟨rfl, rfl, rfl, rfl, rfl, rfl, rfl, rfl, rfl, rfl, rfl, rfl, hk⟩)⟩
    | ok r =>
      have gb := prog_bound hT.tc hm0 hw 0 0
      unfold OUT at hO
      rw [hg] at hO gb
      simp only at hO gb
      obtain ⟨o1, o2, o3, o4, o5, o6, o7⟩ := hO
      rw [Nat.zero_add] at o2 o3
      subst o1 o2 o3
      have hm200 := hT.1
      have z0 : ¬ (0 : Int32) < 0 := by decide
      have c0 : (0 : Int32).toNatClampNeg = 0 := by decide
      refine ⟨fun _ => ?_, fun z => absurd rfl z⟩
      unfold wp_Program_copyFrom wp_Datum_copyFrom wp_Machine_dropRun
      rw [c0, nI_clamp (n := m) (by omega), nI_clamp (n := r.1.length) (by omega), nI_1, nI_clamp (n := r.2.length + 1) (by omega)]
      have pm : ¬ nI m < 0 := nI_pos (by omega)
      have ps : ¬ nI r.1.length < 0 := nI_pos (by omega)
      have pl : ¬ nI (r.2.length + 1) < 0 := nI_pos (by omega)
      refine ⟨z0, z0, pm, by omega, by omega, z0, z0, pm, by omega, by omega, z0, z0, pm, by omega, by omega, z0, z0, ps, by omega, by omega, z0, z0, pl, by omega, by omega, ?_⟩
      refine gm _ ⟨fun z => absurd z (by decide), fun _ => ?_⟩
      refine trans_model hT (by omega) rfl hb1 (by omega) hfo hm0 hn (fun r2 ts fr ab ar fi' fx' li' nm op' pd wh wi x1' x2' z hk => ?_) (fun e2 ts fr ab ar fi' fx' li' nm op' pd wh wi x1' x2' z hk => by rw [hg] at z; cases z)
      rw [hg] at z
      have z2 := Except.ok.inj z
      subst z2
      obtain ⟨k1, k2, k3, k4, k5, k6, k7⟩ := hk
      rw [Nat.zero_add] at k1 k2
      rw [hb1, nI_clamp (n := 1 - bk) (by omega), k1]
      refine ⟨fun _ => ⟨vp_in_nI (by omega) (by decide), ?_⟩, fun z => absurd (by decide) z⟩
      refine hJ _ _ _ _ _ _ _ _ _ _ _ _ _ _ _ _ 0 (1 - bk) _ _ _ _ _ _ _ _ _ _ _ _ _ _ _ _ _ _ _ _ _ _ _ _ _ _ _ _ _ _ _ (by omega) (by omega) (Or.inr ⟨rfl, m, n, K', V', kids, w, dp, r, hm0, hn, ⟨hT.to (fun k hk => ⟨va_cpy_lt hk, va_cpy_lt hk, va_cpy_lt hk⟩) (fun _ _ => ⟨rfl, rfl, rfl, rfl⟩), en, hen.to (fun k hk => va_cpy_lt hk)⟩, fun k hk => ⟨(va_cpy_lt hk).symm, (va_cpy_lt hk).symm⟩, rfl, hg, gb.1, gb.2, rfl, rfl, o5.to (fun k hk hk2 => va_cpy_lt (by omega)), o7.to (fun k hk hk2 => va_cpy_lt (by omega)), k1, k2, k6, k7⟩) (Or.inr ⟨rfl, rfl⟩)
  · refine gc _ ⟨fun _ => gm _ ⟨fun _ => ?_, fun z => absurd rfl z⟩, fun z => absurd rfl z⟩
    exact hJ _ _ _ _ _ _ _ _ _ _ _ _ _ _ _ _ n bk _ _ _ _ _ _ _ _ _ _ _ _ _ _ _ _ _ _ _ _ _ _ _ _ _ _ _ _ _ _ _ (Nat.le_refl _) hbk (hP.keep hbk ho KEPT.refl) (Or.inl ⟨rfl, rfl, rfl, rfl, rfl, rfl, rfl, rfl, rfl, rfl, rfl, rfl, KEPT.refl⟩)
theorem code_both {bk : Nat} {psz plc pcnt pr x : Int32} {pco pF pK pV pwo S W C N fi fx li op x1 x2 : Nat → Int32} {PM : Int32 → Int32 → Prop} (hbk : bk < 2) (hP : PRG bk psz plc pco pcnt pF pK pV pwo pr S W C N fi fx li op x1 x2) (hJ : ∀ r, PM r r) : wp_Secd_code psz pwo x (fun r => wp_Model_code (nI bk) pr li op x1 x2 x (PM r)) := by
  unfold wp_Secd_code wp_Program_wordAt wp_Model_code
  have vb : vp_in (nI bk) 2 := vp_in_nI hbk (by decide)
  have eb : (nI bk).toNatClampNeg = bk := nI_clamp (by omega)
  rw [eb]
  rcases hP with ⟨h1, h2⟩ | ⟨h0, m, q, K, V, kids, w, dp, r, h1, h2, h3, h4, h5, h6, h7, h8, h9, h10, h11, h12, h13, h14, h15, h16⟩
  · rw [h1, h2]
    exact ⟨fun _ => ⟨fun _ => hJ _, fun z => absurd rfl z⟩, fun c => ⟨fun _ => ⟨fun _ => hJ _, fun z => absurd rfl z⟩, fun c2 => absurd (Int32.not_lt.mp c) c2⟩⟩
  · rw [h0, h9, h13]
    refine ⟨fun c => ⟨fun z => absurd z (by decide), fun _ => ⟨fun _ => hJ _, fun z => absurd c z⟩⟩, fun c => ?_⟩
    obtain ⟨k, hk, rfl⟩ := nI_of c
    refine ⟨fun c2 => ⟨fun z => absurd z (by decide), fun _ => ⟨fun z => absurd z c, fun _ => ⟨vb, fun c3 => absurd (Int32.lt_of_le_of_lt c2 c3) (fun z => Int32.lt_irrefl z), fun _ => hJ _⟩⟩⟩, fun c2 => ?_⟩
    have hlt : k < r.1.length := by
      rcases Nat.lt_or_ge k r.1.length with z | z
      · exact z
      · exact absurd (nI_le z (by omega)) c2
    refine ⟨vp_in_nI (by omega) (by decide), fun z => absurd z (by decide), fun _ => ⟨fun z => absurd z c, fun _ => ⟨vb, fun _ => ?_, fun c3 => absurd (nI_lt hlt (by omega)) c3⟩⟩⟩
    have ea : (512 : Int32) * nI bk + nI k = nI (512 * bk + k) := by
      rw [show (512 : Int32) * nI bk = nI (512 * bk) from pk_mul 512 _, nI_add]
    rw [ea, nI_clamp (n := k) (by omega), nI_clamp (n := 512 * bk + k) (by omega)]
    have ve : vp_in (nI (512 * bk + k)) 1024 := vp_in_nI (by omega) (by decide)
    obtain ⟨l1, l2, l3⟩ := h15.at hlt
    have l4 := h11.at hlt
    rw [Nat.zero_add] at l4
    rw [l1, l2, l3, l4, wd_eq]
    exact ⟨ve, ve, ve, hJ _⟩
