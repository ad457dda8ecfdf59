theorem d_Arrays_copyOf_0 : decode b_Arrays_copyOf 0 = .ok (.iload_n 1, 1) := by decide +kernel
theorem d_Arrays_copyOf_1 : decode b_Arrays_copyOf 1 = .ok (.aload_n 0, 1) := by decide +kernel
theorem d_Arrays_copyOf_2 : decode b_Arrays_copyOf 2 = .ok (.arraylength, 1) := by decide +kernel
theorem d_Arrays_copyOf_3 : decode b_Arrays_copyOf 3 = .ok (.if_icmp .ne 11, 3) := by decide +kernel
theorem d_Arrays_copyOf_6 : decode b_Arrays_copyOf 6 = .ok (.aload_n 0, 1) := by decide +kernel
theorem d_Arrays_copyOf_7 : decode b_Arrays_copyOf 7 = .ok (.invokevirtual 310, 3) := by decide +kernel
theorem d_Arrays_copyOf_10 : decode b_Arrays_copyOf 10 = .ok (.checkcast 311, 3) := by decide +kernel
theorem d_Arrays_copyOf_13 : decode b_Arrays_copyOf 13 = .ok (.areturn, 1) := by decide +kernel
theorem d_Arrays_copyOf_14 : decode b_Arrays_copyOf 14 = .ok (.iload_n 1, 1) := by decide +kernel
theorem d_Arrays_copyOf_15 : decode b_Arrays_copyOf 15 = .ok (.newarray .byte, 2) := by decide +kernel
theorem d_Arrays_copyOf_17 : decode b_Arrays_copyOf 17 = .ok (.astore_n 2, 1) := by decide +kernel
theorem d_Arrays_copyOf_18 : decode b_Arrays_copyOf 18 = .ok (.aload_n 0, 1) := by decide +kernel
theorem d_Arrays_copyOf_19 : decode b_Arrays_copyOf 19 = .ok (.iconst 0, 1) := by decide +kernel
theorem d_Arrays_copyOf_20 : decode b_Arrays_copyOf 20 = .ok (.aload_n 2, 1) := by decide +kernel
theorem d_Arrays_copyOf_21 : decode b_Arrays_copyOf 21 = .ok (.iconst 0, 1) := by decide +kernel
theorem d_Arrays_copyOf_22 : decode b_Arrays_copyOf 22 = .ok (.aload_n 0, 1) := by decide +kernel
theorem d_Arrays_copyOf_23 : decode b_Arrays_copyOf 23 = .ok (.arraylength, 1) := by decide +kernel
theorem d_Arrays_copyOf_24 : decode b_Arrays_copyOf 24 = .ok (.iload_n 1, 1) := by decide +kernel
theorem d_Arrays_copyOf_25 : decode b_Arrays_copyOf 25 = .ok (.invokestatic 304, 3) := by decide +kernel
theorem d_Arrays_copyOf_28 : decode b_Arrays_copyOf 28 = .ok (.invokestatic 150, 3) := by decide +kernel
theorem d_Arrays_copyOf_31 : decode b_Arrays_copyOf 31 = .ok (.aload_n 2, 1) := by decide +kernel
theorem d_Arrays_copyOf_32 : decode b_Arrays_copyOf 32 = .ok (.areturn, 1) := by decide +kernel
set_option maxHeartbeats 8000000 in
set_option maxRecDepth 100000 in
theorem c_Arrays_copyOf (l : Launch) (dC : Nat → ClassId) (dI : Nat → Nat → Nat) (h_p0 : Nat) (c_p0 : ClassId) (sz : Nat) (n_p0 : Nat) (f_p0 : Nat → Int32) (x1 : Int32) (post : (Nat → Int32) → Prop) (hw : wp_Arrays_copyOf n_p0 f_p0 x1 post) : Met l y_Arrays_copyOf (ws_ y_Arrays_copyOf b_Arrays_copyOf 3 (some (.array .byte))) { frames := 1, cells := 1, slots := 200, locals := 60 } (va_Pc [.ref h_p0, .int x1] (PRE (dC, dI) vwCl [(c_p0, .byte)] [ar_ h_p0 c_p0 n_p0 f_p0] sz (va_A [ar_ h_p0 c_p0 n_p0 f_p0] sz))) (va_Qr (fun (u : (Nat → Int32)) => post u) (fun (u : (Nat → Int32)) (h_n15 : Nat) (t : State) => (∃ (c_n15 : ClassId), va_P (dC, dI) vwCl [ar_ h_p0 c_p0 n_p0 f_p0, ar_ h_n15 c_n15 x1.toNatClampNeg u] t.heap ∧ va_K (dC, dI) vwCl [(c_p0, .byte), (c_n15, .byte)] t ∧ va_D (va_A [ar_ h_p0 c_p0 n_p0 f_p0] sz) [ar_ h_p0 c_p0 n_p0 f_p0, ar_ h_n15 c_n15 x1.toNatClampNeg u])) (va_A [ar_ h_p0 c_p0 n_p0 f_p0] sz)) 1 200 (va_A [ar_ h_p0 c_p0 n_p0 f_p0] sz) := by
  refine Met.ofW (cc := b_Arrays_copyOf) (maxL := 3) (ret := (some (.array .byte))) (by decide) rfl ?_
  intro p e s m args below meth c s₁ B hml hv
  obtain ⟨rfl, hsz, hP, hK, hD0, hG⟩ := hv
  have hx := B.exec
  have hb := B.bytes
  have hr := B.returns
  have hts : ∀ w ∈ tb, w.before _ s = true := fun w h => atoms_spec (ws := ws_ _ _ _ _) B.pre w (List.mem_cons_of_mem _ h)
  have hown : s.vm.findClass R_Arrays = some m.cls := findClass_of_methodNamed B.named
  have hlocks := B.notSynchronized
  subst hsz
  have hD := hD0.self (sz := s.heap.size)
  generalize hAe : va_A [ar_ h_p0 c_p0 n_p0 f_p0] s.heap.size = A at hD hG ⊢
  have hA : ∀ q : Nat, s.heap.size ≤ q → A q := fun q h => by rw [← hAe]; exact Or.inr h
  have hS : va_S A s.heap s.heap [] := va_S.rf
  have hP : va_P (dC, dI) vwCl [ar_ h_p0 c_p0 n_p0 f_p0] s.heap := hP
  have hl := lv_entry [.ref h_p0, .int x1] (n := 3) (Nat.le_of_ble_eq_true rfl)
  rw [lg_entry_eq]
  generalize (lg_sl [.ref h_p0, .int x1] ++ List.replicate (3 - (lg_sl [.ref h_p0, .int x1]).length) Slot.unset).toArray = ls at hl ⊢
  have hl : lv_has ls 3 [(0, .ref h_p0), (1, .int x1)] := hl
  obtain ⟨Q, hQ⟩ : ∃ Q : State → Prop, Q = MQ below (va_Qr (fun (u : (Nat → Int32)) => post u) (fun (u : (Nat → Int32)) (h_n15 : Nat) (t : State) => (∃ (c_n15 : ClassId), va_P (dC, dI) vwCl [ar_ h_p0 c_p0 n_p0 f_p0, ar_ h_n15 c_n15 x1.toNatClampNeg u] t.heap ∧ va_K (dC, dI) vwCl [(c_p0, .byte), (c_n15, .byte)] t ∧ va_D A [ar_ h_p0 c_p0 n_p0 f_p0, ar_ h_n15 c_n15 x1.toNatClampNeg u])) A) ([.ref h_p0, .int x1] : List Value).toArray s 1 200 A := ⟨_, rfl⟩
  rw [← hQ]
  unfold wp_Arrays_copyOf at hw
  refine lv_iload_n hx hb d_Arrays_copyOf_0 rfl (lv_at hl 1 rfl) ?_
  refine lv_aload_n hx hb d_Arrays_copyOf_1 rfl (lv_at hl 0 rfl) ?_
  refine va_alen (v := Int32.ofNat n_p0) hx hb hK hP 0 0 rfl rfl rfl d_Arrays_copyOf_2 ?_
  refine lv_icmp_ne (tgt := 14) hx hb d_Arrays_copyOf_3 (by decide) (fun c_1 => ?_) (fun c_1 => ?_)
  · have hw := hw.2 c_1
    refine lv_iload_n hx hb d_Arrays_copyOf_14 rfl (lv_at hl 1 rfl) ?_
    obtain ⟨h_2, h_3, hw⟩ := hw
    refine va_newa (atype := .byte) (N' := x1.toNatClampNeg) (a0 := (x1.toNatClampNeg, .inl (fun _ => 0))) (ty := .byte) (n := x1) hx hb (hts _ kt_167) rfl hK hP hD hS hA (fun _ => rfl) h_2 rfl (Nat.le_trans (Nat.mul_le_mul_right _ h_3) (by decide)) (Nat.le_of_ble_eq_true rfl) (by show 0 + x1.toNatClampNeg ≤ 200; omega) d_Arrays_copyOf_15 (fun h_n15 c_n15 H hK hP hD hS => ?_)
    have hP : va_P (dC, dI) vwCl [ar_ h_p0 c_p0 n_p0 f_p0, ar_ h_n15 c_n15 x1.toNatClampNeg (fun _ => 0)] H := hP
    have hD : va_D A [ar_ h_p0 c_p0 n_p0 f_p0, ar_ h_n15 c_n15 x1.toNatClampNeg (fun _ => 0)] := hD
    have hK : va_K (dC, dI) vwCl [(c_p0, .byte), (c_n15, .byte)] s := hK
    refine W.widen (k := 1) (n := 200) (Nat.le_of_ble_eq_true rfl) (by omega) ?_
    refine lv_astore_n (lv' := [(2, .ref h_n15), (0, .ref h_p0), (1, .int x1)]) hx hb d_Arrays_copyOf_17 rfl hl (by decide) rfl (fun ls hl => ?_)
    refine lv_aload_n hx hb d_Arrays_copyOf_18 rfl (lv_at hl 1 rfl) ?_
    refine lv_iconst (v := 0) hx hb d_Arrays_copyOf_19 (by decide) ?_
    refine lv_aload_n hx hb d_Arrays_copyOf_20 rfl (lv_at hl 0 rfl) ?_
    refine lv_iconst (v := 0) hx hb d_Arrays_copyOf_21 (by decide) ?_
    refine lv_aload_n hx hb d_Arrays_copyOf_22 rfl (lv_at hl 1 rfl) ?_
    refine va_alen (v := Int32.ofNat n_p0) hx hb hK hP 0 0 rfl rfl rfl d_Arrays_copyOf_23 ?_
    refine lv_iload_n hx hb d_Arrays_copyOf_24 rfl (lv_at hl 2 rfl) ?_
    refine va_mmin hx hb (by rw [hml]; exact hl.1.symm) hown (hts _ kt_786) (hts _ kt_171) (hts _ kt_11) (hts _ kt_172) (Nat.le_of_ble_eq_true rfl) (Nat.le_of_ble_eq_true rfl) (Nat.le_of_ble_eq_true rfl) (Nat.le_of_ble_eq_true rfl) d_Arrays_copyOf_25 ?_
    obtain ⟨h_9, h_10, h_11, h_12, h_13, h_14, hw⟩ := hw
    refine va_copyi (ty := .byte) (sp := (0 : Int32)) (dp := (0 : Int32)) (n := (if x1 < (Int32.ofNat n_p0) then x1 else (Int32.ofNat n_p0))) (rest := []) hx hb (by rw [hml]; exact hl.1.symm) hown (hts _ kt_787) (hts _ kt_516) (hts _ kt_515) (hts _ kt_17) hK hP hD hS 0 1 0 1 rfl rfl rfl rfl (by decide) h_9 h_10 h_11 h_12 h_13 h_14 (Nat.le_of_ble_eq_true rfl) (Nat.le_of_ble_eq_true rfl) d_Arrays_copyOf_28 (fun H locs hP hD hS => ?_)
    have hP : va_P (dC, dI) vwCl [ar_ h_p0 c_p0 n_p0 f_p0, ar_ h_n15 c_n15 x1.toNatClampNeg (va_cpy f_p0 (fun _ => 0) (0 : Int32).toNatClampNeg (0 : Int32).toNatClampNeg (if x1 < (Int32.ofNat n_p0) then x1 else (Int32.ofNat n_p0)).toNatClampNeg)] H := hP
    have hD : va_D A [ar_ h_p0 c_p0 n_p0 f_p0, ar_ h_n15 c_n15 x1.toNatClampNeg (va_cpy f_p0 (fun _ => 0) (0 : Int32).toNatClampNeg (0 : Int32).toNatClampNeg (if x1 < (Int32.ofNat n_p0) then x1 else (Int32.ofNat n_p0)).toNatClampNeg)] := hD
    refine lv_aload_n hx hb d_Arrays_copyOf_31 rfl (lv_at hl 0 rfl) ?_
    have hP9 : va_P (dC, dI) vwCl [ar_ h_p0 c_p0 n_p0 f_p0, ar_ h_n15 c_n15 x1.toNatClampNeg (va_cpy f_p0 (fun _ => 0) (0 : Int32).toNatClampNeg (0 : Int32).toNatClampNeg (if x1 < (Int32.ofNat n_p0) then x1 else (Int32.ofNat n_p0)).toNatClampNeg)] _ := hP.sub [0, 1] rfl
    have hD9 : va_D A [ar_ h_p0 c_p0 n_p0 f_p0, ar_ h_n15 c_n15 x1.toNatClampNeg (va_cpy f_p0 (fun _ => 0) (0 : Int32).toNatClampNeg (0 : Int32).toNatClampNeg (if x1 < (Int32.ofNat n_p0) then x1 else (Int32.ofNat n_p0)).toNatClampNeg)] := hD.sub [0, 1] (by decide) rfl
    have hK9 : va_K (dC, dI) vwCl [(c_p0, .byte), (c_n15, .byte)] s := hK.sub [0, 1] rfl
    refine W.widen (k := 1) (n := 200) (Nat.le_of_ble_eq_true rfl) (Nat.le_of_ble_eq_true rfl) ?_
    rw [hQ]
    exact W.aret (v := .ref h_n15) hx hb hr (Or.inr ⟨_, rfl⟩) (Or.inr ⟨_, rfl⟩) (fun t ht hW => ⟨⟨(va_cpy f_p0 (fun _ => 0) (0 : Int32).toNatClampNeg (0 : Int32).toNatClampNeg (if x1 < (Int32.ofNat n_p0) then x1 else (Int32.ofNat n_p0)).toNatClampNeg), h_n15, rfl, hw, c_n15, by rw [ht]; exact hP9, va_K.moved hW.alike hK9, hD9⟩, hS.F ht⟩) hS.2.2 d_Arrays_copyOf_32
  · have hw := hw.1 c_1
    refine lv_aload_n hx hb d_Arrays_copyOf_6 rfl (lv_at hl 0 rfl) ?_
    exact False.elim hw
