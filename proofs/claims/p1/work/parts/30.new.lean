theorem d_Datum_new_0 : decode b_Datum_new 0 = .ok (.aload_n 0, 1) := by decide +kernel
theorem d_Datum_new_1 : decode b_Datum_new 1 = .ok (.invokespecial 3, 3) := by decide +kernel
theorem d_Datum_new_4 : decode b_Datum_new 4 = .ok (.aload_n 0, 1) := by decide +kernel
theorem d_Datum_new_5 : decode b_Datum_new 5 = .ok (.sipush 200, 3) := by decide +kernel
theorem d_Datum_new_8 : decode b_Datum_new 8 = .ok (.newarray .int, 2) := by decide +kernel
theorem d_Datum_new_10 : decode b_Datum_new 10 = .ok (.putfield 9, 3) := by decide +kernel
theorem d_Datum_new_13 : decode b_Datum_new 13 = .ok (.aload_n 0, 1) := by decide +kernel
theorem d_Datum_new_14 : decode b_Datum_new 14 = .ok (.sipush 200, 3) := by decide +kernel
theorem d_Datum_new_17 : decode b_Datum_new 17 = .ok (.newarray .int, 2) := by decide +kernel
theorem d_Datum_new_19 : decode b_Datum_new 19 = .ok (.putfield 15, 3) := by decide +kernel
theorem d_Datum_new_22 : decode b_Datum_new 22 = .ok (.aload_n 0, 1) := by decide +kernel
theorem d_Datum_new_23 : decode b_Datum_new 23 = .ok (.sipush 200, 3) := by decide +kernel
theorem d_Datum_new_26 : decode b_Datum_new 26 = .ok (.newarray .int, 2) := by decide +kernel
theorem d_Datum_new_28 : decode b_Datum_new 28 = .ok (.putfield 18, 3) := by decide +kernel
theorem d_Datum_new_31 : decode b_Datum_new 31 = .ok (.aload_n 0, 1) := by decide +kernel
theorem d_Datum_new_32 : decode b_Datum_new 32 = .ok (.iconst 0, 1) := by decide +kernel
theorem d_Datum_new_33 : decode b_Datum_new 33 = .ok (.putfield 21, 3) := by decide +kernel
theorem d_Datum_new_36 : decode b_Datum_new 36 = .ok (.aload_n 0, 1) := by decide +kernel
theorem d_Datum_new_37 : decode b_Datum_new 37 = .ok (.bipush 12, 2) := by decide +kernel
theorem d_Datum_new_39 : decode b_Datum_new 39 = .ok (.newarray .int, 2) := by decide +kernel
theorem d_Datum_new_41 : decode b_Datum_new 41 = .ok (.putfield 25, 3) := by decide +kernel
theorem d_Datum_new_44 : decode b_Datum_new 44 = .ok (.aload_n 0, 1) := by decide +kernel
theorem d_Datum_new_45 : decode b_Datum_new 45 = .ok (.bipush 12, 2) := by decide +kernel
theorem d_Datum_new_47 : decode b_Datum_new 47 = .ok (.newarray .int, 2) := by decide +kernel
theorem d_Datum_new_49 : decode b_Datum_new 49 = .ok (.putfield 28, 3) := by decide +kernel
theorem d_Datum_new_52 : decode b_Datum_new 52 = .ok (.aload_n 0, 1) := by decide +kernel
theorem d_Datum_new_53 : decode b_Datum_new 53 = .ok (.iconst 0, 1) := by decide +kernel
theorem d_Datum_new_54 : decode b_Datum_new 54 = .ok (.putfield 31, 3) := by decide +kernel
theorem d_Datum_new_57 : decode b_Datum_new 57 = .ok (.return_, 1) := by decide +kernel
theorem d_Program_new_0 : decode b_Program_new 0 = .ok (.aload_n 0, 1) := by decide +kernel
theorem d_Program_new_1 : decode b_Program_new 1 = .ok (.invokespecial 3, 3) := by decide +kernel
theorem d_Program_new_4 : decode b_Program_new 4 = .ok (.aload_n 0, 1) := by decide +kernel
theorem d_Program_new_5 : decode b_Program_new 5 = .ok (.new 9, 3) := by decide +kernel
theorem d_Program_new_8 : decode b_Program_new 8 = .ok (.dup, 1) := by decide +kernel
theorem d_Program_new_9 : decode b_Program_new 9 = .ok (.invokespecial 11, 3) := by decide +kernel
theorem d_Program_new_12 : decode b_Program_new 12 = .ok (.putfield 12, 3) := by decide +kernel
theorem d_Program_new_15 : decode b_Program_new 15 = .ok (.aload_n 0, 1) := by decide +kernel
theorem d_Program_new_16 : decode b_Program_new 16 = .ok (.sipush 512, 3) := by decide +kernel
theorem d_Program_new_19 : decode b_Program_new 19 = .ok (.newarray .int, 2) := by decide +kernel
theorem d_Program_new_21 : decode b_Program_new 21 = .ok (.putfield 18, 3) := by decide +kernel
theorem d_Program_new_24 : decode b_Program_new 24 = .ok (.aload_n 0, 1) := by decide +kernel
theorem d_Program_new_25 : decode b_Program_new 25 = .ok (.iconst 0, 1) := by decide +kernel
theorem d_Program_new_26 : decode b_Program_new 26 = .ok (.putfield 22, 3) := by decide +kernel
theorem d_Program_new_29 : decode b_Program_new 29 = .ok (.aload_n 0, 1) := by decide +kernel
theorem d_Program_new_30 : decode b_Program_new 30 = .ok (.sipush 201, 3) := by decide +kernel
theorem d_Program_new_33 : decode b_Program_new 33 = .ok (.newarray .int, 2) := by decide +kernel
theorem d_Program_new_35 : decode b_Program_new 35 = .ok (.putfield 26, 3) := by decide +kernel
theorem d_Program_new_38 : decode b_Program_new 38 = .ok (.aload_n 0, 1) := by decide +kernel
theorem d_Program_new_39 : decode b_Program_new 39 = .ok (.iconst 0, 1) := by decide +kernel
theorem d_Program_new_40 : decode b_Program_new 40 = .ok (.putfield 29, 3) := by decide +kernel
theorem d_Program_new_43 : decode b_Program_new 43 = .ok (.return_, 1) := by decide +kernel
theorem d_Memory_new_0 : decode b_Memory_new 0 = .ok (.aload_n 0, 1) := by decide +kernel
theorem d_Memory_new_1 : decode b_Memory_new 1 = .ok (.invokespecial 3, 3) := by decide +kernel
theorem d_Memory_new_4 : decode b_Memory_new 4 = .ok (.aload_n 0, 1) := by decide +kernel
theorem d_Memory_new_5 : decode b_Memory_new 5 = .ok (.iload_n 1, 1) := by decide +kernel
theorem d_Memory_new_6 : decode b_Memory_new 6 = .ok (.putfield 9, 3) := by decide +kernel
theorem d_Memory_new_9 : decode b_Memory_new 9 = .ok (.aload_n 0, 1) := by decide +kernel
theorem d_Memory_new_10 : decode b_Memory_new 10 = .ok (.iload_n 1, 1) := by decide +kernel
theorem d_Memory_new_11 : decode b_Memory_new 11 = .ok (.newarray .int, 2) := by decide +kernel
theorem d_Memory_new_13 : decode b_Memory_new 13 = .ok (.putfield 15, 3) := by decide +kernel
theorem d_Memory_new_16 : decode b_Memory_new 16 = .ok (.aload_n 0, 1) := by decide +kernel
theorem d_Memory_new_17 : decode b_Memory_new 17 = .ok (.iload_n 1, 1) := by decide +kernel
theorem d_Memory_new_18 : decode b_Memory_new 18 = .ok (.newarray .int, 2) := by decide +kernel
theorem d_Memory_new_20 : decode b_Memory_new 20 = .ok (.putfield 19, 3) := by decide +kernel
theorem d_Memory_new_23 : decode b_Memory_new 23 = .ok (.aload_n 0, 1) := by decide +kernel
theorem d_Memory_new_24 : decode b_Memory_new 24 = .ok (.iload_n 1, 1) := by decide +kernel
theorem d_Memory_new_25 : decode b_Memory_new 25 = .ok (.newarray .int, 2) := by decide +kernel
theorem d_Memory_new_27 : decode b_Memory_new 27 = .ok (.putfield 22, 3) := by decide +kernel
theorem d_Memory_new_30 : decode b_Memory_new 30 = .ok (.aload_n 0, 1) := by decide +kernel
theorem d_Memory_new_31 : decode b_Memory_new 31 = .ok (.iload_n 1, 1) := by decide +kernel
theorem d_Memory_new_32 : decode b_Memory_new 32 = .ok (.newarray .int, 2) := by decide +kernel
theorem d_Memory_new_34 : decode b_Memory_new 34 = .ok (.putfield 25, 3) := by decide +kernel
theorem d_Memory_new_37 : decode b_Memory_new 37 = .ok (.aload_n 0, 1) := by decide +kernel
theorem d_Memory_new_38 : decode b_Memory_new 38 = .ok (.iconst 0, 1) := by decide +kernel
theorem d_Memory_new_39 : decode b_Memory_new 39 = .ok (.putfield 28, 3) := by decide +kernel
theorem d_Memory_new_42 : decode b_Memory_new 42 = .ok (.aload_n 0, 1) := by decide +kernel
theorem d_Memory_new_43 : decode b_Memory_new 43 = .ok (.iload_n 1, 1) := by decide +kernel
theorem d_Memory_new_44 : decode b_Memory_new 44 = .ok (.newarray .boolean, 2) := by decide +kernel
theorem d_Memory_new_46 : decode b_Memory_new 46 = .ok (.putfield 31, 3) := by decide +kernel
theorem d_Memory_new_49 : decode b_Memory_new 49 = .ok (.aload_n 0, 1) := by decide +kernel
theorem d_Memory_new_50 : decode b_Memory_new 50 = .ok (.iload_n 1, 1) := by decide +kernel
theorem d_Memory_new_51 : decode b_Memory_new 51 = .ok (.newarray .int, 2) := by decide +kernel
theorem d_Memory_new_53 : decode b_Memory_new 53 = .ok (.putfield 35, 3) := by decide +kernel
theorem d_Memory_new_56 : decode b_Memory_new 56 = .ok (.aload_n 0, 1) := by decide +kernel
theorem d_Memory_new_57 : decode b_Memory_new 57 = .ok (.iconst 0, 1) := by decide +kernel
theorem d_Memory_new_58 : decode b_Memory_new 58 = .ok (.putfield 38, 3) := by decide +kernel
theorem d_Memory_new_61 : decode b_Memory_new 61 = .ok (.return_, 1) := by decide +kernel
set_option maxHeartbeats 8000000 in
set_option maxRecDepth 100000 in
theorem c_Datum_new (l : Launch) (dC : Nat → ClassId) (dI : Nat → Nat → Nat) (h_this : Nat)  (sz : Nat)    (post : Prop) (hw : wp_Datum_new    post) : Met l y_Datum_new (ws_ y_Datum_new b_Datum_new 1 none) { frames := 1, cells := 5, slots := 624, locals := 20 } (va_Pc [.ref h_this] (PRE (dC, dI) vwCl [] [(h_this, .inr (1, [.null, .null, .null, .int (0 : Int32), .null, .null, .int (0 : Int32)]))] sz (va_A [(h_this, .inr (1, [.null, .null, .null, .int (0 : Int32), .null, .null, .int (0 : Int32)]))] sz))) (va_Qv (fun (u : Unit) => post ) (fun (u : Unit) (t : State) => (∃ (h_n8 : Nat), (∃ (h_n17 : Nat), (∃ (h_n26 : Nat), (∃ (h_n39 : Nat), (∃ (h_n47 : Nat), (∃ (c_n8 : ClassId), (∃ (c_n17 : ClassId), (∃ (c_n26 : ClassId), (∃ (c_n39 : ClassId), (∃ (c_n47 : ClassId), va_P (dC, dI) vwCl [ob_Datum h_this h_n8 h_n17 h_n26 (0 : Int32) h_n39 h_n47 (0 : Int32), ar_ h_n8 c_n8 200 (fun _ => 0), ar_ h_n17 c_n17 200 (fun _ => 0), ar_ h_n26 c_n26 200 (fun _ => 0), ar_ h_n39 c_n39 12 (fun _ => 0), ar_ h_n47 c_n47 12 (fun _ => 0)] t.heap ∧ va_K (dC, dI) vwCl [(c_n8, .int), (c_n17, .int), (c_n26, .int), (c_n39, .int), (c_n47, .int)] t ∧ va_D (va_A [(h_this, .inr (1, [.null, .null, .null, .int (0 : Int32), .null, .null, .int (0 : Int32)]))] sz) [ob_Datum h_this h_n8 h_n17 h_n26 (0 : Int32) h_n39 h_n47 (0 : Int32), ar_ h_n8 c_n8 200 (fun _ => 0), ar_ h_n17 c_n17 200 (fun _ => 0), ar_ h_n26 c_n26 200 (fun _ => 0), ar_ h_n39 c_n39 12 (fun _ => 0), ar_ h_n47 c_n47 12 (fun _ => 0)]))))))))))) (va_A [(h_this, .inr (1, [.null, .null, .null, .int (0 : Int32), .null, .null, .int (0 : Int32)]))] sz)) 5 624 (va_A [(h_this, .inr (1, [.null, .null, .null, .int (0 : Int32), .null, .null, .int (0 : Int32)]))] sz) := by
  refine Met.ofW (cc := b_Datum_new) (maxL := 1) (ret := none) (by decide) rfl ?_
  intro p e s m args below meth c s₁ B hml hv
  obtain ⟨rfl, hsz, hP, hK, hD0, hG⟩ := hv
  have hx := B.exec
  have hb := B.bytes
  have hr := B.returns
  have hts : ∀ w ∈ tb, w.before _ s = true := fun w h => atoms_spec (ws := ws_ _ _ _ _) B.pre w (List.mem_cons_of_mem _ h)
  have hown : s.vm.findClass R_Datum = some m.cls := findClass_of_methodNamed B.named
  have hlocks := B.notSynchronized
  have hin : meth.name = "<init>" := (name_of_methodNamed B.named B.method).1
  subst hsz
  have hD := hD0.self (sz := s.heap.size)
  generalize hAe : va_A [(h_this, .inr (1, [.null, .null, .null, .int (0 : Int32), .null, .null, .int (0 : Int32)]))] s.heap.size = A at hD hG ⊢
  have hA : ∀ q : Nat, s.heap.size ≤ q → A q := fun q h => by rw [← hAe]; exact Or.inr h
  have hS : va_S A s.heap s.heap [] := va_S.rf
  have hP : va_P (dC, dI) vwCl [(h_this, .inr (1, [.null, .null, .null, .int (0 : Int32), .null, .null, .int (0 : Int32)]))] s.heap := hP
  have hl := lv_entry [.ref h_this] (n := 1) (Nat.le_of_ble_eq_true rfl)
  rw [lg_entry_eq]
  generalize (lg_sl [.ref h_this] ++ List.replicate (1 - (lg_sl [.ref h_this]).length) Slot.unset).toArray = ls at hl ⊢
  have hl : lv_has ls 1 [(0, .ref h_this)] := hl
  obtain ⟨Q, hQ⟩ : ∃ Q : State → Prop, Q = MQ below (va_Qv (fun (u : Unit) => post ) (fun (u : Unit) (t : State) => (∃ (h_n8 : Nat), (∃ (h_n17 : Nat), (∃ (h_n26 : Nat), (∃ (h_n39 : Nat), (∃ (h_n47 : Nat), (∃ (c_n8 : ClassId), (∃ (c_n17 : ClassId), (∃ (c_n26 : ClassId), (∃ (c_n39 : ClassId), (∃ (c_n47 : ClassId), va_P (dC, dI) vwCl [ob_Datum h_this h_n8 h_n17 h_n26 (0 : Int32) h_n39 h_n47 (0 : Int32), ar_ h_n8 c_n8 200 (fun _ => 0), ar_ h_n17 c_n17 200 (fun _ => 0), ar_ h_n26 c_n26 200 (fun _ => 0), ar_ h_n39 c_n39 12 (fun _ => 0), ar_ h_n47 c_n47 12 (fun _ => 0)] t.heap ∧ va_K (dC, dI) vwCl [(c_n8, .int), (c_n17, .int), (c_n26, .int), (c_n39, .int), (c_n47, .int)] t ∧ va_D A [ob_Datum h_this h_n8 h_n17 h_n26 (0 : Int32) h_n39 h_n47 (0 : Int32), ar_ h_n8 c_n8 200 (fun _ => 0), ar_ h_n17 c_n17 200 (fun _ => 0), ar_ h_n26 c_n26 200 (fun _ => 0), ar_ h_n39 c_n39 12 (fun _ => 0), ar_ h_n47 c_n47 12 (fun _ => 0)]))))))))))) A) ([.ref h_this] : List Value).toArray s 5 624 A := ⟨_, rfl⟩
  rw [← hQ]
  unfold wp_Datum_new at hw
  refine lv_aload_n hx hb d_Datum_new_0 rfl (lv_at hl 0 rfl) ?_
  refine W.objInit hx hb hown (hts _ kt_35) (hts _ kt_28) (hts _ kt_29) rfl (by rw [hml]; exact hl.1) rfl d_Datum_new_1 (Nat.le_of_ble_eq_true rfl) (Nat.le_of_ble_eq_true rfl) ?_
  refine W.eq (g2 := F0 m 4 ls []) rfl ?_
  refine lv_aload_n hx hb d_Datum_new_4 rfl (lv_at hl 0 rfl) ?_
  refine lv_sipush (v := 200) hx hb d_Datum_new_5 (by decide) ?_
  refine va_newa (atype := .int) (N' := 200) (a0 := (200, .inl (fun _ => 0))) (ty := .int) (n := (200 : Int32)) hx hb (hts _ kt_59) rfl hK hP hD hS hA (fun _ => rfl) (by decide) (by decide) (by decide) (Nat.le_of_ble_eq_true rfl) (Nat.le_of_ble_eq_true rfl) d_Datum_new_8 (fun h_n8 c_n8 H hK hP hD hS => ?_)
  have hP : va_P (dC, dI) vwCl [(h_this, .inr (1, [.null, .null, .null, .int (0 : Int32), .null, .null, .int (0 : Int32)])), ar_ h_n8 c_n8 200 (fun _ => 0)] H := hP
  have hD : va_D A [(h_this, .inr (1, [.null, .null, .null, .int (0 : Int32), .null, .null, .int (0 : Int32)])), ar_ h_n8 c_n8 200 (fun _ => 0)] := hD
  have hK : va_K (dC, dI) vwCl [(c_n8, .int)] s := hK
  refine W.widen (k := 1) (n := 200) (Nat.le_of_ble_eq_true rfl) (Nat.le_of_ble_eq_true rfl) ?_
  refine va_putF (D := (dC, dI)) (ci := 1) (v := .ref h_n8) (ty := (.array .int)) (C := R_Datum) (T := T_Datum) (N := 7) hx hb hts in_Datum t_Datum t_Datum_ok nm_Datum hown hK hP hD hS 0 rfl rfl 0 (by decide) (hts _ kt_36) (fun _ h9 => h9) rfl hin rfl (by decide +kernel) rfl rfl (Nat.le_of_ble_eq_true rfl) d_Datum_new_10 (fun H locs hP hD hS => ?_)
  have hP : va_P (dC, dI) vwCl [(h_this, .inr (1, [.ref h_n8, .null, .null, .int (0 : Int32), .null, .null, .int (0 : Int32)])), ar_ h_n8 c_n8 200 (fun _ => 0)] H := hP
  have hD : va_D A [(h_this, .inr (1, [.ref h_n8, .null, .null, .int (0 : Int32), .null, .null, .int (0 : Int32)])), ar_ h_n8 c_n8 200 (fun _ => 0)] := hD
  refine lv_aload_n hx hb d_Datum_new_13 rfl (lv_at hl 0 rfl) ?_
  refine lv_sipush (v := 200) hx hb d_Datum_new_14 (by decide) ?_
  refine va_newa (atype := .int) (N' := 200) (a0 := (200, .inl (fun _ => 0))) (ty := .int) (n := (200 : Int32)) hx hb (hts _ kt_59) rfl hK hP hD hS hA (fun _ => rfl) (by decide) (by decide) (by decide) (Nat.le_of_ble_eq_true rfl) (Nat.le_of_ble_eq_true rfl) d_Datum_new_17 (fun h_n17 c_n17 H hK hP hD hS => ?_)
  have hP : va_P (dC, dI) vwCl [(h_this, .inr (1, [.ref h_n8, .null, .null, .int (0 : Int32), .null, .null, .int (0 : Int32)])), ar_ h_n8 c_n8 200 (fun _ => 0), ar_ h_n17 c_n17 200 (fun _ => 0)] H := hP
  have hD : va_D A [(h_this, .inr (1, [.ref h_n8, .null, .null, .int (0 : Int32), .null, .null, .int (0 : Int32)])), ar_ h_n8 c_n8 200 (fun _ => 0), ar_ h_n17 c_n17 200 (fun _ => 0)] := hD
  have hK : va_K (dC, dI) vwCl [(c_n8, .int), (c_n17, .int)] s := hK
  refine W.widen (k := 2) (n := 400) (Nat.le_of_ble_eq_true rfl) (Nat.le_of_ble_eq_true rfl) ?_
  refine va_putF (D := (dC, dI)) (ci := 1) (v := .ref h_n17) (ty := (.array .int)) (C := R_Datum) (T := T_Datum) (N := 7) hx hb hts in_Datum t_Datum t_Datum_ok nm_Datum hown hK hP hD hS 0 rfl rfl 1 (by decide) (hts _ kt_37) (fun _ h9 => h9) rfl hin rfl (by decide +kernel) rfl rfl (Nat.le_of_ble_eq_true rfl) d_Datum_new_19 (fun H locs hP hD hS => ?_)
  have hP : va_P (dC, dI) vwCl [(h_this, .inr (1, [.ref h_n8, .ref h_n17, .null, .int (0 : Int32), .null, .null, .int (0 : Int32)])), ar_ h_n8 c_n8 200 (fun _ => 0), ar_ h_n17 c_n17 200 (fun _ => 0)] H := hP
  have hD : va_D A [(h_this, .inr (1, [.ref h_n8, .ref h_n17, .null, .int (0 : Int32), .null, .null, .int (0 : Int32)])), ar_ h_n8 c_n8 200 (fun _ => 0), ar_ h_n17 c_n17 200 (fun _ => 0)] := hD
  refine lv_aload_n hx hb d_Datum_new_22 rfl (lv_at hl 0 rfl) ?_
  refine lv_sipush (v := 200) hx hb d_Datum_new_23 (by decide) ?_
  refine va_newa (atype := .int) (N' := 200) (a0 := (200, .inl (fun _ => 0))) (ty := .int) (n := (200 : Int32)) hx hb (hts _ kt_59) rfl hK hP hD hS hA (fun _ => rfl) (by decide) (by decide) (by decide) (Nat.le_of_ble_eq_true rfl) (Nat.le_of_ble_eq_true rfl) d_Datum_new_26 (fun h_n26 c_n26 H hK hP hD hS => ?_)
  have hP : va_P (dC, dI) vwCl [(h_this, .inr (1, [.ref h_n8, .ref h_n17, .null, .int (0 : Int32), .null, .null, .int (0 : Int32)])), ar_ h_n8 c_n8 200 (fun _ => 0), ar_ h_n17 c_n17 200 (fun _ => 0), ar_ h_n26 c_n26 200 (fun _ => 0)] H := hP
  have hD : va_D A [(h_this, .inr (1, [.ref h_n8, .ref h_n17, .null, .int (0 : Int32), .null, .null, .int (0 : Int32)])), ar_ h_n8 c_n8 200 (fun _ => 0), ar_ h_n17 c_n17 200 (fun _ => 0), ar_ h_n26 c_n26 200 (fun _ => 0)] := hD
  have hK : va_K (dC, dI) vwCl [(c_n8, .int), (c_n17, .int), (c_n26, .int)] s := hK
  refine W.widen (k := 3) (n := 600) (Nat.le_of_ble_eq_true rfl) (Nat.le_of_ble_eq_true rfl) ?_
  refine va_putF (D := (dC, dI)) (ci := 1) (v := .ref h_n26) (ty := (.array .int)) (C := R_Datum) (T := T_Datum) (N := 7) hx hb hts in_Datum t_Datum t_Datum_ok nm_Datum hown hK hP hD hS 0 rfl rfl 2 (by decide) (hts _ kt_38) (fun _ h9 => h9) rfl hin rfl (by decide +kernel) rfl rfl (Nat.le_of_ble_eq_true rfl) d_Datum_new_28 (fun H locs hP hD hS => ?_)
  have hP : va_P (dC, dI) vwCl [(h_this, .inr (1, [.ref h_n8, .ref h_n17, .ref h_n26, .int (0 : Int32), .null, .null, .int (0 : Int32)])), ar_ h_n8 c_n8 200 (fun _ => 0), ar_ h_n17 c_n17 200 (fun _ => 0), ar_ h_n26 c_n26 200 (fun _ => 0)] H := hP
  have hD : va_D A [(h_this, .inr (1, [.ref h_n8, .ref h_n17, .ref h_n26, .int (0 : Int32), .null, .null, .int (0 : Int32)])), ar_ h_n8 c_n8 200 (fun _ => 0), ar_ h_n17 c_n17 200 (fun _ => 0), ar_ h_n26 c_n26 200 (fun _ => 0)] := hD
  refine lv_aload_n hx hb d_Datum_new_31 rfl (lv_at hl 0 rfl) ?_
  refine lv_iconst (v := 0) hx hb d_Datum_new_32 (by decide) ?_
  refine va_put (D := (dC, dI)) (ci := 1) (v := .int (0 : Int32)) (ty := .int) (C := R_Datum) (T := T_Datum) (N := 7) hx hb hts in_Datum t_Datum t_Datum_ok nm_Datum hown hK hP hD hS 0 rfl rfl 3 (by decide) (hts _ kt_39) (fun _ h9 => h9) rfl (by decide +kernel) rfl rfl (Nat.le_of_ble_eq_true rfl) d_Datum_new_33 (fun H locs hP hD hS => ?_)
  have hP : va_P (dC, dI) vwCl [(h_this, .inr (1, [.ref h_n8, .ref h_n17, .ref h_n26, .int (0 : Int32), .null, .null, .int (0 : Int32)])), ar_ h_n8 c_n8 200 (fun _ => 0), ar_ h_n17 c_n17 200 (fun _ => 0), ar_ h_n26 c_n26 200 (fun _ => 0)] H := hP
  have hD : va_D A [(h_this, .inr (1, [.ref h_n8, .ref h_n17, .ref h_n26, .int (0 : Int32), .null, .null, .int (0 : Int32)])), ar_ h_n8 c_n8 200 (fun _ => 0), ar_ h_n17 c_n17 200 (fun _ => 0), ar_ h_n26 c_n26 200 (fun _ => 0)] := hD
  refine lv_aload_n hx hb d_Datum_new_36 rfl (lv_at hl 0 rfl) ?_
  refine lv_bipush (v := 12) hx hb d_Datum_new_37 (by decide) ?_
  refine va_newa (atype := .int) (N' := 12) (a0 := (12, .inl (fun _ => 0))) (ty := .int) (n := (12 : Int32)) hx hb (hts _ kt_59) rfl hK hP hD hS hA (fun _ => rfl) (by decide) (by decide) (by decide) (Nat.le_of_ble_eq_true rfl) (Nat.le_of_ble_eq_true rfl) d_Datum_new_39 (fun h_n39 c_n39 H hK hP hD hS => ?_)
  have hP : va_P (dC, dI) vwCl [(h_this, .inr (1, [.ref h_n8, .ref h_n17, .ref h_n26, .int (0 : Int32), .null, .null, .int (0 : Int32)])), ar_ h_n8 c_n8 200 (fun _ => 0), ar_ h_n17 c_n17 200 (fun _ => 0), ar_ h_n26 c_n26 200 (fun _ => 0), ar_ h_n39 c_n39 12 (fun _ => 0)] H := hP
  have hD : va_D A [(h_this, .inr (1, [.ref h_n8, .ref h_n17, .ref h_n26, .int (0 : Int32), .null, .null, .int (0 : Int32)])), ar_ h_n8 c_n8 200 (fun _ => 0), ar_ h_n17 c_n17 200 (fun _ => 0), ar_ h_n26 c_n26 200 (fun _ => 0), ar_ h_n39 c_n39 12 (fun _ => 0)] := hD
  have hK : va_K (dC, dI) vwCl [(c_n8, .int), (c_n17, .int), (c_n26, .int), (c_n39, .int)] s := hK
  refine W.widen (k := 4) (n := 612) (Nat.le_of_ble_eq_true rfl) (Nat.le_of_ble_eq_true rfl) ?_
  refine va_putF (D := (dC, dI)) (ci := 1) (v := .ref h_n39) (ty := (.array .int)) (C := R_Datum) (T := T_Datum) (N := 7) hx hb hts in_Datum t_Datum t_Datum_ok nm_Datum hown hK hP hD hS 0 rfl rfl 4 (by decide) (hts _ kt_40) (fun _ h9 => h9) rfl hin rfl (by decide +kernel) rfl rfl (Nat.le_of_ble_eq_true rfl) d_Datum_new_41 (fun H locs hP hD hS => ?_)
  have hP : va_P (dC, dI) vwCl [(h_this, .inr (1, [.ref h_n8, .ref h_n17, .ref h_n26, .int (0 : Int32), .ref h_n39, .null, .int (0 : Int32)])), ar_ h_n8 c_n8 200 (fun _ => 0), ar_ h_n17 c_n17 200 (fun _ => 0), ar_ h_n26 c_n26 200 (fun _ => 0), ar_ h_n39 c_n39 12 (fun _ => 0)] H := hP
  have hD : va_D A [(h_this, .inr (1, [.ref h_n8, .ref h_n17, .ref h_n26, .int (0 : Int32), .ref h_n39, .null, .int (0 : Int32)])), ar_ h_n8 c_n8 200 (fun _ => 0), ar_ h_n17 c_n17 200 (fun _ => 0), ar_ h_n26 c_n26 200 (fun _ => 0), ar_ h_n39 c_n39 12 (fun _ => 0)] := hD
  refine lv_aload_n hx hb d_Datum_new_44 rfl (lv_at hl 0 rfl) ?_
  refine lv_bipush (v := 12) hx hb d_Datum_new_45 (by decide) ?_
  refine va_newa (atype := .int) (N' := 12) (a0 := (12, .inl (fun _ => 0))) (ty := .int) (n := (12 : Int32)) hx hb (hts _ kt_59) rfl hK hP hD hS hA (fun _ => rfl) (by decide) (by decide) (by decide) (Nat.le_of_ble_eq_true rfl) (Nat.le_of_ble_eq_true rfl) d_Datum_new_47 (fun h_n47 c_n47 H hK hP hD hS => ?_)
  have hP : va_P (dC, dI) vwCl [(h_this, .inr (1, [.ref h_n8, .ref h_n17, .ref h_n26, .int (0 : Int32), .ref h_n39, .null, .int (0 : Int32)])), ar_ h_n8 c_n8 200 (fun _ => 0), ar_ h_n17 c_n17 200 (fun _ => 0), ar_ h_n26 c_n26 200 (fun _ => 0), ar_ h_n39 c_n39 12 (fun _ => 0), ar_ h_n47 c_n47 12 (fun _ => 0)] H := hP
  have hD : va_D A [(h_this, .inr (1, [.ref h_n8, .ref h_n17, .ref h_n26, .int (0 : Int32), .ref h_n39, .null, .int (0 : Int32)])), ar_ h_n8 c_n8 200 (fun _ => 0), ar_ h_n17 c_n17 200 (fun _ => 0), ar_ h_n26 c_n26 200 (fun _ => 0), ar_ h_n39 c_n39 12 (fun _ => 0), ar_ h_n47 c_n47 12 (fun _ => 0)] := hD
  have hK : va_K (dC, dI) vwCl [(c_n8, .int), (c_n17, .int), (c_n26, .int), (c_n39, .int), (c_n47, .int)] s := hK
  refine W.widen (k := 5) (n := 624) (Nat.le_of_ble_eq_true rfl) (Nat.le_of_ble_eq_true rfl) ?_
  refine va_putF (D := (dC, dI)) (ci := 1) (v := .ref h_n47) (ty := (.array .int)) (C := R_Datum) (T := T_Datum) (N := 7) hx hb hts in_Datum t_Datum t_Datum_ok nm_Datum hown hK hP hD hS 0 rfl rfl 5 (by decide) (hts _ kt_41) (fun _ h9 => h9) rfl hin rfl (by decide +kernel) rfl rfl (Nat.le_of_ble_eq_true rfl) d_Datum_new_49 (fun H locs hP hD hS => ?_)
  have hP : va_P (dC, dI) vwCl [ob_Datum h_this h_n8 h_n17 h_n26 (0 : Int32) h_n39 h_n47 (0 : Int32), ar_ h_n8 c_n8 200 (fun _ => 0), ar_ h_n17 c_n17 200 (fun _ => 0), ar_ h_n26 c_n26 200 (fun _ => 0), ar_ h_n39 c_n39 12 (fun _ => 0), ar_ h_n47 c_n47 12 (fun _ => 0)] H := hP
  have hD : va_D A [ob_Datum h_this h_n8 h_n17 h_n26 (0 : Int32) h_n39 h_n47 (0 : Int32), ar_ h_n8 c_n8 200 (fun _ => 0), ar_ h_n17 c_n17 200 (fun _ => 0), ar_ h_n26 c_n26 200 (fun _ => 0), ar_ h_n39 c_n39 12 (fun _ => 0), ar_ h_n47 c_n47 12 (fun _ => 0)] := hD
  refine lv_aload_n hx hb d_Datum_new_52 rfl (lv_at hl 0 rfl) ?_
  refine lv_iconst (v := 0) hx hb d_Datum_new_53 (by decide) ?_
  refine va_put (D := (dC, dI)) (ci := 1) (v := .int (0 : Int32)) (ty := .int) (C := R_Datum) (T := T_Datum) (N := 7) hx hb hts in_Datum t_Datum t_Datum_ok nm_Datum hown hK hP hD hS 0 rfl rfl 6 (by decide) (hts _ kt_42) (fun _ h9 => h9) rfl (by decide +kernel) rfl rfl (Nat.le_of_ble_eq_true rfl) d_Datum_new_54 (fun H locs hP hD hS => ?_)
  have hP : va_P (dC, dI) vwCl [ob_Datum h_this h_n8 h_n17 h_n26 (0 : Int32) h_n39 h_n47 (0 : Int32), ar_ h_n8 c_n8 200 (fun _ => 0), ar_ h_n17 c_n17 200 (fun _ => 0), ar_ h_n26 c_n26 200 (fun _ => 0), ar_ h_n39 c_n39 12 (fun _ => 0), ar_ h_n47 c_n47 12 (fun _ => 0)] H := hP
  have hD : va_D A [ob_Datum h_this h_n8 h_n17 h_n26 (0 : Int32) h_n39 h_n47 (0 : Int32), ar_ h_n8 c_n8 200 (fun _ => 0), ar_ h_n17 c_n17 200 (fun _ => 0), ar_ h_n26 c_n26 200 (fun _ => 0), ar_ h_n39 c_n39 12 (fun _ => 0), ar_ h_n47 c_n47 12 (fun _ => 0)] := hD
  have hP9 : va_P (dC, dI) vwCl [ob_Datum h_this h_n8 h_n17 h_n26 (0 : Int32) h_n39 h_n47 (0 : Int32), ar_ h_n8 c_n8 200 (fun _ => 0), ar_ h_n17 c_n17 200 (fun _ => 0), ar_ h_n26 c_n26 200 (fun _ => 0), ar_ h_n39 c_n39 12 (fun _ => 0), ar_ h_n47 c_n47 12 (fun _ => 0)] _ := hP.sub [0, 1, 2, 3, 4, 5] rfl
  have hD9 : va_D A [ob_Datum h_this h_n8 h_n17 h_n26 (0 : Int32) h_n39 h_n47 (0 : Int32), ar_ h_n8 c_n8 200 (fun _ => 0), ar_ h_n17 c_n17 200 (fun _ => 0), ar_ h_n26 c_n26 200 (fun _ => 0), ar_ h_n39 c_n39 12 (fun _ => 0), ar_ h_n47 c_n47 12 (fun _ => 0)] := hD.sub [0, 1, 2, 3, 4, 5] (by decide) rfl
  have hK9 : va_K (dC, dI) vwCl [(c_n8, .int), (c_n17, .int), (c_n26, .int), (c_n39, .int), (c_n47, .int)] s := hK.sub [0, 1, 2, 3, 4] rfl
  refine W.widen (k := 5) (n := 624) (Nat.le_of_ble_eq_true rfl) (Nat.le_of_ble_eq_true rfl) ?_
  rw [hQ]
  exact W.vret hx hb hr (fun t ht hW => ⟨⟨(), rfl, hw, h_n8, h_n17, h_n26, h_n39, h_n47, c_n8, c_n17, c_n26, c_n39, c_n47, by rw [ht]; exact hP9, va_K.moved hW.alike hK9, hD9⟩, hS.F ht⟩) hS.2.2 d_Datum_new_57

set_option maxHeartbeats 8000000 in
set_option maxRecDepth 100000 in
theorem c_Program_new (l : Launch) (dC : Nat → ClassId) (dI : Nat → Nat → Nat) (h_this : Nat)  (sz : Nat)    (post : Prop) (hw : wp_Program_new    post) : Met l y_Program_new (ws_ y_Program_new b_Program_new 1 none) { frames := 2, cells := 8, slots := 1344, locals := 40 } (va_Pc [.ref h_this] (PRE (dC, dI) vwCl [] [(h_this, .inr (2, [.null, .null, .int (0 : Int32), .null, .int (0 : Int32)]))] sz (va_A [(h_this, .inr (2, [.null, .null, .int (0 : Int32), .null, .int (0 : Int32)]))] sz))) (va_Qv (fun (u : Unit) => post ) (fun (u : Unit) (t : State) => (∃ (h_n5 : Nat), (∃ (h_n5_followers : Nat), (∃ (h_n5_kinds : Nat), (∃ (h_n5_lastParts : Nat), (∃ (h_n5_openLists : Nat), (∃ (h_n5_values : Nat), (∃ (h_n19 : Nat), (∃ (h_n33 : Nat), (∃ (c_n5_followers : ClassId), (∃ (c_n5_kinds : ClassId), (∃ (c_n5_lastParts : ClassId), (∃ (c_n5_openLists : ClassId), (∃ (c_n5_values : ClassId), (∃ (c_n19 : ClassId), (∃ (c_n33 : ClassId), va_P (dC, dI) vwCl [ob_Program h_this h_n5 h_n19 (0 : Int32) h_n33 (0 : Int32), ob_Datum h_n5 h_n5_kinds h_n5_values h_n5_followers (0 : Int32) h_n5_openLists h_n5_lastParts (0 : Int32), ar_ h_n5_followers c_n5_followers 200 (fun _ => 0), ar_ h_n5_kinds c_n5_kinds 200 (fun _ => 0), ar_ h_n5_lastParts c_n5_lastParts 12 (fun _ => 0), ar_ h_n5_openLists c_n5_openLists 12 (fun _ => 0), ar_ h_n5_values c_n5_values 200 (fun _ => 0), ar_ h_n19 c_n19 512 (fun _ => 0), ar_ h_n33 c_n33 201 (fun _ => 0)] t.heap ∧ va_K (dC, dI) vwCl [(c_n5_followers, .int), (c_n5_kinds, .int), (c_n5_lastParts, .int), (c_n5_openLists, .int), (c_n5_values, .int), (c_n19, .int), (c_n33, .int)] t ∧ va_D (va_A [(h_this, .inr (2, [.null, .null, .int (0 : Int32), .null, .int (0 : Int32)]))] sz) [ob_Program h_this h_n5 h_n19 (0 : Int32) h_n33 (0 : Int32), ob_Datum h_n5 h_n5_kinds h_n5_values h_n5_followers (0 : Int32) h_n5_openLists h_n5_lastParts (0 : Int32), ar_ h_n5_followers c_n5_followers 200 (fun _ => 0), ar_ h_n5_kinds c_n5_kinds 200 (fun _ => 0), ar_ h_n5_lastParts c_n5_lastParts 12 (fun _ => 0), ar_ h_n5_openLists c_n5_openLists 12 (fun _ => 0), ar_ h_n5_values c_n5_values 200 (fun _ => 0), ar_ h_n19 c_n19 512 (fun _ => 0), ar_ h_n33 c_n33 201 (fun _ => 0)])))))))))))))))) (va_A [(h_this, .inr (2, [.null, .null, .int (0 : Int32), .null, .int (0 : Int32)]))] sz)) 8 1344 (va_A [(h_this, .inr (2, [.null, .null, .int (0 : Int32), .null, .int (0 : Int32)]))] sz) := by
  refine Met.ofW (cc := b_Program_new) (maxL := 1) (ret := none) (by decide) rfl ?_
  intro p e s m args below meth c s₁ B hml hv
  obtain ⟨rfl, hsz, hP, hK, hD0, hG⟩ := hv
  have hx := B.exec
  have hb := B.bytes
  have hr := B.returns
  have hts : ∀ w ∈ tb, w.before _ s = true := fun w h => atoms_spec (ws := ws_ _ _ _ _) B.pre w (List.mem_cons_of_mem _ h)
  have hown : s.vm.findClass R_Program = some m.cls := findClass_of_methodNamed B.named
  have hlocks := B.notSynchronized
  have hin : meth.name = "<init>" := (name_of_methodNamed B.named B.method).1
  subst hsz
  have hD := hD0.self (sz := s.heap.size)
  generalize hAe : va_A [(h_this, .inr (2, [.null, .null, .int (0 : Int32), .null, .int (0 : Int32)]))] s.heap.size = A at hD hG ⊢
  have hA : ∀ q : Nat, s.heap.size ≤ q → A q := fun q h => by rw [← hAe]; exact Or.inr h
  have hS : va_S A s.heap s.heap [] := va_S.rf
  have hP : va_P (dC, dI) vwCl [(h_this, .inr (2, [.null, .null, .int (0 : Int32), .null, .int (0 : Int32)]))] s.heap := hP
  have hl := lv_entry [.ref h_this] (n := 1) (Nat.le_of_ble_eq_true rfl)
  rw [lg_entry_eq]
  generalize (lg_sl [.ref h_this] ++ List.replicate (1 - (lg_sl [.ref h_this]).length) Slot.unset).toArray = ls at hl ⊢
  have hl : lv_has ls 1 [(0, .ref h_this)] := hl
  obtain ⟨Q, hQ⟩ : ∃ Q : State → Prop, Q = MQ below (va_Qv (fun (u : Unit) => post ) (fun (u : Unit) (t : State) => (∃ (h_n5 : Nat), (∃ (h_n5_followers : Nat), (∃ (h_n5_kinds : Nat), (∃ (h_n5_lastParts : Nat), (∃ (h_n5_openLists : Nat), (∃ (h_n5_values : Nat), (∃ (h_n19 : Nat), (∃ (h_n33 : Nat), (∃ (c_n5_followers : ClassId), (∃ (c_n5_kinds : ClassId), (∃ (c_n5_lastParts : ClassId), (∃ (c_n5_openLists : ClassId), (∃ (c_n5_values : ClassId), (∃ (c_n19 : ClassId), (∃ (c_n33 : ClassId), va_P (dC, dI) vwCl [ob_Program h_this h_n5 h_n19 (0 : Int32) h_n33 (0 : Int32), ob_Datum h_n5 h_n5_kinds h_n5_values h_n5_followers (0 : Int32) h_n5_openLists h_n5_lastParts (0 : Int32), ar_ h_n5_followers c_n5_followers 200 (fun _ => 0), ar_ h_n5_kinds c_n5_kinds 200 (fun _ => 0), ar_ h_n5_lastParts c_n5_lastParts 12 (fun _ => 0), ar_ h_n5_openLists c_n5_openLists 12 (fun _ => 0), ar_ h_n5_values c_n5_values 200 (fun _ => 0), ar_ h_n19 c_n19 512 (fun _ => 0), ar_ h_n33 c_n33 201 (fun _ => 0)] t.heap ∧ va_K (dC, dI) vwCl [(c_n5_followers, .int), (c_n5_kinds, .int), (c_n5_lastParts, .int), (c_n5_openLists, .int), (c_n5_values, .int), (c_n19, .int), (c_n33, .int)] t ∧ va_D A [ob_Program h_this h_n5 h_n19 (0 : Int32) h_n33 (0 : Int32), ob_Datum h_n5 h_n5_kinds h_n5_values h_n5_followers (0 : Int32) h_n5_openLists h_n5_lastParts (0 : Int32), ar_ h_n5_followers c_n5_followers 200 (fun _ => 0), ar_ h_n5_kinds c_n5_kinds 200 (fun _ => 0), ar_ h_n5_lastParts c_n5_lastParts 12 (fun _ => 0), ar_ h_n5_openLists c_n5_openLists 12 (fun _ => 0), ar_ h_n5_values c_n5_values 200 (fun _ => 0), ar_ h_n19 c_n19 512 (fun _ => 0), ar_ h_n33 c_n33 201 (fun _ => 0)])))))))))))))))) A) ([.ref h_this] : List Value).toArray s 8 1344 A := ⟨_, rfl⟩
  rw [← hQ]
  unfold wp_Program_new at hw
  refine lv_aload_n hx hb d_Program_new_0 rfl (lv_at hl 0 rfl) ?_
  refine W.objInit hx hb hown (hts _ kt_65) (hts _ kt_28) (hts _ kt_29) rfl (by rw [hml]; exact hl.1) rfl d_Program_new_1 (Nat.le_of_ble_eq_true rfl) (Nat.le_of_ble_eq_true rfl) ?_
  refine W.eq (g2 := F0 m 4 ls []) rfl ?_
  refine lv_aload_n hx hb d_Program_new_4 rfl (lv_at hl 0 rfl) ?_
  refine va_new (ci := 1) (fs := [.null, .null, .null, .int 0, .null, .null, .int 0]) (C := R_Datum) (T := T_Datum) (N := 7) hx hb hts in_Datum t_Datum t_Datum_ok hown (hts _ kt_66) (hts _ kt_31) (hts _ kt_2) hK hP hD hS hA rfl (fun j hj => by rcases (show j = 0 ∨ j = 1 ∨ j = 2 ∨ j = 3 ∨ j = 4 ∨ j = 5 ∨ j = 6 by omega) with rfl | rfl | rfl | rfl | rfl | rfl | rfl <;> rfl) (Nat.le_of_ble_eq_true rfl) (Nat.le_of_ble_eq_true rfl) d_Program_new_5 (fun h_n5 H hP hD hS => ?_)
  have hP : va_P (dC, dI) vwCl [(h_this, .inr (2, [.null, .null, .int (0 : Int32), .null, .int (0 : Int32)])), (h_n5, .inr (1, [.null, .null, .null, .int (0 : Int32), .null, .null, .int (0 : Int32)]))] H := hP
  have hD : va_D A [(h_this, .inr (2, [.null, .null, .int (0 : Int32), .null, .int (0 : Int32)])), (h_n5, .inr (1, [.null, .null, .null, .int (0 : Int32), .null, .null, .int (0 : Int32)]))] := hD
  refine W.widen (k := 1) (n := 7) (Nat.le_of_ble_eq_true rfl) (Nat.le_of_ble_eq_true rfl) ?_
  refine lv_dup hx hb d_Program_new_8 rfl ?_
  have hPc := hP.sub (ws' := [(h_n5, .inr (1, [.null, .null, .null, .int (0 : Int32), .null, .null, .int (0 : Int32)]))]) [1] rfl
  have hDc := hD.sub (ws' := [(h_n5, .inr (1, [.null, .null, .null, .int (0 : Int32), .null, .null, .int (0 : Int32)]))]) [1] (by decide) rfl
  have hKc := hK.sub (tys' := []) [] rfl
  have hFc := va_free (wc := [(h_n5, .inr (1, [.null, .null, .null, .int (0 : Int32), .null, .null, .int (0 : Int32)]))]) hD hS hA [1] rfl
  refine va_callv (va_runIN (As := []) (rest := [.ref h_n5, .ref h_this]) ⟨hx, hb, hml, hown, hts⟩ (c_Datum_new l dC dI h_n5 H.size _ hw) ⟨va_cnB 0 hts (gd_W kt_34) rfl rfl rfl (gb_nw 2 rfl hG) (hts _ kt_2) (by decide +kernel) ⟨(Nat.le_of_ble_eq_true rfl), (Nat.le_of_ble_eq_true rfl)⟩, rfl, hts _ kt_33⟩ ⟨pre_blind, pre_ok hPc hKc hDc hG hS hFc⟩ rfl rfl hl.1 rfl (lv_room (Nat.le_of_ble_eq_true rfl)) d_Program_new_9 ⟨(Nat.le_of_ble_eq_true rfl), (Nat.le_of_ble_eq_true rfl)⟩) hS (fun q _ h => hFc q h) hFc (fun u t H1 locs ht hvm hw hB hz1 hk1 hS => ?_)
  obtain ⟨h_n5_kinds, h_n5_values, h_n5_followers, h_n5_openLists, h_n5_lastParts, c_n5_kinds, c_n5_values, c_n5_followers, c_n5_openLists, c_n5_lastParts, hP1, hK1, hD1⟩ := hB
  rw [ht] at hP1
  have hK1 := va_K.moved hvm.symm hK1
  try dsimp only at hw
  obtain ⟨hP, hD⟩ := va_join (wr := [(h_this, .inr (2, [.null, .null, .int (0 : Int32), .null, .int (0 : Int32)]))]) (w1 := [ob_Datum h_n5 h_n5_kinds h_n5_values h_n5_followers (0 : Int32) h_n5_openLists h_n5_lastParts (0 : Int32), ar_ h_n5_kinds c_n5_kinds 200 (fun _ => 0), ar_ h_n5_values c_n5_values 200 (fun _ => 0), ar_ h_n5_followers c_n5_followers 200 (fun _ => 0), ar_ h_n5_openLists c_n5_openLists 12 (fun _ => 0), ar_ h_n5_lastParts c_n5_lastParts 12 (fun _ => 0)]) hP hD [1] [0] rfl rfl (by decide) (by decide) hk1 hFc hP1 hD1
  have hK := (hK.sub (tys' := []) [] rfl).app hK1
  generalize H1 = H at hP hS ⊢
  have hP : va_P (dC, dI) vwCl [(h_this, .inr (2, [.null, .null, .int (0 : Int32), .null, .int (0 : Int32)])), ob_Datum h_n5 h_n5_kinds h_n5_values h_n5_followers (0 : Int32) h_n5_openLists h_n5_lastParts (0 : Int32), ar_ h_n5_kinds c_n5_kinds 200 (fun _ => 0), ar_ h_n5_values c_n5_values 200 (fun _ => 0), ar_ h_n5_followers c_n5_followers 200 (fun _ => 0), ar_ h_n5_openLists c_n5_openLists 12 (fun _ => 0), ar_ h_n5_lastParts c_n5_lastParts 12 (fun _ => 0)] H := hP
  have hD : va_D A [(h_this, .inr (2, [.null, .null, .int (0 : Int32), .null, .int (0 : Int32)])), ob_Datum h_n5 h_n5_kinds h_n5_values h_n5_followers (0 : Int32) h_n5_openLists h_n5_lastParts (0 : Int32), ar_ h_n5_kinds c_n5_kinds 200 (fun _ => 0), ar_ h_n5_values c_n5_values 200 (fun _ => 0), ar_ h_n5_followers c_n5_followers 200 (fun _ => 0), ar_ h_n5_openLists c_n5_openLists 12 (fun _ => 0), ar_ h_n5_lastParts c_n5_lastParts 12 (fun _ => 0)] := hD
  have hK : va_K (dC, dI) vwCl [(c_n5_kinds, .int), (c_n5_values, .int), (c_n5_followers, .int), (c_n5_openLists, .int), (c_n5_lastParts, .int)] s := hK
  refine W.widen (k := 6) (n := 631) (Nat.le_of_ble_eq_true rfl) (Nat.le_of_ble_eq_true rfl) ?_
  refine va_putF (D := (dC, dI)) (ci := 2) (v := .ref h_n5) (ty := (.object "SecdProcessor$Datum")) (C := R_Program) (T := T_Program) (N := 5) hx hb hts in_Program t_Program t_Program_ok nm_Program hown hK hP hD hS 0 rfl rfl 0 (by decide) (hts _ kt_68) (fun _ h9 => h9) rfl hin rfl (by decide +kernel) rfl rfl (Nat.le_of_ble_eq_true rfl) d_Program_new_12 (fun H locs hP hD hS => ?_)
  have hP : va_P (dC, dI) vwCl [(h_this, .inr (2, [.ref h_n5, .null, .int (0 : Int32), .null, .int (0 : Int32)])), ob_Datum h_n5 h_n5_kinds h_n5_values h_n5_followers (0 : Int32) h_n5_openLists h_n5_lastParts (0 : Int32), ar_ h_n5_kinds c_n5_kinds 200 (fun _ => 0), ar_ h_n5_values c_n5_values 200 (fun _ => 0), ar_ h_n5_followers c_n5_followers 200 (fun _ => 0), ar_ h_n5_openLists c_n5_openLists 12 (fun _ => 0), ar_ h_n5_lastParts c_n5_lastParts 12 (fun _ => 0)] H := hP
  have hD : va_D A [(h_this, .inr (2, [.ref h_n5, .null, .int (0 : Int32), .null, .int (0 : Int32)])), ob_Datum h_n5 h_n5_kinds h_n5_values h_n5_followers (0 : Int32) h_n5_openLists h_n5_lastParts (0 : Int32), ar_ h_n5_kinds c_n5_kinds 200 (fun _ => 0), ar_ h_n5_values c_n5_values 200 (fun _ => 0), ar_ h_n5_followers c_n5_followers 200 (fun _ => 0), ar_ h_n5_openLists c_n5_openLists 12 (fun _ => 0), ar_ h_n5_lastParts c_n5_lastParts 12 (fun _ => 0)] := hD
  refine lv_aload_n hx hb d_Program_new_15 rfl (lv_at hl 0 rfl) ?_
  refine lv_sipush (v := 512) hx hb d_Program_new_16 (by decide) ?_
  refine va_newa (atype := .int) (N' := 512) (a0 := (512, .inl (fun _ => 0))) (ty := .int) (n := (512 : Int32)) hx hb (hts _ kt_59) rfl hK hP hD hS hA (fun _ => rfl) (by decide) (by decide) (by decide) (Nat.le_of_ble_eq_true rfl) (Nat.le_of_ble_eq_true rfl) d_Program_new_19 (fun h_n19 c_n19 H hK hP hD hS => ?_)
  have hP : va_P (dC, dI) vwCl [(h_this, .inr (2, [.ref h_n5, .null, .int (0 : Int32), .null, .int (0 : Int32)])), ob_Datum h_n5 h_n5_kinds h_n5_values h_n5_followers (0 : Int32) h_n5_openLists h_n5_lastParts (0 : Int32), ar_ h_n5_kinds c_n5_kinds 200 (fun _ => 0), ar_ h_n5_values c_n5_values 200 (fun _ => 0), ar_ h_n5_followers c_n5_followers 200 (fun _ => 0), ar_ h_n5_openLists c_n5_openLists 12 (fun _ => 0), ar_ h_n5_lastParts c_n5_lastParts 12 (fun _ => 0), ar_ h_n19 c_n19 512 (fun _ => 0)] H := hP
  have hD : va_D A [(h_this, .inr (2, [.ref h_n5, .null, .int (0 : Int32), .null, .int (0 : Int32)])), ob_Datum h_n5 h_n5_kinds h_n5_values h_n5_followers (0 : Int32) h_n5_openLists h_n5_lastParts (0 : Int32), ar_ h_n5_kinds c_n5_kinds 200 (fun _ => 0), ar_ h_n5_values c_n5_values 200 (fun _ => 0), ar_ h_n5_followers c_n5_followers 200 (fun _ => 0), ar_ h_n5_openLists c_n5_openLists 12 (fun _ => 0), ar_ h_n5_lastParts c_n5_lastParts 12 (fun _ => 0), ar_ h_n19 c_n19 512 (fun _ => 0)] := hD
  have hK : va_K (dC, dI) vwCl [(c_n5_kinds, .int), (c_n5_values, .int), (c_n5_followers, .int), (c_n5_openLists, .int), (c_n5_lastParts, .int), (c_n19, .int)] s := hK
  refine W.widen (k := 7) (n := 1143) (Nat.le_of_ble_eq_true rfl) (Nat.le_of_ble_eq_true rfl) ?_
  refine va_putF (D := (dC, dI)) (ci := 2) (v := .ref h_n19) (ty := (.array .int)) (C := R_Program) (T := T_Program) (N := 5) hx hb hts in_Program t_Program t_Program_ok nm_Program hown hK hP hD hS 0 rfl rfl 1 (by decide) (hts _ kt_72) (fun _ h9 => h9) rfl hin rfl (by decide +kernel) rfl rfl (Nat.le_of_ble_eq_true rfl) d_Program_new_21 (fun H locs hP hD hS => ?_)
  have hP : va_P (dC, dI) vwCl [(h_this, .inr (2, [.ref h_n5, .ref h_n19, .int (0 : Int32), .null, .int (0 : Int32)])), ob_Datum h_n5 h_n5_kinds h_n5_values h_n5_followers (0 : Int32) h_n5_openLists h_n5_lastParts (0 : Int32), ar_ h_n5_kinds c_n5_kinds 200 (fun _ => 0), ar_ h_n5_values c_n5_values 200 (fun _ => 0), ar_ h_n5_followers c_n5_followers 200 (fun _ => 0), ar_ h_n5_openLists c_n5_openLists 12 (fun _ => 0), ar_ h_n5_lastParts c_n5_lastParts 12 (fun _ => 0), ar_ h_n19 c_n19 512 (fun _ => 0)] H := hP
  have hD : va_D A [(h_this, .inr (2, [.ref h_n5, .ref h_n19, .int (0 : Int32), .null, .int (0 : Int32)])), ob_Datum h_n5 h_n5_kinds h_n5_values h_n5_followers (0 : Int32) h_n5_openLists h_n5_lastParts (0 : Int32), ar_ h_n5_kinds c_n5_kinds 200 (fun _ => 0), ar_ h_n5_values c_n5_values 200 (fun _ => 0), ar_ h_n5_followers c_n5_followers 200 (fun _ => 0), ar_ h_n5_openLists c_n5_openLists 12 (fun _ => 0), ar_ h_n5_lastParts c_n5_lastParts 12 (fun _ => 0), ar_ h_n19 c_n19 512 (fun _ => 0)] := hD
  refine lv_aload_n hx hb d_Program_new_24 rfl (lv_at hl 0 rfl) ?_
  refine lv_iconst (v := 0) hx hb d_Program_new_25 (by decide) ?_
  refine va_put (D := (dC, dI)) (ci := 2) (v := .int (0 : Int32)) (ty := .int) (C := R_Program) (T := T_Program) (N := 5) hx hb hts in_Program t_Program t_Program_ok nm_Program hown hK hP hD hS 0 rfl rfl 2 (by decide) (hts _ kt_73) (fun _ h9 => h9) rfl (by decide +kernel) rfl rfl (Nat.le_of_ble_eq_true rfl) d_Program_new_26 (fun H locs hP hD hS => ?_)
  have hP : va_P (dC, dI) vwCl [(h_this, .inr (2, [.ref h_n5, .ref h_n19, .int (0 : Int32), .null, .int (0 : Int32)])), ob_Datum h_n5 h_n5_kinds h_n5_values h_n5_followers (0 : Int32) h_n5_openLists h_n5_lastParts (0 : Int32), ar_ h_n5_kinds c_n5_kinds 200 (fun _ => 0), ar_ h_n5_values c_n5_values 200 (fun _ => 0), ar_ h_n5_followers c_n5_followers 200 (fun _ => 0), ar_ h_n5_openLists c_n5_openLists 12 (fun _ => 0), ar_ h_n5_lastParts c_n5_lastParts 12 (fun _ => 0), ar_ h_n19 c_n19 512 (fun _ => 0)] H := hP
  have hD : va_D A [(h_this, .inr (2, [.ref h_n5, .ref h_n19, .int (0 : Int32), .null, .int (0 : Int32)])), ob_Datum h_n5 h_n5_kinds h_n5_values h_n5_followers (0 : Int32) h_n5_openLists h_n5_lastParts (0 : Int32), ar_ h_n5_kinds c_n5_kinds 200 (fun _ => 0), ar_ h_n5_values c_n5_values 200 (fun _ => 0), ar_ h_n5_followers c_n5_followers 200 (fun _ => 0), ar_ h_n5_openLists c_n5_openLists 12 (fun _ => 0), ar_ h_n5_lastParts c_n5_lastParts 12 (fun _ => 0), ar_ h_n19 c_n19 512 (fun _ => 0)] := hD
  refine lv_aload_n hx hb d_Program_new_29 rfl (lv_at hl 0 rfl) ?_
  refine lv_sipush (v := 201) hx hb d_Program_new_30 (by decide) ?_
  refine va_newa (atype := .int) (N' := 201) (a0 := (201, .inl (fun _ => 0))) (ty := .int) (n := (201 : Int32)) hx hb (hts _ kt_59) rfl hK hP hD hS hA (fun _ => rfl) (by decide) (by decide) (by decide) (Nat.le_of_ble_eq_true rfl) (Nat.le_of_ble_eq_true rfl) d_Program_new_33 (fun h_n33 c_n33 H hK hP hD hS => ?_)
  have hP : va_P (dC, dI) vwCl [(h_this, .inr (2, [.ref h_n5, .ref h_n19, .int (0 : Int32), .null, .int (0 : Int32)])), ob_Datum h_n5 h_n5_kinds h_n5_values h_n5_followers (0 : Int32) h_n5_openLists h_n5_lastParts (0 : Int32), ar_ h_n5_kinds c_n5_kinds 200 (fun _ => 0), ar_ h_n5_values c_n5_values 200 (fun _ => 0), ar_ h_n5_followers c_n5_followers 200 (fun _ => 0), ar_ h_n5_openLists c_n5_openLists 12 (fun _ => 0), ar_ h_n5_lastParts c_n5_lastParts 12 (fun _ => 0), ar_ h_n19 c_n19 512 (fun _ => 0), ar_ h_n33 c_n33 201 (fun _ => 0)] H := hP
  have hD : va_D A [(h_this, .inr (2, [.ref h_n5, .ref h_n19, .int (0 : Int32), .null, .int (0 : Int32)])), ob_Datum h_n5 h_n5_kinds h_n5_values h_n5_followers (0 : Int32) h_n5_openLists h_n5_lastParts (0 : Int32), ar_ h_n5_kinds c_n5_kinds 200 (fun _ => 0), ar_ h_n5_values c_n5_values 200 (fun _ => 0), ar_ h_n5_followers c_n5_followers 200 (fun _ => 0), ar_ h_n5_openLists c_n5_openLists 12 (fun _ => 0), ar_ h_n5_lastParts c_n5_lastParts 12 (fun _ => 0), ar_ h_n19 c_n19 512 (fun _ => 0), ar_ h_n33 c_n33 201 (fun _ => 0)] := hD
  have hK : va_K (dC, dI) vwCl [(c_n5_kinds, .int), (c_n5_values, .int), (c_n5_followers, .int), (c_n5_openLists, .int), (c_n5_lastParts, .int), (c_n19, .int), (c_n33, .int)] s := hK
  refine W.widen (k := 8) (n := 1344) (Nat.le_of_ble_eq_true rfl) (Nat.le_of_ble_eq_true rfl) ?_
  refine va_putF (D := (dC, dI)) (ci := 2) (v := .ref h_n33) (ty := (.array .int)) (C := R_Program) (T := T_Program) (N := 5) hx hb hts in_Program t_Program t_Program_ok nm_Program hown hK hP hD hS 0 rfl rfl 3 (by decide) (hts _ kt_76) (fun _ h9 => h9) rfl hin rfl (by decide +kernel) rfl rfl (Nat.le_of_ble_eq_true rfl) d_Program_new_35 (fun H locs hP hD hS => ?_)
  have hP : va_P (dC, dI) vwCl [ob_Program h_this h_n5 h_n19 (0 : Int32) h_n33 (0 : Int32), ob_Datum h_n5 h_n5_kinds h_n5_values h_n5_followers (0 : Int32) h_n5_openLists h_n5_lastParts (0 : Int32), ar_ h_n5_kinds c_n5_kinds 200 (fun _ => 0), ar_ h_n5_values c_n5_values 200 (fun _ => 0), ar_ h_n5_followers c_n5_followers 200 (fun _ => 0), ar_ h_n5_openLists c_n5_openLists 12 (fun _ => 0), ar_ h_n5_lastParts c_n5_lastParts 12 (fun _ => 0), ar_ h_n19 c_n19 512 (fun _ => 0), ar_ h_n33 c_n33 201 (fun _ => 0)] H := hP
  have hD : va_D A [ob_Program h_this h_n5 h_n19 (0 : Int32) h_n33 (0 : Int32), ob_Datum h_n5 h_n5_kinds h_n5_values h_n5_followers (0 : Int32) h_n5_openLists h_n5_lastParts (0 : Int32), ar_ h_n5_kinds c_n5_kinds 200 (fun _ => 0), ar_ h_n5_values c_n5_values 200 (fun _ => 0), ar_ h_n5_followers c_n5_followers 200 (fun _ => 0), ar_ h_n5_openLists c_n5_openLists 12 (fun _ => 0), ar_ h_n5_lastParts c_n5_lastParts 12 (fun _ => 0), ar_ h_n19 c_n19 512 (fun _ => 0), ar_ h_n33 c_n33 201 (fun _ => 0)] := hD
  refine lv_aload_n hx hb d_Program_new_38 rfl (lv_at hl 0 rfl) ?_
  refine lv_iconst (v := 0) hx hb d_Program_new_39 (by decide) ?_
  refine va_put (D := (dC, dI)) (ci := 2) (v := .int (0 : Int32)) (ty := .int) (C := R_Program) (T := T_Program) (N := 5) hx hb hts in_Program t_Program t_Program_ok nm_Program hown hK hP hD hS 0 rfl rfl 4 (by decide) (hts _ kt_77) (fun _ h9 => h9) rfl (by decide +kernel) rfl rfl (Nat.le_of_ble_eq_true rfl) d_Program_new_40 (fun H locs hP hD hS => ?_)
  have hP : va_P (dC, dI) vwCl [ob_Program h_this h_n5 h_n19 (0 : Int32) h_n33 (0 : Int32), ob_Datum h_n5 h_n5_kinds h_n5_values h_n5_followers (0 : Int32) h_n5_openLists h_n5_lastParts (0 : Int32), ar_ h_n5_kinds c_n5_kinds 200 (fun _ => 0), ar_ h_n5_values c_n5_values 200 (fun _ => 0), ar_ h_n5_followers c_n5_followers 200 (fun _ => 0), ar_ h_n5_openLists c_n5_openLists 12 (fun _ => 0), ar_ h_n5_lastParts c_n5_lastParts 12 (fun _ => 0), ar_ h_n19 c_n19 512 (fun _ => 0), ar_ h_n33 c_n33 201 (fun _ => 0)] H := hP
  have hD : va_D A [ob_Program h_this h_n5 h_n19 (0 : Int32) h_n33 (0 : Int32), ob_Datum h_n5 h_n5_kinds h_n5_values h_n5_followers (0 : Int32) h_n5_openLists h_n5_lastParts (0 : Int32), ar_ h_n5_kinds c_n5_kinds 200 (fun _ => 0), ar_ h_n5_values c_n5_values 200 (fun _ => 0), ar_ h_n5_followers c_n5_followers 200 (fun _ => 0), ar_ h_n5_openLists c_n5_openLists 12 (fun _ => 0), ar_ h_n5_lastParts c_n5_lastParts 12 (fun _ => 0), ar_ h_n19 c_n19 512 (fun _ => 0), ar_ h_n33 c_n33 201 (fun _ => 0)] := hD
  have hP9 : va_P (dC, dI) vwCl [ob_Program h_this h_n5 h_n19 (0 : Int32) h_n33 (0 : Int32), ob_Datum h_n5 h_n5_kinds h_n5_values h_n5_followers (0 : Int32) h_n5_openLists h_n5_lastParts (0 : Int32), ar_ h_n5_followers c_n5_followers 200 (fun _ => 0), ar_ h_n5_kinds c_n5_kinds 200 (fun _ => 0), ar_ h_n5_lastParts c_n5_lastParts 12 (fun _ => 0), ar_ h_n5_openLists c_n5_openLists 12 (fun _ => 0), ar_ h_n5_values c_n5_values 200 (fun _ => 0), ar_ h_n19 c_n19 512 (fun _ => 0), ar_ h_n33 c_n33 201 (fun _ => 0)] _ := hP.sub [0, 1, 4, 2, 6, 5, 3, 7, 8] rfl
  have hD9 : va_D A [ob_Program h_this h_n5 h_n19 (0 : Int32) h_n33 (0 : Int32), ob_Datum h_n5 h_n5_kinds h_n5_values h_n5_followers (0 : Int32) h_n5_openLists h_n5_lastParts (0 : Int32), ar_ h_n5_followers c_n5_followers 200 (fun _ => 0), ar_ h_n5_kinds c_n5_kinds 200 (fun _ => 0), ar_ h_n5_lastParts c_n5_lastParts 12 (fun _ => 0), ar_ h_n5_openLists c_n5_openLists 12 (fun _ => 0), ar_ h_n5_values c_n5_values 200 (fun _ => 0), ar_ h_n19 c_n19 512 (fun _ => 0), ar_ h_n33 c_n33 201 (fun _ => 0)] := hD.sub [0, 1, 4, 2, 6, 5, 3, 7, 8] (by decide) rfl
  have hK9 : va_K (dC, dI) vwCl [(c_n5_followers, .int), (c_n5_kinds, .int), (c_n5_lastParts, .int), (c_n5_openLists, .int), (c_n5_values, .int), (c_n19, .int), (c_n33, .int)] s := hK.sub [2, 0, 4, 3, 1, 5, 6] rfl
  refine W.widen (k := 8) (n := 1344) (Nat.le_of_ble_eq_true rfl) (Nat.le_of_ble_eq_true rfl) ?_
  rw [hQ]
  exact W.vret hx hb hr (fun t ht hW => ⟨⟨(), rfl, hw, h_n5, h_n5_followers, h_n5_kinds, h_n5_lastParts, h_n5_openLists, h_n5_values, h_n19, h_n33, c_n5_followers, c_n5_kinds, c_n5_lastParts, c_n5_openLists, c_n5_values, c_n19, c_n33, by rw [ht]; exact hP9, va_K.moved hW.alike hK9, hD9⟩, hS.F ht⟩) hS.2.2 d_Program_new_43

set_option maxHeartbeats 8000000 in
set_option maxRecDepth 100000 in
theorem c_Memory_new (l : Launch) (dC : Nat → ClassId) (dI : Nat → Nat → Nat) (h_this : Nat)  (sz : Nat)   (x1 : Int32) (post : Prop) (hw : wp_Memory_new   x1 post) : Met l y_Memory_new (ws_ y_Memory_new b_Memory_new 2 none) { frames := 1, cells := 6, slots := 1200, locals := 20 } (va_Pc [.ref h_this, .int x1] (PRE (dC, dI) vwCl [] [(h_this, .inr (4, [.int (0 : Int32), .null, .null, .null, .null, .int (0 : Int32), .null, .null, .int (0 : Int32)]))] sz (va_A [(h_this, .inr (4, [.int (0 : Int32), .null, .null, .null, .null, .int (0 : Int32), .null, .null, .int (0 : Int32)]))] sz))) (va_Qv (fun (u : Unit) => post ) (fun (u : Unit) (t : State) => (∃ (h_n11 : Nat), (∃ (h_n18 : Nat), (∃ (h_n25 : Nat), (∃ (h_n32 : Nat), (∃ (h_n44 : Nat), (∃ (h_n51 : Nat), (∃ (c_n11 : ClassId), (∃ (c_n18 : ClassId), (∃ (c_n25 : ClassId), (∃ (c_n32 : ClassId), (∃ (c_n44 : ClassId), (∃ (c_n51 : ClassId), va_P (dC, dI) vwCl [ob_Memory h_this x1 h_n11 h_n18 h_n25 h_n32 (0 : Int32) h_n44 h_n51 (0 : Int32), ar_ h_n11 c_n11 x1.toNatClampNeg (fun _ => 0), ar_ h_n18 c_n18 x1.toNatClampNeg (fun _ => 0), ar_ h_n25 c_n25 x1.toNatClampNeg (fun _ => 0), ar_ h_n32 c_n32 x1.toNatClampNeg (fun _ => 0), ar_ h_n44 c_n44 x1.toNatClampNeg (fun _ => 0), ar_ h_n51 c_n51 x1.toNatClampNeg (fun _ => 0)] t.heap ∧ va_K (dC, dI) vwCl [(c_n11, .int), (c_n18, .int), (c_n25, .int), (c_n32, .int), (c_n44, .boolean), (c_n51, .int)] t ∧ va_D (va_A [(h_this, .inr (4, [.int (0 : Int32), .null, .null, .null, .null, .int (0 : Int32), .null, .null, .int (0 : Int32)]))] sz) [ob_Memory h_this x1 h_n11 h_n18 h_n25 h_n32 (0 : Int32) h_n44 h_n51 (0 : Int32), ar_ h_n11 c_n11 x1.toNatClampNeg (fun _ => 0), ar_ h_n18 c_n18 x1.toNatClampNeg (fun _ => 0), ar_ h_n25 c_n25 x1.toNatClampNeg (fun _ => 0), ar_ h_n32 c_n32 x1.toNatClampNeg (fun _ => 0), ar_ h_n44 c_n44 x1.toNatClampNeg (fun _ => 0), ar_ h_n51 c_n51 x1.toNatClampNeg (fun _ => 0)]))))))))))))) (va_A [(h_this, .inr (4, [.int (0 : Int32), .null, .null, .null, .null, .int (0 : Int32), .null, .null, .int (0 : Int32)]))] sz)) 6 1200 (va_A [(h_this, .inr (4, [.int (0 : Int32), .null, .null, .null, .null, .int (0 : Int32), .null, .null, .int (0 : Int32)]))] sz) := by
  refine Met.ofW (cc := b_Memory_new) (maxL := 2) (ret := none) (by decide) rfl ?_
  intro p e s m args below meth c s₁ B hml hv
  obtain ⟨rfl, hsz, hP, hK, hD0, hG⟩ := hv
  have hx := B.exec
  have hb := B.bytes
  have hr := B.returns
  have hts : ∀ w ∈ tb, w.before _ s = true := fun w h => atoms_spec (ws := ws_ _ _ _ _) B.pre w (List.mem_cons_of_mem _ h)
  have hown : s.vm.findClass R_Memory = some m.cls := findClass_of_methodNamed B.named
  have hlocks := B.notSynchronized
  have hin : meth.name = "<init>" := (name_of_methodNamed B.named B.method).1
  subst hsz
  have hD := hD0.self (sz := s.heap.size)
  generalize hAe : va_A [(h_this, .inr (4, [.int (0 : Int32), .null, .null, .null, .null, .int (0 : Int32), .null, .null, .int (0 : Int32)]))] s.heap.size = A at hD hG ⊢
  have hA : ∀ q : Nat, s.heap.size ≤ q → A q := fun q h => by rw [← hAe]; exact Or.inr h
  have hS : va_S A s.heap s.heap [] := va_S.rf
  have hP : va_P (dC, dI) vwCl [(h_this, .inr (4, [.int (0 : Int32), .null, .null, .null, .null, .int (0 : Int32), .null, .null, .int (0 : Int32)]))] s.heap := hP
  have hl := lv_entry [.ref h_this, .int x1] (n := 2) (Nat.le_of_ble_eq_true rfl)
  rw [lg_entry_eq]
  generalize (lg_sl [.ref h_this, .int x1] ++ List.replicate (2 - (lg_sl [.ref h_this, .int x1]).length) Slot.unset).toArray = ls at hl ⊢
  have hl : lv_has ls 2 [(0, .ref h_this), (1, .int x1)] := hl
  obtain ⟨Q, hQ⟩ : ∃ Q : State → Prop, Q = MQ below (va_Qv (fun (u : Unit) => post ) (fun (u : Unit) (t : State) => (∃ (h_n11 : Nat), (∃ (h_n18 : Nat), (∃ (h_n25 : Nat), (∃ (h_n32 : Nat), (∃ (h_n44 : Nat), (∃ (h_n51 : Nat), (∃ (c_n11 : ClassId), (∃ (c_n18 : ClassId), (∃ (c_n25 : ClassId), (∃ (c_n32 : ClassId), (∃ (c_n44 : ClassId), (∃ (c_n51 : ClassId), va_P (dC, dI) vwCl [ob_Memory h_this x1 h_n11 h_n18 h_n25 h_n32 (0 : Int32) h_n44 h_n51 (0 : Int32), ar_ h_n11 c_n11 x1.toNatClampNeg (fun _ => 0), ar_ h_n18 c_n18 x1.toNatClampNeg (fun _ => 0), ar_ h_n25 c_n25 x1.toNatClampNeg (fun _ => 0), ar_ h_n32 c_n32 x1.toNatClampNeg (fun _ => 0), ar_ h_n44 c_n44 x1.toNatClampNeg (fun _ => 0), ar_ h_n51 c_n51 x1.toNatClampNeg (fun _ => 0)] t.heap ∧ va_K (dC, dI) vwCl [(c_n11, .int), (c_n18, .int), (c_n25, .int), (c_n32, .int), (c_n44, .boolean), (c_n51, .int)] t ∧ va_D A [ob_Memory h_this x1 h_n11 h_n18 h_n25 h_n32 (0 : Int32) h_n44 h_n51 (0 : Int32), ar_ h_n11 c_n11 x1.toNatClampNeg (fun _ => 0), ar_ h_n18 c_n18 x1.toNatClampNeg (fun _ => 0), ar_ h_n25 c_n25 x1.toNatClampNeg (fun _ => 0), ar_ h_n32 c_n32 x1.toNatClampNeg (fun _ => 0), ar_ h_n44 c_n44 x1.toNatClampNeg (fun _ => 0), ar_ h_n51 c_n51 x1.toNatClampNeg (fun _ => 0)]))))))))))))) A) ([.ref h_this, .int x1] : List Value).toArray s 6 1200 A := ⟨_, rfl⟩
  rw [← hQ]
  unfold wp_Memory_new at hw
  refine lv_aload_n hx hb d_Memory_new_0 rfl (lv_at hl 0 rfl) ?_
  refine W.objInit hx hb hown (hts _ kt_185) (hts _ kt_28) (hts _ kt_29) rfl (by rw [hml]; exact hl.1) rfl d_Memory_new_1 (Nat.le_of_ble_eq_true rfl) (Nat.le_of_ble_eq_true rfl) ?_
  refine W.eq (g2 := F0 m 4 ls []) rfl ?_
  refine lv_aload_n hx hb d_Memory_new_4 rfl (lv_at hl 0 rfl) ?_
  refine lv_iload_n hx hb d_Memory_new_5 rfl (lv_at hl 1 rfl) ?_
  refine va_putF (D := (dC, dI)) (ci := 4) (v := .int x1) (ty := .int) (C := R_Memory) (T := T_Memory) (N := 9) hx hb hts in_Memory t_Memory t_Memory_ok nm_Memory hown hK hP hD hS 0 rfl rfl 0 (by decide) (hts _ kt_186) (fun _ h9 => h9) rfl hin rfl (by decide +kernel) rfl rfl (Nat.le_of_ble_eq_true rfl) d_Memory_new_6 (fun H locs hP hD hS => ?_)
  have hP : va_P (dC, dI) vwCl [(h_this, .inr (4, [.int x1, .null, .null, .null, .null, .int (0 : Int32), .null, .null, .int (0 : Int32)]))] H := hP
  have hD : va_D A [(h_this, .inr (4, [.int x1, .null, .null, .null, .null, .int (0 : Int32), .null, .null, .int (0 : Int32)]))] := hD
  refine lv_aload_n hx hb d_Memory_new_9 rfl (lv_at hl 0 rfl) ?_
  refine lv_iload_n hx hb d_Memory_new_10 rfl (lv_at hl 1 rfl) ?_
  obtain ⟨h_1, h_2, hw⟩ := hw
  refine va_newa (atype := .int) (N' := x1.toNatClampNeg) (a0 := (x1.toNatClampNeg, .inl (fun _ => 0))) (ty := .int) (n := x1) hx hb (hts _ kt_59) rfl hK hP hD hS hA (fun _ => rfl) h_1 rfl (Nat.le_trans (Nat.mul_le_mul_right _ h_2) (by decide)) (Nat.le_of_ble_eq_true rfl) (by show 0 + x1.toNatClampNeg ≤ 1200; omega) d_Memory_new_11 (fun h_n11 c_n11 H hK hP hD hS => ?_)
  have hP : va_P (dC, dI) vwCl [(h_this, .inr (4, [.int x1, .null, .null, .null, .null, .int (0 : Int32), .null, .null, .int (0 : Int32)])), ar_ h_n11 c_n11 x1.toNatClampNeg (fun _ => 0)] H := hP
  have hD : va_D A [(h_this, .inr (4, [.int x1, .null, .null, .null, .null, .int (0 : Int32), .null, .null, .int (0 : Int32)])), ar_ h_n11 c_n11 x1.toNatClampNeg (fun _ => 0)] := hD
  have hK : va_K (dC, dI) vwCl [(c_n11, .int)] s := hK
  refine W.widen (k := 1) (n := 200) (Nat.le_of_ble_eq_true rfl) (by omega) ?_
  refine va_putF (D := (dC, dI)) (ci := 4) (v := .ref h_n11) (ty := (.array .int)) (C := R_Memory) (T := T_Memory) (N := 9) hx hb hts in_Memory t_Memory t_Memory_ok nm_Memory hown hK hP hD hS 0 rfl rfl 1 (by decide) (hts _ kt_189) (fun _ h9 => h9) rfl hin rfl (by decide +kernel) rfl rfl (Nat.le_of_ble_eq_true rfl) d_Memory_new_13 (fun H locs hP hD hS => ?_)
  have hP : va_P (dC, dI) vwCl [(h_this, .inr (4, [.int x1, .ref h_n11, .null, .null, .null, .int (0 : Int32), .null, .null, .int (0 : Int32)])), ar_ h_n11 c_n11 x1.toNatClampNeg (fun _ => 0)] H := hP
  have hD : va_D A [(h_this, .inr (4, [.int x1, .ref h_n11, .null, .null, .null, .int (0 : Int32), .null, .null, .int (0 : Int32)])), ar_ h_n11 c_n11 x1.toNatClampNeg (fun _ => 0)] := hD
  refine lv_aload_n hx hb d_Memory_new_16 rfl (lv_at hl 0 rfl) ?_
  refine lv_iload_n hx hb d_Memory_new_17 rfl (lv_at hl 1 rfl) ?_
  obtain ⟨h_3, h_4, hw⟩ := hw
  refine va_newa (atype := .int) (N' := x1.toNatClampNeg) (a0 := (x1.toNatClampNeg, .inl (fun _ => 0))) (ty := .int) (n := x1) hx hb (hts _ kt_59) rfl hK hP hD hS hA (fun _ => rfl) h_3 rfl (Nat.le_trans (Nat.mul_le_mul_right _ h_4) (by decide)) (Nat.le_of_ble_eq_true rfl) (by show 200 + x1.toNatClampNeg ≤ 1200; omega) d_Memory_new_18 (fun h_n18 c_n18 H hK hP hD hS => ?_)
  have hP : va_P (dC, dI) vwCl [(h_this, .inr (4, [.int x1, .ref h_n11, .null, .null, .null, .int (0 : Int32), .null, .null, .int (0 : Int32)])), ar_ h_n11 c_n11 x1.toNatClampNeg (fun _ => 0), ar_ h_n18 c_n18 x1.toNatClampNeg (fun _ => 0)] H := hP
  have hD : va_D A [(h_this, .inr (4, [.int x1, .ref h_n11, .null, .null, .null, .int (0 : Int32), .null, .null, .int (0 : Int32)])), ar_ h_n11 c_n11 x1.toNatClampNeg (fun _ => 0), ar_ h_n18 c_n18 x1.toNatClampNeg (fun _ => 0)] := hD
  have hK : va_K (dC, dI) vwCl [(c_n11, .int), (c_n18, .int)] s := hK
  refine W.widen (k := 2) (n := 400) (Nat.le_of_ble_eq_true rfl) (by omega) ?_
  refine va_putF (D := (dC, dI)) (ci := 4) (v := .ref h_n18) (ty := (.array .int)) (C := R_Memory) (T := T_Memory) (N := 9) hx hb hts in_Memory t_Memory t_Memory_ok nm_Memory hown hK hP hD hS 0 rfl rfl 2 (by decide) (hts _ kt_190) (fun _ h9 => h9) rfl hin rfl (by decide +kernel) rfl rfl (Nat.le_of_ble_eq_true rfl) d_Memory_new_20 (fun H locs hP hD hS => ?_)
  have hP : va_P (dC, dI) vwCl [(h_this, .inr (4, [.int x1, .ref h_n11, .ref h_n18, .null, .null, .int (0 : Int32), .null, .null, .int (0 : Int32)])), ar_ h_n11 c_n11 x1.toNatClampNeg (fun _ => 0), ar_ h_n18 c_n18 x1.toNatClampNeg (fun _ => 0)] H := hP
  have hD : va_D A [(h_this, .inr (4, [.int x1, .ref h_n11, .ref h_n18, .null, .null, .int (0 : Int32), .null, .null, .int (0 : Int32)])), ar_ h_n11 c_n11 x1.toNatClampNeg (fun _ => 0), ar_ h_n18 c_n18 x1.toNatClampNeg (fun _ => 0)] := hD
  refine lv_aload_n hx hb d_Memory_new_23 rfl (lv_at hl 0 rfl) ?_
  refine lv_iload_n hx hb d_Memory_new_24 rfl (lv_at hl 1 rfl) ?_
  obtain ⟨h_5, h_6, hw⟩ := hw
  refine va_newa (atype := .int) (N' := x1.toNatClampNeg) (a0 := (x1.toNatClampNeg, .inl (fun _ => 0))) (ty := .int) (n := x1) hx hb (hts _ kt_59) rfl hK hP hD hS hA (fun _ => rfl) h_5 rfl (Nat.le_trans (Nat.mul_le_mul_right _ h_6) (by decide)) (Nat.le_of_ble_eq_true rfl) (by show 400 + x1.toNatClampNeg ≤ 1200; omega) d_Memory_new_25 (fun h_n25 c_n25 H hK hP hD hS => ?_)
  have hP : va_P (dC, dI) vwCl [(h_this, .inr (4, [.int x1, .ref h_n11, .ref h_n18, .null, .null, .int (0 : Int32), .null, .null, .int (0 : Int32)])), ar_ h_n11 c_n11 x1.toNatClampNeg (fun _ => 0), ar_ h_n18 c_n18 x1.toNatClampNeg (fun _ => 0), ar_ h_n25 c_n25 x1.toNatClampNeg (fun _ => 0)] H := hP
  have hD : va_D A [(h_this, .inr (4, [.int x1, .ref h_n11, .ref h_n18, .null, .null, .int (0 : Int32), .null, .null, .int (0 : Int32)])), ar_ h_n11 c_n11 x1.toNatClampNeg (fun _ => 0), ar_ h_n18 c_n18 x1.toNatClampNeg (fun _ => 0), ar_ h_n25 c_n25 x1.toNatClampNeg (fun _ => 0)] := hD
  have hK : va_K (dC, dI) vwCl [(c_n11, .int), (c_n18, .int), (c_n25, .int)] s := hK
  refine W.widen (k := 3) (n := 600) (Nat.le_of_ble_eq_true rfl) (by omega) ?_
  refine va_putF (D := (dC, dI)) (ci := 4) (v := .ref h_n25) (ty := (.array .int)) (C := R_Memory) (T := T_Memory) (N := 9) hx hb hts in_Memory t_Memory t_Memory_ok nm_Memory hown hK hP hD hS 0 rfl rfl 3 (by decide) (hts _ kt_191) (fun _ h9 => h9) rfl hin rfl (by decide +kernel) rfl rfl (Nat.le_of_ble_eq_true rfl) d_Memory_new_27 (fun H locs hP hD hS => ?_)
  have hP : va_P (dC, dI) vwCl [(h_this, .inr (4, [.int x1, .ref h_n11, .ref h_n18, .ref h_n25, .null, .int (0 : Int32), .null, .null, .int (0 : Int32)])), ar_ h_n11 c_n11 x1.toNatClampNeg (fun _ => 0), ar_ h_n18 c_n18 x1.toNatClampNeg (fun _ => 0), ar_ h_n25 c_n25 x1.toNatClampNeg (fun _ => 0)] H := hP
  have hD : va_D A [(h_this, .inr (4, [.int x1, .ref h_n11, .ref h_n18, .ref h_n25, .null, .int (0 : Int32), .null, .null, .int (0 : Int32)])), ar_ h_n11 c_n11 x1.toNatClampNeg (fun _ => 0), ar_ h_n18 c_n18 x1.toNatClampNeg (fun _ => 0), ar_ h_n25 c_n25 x1.toNatClampNeg (fun _ => 0)] := hD
  refine lv_aload_n hx hb d_Memory_new_30 rfl (lv_at hl 0 rfl) ?_
  refine lv_iload_n hx hb d_Memory_new_31 rfl (lv_at hl 1 rfl) ?_
  obtain ⟨h_7, h_8, hw⟩ := hw
  refine va_newa (atype := .int) (N' := x1.toNatClampNeg) (a0 := (x1.toNatClampNeg, .inl (fun _ => 0))) (ty := .int) (n := x1) hx hb (hts _ kt_59) rfl hK hP hD hS hA (fun _ => rfl) h_7 rfl (Nat.le_trans (Nat.mul_le_mul_right _ h_8) (by decide)) (Nat.le_of_ble_eq_true rfl) (by show 600 + x1.toNatClampNeg ≤ 1200; omega) d_Memory_new_32 (fun h_n32 c_n32 H hK hP hD hS => ?_)
  have hP : va_P (dC, dI) vwCl [(h_this, .inr (4, [.int x1, .ref h_n11, .ref h_n18, .ref h_n25, .null, .int (0 : Int32), .null, .null, .int (0 : Int32)])), ar_ h_n11 c_n11 x1.toNatClampNeg (fun _ => 0), ar_ h_n18 c_n18 x1.toNatClampNeg (fun _ => 0), ar_ h_n25 c_n25 x1.toNatClampNeg (fun _ => 0), ar_ h_n32 c_n32 x1.toNatClampNeg (fun _ => 0)] H := hP
  have hD : va_D A [(h_this, .inr (4, [.int x1, .ref h_n11, .ref h_n18, .ref h_n25, .null, .int (0 : Int32), .null, .null, .int (0 : Int32)])), ar_ h_n11 c_n11 x1.toNatClampNeg (fun _ => 0), ar_ h_n18 c_n18 x1.toNatClampNeg (fun _ => 0), ar_ h_n25 c_n25 x1.toNatClampNeg (fun _ => 0), ar_ h_n32 c_n32 x1.toNatClampNeg (fun _ => 0)] := hD
  have hK : va_K (dC, dI) vwCl [(c_n11, .int), (c_n18, .int), (c_n25, .int), (c_n32, .int)] s := hK
  refine W.widen (k := 4) (n := 800) (Nat.le_of_ble_eq_true rfl) (by omega) ?_
  refine va_putF (D := (dC, dI)) (ci := 4) (v := .ref h_n32) (ty := (.array .int)) (C := R_Memory) (T := T_Memory) (N := 9) hx hb hts in_Memory t_Memory t_Memory_ok nm_Memory hown hK hP hD hS 0 rfl rfl 4 (by decide) (hts _ kt_192) (fun _ h9 => h9) rfl hin rfl (by decide +kernel) rfl rfl (Nat.le_of_ble_eq_true rfl) d_Memory_new_34 (fun H locs hP hD hS => ?_)
  have hP : va_P (dC, dI) vwCl [(h_this, .inr (4, [.int x1, .ref h_n11, .ref h_n18, .ref h_n25, .ref h_n32, .int (0 : Int32), .null, .null, .int (0 : Int32)])), ar_ h_n11 c_n11 x1.toNatClampNeg (fun _ => 0), ar_ h_n18 c_n18 x1.toNatClampNeg (fun _ => 0), ar_ h_n25 c_n25 x1.toNatClampNeg (fun _ => 0), ar_ h_n32 c_n32 x1.toNatClampNeg (fun _ => 0)] H := hP
  have hD : va_D A [(h_this, .inr (4, [.int x1, .ref h_n11, .ref h_n18, .ref h_n25, .ref h_n32, .int (0 : Int32), .null, .null, .int (0 : Int32)])), ar_ h_n11 c_n11 x1.toNatClampNeg (fun _ => 0), ar_ h_n18 c_n18 x1.toNatClampNeg (fun _ => 0), ar_ h_n25 c_n25 x1.toNatClampNeg (fun _ => 0), ar_ h_n32 c_n32 x1.toNatClampNeg (fun _ => 0)] := hD
  refine lv_aload_n hx hb d_Memory_new_37 rfl (lv_at hl 0 rfl) ?_
  refine lv_iconst (v := 0) hx hb d_Memory_new_38 (by decide) ?_
  refine va_put (D := (dC, dI)) (ci := 4) (v := .int (0 : Int32)) (ty := .int) (C := R_Memory) (T := T_Memory) (N := 9) hx hb hts in_Memory t_Memory t_Memory_ok nm_Memory hown hK hP hD hS 0 rfl rfl 5 (by decide) (hts _ kt_193) (fun _ h9 => h9) rfl (by decide +kernel) rfl rfl (Nat.le_of_ble_eq_true rfl) d_Memory_new_39 (fun H locs hP hD hS => ?_)
  have hP : va_P (dC, dI) vwCl [(h_this, .inr (4, [.int x1, .ref h_n11, .ref h_n18, .ref h_n25, .ref h_n32, .int (0 : Int32), .null, .null, .int (0 : Int32)])), ar_ h_n11 c_n11 x1.toNatClampNeg (fun _ => 0), ar_ h_n18 c_n18 x1.toNatClampNeg (fun _ => 0), ar_ h_n25 c_n25 x1.toNatClampNeg (fun _ => 0), ar_ h_n32 c_n32 x1.toNatClampNeg (fun _ => 0)] H := hP
  have hD : va_D A [(h_this, .inr (4, [.int x1, .ref h_n11, .ref h_n18, .ref h_n25, .ref h_n32, .int (0 : Int32), .null, .null, .int (0 : Int32)])), ar_ h_n11 c_n11 x1.toNatClampNeg (fun _ => 0), ar_ h_n18 c_n18 x1.toNatClampNeg (fun _ => 0), ar_ h_n25 c_n25 x1.toNatClampNeg (fun _ => 0), ar_ h_n32 c_n32 x1.toNatClampNeg (fun _ => 0)] := hD
  refine lv_aload_n hx hb d_Memory_new_42 rfl (lv_at hl 0 rfl) ?_
  refine lv_iload_n hx hb d_Memory_new_43 rfl (lv_at hl 1 rfl) ?_
  obtain ⟨h_9, h_10, hw⟩ := hw
  refine va_newa (atype := .boolean) (N' := x1.toNatClampNeg) (a0 := (x1.toNatClampNeg, .inl (fun _ => 0))) (ty := .boolean) (n := x1) hx hb (hts _ kt_218) rfl hK hP hD hS hA (fun _ => rfl) h_9 rfl (Nat.le_trans (Nat.mul_le_mul_right _ h_10) (by decide)) (Nat.le_of_ble_eq_true rfl) (by show 800 + x1.toNatClampNeg ≤ 1200; omega) d_Memory_new_44 (fun h_n44 c_n44 H hK hP hD hS => ?_)
  have hP : va_P (dC, dI) vwCl [(h_this, .inr (4, [.int x1, .ref h_n11, .ref h_n18, .ref h_n25, .ref h_n32, .int (0 : Int32), .null, .null, .int (0 : Int32)])), ar_ h_n11 c_n11 x1.toNatClampNeg (fun _ => 0), ar_ h_n18 c_n18 x1.toNatClampNeg (fun _ => 0), ar_ h_n25 c_n25 x1.toNatClampNeg (fun _ => 0), ar_ h_n32 c_n32 x1.toNatClampNeg (fun _ => 0), ar_ h_n44 c_n44 x1.toNatClampNeg (fun _ => 0)] H := hP
  have hD : va_D A [(h_this, .inr (4, [.int x1, .ref h_n11, .ref h_n18, .ref h_n25, .ref h_n32, .int (0 : Int32), .null, .null, .int (0 : Int32)])), ar_ h_n11 c_n11 x1.toNatClampNeg (fun _ => 0), ar_ h_n18 c_n18 x1.toNatClampNeg (fun _ => 0), ar_ h_n25 c_n25 x1.toNatClampNeg (fun _ => 0), ar_ h_n32 c_n32 x1.toNatClampNeg (fun _ => 0), ar_ h_n44 c_n44 x1.toNatClampNeg (fun _ => 0)] := hD
  have hK : va_K (dC, dI) vwCl [(c_n11, .int), (c_n18, .int), (c_n25, .int), (c_n32, .int), (c_n44, .boolean)] s := hK
  refine W.widen (k := 5) (n := 1000) (Nat.le_of_ble_eq_true rfl) (by omega) ?_
  refine va_putF (D := (dC, dI)) (ci := 4) (v := .ref h_n44) (ty := (.array .boolean)) (C := R_Memory) (T := T_Memory) (N := 9) hx hb hts in_Memory t_Memory t_Memory_ok nm_Memory hown hK hP hD hS 0 rfl rfl 6 (by decide) (hts _ kt_196) (fun _ h9 => h9) rfl hin rfl (by decide +kernel) rfl rfl (Nat.le_of_ble_eq_true rfl) d_Memory_new_46 (fun H locs hP hD hS => ?_)
  have hP : va_P (dC, dI) vwCl [(h_this, .inr (4, [.int x1, .ref h_n11, .ref h_n18, .ref h_n25, .ref h_n32, .int (0 : Int32), .ref h_n44, .null, .int (0 : Int32)])), ar_ h_n11 c_n11 x1.toNatClampNeg (fun _ => 0), ar_ h_n18 c_n18 x1.toNatClampNeg (fun _ => 0), ar_ h_n25 c_n25 x1.toNatClampNeg (fun _ => 0), ar_ h_n32 c_n32 x1.toNatClampNeg (fun _ => 0), ar_ h_n44 c_n44 x1.toNatClampNeg (fun _ => 0)] H := hP
  have hD : va_D A [(h_this, .inr (4, [.int x1, .ref h_n11, .ref h_n18, .ref h_n25, .ref h_n32, .int (0 : Int32), .ref h_n44, .null, .int (0 : Int32)])), ar_ h_n11 c_n11 x1.toNatClampNeg (fun _ => 0), ar_ h_n18 c_n18 x1.toNatClampNeg (fun _ => 0), ar_ h_n25 c_n25 x1.toNatClampNeg (fun _ => 0), ar_ h_n32 c_n32 x1.toNatClampNeg (fun _ => 0), ar_ h_n44 c_n44 x1.toNatClampNeg (fun _ => 0)] := hD
  refine lv_aload_n hx hb d_Memory_new_49 rfl (lv_at hl 0 rfl) ?_
  refine lv_iload_n hx hb d_Memory_new_50 rfl (lv_at hl 1 rfl) ?_
  obtain ⟨h_11, h_12, hw⟩ := hw
  refine va_newa (atype := .int) (N' := x1.toNatClampNeg) (a0 := (x1.toNatClampNeg, .inl (fun _ => 0))) (ty := .int) (n := x1) hx hb (hts _ kt_59) rfl hK hP hD hS hA (fun _ => rfl) h_11 rfl (Nat.le_trans (Nat.mul_le_mul_right _ h_12) (by decide)) (Nat.le_of_ble_eq_true rfl) (by show 1000 + x1.toNatClampNeg ≤ 1200; omega) d_Memory_new_51 (fun h_n51 c_n51 H hK hP hD hS => ?_)
  have hP : va_P (dC, dI) vwCl [(h_this, .inr (4, [.int x1, .ref h_n11, .ref h_n18, .ref h_n25, .ref h_n32, .int (0 : Int32), .ref h_n44, .null, .int (0 : Int32)])), ar_ h_n11 c_n11 x1.toNatClampNeg (fun _ => 0), ar_ h_n18 c_n18 x1.toNatClampNeg (fun _ => 0), ar_ h_n25 c_n25 x1.toNatClampNeg (fun _ => 0), ar_ h_n32 c_n32 x1.toNatClampNeg (fun _ => 0), ar_ h_n44 c_n44 x1.toNatClampNeg (fun _ => 0), ar_ h_n51 c_n51 x1.toNatClampNeg (fun _ => 0)] H := hP
  have hD : va_D A [(h_this, .inr (4, [.int x1, .ref h_n11, .ref h_n18, .ref h_n25, .ref h_n32, .int (0 : Int32), .ref h_n44, .null, .int (0 : Int32)])), ar_ h_n11 c_n11 x1.toNatClampNeg (fun _ => 0), ar_ h_n18 c_n18 x1.toNatClampNeg (fun _ => 0), ar_ h_n25 c_n25 x1.toNatClampNeg (fun _ => 0), ar_ h_n32 c_n32 x1.toNatClampNeg (fun _ => 0), ar_ h_n44 c_n44 x1.toNatClampNeg (fun _ => 0), ar_ h_n51 c_n51 x1.toNatClampNeg (fun _ => 0)] := hD
  have hK : va_K (dC, dI) vwCl [(c_n11, .int), (c_n18, .int), (c_n25, .int), (c_n32, .int), (c_n44, .boolean), (c_n51, .int)] s := hK
  refine W.widen (k := 6) (n := 1200) (Nat.le_of_ble_eq_true rfl) (by omega) ?_
  refine va_putF (D := (dC, dI)) (ci := 4) (v := .ref h_n51) (ty := (.array .int)) (C := R_Memory) (T := T_Memory) (N := 9) hx hb hts in_Memory t_Memory t_Memory_ok nm_Memory hown hK hP hD hS 0 rfl rfl 7 (by decide) (hts _ kt_197) (fun _ h9 => h9) rfl hin rfl (by decide +kernel) rfl rfl (Nat.le_of_ble_eq_true rfl) d_Memory_new_53 (fun H locs hP hD hS => ?_)
  have hP : va_P (dC, dI) vwCl [ob_Memory h_this x1 h_n11 h_n18 h_n25 h_n32 (0 : Int32) h_n44 h_n51 (0 : Int32), ar_ h_n11 c_n11 x1.toNatClampNeg (fun _ => 0), ar_ h_n18 c_n18 x1.toNatClampNeg (fun _ => 0), ar_ h_n25 c_n25 x1.toNatClampNeg (fun _ => 0), ar_ h_n32 c_n32 x1.toNatClampNeg (fun _ => 0), ar_ h_n44 c_n44 x1.toNatClampNeg (fun _ => 0), ar_ h_n51 c_n51 x1.toNatClampNeg (fun _ => 0)] H := hP
  have hD : va_D A [ob_Memory h_this x1 h_n11 h_n18 h_n25 h_n32 (0 : Int32) h_n44 h_n51 (0 : Int32), ar_ h_n11 c_n11 x1.toNatClampNeg (fun _ => 0), ar_ h_n18 c_n18 x1.toNatClampNeg (fun _ => 0), ar_ h_n25 c_n25 x1.toNatClampNeg (fun _ => 0), ar_ h_n32 c_n32 x1.toNatClampNeg (fun _ => 0), ar_ h_n44 c_n44 x1.toNatClampNeg (fun _ => 0), ar_ h_n51 c_n51 x1.toNatClampNeg (fun _ => 0)] := hD
  refine lv_aload_n hx hb d_Memory_new_56 rfl (lv_at hl 0 rfl) ?_
  refine lv_iconst (v := 0) hx hb d_Memory_new_57 (by decide) ?_
  refine va_put (D := (dC, dI)) (ci := 4) (v := .int (0 : Int32)) (ty := .int) (C := R_Memory) (T := T_Memory) (N := 9) hx hb hts in_Memory t_Memory t_Memory_ok nm_Memory hown hK hP hD hS 0 rfl rfl 8 (by decide) (hts _ kt_198) (fun _ h9 => h9) rfl (by decide +kernel) rfl rfl (Nat.le_of_ble_eq_true rfl) d_Memory_new_58 (fun H locs hP hD hS => ?_)
  have hP : va_P (dC, dI) vwCl [ob_Memory h_this x1 h_n11 h_n18 h_n25 h_n32 (0 : Int32) h_n44 h_n51 (0 : Int32), ar_ h_n11 c_n11 x1.toNatClampNeg (fun _ => 0), ar_ h_n18 c_n18 x1.toNatClampNeg (fun _ => 0), ar_ h_n25 c_n25 x1.toNatClampNeg (fun _ => 0), ar_ h_n32 c_n32 x1.toNatClampNeg (fun _ => 0), ar_ h_n44 c_n44 x1.toNatClampNeg (fun _ => 0), ar_ h_n51 c_n51 x1.toNatClampNeg (fun _ => 0)] H := hP
  have hD : va_D A [ob_Memory h_this x1 h_n11 h_n18 h_n25 h_n32 (0 : Int32) h_n44 h_n51 (0 : Int32), ar_ h_n11 c_n11 x1.toNatClampNeg (fun _ => 0), ar_ h_n18 c_n18 x1.toNatClampNeg (fun _ => 0), ar_ h_n25 c_n25 x1.toNatClampNeg (fun _ => 0), ar_ h_n32 c_n32 x1.toNatClampNeg (fun _ => 0), ar_ h_n44 c_n44 x1.toNatClampNeg (fun _ => 0), ar_ h_n51 c_n51 x1.toNatClampNeg (fun _ => 0)] := hD
  have hP9 : va_P (dC, dI) vwCl [ob_Memory h_this x1 h_n11 h_n18 h_n25 h_n32 (0 : Int32) h_n44 h_n51 (0 : Int32), ar_ h_n11 c_n11 x1.toNatClampNeg (fun _ => 0), ar_ h_n18 c_n18 x1.toNatClampNeg (fun _ => 0), ar_ h_n25 c_n25 x1.toNatClampNeg (fun _ => 0), ar_ h_n32 c_n32 x1.toNatClampNeg (fun _ => 0), ar_ h_n44 c_n44 x1.toNatClampNeg (fun _ => 0), ar_ h_n51 c_n51 x1.toNatClampNeg (fun _ => 0)] _ := hP.sub [0, 1, 2, 3, 4, 5, 6] rfl
  have hD9 : va_D A [ob_Memory h_this x1 h_n11 h_n18 h_n25 h_n32 (0 : Int32) h_n44 h_n51 (0 : Int32), ar_ h_n11 c_n11 x1.toNatClampNeg (fun _ => 0), ar_ h_n18 c_n18 x1.toNatClampNeg (fun _ => 0), ar_ h_n25 c_n25 x1.toNatClampNeg (fun _ => 0), ar_ h_n32 c_n32 x1.toNatClampNeg (fun _ => 0), ar_ h_n44 c_n44 x1.toNatClampNeg (fun _ => 0), ar_ h_n51 c_n51 x1.toNatClampNeg (fun _ => 0)] := hD.sub [0, 1, 2, 3, 4, 5, 6] (by decide) rfl
  have hK9 : va_K (dC, dI) vwCl [(c_n11, .int), (c_n18, .int), (c_n25, .int), (c_n32, .int), (c_n44, .boolean), (c_n51, .int)] s := hK.sub [0, 1, 2, 3, 4, 5] rfl
  refine W.widen (k := 6) (n := 1200) (Nat.le_of_ble_eq_true rfl) (Nat.le_of_ble_eq_true rfl) ?_
  rw [hQ]
  exact W.vret hx hb hr (fun t ht hW => ⟨⟨(), rfl, hw, h_n11, h_n18, h_n25, h_n32, h_n44, h_n51, c_n11, c_n18, c_n25, c_n32, c_n44, c_n51, by rw [ht]; exact hP9, va_K.moved hW.alike hK9, hD9⟩, hS.F ht⟩) hS.2.2 d_Memory_new_61
