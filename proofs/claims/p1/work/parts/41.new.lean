theorem d_Translator_new_0 : decode b_Translator_new 0 = .ok (.aload_n 0, 1) := by decide +kernel
theorem d_Translator_new_1 : decode b_Translator_new 1 = .ok (.invokespecial 3, 3) := by decide +kernel
theorem d_Translator_new_4 : decode b_Translator_new 4 = .ok (.aload_n 0, 1) := by decide +kernel
theorem d_Translator_new_5 : decode b_Translator_new 5 = .ok (.bipush 12, 2) := by decide +kernel
theorem d_Translator_new_7 : decode b_Translator_new 7 = .ok (.newarray .int, 2) := by decide +kernel
theorem d_Translator_new_9 : decode b_Translator_new 9 = .ok (.putfield 9, 3) := by decide +kernel
theorem d_Translator_new_12 : decode b_Translator_new 12 = .ok (.aload_n 0, 1) := by decide +kernel
theorem d_Translator_new_13 : decode b_Translator_new 13 = .ok (.iconst 0, 1) := by decide +kernel
theorem d_Translator_new_14 : decode b_Translator_new 14 = .ok (.putfield 15, 3) := by decide +kernel
theorem d_Translator_new_17 : decode b_Translator_new 17 = .ok (.aload_n 0, 1) := by decide +kernel
theorem d_Translator_new_18 : decode b_Translator_new 18 = .ok (.iconst 0, 1) := by decide +kernel
theorem d_Translator_new_19 : decode b_Translator_new 19 = .ok (.putfield 19, 3) := by decide +kernel
theorem d_Translator_new_22 : decode b_Translator_new 22 = .ok (.aload_n 0, 1) := by decide +kernel
theorem d_Translator_new_23 : decode b_Translator_new 23 = .ok (.aload_n 1, 1) := by decide +kernel
theorem d_Translator_new_24 : decode b_Translator_new 24 = .ok (.putfield 22, 3) := by decide +kernel
theorem d_Translator_new_27 : decode b_Translator_new 27 = .ok (.aload_n 0, 1) := by decide +kernel
theorem d_Translator_new_28 : decode b_Translator_new 28 = .ok (.aload_n 1, 1) := by decide +kernel
theorem d_Translator_new_29 : decode b_Translator_new 29 = .ok (.getfield 26, 3) := by decide +kernel
theorem d_Translator_new_32 : decode b_Translator_new 32 = .ok (.putfield 32, 3) := by decide +kernel
theorem d_Translator_new_35 : decode b_Translator_new 35 = .ok (.aload_n 0, 1) := by decide +kernel
theorem d_Translator_new_36 : decode b_Translator_new 36 = .ok (.bipush 16, 2) := by decide +kernel
theorem d_Translator_new_38 : decode b_Translator_new 38 = .ok (.newarray .int, 2) := by decide +kernel
theorem d_Translator_new_40 : decode b_Translator_new 40 = .ok (.putfield 33, 3) := by decide +kernel
theorem d_Translator_new_43 : decode b_Translator_new 43 = .ok (.iconst 0, 1) := by decide +kernel
theorem d_Translator_new_44 : decode b_Translator_new 44 = .ok (.istore_n 2, 1) := by decide +kernel
theorem d_Translator_new_45 : decode b_Translator_new 45 = .ok (.iconst 0, 1) := by decide +kernel
theorem d_Translator_new_46 : decode b_Translator_new 46 = .ok (.istore_n 3, 1) := by decide +kernel
theorem d_Translator_new_47 : decode b_Translator_new 47 = .ok (.iload_n 3, 1) := by decide +kernel
theorem d_Translator_new_48 : decode b_Translator_new 48 = .ok (.ldc 36, 2) := by decide +kernel
theorem d_Translator_new_50 : decode b_Translator_new 50 = .ok (.invokevirtual 38, 3) := by decide +kernel
theorem d_Translator_new_53 : decode b_Translator_new 53 = .ok (.if_icmp .ge 53, 3) := by decide +kernel
theorem d_Translator_new_56 : decode b_Translator_new 56 = .ok (.iload_n 2, 1) := by decide +kernel
theorem d_Translator_new_57 : decode b_Translator_new 57 = .ok (.bipush 16, 2) := by decide +kernel
theorem d_Translator_new_59 : decode b_Translator_new 59 = .ok (.if_icmp .ge 47, 3) := by decide +kernel
theorem d_Translator_new_62 : decode b_Translator_new 62 = .ok (.ldc 36, 2) := by decide +kernel
theorem d_Translator_new_64 : decode b_Translator_new 64 = .ok (.iload_n 3, 1) := by decide +kernel
theorem d_Translator_new_65 : decode b_Translator_new 65 = .ok (.invokevirtual 44, 3) := by decide +kernel
theorem d_Translator_new_68 : decode b_Translator_new 68 = .ok (.istore 4, 2) := by decide +kernel
theorem d_Translator_new_70 : decode b_Translator_new 70 = .ok (.iload 4, 2) := by decide +kernel
theorem d_Translator_new_72 : decode b_Translator_new 72 = .ok (.bipush 32, 2) := by decide +kernel
theorem d_Translator_new_74 : decode b_Translator_new 74 = .ok (.if_icmp .ne 9, 3) := by decide +kernel
theorem d_Translator_new_77 : decode b_Translator_new 77 = .ok (.iinc 2 1, 3) := by decide +kernel
theorem d_Translator_new_80 : decode b_Translator_new 80 = .ok (.goto 20, 3) := by decide +kernel
theorem d_Translator_new_83 : decode b_Translator_new 83 = .ok (.aload_n 0, 1) := by decide +kernel
theorem d_Translator_new_84 : decode b_Translator_new 84 = .ok (.getfield 33, 3) := by decide +kernel
theorem d_Translator_new_87 : decode b_Translator_new 87 = .ok (.iload_n 2, 1) := by decide +kernel
theorem d_Translator_new_88 : decode b_Translator_new 88 = .ok (.aload_n 0, 1) := by decide +kernel
theorem d_Translator_new_89 : decode b_Translator_new 89 = .ok (.getfield 33, 3) := by decide +kernel
theorem d_Translator_new_92 : decode b_Translator_new 92 = .ok (.iload_n 2, 1) := by decide +kernel
theorem d_Translator_new_93 : decode b_Translator_new 93 = .ok (.iaload, 1) := by decide +kernel
theorem d_Translator_new_94 : decode b_Translator_new 94 = .ok (.iload 4, 2) := by decide +kernel
theorem d_Translator_new_96 : decode b_Translator_new 96 = .ok (.invokestatic 48, 3) := by decide +kernel
theorem d_Translator_new_99 : decode b_Translator_new 99 = .ok (.iastore, 1) := by decide +kernel
theorem d_Translator_new_100 : decode b_Translator_new 100 = .ok (.iinc 3 1, 3) := by decide +kernel
theorem d_Translator_new_103 : decode b_Translator_new 103 = .ok (.goto (-56), 3) := by decide +kernel
theorem d_Translator_new_106 : decode b_Translator_new 106 = .ok (.return_, 1) := by decide +kernel
set_option maxHeartbeats 8000000 in
set_option maxRecDepth 100000 in
theorem c_Translator_new (l : Launch) (dC : Nat → ClassId) (dI : Nat → Nat → Nat) (h_this : Nat) (h_p1 : Nat) (h_p1_datum : Nat) (h_p1_words : Nat) (h_p1_constants : Nat)  (sz : Nat)  (i_p1_size : Int32) (i_p1_lastConstant : Int32)  (post : (Nat → Int32) → Prop) (hw : wp_Translator_new  i_p1_size i_p1_lastConstant  post) : Met l y_Translator_new (ws_ y_Translator_new b_Translator_new 5 none) { frames := 4, cells := 2, slots := 28, locals := 85 } (va_Pc [.ref h_this, .ref h_p1] (PRE (dC, dI) vwCl [] [(h_this, .inr (3, [.null, .null, .null, .null, .int (0 : Int32), .int (0 : Int32)])), ob_Program h_p1 h_p1_datum h_p1_words i_p1_size h_p1_constants i_p1_lastConstant] sz (va_A [(h_this, .inr (3, [.null, .null, .null, .null, .int (0 : Int32), .int (0 : Int32)])), ob_Program h_p1 h_p1_datum h_p1_words i_p1_size h_p1_constants i_p1_lastConstant] sz))) (va_Qv (fun (u : (Nat → Int32)) => post u) (fun (u : (Nat → Int32)) (t : State) => (∃ (h_n7 : Nat), (∃ (h_n38 : Nat), (∃ (c_n7 : ClassId), (∃ (c_n38 : ClassId), va_P (dC, dI) vwCl [ob_Translator h_this h_p1 h_p1_datum h_n38 h_n7 (0 : Int32) (0 : Int32), ob_Program h_p1 h_p1_datum h_p1_words i_p1_size h_p1_constants i_p1_lastConstant, ar_ h_n7 c_n7 12 (fun _ => 0), ar_ h_n38 c_n38 16 u] t.heap ∧ va_K (dC, dI) vwCl [(c_n7, .int), (c_n38, .int)] t ∧ va_D (va_A [(h_this, .inr (3, [.null, .null, .null, .null, .int (0 : Int32), .int (0 : Int32)])), ob_Program h_p1 h_p1_datum h_p1_words i_p1_size h_p1_constants i_p1_lastConstant] sz) [ob_Translator h_this h_p1 h_p1_datum h_n38 h_n7 (0 : Int32) (0 : Int32), ob_Program h_p1 h_p1_datum h_p1_words i_p1_size h_p1_constants i_p1_lastConstant, ar_ h_n7 c_n7 12 (fun _ => 0), ar_ h_n38 c_n38 16 u]))))) (va_A [(h_this, .inr (3, [.null, .null, .null, .null, .int (0 : Int32), .int (0 : Int32)])), ob_Program h_p1 h_p1_datum h_p1_words i_p1_size h_p1_constants i_p1_lastConstant] sz)) 2 28 (va_A [(h_this, .inr (3, [.null, .null, .null, .null, .int (0 : Int32), .int (0 : Int32)])), ob_Program h_p1 h_p1_datum h_p1_words i_p1_size h_p1_constants i_p1_lastConstant] sz) := by
  refine Met.ofW (cc := b_Translator_new) (maxL := 5) (ret := none) (by decide) rfl ?_
  intro p e s m args below meth c s₁ B hml hv
  obtain ⟨rfl, hsz, hP, hK, hD0, hG⟩ := hv
  have hx := B.exec
  have hb := B.bytes
  have hr := B.returns
  have hts : ∀ w ∈ tb, w.before _ s = true := fun w h => atoms_spec (ws := ws_ _ _ _ _) B.pre w (List.mem_cons_of_mem _ h)
  have hown : s.vm.findClass R_Translator = some m.cls := findClass_of_methodNamed B.named
  have hlocks := B.notSynchronized
  have hin : meth.name = "<init>" := (name_of_methodNamed B.named B.method).1
  subst hsz
  have hD := hD0.self (sz := s.heap.size)
  generalize hAe : va_A [(h_this, .inr (3, [.null, .null, .null, .null, .int (0 : Int32), .int (0 : Int32)])), ob_Program h_p1 h_p1_datum h_p1_words i_p1_size h_p1_constants i_p1_lastConstant] s.heap.size = A at hD hG ⊢
  have hA : ∀ q : Nat, s.heap.size ≤ q → A q := fun q h => by rw [← hAe]; exact Or.inr h
  have hS : va_S A s.heap s.heap [] := va_S.rf
  have hP : va_P (dC, dI) vwCl [(h_this, .inr (3, [.null, .null, .null, .null, .int (0 : Int32), .int (0 : Int32)])), ob_Program h_p1 h_p1_datum h_p1_words i_p1_size h_p1_constants i_p1_lastConstant] s.heap := hP
  have hl := lv_entry [.ref h_this, .ref h_p1] (n := 5) (Nat.le_of_ble_eq_true rfl)
  rw [lg_entry_eq]
  generalize (lg_sl [.ref h_this, .ref h_p1] ++ List.replicate (5 - (lg_sl [.ref h_this, .ref h_p1]).length) Slot.unset).toArray = ls at hl ⊢
  have hl : lv_has ls 5 [(0, .ref h_this), (1, .ref h_p1)] := hl
  obtain ⟨Q, hQ⟩ : ∃ Q : State → Prop, Q = MQ below (va_Qv (fun (u : (Nat → Int32)) => post u) (fun (u : (Nat → Int32)) (t : State) => (∃ (h_n7 : Nat), (∃ (h_n38 : Nat), (∃ (c_n7 : ClassId), (∃ (c_n38 : ClassId), va_P (dC, dI) vwCl [ob_Translator h_this h_p1 h_p1_datum h_n38 h_n7 (0 : Int32) (0 : Int32), ob_Program h_p1 h_p1_datum h_p1_words i_p1_size h_p1_constants i_p1_lastConstant, ar_ h_n7 c_n7 12 (fun _ => 0), ar_ h_n38 c_n38 16 u] t.heap ∧ va_K (dC, dI) vwCl [(c_n7, .int), (c_n38, .int)] t ∧ va_D A [ob_Translator h_this h_p1 h_p1_datum h_n38 h_n7 (0 : Int32) (0 : Int32), ob_Program h_p1 h_p1_datum h_p1_words i_p1_size h_p1_constants i_p1_lastConstant, ar_ h_n7 c_n7 12 (fun _ => 0), ar_ h_n38 c_n38 16 u]))))) A) ([.ref h_this, .ref h_p1] : List Value).toArray s 2 28 A := ⟨_, rfl⟩
  rw [← hQ]
  unfold wp_Translator_new at hw
  refine lv_aload_n hx hb d_Translator_new_0 rfl (lv_at hl 0 rfl) ?_
  refine W.objInit hx hb hown (hts _ kt_95) (hts _ kt_28) (hts _ kt_29) rfl (by rw [hml]; exact hl.1) rfl d_Translator_new_1 (Nat.le_of_ble_eq_true rfl) (Nat.le_of_ble_eq_true rfl) ?_
  refine W.eq (g2 := F0 m 4 ls []) rfl ?_
  refine lv_aload_n hx hb d_Translator_new_4 rfl (lv_at hl 0 rfl) ?_
  refine lv_bipush (v := 12) hx hb d_Translator_new_5 (by decide) ?_
  refine va_newa (atype := .int) (N' := 12) (a0 := (12, .inl (fun _ => 0))) (ty := .int) (n := (12 : Int32)) hx hb (hts _ kt_59) rfl hK hP hD hS hA (fun _ => rfl) (by decide) (by decide) (by decide) (Nat.le_of_ble_eq_true rfl) (Nat.le_of_ble_eq_true rfl) d_Translator_new_7 (fun h_n7 c_n7 H hK hP hD hS => ?_)
  have hP : va_P (dC, dI) vwCl [(h_this, .inr (3, [.null, .null, .null, .null, .int (0 : Int32), .int (0 : Int32)])), ob_Program h_p1 h_p1_datum h_p1_words i_p1_size h_p1_constants i_p1_lastConstant, ar_ h_n7 c_n7 12 (fun _ => 0)] H := hP
  have hD : va_D A [(h_this, .inr (3, [.null, .null, .null, .null, .int (0 : Int32), .int (0 : Int32)])), ob_Program h_p1 h_p1_datum h_p1_words i_p1_size h_p1_constants i_p1_lastConstant, ar_ h_n7 c_n7 12 (fun _ => 0)] := hD
  have hK : va_K (dC, dI) vwCl [(c_n7, .int)] s := hK
  refine W.widen (k := 1) (n := 12) (Nat.le_of_ble_eq_true rfl) (Nat.le_of_ble_eq_true rfl) ?_
  refine va_putF (D := (dC, dI)) (ci := 3) (v := .ref h_n7) (ty := (.array .int)) (C := R_Translator) (T := T_Translator) (N := 6) hx hb hts in_Translator t_Translator t_Translator_ok nm_Translator hown hK hP hD hS 0 rfl rfl 3 (by decide) (hts _ kt_151) (fun _ h9 => h9) rfl hin rfl (by decide +kernel) rfl rfl (Nat.le_of_ble_eq_true rfl) d_Translator_new_9 (fun H locs hP hD hS => ?_)
  have hP : va_P (dC, dI) vwCl [(h_this, .inr (3, [.null, .null, .null, .ref h_n7, .int (0 : Int32), .int (0 : Int32)])), ob_Program h_p1 h_p1_datum h_p1_words i_p1_size h_p1_constants i_p1_lastConstant, ar_ h_n7 c_n7 12 (fun _ => 0)] H := hP
  have hD : va_D A [(h_this, .inr (3, [.null, .null, .null, .ref h_n7, .int (0 : Int32), .int (0 : Int32)])), ob_Program h_p1 h_p1_datum h_p1_words i_p1_size h_p1_constants i_p1_lastConstant, ar_ h_n7 c_n7 12 (fun _ => 0)] := hD
  refine lv_aload_n hx hb d_Translator_new_12 rfl (lv_at hl 0 rfl) ?_
  refine lv_iconst (v := 0) hx hb d_Translator_new_13 (by decide) ?_
  refine va_put (D := (dC, dI)) (ci := 3) (v := .int (0 : Int32)) (ty := .int) (C := R_Translator) (T := T_Translator) (N := 6) hx hb hts in_Translator t_Translator t_Translator_ok nm_Translator hown hK hP hD hS 0 rfl rfl 4 (by decide) (hts _ kt_152) (fun _ h9 => h9) rfl (by decide +kernel) rfl rfl (Nat.le_of_ble_eq_true rfl) d_Translator_new_14 (fun H locs hP hD hS => ?_)
  have hP : va_P (dC, dI) vwCl [(h_this, .inr (3, [.null, .null, .null, .ref h_n7, .int (0 : Int32), .int (0 : Int32)])), ob_Program h_p1 h_p1_datum h_p1_words i_p1_size h_p1_constants i_p1_lastConstant, ar_ h_n7 c_n7 12 (fun _ => 0)] H := hP
  have hD : va_D A [(h_this, .inr (3, [.null, .null, .null, .ref h_n7, .int (0 : Int32), .int (0 : Int32)])), ob_Program h_p1 h_p1_datum h_p1_words i_p1_size h_p1_constants i_p1_lastConstant, ar_ h_n7 c_n7 12 (fun _ => 0)] := hD
  refine lv_aload_n hx hb d_Translator_new_17 rfl (lv_at hl 0 rfl) ?_
  refine lv_iconst (v := 0) hx hb d_Translator_new_18 (by decide) ?_
  refine va_put (D := (dC, dI)) (ci := 3) (v := .int (0 : Int32)) (ty := .int) (C := R_Translator) (T := T_Translator) (N := 6) hx hb hts in_Translator t_Translator t_Translator_ok nm_Translator hown hK hP hD hS 0 rfl rfl 5 (by decide) (hts _ kt_153) (fun _ h9 => h9) rfl (by decide +kernel) rfl rfl (Nat.le_of_ble_eq_true rfl) d_Translator_new_19 (fun H locs hP hD hS => ?_)
  have hP : va_P (dC, dI) vwCl [(h_this, .inr (3, [.null, .null, .null, .ref h_n7, .int (0 : Int32), .int (0 : Int32)])), ob_Program h_p1 h_p1_datum h_p1_words i_p1_size h_p1_constants i_p1_lastConstant, ar_ h_n7 c_n7 12 (fun _ => 0)] H := hP
  have hD : va_D A [(h_this, .inr (3, [.null, .null, .null, .ref h_n7, .int (0 : Int32), .int (0 : Int32)])), ob_Program h_p1 h_p1_datum h_p1_words i_p1_size h_p1_constants i_p1_lastConstant, ar_ h_n7 c_n7 12 (fun _ => 0)] := hD
  refine lv_aload_n hx hb d_Translator_new_22 rfl (lv_at hl 0 rfl) ?_
  refine lv_aload_n hx hb d_Translator_new_23 rfl (lv_at hl 1 rfl) ?_
  refine va_putF (D := (dC, dI)) (ci := 3) (v := .ref h_p1) (ty := (.object "SecdProcessor$Program")) (C := R_Translator) (T := T_Translator) (N := 6) hx hb hts in_Translator t_Translator t_Translator_ok nm_Translator hown hK hP hD hS 0 rfl rfl 0 (by decide) (hts _ kt_148) (fun _ h9 => h9) rfl hin rfl (by decide +kernel) rfl rfl (Nat.le_of_ble_eq_true rfl) d_Translator_new_24 (fun H locs hP hD hS => ?_)
  have hP : va_P (dC, dI) vwCl [(h_this, .inr (3, [.ref h_p1, .null, .null, .ref h_n7, .int (0 : Int32), .int (0 : Int32)])), ob_Program h_p1 h_p1_datum h_p1_words i_p1_size h_p1_constants i_p1_lastConstant, ar_ h_n7 c_n7 12 (fun _ => 0)] H := hP
  have hD : va_D A [(h_this, .inr (3, [.ref h_p1, .null, .null, .ref h_n7, .int (0 : Int32), .int (0 : Int32)])), ob_Program h_p1 h_p1_datum h_p1_words i_p1_size h_p1_constants i_p1_lastConstant, ar_ h_n7 c_n7 12 (fun _ => 0)] := hD
  refine lv_aload_n hx hb d_Translator_new_27 rfl (lv_at hl 0 rfl) ?_
  refine lv_aload_n hx hb d_Translator_new_28 rfl (lv_at hl 1 rfl) ?_
  refine va_get (D := (dC, dI)) (ci := 2) (v := .ref h_p1_datum) (C := R_Program) (T := T_Program) (N := 5) hx hb hts in_Program hown hK hP 1 rfl rfl 0 (by decide) (hts _ kt_69) (fun _ h9 => h9) rfl d_Translator_new_29 ?_
  refine va_putF (D := (dC, dI)) (ci := 3) (v := .ref h_p1_datum) (ty := (.object "SecdProcessor$Datum")) (C := R_Translator) (T := T_Translator) (N := 6) hx hb hts in_Translator t_Translator t_Translator_ok nm_Translator hown hK hP hD hS 0 rfl rfl 1 (by decide) (hts _ kt_149) (fun _ h9 => h9) rfl hin rfl (by decide +kernel) rfl rfl (Nat.le_of_ble_eq_true rfl) d_Translator_new_32 (fun H locs hP hD hS => ?_)
  have hP : va_P (dC, dI) vwCl [(h_this, .inr (3, [.ref h_p1, .ref h_p1_datum, .null, .ref h_n7, .int (0 : Int32), .int (0 : Int32)])), ob_Program h_p1 h_p1_datum h_p1_words i_p1_size h_p1_constants i_p1_lastConstant, ar_ h_n7 c_n7 12 (fun _ => 0)] H := hP
  have hD : va_D A [(h_this, .inr (3, [.ref h_p1, .ref h_p1_datum, .null, .ref h_n7, .int (0 : Int32), .int (0 : Int32)])), ob_Program h_p1 h_p1_datum h_p1_words i_p1_size h_p1_constants i_p1_lastConstant, ar_ h_n7 c_n7 12 (fun _ => 0)] := hD
  refine lv_aload_n hx hb d_Translator_new_35 rfl (lv_at hl 0 rfl) ?_
  refine lv_bipush (v := 16) hx hb d_Translator_new_36 (by decide) ?_
  refine va_newa (atype := .int) (N' := 16) (a0 := (16, .inl (fun _ => 0))) (ty := .int) (n := (16 : Int32)) hx hb (hts _ kt_59) rfl hK hP hD hS hA (fun _ => rfl) (by decide) (by decide) (by decide) (Nat.le_of_ble_eq_true rfl) (Nat.le_of_ble_eq_true rfl) d_Translator_new_38 (fun h_n38 c_n38 H hK hP hD hS => ?_)
  have hP : va_P (dC, dI) vwCl [(h_this, .inr (3, [.ref h_p1, .ref h_p1_datum, .null, .ref h_n7, .int (0 : Int32), .int (0 : Int32)])), ob_Program h_p1 h_p1_datum h_p1_words i_p1_size h_p1_constants i_p1_lastConstant, ar_ h_n7 c_n7 12 (fun _ => 0), ar_ h_n38 c_n38 16 (fun _ => 0)] H := hP
  have hD : va_D A [(h_this, .inr (3, [.ref h_p1, .ref h_p1_datum, .null, .ref h_n7, .int (0 : Int32), .int (0 : Int32)])), ob_Program h_p1 h_p1_datum h_p1_words i_p1_size h_p1_constants i_p1_lastConstant, ar_ h_n7 c_n7 12 (fun _ => 0), ar_ h_n38 c_n38 16 (fun _ => 0)] := hD
  have hK : va_K (dC, dI) vwCl [(c_n7, .int), (c_n38, .int)] s := hK
  refine W.widen (k := 2) (n := 28) (Nat.le_of_ble_eq_true rfl) (Nat.le_of_ble_eq_true rfl) ?_
  refine va_putF (D := (dC, dI)) (ci := 3) (v := .ref h_n38) (ty := (.array .int)) (C := R_Translator) (T := T_Translator) (N := 6) hx hb hts in_Translator t_Translator t_Translator_ok nm_Translator hown hK hP hD hS 0 rfl rfl 2 (by decide) (hts _ kt_150) (fun _ h9 => h9) rfl hin rfl (by decide +kernel) rfl rfl (Nat.le_of_ble_eq_true rfl) d_Translator_new_40 (fun H locs hP hD hS => ?_)
  have hP : va_P (dC, dI) vwCl [ob_Translator h_this h_p1 h_p1_datum h_n38 h_n7 (0 : Int32) (0 : Int32), ob_Program h_p1 h_p1_datum h_p1_words i_p1_size h_p1_constants i_p1_lastConstant, ar_ h_n7 c_n7 12 (fun _ => 0), ar_ h_n38 c_n38 16 (fun _ => 0)] H := hP
  have hD : va_D A [ob_Translator h_this h_p1 h_p1_datum h_n38 h_n7 (0 : Int32) (0 : Int32), ob_Program h_p1 h_p1_datum h_p1_words i_p1_size h_p1_constants i_p1_lastConstant, ar_ h_n7 c_n7 12 (fun _ => 0), ar_ h_n38 c_n38 16 (fun _ => 0)] := hD
  refine lv_iconst (v := 0) hx hb d_Translator_new_43 (by decide) ?_
  refine lv_istore_n (lv' := [(2, .int (0 : Int32)), (0, .ref h_this), (1, .ref h_p1)]) hx hb d_Translator_new_44 rfl hl (by decide) rfl (fun ls hl => ?_)
  refine lv_iconst (v := 0) hx hb d_Translator_new_45 (by decide) ?_
  refine lv_istore_n (lv' := [(3, .int (0 : Int32)), (2, .int (0 : Int32)), (0, .ref h_this), (1, .ref h_p1)]) hx hb d_Translator_new_46 rfl hl (by decide) rfl (fun ls hl => ?_)
  have L47 : ∀ fu47 : Nat, ∀ (v2 : Int32) (v3 : Int32) (f_n38 : Nat → Int32) (H : Heap) (locs : List Loc) (ls : Array Slot), lv_has ls 5 [(0, .ref h_this), (2, .int v2), (3, .int v3)] → va_P (dC, dI) vwCl [ob_Translator h_this h_p1 h_p1_datum h_n38 h_n7 (0 : Int32) (0 : Int32), ob_Program h_p1 h_p1_datum h_p1_words i_p1_size h_p1_constants i_p1_lastConstant, ar_ h_n7 c_n7 12 (fun _ => 0), ar_ h_n38 c_n38 16 f_n38] H → va_D A [ob_Translator h_this h_p1 h_p1_datum h_n38 h_n7 (0 : Int32) (0 : Int32), ob_Program h_p1 h_p1_datum h_p1_words i_p1_size h_p1_constants i_p1_lastConstant, ar_ h_n7 c_n7 12 (fun _ => 0), ar_ h_n38 c_n38 16 f_n38] → va_S A s.heap H locs → wp_Translator_new_L47 post fu47 v2 v3 f_n38 → W p l e (headSpec (ws_ y_Translator_new b_Translator_new 5 none) { frames := 4, cells := 2, slots := 28, locals := 85 }).room s m ([.ref h_this, .ref h_p1] : List Value).toArray below meth c H locs 2 28 Q (F0 m 47 ls []) := by
    intro fu47
    induction fu47 with
    | zero => intro v2 v3 f_n38 H locs ls hl hP hD hS hw; exact False.elim hw
    | succ fu47 ih47 =>
        intro v2 v3 f_n38 H locs ls hl hP hD hS hw
        unfold wp_Translator_new_L47 at hw
        have J100 : ∀ (v2 : Int32) (v3 : Int32) (f_n38 : Nat → Int32) (H : Heap) (locs : List Loc) (ls : Array Slot), lv_has ls 5 [(0, .ref h_this), (2, .int v2), (3, .int v3)] → va_P (dC, dI) vwCl [ob_Translator h_this h_p1 h_p1_datum h_n38 h_n7 (0 : Int32) (0 : Int32), ob_Program h_p1 h_p1_datum h_p1_words i_p1_size h_p1_constants i_p1_lastConstant, ar_ h_n7 c_n7 12 (fun _ => 0), ar_ h_n38 c_n38 16 f_n38] H → va_D A [ob_Translator h_this h_p1 h_p1_datum h_n38 h_n7 (0 : Int32) (0 : Int32), ob_Program h_p1 h_p1_datum h_p1_words i_p1_size h_p1_constants i_p1_lastConstant, ar_ h_n7 c_n7 12 (fun _ => 0), ar_ h_n38 c_n38 16 f_n38] → va_S A s.heap H locs → wp_Translator_new_J100 (wp_Translator_new_L47 post fu47) post v2 v3 f_n38 → W p l e (headSpec (ws_ y_Translator_new b_Translator_new 5 none) { frames := 4, cells := 2, slots := 28, locals := 85 }).room s m ([.ref h_this, .ref h_p1] : List Value).toArray below meth c H locs 2 28 Q (F0 m 100 ls []) := by
          intro v2 v3 f_n38 H locs ls hl hP hD hS hw
          unfold wp_Translator_new_J100 at hw
          refine lv_iinc (v := v3 + (1 : Int32)) (lv' := [(3, .int (v3 + (1 : Int32))), (0, .ref h_this), (2, .int v2)]) hx hb d_Translator_new_100 hl (k := 2) rfl rfl (by decide) rfl (fun ls hl => ?_)
          refine lv_goto (tgt := 47) hx hb d_Translator_new_103 (by decide) ?_
          exact ih47 v2 (v3 + (1 : Int32)) f_n38 _ _ ls (lv_sub hl [1, 2, 0] rfl) hP hD hS hw
        refine lv_iload_n hx hb d_Translator_new_47 rfl (lv_at hl 2 rfl) ?_
        obtain ⟨adK_1, adV_2, hg_3⟩ := hG.2.2.2.2.2.2.2
        refine va_ldcS hx hb hown hg_3.2.1 d_Translator_new_48 ?_
        have hPc := hP.sub (ws' := []) [] rfl
        have hDc := hD.sub (ws' := []) [] (by decide) rfl
        have hKc := hK.sub (tys' := []) [] rfl
        have hFc := va_free (wc := []) hD hS hA [] rfl
        refine va_calli (va_runV (As := []) (rest := [.int v3]) ⟨hx, hb, hml, hown, hts⟩ (c_String_length l dC dI adK_1 adV_2 0 (by decide) H.size _ hw) (cwV 0 hts (gd_V kt_97 kt_98 kt_99 kt_5 kt_100) rfl rfl rfl (by decide +kernel) ⟨Nat.le_of_ble_eq_true rfl, Nat.le_of_ble_eq_true rfl⟩) ⟨prek_blind, vk_recv hg_3.1 (by decide) hS, prek_ok hPc hKc hDc hG hg_3 hS hFc⟩ rfl rfl hl.1 rfl (lv_room (Nat.le_of_ble_eq_true rfl)) d_Translator_new_50 ⟨Nat.le_of_ble_eq_true rfl, Nat.le_of_ble_eq_true rfl⟩) hS (fun q _ h => hFc q h) hFc (fun r_4 u t H1 locs ht hvm hw hB hz1 hk1 hS => ?_)
        obtain ⟨hP1, hK1, hD1⟩ := hB
        rw [ht] at hP1
        try dsimp only at hw
        obtain ⟨hP, hD⟩ := va_join (wr := [ob_Translator h_this h_p1 h_p1_datum h_n38 h_n7 (0 : Int32) (0 : Int32), ob_Program h_p1 h_p1_datum h_p1_words i_p1_size h_p1_constants i_p1_lastConstant, ar_ h_n7 c_n7 12 (fun _ => 0), ar_ h_n38 c_n38 16 f_n38]) (w1 := []) hP hD [] [0, 1, 2, 3] rfl rfl (by decide) (by decide) hk1 hFc hP1 hD1
        generalize H1 = H at hP hS ⊢
        have hP : va_P (dC, dI) vwCl [ob_Translator h_this h_p1 h_p1_datum h_n38 h_n7 (0 : Int32) (0 : Int32), ob_Program h_p1 h_p1_datum h_p1_words i_p1_size h_p1_constants i_p1_lastConstant, ar_ h_n7 c_n7 12 (fun _ => 0), ar_ h_n38 c_n38 16 f_n38] H := hP
        have hD : va_D A [ob_Translator h_this h_p1 h_p1_datum h_n38 h_n7 (0 : Int32) (0 : Int32), ob_Program h_p1 h_p1_datum h_p1_words i_p1_size h_p1_constants i_p1_lastConstant, ar_ h_n7 c_n7 12 (fun _ => 0), ar_ h_n38 c_n38 16 f_n38] := hD
        refine lv_icmp_ge (tgt := 106) hx hb d_Translator_new_53 (by decide) (fun c_5 => ?_) (fun c_5 => ?_)
        · have hw := hw.1 c_5
          have hP9 : va_P (dC, dI) vwCl [ob_Translator h_this h_p1 h_p1_datum h_n38 h_n7 (0 : Int32) (0 : Int32), ob_Program h_p1 h_p1_datum h_p1_words i_p1_size h_p1_constants i_p1_lastConstant, ar_ h_n7 c_n7 12 (fun _ => 0), ar_ h_n38 c_n38 16 f_n38] _ := hP.sub [0, 1, 2, 3] rfl
          have hD9 : va_D A [ob_Translator h_this h_p1 h_p1_datum h_n38 h_n7 (0 : Int32) (0 : Int32), ob_Program h_p1 h_p1_datum h_p1_words i_p1_size h_p1_constants i_p1_lastConstant, ar_ h_n7 c_n7 12 (fun _ => 0), ar_ h_n38 c_n38 16 f_n38] := hD.sub [0, 1, 2, 3] (by decide) rfl
          have hK9 : va_K (dC, dI) vwCl [(c_n7, .int), (c_n38, .int)] s := hK.sub [0, 1] rfl
          refine W.widen (k := 2) (n := 28) (Nat.le_of_ble_eq_true rfl) (Nat.le_of_ble_eq_true rfl) ?_
          rw [hQ]
          exact W.vret hx hb hr (fun t ht hW => ⟨⟨(f_n38), rfl, hw, h_n7, h_n38, c_n7, c_n38, by rw [ht]; exact hP9, va_K.moved hW.alike hK9, hD9⟩, hS.F ht⟩) hS.2.2 d_Translator_new_106
        · have hw := hw.2 c_5
          refine lv_iload_n hx hb d_Translator_new_56 rfl (lv_at hl 1 rfl) ?_
          refine lv_bipush (v := 16) hx hb d_Translator_new_57 (by decide) ?_
          refine lv_icmp_ge (tgt := 106) hx hb d_Translator_new_59 (by decide) (fun c_6 => ?_) (fun c_6 => ?_)
          · have hw := hw.1 c_6
            have hP9 : va_P (dC, dI) vwCl [ob_Translator h_this h_p1 h_p1_datum h_n38 h_n7 (0 : Int32) (0 : Int32), ob_Program h_p1 h_p1_datum h_p1_words i_p1_size h_p1_constants i_p1_lastConstant, ar_ h_n7 c_n7 12 (fun _ => 0), ar_ h_n38 c_n38 16 f_n38] _ := hP.sub [0, 1, 2, 3] rfl
            have hD9 : va_D A [ob_Translator h_this h_p1 h_p1_datum h_n38 h_n7 (0 : Int32) (0 : Int32), ob_Program h_p1 h_p1_datum h_p1_words i_p1_size h_p1_constants i_p1_lastConstant, ar_ h_n7 c_n7 12 (fun _ => 0), ar_ h_n38 c_n38 16 f_n38] := hD.sub [0, 1, 2, 3] (by decide) rfl
            have hK9 : va_K (dC, dI) vwCl [(c_n7, .int), (c_n38, .int)] s := hK.sub [0, 1] rfl
            refine W.widen (k := 2) (n := 28) (Nat.le_of_ble_eq_true rfl) (Nat.le_of_ble_eq_true rfl) ?_
            rw [hQ]
            exact W.vret hx hb hr (fun t ht hW => ⟨⟨(f_n38), rfl, hw, h_n7, h_n38, c_n7, c_n38, by rw [ht]; exact hP9, va_K.moved hW.alike hK9, hD9⟩, hS.F ht⟩) hS.2.2 d_Translator_new_106
          · have hw := hw.2 c_6
            obtain ⟨adK_7, adV_8, hg_9⟩ := hG.2.2.2.2.2.2.2
            refine va_ldcS hx hb hown hg_9.2.1 d_Translator_new_62 ?_
            refine lv_iload_n hx hb d_Translator_new_64 rfl (lv_at hl 2 rfl) ?_
            have hPc := hP.sub (ws' := []) [] rfl
            have hDc := hD.sub (ws' := []) [] (by decide) rfl
            have hKc := hK.sub (tys' := []) [] rfl
            have hFc := va_free (wc := []) hD hS hA [] rfl
            refine va_calli (va_runV (As := [.int v3]) (rest := []) ⟨hx, hb, hml, hown, hts⟩ (c_String_charAt l dC dI adK_7 adV_8 0 (by decide) H.size v3 _ hw) (cwV 1 hts (gd_V kt_107 kt_108 kt_109 kt_5 kt_110) rfl rfl rfl (by decide +kernel) ⟨Nat.le_of_ble_eq_true rfl, Nat.le_of_ble_eq_true rfl⟩) ⟨prek_blind, vk_recv hg_9.1 (by decide) hS, prek_ok hPc hKc hDc hG hg_9 hS hFc⟩ rfl rfl hl.1 rfl (lv_room (Nat.le_of_ble_eq_true rfl)) d_Translator_new_65 ⟨Nat.le_of_ble_eq_true rfl, Nat.le_of_ble_eq_true rfl⟩) hS (fun q _ h => hFc q h) hFc (fun r_10 u t H1 locs ht hvm hw hB hz1 hk1 hS => ?_)
            obtain ⟨hP1, hK1, hD1⟩ := hB
            rw [ht] at hP1
            try dsimp only at hw
            obtain ⟨hP, hD⟩ := va_join (wr := [ob_Translator h_this h_p1 h_p1_datum h_n38 h_n7 (0 : Int32) (0 : Int32), ob_Program h_p1 h_p1_datum h_p1_words i_p1_size h_p1_constants i_p1_lastConstant, ar_ h_n7 c_n7 12 (fun _ => 0), ar_ h_n38 c_n38 16 f_n38]) (w1 := []) hP hD [] [0, 1, 2, 3] rfl rfl (by decide) (by decide) hk1 hFc hP1 hD1
            generalize H1 = H at hP hS ⊢
            have hP : va_P (dC, dI) vwCl [ob_Translator h_this h_p1 h_p1_datum h_n38 h_n7 (0 : Int32) (0 : Int32), ob_Program h_p1 h_p1_datum h_p1_words i_p1_size h_p1_constants i_p1_lastConstant, ar_ h_n7 c_n7 12 (fun _ => 0), ar_ h_n38 c_n38 16 f_n38] H := hP
            have hD : va_D A [ob_Translator h_this h_p1 h_p1_datum h_n38 h_n7 (0 : Int32) (0 : Int32), ob_Program h_p1 h_p1_datum h_p1_words i_p1_size h_p1_constants i_p1_lastConstant, ar_ h_n7 c_n7 12 (fun _ => 0), ar_ h_n38 c_n38 16 f_n38] := hD
            refine lv_istore (lv' := [(4, .int r_10), (0, .ref h_this), (2, .int v2), (3, .int v3)]) hx hb d_Translator_new_68 hl (by decide) rfl (fun ls hl => ?_)
            refine lv_iload hx hb d_Translator_new_70 (lv_at hl 0 rfl) ?_
            refine lv_bipush (v := 32) hx hb d_Translator_new_72 (by decide) ?_
            refine lv_icmp_ne (tgt := 83) hx hb d_Translator_new_74 (by decide) (fun c_11 => ?_) (fun c_11 => ?_)
            · have hw := hw.2 c_11
              refine lv_aload_n hx hb d_Translator_new_83 rfl (lv_at hl 1 rfl) ?_
              refine va_get (D := (dC, dI)) (ci := 3) (v := .ref h_n38) (C := R_Translator) (T := T_Translator) (N := 6) hx hb hts in_Translator hown hK hP 0 rfl rfl 2 (by decide) (hts _ kt_150) (fun _ h9 => h9) rfl d_Translator_new_84 ?_
              refine lv_iload_n hx hb d_Translator_new_87 rfl (lv_at hl 2 rfl) ?_
              refine lv_aload_n hx hb d_Translator_new_88 rfl (lv_at hl 1 rfl) ?_
              refine va_get (D := (dC, dI)) (ci := 3) (v := .ref h_n38) (C := R_Translator) (T := T_Translator) (N := 6) hx hb hts in_Translator hown hK hP 0 rfl rfl 2 (by decide) (hts _ kt_150) (fun _ h9 => h9) rfl d_Translator_new_89 ?_
              refine lv_iload_n hx hb d_Translator_new_92 rfl (lv_at hl 2 rfl) ?_
              obtain ⟨h_12, hw⟩ := hw
              refine va_iald hx hb hK hP 3 1 rfl rfl h_12 d_Translator_new_93 ?_
              refine lv_iload hx hb d_Translator_new_94 (lv_at hl 0 rfl) ?_
              have hPc := hP.sub (ws' := []) [] rfl
              have hDc := hD.sub (ws' := []) [] (by decide) rfl
              have hKc := hK.sub (tys' := []) [] rfl
              have hFc := va_free (wc := []) hD hS hA [] rfl
              refine va_calli (va_runS (As := [.int (f_n38 v2.toNatClampNeg), .int r_10]) (rest := [.int v2, .ref h_n38]) ⟨hx, hb, hml, hown, hts⟩ (c_Names_withLetter l dC dI H.size (f_n38 v2.toNatClampNeg) r_10 _ hw) (va_cwS 2 hts (gd_S kt_145 kt_146 kt_9 kt_147) rfl rfl rfl (by decide +kernel) ⟨Nat.le_of_ble_eq_true rfl, Nat.le_of_ble_eq_true rfl⟩) ⟨pre_blind, pre_ok hPc hKc hDc hG hS hFc⟩ rfl rfl hl.1 rfl (lv_room (Nat.le_of_ble_eq_true rfl)) d_Translator_new_96 ⟨Nat.le_of_ble_eq_true rfl, Nat.le_of_ble_eq_true rfl⟩) hS (fun q _ h => hFc q h) hFc (fun r_13 u t H1 locs ht hvm hw hB hz1 hk1 hS => ?_)
              obtain ⟨hP1, hK1, hD1⟩ := hB
              rw [ht] at hP1
              try dsimp only at hw
              obtain ⟨hP, hD⟩ := va_join (wr := [ob_Translator h_this h_p1 h_p1_datum h_n38 h_n7 (0 : Int32) (0 : Int32), ob_Program h_p1 h_p1_datum h_p1_words i_p1_size h_p1_constants i_p1_lastConstant, ar_ h_n7 c_n7 12 (fun _ => 0), ar_ h_n38 c_n38 16 f_n38]) (w1 := []) hP hD [] [0, 1, 2, 3] rfl rfl (by decide) (by decide) hk1 hFc hP1 hD1
              generalize H1 = H at hP hS ⊢
              have hP : va_P (dC, dI) vwCl [ob_Translator h_this h_p1 h_p1_datum h_n38 h_n7 (0 : Int32) (0 : Int32), ob_Program h_p1 h_p1_datum h_p1_words i_p1_size h_p1_constants i_p1_lastConstant, ar_ h_n7 c_n7 12 (fun _ => 0), ar_ h_n38 c_n38 16 f_n38] H := hP
              have hD : va_D A [ob_Translator h_this h_p1 h_p1_datum h_n38 h_n7 (0 : Int32) (0 : Int32), ob_Program h_p1 h_p1_datum h_p1_words i_p1_size h_p1_constants i_p1_lastConstant, ar_ h_n7 c_n7 12 (fun _ => 0), ar_ h_n38 c_n38 16 f_n38] := hD
              obtain ⟨h_14, hw⟩ := hw
              refine va_iast hx hb hK hP hD hS 3 1 rfl rfl h_14 d_Translator_new_99 (fun H locs hP hD hS => ?_)
              have hP : va_P (dC, dI) vwCl [ob_Translator h_this h_p1 h_p1_datum h_n38 h_n7 (0 : Int32) (0 : Int32), ob_Program h_p1 h_p1_datum h_p1_words i_p1_size h_p1_constants i_p1_lastConstant, ar_ h_n7 c_n7 12 (fun _ => 0), ar_ h_n38 c_n38 16 (upd f_n38 v2.toNatClampNeg r_13)] H := hP
              have hD : va_D A [ob_Translator h_this h_p1 h_p1_datum h_n38 h_n7 (0 : Int32) (0 : Int32), ob_Program h_p1 h_p1_datum h_p1_words i_p1_size h_p1_constants i_p1_lastConstant, ar_ h_n7 c_n7 12 (fun _ => 0), ar_ h_n38 c_n38 16 (upd f_n38 v2.toNatClampNeg r_13)] := hD
              exact J100 v2 v3 (upd f_n38 v2.toNatClampNeg r_13) _ _ ls (lv_sub hl [1, 2, 3] rfl) hP hD hS hw
            · have hw := hw.1 c_11
              refine lv_iinc (v := v2 + (1 : Int32)) (lv' := [(2, .int (v2 + (1 : Int32))), (4, .int r_10), (0, .ref h_this), (3, .int v3)]) hx hb d_Translator_new_77 hl (k := 2) rfl rfl (by decide) rfl (fun ls hl => ?_)
              refine lv_goto (tgt := 100) hx hb d_Translator_new_80 (by decide) ?_
              exact J100 (v2 + (1 : Int32)) v3 f_n38 _ _ ls (lv_sub hl [2, 0, 3] rfl) hP hD hS hw
  obtain ⟨fu47, hw⟩ := hw
  exact L47   fu47 (0 : Int32) (0 : Int32) (fun _ => 0) _ _ ls (lv_sub hl [2, 1, 0] rfl) hP hD hS hw
