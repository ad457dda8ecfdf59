theorem d_Program_clear_0 : decode b_Program_clear 0 = .ok (.aload_n 0, 1) := by decide +kernel
theorem d_Program_clear_1 : decode b_Program_clear 1 = .ok (.iconst 0, 1) := by decide +kernel
theorem d_Program_clear_2 : decode b_Program_clear 2 = .ok (.putfield 22, 3) := by decide +kernel
theorem d_Program_clear_5 : decode b_Program_clear 5 = .ok (.aload_n 0, 1) := by decide +kernel
theorem d_Program_clear_6 : decode b_Program_clear 6 = .ok (.iconst 0, 1) := by decide +kernel
theorem d_Program_clear_7 : decode b_Program_clear 7 = .ok (.putfield 29, 3) := by decide +kernel
theorem d_Program_clear_10 : decode b_Program_clear 10 = .ok (.return_, 1) := by decide +kernel
theorem d_Program_emit_0 : decode b_Program_emit 0 = .ok (.aload_n 0, 1) := by decide +kernel
theorem d_Program_emit_1 : decode b_Program_emit 1 = .ok (.getfield 22, 3) := by decide +kernel
theorem d_Program_emit_4 : decode b_Program_emit 4 = .ok (.istore 4, 2) := by decide +kernel
theorem d_Program_emit_6 : decode b_Program_emit 6 = .ok (.aload_n 0, 1) := by decide +kernel
theorem d_Program_emit_7 : decode b_Program_emit 7 = .ok (.getfield 22, 3) := by decide +kernel
theorem d_Program_emit_10 : decode b_Program_emit 10 = .ok (.sipush 512, 3) := by decide +kernel
theorem d_Program_emit_13 : decode b_Program_emit 13 = .ok (.if_icmp .ge 34, 3) := by decide +kernel
theorem d_Program_emit_16 : decode b_Program_emit 16 = .ok (.aload_n 0, 1) := by decide +kernel
theorem d_Program_emit_17 : decode b_Program_emit 17 = .ok (.getfield 18, 3) := by decide +kernel
theorem d_Program_emit_20 : decode b_Program_emit 20 = .ok (.aload_n 0, 1) := by decide +kernel
theorem d_Program_emit_21 : decode b_Program_emit 21 = .ok (.getfield 22, 3) := by decide +kernel
theorem d_Program_emit_24 : decode b_Program_emit 24 = .ok (.iload_n 1, 1) := by decide +kernel
theorem d_Program_emit_25 : decode b_Program_emit 25 = .ok (.bipush 32, 2) := by decide +kernel
theorem d_Program_emit_27 : decode b_Program_emit 27 = .ok (.iload_n 2, 1) := by decide +kernel
theorem d_Program_emit_28 : decode b_Program_emit 28 = .ok (.imul, 1) := by decide +kernel
theorem d_Program_emit_29 : decode b_Program_emit 29 = .ok (.iadd, 1) := by decide +kernel
theorem d_Program_emit_30 : decode b_Program_emit 30 = .ok (.sipush 16384, 3) := by decide +kernel
theorem d_Program_emit_33 : decode b_Program_emit 33 = .ok (.iload_n 3, 1) := by decide +kernel
theorem d_Program_emit_34 : decode b_Program_emit 34 = .ok (.imul, 1) := by decide +kernel
theorem d_Program_emit_35 : decode b_Program_emit 35 = .ok (.iadd, 1) := by decide +kernel
theorem d_Program_emit_36 : decode b_Program_emit 36 = .ok (.iastore, 1) := by decide +kernel
theorem d_Program_emit_37 : decode b_Program_emit 37 = .ok (.aload_n 0, 1) := by decide +kernel
theorem d_Program_emit_38 : decode b_Program_emit 38 = .ok (.dup, 1) := by decide +kernel
theorem d_Program_emit_39 : decode b_Program_emit 39 = .ok (.getfield 22, 3) := by decide +kernel
theorem d_Program_emit_42 : decode b_Program_emit 42 = .ok (.iconst 1, 1) := by decide +kernel
theorem d_Program_emit_43 : decode b_Program_emit 43 = .ok (.iadd, 1) := by decide +kernel
theorem d_Program_emit_44 : decode b_Program_emit 44 = .ok (.putfield 22, 3) := by decide +kernel
theorem d_Program_emit_47 : decode b_Program_emit 47 = .ok (.iload 4, 2) := by decide +kernel
theorem d_Program_emit_49 : decode b_Program_emit 49 = .ok (.ireturn, 1) := by decide +kernel
theorem d_Program_addAddresses_0 : decode b_Program_addAddresses 0 = .ok (.iload_n 1, 1) := by decide +kernel
theorem d_Program_addAddresses_1 : decode b_Program_addAddresses 1 = .ok (.aload_n 0, 1) := by decide +kernel
theorem d_Program_addAddresses_2 : decode b_Program_addAddresses 2 = .ok (.getfield 22, 3) := by decide +kernel
theorem d_Program_addAddresses_5 : decode b_Program_addAddresses 5 = .ok (.if_icmp .ge 22, 3) := by decide +kernel
theorem d_Program_addAddresses_8 : decode b_Program_addAddresses 8 = .ok (.aload_n 0, 1) := by decide +kernel
theorem d_Program_addAddresses_9 : decode b_Program_addAddresses 9 = .ok (.getfield 18, 3) := by decide +kernel
theorem d_Program_addAddresses_12 : decode b_Program_addAddresses 12 = .ok (.iload_n 1, 1) := by decide +kernel
theorem d_Program_addAddresses_13 : decode b_Program_addAddresses 13 = .ok (.dup2, 1) := by decide +kernel
theorem d_Program_addAddresses_14 : decode b_Program_addAddresses 14 = .ok (.iaload, 1) := by decide +kernel
theorem d_Program_addAddresses_15 : decode b_Program_addAddresses 15 = .ok (.bipush 32, 2) := by decide +kernel
theorem d_Program_addAddresses_17 : decode b_Program_addAddresses 17 = .ok (.iload_n 2, 1) := by decide +kernel
theorem d_Program_addAddresses_18 : decode b_Program_addAddresses 18 = .ok (.imul, 1) := by decide +kernel
theorem d_Program_addAddresses_19 : decode b_Program_addAddresses 19 = .ok (.sipush 16384, 3) := by decide +kernel
theorem d_Program_addAddresses_22 : decode b_Program_addAddresses 22 = .ok (.iload_n 3, 1) := by decide +kernel
theorem d_Program_addAddresses_23 : decode b_Program_addAddresses 23 = .ok (.imul, 1) := by decide +kernel
theorem d_Program_addAddresses_24 : decode b_Program_addAddresses 24 = .ok (.iadd, 1) := by decide +kernel
theorem d_Program_addAddresses_25 : decode b_Program_addAddresses 25 = .ok (.iadd, 1) := by decide +kernel
theorem d_Program_addAddresses_26 : decode b_Program_addAddresses 26 = .ok (.iastore, 1) := by decide +kernel
theorem d_Program_addAddresses_27 : decode b_Program_addAddresses 27 = .ok (.return_, 1) := by decide +kernel
theorem d_Program_addConstant_0 : decode b_Program_addConstant 0 = .ok (.aload_n 0, 1) := by decide +kernel
theorem d_Program_addConstant_1 : decode b_Program_addConstant 1 = .ok (.getfield 29, 3) := by decide +kernel
theorem d_Program_addConstant_4 : decode b_Program_addConstant 4 = .ok (.sipush 200, 3) := by decide +kernel
theorem d_Program_addConstant_7 : decode b_Program_addConstant 7 = .ok (.if_icmp .ge 23, 3) := by decide +kernel
theorem d_Program_addConstant_10 : decode b_Program_addConstant 10 = .ok (.aload_n 0, 1) := by decide +kernel
theorem d_Program_addConstant_11 : decode b_Program_addConstant 11 = .ok (.dup, 1) := by decide +kernel
theorem d_Program_addConstant_12 : decode b_Program_addConstant 12 = .ok (.getfield 29, 3) := by decide +kernel
theorem d_Program_addConstant_15 : decode b_Program_addConstant 15 = .ok (.iconst 1, 1) := by decide +kernel
theorem d_Program_addConstant_16 : decode b_Program_addConstant 16 = .ok (.iadd, 1) := by decide +kernel
theorem d_Program_addConstant_17 : decode b_Program_addConstant 17 = .ok (.putfield 29, 3) := by decide +kernel
theorem d_Program_addConstant_20 : decode b_Program_addConstant 20 = .ok (.aload_n 0, 1) := by decide +kernel
theorem d_Program_addConstant_21 : decode b_Program_addConstant 21 = .ok (.getfield 26, 3) := by decide +kernel
theorem d_Program_addConstant_24 : decode b_Program_addConstant 24 = .ok (.aload_n 0, 1) := by decide +kernel
theorem d_Program_addConstant_25 : decode b_Program_addConstant 25 = .ok (.getfield 29, 3) := by decide +kernel
theorem d_Program_addConstant_28 : decode b_Program_addConstant 28 = .ok (.iload_n 1, 1) := by decide +kernel
theorem d_Program_addConstant_29 : decode b_Program_addConstant 29 = .ok (.iastore, 1) := by decide +kernel
theorem d_Program_addConstant_30 : decode b_Program_addConstant 30 = .ok (.aload_n 0, 1) := by decide +kernel
theorem d_Program_addConstant_31 : decode b_Program_addConstant 31 = .ok (.getfield 29, 3) := by decide +kernel
theorem d_Program_addConstant_34 : decode b_Program_addConstant 34 = .ok (.ireturn, 1) := by decide +kernel
theorem d_Program_copyFrom_0 : decode b_Program_copyFrom 0 = .ok (.aload_n 0, 1) := by decide +kernel
theorem d_Program_copyFrom_1 : decode b_Program_copyFrom 1 = .ok (.getfield 12, 3) := by decide +kernel
theorem d_Program_copyFrom_4 : decode b_Program_copyFrom 4 = .ok (.aload_n 1, 1) := by decide +kernel
theorem d_Program_copyFrom_5 : decode b_Program_copyFrom 5 = .ok (.getfield 12, 3) := by decide +kernel
theorem d_Program_copyFrom_8 : decode b_Program_copyFrom 8 = .ok (.invokevirtual 32, 3) := by decide +kernel
theorem d_Program_copyFrom_11 : decode b_Program_copyFrom 11 = .ok (.aload_n 1, 1) := by decide +kernel
theorem d_Program_copyFrom_12 : decode b_Program_copyFrom 12 = .ok (.getfield 18, 3) := by decide +kernel
theorem d_Program_copyFrom_15 : decode b_Program_copyFrom 15 = .ok (.iconst 0, 1) := by decide +kernel
theorem d_Program_copyFrom_16 : decode b_Program_copyFrom 16 = .ok (.aload_n 0, 1) := by decide +kernel
theorem d_Program_copyFrom_17 : decode b_Program_copyFrom 17 = .ok (.getfield 18, 3) := by decide +kernel
theorem d_Program_copyFrom_20 : decode b_Program_copyFrom 20 = .ok (.iconst 0, 1) := by decide +kernel
theorem d_Program_copyFrom_21 : decode b_Program_copyFrom 21 = .ok (.aload_n 1, 1) := by decide +kernel
theorem d_Program_copyFrom_22 : decode b_Program_copyFrom 22 = .ok (.getfield 22, 3) := by decide +kernel
theorem d_Program_copyFrom_25 : decode b_Program_copyFrom 25 = .ok (.invokestatic 36, 3) := by decide +kernel
theorem d_Program_copyFrom_28 : decode b_Program_copyFrom 28 = .ok (.aload_n 0, 1) := by decide +kernel
theorem d_Program_copyFrom_29 : decode b_Program_copyFrom 29 = .ok (.aload_n 1, 1) := by decide +kernel
theorem d_Program_copyFrom_30 : decode b_Program_copyFrom 30 = .ok (.getfield 22, 3) := by decide +kernel
theorem d_Program_copyFrom_33 : decode b_Program_copyFrom 33 = .ok (.putfield 22, 3) := by decide +kernel
theorem d_Program_copyFrom_36 : decode b_Program_copyFrom 36 = .ok (.aload_n 1, 1) := by decide +kernel
theorem d_Program_copyFrom_37 : decode b_Program_copyFrom 37 = .ok (.getfield 26, 3) := by decide +kernel
theorem d_Program_copyFrom_40 : decode b_Program_copyFrom 40 = .ok (.iconst 0, 1) := by decide +kernel
theorem d_Program_copyFrom_41 : decode b_Program_copyFrom 41 = .ok (.aload_n 0, 1) := by decide +kernel
theorem d_Program_copyFrom_42 : decode b_Program_copyFrom 42 = .ok (.getfield 26, 3) := by decide +kernel
theorem d_Program_copyFrom_45 : decode b_Program_copyFrom 45 = .ok (.iconst 0, 1) := by decide +kernel
theorem d_Program_copyFrom_46 : decode b_Program_copyFrom 46 = .ok (.aload_n 1, 1) := by decide +kernel
theorem d_Program_copyFrom_47 : decode b_Program_copyFrom 47 = .ok (.getfield 29, 3) := by decide +kernel
theorem d_Program_copyFrom_50 : decode b_Program_copyFrom 50 = .ok (.iconst 1, 1) := by decide +kernel
theorem d_Program_copyFrom_51 : decode b_Program_copyFrom 51 = .ok (.iadd, 1) := by decide +kernel
theorem d_Program_copyFrom_52 : decode b_Program_copyFrom 52 = .ok (.invokestatic 36, 3) := by decide +kernel
theorem d_Program_copyFrom_55 : decode b_Program_copyFrom 55 = .ok (.aload_n 0, 1) := by decide +kernel
theorem d_Program_copyFrom_56 : decode b_Program_copyFrom 56 = .ok (.aload_n 1, 1) := by decide +kernel
theorem d_Program_copyFrom_57 : decode b_Program_copyFrom 57 = .ok (.getfield 29, 3) := by decide +kernel
theorem d_Program_copyFrom_60 : decode b_Program_copyFrom 60 = .ok (.putfield 29, 3) := by decide +kernel
theorem d_Program_copyFrom_63 : decode b_Program_copyFrom 63 = .ok (.return_, 1) := by decide +kernel
theorem d_Program_wordAt_0 : decode b_Program_wordAt 0 = .ok (.iload_n 1, 1) := by decide +kernel
theorem d_Program_wordAt_1 : decode b_Program_wordAt 1 = .ok (.ifCond .lt 20, 3) := by decide +kernel
theorem d_Program_wordAt_4 : decode b_Program_wordAt 4 = .ok (.iload_n 1, 1) := by decide +kernel
theorem d_Program_wordAt_5 : decode b_Program_wordAt 5 = .ok (.aload_n 0, 1) := by decide +kernel
theorem d_Program_wordAt_6 : decode b_Program_wordAt 6 = .ok (.getfield 22, 3) := by decide +kernel
theorem d_Program_wordAt_9 : decode b_Program_wordAt 9 = .ok (.if_icmp .ge 12, 3) := by decide +kernel
theorem d_Program_wordAt_12 : decode b_Program_wordAt 12 = .ok (.aload_n 0, 1) := by decide +kernel
theorem d_Program_wordAt_13 : decode b_Program_wordAt 13 = .ok (.getfield 18, 3) := by decide +kernel
theorem d_Program_wordAt_16 : decode b_Program_wordAt 16 = .ok (.iload_n 1, 1) := by decide +kernel
theorem d_Program_wordAt_17 : decode b_Program_wordAt 17 = .ok (.iaload, 1) := by decide +kernel
theorem d_Program_wordAt_18 : decode b_Program_wordAt 18 = .ok (.goto 4, 3) := by decide +kernel
theorem d_Program_wordAt_21 : decode b_Program_wordAt 21 = .ok (.iconst (-1), 1) := by decide +kernel
theorem d_Program_wordAt_22 : decode b_Program_wordAt 22 = .ok (.ireturn, 1) := by decide +kernel
theorem d_Names_isLasting_0 : decode b_Names_isLasting 0 = .ok (.iload_n 0, 1) := by decide +kernel
theorem d_Names_isLasting_1 : decode b_Names_isLasting 1 = .ok (.sipush 14636, 3) := by decide +kernel
theorem d_Names_isLasting_4 : decode b_Names_isLasting 4 = .ok (.if_icmp .eq 15, 3) := by decide +kernel
theorem d_Names_isLasting_7 : decode b_Names_isLasting 7 = .ok (.iload_n 0, 1) := by decide +kernel
theorem d_Names_isLasting_8 : decode b_Names_isLasting 8 = .ok (.bipush 20, 2) := by decide +kernel
theorem d_Names_isLasting_10 : decode b_Names_isLasting 10 = .ok (.if_icmp .eq 9, 3) := by decide +kernel
theorem d_Names_isLasting_13 : decode b_Names_isLasting 13 = .ok (.iload_n 0, 1) := by decide +kernel
theorem d_Names_isLasting_14 : decode b_Names_isLasting 14 = .ok (.bipush 6, 2) := by decide +kernel
theorem d_Names_isLasting_16 : decode b_Names_isLasting 16 = .ok (.if_icmp .ne 7, 3) := by decide +kernel
theorem d_Names_isLasting_19 : decode b_Names_isLasting 19 = .ok (.iconst 1, 1) := by decide +kernel
theorem d_Names_isLasting_20 : decode b_Names_isLasting 20 = .ok (.goto 4, 3) := by decide +kernel
theorem d_Names_isLasting_23 : decode b_Names_isLasting 23 = .ok (.iconst 0, 1) := by decide +kernel
theorem d_Names_isLasting_24 : decode b_Names_isLasting 24 = .ok (.ireturn, 1) := by decide +kernel
theorem d_Program_constantNode_0 : decode b_Program_constantNode 0 = .ok (.aload_n 0, 1) := by decide +kernel
theorem d_Program_constantNode_1 : decode b_Program_constantNode 1 = .ok (.getfield 26, 3) := by decide +kernel
theorem d_Program_constantNode_4 : decode b_Program_constantNode 4 = .ok (.iload_n 1, 1) := by decide +kernel
theorem d_Program_constantNode_5 : decode b_Program_constantNode 5 = .ok (.iaload, 1) := by decide +kernel
theorem d_Program_constantNode_6 : decode b_Program_constantNode 6 = .ok (.ireturn, 1) := by decide +kernel
theorem d_Op_opOf_0 : decode b_Op_opOf 0 = .ok (.iload_n 0, 1) := by decide +kernel
theorem d_Op_opOf_1 : decode b_Op_opOf 1 = .ok (.ifCond .ge 8, 3) := by decide +kernel
theorem d_Op_opOf_4 : decode b_Op_opOf 4 = .ok (.bipush 20, 2) := by decide +kernel
theorem d_Op_opOf_6 : decode b_Op_opOf 6 = .ok (.goto 12, 3) := by decide +kernel
theorem d_Op_opOf_9 : decode b_Op_opOf 9 = .ok (.iload_n 0, 1) := by decide +kernel
theorem d_Op_opOf_10 : decode b_Op_opOf 10 = .ok (.bipush 32, 2) := by decide +kernel
theorem d_Op_opOf_12 : decode b_Op_opOf 12 = .ok (.irem, 1) := by decide +kernel
theorem d_Op_opOf_13 : decode b_Op_opOf 13 = .ok (.bipush 20, 2) := by decide +kernel
theorem d_Op_opOf_15 : decode b_Op_opOf 15 = .ok (.invokestatic 9, 3) := by decide +kernel
theorem d_Op_opOf_18 : decode b_Op_opOf 18 = .ok (.ireturn, 1) := by decide +kernel
theorem d_Op_firstOf_0 : decode b_Op_firstOf 0 = .ok (.iload_n 0, 1) := by decide +kernel
theorem d_Op_firstOf_1 : decode b_Op_firstOf 1 = .ok (.sipush 16384, 3) := by decide +kernel
theorem d_Op_firstOf_4 : decode b_Op_firstOf 4 = .ok (.irem, 1) := by decide +kernel
theorem d_Op_firstOf_5 : decode b_Op_firstOf 5 = .ok (.bipush 32, 2) := by decide +kernel
theorem d_Op_firstOf_7 : decode b_Op_firstOf 7 = .ok (.idiv, 1) := by decide +kernel
theorem d_Op_firstOf_8 : decode b_Op_firstOf 8 = .ok (.ireturn, 1) := by decide +kernel
theorem d_Op_secondOf_0 : decode b_Op_secondOf 0 = .ok (.iload_n 0, 1) := by decide +kernel
theorem d_Op_secondOf_1 : decode b_Op_secondOf 1 = .ok (.sipush 16384, 3) := by decide +kernel
theorem d_Op_secondOf_4 : decode b_Op_secondOf 4 = .ok (.idiv, 1) := by decide +kernel
theorem d_Op_secondOf_5 : decode b_Op_secondOf 5 = .ok (.ireturn, 1) := by decide +kernel
theorem d_Op_cyclesOf_0 : decode b_Op_cyclesOf 0 = .ok (.iload_n 0, 1) := by decide +kernel
theorem d_Op_cyclesOf_1 : decode b_Op_cyclesOf 1 = .ok (.invokestatic 15, 3) := by decide +kernel
theorem d_Op_cyclesOf_4 : decode b_Op_cyclesOf 4 = .ok (.istore_n 1, 1) := by decide +kernel
theorem d_Op_cyclesOf_5 : decode b_Op_cyclesOf 5 = .ok (.iload_n 1, 1) := by decide +kernel
theorem d_Op_cyclesOf_6 : decode b_Op_cyclesOf 6 = .ok (.ifCond .ne 21, 3) := by decide +kernel
theorem d_Op_cyclesOf_9 : decode b_Op_cyclesOf 9 = .ok (.getstatic 19, 3) := by decide +kernel
theorem d_Op_cyclesOf_12 : decode b_Op_cyclesOf 12 = .ok (.iconst 0, 1) := by decide +kernel
theorem d_Op_cyclesOf_13 : decode b_Op_cyclesOf 13 = .ok (.iaload, 1) := by decide +kernel
theorem d_Op_cyclesOf_14 : decode b_Op_cyclesOf 14 = .ok (.iload_n 0, 1) := by decide +kernel
theorem d_Op_cyclesOf_15 : decode b_Op_cyclesOf 15 = .ok (.invokestatic 23, 3) := by decide +kernel
theorem d_Op_cyclesOf_18 : decode b_Op_cyclesOf 18 = .ok (.iadd, 1) := by decide +kernel
theorem d_Op_cyclesOf_19 : decode b_Op_cyclesOf 19 = .ok (.iload_n 0, 1) := by decide +kernel
theorem d_Op_cyclesOf_20 : decode b_Op_cyclesOf 20 = .ok (.invokestatic 26, 3) := by decide +kernel
theorem d_Op_cyclesOf_23 : decode b_Op_cyclesOf 23 = .ok (.iadd, 1) := by decide +kernel
theorem d_Op_cyclesOf_24 : decode b_Op_cyclesOf 24 = .ok (.goto 8, 3) := by decide +kernel
theorem d_Op_cyclesOf_27 : decode b_Op_cyclesOf 27 = .ok (.getstatic 19, 3) := by decide +kernel
theorem d_Op_cyclesOf_30 : decode b_Op_cyclesOf 30 = .ok (.iload_n 1, 1) := by decide +kernel
theorem d_Op_cyclesOf_31 : decode b_Op_cyclesOf 31 = .ok (.iaload, 1) := by decide +kernel
theorem d_Op_cyclesOf_32 : decode b_Op_cyclesOf 32 = .ok (.ireturn, 1) := by decide +kernel
theorem d_Op_cellsOf_0 : decode b_Op_cellsOf 0 = .ok (.getstatic 29, 3) := by decide +kernel
theorem d_Op_cellsOf_3 : decode b_Op_cellsOf 3 = .ok (.iload_n 0, 1) := by decide +kernel
theorem d_Op_cellsOf_4 : decode b_Op_cellsOf 4 = .ok (.invokestatic 15, 3) := by decide +kernel
theorem d_Op_cellsOf_7 : decode b_Op_cellsOf 7 = .ok (.iaload, 1) := by decide +kernel
theorem d_Op_cellsOf_8 : decode b_Op_cellsOf 8 = .ok (.ireturn, 1) := by decide +kernel
set_option maxHeartbeats 4000000 in
set_option maxRecDepth 100000 in
theorem c_Program_clear (l : Launch) (dC : Nat → ClassId) (dI : Nat → Nat → Nat) (h_this : Nat) (h_datum : Nat) (h_words : Nat) (h_constants : Nat)  (sz : Nat)  (i_size : Int32) (i_lastConstant : Int32)  (post : Int32 → Int32 → Prop) (hw : wp_Program_clear i_size i_lastConstant  post) : Met l y_Program_clear (ws_ y_Program_clear b_Program_clear 1 none) { frames := 0, cells := 0, slots := 0, locals := 0 } (va_Pc [.ref h_this] (PRE (dC, dI) vwCl [] [ob_Program h_this h_datum h_words i_size h_constants i_lastConstant] sz (va_A [ob_Program h_this h_datum h_words i_size h_constants i_lastConstant] sz))) (va_Qv (fun (u : Int32 × Int32) => post u.1 u.2) (fun (u : Int32 × Int32) (t : State) => va_P (dC, dI) vwCl [ob_Program h_this h_datum h_words u.1 h_constants u.2] t.heap ∧ va_K (dC, dI) vwCl [] t ∧ va_D (va_A [ob_Program h_this h_datum h_words i_size h_constants i_lastConstant] sz) [ob_Program h_this h_datum h_words u.1 h_constants u.2]) (va_A [ob_Program h_this h_datum h_words i_size h_constants i_lastConstant] sz)) 0 0 (va_A [ob_Program h_this h_datum h_words i_size h_constants i_lastConstant] sz) := by
  refine Met.ofW (cc := b_Program_clear) (maxL := 1) (ret := none) (by decide) rfl ?_
  intro p e s m args below meth c s₁ B hml hv
  obtain ⟨rfl, hsz, hP, hK, hD0, hG⟩ := hv
  have hx := B.exec
  have hb := B.bytes
  have hr := B.returns
  have hts : ∀ w ∈ tb, w.before _ s = true := fun w h => atoms_spec (ws := ws_ _ _ _ _) B.pre w (List.mem_cons_of_mem _ h)
  have hown : s.vm.findClass R_Program = some m.cls := findClass_of_methodNamed B.named
  have hlocks := B.notSynchronized
  subst hsz
  have hD := hD0.self (sz := s.heap.size)
  generalize hAe : va_A [ob_Program h_this h_datum h_words i_size h_constants i_lastConstant] s.heap.size = A at hD hG ⊢
  have hA : ∀ q : Nat, s.heap.size ≤ q → A q := fun q h => by rw [← hAe]; exact Or.inr h
  have hS : va_S A s.heap s.heap [] := va_S.rf
  have hP : va_P (dC, dI) vwCl [ob_Program h_this h_datum h_words i_size h_constants i_lastConstant] s.heap := hP
  have hl := lv_entry [.ref h_this] (n := 1) (Nat.le_of_ble_eq_true rfl)
  rw [lg_entry_eq]
  generalize (lg_sl [.ref h_this] ++ List.replicate (1 - (lg_sl [.ref h_this]).length) Slot.unset).toArray = ls at hl ⊢
  have hl : lv_has ls 1 [(0, .ref h_this)] := hl
  obtain ⟨Q, hQ⟩ : ∃ Q : State → Prop, Q = MQ below (va_Qv (fun (u : Int32 × Int32) => post u.1 u.2) (fun (u : Int32 × Int32) (t : State) => va_P (dC, dI) vwCl [ob_Program h_this h_datum h_words u.1 h_constants u.2] t.heap ∧ va_K (dC, dI) vwCl [] t ∧ va_D A [ob_Program h_this h_datum h_words u.1 h_constants u.2]) A) ([.ref h_this] : List Value).toArray s 0 0 A := ⟨_, rfl⟩
  rw [← hQ]
  unfold wp_Program_clear at hw
  refine lv_aload_n hx hb d_Program_clear_0 rfl (lv_at hl 0 rfl) ?_
  refine lv_iconst (v := 0) hx hb d_Program_clear_1 (by decide) ?_
  refine va_put (D := (dC, dI)) (ci := 2) (v := .int (0 : Int32)) (ty := .int) (C := R_Program) (T := T_Program) (N := 5) hx hb hts in_Program t_Program t_Program_ok nm_Program hown hK hP hD hS 0 rfl rfl 2 (by decide) (hts _ kt_73) (fun _ h9 => h9) rfl (by decide +kernel) rfl rfl (Nat.le_of_ble_eq_true rfl) d_Program_clear_2 (fun H locs hP hD hS => ?_)
  have hP : va_P (dC, dI) vwCl [ob_Program h_this h_datum h_words (0 : Int32) h_constants i_lastConstant] H := hP
  have hD : va_D A [ob_Program h_this h_datum h_words (0 : Int32) h_constants i_lastConstant] := hD
  refine lv_aload_n hx hb d_Program_clear_5 rfl (lv_at hl 0 rfl) ?_
  refine lv_iconst (v := 0) hx hb d_Program_clear_6 (by decide) ?_
  refine va_put (D := (dC, dI)) (ci := 2) (v := .int (0 : Int32)) (ty := .int) (C := R_Program) (T := T_Program) (N := 5) hx hb hts in_Program t_Program t_Program_ok nm_Program hown hK hP hD hS 0 rfl rfl 4 (by decide) (hts _ kt_77) (fun _ h9 => h9) rfl (by decide +kernel) rfl rfl (Nat.le_of_ble_eq_true rfl) d_Program_clear_7 (fun H locs hP hD hS => ?_)
  have hP : va_P (dC, dI) vwCl [ob_Program h_this h_datum h_words (0 : Int32) h_constants (0 : Int32)] H := hP
  have hD : va_D A [ob_Program h_this h_datum h_words (0 : Int32) h_constants (0 : Int32)] := hD
  have hP9 : va_P (dC, dI) vwCl [ob_Program h_this h_datum h_words (0 : Int32) h_constants (0 : Int32)] _ := hP
  have hD9 : va_D A [ob_Program h_this h_datum h_words (0 : Int32) h_constants (0 : Int32)] := hD
  rw [hQ]
  exact W.vret hx hb hr (fun t ht hW => ⟨⟨((0 : Int32), (0 : Int32)), rfl, hw, by rw [ht]; exact hP9, va_K.moved hW.alike hK, hD9⟩, hS.F ht⟩) hS.2.2 d_Program_clear_10

set_option maxHeartbeats 4000000 in
set_option maxRecDepth 100000 in
theorem c_Program_emit (l : Launch) (dC : Nat → ClassId) (dI : Nat → Nat → Nat) (h_this : Nat) (h_words : Nat) (h_datum : Nat) (h_constants : Nat) (c_words : ClassId) (sz : Nat)  (i_size : Int32) (i_lastConstant : Int32) (f_words : Nat → Int32) (x1 : Int32) (x2 : Int32) (x3 : Int32) (post : Int32 → Int32 → (Nat → Int32) → Prop) (hw : wp_Program_emit i_size f_words x1 x2 x3 post) : Met l y_Program_emit (ws_ y_Program_emit b_Program_emit 5 (some .int)) { frames := 0, cells := 0, slots := 0, locals := 0 } (va_Pc [.ref h_this, .int x1, .int x2, .int x3] (PRE (dC, dI) vwCl [(c_words, .int)] [ob_Program h_this h_datum h_words i_size h_constants i_lastConstant, ar_ h_words c_words 512 f_words] sz (va_A [ob_Program h_this h_datum h_words i_size h_constants i_lastConstant, ar_ h_words c_words 512 f_words] sz))) (va_Qi (fun (r : Int32) (u : Int32 × (Nat → Int32)) => post r u.1 u.2) (fun (u : Int32 × (Nat → Int32)) (t : State) => va_P (dC, dI) vwCl [ob_Program h_this h_datum h_words u.1 h_constants i_lastConstant, ar_ h_words c_words 512 u.2] t.heap ∧ va_K (dC, dI) vwCl [(c_words, .int)] t ∧ va_D (va_A [ob_Program h_this h_datum h_words i_size h_constants i_lastConstant, ar_ h_words c_words 512 f_words] sz) [ob_Program h_this h_datum h_words u.1 h_constants i_lastConstant, ar_ h_words c_words 512 u.2]) (va_A [ob_Program h_this h_datum h_words i_size h_constants i_lastConstant, ar_ h_words c_words 512 f_words] sz)) 0 0 (va_A [ob_Program h_this h_datum h_words i_size h_constants i_lastConstant, ar_ h_words c_words 512 f_words] sz) := by
  refine Met.ofW (cc := b_Program_emit) (maxL := 5) (ret := (some .int)) (by decide) rfl ?_
  intro p e s m args below meth c s₁ B hml hv
  obtain ⟨rfl, hsz, hP, hK, hD0, hG⟩ := hv
  have hx := B.exec
  have hb := B.bytes
  have hr := B.returns
  have hts : ∀ w ∈ tb, w.before _ s = true := fun w h => atoms_spec (ws := ws_ _ _ _ _) B.pre w (List.mem_cons_of_mem _ h)
  have hown : s.vm.findClass R_Program = some m.cls := findClass_of_methodNamed B.named
  have hlocks := B.notSynchronized
  subst hsz
  have hD := hD0.self (sz := s.heap.size)
  generalize hAe : va_A [ob_Program h_this h_datum h_words i_size h_constants i_lastConstant, ar_ h_words c_words 512 f_words] s.heap.size = A at hD hG ⊢
  have hA : ∀ q : Nat, s.heap.size ≤ q → A q := fun q h => by rw [← hAe]; exact Or.inr h
  have hS : va_S A s.heap s.heap [] := va_S.rf
  have hP : va_P (dC, dI) vwCl [ob_Program h_this h_datum h_words i_size h_constants i_lastConstant, ar_ h_words c_words 512 f_words] s.heap := hP
  have hl := lv_entry [.ref h_this, .int x1, .int x2, .int x3] (n := 5) (Nat.le_of_ble_eq_true rfl)
  rw [lg_entry_eq]
  generalize (lg_sl [.ref h_this, .int x1, .int x2, .int x3] ++ List.replicate (5 - (lg_sl [.ref h_this, .int x1, .int x2, .int x3]).length) Slot.unset).toArray = ls at hl ⊢
  have hl : lv_has ls 5 [(0, .ref h_this), (1, .int x1), (2, .int x2), (3, .int x3)] := hl
  obtain ⟨Q, hQ⟩ : ∃ Q : State → Prop, Q = MQ below (va_Qi (fun (r : Int32) (u : Int32 × (Nat → Int32)) => post r u.1 u.2) (fun (u : Int32 × (Nat → Int32)) (t : State) => va_P (dC, dI) vwCl [ob_Program h_this h_datum h_words u.1 h_constants i_lastConstant, ar_ h_words c_words 512 u.2] t.heap ∧ va_K (dC, dI) vwCl [(c_words, .int)] t ∧ va_D A [ob_Program h_this h_datum h_words u.1 h_constants i_lastConstant, ar_ h_words c_words 512 u.2]) A) ([.ref h_this, .int x1, .int x2, .int x3] : List Value).toArray s 0 0 A := ⟨_, rfl⟩
  rw [← hQ]
  unfold wp_Program_emit at hw
  refine lv_aload_n hx hb d_Program_emit_0 rfl (lv_at hl 0 rfl) ?_
  refine va_get (D := (dC, dI)) (ci := 2) (v := .int i_size) (C := R_Program) (T := T_Program) (N := 5) hx hb hts in_Program hown hK hP 0 rfl rfl 2 (by decide) (hts _ kt_73) (fun _ h9 => h9) rfl d_Program_emit_1 ?_
  refine lv_istore (lv' := [(4, .int i_size), (0, .ref h_this), (1, .int x1), (2, .int x2), (3, .int x3)]) hx hb d_Program_emit_4 hl (by decide) rfl (fun ls hl => ?_)
  refine lv_aload_n hx hb d_Program_emit_6 rfl (lv_at hl 1 rfl) ?_
  refine va_get (D := (dC, dI)) (ci := 2) (v := .int i_size) (C := R_Program) (T := T_Program) (N := 5) hx hb hts in_Program hown hK hP 0 rfl rfl 2 (by decide) (hts _ kt_73) (fun _ h9 => h9) rfl d_Program_emit_7 ?_
  refine lv_sipush (v := 512) hx hb d_Program_emit_10 (by decide) ?_
  refine lv_icmp_ge (tgt := 47) hx hb d_Program_emit_13 (by decide) (fun c_1 => ?_) (fun c_1 => ?_)
  · have hw := hw.1 c_1
    refine lv_iload hx hb d_Program_emit_47 (lv_at hl 0 rfl) ?_
    have hP9 : va_P (dC, dI) vwCl [ob_Program h_this h_datum h_words i_size h_constants i_lastConstant, ar_ h_words c_words 512 f_words] _ := hP
    have hD9 : va_D A [ob_Program h_this h_datum h_words i_size h_constants i_lastConstant, ar_ h_words c_words 512 f_words] := hD
    rw [hQ]
    exact W.iret (v := i_size) hx hb hr (fun t ht hW => ⟨⟨i_size, (i_size, f_words), rfl, hw, by rw [ht]; exact hP9, va_K.moved hW.alike hK, hD9⟩, hS.F ht⟩) hS.2.2 d_Program_emit_49
  · have hw := hw.2 c_1
    refine lv_aload_n hx hb d_Program_emit_16 rfl (lv_at hl 1 rfl) ?_
    refine va_get (D := (dC, dI)) (ci := 2) (v := .ref h_words) (C := R_Program) (T := T_Program) (N := 5) hx hb hts in_Program hown hK hP 0 rfl rfl 1 (by decide) (hts _ kt_72) (fun _ h9 => h9) rfl d_Program_emit_17 ?_
    refine lv_aload_n hx hb d_Program_emit_20 rfl (lv_at hl 1 rfl) ?_
    refine va_get (D := (dC, dI)) (ci := 2) (v := .int i_size) (C := R_Program) (T := T_Program) (N := 5) hx hb hts in_Program hown hK hP 0 rfl rfl 2 (by decide) (hts _ kt_73) (fun _ h9 => h9) rfl d_Program_emit_21 ?_
    refine lv_iload_n hx hb d_Program_emit_24 rfl (lv_at hl 2 rfl) ?_
    refine lv_bipush (v := 32) hx hb d_Program_emit_25 (by decide) ?_
    refine lv_iload_n hx hb d_Program_emit_27 rfl (lv_at hl 3 rfl) ?_
    refine lv_imul hx hb d_Program_emit_28 ?_
    refine lv_iadd hx hb d_Program_emit_29 ?_
    refine lv_sipush (v := 16384) hx hb d_Program_emit_30 (by decide) ?_
    refine lv_iload_n hx hb d_Program_emit_33 rfl (lv_at hl 4 rfl) ?_
    refine lv_imul hx hb d_Program_emit_34 ?_
    refine lv_iadd hx hb d_Program_emit_35 ?_
    obtain ⟨h_2, hw⟩ := hw
    refine va_iast hx hb hK hP hD hS 1 0 rfl rfl h_2 d_Program_emit_36 (fun H locs hP hD hS => ?_)
    have hP : va_P (dC, dI) vwCl [ob_Program h_this h_datum h_words i_size h_constants i_lastConstant, ar_ h_words c_words 512 (upd f_words i_size.toNatClampNeg ((x1 + ((32 : Int32) * x2)) + ((16384 : Int32) * x3)))] H := hP
    have hD : va_D A [ob_Program h_this h_datum h_words i_size h_constants i_lastConstant, ar_ h_words c_words 512 (upd f_words i_size.toNatClampNeg ((x1 + ((32 : Int32) * x2)) + ((16384 : Int32) * x3)))] := hD
    refine lv_aload_n hx hb d_Program_emit_37 rfl (lv_at hl 1 rfl) ?_
    refine lv_dup hx hb d_Program_emit_38 rfl ?_
    refine va_get (D := (dC, dI)) (ci := 2) (v := .int i_size) (C := R_Program) (T := T_Program) (N := 5) hx hb hts in_Program hown hK hP 0 rfl rfl 2 (by decide) (hts _ kt_73) (fun _ h9 => h9) rfl d_Program_emit_39 ?_
    refine lv_iconst (v := 1) hx hb d_Program_emit_42 (by decide) ?_
    refine lv_iadd hx hb d_Program_emit_43 ?_
    refine va_put (D := (dC, dI)) (ci := 2) (v := .int (i_size + (1 : Int32))) (ty := .int) (C := R_Program) (T := T_Program) (N := 5) hx hb hts in_Program t_Program t_Program_ok nm_Program hown hK hP hD hS 0 rfl rfl 2 (by decide) (hts _ kt_73) (fun _ h9 => h9) rfl (by decide +kernel) rfl rfl (Nat.le_of_ble_eq_true rfl) d_Program_emit_44 (fun H locs hP hD hS => ?_)
    have hP : va_P (dC, dI) vwCl [ob_Program h_this h_datum h_words (i_size + (1 : Int32)) h_constants i_lastConstant, ar_ h_words c_words 512 (upd f_words i_size.toNatClampNeg ((x1 + ((32 : Int32) * x2)) + ((16384 : Int32) * x3)))] H := hP
    have hD : va_D A [ob_Program h_this h_datum h_words (i_size + (1 : Int32)) h_constants i_lastConstant, ar_ h_words c_words 512 (upd f_words i_size.toNatClampNeg ((x1 + ((32 : Int32) * x2)) + ((16384 : Int32) * x3)))] := hD
    refine lv_iload hx hb d_Program_emit_47 (lv_at hl 0 rfl) ?_
    have hP9 : va_P (dC, dI) vwCl [ob_Program h_this h_datum h_words (i_size + (1 : Int32)) h_constants i_lastConstant, ar_ h_words c_words 512 (upd f_words i_size.toNatClampNeg ((x1 + ((32 : Int32) * x2)) + ((16384 : Int32) * x3)))] _ := hP
    have hD9 : va_D A [ob_Program h_this h_datum h_words (i_size + (1 : Int32)) h_constants i_lastConstant, ar_ h_words c_words 512 (upd f_words i_size.toNatClampNeg ((x1 + ((32 : Int32) * x2)) + ((16384 : Int32) * x3)))] := hD
    rw [hQ]
    exact W.iret (v := i_size) hx hb hr (fun t ht hW => ⟨⟨i_size, (i_size + (1 : Int32), upd f_words i_size.toNatClampNeg ((x1 + ((32 : Int32) * x2)) + ((16384 : Int32) * x3))), rfl, hw, by rw [ht]; exact hP9, va_K.moved hW.alike hK, hD9⟩, hS.F ht⟩) hS.2.2 d_Program_emit_49

set_option maxHeartbeats 4000000 in
set_option maxRecDepth 100000 in
theorem c_Program_addAddresses (l : Launch) (dC : Nat → ClassId) (dI : Nat → Nat → Nat) (h_this : Nat) (h_words : Nat) (h_datum : Nat) (h_constants : Nat) (c_words : ClassId) (sz : Nat)  (i_size : Int32) (i_lastConstant : Int32) (f_words : Nat → Int32) (x1 : Int32) (x2 : Int32) (x3 : Int32) (post : (Nat → Int32) → Prop) (hw : wp_Program_addAddresses i_size f_words x1 x2 x3 post) : Met l y_Program_addAddresses (ws_ y_Program_addAddresses b_Program_addAddresses 4 none) { frames := 0, cells := 0, slots := 0, locals := 0 } (va_Pc [.ref h_this, .int x1, .int x2, .int x3] (PRE (dC, dI) vwCl [(c_words, .int)] [ob_Program h_this h_datum h_words i_size h_constants i_lastConstant, ar_ h_words c_words 512 f_words] sz (va_A [ob_Program h_this h_datum h_words i_size h_constants i_lastConstant, ar_ h_words c_words 512 f_words] sz))) (va_Qv (fun (u : (Nat → Int32)) => post u) (fun (u : (Nat → Int32)) (t : State) => va_P (dC, dI) vwCl [ob_Program h_this h_datum h_words i_size h_constants i_lastConstant, ar_ h_words c_words 512 u] t.heap ∧ va_K (dC, dI) vwCl [(c_words, .int)] t ∧ va_D (va_A [ob_Program h_this h_datum h_words i_size h_constants i_lastConstant, ar_ h_words c_words 512 f_words] sz) [ob_Program h_this h_datum h_words i_size h_constants i_lastConstant, ar_ h_words c_words 512 u]) (va_A [ob_Program h_this h_datum h_words i_size h_constants i_lastConstant, ar_ h_words c_words 512 f_words] sz)) 0 0 (va_A [ob_Program h_this h_datum h_words i_size h_constants i_lastConstant, ar_ h_words c_words 512 f_words] sz) := by
  refine Met.ofW (cc := b_Program_addAddresses) (maxL := 4) (ret := none) (by decide) rfl ?_
  intro p e s m args below meth c s₁ B hml hv
  obtain ⟨rfl, hsz, hP, hK, hD0, hG⟩ := hv
  have hx := B.exec
  have hb := B.bytes
  have hr := B.returns
  have hts : ∀ w ∈ tb, w.before _ s = true := fun w h => atoms_spec (ws := ws_ _ _ _ _) B.pre w (List.mem_cons_of_mem _ h)
  have hown : s.vm.findClass R_Program = some m.cls := findClass_of_methodNamed B.named
  have hlocks := B.notSynchronized
  subst hsz
  have hD := hD0.self (sz := s.heap.size)
  generalize hAe : va_A [ob_Program h_this h_datum h_words i_size h_constants i_lastConstant, ar_ h_words c_words 512 f_words] s.heap.size = A at hD hG ⊢
  have hA : ∀ q : Nat, s.heap.size ≤ q → A q := fun q h => by rw [← hAe]; exact Or.inr h
  have hS : va_S A s.heap s.heap [] := va_S.rf
  have hP : va_P (dC, dI) vwCl [ob_Program h_this h_datum h_words i_size h_constants i_lastConstant, ar_ h_words c_words 512 f_words] s.heap := hP
  have hl := lv_entry [.ref h_this, .int x1, .int x2, .int x3] (n := 4) (Nat.le_of_ble_eq_true rfl)
  rw [lg_entry_eq]
  generalize (lg_sl [.ref h_this, .int x1, .int x2, .int x3] ++ List.replicate (4 - (lg_sl [.ref h_this, .int x1, .int x2, .int x3]).length) Slot.unset).toArray = ls at hl ⊢
  have hl : lv_has ls 4 [(0, .ref h_this), (1, .int x1), (2, .int x2), (3, .int x3)] := hl
  obtain ⟨Q, hQ⟩ : ∃ Q : State → Prop, Q = MQ below (va_Qv (fun (u : (Nat → Int32)) => post u) (fun (u : (Nat → Int32)) (t : State) => va_P (dC, dI) vwCl [ob_Program h_this h_datum h_words i_size h_constants i_lastConstant, ar_ h_words c_words 512 u] t.heap ∧ va_K (dC, dI) vwCl [(c_words, .int)] t ∧ va_D A [ob_Program h_this h_datum h_words i_size h_constants i_lastConstant, ar_ h_words c_words 512 u]) A) ([.ref h_this, .int x1, .int x2, .int x3] : List Value).toArray s 0 0 A := ⟨_, rfl⟩
  rw [← hQ]
  unfold wp_Program_addAddresses at hw
  refine lv_iload_n hx hb d_Program_addAddresses_0 rfl (lv_at hl 1 rfl) ?_
  refine lv_aload_n hx hb d_Program_addAddresses_1 rfl (lv_at hl 0 rfl) ?_
  refine va_get (D := (dC, dI)) (ci := 2) (v := .int i_size) (C := R_Program) (T := T_Program) (N := 5) hx hb hts in_Program hown hK hP 0 rfl rfl 2 (by decide) (hts _ kt_73) (fun _ h9 => h9) rfl d_Program_addAddresses_2 ?_
  refine lv_icmp_ge (tgt := 27) hx hb d_Program_addAddresses_5 (by decide) (fun c_1 => ?_) (fun c_1 => ?_)
  · have hw := hw.1 c_1
    have hP9 : va_P (dC, dI) vwCl [ob_Program h_this h_datum h_words i_size h_constants i_lastConstant, ar_ h_words c_words 512 f_words] _ := hP
    have hD9 : va_D A [ob_Program h_this h_datum h_words i_size h_constants i_lastConstant, ar_ h_words c_words 512 f_words] := hD
    rw [hQ]
    exact W.vret hx hb hr (fun t ht hW => ⟨⟨(f_words), rfl, hw, by rw [ht]; exact hP9, va_K.moved hW.alike hK, hD9⟩, hS.F ht⟩) hS.2.2 d_Program_addAddresses_27
  · have hw := hw.2 c_1
    refine lv_aload_n hx hb d_Program_addAddresses_8 rfl (lv_at hl 0 rfl) ?_
    refine va_get (D := (dC, dI)) (ci := 2) (v := .ref h_words) (C := R_Program) (T := T_Program) (N := 5) hx hb hts in_Program hown hK hP 0 rfl rfl 1 (by decide) (hts _ kt_72) (fun _ h9 => h9) rfl d_Program_addAddresses_9 ?_
    refine lv_iload_n hx hb d_Program_addAddresses_12 rfl (lv_at hl 1 rfl) ?_
    refine lv_dup2_11 hx hb d_Program_addAddresses_13 rfl rfl ?_
    obtain ⟨h_2, hw⟩ := hw
    refine va_iald hx hb hK hP 1 0 rfl rfl h_2 d_Program_addAddresses_14 ?_
    refine lv_bipush (v := 32) hx hb d_Program_addAddresses_15 (by decide) ?_
    refine lv_iload_n hx hb d_Program_addAddresses_17 rfl (lv_at hl 2 rfl) ?_
    refine lv_imul hx hb d_Program_addAddresses_18 ?_
    refine lv_sipush (v := 16384) hx hb d_Program_addAddresses_19 (by decide) ?_
    refine lv_iload_n hx hb d_Program_addAddresses_22 rfl (lv_at hl 3 rfl) ?_
    refine lv_imul hx hb d_Program_addAddresses_23 ?_
    refine lv_iadd hx hb d_Program_addAddresses_24 ?_
    refine lv_iadd hx hb d_Program_addAddresses_25 ?_
    obtain ⟨h_3, hw⟩ := hw
    refine va_iast hx hb hK hP hD hS 1 0 rfl rfl h_3 d_Program_addAddresses_26 (fun H locs hP hD hS => ?_)
    have hP : va_P (dC, dI) vwCl [ob_Program h_this h_datum h_words i_size h_constants i_lastConstant, ar_ h_words c_words 512 (upd f_words x1.toNatClampNeg ((f_words x1.toNatClampNeg) + (((32 : Int32) * x2) + ((16384 : Int32) * x3))))] H := hP
    have hD : va_D A [ob_Program h_this h_datum h_words i_size h_constants i_lastConstant, ar_ h_words c_words 512 (upd f_words x1.toNatClampNeg ((f_words x1.toNatClampNeg) + (((32 : Int32) * x2) + ((16384 : Int32) * x3))))] := hD
    have hP9 : va_P (dC, dI) vwCl [ob_Program h_this h_datum h_words i_size h_constants i_lastConstant, ar_ h_words c_words 512 (upd f_words x1.toNatClampNeg ((f_words x1.toNatClampNeg) + (((32 : Int32) * x2) + ((16384 : Int32) * x3))))] _ := hP
    have hD9 : va_D A [ob_Program h_this h_datum h_words i_size h_constants i_lastConstant, ar_ h_words c_words 512 (upd f_words x1.toNatClampNeg ((f_words x1.toNatClampNeg) + (((32 : Int32) * x2) + ((16384 : Int32) * x3))))] := hD
    rw [hQ]
    exact W.vret hx hb hr (fun t ht hW => ⟨⟨(upd f_words x1.toNatClampNeg ((f_words x1.toNatClampNeg) + (((32 : Int32) * x2) + ((16384 : Int32) * x3)))), rfl, hw, by rw [ht]; exact hP9, va_K.moved hW.alike hK, hD9⟩, hS.F ht⟩) hS.2.2 d_Program_addAddresses_27

set_option maxHeartbeats 4000000 in
set_option maxRecDepth 100000 in
theorem c_Program_addConstant (l : Launch) (dC : Nat → ClassId) (dI : Nat → Nat → Nat) (h_this : Nat) (h_constants : Nat) (h_datum : Nat) (h_words : Nat) (c_constants : ClassId) (sz : Nat)  (i_size : Int32) (i_lastConstant : Int32) (f_constants : Nat → Int32) (x1 : Int32) (post : Int32 → Int32 → (Nat → Int32) → Prop) (hw : wp_Program_addConstant i_lastConstant f_constants x1 post) : Met l y_Program_addConstant (ws_ y_Program_addConstant b_Program_addConstant 2 (some .int)) { frames := 0, cells := 0, slots := 0, locals := 0 } (va_Pc [.ref h_this, .int x1] (PRE (dC, dI) vwCl [(c_constants, .int)] [ob_Program h_this h_datum h_words i_size h_constants i_lastConstant, ar_ h_constants c_constants 201 f_constants] sz (va_A [ob_Program h_this h_datum h_words i_size h_constants i_lastConstant, ar_ h_constants c_constants 201 f_constants] sz))) (va_Qi (fun (r : Int32) (u : Int32 × (Nat → Int32)) => post r u.1 u.2) (fun (u : Int32 × (Nat → Int32)) (t : State) => va_P (dC, dI) vwCl [ob_Program h_this h_datum h_words i_size h_constants u.1, ar_ h_constants c_constants 201 u.2] t.heap ∧ va_K (dC, dI) vwCl [(c_constants, .int)] t ∧ va_D (va_A [ob_Program h_this h_datum h_words i_size h_constants i_lastConstant, ar_ h_constants c_constants 201 f_constants] sz) [ob_Program h_this h_datum h_words i_size h_constants u.1, ar_ h_constants c_constants 201 u.2]) (va_A [ob_Program h_this h_datum h_words i_size h_constants i_lastConstant, ar_ h_constants c_constants 201 f_constants] sz)) 0 0 (va_A [ob_Program h_this h_datum h_words i_size h_constants i_lastConstant, ar_ h_constants c_constants 201 f_constants] sz) := by
  refine Met.ofW (cc := b_Program_addConstant) (maxL := 2) (ret := (some .int)) (by decide) rfl ?_
  intro p e s m args below meth c s₁ B hml hv
  obtain ⟨rfl, hsz, hP, hK, hD0, hG⟩ := hv
  have hx := B.exec
  have hb := B.bytes
  have hr := B.returns
  have hts : ∀ w ∈ tb, w.before _ s = true := fun w h => atoms_spec (ws := ws_ _ _ _ _) B.pre w (List.mem_cons_of_mem _ h)
  have hown : s.vm.findClass R_Program = some m.cls := findClass_of_methodNamed B.named
  have hlocks := B.notSynchronized
  subst hsz
  have hD := hD0.self (sz := s.heap.size)
  generalize hAe : va_A [ob_Program h_this h_datum h_words i_size h_constants i_lastConstant, ar_ h_constants c_constants 201 f_constants] s.heap.size = A at hD hG ⊢
  have hA : ∀ q : Nat, s.heap.size ≤ q → A q := fun q h => by rw [← hAe]; exact Or.inr h
  have hS : va_S A s.heap s.heap [] := va_S.rf
  have hP : va_P (dC, dI) vwCl [ob_Program h_this h_datum h_words i_size h_constants i_lastConstant, ar_ h_constants c_constants 201 f_constants] s.heap := hP
  have hl := lv_entry [.ref h_this, .int x1] (n := 2) (Nat.le_of_ble_eq_true rfl)
  rw [lg_entry_eq]
  generalize (lg_sl [.ref h_this, .int x1] ++ List.replicate (2 - (lg_sl [.ref h_this, .int x1]).length) Slot.unset).toArray = ls at hl ⊢
  have hl : lv_has ls 2 [(0, .ref h_this), (1, .int x1)] := hl
  obtain ⟨Q, hQ⟩ : ∃ Q : State → Prop, Q = MQ below (va_Qi (fun (r : Int32) (u : Int32 × (Nat → Int32)) => post r u.1 u.2) (fun (u : Int32 × (Nat → Int32)) (t : State) => va_P (dC, dI) vwCl [ob_Program h_this h_datum h_words i_size h_constants u.1, ar_ h_constants c_constants 201 u.2] t.heap ∧ va_K (dC, dI) vwCl [(c_constants, .int)] t ∧ va_D A [ob_Program h_this h_datum h_words i_size h_constants u.1, ar_ h_constants c_constants 201 u.2]) A) ([.ref h_this, .int x1] : List Value).toArray s 0 0 A := ⟨_, rfl⟩
  rw [← hQ]
  unfold wp_Program_addConstant at hw
  refine lv_aload_n hx hb d_Program_addConstant_0 rfl (lv_at hl 0 rfl) ?_
  refine va_get (D := (dC, dI)) (ci := 2) (v := .int i_lastConstant) (C := R_Program) (T := T_Program) (N := 5) hx hb hts in_Program hown hK hP 0 rfl rfl 4 (by decide) (hts _ kt_77) (fun _ h9 => h9) rfl d_Program_addConstant_1 ?_
  refine lv_sipush (v := 200) hx hb d_Program_addConstant_4 (by decide) ?_
  refine lv_icmp_ge (tgt := 30) hx hb d_Program_addConstant_7 (by decide) (fun c_1 => ?_) (fun c_1 => ?_)
  · have hw := hw.1 c_1
    refine lv_aload_n hx hb d_Program_addConstant_30 rfl (lv_at hl 0 rfl) ?_
    refine va_get (D := (dC, dI)) (ci := 2) (v := .int i_lastConstant) (C := R_Program) (T := T_Program) (N := 5) hx hb hts in_Program hown hK hP 0 rfl rfl 4 (by decide) (hts _ kt_77) (fun _ h9 => h9) rfl d_Program_addConstant_31 ?_
    have hP9 : va_P (dC, dI) vwCl [ob_Program h_this h_datum h_words i_size h_constants i_lastConstant, ar_ h_constants c_constants 201 f_constants] _ := hP
    have hD9 : va_D A [ob_Program h_this h_datum h_words i_size h_constants i_lastConstant, ar_ h_constants c_constants 201 f_constants] := hD
    rw [hQ]
    exact W.iret (v := i_lastConstant) hx hb hr (fun t ht hW => ⟨⟨i_lastConstant, (i_lastConstant, f_constants), rfl, hw, by rw [ht]; exact hP9, va_K.moved hW.alike hK, hD9⟩, hS.F ht⟩) hS.2.2 d_Program_addConstant_34
  · have hw := hw.2 c_1
    refine lv_aload_n hx hb d_Program_addConstant_10 rfl (lv_at hl 0 rfl) ?_
    refine lv_dup hx hb d_Program_addConstant_11 rfl ?_
    refine va_get (D := (dC, dI)) (ci := 2) (v := .int i_lastConstant) (C := R_Program) (T := T_Program) (N := 5) hx hb hts in_Program hown hK hP 0 rfl rfl 4 (by decide) (hts _ kt_77) (fun _ h9 => h9) rfl d_Program_addConstant_12 ?_
    refine lv_iconst (v := 1) hx hb d_Program_addConstant_15 (by decide) ?_
    refine lv_iadd hx hb d_Program_addConstant_16 ?_
    refine va_put (D := (dC, dI)) (ci := 2) (v := .int (i_lastConstant + (1 : Int32))) (ty := .int) (C := R_Program) (T := T_Program) (N := 5) hx hb hts in_Program t_Program t_Program_ok nm_Program hown hK hP hD hS 0 rfl rfl 4 (by decide) (hts _ kt_77) (fun _ h9 => h9) rfl (by decide +kernel) rfl rfl (Nat.le_of_ble_eq_true rfl) d_Program_addConstant_17 (fun H locs hP hD hS => ?_)
    have hP : va_P (dC, dI) vwCl [ob_Program h_this h_datum h_words i_size h_constants (i_lastConstant + (1 : Int32)), ar_ h_constants c_constants 201 f_constants] H := hP
    have hD : va_D A [ob_Program h_this h_datum h_words i_size h_constants (i_lastConstant + (1 : Int32)), ar_ h_constants c_constants 201 f_constants] := hD
    refine lv_aload_n hx hb d_Program_addConstant_20 rfl (lv_at hl 0 rfl) ?_
    refine va_get (D := (dC, dI)) (ci := 2) (v := .ref h_constants) (C := R_Program) (T := T_Program) (N := 5) hx hb hts in_Program hown hK hP 0 rfl rfl 3 (by decide) (hts _ kt_76) (fun _ h9 => h9) rfl d_Program_addConstant_21 ?_
    refine lv_aload_n hx hb d_Program_addConstant_24 rfl (lv_at hl 0 rfl) ?_
    refine va_get (D := (dC, dI)) (ci := 2) (v := .int (i_lastConstant + (1 : Int32))) (C := R_Program) (T := T_Program) (N := 5) hx hb hts in_Program hown hK hP 0 rfl rfl 4 (by decide) (hts _ kt_77) (fun _ h9 => h9) rfl d_Program_addConstant_25 ?_
    refine lv_iload_n hx hb d_Program_addConstant_28 rfl (lv_at hl 1 rfl) ?_
    obtain ⟨h_2, hw⟩ := hw
    refine va_iast hx hb hK hP hD hS 1 0 rfl rfl h_2 d_Program_addConstant_29 (fun H locs hP hD hS => ?_)
    have hP : va_P (dC, dI) vwCl [ob_Program h_this h_datum h_words i_size h_constants (i_lastConstant + (1 : Int32)), ar_ h_constants c_constants 201 (upd f_constants (i_lastConstant + (1 : Int32)).toNatClampNeg x1)] H := hP
    have hD : va_D A [ob_Program h_this h_datum h_words i_size h_constants (i_lastConstant + (1 : Int32)), ar_ h_constants c_constants 201 (upd f_constants (i_lastConstant + (1 : Int32)).toNatClampNeg x1)] := hD
    refine lv_aload_n hx hb d_Program_addConstant_30 rfl (lv_at hl 0 rfl) ?_
    refine va_get (D := (dC, dI)) (ci := 2) (v := .int (i_lastConstant + (1 : Int32))) (C := R_Program) (T := T_Program) (N := 5) hx hb hts in_Program hown hK hP 0 rfl rfl 4 (by decide) (hts _ kt_77) (fun _ h9 => h9) rfl d_Program_addConstant_31 ?_
    have hP9 : va_P (dC, dI) vwCl [ob_Program h_this h_datum h_words i_size h_constants (i_lastConstant + (1 : Int32)), ar_ h_constants c_constants 201 (upd f_constants (i_lastConstant + (1 : Int32)).toNatClampNeg x1)] _ := hP
    have hD9 : va_D A [ob_Program h_this h_datum h_words i_size h_constants (i_lastConstant + (1 : Int32)), ar_ h_constants c_constants 201 (upd f_constants (i_lastConstant + (1 : Int32)).toNatClampNeg x1)] := hD
    rw [hQ]
    exact W.iret (v := i_lastConstant + (1 : Int32)) hx hb hr (fun t ht hW => ⟨⟨i_lastConstant + (1 : Int32), (i_lastConstant + (1 : Int32), upd f_constants (i_lastConstant + (1 : Int32)).toNatClampNeg x1), rfl, hw, by rw [ht]; exact hP9, va_K.moved hW.alike hK, hD9⟩, hS.F ht⟩) hS.2.2 d_Program_addConstant_34

set_option maxHeartbeats 4000000 in
set_option maxRecDepth 100000 in
theorem c_Program_copyFrom (l : Launch) (dC : Nat → ClassId) (dI : Nat → Nat → Nat) (h_this : Nat) (h_constants : Nat) (h_datum : Nat) (h_datum_followers : Nat) (h_datum_kinds : Nat) (h_datum_values : Nat) (h_words : Nat) (h_p1 : Nat) (h_p1_constants : Nat) (h_p1_datum : Nat) (h_p1_datum_followers : Nat) (h_p1_datum_kinds : Nat) (h_p1_datum_values : Nat) (h_p1_words : Nat) (h_datum_openLists : Nat) (h_datum_lastParts : Nat) (h_p1_datum_openLists : Nat) (h_p1_datum_lastParts : Nat) (c_constants : ClassId) (c_datum_followers : ClassId) (c_datum_kinds : ClassId) (c_datum_values : ClassId) (c_words : ClassId) (c_p1_constants : ClassId) (c_p1_datum_followers : ClassId) (c_p1_datum_kinds : ClassId) (c_p1_datum_values : ClassId) (c_p1_words : ClassId) (sz : Nat)  (i_size : Int32) (i_lastConstant : Int32) (f_constants : Nat → Int32) (i_datum_count : Int32) (i_datum_openCount : Int32) (f_datum_followers : Nat → Int32) (f_datum_kinds : Nat → Int32) (f_datum_values : Nat → Int32) (f_words : Nat → Int32) (i_p1_size : Int32) (i_p1_lastConstant : Int32) (f_p1_constants : Nat → Int32) (i_p1_datum_count : Int32) (i_p1_datum_openCount : Int32) (f_p1_datum_followers : Nat → Int32) (f_p1_datum_kinds : Nat → Int32) (f_p1_datum_values : Nat → Int32) (f_p1_words : Nat → Int32)  (post : Int32 → Int32 → (Nat → Int32) → Int32 → (Nat → Int32) → (Nat → Int32) → (Nat → Int32) → (Nat → Int32) → Prop) (hw : wp_Program_copyFrom i_size i_lastConstant f_constants i_datum_count f_datum_followers f_datum_kinds f_datum_values f_words i_p1_size i_p1_lastConstant f_p1_constants i_p1_datum_count f_p1_datum_followers f_p1_datum_kinds f_p1_datum_values f_p1_words  post) : Met l y_Program_copyFrom (ws_ y_Program_copyFrom b_Program_copyFrom 2 none) { frames := 2, cells := 0, slots := 0, locals := 81 } (va_Pc [.ref h_this, .ref h_p1] (PRE (dC, dI) vwCl [(c_constants, .int), (c_datum_followers, .int), (c_datum_kinds, .int), (c_datum_values, .int), (c_words, .int), (c_p1_constants, .int), (c_p1_datum_followers, .int), (c_p1_datum_kinds, .int), (c_p1_datum_values, .int), (c_p1_words, .int)] [ob_Program h_this h_datum h_words i_size h_constants i_lastConstant, ar_ h_constants c_constants 201 f_constants, ob_Datum h_datum h_datum_kinds h_datum_values h_datum_followers i_datum_count h_datum_openLists h_datum_lastParts i_datum_openCount, ar_ h_datum_followers c_datum_followers 200 f_datum_followers, ar_ h_datum_kinds c_datum_kinds 200 f_datum_kinds, ar_ h_datum_values c_datum_values 200 f_datum_values, ar_ h_words c_words 512 f_words, ob_Program h_p1 h_p1_datum h_p1_words i_p1_size h_p1_constants i_p1_lastConstant, ar_ h_p1_constants c_p1_constants 201 f_p1_constants, ob_Datum h_p1_datum h_p1_datum_kinds h_p1_datum_values h_p1_datum_followers i_p1_datum_count h_p1_datum_openLists h_p1_datum_lastParts i_p1_datum_openCount, ar_ h_p1_datum_followers c_p1_datum_followers 200 f_p1_datum_followers, ar_ h_p1_datum_kinds c_p1_datum_kinds 200 f_p1_datum_kinds, ar_ h_p1_datum_values c_p1_datum_values 200 f_p1_datum_values, ar_ h_p1_words c_p1_words 512 f_p1_words] sz (va_A [ob_Program h_this h_datum h_words i_size h_constants i_lastConstant, ar_ h_constants c_constants 201 f_constants, ob_Datum h_datum h_datum_kinds h_datum_values h_datum_followers i_datum_count h_datum_openLists h_datum_lastParts i_datum_openCount, ar_ h_datum_followers c_datum_followers 200 f_datum_followers, ar_ h_datum_kinds c_datum_kinds 200 f_datum_kinds, ar_ h_datum_values c_datum_values 200 f_datum_values, ar_ h_words c_words 512 f_words, ob_Program h_p1 h_p1_datum h_p1_words i_p1_size h_p1_constants i_p1_lastConstant, ar_ h_p1_constants c_p1_constants 201 f_p1_constants, ob_Datum h_p1_datum h_p1_datum_kinds h_p1_datum_values h_p1_datum_followers i_p1_datum_count h_p1_datum_openLists h_p1_datum_lastParts i_p1_datum_openCount, ar_ h_p1_datum_followers c_p1_datum_followers 200 f_p1_datum_followers, ar_ h_p1_datum_kinds c_p1_datum_kinds 200 f_p1_datum_kinds, ar_ h_p1_datum_values c_p1_datum_values 200 f_p1_datum_values, ar_ h_p1_words c_p1_words 512 f_p1_words] sz))) (va_Qv (fun (u : Int32 × Int32 × (Nat → Int32) × Int32 × (Nat → Int32) × (Nat → Int32) × (Nat → Int32) × (Nat → Int32)) => post u.1 u.2.1 u.2.2.1 u.2.2.2.1 u.2.2.2.2.1 u.2.2.2.2.2.1 u.2.2.2.2.2.2.1 u.2.2.2.2.2.2.2) (fun (u : Int32 × Int32 × (Nat → Int32) × Int32 × (Nat → Int32) × (Nat → Int32) × (Nat → Int32) × (Nat → Int32)) (t : State) => va_P (dC, dI) vwCl [ob_Program h_this h_datum h_words u.1 h_constants u.2.1, ar_ h_constants c_constants 201 u.2.2.1, ob_Datum h_datum h_datum_kinds h_datum_values h_datum_followers u.2.2.2.1 h_datum_openLists h_datum_lastParts i_datum_openCount, ar_ h_datum_followers c_datum_followers 200 u.2.2.2.2.1, ar_ h_datum_kinds c_datum_kinds 200 u.2.2.2.2.2.1, ar_ h_datum_values c_datum_values 200 u.2.2.2.2.2.2.1, ar_ h_words c_words 512 u.2.2.2.2.2.2.2, ob_Program h_p1 h_p1_datum h_p1_words i_p1_size h_p1_constants i_p1_lastConstant, ar_ h_p1_constants c_p1_constants 201 f_p1_constants, ob_Datum h_p1_datum h_p1_datum_kinds h_p1_datum_values h_p1_datum_followers i_p1_datum_count h_p1_datum_openLists h_p1_datum_lastParts i_p1_datum_openCount, ar_ h_p1_datum_followers c_p1_datum_followers 200 f_p1_datum_followers, ar_ h_p1_datum_kinds c_p1_datum_kinds 200 f_p1_datum_kinds, ar_ h_p1_datum_values c_p1_datum_values 200 f_p1_datum_values, ar_ h_p1_words c_p1_words 512 f_p1_words] t.heap ∧ va_K (dC, dI) vwCl [(c_constants, .int), (c_datum_followers, .int), (c_datum_kinds, .int), (c_datum_values, .int), (c_words, .int), (c_p1_constants, .int), (c_p1_datum_followers, .int), (c_p1_datum_kinds, .int), (c_p1_datum_values, .int), (c_p1_words, .int)] t ∧ va_D (va_A [ob_Program h_this h_datum h_words i_size h_constants i_lastConstant, ar_ h_constants c_constants 201 f_constants, ob_Datum h_datum h_datum_kinds h_datum_values h_datum_followers i_datum_count h_datum_openLists h_datum_lastParts i_datum_openCount, ar_ h_datum_followers c_datum_followers 200 f_datum_followers, ar_ h_datum_kinds c_datum_kinds 200 f_datum_kinds, ar_ h_datum_values c_datum_values 200 f_datum_values, ar_ h_words c_words 512 f_words, ob_Program h_p1 h_p1_datum h_p1_words i_p1_size h_p1_constants i_p1_lastConstant, ar_ h_p1_constants c_p1_constants 201 f_p1_constants, ob_Datum h_p1_datum h_p1_datum_kinds h_p1_datum_values h_p1_datum_followers i_p1_datum_count h_p1_datum_openLists h_p1_datum_lastParts i_p1_datum_openCount, ar_ h_p1_datum_followers c_p1_datum_followers 200 f_p1_datum_followers, ar_ h_p1_datum_kinds c_p1_datum_kinds 200 f_p1_datum_kinds, ar_ h_p1_datum_values c_p1_datum_values 200 f_p1_datum_values, ar_ h_p1_words c_p1_words 512 f_p1_words] sz) [ob_Program h_this h_datum h_words u.1 h_constants u.2.1, ar_ h_constants c_constants 201 u.2.2.1, ob_Datum h_datum h_datum_kinds h_datum_values h_datum_followers u.2.2.2.1 h_datum_openLists h_datum_lastParts i_datum_openCount, ar_ h_datum_followers c_datum_followers 200 u.2.2.2.2.1, ar_ h_datum_kinds c_datum_kinds 200 u.2.2.2.2.2.1, ar_ h_datum_values c_datum_values 200 u.2.2.2.2.2.2.1, ar_ h_words c_words 512 u.2.2.2.2.2.2.2, ob_Program h_p1 h_p1_datum h_p1_words i_p1_size h_p1_constants i_p1_lastConstant, ar_ h_p1_constants c_p1_constants 201 f_p1_constants, ob_Datum h_p1_datum h_p1_datum_kinds h_p1_datum_values h_p1_datum_followers i_p1_datum_count h_p1_datum_openLists h_p1_datum_lastParts i_p1_datum_openCount, ar_ h_p1_datum_followers c_p1_datum_followers 200 f_p1_datum_followers, ar_ h_p1_datum_kinds c_p1_datum_kinds 200 f_p1_datum_kinds, ar_ h_p1_datum_values c_p1_datum_values 200 f_p1_datum_values, ar_ h_p1_words c_p1_words 512 f_p1_words]) (va_A [ob_Program h_this h_datum h_words i_size h_constants i_lastConstant, ar_ h_constants c_constants 201 f_constants, ob_Datum h_datum h_datum_kinds h_datum_values h_datum_followers i_datum_count h_datum_openLists h_datum_lastParts i_datum_openCount, ar_ h_datum_followers c_datum_followers 200 f_datum_followers, ar_ h_datum_kinds c_datum_kinds 200 f_datum_kinds, ar_ h_datum_values c_datum_values 200 f_datum_values, ar_ h_words c_words 512 f_words, ob_Program h_p1 h_p1_datum h_p1_words i_p1_size h_p1_constants i_p1_lastConstant, ar_ h_p1_constants c_p1_constants 201 f_p1_constants, ob_Datum h_p1_datum h_p1_datum_kinds h_p1_datum_values h_p1_datum_followers i_p1_datum_count h_p1_datum_openLists h_p1_datum_lastParts i_p1_datum_openCount, ar_ h_p1_datum_followers c_p1_datum_followers 200 f_p1_datum_followers, ar_ h_p1_datum_kinds c_p1_datum_kinds 200 f_p1_datum_kinds, ar_ h_p1_datum_values c_p1_datum_values 200 f_p1_datum_values, ar_ h_p1_words c_p1_words 512 f_p1_words] sz)) 0 0 (va_A [ob_Program h_this h_datum h_words i_size h_constants i_lastConstant, ar_ h_constants c_constants 201 f_constants, ob_Datum h_datum h_datum_kinds h_datum_values h_datum_followers i_datum_count h_datum_openLists h_datum_lastParts i_datum_openCount, ar_ h_datum_followers c_datum_followers 200 f_datum_followers, ar_ h_datum_kinds c_datum_kinds 200 f_datum_kinds, ar_ h_datum_values c_datum_values 200 f_datum_values, ar_ h_words c_words 512 f_words, ob_Program h_p1 h_p1_datum h_p1_words i_p1_size h_p1_constants i_p1_lastConstant, ar_ h_p1_constants c_p1_constants 201 f_p1_constants, ob_Datum h_p1_datum h_p1_datum_kinds h_p1_datum_values h_p1_datum_followers i_p1_datum_count h_p1_datum_openLists h_p1_datum_lastParts i_p1_datum_openCount, ar_ h_p1_datum_followers c_p1_datum_followers 200 f_p1_datum_followers, ar_ h_p1_datum_kinds c_p1_datum_kinds 200 f_p1_datum_kinds, ar_ h_p1_datum_values c_p1_datum_values 200 f_p1_datum_values, ar_ h_p1_words c_p1_words 512 f_p1_words] sz) := by
  refine Met.ofW (cc := b_Program_copyFrom) (maxL := 2) (ret := none) (by decide) rfl ?_
  intro p e s m args below meth c s₁ B hml hv
  obtain ⟨rfl, hsz, hP, hK, hD0, hG⟩ := hv
  have hx := B.exec
  have hb := B.bytes
  have hr := B.returns
  have hts : ∀ w ∈ tb, w.before _ s = true := fun w h => atoms_spec (ws := ws_ _ _ _ _) B.pre w (List.mem_cons_of_mem _ h)
  have hown : s.vm.findClass R_Program = some m.cls := findClass_of_methodNamed B.named
  have hlocks := B.notSynchronized
  subst hsz
  have hD := hD0.self (sz := s.heap.size)
  generalize hAe : va_A [ob_Program h_this h_datum h_words i_size h_constants i_lastConstant, ar_ h_constants c_constants 201 f_constants, ob_Datum h_datum h_datum_kinds h_datum_values h_datum_followers i_datum_count h_datum_openLists h_datum_lastParts i_datum_openCount, ar_ h_datum_followers c_datum_followers 200 f_datum_followers, ar_ h_datum_kinds c_datum_kinds 200 f_datum_kinds, ar_ h_datum_values c_datum_values 200 f_datum_values, ar_ h_words c_words 512 f_words, ob_Program h_p1 h_p1_datum h_p1_words i_p1_size h_p1_constants i_p1_lastConstant, ar_ h_p1_constants c_p1_constants 201 f_p1_constants, ob_Datum h_p1_datum h_p1_datum_kinds h_p1_datum_values h_p1_datum_followers i_p1_datum_count h_p1_datum_openLists h_p1_datum_lastParts i_p1_datum_openCount, ar_ h_p1_datum_followers c_p1_datum_followers 200 f_p1_datum_followers, ar_ h_p1_datum_kinds c_p1_datum_kinds 200 f_p1_datum_kinds, ar_ h_p1_datum_values c_p1_datum_values 200 f_p1_datum_values, ar_ h_p1_words c_p1_words 512 f_p1_words] s.heap.size = A at hD hG ⊢
  have hA : ∀ q : Nat, s.heap.size ≤ q → A q := fun q h => by rw [← hAe]; exact Or.inr h
  have hS : va_S A s.heap s.heap [] := va_S.rf
  have hP : va_P (dC, dI) vwCl [ob_Program h_this h_datum h_words i_size h_constants i_lastConstant, ar_ h_constants c_constants 201 f_constants, ob_Datum h_datum h_datum_kinds h_datum_values h_datum_followers i_datum_count h_datum_openLists h_datum_lastParts i_datum_openCount, ar_ h_datum_followers c_datum_followers 200 f_datum_followers, ar_ h_datum_kinds c_datum_kinds 200 f_datum_kinds, ar_ h_datum_values c_datum_values 200 f_datum_values, ar_ h_words c_words 512 f_words, ob_Program h_p1 h_p1_datum h_p1_words i_p1_size h_p1_constants i_p1_lastConstant, ar_ h_p1_constants c_p1_constants 201 f_p1_constants, ob_Datum h_p1_datum h_p1_datum_kinds h_p1_datum_values h_p1_datum_followers i_p1_datum_count h_p1_datum_openLists h_p1_datum_lastParts i_p1_datum_openCount, ar_ h_p1_datum_followers c_p1_datum_followers 200 f_p1_datum_followers, ar_ h_p1_datum_kinds c_p1_datum_kinds 200 f_p1_datum_kinds, ar_ h_p1_datum_values c_p1_datum_values 200 f_p1_datum_values, ar_ h_p1_words c_p1_words 512 f_p1_words] s.heap := hP
  have hl := lv_entry [.ref h_this, .ref h_p1] (n := 2) (Nat.le_of_ble_eq_true rfl)
  rw [lg_entry_eq]
  generalize (lg_sl [.ref h_this, .ref h_p1] ++ List.replicate (2 - (lg_sl [.ref h_this, .ref h_p1]).length) Slot.unset).toArray = ls at hl ⊢
  have hl : lv_has ls 2 [(0, .ref h_this), (1, .ref h_p1)] := hl
  obtain ⟨Q, hQ⟩ : ∃ Q : State → Prop, Q = MQ below (va_Qv (fun (u : Int32 × Int32 × (Nat → Int32) × Int32 × (Nat → Int32) × (Nat → Int32) × (Nat → Int32) × (Nat → Int32)) => post u.1 u.2.1 u.2.2.1 u.2.2.2.1 u.2.2.2.2.1 u.2.2.2.2.2.1 u.2.2.2.2.2.2.1 u.2.2.2.2.2.2.2) (fun (u : Int32 × Int32 × (Nat → Int32) × Int32 × (Nat → Int32) × (Nat → Int32) × (Nat → Int32) × (Nat → Int32)) (t : State) => va_P (dC, dI) vwCl [ob_Program h_this h_datum h_words u.1 h_constants u.2.1, ar_ h_constants c_constants 201 u.2.2.1, ob_Datum h_datum h_datum_kinds h_datum_values h_datum_followers u.2.2.2.1 h_datum_openLists h_datum_lastParts i_datum_openCount, ar_ h_datum_followers c_datum_followers 200 u.2.2.2.2.1, ar_ h_datum_kinds c_datum_kinds 200 u.2.2.2.2.2.1, ar_ h_datum_values c_datum_values 200 u.2.2.2.2.2.2.1, ar_ h_words c_words 512 u.2.2.2.2.2.2.2, ob_Program h_p1 h_p1_datum h_p1_words i_p1_size h_p1_constants i_p1_lastConstant, ar_ h_p1_constants c_p1_constants 201 f_p1_constants, ob_Datum h_p1_datum h_p1_datum_kinds h_p1_datum_values h_p1_datum_followers i_p1_datum_count h_p1_datum_openLists h_p1_datum_lastParts i_p1_datum_openCount, ar_ h_p1_datum_followers c_p1_datum_followers 200 f_p1_datum_followers, ar_ h_p1_datum_kinds c_p1_datum_kinds 200 f_p1_datum_kinds, ar_ h_p1_datum_values c_p1_datum_values 200 f_p1_datum_values, ar_ h_p1_words c_p1_words 512 f_p1_words] t.heap ∧ va_K (dC, dI) vwCl [(c_constants, .int), (c_datum_followers, .int), (c_datum_kinds, .int), (c_datum_values, .int), (c_words, .int), (c_p1_constants, .int), (c_p1_datum_followers, .int), (c_p1_datum_kinds, .int), (c_p1_datum_values, .int), (c_p1_words, .int)] t ∧ va_D A [ob_Program h_this h_datum h_words u.1 h_constants u.2.1, ar_ h_constants c_constants 201 u.2.2.1, ob_Datum h_datum h_datum_kinds h_datum_values h_datum_followers u.2.2.2.1 h_datum_openLists h_datum_lastParts i_datum_openCount, ar_ h_datum_followers c_datum_followers 200 u.2.2.2.2.1, ar_ h_datum_kinds c_datum_kinds 200 u.2.2.2.2.2.1, ar_ h_datum_values c_datum_values 200 u.2.2.2.2.2.2.1, ar_ h_words c_words 512 u.2.2.2.2.2.2.2, ob_Program h_p1 h_p1_datum h_p1_words i_p1_size h_p1_constants i_p1_lastConstant, ar_ h_p1_constants c_p1_constants 201 f_p1_constants, ob_Datum h_p1_datum h_p1_datum_kinds h_p1_datum_values h_p1_datum_followers i_p1_datum_count h_p1_datum_openLists h_p1_datum_lastParts i_p1_datum_openCount, ar_ h_p1_datum_followers c_p1_datum_followers 200 f_p1_datum_followers, ar_ h_p1_datum_kinds c_p1_datum_kinds 200 f_p1_datum_kinds, ar_ h_p1_datum_values c_p1_datum_values 200 f_p1_datum_values, ar_ h_p1_words c_p1_words 512 f_p1_words]) A) ([.ref h_this, .ref h_p1] : List Value).toArray s 0 0 A := ⟨_, rfl⟩
  rw [← hQ]
  unfold wp_Program_copyFrom at hw
  refine lv_aload_n hx hb d_Program_copyFrom_0 rfl (lv_at hl 0 rfl) ?_
  refine va_get (D := (dC, dI)) (ci := 2) (v := .ref h_datum) (C := R_Program) (T := T_Program) (N := 5) hx hb hts in_Program hown hK hP 0 rfl rfl 0 (by decide) (hts _ kt_68) (fun _ h9 => h9) rfl d_Program_copyFrom_1 ?_
  refine lv_aload_n hx hb d_Program_copyFrom_4 rfl (lv_at hl 1 rfl) ?_
  refine va_get (D := (dC, dI)) (ci := 2) (v := .ref h_p1_datum) (C := R_Program) (T := T_Program) (N := 5) hx hb hts in_Program hown hK hP 7 rfl rfl 0 (by decide) (hts _ kt_68) (fun _ h9 => h9) rfl d_Program_copyFrom_5 ?_
  have hPc := hP.sub (ws' := [ob_Datum h_datum h_datum_kinds h_datum_values h_datum_followers i_datum_count h_datum_openLists h_datum_lastParts i_datum_openCount, ar_ h_datum_followers c_datum_followers 200 f_datum_followers, ar_ h_datum_kinds c_datum_kinds 200 f_datum_kinds, ar_ h_datum_values c_datum_values 200 f_datum_values, ob_Datum h_p1_datum h_p1_datum_kinds h_p1_datum_values h_p1_datum_followers i_p1_datum_count h_p1_datum_openLists h_p1_datum_lastParts i_p1_datum_openCount, ar_ h_p1_datum_followers c_p1_datum_followers 200 f_p1_datum_followers, ar_ h_p1_datum_kinds c_p1_datum_kinds 200 f_p1_datum_kinds, ar_ h_p1_datum_values c_p1_datum_values 200 f_p1_datum_values]) [2, 3, 4, 5, 9, 10, 11, 12] rfl
  have hDc := hD.sub (ws' := [ob_Datum h_datum h_datum_kinds h_datum_values h_datum_followers i_datum_count h_datum_openLists h_datum_lastParts i_datum_openCount, ar_ h_datum_followers c_datum_followers 200 f_datum_followers, ar_ h_datum_kinds c_datum_kinds 200 f_datum_kinds, ar_ h_datum_values c_datum_values 200 f_datum_values, ob_Datum h_p1_datum h_p1_datum_kinds h_p1_datum_values h_p1_datum_followers i_p1_datum_count h_p1_datum_openLists h_p1_datum_lastParts i_p1_datum_openCount, ar_ h_p1_datum_followers c_p1_datum_followers 200 f_p1_datum_followers, ar_ h_p1_datum_kinds c_p1_datum_kinds 200 f_p1_datum_kinds, ar_ h_p1_datum_values c_p1_datum_values 200 f_p1_datum_values]) [2, 3, 4, 5, 9, 10, 11, 12] (by decide) rfl
  have hKc := hK.sub (tys' := [(c_datum_followers, .int), (c_datum_kinds, .int), (c_datum_values, .int), (c_p1_datum_followers, .int), (c_p1_datum_kinds, .int), (c_p1_datum_values, .int)]) [1, 2, 3, 6, 7, 8] rfl
  have hFc := va_free (wc := [ob_Datum h_datum h_datum_kinds h_datum_values h_datum_followers i_datum_count h_datum_openLists h_datum_lastParts i_datum_openCount, ar_ h_datum_followers c_datum_followers 200 f_datum_followers, ar_ h_datum_kinds c_datum_kinds 200 f_datum_kinds, ar_ h_datum_values c_datum_values 200 f_datum_values, ob_Datum h_p1_datum h_p1_datum_kinds h_p1_datum_values h_p1_datum_followers i_p1_datum_count h_p1_datum_openLists h_p1_datum_lastParts i_p1_datum_openCount, ar_ h_p1_datum_followers c_p1_datum_followers 200 f_p1_datum_followers, ar_ h_p1_datum_kinds c_p1_datum_kinds 200 f_p1_datum_kinds, ar_ h_p1_datum_values c_p1_datum_values 200 f_p1_datum_values]) hD hS hA [2, 3, 4, 5, 9, 10, 11, 12] rfl
  refine va_callv (va_runV (As := [.ref h_p1_datum]) (rest := []) ⟨hx, hb, hml, hown, hts⟩ (c_Datum_copyFrom l dC dI h_datum h_datum_followers h_datum_kinds h_datum_values h_p1_datum h_p1_datum_followers h_p1_datum_kinds h_p1_datum_values h_datum_openLists h_datum_lastParts h_p1_datum_openLists h_p1_datum_lastParts c_datum_followers c_datum_kinds c_datum_values c_p1_datum_followers c_p1_datum_kinds c_p1_datum_values s.heap.size i_datum_count i_datum_openCount f_datum_followers f_datum_kinds f_datum_values i_p1_datum_count i_p1_datum_openCount f_p1_datum_followers f_p1_datum_kinds f_p1_datum_values _ hw) (cwV 1 hts (gd_V kt_510 kt_511 kt_512 kt_2 kt_513) rfl rfl rfl (by decide +kernel) ⟨Nat.le_of_ble_eq_true rfl, Nat.le_of_ble_eq_true rfl⟩) ⟨pre_blind, va_recv hKc hPc (ci := 1) (q0 := 0) rfl rfl, pre_ok hPc hKc hDc hG hS hFc⟩ rfl rfl hl.1 rfl (lv_room (Nat.le_of_ble_eq_true rfl)) d_Program_copyFrom_8 ⟨Nat.zero_le _, Nat.zero_le _⟩) hS (fun q _ h => hFc q h) hFc (fun u t H1 locs ht hvm hw hB hz1 hk1 hS => ?_)
  obtain ⟨i_datum_count_1, f_datum_followers_2, f_datum_kinds_3, f_datum_values_4⟩ := u
  obtain ⟨hP1, hK1, hD1⟩ := hB
  rw [ht] at hP1
  try dsimp only at hw
  obtain ⟨hP, hD⟩ := va_join (wr := [ob_Program h_this h_datum h_words i_size h_constants i_lastConstant, ar_ h_constants c_constants 201 f_constants, ar_ h_words c_words 512 f_words, ob_Program h_p1 h_p1_datum h_p1_words i_p1_size h_p1_constants i_p1_lastConstant, ar_ h_p1_constants c_p1_constants 201 f_p1_constants, ar_ h_p1_words c_p1_words 512 f_p1_words]) (w1 := [ob_Datum h_datum h_datum_kinds h_datum_values h_datum_followers i_datum_count_1 h_datum_openLists h_datum_lastParts i_datum_openCount, ar_ h_datum_followers c_datum_followers 200 f_datum_followers_2, ar_ h_datum_kinds c_datum_kinds 200 f_datum_kinds_3, ar_ h_datum_values c_datum_values 200 f_datum_values_4, ob_Datum h_p1_datum h_p1_datum_kinds h_p1_datum_values h_p1_datum_followers i_p1_datum_count h_p1_datum_openLists h_p1_datum_lastParts i_p1_datum_openCount, ar_ h_p1_datum_followers c_p1_datum_followers 200 f_p1_datum_followers, ar_ h_p1_datum_kinds c_p1_datum_kinds 200 f_p1_datum_kinds, ar_ h_p1_datum_values c_p1_datum_values 200 f_p1_datum_values]) hP hD [2, 3, 4, 5, 9, 10, 11, 12] [0, 1, 6, 7, 8, 13] rfl rfl (by decide) (by decide) hk1 hFc hP1 hD1
  generalize H1 = H at hP hS ⊢
  have hP : va_P (dC, dI) vwCl [ob_Program h_this h_datum h_words i_size h_constants i_lastConstant, ar_ h_constants c_constants 201 f_constants, ar_ h_words c_words 512 f_words, ob_Program h_p1 h_p1_datum h_p1_words i_p1_size h_p1_constants i_p1_lastConstant, ar_ h_p1_constants c_p1_constants 201 f_p1_constants, ar_ h_p1_words c_p1_words 512 f_p1_words, ob_Datum h_datum h_datum_kinds h_datum_values h_datum_followers i_datum_count_1 h_datum_openLists h_datum_lastParts i_datum_openCount, ar_ h_datum_followers c_datum_followers 200 f_datum_followers_2, ar_ h_datum_kinds c_datum_kinds 200 f_datum_kinds_3, ar_ h_datum_values c_datum_values 200 f_datum_values_4, ob_Datum h_p1_datum h_p1_datum_kinds h_p1_datum_values h_p1_datum_followers i_p1_datum_count h_p1_datum_openLists h_p1_datum_lastParts i_p1_datum_openCount, ar_ h_p1_datum_followers c_p1_datum_followers 200 f_p1_datum_followers, ar_ h_p1_datum_kinds c_p1_datum_kinds 200 f_p1_datum_kinds, ar_ h_p1_datum_values c_p1_datum_values 200 f_p1_datum_values] H := hP
  have hD : va_D A [ob_Program h_this h_datum h_words i_size h_constants i_lastConstant, ar_ h_constants c_constants 201 f_constants, ar_ h_words c_words 512 f_words, ob_Program h_p1 h_p1_datum h_p1_words i_p1_size h_p1_constants i_p1_lastConstant, ar_ h_p1_constants c_p1_constants 201 f_p1_constants, ar_ h_p1_words c_p1_words 512 f_p1_words, ob_Datum h_datum h_datum_kinds h_datum_values h_datum_followers i_datum_count_1 h_datum_openLists h_datum_lastParts i_datum_openCount, ar_ h_datum_followers c_datum_followers 200 f_datum_followers_2, ar_ h_datum_kinds c_datum_kinds 200 f_datum_kinds_3, ar_ h_datum_values c_datum_values 200 f_datum_values_4, ob_Datum h_p1_datum h_p1_datum_kinds h_p1_datum_values h_p1_datum_followers i_p1_datum_count h_p1_datum_openLists h_p1_datum_lastParts i_p1_datum_openCount, ar_ h_p1_datum_followers c_p1_datum_followers 200 f_p1_datum_followers, ar_ h_p1_datum_kinds c_p1_datum_kinds 200 f_p1_datum_kinds, ar_ h_p1_datum_values c_p1_datum_values 200 f_p1_datum_values] := hD
  refine lv_aload_n hx hb d_Program_copyFrom_11 rfl (lv_at hl 1 rfl) ?_
  refine va_get (D := (dC, dI)) (ci := 2) (v := .ref h_p1_words) (C := R_Program) (T := T_Program) (N := 5) hx hb hts in_Program hown hK hP 3 rfl rfl 1 (by decide) (hts _ kt_72) (fun _ h9 => h9) rfl d_Program_copyFrom_12 ?_
  refine lv_iconst (v := 0) hx hb d_Program_copyFrom_15 (by decide) ?_
  refine lv_aload_n hx hb d_Program_copyFrom_16 rfl (lv_at hl 0 rfl) ?_
  refine va_get (D := (dC, dI)) (ci := 2) (v := .ref h_words) (C := R_Program) (T := T_Program) (N := 5) hx hb hts in_Program hown hK hP 0 rfl rfl 1 (by decide) (hts _ kt_72) (fun _ h9 => h9) rfl d_Program_copyFrom_17 ?_
  refine lv_iconst (v := 0) hx hb d_Program_copyFrom_20 (by decide) ?_
  refine lv_aload_n hx hb d_Program_copyFrom_21 rfl (lv_at hl 1 rfl) ?_
  refine va_get (D := (dC, dI)) (ci := 2) (v := .int i_p1_size) (C := R_Program) (T := T_Program) (N := 5) hx hb hts in_Program hown hK hP 3 rfl rfl 2 (by decide) (hts _ kt_73) (fun _ h9 => h9) rfl d_Program_copyFrom_22 ?_
  obtain ⟨h_5, h_6, h_7, h_8, h_9, hw⟩ := hw
  refine va_copyi (ty := .int) (sp := (0 : Int32)) (dp := (0 : Int32)) (n := i_p1_size) (rest := []) hx hb (by rw [hml]; exact hl.1.symm) hown (hts _ kt_517) (hts _ kt_516) (hts _ kt_515) (hts _ kt_17) hK hP hD hS 5 2 9 4 rfl rfl rfl rfl (by decide) h_5 h_6 h_7 h_8 h_9 (fun _ _ => rfl) (Nat.le_of_ble_eq_true rfl) (Nat.le_of_ble_eq_true rfl) d_Program_copyFrom_25 (fun H locs hP hD hS => ?_)
  have hP : va_P (dC, dI) vwCl [ob_Program h_this h_datum h_words i_size h_constants i_lastConstant, ar_ h_constants c_constants 201 f_constants, ar_ h_words c_words 512 (va_cpy f_p1_words f_words (0 : Int32).toNatClampNeg (0 : Int32).toNatClampNeg i_p1_size.toNatClampNeg), ob_Program h_p1 h_p1_datum h_p1_words i_p1_size h_p1_constants i_p1_lastConstant, ar_ h_p1_constants c_p1_constants 201 f_p1_constants, ar_ h_p1_words c_p1_words 512 f_p1_words, ob_Datum h_datum h_datum_kinds h_datum_values h_datum_followers i_datum_count_1 h_datum_openLists h_datum_lastParts i_datum_openCount, ar_ h_datum_followers c_datum_followers 200 f_datum_followers_2, ar_ h_datum_kinds c_datum_kinds 200 f_datum_kinds_3, ar_ h_datum_values c_datum_values 200 f_datum_values_4, ob_Datum h_p1_datum h_p1_datum_kinds h_p1_datum_values h_p1_datum_followers i_p1_datum_count h_p1_datum_openLists h_p1_datum_lastParts i_p1_datum_openCount, ar_ h_p1_datum_followers c_p1_datum_followers 200 f_p1_datum_followers, ar_ h_p1_datum_kinds c_p1_datum_kinds 200 f_p1_datum_kinds, ar_ h_p1_datum_values c_p1_datum_values 200 f_p1_datum_values] H := hP
  have hD : va_D A [ob_Program h_this h_datum h_words i_size h_constants i_lastConstant, ar_ h_constants c_constants 201 f_constants, ar_ h_words c_words 512 (va_cpy f_p1_words f_words (0 : Int32).toNatClampNeg (0 : Int32).toNatClampNeg i_p1_size.toNatClampNeg), ob_Program h_p1 h_p1_datum h_p1_words i_p1_size h_p1_constants i_p1_lastConstant, ar_ h_p1_constants c_p1_constants 201 f_p1_constants, ar_ h_p1_words c_p1_words 512 f_p1_words, ob_Datum h_datum h_datum_kinds h_datum_values h_datum_followers i_datum_count_1 h_datum_openLists h_datum_lastParts i_datum_openCount, ar_ h_datum_followers c_datum_followers 200 f_datum_followers_2, ar_ h_datum_kinds c_datum_kinds 200 f_datum_kinds_3, ar_ h_datum_values c_datum_values 200 f_datum_values_4, ob_Datum h_p1_datum h_p1_datum_kinds h_p1_datum_values h_p1_datum_followers i_p1_datum_count h_p1_datum_openLists h_p1_datum_lastParts i_p1_datum_openCount, ar_ h_p1_datum_followers c_p1_datum_followers 200 f_p1_datum_followers, ar_ h_p1_datum_kinds c_p1_datum_kinds 200 f_p1_datum_kinds, ar_ h_p1_datum_values c_p1_datum_values 200 f_p1_datum_values] := hD
  refine lv_aload_n hx hb d_Program_copyFrom_28 rfl (lv_at hl 0 rfl) ?_
  refine lv_aload_n hx hb d_Program_copyFrom_29 rfl (lv_at hl 1 rfl) ?_
  refine va_get (D := (dC, dI)) (ci := 2) (v := .int i_p1_size) (C := R_Program) (T := T_Program) (N := 5) hx hb hts in_Program hown hK hP 3 rfl rfl 2 (by decide) (hts _ kt_73) (fun _ h9 => h9) rfl d_Program_copyFrom_30 ?_
  refine va_put (D := (dC, dI)) (ci := 2) (v := .int i_p1_size) (ty := .int) (C := R_Program) (T := T_Program) (N := 5) hx hb hts in_Program t_Program t_Program_ok nm_Program hown hK hP hD hS 0 rfl rfl 2 (by decide) (hts _ kt_73) (fun _ h9 => h9) rfl (by decide +kernel) rfl rfl (Nat.le_of_ble_eq_true rfl) d_Program_copyFrom_33 (fun H locs hP hD hS => ?_)
  have hP : va_P (dC, dI) vwCl [ob_Program h_this h_datum h_words i_p1_size h_constants i_lastConstant, ar_ h_constants c_constants 201 f_constants, ar_ h_words c_words 512 (va_cpy f_p1_words f_words (0 : Int32).toNatClampNeg (0 : Int32).toNatClampNeg i_p1_size.toNatClampNeg), ob_Program h_p1 h_p1_datum h_p1_words i_p1_size h_p1_constants i_p1_lastConstant, ar_ h_p1_constants c_p1_constants 201 f_p1_constants, ar_ h_p1_words c_p1_words 512 f_p1_words, ob_Datum h_datum h_datum_kinds h_datum_values h_datum_followers i_datum_count_1 h_datum_openLists h_datum_lastParts i_datum_openCount, ar_ h_datum_followers c_datum_followers 200 f_datum_followers_2, ar_ h_datum_kinds c_datum_kinds 200 f_datum_kinds_3, ar_ h_datum_values c_datum_values 200 f_datum_values_4, ob_Datum h_p1_datum h_p1_datum_kinds h_p1_datum_values h_p1_datum_followers i_p1_datum_count h_p1_datum_openLists h_p1_datum_lastParts i_p1_datum_openCount, ar_ h_p1_datum_followers c_p1_datum_followers 200 f_p1_datum_followers, ar_ h_p1_datum_kinds c_p1_datum_kinds 200 f_p1_datum_kinds, ar_ h_p1_datum_values c_p1_datum_values 200 f_p1_datum_values] H := hP
  have hD : va_D A [ob_Program h_this h_datum h_words i_p1_size h_constants i_lastConstant, ar_ h_constants c_constants 201 f_constants, ar_ h_words c_words 512 (va_cpy f_p1_words f_words (0 : Int32).toNatClampNeg (0 : Int32).toNatClampNeg i_p1_size.toNatClampNeg), ob_Program h_p1 h_p1_datum h_p1_words i_p1_size h_p1_constants i_p1_lastConstant, ar_ h_p1_constants c_p1_constants 201 f_p1_constants, ar_ h_p1_words c_p1_words 512 f_p1_words, ob_Datum h_datum h_datum_kinds h_datum_values h_datum_followers i_datum_count_1 h_datum_openLists h_datum_lastParts i_datum_openCount, ar_ h_datum_followers c_datum_followers 200 f_datum_followers_2, ar_ h_datum_kinds c_datum_kinds 200 f_datum_kinds_3, ar_ h_datum_values c_datum_values 200 f_datum_values_4, ob_Datum h_p1_datum h_p1_datum_kinds h_p1_datum_values h_p1_datum_followers i_p1_datum_count h_p1_datum_openLists h_p1_datum_lastParts i_p1_datum_openCount, ar_ h_p1_datum_followers c_p1_datum_followers 200 f_p1_datum_followers, ar_ h_p1_datum_kinds c_p1_datum_kinds 200 f_p1_datum_kinds, ar_ h_p1_datum_values c_p1_datum_values 200 f_p1_datum_values] := hD
  refine lv_aload_n hx hb d_Program_copyFrom_36 rfl (lv_at hl 1 rfl) ?_
  refine va_get (D := (dC, dI)) (ci := 2) (v := .ref h_p1_constants) (C := R_Program) (T := T_Program) (N := 5) hx hb hts in_Program hown hK hP 3 rfl rfl 3 (by decide) (hts _ kt_76) (fun _ h9 => h9) rfl d_Program_copyFrom_37 ?_
  refine lv_iconst (v := 0) hx hb d_Program_copyFrom_40 (by decide) ?_
  refine lv_aload_n hx hb d_Program_copyFrom_41 rfl (lv_at hl 0 rfl) ?_
  refine va_get (D := (dC, dI)) (ci := 2) (v := .ref h_constants) (C := R_Program) (T := T_Program) (N := 5) hx hb hts in_Program hown hK hP 0 rfl rfl 3 (by decide) (hts _ kt_76) (fun _ h9 => h9) rfl d_Program_copyFrom_42 ?_
  refine lv_iconst (v := 0) hx hb d_Program_copyFrom_45 (by decide) ?_
  refine lv_aload_n hx hb d_Program_copyFrom_46 rfl (lv_at hl 1 rfl) ?_
  refine va_get (D := (dC, dI)) (ci := 2) (v := .int i_p1_lastConstant) (C := R_Program) (T := T_Program) (N := 5) hx hb hts in_Program hown hK hP 3 rfl rfl 4 (by decide) (hts _ kt_77) (fun _ h9 => h9) rfl d_Program_copyFrom_47 ?_
  refine lv_iconst (v := 1) hx hb d_Program_copyFrom_50 (by decide) ?_
  refine lv_iadd hx hb d_Program_copyFrom_51 ?_
  obtain ⟨h_10, h_11, h_12, h_13, h_14, hw⟩ := hw
  refine va_copyi (ty := .int) (sp := (0 : Int32)) (dp := (0 : Int32)) (n := (i_p1_lastConstant + (1 : Int32))) (rest := []) hx hb (by rw [hml]; exact hl.1.symm) hown (hts _ kt_517) (hts _ kt_516) (hts _ kt_515) (hts _ kt_17) hK hP hD hS 4 1 5 0 rfl rfl rfl rfl (by decide) h_10 h_11 h_12 h_13 h_14 (fun _ _ => rfl) (Nat.le_of_ble_eq_true rfl) (Nat.le_of_ble_eq_true rfl) d_Program_copyFrom_52 (fun H locs hP hD hS => ?_)
  have hP : va_P (dC, dI) vwCl [ob_Program h_this h_datum h_words i_p1_size h_constants i_lastConstant, ar_ h_constants c_constants 201 (va_cpy f_p1_constants f_constants (0 : Int32).toNatClampNeg (0 : Int32).toNatClampNeg (i_p1_lastConstant + (1 : Int32)).toNatClampNeg), ar_ h_words c_words 512 (va_cpy f_p1_words f_words (0 : Int32).toNatClampNeg (0 : Int32).toNatClampNeg i_p1_size.toNatClampNeg), ob_Program h_p1 h_p1_datum h_p1_words i_p1_size h_p1_constants i_p1_lastConstant, ar_ h_p1_constants c_p1_constants 201 f_p1_constants, ar_ h_p1_words c_p1_words 512 f_p1_words, ob_Datum h_datum h_datum_kinds h_datum_values h_datum_followers i_datum_count_1 h_datum_openLists h_datum_lastParts i_datum_openCount, ar_ h_datum_followers c_datum_followers 200 f_datum_followers_2, ar_ h_datum_kinds c_datum_kinds 200 f_datum_kinds_3, ar_ h_datum_values c_datum_values 200 f_datum_values_4, ob_Datum h_p1_datum h_p1_datum_kinds h_p1_datum_values h_p1_datum_followers i_p1_datum_count h_p1_datum_openLists h_p1_datum_lastParts i_p1_datum_openCount, ar_ h_p1_datum_followers c_p1_datum_followers 200 f_p1_datum_followers, ar_ h_p1_datum_kinds c_p1_datum_kinds 200 f_p1_datum_kinds, ar_ h_p1_datum_values c_p1_datum_values 200 f_p1_datum_values] H := hP
  have hD : va_D A [ob_Program h_this h_datum h_words i_p1_size h_constants i_lastConstant, ar_ h_constants c_constants 201 (va_cpy f_p1_constants f_constants (0 : Int32).toNatClampNeg (0 : Int32).toNatClampNeg (i_p1_lastConstant + (1 : Int32)).toNatClampNeg), ar_ h_words c_words 512 (va_cpy f_p1_words f_words (0 : Int32).toNatClampNeg (0 : Int32).toNatClampNeg i_p1_size.toNatClampNeg), ob_Program h_p1 h_p1_datum h_p1_words i_p1_size h_p1_constants i_p1_lastConstant, ar_ h_p1_constants c_p1_constants 201 f_p1_constants, ar_ h_p1_words c_p1_words 512 f_p1_words, ob_Datum h_datum h_datum_kinds h_datum_values h_datum_followers i_datum_count_1 h_datum_openLists h_datum_lastParts i_datum_openCount, ar_ h_datum_followers c_datum_followers 200 f_datum_followers_2, ar_ h_datum_kinds c_datum_kinds 200 f_datum_kinds_3, ar_ h_datum_values c_datum_values 200 f_datum_values_4, ob_Datum h_p1_datum h_p1_datum_kinds h_p1_datum_values h_p1_datum_followers i_p1_datum_count h_p1_datum_openLists h_p1_datum_lastParts i_p1_datum_openCount, ar_ h_p1_datum_followers c_p1_datum_followers 200 f_p1_datum_followers, ar_ h_p1_datum_kinds c_p1_datum_kinds 200 f_p1_datum_kinds, ar_ h_p1_datum_values c_p1_datum_values 200 f_p1_datum_values] := hD
  refine lv_aload_n hx hb d_Program_copyFrom_55 rfl (lv_at hl 0 rfl) ?_
  refine lv_aload_n hx hb d_Program_copyFrom_56 rfl (lv_at hl 1 rfl) ?_
  refine va_get (D := (dC, dI)) (ci := 2) (v := .int i_p1_lastConstant) (C := R_Program) (T := T_Program) (N := 5) hx hb hts in_Program hown hK hP 3 rfl rfl 4 (by decide) (hts _ kt_77) (fun _ h9 => h9) rfl d_Program_copyFrom_57 ?_
  refine va_put (D := (dC, dI)) (ci := 2) (v := .int i_p1_lastConstant) (ty := .int) (C := R_Program) (T := T_Program) (N := 5) hx hb hts in_Program t_Program t_Program_ok nm_Program hown hK hP hD hS 0 rfl rfl 4 (by decide) (hts _ kt_77) (fun _ h9 => h9) rfl (by decide +kernel) rfl rfl (Nat.le_of_ble_eq_true rfl) d_Program_copyFrom_60 (fun H locs hP hD hS => ?_)
  have hP : va_P (dC, dI) vwCl [ob_Program h_this h_datum h_words i_p1_size h_constants i_p1_lastConstant, ar_ h_constants c_constants 201 (va_cpy f_p1_constants f_constants (0 : Int32).toNatClampNeg (0 : Int32).toNatClampNeg (i_p1_lastConstant + (1 : Int32)).toNatClampNeg), ar_ h_words c_words 512 (va_cpy f_p1_words f_words (0 : Int32).toNatClampNeg (0 : Int32).toNatClampNeg i_p1_size.toNatClampNeg), ob_Program h_p1 h_p1_datum h_p1_words i_p1_size h_p1_constants i_p1_lastConstant, ar_ h_p1_constants c_p1_constants 201 f_p1_constants, ar_ h_p1_words c_p1_words 512 f_p1_words, ob_Datum h_datum h_datum_kinds h_datum_values h_datum_followers i_datum_count_1 h_datum_openLists h_datum_lastParts i_datum_openCount, ar_ h_datum_followers c_datum_followers 200 f_datum_followers_2, ar_ h_datum_kinds c_datum_kinds 200 f_datum_kinds_3, ar_ h_datum_values c_datum_values 200 f_datum_values_4, ob_Datum h_p1_datum h_p1_datum_kinds h_p1_datum_values h_p1_datum_followers i_p1_datum_count h_p1_datum_openLists h_p1_datum_lastParts i_p1_datum_openCount, ar_ h_p1_datum_followers c_p1_datum_followers 200 f_p1_datum_followers, ar_ h_p1_datum_kinds c_p1_datum_kinds 200 f_p1_datum_kinds, ar_ h_p1_datum_values c_p1_datum_values 200 f_p1_datum_values] H := hP
  have hD : va_D A [ob_Program h_this h_datum h_words i_p1_size h_constants i_p1_lastConstant, ar_ h_constants c_constants 201 (va_cpy f_p1_constants f_constants (0 : Int32).toNatClampNeg (0 : Int32).toNatClampNeg (i_p1_lastConstant + (1 : Int32)).toNatClampNeg), ar_ h_words c_words 512 (va_cpy f_p1_words f_words (0 : Int32).toNatClampNeg (0 : Int32).toNatClampNeg i_p1_size.toNatClampNeg), ob_Program h_p1 h_p1_datum h_p1_words i_p1_size h_p1_constants i_p1_lastConstant, ar_ h_p1_constants c_p1_constants 201 f_p1_constants, ar_ h_p1_words c_p1_words 512 f_p1_words, ob_Datum h_datum h_datum_kinds h_datum_values h_datum_followers i_datum_count_1 h_datum_openLists h_datum_lastParts i_datum_openCount, ar_ h_datum_followers c_datum_followers 200 f_datum_followers_2, ar_ h_datum_kinds c_datum_kinds 200 f_datum_kinds_3, ar_ h_datum_values c_datum_values 200 f_datum_values_4, ob_Datum h_p1_datum h_p1_datum_kinds h_p1_datum_values h_p1_datum_followers i_p1_datum_count h_p1_datum_openLists h_p1_datum_lastParts i_p1_datum_openCount, ar_ h_p1_datum_followers c_p1_datum_followers 200 f_p1_datum_followers, ar_ h_p1_datum_kinds c_p1_datum_kinds 200 f_p1_datum_kinds, ar_ h_p1_datum_values c_p1_datum_values 200 f_p1_datum_values] := hD
  have hP9 : va_P (dC, dI) vwCl [ob_Program h_this h_datum h_words i_p1_size h_constants i_p1_lastConstant, ar_ h_constants c_constants 201 (va_cpy f_p1_constants f_constants (0 : Int32).toNatClampNeg (0 : Int32).toNatClampNeg (i_p1_lastConstant + (1 : Int32)).toNatClampNeg), ob_Datum h_datum h_datum_kinds h_datum_values h_datum_followers i_datum_count_1 h_datum_openLists h_datum_lastParts i_datum_openCount, ar_ h_datum_followers c_datum_followers 200 f_datum_followers_2, ar_ h_datum_kinds c_datum_kinds 200 f_datum_kinds_3, ar_ h_datum_values c_datum_values 200 f_datum_values_4, ar_ h_words c_words 512 (va_cpy f_p1_words f_words (0 : Int32).toNatClampNeg (0 : Int32).toNatClampNeg i_p1_size.toNatClampNeg), ob_Program h_p1 h_p1_datum h_p1_words i_p1_size h_p1_constants i_p1_lastConstant, ar_ h_p1_constants c_p1_constants 201 f_p1_constants, ob_Datum h_p1_datum h_p1_datum_kinds h_p1_datum_values h_p1_datum_followers i_p1_datum_count h_p1_datum_openLists h_p1_datum_lastParts i_p1_datum_openCount, ar_ h_p1_datum_followers c_p1_datum_followers 200 f_p1_datum_followers, ar_ h_p1_datum_kinds c_p1_datum_kinds 200 f_p1_datum_kinds, ar_ h_p1_datum_values c_p1_datum_values 200 f_p1_datum_values, ar_ h_p1_words c_p1_words 512 f_p1_words] _ := (hP.sub [0, 1, 6, 7, 8, 9, 2, 3, 4, 10, 11, 12, 13, 5] rfl)
  have hD9 : va_D A [ob_Program h_this h_datum h_words i_p1_size h_constants i_p1_lastConstant, ar_ h_constants c_constants 201 (va_cpy f_p1_constants f_constants (0 : Int32).toNatClampNeg (0 : Int32).toNatClampNeg (i_p1_lastConstant + (1 : Int32)).toNatClampNeg), ob_Datum h_datum h_datum_kinds h_datum_values h_datum_followers i_datum_count_1 h_datum_openLists h_datum_lastParts i_datum_openCount, ar_ h_datum_followers c_datum_followers 200 f_datum_followers_2, ar_ h_datum_kinds c_datum_kinds 200 f_datum_kinds_3, ar_ h_datum_values c_datum_values 200 f_datum_values_4, ar_ h_words c_words 512 (va_cpy f_p1_words f_words (0 : Int32).toNatClampNeg (0 : Int32).toNatClampNeg i_p1_size.toNatClampNeg), ob_Program h_p1 h_p1_datum h_p1_words i_p1_size h_p1_constants i_p1_lastConstant, ar_ h_p1_constants c_p1_constants 201 f_p1_constants, ob_Datum h_p1_datum h_p1_datum_kinds h_p1_datum_values h_p1_datum_followers i_p1_datum_count h_p1_datum_openLists h_p1_datum_lastParts i_p1_datum_openCount, ar_ h_p1_datum_followers c_p1_datum_followers 200 f_p1_datum_followers, ar_ h_p1_datum_kinds c_p1_datum_kinds 200 f_p1_datum_kinds, ar_ h_p1_datum_values c_p1_datum_values 200 f_p1_datum_values, ar_ h_p1_words c_p1_words 512 f_p1_words] := (hD.sub [0, 1, 6, 7, 8, 9, 2, 3, 4, 10, 11, 12, 13, 5] (by decide) rfl)
  rw [hQ]
  exact W.vret hx hb hr (fun t ht hW => ⟨⟨(i_p1_size, i_p1_lastConstant, va_cpy f_p1_constants f_constants (0 : Int32).toNatClampNeg (0 : Int32).toNatClampNeg (i_p1_lastConstant + (1 : Int32)).toNatClampNeg, i_datum_count_1, f_datum_followers_2, f_datum_kinds_3, f_datum_values_4, va_cpy f_p1_words f_words (0 : Int32).toNatClampNeg (0 : Int32).toNatClampNeg i_p1_size.toNatClampNeg), rfl, hw, by rw [ht]; exact hP9, va_K.moved hW.alike hK, hD9⟩, hS.F ht⟩) hS.2.2 d_Program_copyFrom_63

set_option maxHeartbeats 4000000 in
set_option maxRecDepth 100000 in
theorem c_Program_wordAt (l : Launch) (dC : Nat → ClassId) (dI : Nat → Nat → Nat) (h_this : Nat) (h_words : Nat) (h_datum : Nat) (h_constants : Nat) (c_words : ClassId) (sz : Nat)  (i_size : Int32) (i_lastConstant : Int32) (f_words : Nat → Int32) (x1 : Int32) (post : Int32 → Prop) (hw : wp_Program_wordAt i_size f_words x1 post) : Met l y_Program_wordAt (ws_ y_Program_wordAt b_Program_wordAt 2 (some .int)) { frames := 0, cells := 0, slots := 0, locals := 0 } (va_Pc [.ref h_this, .int x1] (PRE (dC, dI) vwCl [(c_words, .int)] [ob_Program h_this h_datum h_words i_size h_constants i_lastConstant, ar_ h_words c_words 512 f_words] sz (va_A [ob_Program h_this h_datum h_words i_size h_constants i_lastConstant, ar_ h_words c_words 512 f_words] sz))) (va_Qi (fun (r : Int32) (u : Unit) => post r ) (fun (u : Unit) (t : State) => va_P (dC, dI) vwCl [ob_Program h_this h_datum h_words i_size h_constants i_lastConstant, ar_ h_words c_words 512 f_words] t.heap ∧ va_K (dC, dI) vwCl [(c_words, .int)] t ∧ va_D (va_A [ob_Program h_this h_datum h_words i_size h_constants i_lastConstant, ar_ h_words c_words 512 f_words] sz) [ob_Program h_this h_datum h_words i_size h_constants i_lastConstant, ar_ h_words c_words 512 f_words]) (va_A [ob_Program h_this h_datum h_words i_size h_constants i_lastConstant, ar_ h_words c_words 512 f_words] sz)) 0 0 (va_A [ob_Program h_this h_datum h_words i_size h_constants i_lastConstant, ar_ h_words c_words 512 f_words] sz) := by
  refine Met.ofW (cc := b_Program_wordAt) (maxL := 2) (ret := (some .int)) (by decide) rfl ?_
  intro p e s m args below meth c s₁ B hml hv
  obtain ⟨rfl, hsz, hP, hK, hD0, hG⟩ := hv
  have hx := B.exec
  have hb := B.bytes
  have hr := B.returns
  have hts : ∀ w ∈ tb, w.before _ s = true := fun w h => atoms_spec (ws := ws_ _ _ _ _) B.pre w (List.mem_cons_of_mem _ h)
  have hown : s.vm.findClass R_Program = some m.cls := findClass_of_methodNamed B.named
  have hlocks := B.notSynchronized
  subst hsz
  have hD := hD0.self (sz := s.heap.size)
  generalize hAe : va_A [ob_Program h_this h_datum h_words i_size h_constants i_lastConstant, ar_ h_words c_words 512 f_words] s.heap.size = A at hD hG ⊢
  have hA : ∀ q : Nat, s.heap.size ≤ q → A q := fun q h => by rw [← hAe]; exact Or.inr h
  have hS : va_S A s.heap s.heap [] := va_S.rf
  have hP : va_P (dC, dI) vwCl [ob_Program h_this h_datum h_words i_size h_constants i_lastConstant, ar_ h_words c_words 512 f_words] s.heap := hP
  have hl := lv_entry [.ref h_this, .int x1] (n := 2) (Nat.le_of_ble_eq_true rfl)
  rw [lg_entry_eq]
  generalize (lg_sl [.ref h_this, .int x1] ++ List.replicate (2 - (lg_sl [.ref h_this, .int x1]).length) Slot.unset).toArray = ls at hl ⊢
  have hl : lv_has ls 2 [(0, .ref h_this), (1, .int x1)] := hl
  obtain ⟨Q, hQ⟩ : ∃ Q : State → Prop, Q = MQ below (va_Qi (fun (r : Int32) (u : Unit) => post r ) (fun (u : Unit) (t : State) => va_P (dC, dI) vwCl [ob_Program h_this h_datum h_words i_size h_constants i_lastConstant, ar_ h_words c_words 512 f_words] t.heap ∧ va_K (dC, dI) vwCl [(c_words, .int)] t ∧ va_D A [ob_Program h_this h_datum h_words i_size h_constants i_lastConstant, ar_ h_words c_words 512 f_words]) A) ([.ref h_this, .int x1] : List Value).toArray s 0 0 A := ⟨_, rfl⟩
  rw [← hQ]
  unfold wp_Program_wordAt at hw
  refine lv_iload_n hx hb d_Program_wordAt_0 rfl (lv_at hl 1 rfl) ?_
  refine lv_if_lt (tgt := 21) hx hb d_Program_wordAt_1 (by decide) (fun c_1 => ?_) (fun c_1 => ?_)
  · have hw := hw.1 c_1
    refine lv_iconst (v := (-1)) hx hb d_Program_wordAt_21 (by decide) ?_
    have hP9 : va_P (dC, dI) vwCl [ob_Program h_this h_datum h_words i_size h_constants i_lastConstant, ar_ h_words c_words 512 f_words] _ := hP
    have hD9 : va_D A [ob_Program h_this h_datum h_words i_size h_constants i_lastConstant, ar_ h_words c_words 512 f_words] := hD
    rw [hQ]
    exact W.iret (v := (-1 : Int32)) hx hb hr (fun t ht hW => ⟨⟨(-1 : Int32), (), rfl, hw, by rw [ht]; exact hP9, va_K.moved hW.alike hK, hD9⟩, hS.F ht⟩) hS.2.2 d_Program_wordAt_22
  · have hw := hw.2 c_1
    refine lv_iload_n hx hb d_Program_wordAt_4 rfl (lv_at hl 1 rfl) ?_
    refine lv_aload_n hx hb d_Program_wordAt_5 rfl (lv_at hl 0 rfl) ?_
    refine va_get (D := (dC, dI)) (ci := 2) (v := .int i_size) (C := R_Program) (T := T_Program) (N := 5) hx hb hts in_Program hown hK hP 0 rfl rfl 2 (by decide) (hts _ kt_73) (fun _ h9 => h9) rfl d_Program_wordAt_6 ?_
    refine lv_icmp_ge (tgt := 21) hx hb d_Program_wordAt_9 (by decide) (fun c_2 => ?_) (fun c_2 => ?_)
    · have hw := hw.1 c_2
      refine lv_iconst (v := (-1)) hx hb d_Program_wordAt_21 (by decide) ?_
      have hP9 : va_P (dC, dI) vwCl [ob_Program h_this h_datum h_words i_size h_constants i_lastConstant, ar_ h_words c_words 512 f_words] _ := hP
      have hD9 : va_D A [ob_Program h_this h_datum h_words i_size h_constants i_lastConstant, ar_ h_words c_words 512 f_words] := hD
      rw [hQ]
      exact W.iret (v := (-1 : Int32)) hx hb hr (fun t ht hW => ⟨⟨(-1 : Int32), (), rfl, hw, by rw [ht]; exact hP9, va_K.moved hW.alike hK, hD9⟩, hS.F ht⟩) hS.2.2 d_Program_wordAt_22
    · have hw := hw.2 c_2
      refine lv_aload_n hx hb d_Program_wordAt_12 rfl (lv_at hl 0 rfl) ?_
      refine va_get (D := (dC, dI)) (ci := 2) (v := .ref h_words) (C := R_Program) (T := T_Program) (N := 5) hx hb hts in_Program hown hK hP 0 rfl rfl 1 (by decide) (hts _ kt_72) (fun _ h9 => h9) rfl d_Program_wordAt_13 ?_
      refine lv_iload_n hx hb d_Program_wordAt_16 rfl (lv_at hl 1 rfl) ?_
      obtain ⟨h_3, hw⟩ := hw
      refine va_iald hx hb hK hP 1 0 rfl rfl h_3 d_Program_wordAt_17 ?_
      refine lv_goto (tgt := 22) hx hb d_Program_wordAt_18 (by decide) ?_
      have hP9 : va_P (dC, dI) vwCl [ob_Program h_this h_datum h_words i_size h_constants i_lastConstant, ar_ h_words c_words 512 f_words] _ := hP
      have hD9 : va_D A [ob_Program h_this h_datum h_words i_size h_constants i_lastConstant, ar_ h_words c_words 512 f_words] := hD
      rw [hQ]
      exact W.iret (v := f_words x1.toNatClampNeg) hx hb hr (fun t ht hW => ⟨⟨f_words x1.toNatClampNeg, (), rfl, hw, by rw [ht]; exact hP9, va_K.moved hW.alike hK, hD9⟩, hS.F ht⟩) hS.2.2 d_Program_wordAt_22

set_option maxHeartbeats 4000000 in
set_option maxRecDepth 100000 in
theorem c_Names_isLasting (l : Launch) (dC : Nat → ClassId) (dI : Nat → Nat → Nat)   (sz : Nat)   (x0 : Int32) (post : Int32 → Prop) (hw : wp_Names_isLasting  x0 post) : Met l y_Names_isLasting (ws_ y_Names_isLasting b_Names_isLasting 1 (some .boolean)) { frames := 0, cells := 0, slots := 0, locals := 0 } (va_Pc [.int x0] (PRE (dC, dI) vwCl [] [] sz (va_A [] sz))) (va_Qi (fun (r : Int32) (u : Unit) => post r ) (fun (u : Unit) (t : State) => va_P (dC, dI) vwCl [] t.heap ∧ va_K (dC, dI) vwCl [] t ∧ va_D (va_A [] sz) []) (va_A [] sz)) 0 0 (va_A [] sz) := by
  refine Met.ofW (cc := b_Names_isLasting) (maxL := 1) (ret := (some .boolean)) (by decide) rfl ?_
  intro p e s m args below meth c s₁ B hml hv
  obtain ⟨rfl, hsz, hP, hK, hD0, hG⟩ := hv
  have hx := B.exec
  have hb := B.bytes
  have hr := B.returns
  have hts : ∀ w ∈ tb, w.before _ s = true := fun w h => atoms_spec (ws := ws_ _ _ _ _) B.pre w (List.mem_cons_of_mem _ h)
  have hown : s.vm.findClass R_Names = some m.cls := findClass_of_methodNamed B.named
  have hlocks := B.notSynchronized
  subst hsz
  have hD := hD0.self (sz := s.heap.size)
  generalize hAe : va_A [] s.heap.size = A at hD hG ⊢
  have hA : ∀ q : Nat, s.heap.size ≤ q → A q := fun q h => by rw [← hAe]; exact Or.inr h
  have hS : va_S A s.heap s.heap [] := va_S.rf
  have hP : va_P (dC, dI) vwCl [] s.heap := hP
  have hl := lv_entry [.int x0] (n := 1) (Nat.le_of_ble_eq_true rfl)
  rw [lg_entry_eq]
  generalize (lg_sl [.int x0] ++ List.replicate (1 - (lg_sl [.int x0]).length) Slot.unset).toArray = ls at hl ⊢
  have hl : lv_has ls 1 [(0, .int x0)] := hl
  obtain ⟨Q, hQ⟩ : ∃ Q : State → Prop, Q = MQ below (va_Qi (fun (r : Int32) (u : Unit) => post r ) (fun (u : Unit) (t : State) => va_P (dC, dI) vwCl [] t.heap ∧ va_K (dC, dI) vwCl [] t ∧ va_D A []) A) ([.int x0] : List Value).toArray s 0 0 A := ⟨_, rfl⟩
  rw [← hQ]
  unfold wp_Names_isLasting at hw
  refine lv_iload_n hx hb d_Names_isLasting_0 rfl (lv_at hl 0 rfl) ?_
  refine lv_sipush (v := 14636) hx hb d_Names_isLasting_1 (by decide) ?_
  refine lv_icmp_eq (tgt := 19) hx hb d_Names_isLasting_4 (by decide) (fun c_1 => ?_) (fun c_1 => ?_)
  · have hw := hw.1 c_1
    refine lv_iconst (v := 1) hx hb d_Names_isLasting_19 (by decide) ?_
    refine lv_goto (tgt := 24) hx hb d_Names_isLasting_20 (by decide) ?_
    have hP9 : va_P (dC, dI) vwCl [] _ := hP
    have hD9 : va_D A [] := hD
    rw [hQ]
    exact W.zret (v := (1 : Int32)) hx hb hr rfl (fun t ht hW => ⟨⟨(1 : Int32), (), rfl, hw, by rw [ht]; exact hP9, va_K.moved hW.alike hK, hD9⟩, hS.F ht⟩) hS.2.2 d_Names_isLasting_24
  · have hw := hw.2 c_1
    refine lv_iload_n hx hb d_Names_isLasting_7 rfl (lv_at hl 0 rfl) ?_
    refine lv_bipush (v := 20) hx hb d_Names_isLasting_8 (by decide) ?_
    refine lv_icmp_eq (tgt := 19) hx hb d_Names_isLasting_10 (by decide) (fun c_2 => ?_) (fun c_2 => ?_)
    · have hw := hw.1 c_2
      refine lv_iconst (v := 1) hx hb d_Names_isLasting_19 (by decide) ?_
      refine lv_goto (tgt := 24) hx hb d_Names_isLasting_20 (by decide) ?_
      have hP9 : va_P (dC, dI) vwCl [] _ := hP
      have hD9 : va_D A [] := hD
      rw [hQ]
      exact W.zret (v := (1 : Int32)) hx hb hr rfl (fun t ht hW => ⟨⟨(1 : Int32), (), rfl, hw, by rw [ht]; exact hP9, va_K.moved hW.alike hK, hD9⟩, hS.F ht⟩) hS.2.2 d_Names_isLasting_24
    · have hw := hw.2 c_2
      refine lv_iload_n hx hb d_Names_isLasting_13 rfl (lv_at hl 0 rfl) ?_
      refine lv_bipush (v := 6) hx hb d_Names_isLasting_14 (by decide) ?_
      refine lv_icmp_ne (tgt := 23) hx hb d_Names_isLasting_16 (by decide) (fun c_3 => ?_) (fun c_3 => ?_)
      · have hw := hw.2 c_3
        refine lv_iconst (v := 0) hx hb d_Names_isLasting_23 (by decide) ?_
        have hP9 : va_P (dC, dI) vwCl [] _ := hP
        have hD9 : va_D A [] := hD
        rw [hQ]
        exact W.zret (v := (0 : Int32)) hx hb hr rfl (fun t ht hW => ⟨⟨(0 : Int32), (), rfl, hw, by rw [ht]; exact hP9, va_K.moved hW.alike hK, hD9⟩, hS.F ht⟩) hS.2.2 d_Names_isLasting_24
      · have hw := hw.1 c_3
        refine lv_iconst (v := 1) hx hb d_Names_isLasting_19 (by decide) ?_
        refine lv_goto (tgt := 24) hx hb d_Names_isLasting_20 (by decide) ?_
        have hP9 : va_P (dC, dI) vwCl [] _ := hP
        have hD9 : va_D A [] := hD
        rw [hQ]
        exact W.zret (v := (1 : Int32)) hx hb hr rfl (fun t ht hW => ⟨⟨(1 : Int32), (), rfl, hw, by rw [ht]; exact hP9, va_K.moved hW.alike hK, hD9⟩, hS.F ht⟩) hS.2.2 d_Names_isLasting_24

set_option maxHeartbeats 4000000 in
set_option maxRecDepth 100000 in
theorem c_Program_constantNode (l : Launch) (dC : Nat → ClassId) (dI : Nat → Nat → Nat) (h_this : Nat) (h_constants : Nat) (h_datum : Nat) (h_words : Nat) (c_constants : ClassId) (sz : Nat)  (i_size : Int32) (i_lastConstant : Int32) (f_constants : Nat → Int32) (x1 : Int32) (post : Int32 → Prop) (hw : wp_Program_constantNode f_constants x1 post) : Met l y_Program_constantNode (ws_ y_Program_constantNode b_Program_constantNode 2 (some .int)) { frames := 0, cells := 0, slots := 0, locals := 0 } (va_Pc [.ref h_this, .int x1] (PRE (dC, dI) vwCl [(c_constants, .int)] [ob_Program h_this h_datum h_words i_size h_constants i_lastConstant, ar_ h_constants c_constants 201 f_constants] sz (va_A [ob_Program h_this h_datum h_words i_size h_constants i_lastConstant, ar_ h_constants c_constants 201 f_constants] sz))) (va_Qi (fun (r : Int32) (u : Unit) => post r ) (fun (u : Unit) (t : State) => va_P (dC, dI) vwCl [ob_Program h_this h_datum h_words i_size h_constants i_lastConstant, ar_ h_constants c_constants 201 f_constants] t.heap ∧ va_K (dC, dI) vwCl [(c_constants, .int)] t ∧ va_D (va_A [ob_Program h_this h_datum h_words i_size h_constants i_lastConstant, ar_ h_constants c_constants 201 f_constants] sz) [ob_Program h_this h_datum h_words i_size h_constants i_lastConstant, ar_ h_constants c_constants 201 f_constants]) (va_A [ob_Program h_this h_datum h_words i_size h_constants i_lastConstant, ar_ h_constants c_constants 201 f_constants] sz)) 0 0 (va_A [ob_Program h_this h_datum h_words i_size h_constants i_lastConstant, ar_ h_constants c_constants 201 f_constants] sz) := by
  refine Met.ofW (cc := b_Program_constantNode) (maxL := 2) (ret := (some .int)) (by decide) rfl ?_
  intro p e s m args below meth c s₁ B hml hv
  obtain ⟨rfl, hsz, hP, hK, hD0, hG⟩ := hv
  have hx := B.exec
  have hb := B.bytes
  have hr := B.returns
  have hts : ∀ w ∈ tb, w.before _ s = true := fun w h => atoms_spec (ws := ws_ _ _ _ _) B.pre w (List.mem_cons_of_mem _ h)
  have hown : s.vm.findClass R_Program = some m.cls := findClass_of_methodNamed B.named
  have hlocks := B.notSynchronized
  subst hsz
  have hD := hD0.self (sz := s.heap.size)
  generalize hAe : va_A [ob_Program h_this h_datum h_words i_size h_constants i_lastConstant, ar_ h_constants c_constants 201 f_constants] s.heap.size = A at hD hG ⊢
  have hA : ∀ q : Nat, s.heap.size ≤ q → A q := fun q h => by rw [← hAe]; exact Or.inr h
  have hS : va_S A s.heap s.heap [] := va_S.rf
  have hP : va_P (dC, dI) vwCl [ob_Program h_this h_datum h_words i_size h_constants i_lastConstant, ar_ h_constants c_constants 201 f_constants] s.heap := hP
  have hl := lv_entry [.ref h_this, .int x1] (n := 2) (Nat.le_of_ble_eq_true rfl)
  rw [lg_entry_eq]
  generalize (lg_sl [.ref h_this, .int x1] ++ List.replicate (2 - (lg_sl [.ref h_this, .int x1]).length) Slot.unset).toArray = ls at hl ⊢
  have hl : lv_has ls 2 [(0, .ref h_this), (1, .int x1)] := hl
  obtain ⟨Q, hQ⟩ : ∃ Q : State → Prop, Q = MQ below (va_Qi (fun (r : Int32) (u : Unit) => post r ) (fun (u : Unit) (t : State) => va_P (dC, dI) vwCl [ob_Program h_this h_datum h_words i_size h_constants i_lastConstant, ar_ h_constants c_constants 201 f_constants] t.heap ∧ va_K (dC, dI) vwCl [(c_constants, .int)] t ∧ va_D A [ob_Program h_this h_datum h_words i_size h_constants i_lastConstant, ar_ h_constants c_constants 201 f_constants]) A) ([.ref h_this, .int x1] : List Value).toArray s 0 0 A := ⟨_, rfl⟩
  rw [← hQ]
  unfold wp_Program_constantNode at hw
  refine lv_aload_n hx hb d_Program_constantNode_0 rfl (lv_at hl 0 rfl) ?_
  refine va_get (D := (dC, dI)) (ci := 2) (v := .ref h_constants) (C := R_Program) (T := T_Program) (N := 5) hx hb hts in_Program hown hK hP 0 rfl rfl 3 (by decide) (hts _ kt_76) (fun _ h9 => h9) rfl d_Program_constantNode_1 ?_
  refine lv_iload_n hx hb d_Program_constantNode_4 rfl (lv_at hl 1 rfl) ?_
  obtain ⟨h_1, hw⟩ := hw
  refine va_iald hx hb hK hP 1 0 rfl rfl h_1 d_Program_constantNode_5 ?_
  have hP9 : va_P (dC, dI) vwCl [ob_Program h_this h_datum h_words i_size h_constants i_lastConstant, ar_ h_constants c_constants 201 f_constants] _ := hP
  have hD9 : va_D A [ob_Program h_this h_datum h_words i_size h_constants i_lastConstant, ar_ h_constants c_constants 201 f_constants] := hD
  rw [hQ]
  exact W.iret (v := f_constants x1.toNatClampNeg) hx hb hr (fun t ht hW => ⟨⟨f_constants x1.toNatClampNeg, (), rfl, hw, by rw [ht]; exact hP9, va_K.moved hW.alike hK, hD9⟩, hS.F ht⟩) hS.2.2 d_Program_constantNode_6

set_option maxHeartbeats 4000000 in
set_option maxRecDepth 100000 in
theorem c_Op_opOf (l : Launch) (dC : Nat → ClassId) (dI : Nat → Nat → Nat)   (sz : Nat)   (x0 : Int32) (post : Int32 → Prop) (hw : wp_Op_opOf  x0 post) : Met l y_Op_opOf (ws_ y_Op_opOf b_Op_opOf 1 (some .int)) { frames := 1, cells := 0, slots := 0, locals := 21 } (va_Pc [.int x0] (PRE (dC, dI) vwCl [] [] sz (va_A [] sz))) (va_Qi (fun (r : Int32) (u : Unit) => post r ) (fun (u : Unit) (t : State) => va_P (dC, dI) vwCl [] t.heap ∧ va_K (dC, dI) vwCl [] t ∧ va_D (va_A [] sz) []) (va_A [] sz)) 0 0 (va_A [] sz) := by
  refine Met.ofW (cc := b_Op_opOf) (maxL := 1) (ret := (some .int)) (by decide) rfl ?_
  intro p e s m args below meth c s₁ B hml hv
  obtain ⟨rfl, hsz, hP, hK, hD0, hG⟩ := hv
  have hx := B.exec
  have hb := B.bytes
  have hr := B.returns
  have hts : ∀ w ∈ tb, w.before _ s = true := fun w h => atoms_spec (ws := ws_ _ _ _ _) B.pre w (List.mem_cons_of_mem _ h)
  have hown : s.vm.findClass R_Op = some m.cls := findClass_of_methodNamed B.named
  have hlocks := B.notSynchronized
  subst hsz
  have hD := hD0.self (sz := s.heap.size)
  generalize hAe : va_A [] s.heap.size = A at hD hG ⊢
  have hA : ∀ q : Nat, s.heap.size ≤ q → A q := fun q h => by rw [← hAe]; exact Or.inr h
  have hS : va_S A s.heap s.heap [] := va_S.rf
  have hP : va_P (dC, dI) vwCl [] s.heap := hP
  have hl := lv_entry [.int x0] (n := 1) (Nat.le_of_ble_eq_true rfl)
  rw [lg_entry_eq]
  generalize (lg_sl [.int x0] ++ List.replicate (1 - (lg_sl [.int x0]).length) Slot.unset).toArray = ls at hl ⊢
  have hl : lv_has ls 1 [(0, .int x0)] := hl
  obtain ⟨Q, hQ⟩ : ∃ Q : State → Prop, Q = MQ below (va_Qi (fun (r : Int32) (u : Unit) => post r ) (fun (u : Unit) (t : State) => va_P (dC, dI) vwCl [] t.heap ∧ va_K (dC, dI) vwCl [] t ∧ va_D A []) A) ([.int x0] : List Value).toArray s 0 0 A := ⟨_, rfl⟩
  rw [← hQ]
  unfold wp_Op_opOf at hw
  refine lv_iload_n hx hb d_Op_opOf_0 rfl (lv_at hl 0 rfl) ?_
  refine lv_if_ge (tgt := 9) hx hb d_Op_opOf_1 (by decide) (fun c_1 => ?_) (fun c_1 => ?_)
  · have hw := hw.1 c_1
    refine lv_iload_n hx hb d_Op_opOf_9 rfl (lv_at hl 0 rfl) ?_
    refine lv_bipush (v := 32) hx hb d_Op_opOf_10 (by decide) ?_
    obtain ⟨h_2, hw⟩ := hw
    refine lv_irem hx hb d_Op_opOf_12 h_2 ?_
    refine lv_bipush (v := 20) hx hb d_Op_opOf_13 (by decide) ?_
    refine va_mmin hx hb (by rw [hml]; exact hl.1.symm) hown (hts _ kt_622) (hts _ kt_171) (hts _ kt_11) (hts _ kt_172) (Nat.le_of_ble_eq_true rfl) (Nat.le_of_ble_eq_true rfl) (Nat.zero_le _) (Nat.zero_le _) d_Op_opOf_15 ?_
    have hP9 : va_P (dC, dI) vwCl [] _ := hP
    have hD9 : va_D A [] := hD
    rw [hQ]
    exact W.iret (v := if (20 : Int32) < (x0 - x0 / (32 : Int32) * (32 : Int32)) then (20 : Int32) else (x0 - x0 / (32 : Int32) * (32 : Int32))) hx hb hr (fun t ht hW => ⟨⟨if (20 : Int32) < (x0 - x0 / (32 : Int32) * (32 : Int32)) then (20 : Int32) else (x0 - x0 / (32 : Int32) * (32 : Int32)), (), rfl, hw, by rw [ht]; exact hP9, va_K.moved hW.alike hK, hD9⟩, hS.F ht⟩) hS.2.2 d_Op_opOf_18
  · have hw := hw.2 c_1
    refine lv_bipush (v := 20) hx hb d_Op_opOf_4 (by decide) ?_
    refine lv_goto (tgt := 18) hx hb d_Op_opOf_6 (by decide) ?_
    have hP9 : va_P (dC, dI) vwCl [] _ := hP
    have hD9 : va_D A [] := hD
    rw [hQ]
    exact W.iret (v := (20 : Int32)) hx hb hr (fun t ht hW => ⟨⟨(20 : Int32), (), rfl, hw, by rw [ht]; exact hP9, va_K.moved hW.alike hK, hD9⟩, hS.F ht⟩) hS.2.2 d_Op_opOf_18

set_option maxHeartbeats 4000000 in
set_option maxRecDepth 100000 in
theorem c_Op_firstOf (l : Launch) (dC : Nat → ClassId) (dI : Nat → Nat → Nat)   (sz : Nat)   (x0 : Int32) (post : Int32 → Prop) (hw : wp_Op_firstOf  x0 post) : Met l y_Op_firstOf (ws_ y_Op_firstOf b_Op_firstOf 1 (some .int)) { frames := 0, cells := 0, slots := 0, locals := 0 } (va_Pc [.int x0] (PRE (dC, dI) vwCl [] [] sz (va_A [] sz))) (va_Qi (fun (r : Int32) (u : Unit) => post r ) (fun (u : Unit) (t : State) => va_P (dC, dI) vwCl [] t.heap ∧ va_K (dC, dI) vwCl [] t ∧ va_D (va_A [] sz) []) (va_A [] sz)) 0 0 (va_A [] sz) := by
  refine Met.ofW (cc := b_Op_firstOf) (maxL := 1) (ret := (some .int)) (by decide) rfl ?_
  intro p e s m args below meth c s₁ B hml hv
  obtain ⟨rfl, hsz, hP, hK, hD0, hG⟩ := hv
  have hx := B.exec
  have hb := B.bytes
  have hr := B.returns
  have hts : ∀ w ∈ tb, w.before _ s = true := fun w h => atoms_spec (ws := ws_ _ _ _ _) B.pre w (List.mem_cons_of_mem _ h)
  have hown : s.vm.findClass R_Op = some m.cls := findClass_of_methodNamed B.named
  have hlocks := B.notSynchronized
  subst hsz
  have hD := hD0.self (sz := s.heap.size)
  generalize hAe : va_A [] s.heap.size = A at hD hG ⊢
  have hA : ∀ q : Nat, s.heap.size ≤ q → A q := fun q h => by rw [← hAe]; exact Or.inr h
  have hS : va_S A s.heap s.heap [] := va_S.rf
  have hP : va_P (dC, dI) vwCl [] s.heap := hP
  have hl := lv_entry [.int x0] (n := 1) (Nat.le_of_ble_eq_true rfl)
  rw [lg_entry_eq]
  generalize (lg_sl [.int x0] ++ List.replicate (1 - (lg_sl [.int x0]).length) Slot.unset).toArray = ls at hl ⊢
  have hl : lv_has ls 1 [(0, .int x0)] := hl
  obtain ⟨Q, hQ⟩ : ∃ Q : State → Prop, Q = MQ below (va_Qi (fun (r : Int32) (u : Unit) => post r ) (fun (u : Unit) (t : State) => va_P (dC, dI) vwCl [] t.heap ∧ va_K (dC, dI) vwCl [] t ∧ va_D A []) A) ([.int x0] : List Value).toArray s 0 0 A := ⟨_, rfl⟩
  rw [← hQ]
  unfold wp_Op_firstOf at hw
  refine lv_iload_n hx hb d_Op_firstOf_0 rfl (lv_at hl 0 rfl) ?_
  refine lv_sipush (v := 16384) hx hb d_Op_firstOf_1 (by decide) ?_
  obtain ⟨h_1, hw⟩ := hw
  refine lv_irem hx hb d_Op_firstOf_4 h_1 ?_
  refine lv_bipush (v := 32) hx hb d_Op_firstOf_5 (by decide) ?_
  obtain ⟨h_2, hw⟩ := hw
  refine lv_idiv hx hb d_Op_firstOf_7 h_2 ?_
  have hP9 : va_P (dC, dI) vwCl [] _ := hP
  have hD9 : va_D A [] := hD
  rw [hQ]
  exact W.iret (v := (x0 - x0 / (16384 : Int32) * (16384 : Int32)) / (32 : Int32)) hx hb hr (fun t ht hW => ⟨⟨(x0 - x0 / (16384 : Int32) * (16384 : Int32)) / (32 : Int32), (), rfl, hw, by rw [ht]; exact hP9, va_K.moved hW.alike hK, hD9⟩, hS.F ht⟩) hS.2.2 d_Op_firstOf_8

set_option maxHeartbeats 4000000 in
set_option maxRecDepth 100000 in
theorem c_Op_secondOf (l : Launch) (dC : Nat → ClassId) (dI : Nat → Nat → Nat)   (sz : Nat)   (x0 : Int32) (post : Int32 → Prop) (hw : wp_Op_secondOf  x0 post) : Met l y_Op_secondOf (ws_ y_Op_secondOf b_Op_secondOf 1 (some .int)) { frames := 0, cells := 0, slots := 0, locals := 0 } (va_Pc [.int x0] (PRE (dC, dI) vwCl [] [] sz (va_A [] sz))) (va_Qi (fun (r : Int32) (u : Unit) => post r ) (fun (u : Unit) (t : State) => va_P (dC, dI) vwCl [] t.heap ∧ va_K (dC, dI) vwCl [] t ∧ va_D (va_A [] sz) []) (va_A [] sz)) 0 0 (va_A [] sz) := by
  refine Met.ofW (cc := b_Op_secondOf) (maxL := 1) (ret := (some .int)) (by decide) rfl ?_
  intro p e s m args below meth c s₁ B hml hv
  obtain ⟨rfl, hsz, hP, hK, hD0, hG⟩ := hv
  have hx := B.exec
  have hb := B.bytes
  have hr := B.returns
  have hts : ∀ w ∈ tb, w.before _ s = true := fun w h => atoms_spec (ws := ws_ _ _ _ _) B.pre w (List.mem_cons_of_mem _ h)
  have hown : s.vm.findClass R_Op = some m.cls := findClass_of_methodNamed B.named
  have hlocks := B.notSynchronized
  subst hsz
  have hD := hD0.self (sz := s.heap.size)
  generalize hAe : va_A [] s.heap.size = A at hD hG ⊢
  have hA : ∀ q : Nat, s.heap.size ≤ q → A q := fun q h => by rw [← hAe]; exact Or.inr h
  have hS : va_S A s.heap s.heap [] := va_S.rf
  have hP : va_P (dC, dI) vwCl [] s.heap := hP
  have hl := lv_entry [.int x0] (n := 1) (Nat.le_of_ble_eq_true rfl)
  rw [lg_entry_eq]
  generalize (lg_sl [.int x0] ++ List.replicate (1 - (lg_sl [.int x0]).length) Slot.unset).toArray = ls at hl ⊢
  have hl : lv_has ls 1 [(0, .int x0)] := hl
  obtain ⟨Q, hQ⟩ : ∃ Q : State → Prop, Q = MQ below (va_Qi (fun (r : Int32) (u : Unit) => post r ) (fun (u : Unit) (t : State) => va_P (dC, dI) vwCl [] t.heap ∧ va_K (dC, dI) vwCl [] t ∧ va_D A []) A) ([.int x0] : List Value).toArray s 0 0 A := ⟨_, rfl⟩
  rw [← hQ]
  unfold wp_Op_secondOf at hw
  refine lv_iload_n hx hb d_Op_secondOf_0 rfl (lv_at hl 0 rfl) ?_
  refine lv_sipush (v := 16384) hx hb d_Op_secondOf_1 (by decide) ?_
  obtain ⟨h_1, hw⟩ := hw
  refine lv_idiv hx hb d_Op_secondOf_4 h_1 ?_
  have hP9 : va_P (dC, dI) vwCl [] _ := hP
  have hD9 : va_D A [] := hD
  rw [hQ]
  exact W.iret (v := x0 / (16384 : Int32)) hx hb hr (fun t ht hW => ⟨⟨x0 / (16384 : Int32), (), rfl, hw, by rw [ht]; exact hP9, va_K.moved hW.alike hK, hD9⟩, hS.F ht⟩) hS.2.2 d_Op_secondOf_5

set_option maxHeartbeats 4000000 in
set_option maxRecDepth 100000 in
theorem c_Op_cyclesOf (l : Launch) (dC : Nat → ClassId) (dI : Nat → Nat → Nat)   (sz : Nat)   (x0 : Int32) (post : Int32 → Prop) (hw : wp_Op_cyclesOf  x0 post) : Met l y_Op_cyclesOf (ws_ y_Op_cyclesOf b_Op_cyclesOf 2 (some .int)) { frames := 2, cells := 0, slots := 0, locals := 41 } (va_Pc [.int x0] (PRE (dC, dI) vwCl [] [] sz (va_A [] sz))) (va_Qi (fun (r : Int32) (u : Unit) => post r ) (fun (u : Unit) (t : State) => va_P (dC, dI) vwCl [] t.heap ∧ va_K (dC, dI) vwCl [] t ∧ va_D (va_A [] sz) []) (va_A [] sz)) 0 0 (va_A [] sz) := by
  refine Met.ofW (cc := b_Op_cyclesOf) (maxL := 2) (ret := (some .int)) (by decide) rfl ?_
  intro p e s m args below meth c s₁ B hml hv
  obtain ⟨rfl, hsz, hP, hK, hD0, hG⟩ := hv
  have hx := B.exec
  have hb := B.bytes
  have hr := B.returns
  have hts : ∀ w ∈ tb, w.before _ s = true := fun w h => atoms_spec (ws := ws_ _ _ _ _) B.pre w (List.mem_cons_of_mem _ h)
  have hown : s.vm.findClass R_Op = some m.cls := findClass_of_methodNamed B.named
  have hlocks := B.notSynchronized
  subst hsz
  have hD := hD0.self (sz := s.heap.size)
  generalize hAe : va_A [] s.heap.size = A at hD hG ⊢
  have hA : ∀ q : Nat, s.heap.size ≤ q → A q := fun q h => by rw [← hAe]; exact Or.inr h
  have hS : va_S A s.heap s.heap [] := va_S.rf
  have hP : va_P (dC, dI) vwCl [] s.heap := hP
  have hl := lv_entry [.int x0] (n := 2) (Nat.le_of_ble_eq_true rfl)
  rw [lg_entry_eq]
  generalize (lg_sl [.int x0] ++ List.replicate (2 - (lg_sl [.int x0]).length) Slot.unset).toArray = ls at hl ⊢
  have hl : lv_has ls 2 [(0, .int x0)] := hl
  obtain ⟨Q, hQ⟩ : ∃ Q : State → Prop, Q = MQ below (va_Qi (fun (r : Int32) (u : Unit) => post r ) (fun (u : Unit) (t : State) => va_P (dC, dI) vwCl [] t.heap ∧ va_K (dC, dI) vwCl [] t ∧ va_D A []) A) ([.int x0] : List Value).toArray s 0 0 A := ⟨_, rfl⟩
  rw [← hQ]
  unfold wp_Op_cyclesOf at hw
  refine lv_iload_n hx hb d_Op_cyclesOf_0 rfl (lv_at hl 0 rfl) ?_
  have hPc := hP.sub (ws' := []) [] rfl
  have hDc := hD.sub (ws' := []) [] (by decide) rfl
  have hKc := hK.sub (tys' := []) [] rfl
  have hFc := va_free (wc := []) hD hS hA [] rfl
  refine va_calli (va_runS (As := [.int x0]) (rest := []) ⟨hx, hb, hml, hown, hts⟩ (c_Op_opOf l dC dI s.heap.size x0 _ hw) (va_cwS 1 hts (gd_S kt_619 kt_620 kt_18 kt_621) rfl rfl rfl (by decide +kernel) ⟨Nat.le_of_ble_eq_true rfl, Nat.le_of_ble_eq_true rfl⟩) ⟨pre_blind, pre_ok hPc hKc hDc hG hS hFc⟩ rfl rfl hl.1 rfl (lv_room (Nat.le_of_ble_eq_true rfl)) d_Op_cyclesOf_1 ⟨Nat.zero_le _, Nat.zero_le _⟩) hS (fun q _ h => hFc q h) hFc (fun r_1 u t H1 locs ht hvm hw hB hz1 hk1 hS => ?_)
  obtain ⟨hP1, hK1, hD1⟩ := hB
  rw [ht] at hP1
  try dsimp only at hw
  obtain ⟨hP, hD⟩ := va_join (wr := []) (w1 := []) hP hD [] [] rfl rfl (by decide) (by decide) hk1 hFc hP1 hD1
  generalize H1 = H at hP hS ⊢
  have hP : va_P (dC, dI) vwCl [] H := hP
  have hD : va_D A [] := hD
  refine lv_istore_n (lv' := [(1, .int r_1), (0, .int x0)]) hx hb d_Op_cyclesOf_4 rfl hl (by decide) rfl (fun ls hl => ?_)
  refine lv_iload_n hx hb d_Op_cyclesOf_5 rfl (lv_at hl 0 rfl) ?_
  refine lv_if_ne (tgt := 27) hx hb d_Op_cyclesOf_6 (by decide) (fun c_2 => ?_) (fun c_2 => ?_)
  · have hw := hw.2 c_2
    obtain ⟨t_3, hZt_3, hTt_3⟩ := hG.2.1
    refine va_gets hx hb hZt_3 hS hown (hts _ kt_649) (fun _ h9 => h9) d_Op_cyclesOf_27 ?_
    refine lv_iload_n hx hb d_Op_cyclesOf_30 rfl (lv_at hl 0 rfl) ?_
    obtain ⟨h_4, hw⟩ := hw
    refine va_ti (v := .int (cycL.getD r_1.toNatClampNeg 0)) hx hb hTt_3 hS h_4 rfl d_Op_cyclesOf_31 ?_
    have hP9 : va_P (dC, dI) vwCl [] _ := hP
    have hD9 : va_D A [] := hD
    rw [hQ]
    exact W.iret (v := cycL.getD r_1.toNatClampNeg 0) hx hb hr (fun t ht hW => ⟨⟨cycL.getD r_1.toNatClampNeg 0, (), rfl, hw, by rw [ht]; exact hP9, va_K.moved hW.alike hK, hD9⟩, hS.F ht⟩) hS.2.2 d_Op_cyclesOf_32
  · have hw := hw.1 c_2
    obtain ⟨t_5, hZt_5, hTt_5⟩ := hG.2.1
    refine va_gets hx hb hZt_5 hS hown (hts _ kt_649) (fun _ h9 => h9) d_Op_cyclesOf_9 ?_
    refine lv_iconst (v := 0) hx hb d_Op_cyclesOf_12 (by decide) ?_
    obtain ⟨h_6, hw⟩ := hw
    refine va_ti (v := .int (cycL.getD (0 : Int32).toNatClampNeg 0)) hx hb hTt_5 hS h_6 rfl d_Op_cyclesOf_13 ?_
    refine lv_iload_n hx hb d_Op_cyclesOf_14 rfl (lv_at hl 1 rfl) ?_
    have hPc := hP.sub (ws' := []) [] rfl
    have hDc := hD.sub (ws' := []) [] (by decide) rfl
    have hKc := hK.sub (tys' := []) [] rfl
    have hFc := va_free (wc := []) hD hS hA [] rfl
    refine va_calli (va_runS (As := [.int x0]) (rest := [.int (cycL.getD (0 : Int32).toNatClampNeg 0)]) ⟨hx, hb, hml, hown, hts⟩ (c_Op_firstOf l dC dI H.size x0 _ hw) (va_cwS 1 hts (gd_S kt_651 kt_652 kt_18 kt_653) rfl rfl rfl (by decide +kernel) ⟨Nat.le_of_ble_eq_true rfl, Nat.le_of_ble_eq_true rfl⟩) ⟨pre_blind, pre_ok hPc hKc hDc hG hS hFc⟩ rfl rfl hl.1 rfl (lv_room (Nat.le_of_ble_eq_true rfl)) d_Op_cyclesOf_15 ⟨Nat.zero_le _, Nat.zero_le _⟩) hS (fun q _ h => hFc q h) hFc (fun r_7 u t H1 locs ht hvm hw hB hz1 hk1 hS => ?_)
    obtain ⟨hP1, hK1, hD1⟩ := hB
    rw [ht] at hP1
    try dsimp only at hw
    obtain ⟨hP, hD⟩ := va_join (wr := []) (w1 := []) hP hD [] [] rfl rfl (by decide) (by decide) hk1 hFc hP1 hD1
    generalize H1 = H at hP hS ⊢
    have hP : va_P (dC, dI) vwCl [] H := hP
    have hD : va_D A [] := hD
    refine lv_iadd hx hb d_Op_cyclesOf_18 ?_
    refine lv_iload_n hx hb d_Op_cyclesOf_19 rfl (lv_at hl 1 rfl) ?_
    have hPc := hP.sub (ws' := []) [] rfl
    have hDc := hD.sub (ws' := []) [] (by decide) rfl
    have hKc := hK.sub (tys' := []) [] rfl
    have hFc := va_free (wc := []) hD hS hA [] rfl
    refine va_calli (va_runS (As := [.int x0]) (rest := [.int ((cycL.getD (0 : Int32).toNatClampNeg 0) + r_7)]) ⟨hx, hb, hml, hown, hts⟩ (c_Op_secondOf l dC dI H.size x0 _ hw) (va_cwS 1 hts (gd_S kt_654 kt_655 kt_18 kt_656) rfl rfl rfl (by decide +kernel) ⟨Nat.le_of_ble_eq_true rfl, Nat.le_of_ble_eq_true rfl⟩) ⟨pre_blind, pre_ok hPc hKc hDc hG hS hFc⟩ rfl rfl hl.1 rfl (lv_room (Nat.le_of_ble_eq_true rfl)) d_Op_cyclesOf_20 ⟨Nat.zero_le _, Nat.zero_le _⟩) hS (fun q _ h => hFc q h) hFc (fun r_8 u t H1 locs ht hvm hw hB hz1 hk1 hS => ?_)
    obtain ⟨hP1, hK1, hD1⟩ := hB
    rw [ht] at hP1
    try dsimp only at hw
    obtain ⟨hP, hD⟩ := va_join (wr := []) (w1 := []) hP hD [] [] rfl rfl (by decide) (by decide) hk1 hFc hP1 hD1
    generalize H1 = H at hP hS ⊢
    have hP : va_P (dC, dI) vwCl [] H := hP
    have hD : va_D A [] := hD
    refine lv_iadd hx hb d_Op_cyclesOf_23 ?_
    refine lv_goto (tgt := 32) hx hb d_Op_cyclesOf_24 (by decide) ?_
    have hP9 : va_P (dC, dI) vwCl [] _ := hP
    have hD9 : va_D A [] := hD
    rw [hQ]
    exact W.iret (v := ((cycL.getD (0 : Int32).toNatClampNeg 0) + r_7) + r_8) hx hb hr (fun t ht hW => ⟨⟨((cycL.getD (0 : Int32).toNatClampNeg 0) + r_7) + r_8, (), rfl, hw, by rw [ht]; exact hP9, va_K.moved hW.alike hK, hD9⟩, hS.F ht⟩) hS.2.2 d_Op_cyclesOf_32

set_option maxHeartbeats 4000000 in
set_option maxRecDepth 100000 in
theorem c_Op_cellsOf (l : Launch) (dC : Nat → ClassId) (dI : Nat → Nat → Nat)   (sz : Nat)   (x0 : Int32) (post : Int32 → Prop) (hw : wp_Op_cellsOf  x0 post) : Met l y_Op_cellsOf (ws_ y_Op_cellsOf b_Op_cellsOf 1 (some .int)) { frames := 2, cells := 0, slots := 0, locals := 41 } (va_Pc [.int x0] (PRE (dC, dI) vwCl [] [] sz (va_A [] sz))) (va_Qi (fun (r : Int32) (u : Unit) => post r ) (fun (u : Unit) (t : State) => va_P (dC, dI) vwCl [] t.heap ∧ va_K (dC, dI) vwCl [] t ∧ va_D (va_A [] sz) []) (va_A [] sz)) 0 0 (va_A [] sz) := by
  refine Met.ofW (cc := b_Op_cellsOf) (maxL := 1) (ret := (some .int)) (by decide) rfl ?_
  intro p e s m args below meth c s₁ B hml hv
  obtain ⟨rfl, hsz, hP, hK, hD0, hG⟩ := hv
  have hx := B.exec
  have hb := B.bytes
  have hr := B.returns
  have hts : ∀ w ∈ tb, w.before _ s = true := fun w h => atoms_spec (ws := ws_ _ _ _ _) B.pre w (List.mem_cons_of_mem _ h)
  have hown : s.vm.findClass R_Op = some m.cls := findClass_of_methodNamed B.named
  have hlocks := B.notSynchronized
  subst hsz
  have hD := hD0.self (sz := s.heap.size)
  generalize hAe : va_A [] s.heap.size = A at hD hG ⊢
  have hA : ∀ q : Nat, s.heap.size ≤ q → A q := fun q h => by rw [← hAe]; exact Or.inr h
  have hS : va_S A s.heap s.heap [] := va_S.rf
  have hP : va_P (dC, dI) vwCl [] s.heap := hP
  have hl := lv_entry [.int x0] (n := 1) (Nat.le_of_ble_eq_true rfl)
  rw [lg_entry_eq]
  generalize (lg_sl [.int x0] ++ List.replicate (1 - (lg_sl [.int x0]).length) Slot.unset).toArray = ls at hl ⊢
  have hl : lv_has ls 1 [(0, .int x0)] := hl
  obtain ⟨Q, hQ⟩ : ∃ Q : State → Prop, Q = MQ below (va_Qi (fun (r : Int32) (u : Unit) => post r ) (fun (u : Unit) (t : State) => va_P (dC, dI) vwCl [] t.heap ∧ va_K (dC, dI) vwCl [] t ∧ va_D A []) A) ([.int x0] : List Value).toArray s 0 0 A := ⟨_, rfl⟩
  rw [← hQ]
  unfold wp_Op_cellsOf at hw
  obtain ⟨t_1, hZt_1, hTt_1⟩ := hG.2.2.1
  refine va_gets hx hb hZt_1 hS hown (hts _ kt_617) (fun _ h9 => h9) d_Op_cellsOf_0 ?_
  refine lv_iload_n hx hb d_Op_cellsOf_3 rfl (lv_at hl 0 rfl) ?_
  have hPc := hP.sub (ws' := []) [] rfl
  have hDc := hD.sub (ws' := []) [] (by decide) rfl
  have hKc := hK.sub (tys' := []) [] rfl
  have hFc := va_free (wc := []) hD hS hA [] rfl
  refine va_calli (va_runS (As := [.int x0]) (rest := [.ref t_1]) ⟨hx, hb, hml, hown, hts⟩ (c_Op_opOf l dC dI s.heap.size x0 _ hw) (va_cwS 1 hts (gd_S kt_619 kt_620 kt_18 kt_621) rfl rfl rfl (by decide +kernel) ⟨Nat.le_of_ble_eq_true rfl, Nat.le_of_ble_eq_true rfl⟩) ⟨pre_blind, pre_ok hPc hKc hDc hG hS hFc⟩ rfl rfl hl.1 rfl (lv_room (Nat.le_of_ble_eq_true rfl)) d_Op_cellsOf_4 ⟨Nat.zero_le _, Nat.zero_le _⟩) hS (fun q _ h => hFc q h) hFc (fun r_2 u t H1 locs ht hvm hw hB hz1 hk1 hS => ?_)
  obtain ⟨hP1, hK1, hD1⟩ := hB
  rw [ht] at hP1
  try dsimp only at hw
  obtain ⟨hP, hD⟩ := va_join (wr := []) (w1 := []) hP hD [] [] rfl rfl (by decide) (by decide) hk1 hFc hP1 hD1
  generalize H1 = H at hP hS ⊢
  have hP : va_P (dC, dI) vwCl [] H := hP
  have hD : va_D A [] := hD
  obtain ⟨h_3, hw⟩ := hw
  refine va_ti (v := .int (celL.getD r_2.toNatClampNeg 0)) hx hb hTt_1 hS h_3 rfl d_Op_cellsOf_7 ?_
  have hP9 : va_P (dC, dI) vwCl [] _ := hP
  have hD9 : va_D A [] := hD
  rw [hQ]
  exact W.iret (v := celL.getD r_2.toNatClampNeg 0) hx hb hr (fun t ht hW => ⟨⟨celL.getD r_2.toNatClampNeg 0, (), rfl, hw, by rw [ht]; exact hP9, va_K.moved hW.alike hK, hD9⟩, hS.F ht⟩) hS.2.2 d_Op_cellsOf_8
