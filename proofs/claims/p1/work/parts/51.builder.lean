
theorem gd_SU {own : String} {idx : Nat} {y : MethodName} {b : ByteArray} {n : Nat} {r : Option FieldType} (h1 : Cond.methodLink own idx y ∈ tb) (h2 : Cond.sameMethod y.cls y.cls y.name y.desc ∈ tb) (h3 : Cond.superclass own y.cls ∈ tb) (h4 : Cond.instanceMethod y ∈ tb) (h5 : Cond.initialized y.cls ∈ tb) (hc : Cond.code y b n r ∈ tb) : GoodIn tb (va_wsSU own idx y (ws_ y b n r)) := by
  intro w hw
  rcases List.mem_append.mp hw with h | h
  · rcases List.mem_cons.mp h with rfl | h
    · exact tb_good h1
    rcases List.mem_cons.mp h with rfl | h
    · exact tb_good h2
    rcases List.mem_cons.mp h with rfl | h
    · exact tb_good h3
    rcases List.mem_cons.mp h with rfl | h
    · exact tb_good h4
    rcases List.mem_cons.mp h with rfl | h
    · exact tb_good h5
    · cases h
  · exact gd_W hc w h
theorem gd_U {own C : String} {idx : Nat} {y : MethodName} {b : ByteArray} {n : Nat} {r : Option FieldType} (h1 : Cond.methodLink own idx y ∈ tb) (h2 : Cond.sameMethod y.cls y.cls y.name y.desc ∈ tb) (h3 : Cond.selects C y y ∈ tb) (h4 : Cond.instanceMethod y ∈ tb) (h5 : Cond.initialized y.cls ∈ tb) (hc : Cond.code y b n r ∈ tb) : GoodIn tb (va_wsU own idx C y.cls y y (ws_ y b n r)) := by
  intro w hw
  rcases List.mem_append.mp hw with h | h
  · rcases List.mem_cons.mp h with rfl | h
    · exact tb_good h1
    rcases List.mem_cons.mp h with rfl | h
    · exact tb_good h2
    rcases List.mem_cons.mp h with rfl | h
    · exact tb_good h3
    rcases List.mem_cons.mp h with rfl | h
    · exact tb_good h4
    rcases List.mem_cons.mp h with rfl | h
    · exact tb_good h5
    · cases h
  · exact gd_W hc w h
/-- a private method of the builder's superclass is the one that is run on a builder -/
theorem sel_priv {y z : MethodName} {s : State} {args : Array Value} {n : Nat} (hy : y.cls ≠ "java/lang/invoke/MethodHandle" ∧ y.cls ≠ "java/lang/invoke/VarHandle") (hz : z.cls ≠ "java/lang/invoke/MethodHandle" ∧ z.cls ≠ "java/lang/invoke/VarHandle") (hyz : y.cls = z.cls)
    (hins : (Cond.instantiable R_SB n).before args s = true) (hpriv : (Cond.privateMethod y).before args s = true) (hinst : (Cond.instanceMethod y).before args s = true) (hsz : (Cond.selects R_SB z z).before args s = true) (hiz : (Cond.instanceMethod z).before args s = true) :
    (Cond.selects R_SB y y).before args s = true := by
  obtain ⟨c, k, hc, hk, -, hniab, -, -⟩ := Cond.instantiable_spec hins
  obtain ⟨mk, methM, hnamed, hmethM, -, -⟩ := Cond.instanceMethod_spec hinst
  obtain ⟨mz, methZ, hnamedZ, -, -, -⟩ := Cond.instanceMethod_spec hiz
  obtain ⟨c2, r2, m2, q1, q2, q3, q4, kP, hkP, hkPi⟩ := Cond.selects_spec hsz
  cases (State.methodFound?_of_named hnamedZ hz).symm.trans q2
  cases hnamedZ.symm.trans q3
  have hcls : mk.cls = mz.cls := Option.some.inj ((findClass_of_methodNamed hnamed).symm.trans (by rw [hyz]; exact findClass_of_methodNamed hnamedZ))
  have hfound : s.methodFound? y.cls y.name y.desc = some mk := State.methodFound?_of_named hnamed hy
  have hsel : selectMethod {} s.vm c mk = .method mk := selectMethod_private hmethM (Cond.privateMethod_at hpriv mk methM hnamed hmethM)
  rw [← hcls] at hkP
  simp only [Cond.before, Cond.holds, Cond.value, hc, hfound, hnamed, hsel, hkP]
  simp; exact hkPi
theorem hts_all {args : Array Value} {s : State} (hts0 : ∀ w ∈ lw_tbl, w.before args s = true) : ∀ w ∈ tb, w.before args s = true := by
  intro w hw
  rcases List.mem_append.mp (List.mem_filter.mp hw).1 with h | h
  · obtain ⟨y, hy, rfl⟩ := List.mem_map.mp h
    rcases List.mem_cons.mp hy with rfl | hy
    · exact sel_priv (z := y_ASB_isLatin1) (n := 4) (by decide) (by decide) rfl (hts0 _ (List.mem_append_right _ (List.mem_of_getElem? (i := 226) (by decide +kernel)))) (hts0 _ (List.mem_append_right _ (List.mem_of_getElem? (i := 760) (by decide +kernel)))) (hts0 _ (List.mem_append_right _ (List.mem_of_getElem? (i := 761) (by decide +kernel)))) (hts0 _ (List.mem_append_right _ (List.mem_of_getElem? (i := 791) (by decide +kernel)))) (hts0 _ (List.mem_append_right _ (List.mem_of_getElem? (i := 789) (by decide +kernel))))
    rcases List.mem_cons.mp hy with rfl | hy
    · exact sel_priv (z := y_ASB_isLatin1) (n := 4) (by decide) (by decide) rfl (hts0 _ (List.mem_append_right _ (List.mem_of_getElem? (i := 226) (by decide +kernel)))) (hts0 _ (List.mem_append_right _ (List.mem_of_getElem? (i := 764) (by decide +kernel)))) (hts0 _ (List.mem_append_right _ (List.mem_of_getElem? (i := 765) (by decide +kernel)))) (hts0 _ (List.mem_append_right _ (List.mem_of_getElem? (i := 791) (by decide +kernel)))) (hts0 _ (List.mem_append_right _ (List.mem_of_getElem? (i := 789) (by decide +kernel))))
    rcases List.mem_cons.mp hy with rfl | hy
    · exact sel_priv (z := y_ASB_isLatin1) (n := 4) (by decide) (by decide) rfl (hts0 _ (List.mem_append_right _ (List.mem_of_getElem? (i := 226) (by decide +kernel)))) (hts0 _ (List.mem_append_right _ (List.mem_of_getElem? (i := 920) (by decide +kernel)))) (hts0 _ (List.mem_append_right _ (List.mem_of_getElem? (i := 921) (by decide +kernel)))) (hts0 _ (List.mem_append_right _ (List.mem_of_getElem? (i := 791) (by decide +kernel)))) (hts0 _ (List.mem_append_right _ (List.mem_of_getElem? (i := 789) (by decide +kernel))))
    rcases List.mem_cons.mp hy with rfl | hy
    · exact sel_priv (z := y_ASB_isLatin1) (n := 4) (by decide) (by decide) rfl (hts0 _ (List.mem_append_right _ (List.mem_of_getElem? (i := 226) (by decide +kernel)))) (hts0 _ (List.mem_append_right _ (List.mem_of_getElem? (i := 924) (by decide +kernel)))) (hts0 _ (List.mem_append_right _ (List.mem_of_getElem? (i := 925) (by decide +kernel)))) (hts0 _ (List.mem_append_right _ (List.mem_of_getElem? (i := 791) (by decide +kernel)))) (hts0 _ (List.mem_append_right _ (List.mem_of_getElem? (i := 789) (by decide +kernel))))
    · cases hy
  · exact hts0 w h
theorem d_Integer_stringSize_0 : decode b_Integer_stringSize 0 = .ok (.iconst 1, 1) := by decide +kernel
theorem d_Integer_stringSize_1 : decode b_Integer_stringSize 1 = .ok (.istore_n 1, 1) := by decide +kernel
theorem d_Integer_stringSize_2 : decode b_Integer_stringSize 2 = .ok (.iload_n 0, 1) := by decide +kernel
theorem d_Integer_stringSize_3 : decode b_Integer_stringSize 3 = .ok (.ifCond .lt 8, 3) := by decide +kernel
theorem d_Integer_stringSize_6 : decode b_Integer_stringSize 6 = .ok (.iconst 0, 1) := by decide +kernel
theorem d_Integer_stringSize_7 : decode b_Integer_stringSize 7 = .ok (.istore_n 1, 1) := by decide +kernel
theorem d_Integer_stringSize_8 : decode b_Integer_stringSize 8 = .ok (.iload_n 0, 1) := by decide +kernel
theorem d_Integer_stringSize_9 : decode b_Integer_stringSize 9 = .ok (.ineg, 1) := by decide +kernel
theorem d_Integer_stringSize_10 : decode b_Integer_stringSize 10 = .ok (.istore_n 0, 1) := by decide +kernel
theorem d_Integer_stringSize_11 : decode b_Integer_stringSize 11 = .ok (.bipush (-10), 2) := by decide +kernel
theorem d_Integer_stringSize_13 : decode b_Integer_stringSize 13 = .ok (.istore_n 2, 1) := by decide +kernel
theorem d_Integer_stringSize_14 : decode b_Integer_stringSize 14 = .ok (.iconst 1, 1) := by decide +kernel
theorem d_Integer_stringSize_15 : decode b_Integer_stringSize 15 = .ok (.istore_n 3, 1) := by decide +kernel
theorem d_Integer_stringSize_16 : decode b_Integer_stringSize 16 = .ok (.iload_n 3, 1) := by decide +kernel
theorem d_Integer_stringSize_17 : decode b_Integer_stringSize 17 = .ok (.bipush 10, 2) := by decide +kernel
theorem d_Integer_stringSize_19 : decode b_Integer_stringSize 19 = .ok (.if_icmp .ge 23, 3) := by decide +kernel
theorem d_Integer_stringSize_22 : decode b_Integer_stringSize 22 = .ok (.iload_n 0, 1) := by decide +kernel
theorem d_Integer_stringSize_23 : decode b_Integer_stringSize 23 = .ok (.iload_n 2, 1) := by decide +kernel
theorem d_Integer_stringSize_24 : decode b_Integer_stringSize 24 = .ok (.if_icmp .le 7, 3) := by decide +kernel
theorem d_Integer_stringSize_27 : decode b_Integer_stringSize 27 = .ok (.iload_n 3, 1) := by decide +kernel
theorem d_Integer_stringSize_28 : decode b_Integer_stringSize 28 = .ok (.iload_n 1, 1) := by decide +kernel
theorem d_Integer_stringSize_29 : decode b_Integer_stringSize 29 = .ok (.iadd, 1) := by decide +kernel
theorem d_Integer_stringSize_30 : decode b_Integer_stringSize 30 = .ok (.ireturn, 1) := by decide +kernel
theorem d_Integer_stringSize_31 : decode b_Integer_stringSize 31 = .ok (.bipush 10, 2) := by decide +kernel
theorem d_Integer_stringSize_33 : decode b_Integer_stringSize 33 = .ok (.iload_n 2, 1) := by decide +kernel
theorem d_Integer_stringSize_34 : decode b_Integer_stringSize 34 = .ok (.imul, 1) := by decide +kernel
theorem d_Integer_stringSize_35 : decode b_Integer_stringSize 35 = .ok (.istore_n 2, 1) := by decide +kernel
theorem d_Integer_stringSize_36 : decode b_Integer_stringSize 36 = .ok (.iinc 3 1, 3) := by decide +kernel
theorem d_Integer_stringSize_39 : decode b_Integer_stringSize 39 = .ok (.goto (-23), 3) := by decide +kernel
theorem d_Integer_stringSize_42 : decode b_Integer_stringSize 42 = .ok (.bipush 10, 2) := by decide +kernel
theorem d_Integer_stringSize_44 : decode b_Integer_stringSize 44 = .ok (.iload_n 1, 1) := by decide +kernel
theorem d_Integer_stringSize_45 : decode b_Integer_stringSize 45 = .ok (.iadd, 1) := by decide +kernel
theorem d_Integer_stringSize_46 : decode b_Integer_stringSize 46 = .ok (.ireturn, 1) := by decide +kernel
theorem d_Integer_getChars_0 : decode b_Integer_getChars 0 = .ok (.iload_n 1, 1) := by decide +kernel
theorem d_Integer_getChars_1 : decode b_Integer_getChars 1 = .ok (.istore 5, 2) := by decide +kernel
theorem d_Integer_getChars_3 : decode b_Integer_getChars 3 = .ok (.iload_n 0, 1) := by decide +kernel
theorem d_Integer_getChars_4 : decode b_Integer_getChars 4 = .ok (.ifCond .ge 7, 3) := by decide +kernel
theorem d_Integer_getChars_7 : decode b_Integer_getChars 7 = .ok (.iconst 1, 1) := by decide +kernel
theorem d_Integer_getChars_8 : decode b_Integer_getChars 8 = .ok (.goto 4, 3) := by decide +kernel
theorem d_Integer_getChars_11 : decode b_Integer_getChars 11 = .ok (.iconst 0, 1) := by decide +kernel
theorem d_Integer_getChars_12 : decode b_Integer_getChars 12 = .ok (.istore 6, 2) := by decide +kernel
theorem d_Integer_getChars_14 : decode b_Integer_getChars 14 = .ok (.iload 6, 2) := by decide +kernel
theorem d_Integer_getChars_16 : decode b_Integer_getChars 16 = .ok (.ifCond .ne 6, 3) := by decide +kernel
theorem d_Integer_getChars_19 : decode b_Integer_getChars 19 = .ok (.iload_n 0, 1) := by decide +kernel
theorem d_Integer_getChars_20 : decode b_Integer_getChars 20 = .ok (.ineg, 1) := by decide +kernel
theorem d_Integer_getChars_21 : decode b_Integer_getChars 21 = .ok (.istore_n 0, 1) := by decide +kernel
theorem d_Integer_getChars_22 : decode b_Integer_getChars 22 = .ok (.iload_n 0, 1) := by decide +kernel
theorem d_Integer_getChars_23 : decode b_Integer_getChars 23 = .ok (.bipush (-100), 2) := by decide +kernel
theorem d_Integer_getChars_25 : decode b_Integer_getChars 25 = .ok (.if_icmp .gt 47, 3) := by decide +kernel
theorem d_Integer_getChars_28 : decode b_Integer_getChars 28 = .ok (.iload_n 0, 1) := by decide +kernel
theorem d_Integer_getChars_29 : decode b_Integer_getChars 29 = .ok (.bipush 100, 2) := by decide +kernel
theorem d_Integer_getChars_31 : decode b_Integer_getChars 31 = .ok (.idiv, 1) := by decide +kernel
theorem d_Integer_getChars_32 : decode b_Integer_getChars 32 = .ok (.istore_n 3, 1) := by decide +kernel
theorem d_Integer_getChars_33 : decode b_Integer_getChars 33 = .ok (.iload_n 3, 1) := by decide +kernel
theorem d_Integer_getChars_34 : decode b_Integer_getChars 34 = .ok (.bipush 100, 2) := by decide +kernel
theorem d_Integer_getChars_36 : decode b_Integer_getChars 36 = .ok (.imul, 1) := by decide +kernel
theorem d_Integer_getChars_37 : decode b_Integer_getChars 37 = .ok (.iload_n 0, 1) := by decide +kernel
theorem d_Integer_getChars_38 : decode b_Integer_getChars 38 = .ok (.isub, 1) := by decide +kernel
theorem d_Integer_getChars_39 : decode b_Integer_getChars 39 = .ok (.istore 4, 2) := by decide +kernel
theorem d_Integer_getChars_41 : decode b_Integer_getChars 41 = .ok (.iload_n 3, 1) := by decide +kernel
theorem d_Integer_getChars_42 : decode b_Integer_getChars 42 = .ok (.istore_n 0, 1) := by decide +kernel
theorem d_Integer_getChars_43 : decode b_Integer_getChars 43 = .ok (.aload_n 2, 1) := by decide +kernel
theorem d_Integer_getChars_44 : decode b_Integer_getChars 44 = .ok (.iinc 5 (-1), 3) := by decide +kernel
theorem d_Integer_getChars_47 : decode b_Integer_getChars 47 = .ok (.iload 5, 2) := by decide +kernel
theorem d_Integer_getChars_49 : decode b_Integer_getChars 49 = .ok (.getstatic 83, 3) := by decide +kernel
theorem d_Integer_getChars_52 : decode b_Integer_getChars 52 = .ok (.iload 4, 2) := by decide +kernel
theorem d_Integer_getChars_54 : decode b_Integer_getChars 54 = .ok (.baload, 1) := by decide +kernel
theorem d_Integer_getChars_55 : decode b_Integer_getChars 55 = .ok (.bastore, 1) := by decide +kernel
theorem d_Integer_getChars_56 : decode b_Integer_getChars 56 = .ok (.aload_n 2, 1) := by decide +kernel
theorem d_Integer_getChars_57 : decode b_Integer_getChars 57 = .ok (.iinc 5 (-1), 3) := by decide +kernel
theorem d_Integer_getChars_60 : decode b_Integer_getChars 60 = .ok (.iload 5, 2) := by decide +kernel
theorem d_Integer_getChars_62 : decode b_Integer_getChars 62 = .ok (.getstatic 87, 3) := by decide +kernel
theorem d_Integer_getChars_65 : decode b_Integer_getChars 65 = .ok (.iload 4, 2) := by decide +kernel
theorem d_Integer_getChars_67 : decode b_Integer_getChars 67 = .ok (.baload, 1) := by decide +kernel
theorem d_Integer_getChars_68 : decode b_Integer_getChars 68 = .ok (.bastore, 1) := by decide +kernel
theorem d_Integer_getChars_69 : decode b_Integer_getChars 69 = .ok (.goto (-47), 3) := by decide +kernel
theorem d_Integer_getChars_72 : decode b_Integer_getChars 72 = .ok (.aload_n 2, 1) := by decide +kernel
theorem d_Integer_getChars_73 : decode b_Integer_getChars 73 = .ok (.iinc 5 (-1), 3) := by decide +kernel
theorem d_Integer_getChars_76 : decode b_Integer_getChars 76 = .ok (.iload 5, 2) := by decide +kernel
theorem d_Integer_getChars_78 : decode b_Integer_getChars 78 = .ok (.getstatic 83, 3) := by decide +kernel
theorem d_Integer_getChars_81 : decode b_Integer_getChars 81 = .ok (.iload_n 0, 1) := by decide +kernel
theorem d_Integer_getChars_82 : decode b_Integer_getChars 82 = .ok (.ineg, 1) := by decide +kernel
theorem d_Integer_getChars_83 : decode b_Integer_getChars 83 = .ok (.baload, 1) := by decide +kernel
theorem d_Integer_getChars_84 : decode b_Integer_getChars 84 = .ok (.bastore, 1) := by decide +kernel
theorem d_Integer_getChars_85 : decode b_Integer_getChars 85 = .ok (.iload_n 0, 1) := by decide +kernel
theorem d_Integer_getChars_86 : decode b_Integer_getChars 86 = .ok (.bipush (-9), 2) := by decide +kernel
theorem d_Integer_getChars_88 : decode b_Integer_getChars 88 = .ok (.if_icmp .ge 16, 3) := by decide +kernel
theorem d_Integer_getChars_91 : decode b_Integer_getChars 91 = .ok (.aload_n 2, 1) := by decide +kernel
theorem d_Integer_getChars_92 : decode b_Integer_getChars 92 = .ok (.iinc 5 (-1), 3) := by decide +kernel
theorem d_Integer_getChars_95 : decode b_Integer_getChars 95 = .ok (.iload 5, 2) := by decide +kernel
theorem d_Integer_getChars_97 : decode b_Integer_getChars 97 = .ok (.getstatic 87, 3) := by decide +kernel
theorem d_Integer_getChars_100 : decode b_Integer_getChars 100 = .ok (.iload_n 0, 1) := by decide +kernel
theorem d_Integer_getChars_101 : decode b_Integer_getChars 101 = .ok (.ineg, 1) := by decide +kernel
theorem d_Integer_getChars_102 : decode b_Integer_getChars 102 = .ok (.baload, 1) := by decide +kernel
theorem d_Integer_getChars_103 : decode b_Integer_getChars 103 = .ok (.bastore, 1) := by decide +kernel
theorem d_Integer_getChars_104 : decode b_Integer_getChars 104 = .ok (.iload 6, 2) := by decide +kernel
theorem d_Integer_getChars_106 : decode b_Integer_getChars 106 = .ok (.ifCond .eq 12, 3) := by decide +kernel
theorem d_Integer_getChars_109 : decode b_Integer_getChars 109 = .ok (.aload_n 2, 1) := by decide +kernel
theorem d_Integer_getChars_110 : decode b_Integer_getChars 110 = .ok (.iinc 5 (-1), 3) := by decide +kernel
theorem d_Integer_getChars_113 : decode b_Integer_getChars 113 = .ok (.iload 5, 2) := by decide +kernel
theorem d_Integer_getChars_115 : decode b_Integer_getChars 115 = .ok (.bipush 45, 2) := by decide +kernel
theorem d_Integer_getChars_117 : decode b_Integer_getChars 117 = .ok (.bastore, 1) := by decide +kernel
theorem d_Integer_getChars_118 : decode b_Integer_getChars 118 = .ok (.iload 5, 2) := by decide +kernel
theorem d_Integer_getChars_120 : decode b_Integer_getChars 120 = .ok (.ireturn, 1) := by decide +kernel
theorem d_ArrSup_newLength_0 : decode b_ArrSup_newLength 0 = .ok (.iload_n 0, 1) := by decide +kernel
theorem d_ArrSup_newLength_1 : decode b_ArrSup_newLength 1 = .ok (.iload_n 1, 1) := by decide +kernel
theorem d_ArrSup_newLength_2 : decode b_ArrSup_newLength 2 = .ok (.iload_n 2, 1) := by decide +kernel
theorem d_ArrSup_newLength_3 : decode b_ArrSup_newLength 3 = .ok (.invokestatic 194, 3) := by decide +kernel
theorem d_ArrSup_newLength_6 : decode b_ArrSup_newLength 6 = .ok (.iadd, 1) := by decide +kernel
theorem d_ArrSup_newLength_7 : decode b_ArrSup_newLength 7 = .ok (.istore_n 3, 1) := by decide +kernel
theorem d_ArrSup_newLength_8 : decode b_ArrSup_newLength 8 = .ok (.iconst 0, 1) := by decide +kernel
theorem d_ArrSup_newLength_9 : decode b_ArrSup_newLength 9 = .ok (.iload_n 3, 1) := by decide +kernel
theorem d_ArrSup_newLength_10 : decode b_ArrSup_newLength 10 = .ok (.if_icmp .ge 11, 3) := by decide +kernel
theorem d_ArrSup_newLength_13 : decode b_ArrSup_newLength 13 = .ok (.iload_n 3, 1) := by decide +kernel
theorem d_ArrSup_newLength_14 : decode b_ArrSup_newLength 14 = .ok (.ldc 200, 2) := by decide +kernel
theorem d_ArrSup_newLength_16 : decode b_ArrSup_newLength 16 = .ok (.if_icmp .gt 5, 3) := by decide +kernel
theorem d_ArrSup_newLength_19 : decode b_ArrSup_newLength 19 = .ok (.iload_n 3, 1) := by decide +kernel
theorem d_ArrSup_newLength_20 : decode b_ArrSup_newLength 20 = .ok (.ireturn, 1) := by decide +kernel
theorem d_ArrSup_newLength_21 : decode b_ArrSup_newLength 21 = .ok (.iload_n 0, 1) := by decide +kernel
theorem d_ArrSup_newLength_22 : decode b_ArrSup_newLength 22 = .ok (.iload_n 1, 1) := by decide +kernel
theorem d_ArrSup_newLength_23 : decode b_ArrSup_newLength 23 = .ok (.invokestatic 201, 3) := by decide +kernel
theorem d_ArrSup_newLength_26 : decode b_ArrSup_newLength 26 = .ok (.ireturn, 1) := by decide +kernel
theorem d_Latin1_canEncode_0 : decode b_Latin1_canEncode 0 = .ok (.iload_n 0, 1) := by decide +kernel
theorem d_Latin1_canEncode_1 : decode b_Latin1_canEncode 1 = .ok (.sipush 255, 3) := by decide +kernel
theorem d_Latin1_canEncode_4 : decode b_Latin1_canEncode 4 = .ok (.if_icmp .gt 7, 3) := by decide +kernel
theorem d_Latin1_canEncode_7 : decode b_Latin1_canEncode 7 = .ok (.iconst 1, 1) := by decide +kernel
theorem d_Latin1_canEncode_8 : decode b_Latin1_canEncode 8 = .ok (.goto 4, 3) := by decide +kernel
theorem d_Latin1_canEncode_11 : decode b_Latin1_canEncode 11 = .ok (.iconst 0, 1) := by decide +kernel
theorem d_Latin1_canEncode_12 : decode b_Latin1_canEncode 12 = .ok (.ireturn, 1) := by decide +kernel
theorem d_ASB_isLatin1_0 : decode b_ASB_isLatin1 0 = .ok (.getstatic 18, 3) := by decide +kernel
theorem d_ASB_isLatin1_3 : decode b_ASB_isLatin1 3 = .ok (.ifCond .eq 14, 3) := by decide +kernel
theorem d_ASB_isLatin1_6 : decode b_ASB_isLatin1 6 = .ok (.aload_n 0, 1) := by decide +kernel
theorem d_ASB_isLatin1_7 : decode b_ASB_isLatin1 7 = .ok (.getfield 22, 3) := by decide +kernel
theorem d_ASB_isLatin1_10 : decode b_ASB_isLatin1 10 = .ok (.ifCond .ne 7, 3) := by decide +kernel
theorem d_ASB_isLatin1_13 : decode b_ASB_isLatin1 13 = .ok (.iconst 1, 1) := by decide +kernel
theorem d_ASB_isLatin1_14 : decode b_ASB_isLatin1 14 = .ok (.goto 4, 3) := by decide +kernel
theorem d_ASB_isLatin1_17 : decode b_ASB_isLatin1 17 = .ok (.iconst 0, 1) := by decide +kernel
theorem d_ASB_isLatin1_18 : decode b_ASB_isLatin1 18 = .ok (.ireturn, 1) := by decide +kernel
theorem d_ASB_length_0 : decode b_ASB_length 0 = .ok (.aload_n 0, 1) := by decide +kernel
theorem d_ASB_length_1 : decode b_ASB_length 1 = .ok (.getfield 79, 3) := by decide +kernel
theorem d_ASB_length_4 : decode b_ASB_length 4 = .ok (.ireturn, 1) := by decide +kernel
theorem d_ASB_newCapacity_0 : decode b_ASB_newCapacity 0 = .ok (.aload_n 0, 1) := by decide +kernel
theorem d_ASB_newCapacity_1 : decode b_ASB_newCapacity 1 = .ok (.getfield 15, 3) := by decide +kernel
theorem d_ASB_newCapacity_4 : decode b_ASB_newCapacity 4 = .ok (.arraylength, 1) := by decide +kernel
theorem d_ASB_newCapacity_5 : decode b_ASB_newCapacity 5 = .ok (.istore_n 2, 1) := by decide +kernel
theorem d_ASB_newCapacity_6 : decode b_ASB_newCapacity 6 = .ok (.iload_n 1, 1) := by decide +kernel
theorem d_ASB_newCapacity_7 : decode b_ASB_newCapacity 7 = .ok (.aload_n 0, 1) := by decide +kernel
theorem d_ASB_newCapacity_8 : decode b_ASB_newCapacity 8 = .ok (.getfield 22, 3) := by decide +kernel
theorem d_ASB_newCapacity_11 : decode b_ASB_newCapacity 11 = .ok (.ishl, 1) := by decide +kernel
theorem d_ASB_newCapacity_12 : decode b_ASB_newCapacity 12 = .ok (.istore_n 3, 1) := by decide +kernel
theorem d_ASB_newCapacity_13 : decode b_ASB_newCapacity 13 = .ok (.iload_n 3, 1) := by decide +kernel
theorem d_ASB_newCapacity_14 : decode b_ASB_newCapacity 14 = .ok (.iload_n 2, 1) := by decide +kernel
theorem d_ASB_newCapacity_15 : decode b_ASB_newCapacity 15 = .ok (.isub, 1) := by decide +kernel
theorem d_ASB_newCapacity_16 : decode b_ASB_newCapacity 16 = .ok (.istore 4, 2) := by decide +kernel
theorem d_ASB_newCapacity_18 : decode b_ASB_newCapacity 18 = .ok (.iload_n 2, 1) := by decide +kernel
theorem d_ASB_newCapacity_19 : decode b_ASB_newCapacity 19 = .ok (.iload 4, 2) := by decide +kernel
theorem d_ASB_newCapacity_21 : decode b_ASB_newCapacity 21 = .ok (.iload_n 2, 1) := by decide +kernel
theorem d_ASB_newCapacity_22 : decode b_ASB_newCapacity 22 = .ok (.iconst 2, 1) := by decide +kernel
theorem d_ASB_newCapacity_23 : decode b_ASB_newCapacity 23 = .ok (.aload_n 0, 1) := by decide +kernel
theorem d_ASB_newCapacity_24 : decode b_ASB_newCapacity 24 = .ok (.getfield 22, 3) := by decide +kernel
theorem d_ASB_newCapacity_27 : decode b_ASB_newCapacity 27 = .ok (.ishl, 1) := by decide +kernel
theorem d_ASB_newCapacity_28 : decode b_ASB_newCapacity 28 = .ok (.iadd, 1) := by decide +kernel
theorem d_ASB_newCapacity_29 : decode b_ASB_newCapacity 29 = .ok (.invokestatic 114, 3) := by decide +kernel
theorem d_ASB_newCapacity_32 : decode b_ASB_newCapacity 32 = .ok (.istore 5, 2) := by decide +kernel
theorem d_ASB_newCapacity_34 : decode b_ASB_newCapacity 34 = .ok (.iload 5, 2) := by decide +kernel
theorem d_ASB_newCapacity_36 : decode b_ASB_newCapacity 36 = .ok (.ldc 39, 2) := by decide +kernel
theorem d_ASB_newCapacity_38 : decode b_ASB_newCapacity 38 = .ok (.if_icmp .ne 13, 3) := by decide +kernel
theorem d_ASB_newCapacity_41 : decode b_ASB_newCapacity 41 = .ok (.new 120, 3) := by decide +kernel
theorem d_ASB_newCapacity_44 : decode b_ASB_newCapacity 44 = .ok (.dup, 1) := by decide +kernel
theorem d_ASB_newCapacity_45 : decode b_ASB_newCapacity 45 = .ok (.ldc 122, 2) := by decide +kernel
theorem d_ASB_newCapacity_47 : decode b_ASB_newCapacity 47 = .ok (.invokespecial 124, 3) := by decide +kernel
theorem d_ASB_newCapacity_50 : decode b_ASB_newCapacity 50 = .ok (.athrow, 1) := by decide +kernel
theorem d_ASB_newCapacity_51 : decode b_ASB_newCapacity 51 = .ok (.iload 5, 2) := by decide +kernel
theorem d_ASB_newCapacity_53 : decode b_ASB_newCapacity 53 = .ok (.aload_n 0, 1) := by decide +kernel
theorem d_ASB_newCapacity_54 : decode b_ASB_newCapacity 54 = .ok (.getfield 22, 3) := by decide +kernel
theorem d_ASB_newCapacity_57 : decode b_ASB_newCapacity 57 = .ok (.ishr, 1) := by decide +kernel
theorem d_ASB_newCapacity_58 : decode b_ASB_newCapacity 58 = .ok (.ireturn, 1) := by decide +kernel
theorem d_ASB_charAt_0 : decode b_ASB_charAt 0 = .ok (.aload_n 0, 1) := by decide +kernel
theorem d_ASB_charAt_1 : decode b_ASB_charAt 1 = .ok (.getfield 22, 3) := by decide +kernel
theorem d_ASB_charAt_4 : decode b_ASB_charAt 4 = .ok (.istore_n 2, 1) := by decide +kernel
theorem d_ASB_charAt_5 : decode b_ASB_charAt 5 = .ok (.aload_n 0, 1) := by decide +kernel
theorem d_ASB_charAt_6 : decode b_ASB_charAt 6 = .ok (.getfield 15, 3) := by decide +kernel
theorem d_ASB_charAt_9 : decode b_ASB_charAt 9 = .ok (.astore_n 3, 1) := by decide +kernel
theorem d_ASB_charAt_10 : decode b_ASB_charAt 10 = .ok (.aload_n 0, 1) := by decide +kernel
theorem d_ASB_charAt_11 : decode b_ASB_charAt 11 = .ok (.getfield 79, 3) := by decide +kernel
theorem d_ASB_charAt_14 : decode b_ASB_charAt 14 = .ok (.aload_n 3, 1) := by decide +kernel
theorem d_ASB_charAt_15 : decode b_ASB_charAt 15 = .ok (.arraylength, 1) := by decide +kernel
theorem d_ASB_charAt_16 : decode b_ASB_charAt 16 = .ok (.iload_n 2, 1) := by decide +kernel
theorem d_ASB_charAt_17 : decode b_ASB_charAt 17 = .ok (.ishr, 1) := by decide +kernel
theorem d_ASB_charAt_18 : decode b_ASB_charAt 18 = .ok (.invokestatic 138, 3) := by decide +kernel
theorem d_ASB_charAt_21 : decode b_ASB_charAt 21 = .ok (.istore 4, 2) := by decide +kernel
theorem d_ASB_charAt_23 : decode b_ASB_charAt 23 = .ok (.iload_n 1, 1) := by decide +kernel
theorem d_ASB_charAt_24 : decode b_ASB_charAt 24 = .ok (.iload 4, 2) := by decide +kernel
theorem d_ASB_charAt_26 : decode b_ASB_charAt 26 = .ok (.invokestatic 144, 3) := by decide +kernel
theorem d_ASB_charAt_29 : decode b_ASB_charAt 29 = .ok (.iload_n 2, 1) := by decide +kernel
theorem d_ASB_charAt_30 : decode b_ASB_charAt 30 = .ok (.ifCond .ne 12, 3) := by decide +kernel
theorem d_ASB_charAt_33 : decode b_ASB_charAt 33 = .ok (.aload_n 3, 1) := by decide +kernel
theorem d_ASB_charAt_34 : decode b_ASB_charAt 34 = .ok (.iload_n 1, 1) := by decide +kernel
theorem d_ASB_charAt_35 : decode b_ASB_charAt 35 = .ok (.baload, 1) := by decide +kernel
theorem d_ASB_charAt_36 : decode b_ASB_charAt 36 = .ok (.sipush 255, 3) := by decide +kernel
theorem d_ASB_charAt_39 : decode b_ASB_charAt 39 = .ok (.iand, 1) := by decide +kernel
theorem d_ASB_charAt_40 : decode b_ASB_charAt 40 = .ok (.i2c, 1) := by decide +kernel
theorem d_ASB_charAt_41 : decode b_ASB_charAt 41 = .ok (.ireturn, 1) := by decide +kernel
theorem d_ASB_charAt_42 : decode b_ASB_charAt 42 = .ok (.aload_n 3, 1) := by decide +kernel
theorem d_ASB_charAt_43 : decode b_ASB_charAt 43 = .ok (.iload_n 1, 1) := by decide +kernel
theorem d_ASB_charAt_44 : decode b_ASB_charAt 44 = .ok (.invokestatic 148, 3) := by decide +kernel
theorem d_ASB_charAt_47 : decode b_ASB_charAt 47 = .ok (.ireturn, 1) := by decide +kernel
theorem d_ASB_ensure_0 : decode b_ASB_ensure 0 = .ok (.aload_n 0, 1) := by decide +kernel
theorem d_ASB_ensure_1 : decode b_ASB_ensure 1 = .ok (.getfield 15, 3) := by decide +kernel
theorem d_ASB_ensure_4 : decode b_ASB_ensure 4 = .ok (.arraylength, 1) := by decide +kernel
theorem d_ASB_ensure_5 : decode b_ASB_ensure 5 = .ok (.aload_n 0, 1) := by decide +kernel
theorem d_ASB_ensure_6 : decode b_ASB_ensure 6 = .ok (.getfield 22, 3) := by decide +kernel
theorem d_ASB_ensure_9 : decode b_ASB_ensure 9 = .ok (.ishr, 1) := by decide +kernel
theorem d_ASB_ensure_10 : decode b_ASB_ensure 10 = .ok (.istore_n 2, 1) := by decide +kernel
theorem d_ASB_ensure_11 : decode b_ASB_ensure 11 = .ok (.iload_n 1, 1) := by decide +kernel
theorem d_ASB_ensure_12 : decode b_ASB_ensure 12 = .ok (.iload_n 2, 1) := by decide +kernel
theorem d_ASB_ensure_13 : decode b_ASB_ensure 13 = .ok (.isub, 1) := by decide +kernel
theorem d_ASB_ensure_14 : decode b_ASB_ensure 14 = .ok (.ifCond .le 24, 3) := by decide +kernel
theorem d_ASB_ensure_17 : decode b_ASB_ensure 17 = .ok (.aload_n 0, 1) := by decide +kernel
theorem d_ASB_ensure_18 : decode b_ASB_ensure 18 = .ok (.aload_n 0, 1) := by decide +kernel
theorem d_ASB_ensure_19 : decode b_ASB_ensure 19 = .ok (.getfield 15, 3) := by decide +kernel
theorem d_ASB_ensure_22 : decode b_ASB_ensure 22 = .ok (.aload_n 0, 1) := by decide +kernel
theorem d_ASB_ensure_23 : decode b_ASB_ensure 23 = .ok (.iload_n 1, 1) := by decide +kernel
theorem d_ASB_ensure_24 : decode b_ASB_ensure 24 = .ok (.invokevirtual 104, 3) := by decide +kernel
theorem d_ASB_ensure_27 : decode b_ASB_ensure 27 = .ok (.aload_n 0, 1) := by decide +kernel
theorem d_ASB_ensure_28 : decode b_ASB_ensure 28 = .ok (.getfield 22, 3) := by decide +kernel
theorem d_ASB_ensure_31 : decode b_ASB_ensure 31 = .ok (.ishl, 1) := by decide +kernel
theorem d_ASB_ensure_32 : decode b_ASB_ensure 32 = .ok (.invokestatic 108, 3) := by decide +kernel
theorem d_ASB_ensure_35 : decode b_ASB_ensure 35 = .ok (.putfield 15, 3) := by decide +kernel
theorem d_ASB_ensure_38 : decode b_ASB_ensure 38 = .ok (.return_, 1) := by decide +kernel
theorem d_ASB_append_c_0 : decode b_ASB_append_c 0 = .ok (.aload_n 0, 1) := by decide +kernel
theorem d_ASB_append_c_1 : decode b_ASB_append_c 1 = .ok (.aload_n 0, 1) := by decide +kernel
theorem d_ASB_append_c_2 : decode b_ASB_append_c 2 = .ok (.getfield 79, 3) := by decide +kernel
theorem d_ASB_append_c_5 : decode b_ASB_append_c 5 = .ok (.iconst 1, 1) := by decide +kernel
theorem d_ASB_append_c_6 : decode b_ASB_append_c 6 = .ok (.iadd, 1) := by decide +kernel
theorem d_ASB_append_c_7 : decode b_ASB_append_c 7 = .ok (.invokevirtual 100, 3) := by decide +kernel
theorem d_ASB_append_c_10 : decode b_ASB_append_c 10 = .ok (.aload_n 0, 1) := by decide +kernel
theorem d_ASB_append_c_11 : decode b_ASB_append_c 11 = .ok (.invokevirtual 83, 3) := by decide +kernel
theorem d_ASB_append_c_14 : decode b_ASB_append_c 14 = .ok (.ifCond .eq 31, 3) := by decide +kernel
theorem d_ASB_append_c_17 : decode b_ASB_append_c 17 = .ok (.iload_n 1, 1) := by decide +kernel
theorem d_ASB_append_c_18 : decode b_ASB_append_c 18 = .ok (.invokestatic 191, 3) := by decide +kernel
theorem d_ASB_append_c_21 : decode b_ASB_append_c 21 = .ok (.ifCond .eq 24, 3) := by decide +kernel
theorem d_ASB_append_c_24 : decode b_ASB_append_c 24 = .ok (.aload_n 0, 1) := by decide +kernel
theorem d_ASB_append_c_25 : decode b_ASB_append_c 25 = .ok (.getfield 15, 3) := by decide +kernel
theorem d_ASB_append_c_28 : decode b_ASB_append_c 28 = .ok (.aload_n 0, 1) := by decide +kernel
theorem d_ASB_append_c_29 : decode b_ASB_append_c 29 = .ok (.dup, 1) := by decide +kernel
theorem d_ASB_append_c_30 : decode b_ASB_append_c 30 = .ok (.getfield 79, 3) := by decide +kernel
theorem d_ASB_append_c_33 : decode b_ASB_append_c 33 = .ok (.dup_x1, 1) := by decide +kernel
theorem d_ASB_append_c_34 : decode b_ASB_append_c 34 = .ok (.iconst 1, 1) := by decide +kernel
theorem d_ASB_append_c_35 : decode b_ASB_append_c 35 = .ok (.iadd, 1) := by decide +kernel
theorem d_ASB_append_c_36 : decode b_ASB_append_c 36 = .ok (.putfield 79, 3) := by decide +kernel
theorem d_ASB_append_c_39 : decode b_ASB_append_c 39 = .ok (.iload_n 1, 1) := by decide +kernel
theorem d_ASB_append_c_40 : decode b_ASB_append_c 40 = .ok (.i2b, 1) := by decide +kernel
theorem d_ASB_append_c_41 : decode b_ASB_append_c 41 = .ok (.bastore, 1) := by decide +kernel
theorem d_ASB_append_c_42 : decode b_ASB_append_c 42 = .ok (.goto 33, 3) := by decide +kernel
theorem d_ASB_append_c_45 : decode b_ASB_append_c 45 = .ok (.aload_n 0, 1) := by decide +kernel
theorem d_ASB_append_c_46 : decode b_ASB_append_c 46 = .ok (.invokevirtual 83, 3) := by decide +kernel
theorem d_ASB_append_c_49 : decode b_ASB_append_c 49 = .ok (.ifCond .eq 7, 3) := by decide +kernel
theorem d_ASB_append_c_52 : decode b_ASB_append_c 52 = .ok (.aload_n 0, 1) := by decide +kernel
theorem d_ASB_append_c_53 : decode b_ASB_append_c 53 = .ok (.invokevirtual 195, 3) := by decide +kernel
theorem d_ASB_append_c_56 : decode b_ASB_append_c 56 = .ok (.aload_n 0, 1) := by decide +kernel
theorem d_ASB_append_c_57 : decode b_ASB_append_c 57 = .ok (.getfield 15, 3) := by decide +kernel
theorem d_ASB_append_c_60 : decode b_ASB_append_c 60 = .ok (.aload_n 0, 1) := by decide +kernel
theorem d_ASB_append_c_61 : decode b_ASB_append_c 61 = .ok (.dup, 1) := by decide +kernel
theorem d_ASB_append_c_62 : decode b_ASB_append_c 62 = .ok (.getfield 79, 3) := by decide +kernel
theorem d_ASB_append_c_65 : decode b_ASB_append_c 65 = .ok (.dup_x1, 1) := by decide +kernel
theorem d_ASB_append_c_66 : decode b_ASB_append_c 66 = .ok (.iconst 1, 1) := by decide +kernel
theorem d_ASB_append_c_67 : decode b_ASB_append_c 67 = .ok (.iadd, 1) := by decide +kernel
theorem d_ASB_append_c_68 : decode b_ASB_append_c 68 = .ok (.putfield 79, 3) := by decide +kernel
theorem d_ASB_append_c_71 : decode b_ASB_append_c 71 = .ok (.iload_n 1, 1) := by decide +kernel
theorem d_ASB_append_c_72 : decode b_ASB_append_c 72 = .ok (.invokestatic 197, 3) := by decide +kernel
theorem d_ASB_append_c_75 : decode b_ASB_append_c 75 = .ok (.aload_n 0, 1) := by decide +kernel
theorem d_ASB_append_c_76 : decode b_ASB_append_c 76 = .ok (.areturn, 1) := by decide +kernel
theorem d_ASB_append_i_0 : decode b_ASB_append_i 0 = .ok (.aload_n 0, 1) := by decide +kernel
theorem d_ASB_append_i_1 : decode b_ASB_append_i 1 = .ok (.getfield 79, 3) := by decide +kernel
theorem d_ASB_append_i_4 : decode b_ASB_append_i 4 = .ok (.istore_n 2, 1) := by decide +kernel
theorem d_ASB_append_i_5 : decode b_ASB_append_i 5 = .ok (.iload_n 2, 1) := by decide +kernel
theorem d_ASB_append_i_6 : decode b_ASB_append_i 6 = .ok (.iload_n 1, 1) := by decide +kernel
theorem d_ASB_append_i_7 : decode b_ASB_append_i 7 = .ok (.invokestatic 245, 3) := by decide +kernel
theorem d_ASB_append_i_10 : decode b_ASB_append_i 10 = .ok (.iadd, 1) := by decide +kernel
theorem d_ASB_append_i_11 : decode b_ASB_append_i 11 = .ok (.istore_n 3, 1) := by decide +kernel
theorem d_ASB_append_i_12 : decode b_ASB_append_i 12 = .ok (.aload_n 0, 1) := by decide +kernel
theorem d_ASB_append_i_13 : decode b_ASB_append_i 13 = .ok (.iload_n 3, 1) := by decide +kernel
theorem d_ASB_append_i_14 : decode b_ASB_append_i 14 = .ok (.invokevirtual 100, 3) := by decide +kernel
theorem d_ASB_append_i_17 : decode b_ASB_append_i 17 = .ok (.aload_n 0, 1) := by decide +kernel
theorem d_ASB_append_i_18 : decode b_ASB_append_i 18 = .ok (.invokevirtual 83, 3) := by decide +kernel
theorem d_ASB_append_i_21 : decode b_ASB_append_i 21 = .ok (.ifCond .eq 16, 3) := by decide +kernel
theorem d_ASB_append_i_24 : decode b_ASB_append_i 24 = .ok (.iload_n 1, 1) := by decide +kernel
theorem d_ASB_append_i_25 : decode b_ASB_append_i 25 = .ok (.iload_n 3, 1) := by decide +kernel
theorem d_ASB_append_i_26 : decode b_ASB_append_i 26 = .ok (.aload_n 0, 1) := by decide +kernel
theorem d_ASB_append_i_27 : decode b_ASB_append_i 27 = .ok (.getfield 15, 3) := by decide +kernel
theorem d_ASB_append_i_30 : decode b_ASB_append_i 30 = .ok (.invokestatic 248, 3) := by decide +kernel
theorem d_ASB_append_i_33 : decode b_ASB_append_i 33 = .ok (.pop, 1) := by decide +kernel
theorem d_ASB_append_i_34 : decode b_ASB_append_i 34 = .ok (.goto 14, 3) := by decide +kernel
theorem d_ASB_append_i_37 : decode b_ASB_append_i 37 = .ok (.iload_n 1, 1) := by decide +kernel
theorem d_ASB_append_i_38 : decode b_ASB_append_i 38 = .ok (.iload_n 2, 1) := by decide +kernel
theorem d_ASB_append_i_39 : decode b_ASB_append_i 39 = .ok (.iload_n 3, 1) := by decide +kernel
theorem d_ASB_append_i_40 : decode b_ASB_append_i 40 = .ok (.aload_n 0, 1) := by decide +kernel
theorem d_ASB_append_i_41 : decode b_ASB_append_i 41 = .ok (.getfield 15, 3) := by decide +kernel
theorem d_ASB_append_i_44 : decode b_ASB_append_i 44 = .ok (.invokestatic 251, 3) := by decide +kernel
theorem d_ASB_append_i_47 : decode b_ASB_append_i 47 = .ok (.pop, 1) := by decide +kernel
theorem d_ASB_append_i_48 : decode b_ASB_append_i 48 = .ok (.aload_n 0, 1) := by decide +kernel
theorem d_ASB_append_i_49 : decode b_ASB_append_i 49 = .ok (.iload_n 3, 1) := by decide +kernel
theorem d_ASB_append_i_50 : decode b_ASB_append_i 50 = .ok (.putfield 79, 3) := by decide +kernel
theorem d_ASB_append_i_53 : decode b_ASB_append_i 53 = .ok (.aload_n 0, 1) := by decide +kernel
theorem d_ASB_append_i_54 : decode b_ASB_append_i 54 = .ok (.areturn, 1) := by decide +kernel
theorem d_String_getBytes_0 : decode b_String_getBytes 0 = .ok (.aload_n 0, 1) := by decide +kernel
theorem d_String_getBytes_1 : decode b_String_getBytes 1 = .ok (.invokevirtual 335, 3) := by decide +kernel
theorem d_String_getBytes_4 : decode b_String_getBytes 4 = .ok (.iload_n 3, 1) := by decide +kernel
theorem d_String_getBytes_5 : decode b_String_getBytes 5 = .ok (.if_icmp .ne 23, 3) := by decide +kernel
theorem d_String_getBytes_8 : decode b_String_getBytes 8 = .ok (.aload_n 0, 1) := by decide +kernel
theorem d_String_getBytes_9 : decode b_String_getBytes 9 = .ok (.getfield 9, 3) := by decide +kernel
theorem d_String_getBytes_12 : decode b_String_getBytes 12 = .ok (.iconst 0, 1) := by decide +kernel
theorem d_String_getBytes_13 : decode b_String_getBytes 13 = .ok (.aload_n 1, 1) := by decide +kernel
theorem d_String_getBytes_14 : decode b_String_getBytes 14 = .ok (.iload_n 2, 1) := by decide +kernel
theorem d_String_getBytes_15 : decode b_String_getBytes 15 = .ok (.iload_n 3, 1) := by decide +kernel
theorem d_String_getBytes_16 : decode b_String_getBytes 16 = .ok (.ishl, 1) := by decide +kernel
theorem d_String_getBytes_17 : decode b_String_getBytes 17 = .ok (.aload_n 0, 1) := by decide +kernel
theorem d_String_getBytes_18 : decode b_String_getBytes 18 = .ok (.getfield 9, 3) := by decide +kernel
theorem d_String_getBytes_21 : decode b_String_getBytes 21 = .ok (.arraylength, 1) := by decide +kernel
theorem d_String_getBytes_22 : decode b_String_getBytes 22 = .ok (.invokestatic 212, 3) := by decide +kernel
theorem d_String_getBytes_25 : decode b_String_getBytes 25 = .ok (.goto 18, 3) := by decide +kernel
theorem d_String_getBytes_28 : decode b_String_getBytes 28 = .ok (.aload_n 0, 1) := by decide +kernel
theorem d_String_getBytes_29 : decode b_String_getBytes 29 = .ok (.getfield 9, 3) := by decide +kernel
theorem d_String_getBytes_32 : decode b_String_getBytes 32 = .ok (.iconst 0, 1) := by decide +kernel
theorem d_String_getBytes_33 : decode b_String_getBytes 33 = .ok (.aload_n 1, 1) := by decide +kernel
theorem d_String_getBytes_34 : decode b_String_getBytes 34 = .ok (.iload_n 2, 1) := by decide +kernel
theorem d_String_getBytes_35 : decode b_String_getBytes 35 = .ok (.aload_n 0, 1) := by decide +kernel
theorem d_String_getBytes_36 : decode b_String_getBytes 36 = .ok (.getfield 9, 3) := by decide +kernel
theorem d_String_getBytes_39 : decode b_String_getBytes 39 = .ok (.arraylength, 1) := by decide +kernel
theorem d_String_getBytes_40 : decode b_String_getBytes 40 = .ok (.invokestatic 106, 3) := by decide +kernel
theorem d_String_getBytes_43 : decode b_String_getBytes 43 = .ok (.return_, 1) := by decide +kernel
theorem d_ASB_inflateIf_0 : decode b_ASB_inflateIf 0 = .ok (.getstatic 18, 3) := by decide +kernel
theorem d_ASB_inflateIf_3 : decode b_ASB_inflateIf 3 = .ok (.ifCond .eq 18, 3) := by decide +kernel
theorem d_ASB_inflateIf_6 : decode b_ASB_inflateIf 6 = .ok (.aload_n 0, 1) := by decide +kernel
theorem d_ASB_inflateIf_7 : decode b_ASB_inflateIf 7 = .ok (.getfield 22, 3) := by decide +kernel
theorem d_ASB_inflateIf_10 : decode b_ASB_inflateIf 10 = .ok (.aload_n 1, 1) := by decide +kernel
theorem d_ASB_inflateIf_11 : decode b_ASB_inflateIf 11 = .ok (.invokevirtual 40, 3) := by decide +kernel
theorem d_ASB_inflateIf_14 : decode b_ASB_inflateIf 14 = .ok (.if_icmp .eq 7, 3) := by decide +kernel
theorem d_ASB_inflateIf_17 : decode b_ASB_inflateIf 17 = .ok (.aload_n 0, 1) := by decide +kernel
theorem d_ASB_inflateIf_18 : decode b_ASB_inflateIf 18 = .ok (.invokevirtual 195, 3) := by decide +kernel
theorem d_ASB_inflateIf_21 : decode b_ASB_inflateIf 21 = .ok (.return_, 1) := by decide +kernel
theorem d_ASB_putStringAt_0 : decode b_ASB_putStringAt 0 = .ok (.aload_n 0, 1) := by decide +kernel
theorem d_ASB_putStringAt_1 : decode b_ASB_putStringAt 1 = .ok (.aload_n 2, 1) := by decide +kernel
theorem d_ASB_putStringAt_2 : decode b_ASB_putStringAt 2 = .ok (.invokevirtual 397, 3) := by decide +kernel
theorem d_ASB_putStringAt_5 : decode b_ASB_putStringAt 5 = .ok (.aload_n 2, 1) := by decide +kernel
theorem d_ASB_putStringAt_6 : decode b_ASB_putStringAt 6 = .ok (.aload_n 0, 1) := by decide +kernel
theorem d_ASB_putStringAt_7 : decode b_ASB_putStringAt 7 = .ok (.getfield 15, 3) := by decide +kernel
theorem d_ASB_putStringAt_10 : decode b_ASB_putStringAt 10 = .ok (.iload_n 1, 1) := by decide +kernel
theorem d_ASB_putStringAt_11 : decode b_ASB_putStringAt 11 = .ok (.aload_n 0, 1) := by decide +kernel
theorem d_ASB_putStringAt_12 : decode b_ASB_putStringAt 12 = .ok (.getfield 22, 3) := by decide +kernel
theorem d_ASB_putStringAt_15 : decode b_ASB_putStringAt 15 = .ok (.invokevirtual 399, 3) := by decide +kernel
theorem d_ASB_putStringAt_18 : decode b_ASB_putStringAt 18 = .ok (.return_, 1) := by decide +kernel
theorem d_ASB_append_s_0 : decode b_ASB_append_s 0 = .ok (.aload_n 1, 1) := by decide +kernel
theorem d_ASB_append_s_1 : decode b_ASB_append_s 1 = .ok (.ifnonnull 8, 3) := by decide +kernel
theorem d_ASB_append_s_4 : decode b_ASB_append_s 4 = .ok (.aload_n 0, 1) := by decide +kernel
theorem d_ASB_append_s_5 : decode b_ASB_append_s 5 = .ok (.invokevirtual 204, 3) := by decide +kernel
theorem d_ASB_append_s_8 : decode b_ASB_append_s 8 = .ok (.areturn, 1) := by decide +kernel
theorem d_ASB_append_s_9 : decode b_ASB_append_s 9 = .ok (.aload_n 1, 1) := by decide +kernel
theorem d_ASB_append_s_10 : decode b_ASB_append_s 10 = .ok (.invokevirtual 32, 3) := by decide +kernel
theorem d_ASB_append_s_13 : decode b_ASB_append_s 13 = .ok (.istore_n 2, 1) := by decide +kernel
theorem d_ASB_append_s_14 : decode b_ASB_append_s 14 = .ok (.aload_n 0, 1) := by decide +kernel
theorem d_ASB_append_s_15 : decode b_ASB_append_s 15 = .ok (.aload_n 0, 1) := by decide +kernel
theorem d_ASB_append_s_16 : decode b_ASB_append_s 16 = .ok (.getfield 79, 3) := by decide +kernel
theorem d_ASB_append_s_19 : decode b_ASB_append_s 19 = .ok (.iload_n 2, 1) := by decide +kernel
theorem d_ASB_append_s_20 : decode b_ASB_append_s 20 = .ok (.iadd, 1) := by decide +kernel
theorem d_ASB_append_s_21 : decode b_ASB_append_s 21 = .ok (.invokevirtual 100, 3) := by decide +kernel
theorem d_ASB_append_s_24 : decode b_ASB_append_s 24 = .ok (.aload_n 0, 1) := by decide +kernel
theorem d_ASB_append_s_25 : decode b_ASB_append_s 25 = .ok (.aload_n 0, 1) := by decide +kernel
theorem d_ASB_append_s_26 : decode b_ASB_append_s 26 = .ok (.getfield 79, 3) := by decide +kernel
theorem d_ASB_append_s_29 : decode b_ASB_append_s 29 = .ok (.aload_n 1, 1) := by decide +kernel
theorem d_ASB_append_s_30 : decode b_ASB_append_s 30 = .ok (.invokevirtual 208, 3) := by decide +kernel
theorem d_ASB_append_s_33 : decode b_ASB_append_s 33 = .ok (.aload_n 0, 1) := by decide +kernel
theorem d_ASB_append_s_34 : decode b_ASB_append_s 34 = .ok (.dup, 1) := by decide +kernel
theorem d_ASB_append_s_35 : decode b_ASB_append_s 35 = .ok (.getfield 79, 3) := by decide +kernel
theorem d_ASB_append_s_38 : decode b_ASB_append_s 38 = .ok (.iload_n 2, 1) := by decide +kernel
theorem d_ASB_append_s_39 : decode b_ASB_append_s 39 = .ok (.iadd, 1) := by decide +kernel
theorem d_ASB_append_s_40 : decode b_ASB_append_s 40 = .ok (.putfield 79, 3) := by decide +kernel
theorem d_ASB_append_s_43 : decode b_ASB_append_s 43 = .ok (.aload_n 0, 1) := by decide +kernel
theorem d_ASB_append_s_44 : decode b_ASB_append_s 44 = .ok (.areturn, 1) := by decide +kernel
theorem d_ASB_setLength_0 : decode b_ASB_setLength 0 = .ok (.iload_n 1, 1) := by decide +kernel
theorem d_ASB_setLength_1 : decode b_ASB_setLength 1 = .ok (.ifCond .ge 12, 3) := by decide +kernel
theorem d_ASB_setLength_4 : decode b_ASB_setLength 4 = .ok (.new 129, 3) := by decide +kernel
theorem d_ASB_setLength_7 : decode b_ASB_setLength 7 = .ok (.dup, 1) := by decide +kernel
theorem d_ASB_setLength_8 : decode b_ASB_setLength 8 = .ok (.iload_n 1, 1) := by decide +kernel
theorem d_ASB_setLength_9 : decode b_ASB_setLength 9 = .ok (.invokespecial 131, 3) := by decide +kernel
theorem d_ASB_setLength_12 : decode b_ASB_setLength 12 = .ok (.athrow, 1) := by decide +kernel
theorem d_ASB_setLength_13 : decode b_ASB_setLength 13 = .ok (.aload_n 0, 1) := by decide +kernel
theorem d_ASB_setLength_14 : decode b_ASB_setLength 14 = .ok (.iload_n 1, 1) := by decide +kernel
theorem d_ASB_setLength_15 : decode b_ASB_setLength 15 = .ok (.invokevirtual 100, 3) := by decide +kernel
theorem d_ASB_setLength_18 : decode b_ASB_setLength 18 = .ok (.aload_n 0, 1) := by decide +kernel
theorem d_ASB_setLength_19 : decode b_ASB_setLength 19 = .ok (.getfield 79, 3) := by decide +kernel
theorem d_ASB_setLength_22 : decode b_ASB_setLength 22 = .ok (.iload_n 1, 1) := by decide +kernel
theorem d_ASB_setLength_23 : decode b_ASB_setLength 23 = .ok (.if_icmp .ge 40, 3) := by decide +kernel
theorem d_ASB_setLength_26 : decode b_ASB_setLength 26 = .ok (.aload_n 0, 1) := by decide +kernel
theorem d_ASB_setLength_27 : decode b_ASB_setLength 27 = .ok (.invokevirtual 83, 3) := by decide +kernel
theorem d_ASB_setLength_30 : decode b_ASB_setLength 30 = .ok (.ifCond .eq 18, 3) := by decide +kernel
theorem d_ASB_setLength_33 : decode b_ASB_setLength 33 = .ok (.aload_n 0, 1) := by decide +kernel
theorem d_ASB_setLength_34 : decode b_ASB_setLength 34 = .ok (.getfield 15, 3) := by decide +kernel
theorem d_ASB_setLength_37 : decode b_ASB_setLength 37 = .ok (.aload_n 0, 1) := by decide +kernel
theorem d_ASB_setLength_38 : decode b_ASB_setLength 38 = .ok (.getfield 79, 3) := by decide +kernel
theorem d_ASB_setLength_41 : decode b_ASB_setLength 41 = .ok (.iload_n 1, 1) := by decide +kernel
theorem d_ASB_setLength_42 : decode b_ASB_setLength 42 = .ok (.invokestatic 133, 3) := by decide +kernel
theorem d_ASB_setLength_45 : decode b_ASB_setLength 45 = .ok (.goto 31, 3) := by decide +kernel
theorem d_ASB_setLength_48 : decode b_ASB_setLength 48 = .ok (.aload_n 0, 1) := by decide +kernel
theorem d_ASB_setLength_49 : decode b_ASB_setLength 49 = .ok (.getfield 15, 3) := by decide +kernel
theorem d_ASB_setLength_52 : decode b_ASB_setLength 52 = .ok (.aload_n 0, 1) := by decide +kernel
theorem d_ASB_setLength_53 : decode b_ASB_setLength 53 = .ok (.getfield 79, 3) := by decide +kernel
theorem d_ASB_setLength_56 : decode b_ASB_setLength 56 = .ok (.iload_n 1, 1) := by decide +kernel
theorem d_ASB_setLength_57 : decode b_ASB_setLength 57 = .ok (.invokestatic 137, 3) := by decide +kernel
theorem d_ASB_setLength_60 : decode b_ASB_setLength 60 = .ok (.goto 16, 3) := by decide +kernel
theorem d_ASB_setLength_63 : decode b_ASB_setLength 63 = .ok (.aload_n 0, 1) := by decide +kernel
theorem d_ASB_setLength_64 : decode b_ASB_setLength 64 = .ok (.getfield 79, 3) := by decide +kernel
theorem d_ASB_setLength_67 : decode b_ASB_setLength 67 = .ok (.iload_n 1, 1) := by decide +kernel
theorem d_ASB_setLength_68 : decode b_ASB_setLength 68 = .ok (.if_icmp .le 8, 3) := by decide +kernel
theorem d_ASB_setLength_71 : decode b_ASB_setLength 71 = .ok (.aload_n 0, 1) := by decide +kernel
theorem d_ASB_setLength_72 : decode b_ASB_setLength 72 = .ok (.iconst 1, 1) := by decide +kernel
theorem d_ASB_setLength_73 : decode b_ASB_setLength 73 = .ok (.putfield 73, 3) := by decide +kernel
theorem d_ASB_setLength_76 : decode b_ASB_setLength 76 = .ok (.aload_n 0, 1) := by decide +kernel
theorem d_ASB_setLength_77 : decode b_ASB_setLength 77 = .ok (.iload_n 1, 1) := by decide +kernel
theorem d_ASB_setLength_78 : decode b_ASB_setLength 78 = .ok (.putfield 79, 3) := by decide +kernel
theorem d_ASB_setLength_81 : decode b_ASB_setLength 81 = .ok (.return_, 1) := by decide +kernel
theorem d_SB_length_0 : decode b_SB_length 0 = .ok (.aload_n 0, 1) := by decide +kernel
theorem d_SB_length_1 : decode b_SB_length 1 = .ok (.invokespecial 343, 3) := by decide +kernel
theorem d_SB_length_4 : decode b_SB_length 4 = .ok (.ireturn, 1) := by decide +kernel
theorem d_SB_charAt_0 : decode b_SB_charAt 0 = .ok (.aload_n 0, 1) := by decide +kernel
theorem d_SB_charAt_1 : decode b_SB_charAt 1 = .ok (.iload_n 1, 1) := by decide +kernel
theorem d_SB_charAt_2 : decode b_SB_charAt 2 = .ok (.invokespecial 329, 3) := by decide +kernel
theorem d_SB_charAt_5 : decode b_SB_charAt 5 = .ok (.ireturn, 1) := by decide +kernel
theorem d_SB_append_c_0 : decode b_SB_append_c 0 = .ok (.aload_n 0, 1) := by decide +kernel
theorem d_SB_append_c_1 : decode b_SB_append_c 1 = .ok (.iload_n 1, 1) := by decide +kernel
theorem d_SB_append_c_2 : decode b_SB_append_c 2 = .ok (.invokespecial 50, 3) := by decide +kernel
theorem d_SB_append_c_5 : decode b_SB_append_c 5 = .ok (.pop, 1) := by decide +kernel
theorem d_SB_append_c_6 : decode b_SB_append_c 6 = .ok (.aload_n 0, 1) := by decide +kernel
theorem d_SB_append_c_7 : decode b_SB_append_c 7 = .ok (.areturn, 1) := by decide +kernel
theorem d_SB_append_i_0 : decode b_SB_append_i 0 = .ok (.aload_n 0, 1) := by decide +kernel
theorem d_SB_append_i_1 : decode b_SB_append_i 1 = .ok (.iload_n 1, 1) := by decide +kernel
theorem d_SB_append_i_2 : decode b_SB_append_i 2 = .ok (.invokespecial 53, 3) := by decide +kernel
theorem d_SB_append_i_5 : decode b_SB_append_i 5 = .ok (.pop, 1) := by decide +kernel
theorem d_SB_append_i_6 : decode b_SB_append_i 6 = .ok (.aload_n 0, 1) := by decide +kernel
theorem d_SB_append_i_7 : decode b_SB_append_i 7 = .ok (.areturn, 1) := by decide +kernel
theorem d_SB_append_s_0 : decode b_SB_append_s 0 = .ok (.aload_n 0, 1) := by decide +kernel
theorem d_SB_append_s_1 : decode b_SB_append_s 1 = .ok (.aload_n 1, 1) := by decide +kernel
theorem d_SB_append_s_2 : decode b_SB_append_s 2 = .ok (.invokespecial 29, 3) := by decide +kernel
theorem d_SB_append_s_5 : decode b_SB_append_s 5 = .ok (.pop, 1) := by decide +kernel
theorem d_SB_append_s_6 : decode b_SB_append_s 6 = .ok (.aload_n 0, 1) := by decide +kernel
theorem d_SB_append_s_7 : decode b_SB_append_s 7 = .ok (.areturn, 1) := by decide +kernel
theorem d_SB_setLength_0 : decode b_SB_setLength 0 = .ok (.aload_n 0, 1) := by decide +kernel
theorem d_SB_setLength_1 : decode b_SB_setLength 1 = .ok (.iload_n 1, 1) := by decide +kernel
theorem d_SB_setLength_2 : decode b_SB_setLength 2 = .ok (.invokespecial 333, 3) := by decide +kernel
theorem d_SB_setLength_5 : decode b_SB_setLength 5 = .ok (.return_, 1) := by decide +kernel
set_option maxHeartbeats 4000000 in
set_option maxRecDepth 100000 in
theorem c_Integer_stringSize (l : Launch) (dC : Nat → ClassId) (dI : Nat → Nat → Nat)   (sz : Nat)   (x0 : Int32) (post : Int32 → Prop) (hw : wp_Integer_stringSize  x0 post) : Met l y_Integer_stringSize (ws_ y_Integer_stringSize b_Integer_stringSize 4 (some .int)) { frames := 0, cells := 0, slots := 0, locals := 0 } (va_Pc [.int x0] (PRE (dC, dI) vwCl [] [] sz (va_A [] sz))) (va_Qi (fun (r : Int32) (u : Unit) => post r ) (fun (u : Unit) (t : State) => va_P (dC, dI) vwCl [] t.heap ∧ va_K (dC, dI) vwCl [] t ∧ va_D (va_A [] sz) []) (va_A [] sz)) 0 0 (va_A [] sz) := by
  refine Met.ofW (cc := b_Integer_stringSize) (maxL := 4) (ret := (some .int)) (by decide) rfl ?_
  intro p e s m args below meth c s₁ B hml hv
  obtain ⟨rfl, hsz, hP, hK, hD0, hG⟩ := hv
  have hx := B.exec
  have hb := B.bytes
  have hr := B.returns
  have hts : ∀ w ∈ tb, w.before _ s = true := fun w h => atoms_spec (ws := ws_ _ _ _ _) B.pre w (List.mem_cons_of_mem _ h)
  have hown : s.vm.findClass R_Integer = some m.cls := findClass_of_methodNamed B.named
  have hlocks := B.notSynchronized
  subst hsz
  have hD := hD0.self (sz := s.heap.size)
  generalize hAe : va_A [] s.heap.size = A at hD hG ⊢
  have hA : ∀ q : Nat, s.heap.size ≤ q → A q := fun q h => by rw [← hAe]; exact Or.inr h
  have hS : va_S A s.heap s.heap [] := va_S.rf
  have hP : va_P (dC, dI) vwCl [] s.heap := hP
  have hl := lv_entry [.int x0] (n := 4) (Nat.le_of_ble_eq_true rfl)
  rw [lg_entry_eq]
  generalize (lg_sl [.int x0] ++ List.replicate (4 - (lg_sl [.int x0]).length) Slot.unset).toArray = ls at hl ⊢
  have hl : lv_has ls 4 [(0, .int x0)] := hl
  obtain ⟨Q, hQ⟩ : ∃ Q : State → Prop, Q = MQ below (va_Qi (fun (r : Int32) (u : Unit) => post r ) (fun (u : Unit) (t : State) => va_P (dC, dI) vwCl [] t.heap ∧ va_K (dC, dI) vwCl [] t ∧ va_D A []) A) ([.int x0] : List Value).toArray s 0 0 A := ⟨_, rfl⟩
  rw [← hQ]
  unfold wp_Integer_stringSize at hw
  have J11 : ∀ (v0 : Int32) (v1 : Int32) (H : Heap) (locs : List Loc) (ls : Array Slot), lv_has ls 4 [(0, .int v0), (1, .int v1)] → va_P (dC, dI) vwCl [] H → va_D A [] → va_S A s.heap H locs → wp_Integer_stringSize_J11 post v0 v1 → W p l e (headSpec (ws_ y_Integer_stringSize b_Integer_stringSize 4 (some .int)) { frames := 0, cells := 0, slots := 0, locals := 0 }).room s m ([.int x0] : List Value).toArray below meth c H locs 0 0 Q (F0 m 11 ls []) := by
    intro v0 v1 H locs ls hl hP hD hS hw
    unfold wp_Integer_stringSize_J11 at hw
    refine lv_bipush (v := (-10)) hx hb d_Integer_stringSize_11 (by decide) ?_
    refine lv_istore_n (lv' := [(2, .int (-10 : Int32)), (0, .int v0), (1, .int v1)]) hx hb d_Integer_stringSize_13 rfl hl (by decide) rfl (fun ls hl => ?_)
    refine lv_iconst (v := 1) hx hb d_Integer_stringSize_14 (by decide) ?_
    refine lv_istore_n (lv' := [(3, .int (1 : Int32)), (2, .int (-10 : Int32)), (0, .int v0), (1, .int v1)]) hx hb d_Integer_stringSize_15 rfl hl (by decide) rfl (fun ls hl => ?_)
    have L16 : ∀ fu16 : Nat, ∀ (v0 : Int32) (v1 : Int32) (v2 : Int32) (v3 : Int32) (H : Heap) (locs : List Loc) (ls : Array Slot), lv_has ls 4 [(0, .int v0), (1, .int v1), (2, .int v2), (3, .int v3)] → va_P (dC, dI) vwCl [] H → va_D A [] → va_S A s.heap H locs → wp_Integer_stringSize_L16 post fu16 v0 v1 v2 v3 → W p l e (headSpec (ws_ y_Integer_stringSize b_Integer_stringSize 4 (some .int)) { frames := 0, cells := 0, slots := 0, locals := 0 }).room s m ([.int x0] : List Value).toArray below meth c H locs 0 0 Q (F0 m 16 ls []) := by
      intro fu16
      induction fu16 with
      | zero => intro v0 v1 v2 v3 H locs ls hl hP hD hS hw; exact False.elim hw
      | succ fu16 ih16 =>
          intro v0 v1 v2 v3 H locs ls hl hP hD hS hw
          unfold wp_Integer_stringSize_L16 at hw
          refine lv_iload_n hx hb d_Integer_stringSize_16 rfl (lv_at hl 3 rfl) ?_
          refine lv_bipush (v := 10) hx hb d_Integer_stringSize_17 (by decide) ?_
          refine lv_icmp_ge (tgt := 42) hx hb d_Integer_stringSize_19 (by decide) (fun c_1 => ?_) (fun c_1 => ?_)
          · have hw := hw.1 c_1
            refine lv_bipush (v := 10) hx hb d_Integer_stringSize_42 (by decide) ?_
            refine lv_iload_n hx hb d_Integer_stringSize_44 rfl (lv_at hl 1 rfl) ?_
            refine lv_iadd hx hb d_Integer_stringSize_45 ?_
            have hP9 : va_P (dC, dI) vwCl [] _ := hP
            have hD9 : va_D A [] := hD
            rw [hQ]
            exact W.iret (v := (10 : Int32) + v1) hx hb hr (fun t ht hW => ⟨⟨(10 : Int32) + v1, (), rfl, hw, by rw [ht]; exact hP9, va_K.moved hW.alike hK, hD9⟩, hS.F ht⟩) hS.2.2 d_Integer_stringSize_46
          · have hw := hw.2 c_1
            refine lv_iload_n hx hb d_Integer_stringSize_22 rfl (lv_at hl 0 rfl) ?_
            refine lv_iload_n hx hb d_Integer_stringSize_23 rfl (lv_at hl 2 rfl) ?_
            refine lv_icmp_le (tgt := 31) hx hb d_Integer_stringSize_24 (by decide) (fun c_2 => ?_) (fun c_2 => ?_)
            · have hw := hw.1 c_2
              refine lv_bipush (v := 10) hx hb d_Integer_stringSize_31 (by decide) ?_
              refine lv_iload_n hx hb d_Integer_stringSize_33 rfl (lv_at hl 2 rfl) ?_
              refine lv_imul hx hb d_Integer_stringSize_34 ?_
              refine lv_istore_n (lv' := [(2, .int ((10 : Int32) * v2)), (0, .int v0), (1, .int v1), (3, .int v3)]) hx hb d_Integer_stringSize_35 rfl hl (by decide) rfl (fun ls hl => ?_)
              refine lv_iinc (v := v3 + (1 : Int32)) (lv' := [(3, .int (v3 + (1 : Int32))), (2, .int ((10 : Int32) * v2)), (0, .int v0), (1, .int v1)]) hx hb d_Integer_stringSize_36 hl (k := 3) rfl rfl (by decide) rfl (fun ls hl => ?_)
              refine lv_goto (tgt := 16) hx hb d_Integer_stringSize_39 (by decide) ?_
              exact ih16 v0 v1 ((10 : Int32) * v2) (v3 + (1 : Int32)) _ _ ls (lv_sub hl [2, 3, 1, 0] rfl) hP hD hS hw
            · have hw := hw.2 c_2
              refine lv_iload_n hx hb d_Integer_stringSize_27 rfl (lv_at hl 3 rfl) ?_
              refine lv_iload_n hx hb d_Integer_stringSize_28 rfl (lv_at hl 1 rfl) ?_
              refine lv_iadd hx hb d_Integer_stringSize_29 ?_
              have hP9 : va_P (dC, dI) vwCl [] _ := hP
              have hD9 : va_D A [] := hD
              rw [hQ]
              exact W.iret (v := v3 + v1) hx hb hr (fun t ht hW => ⟨⟨v3 + v1, (), rfl, hw, by rw [ht]; exact hP9, va_K.moved hW.alike hK, hD9⟩, hS.F ht⟩) hS.2.2 d_Integer_stringSize_30
    obtain ⟨fu16, hw⟩ := hw
    exact L16   fu16 v0 v1 (-10 : Int32) (1 : Int32) _ _ ls (lv_sub hl [2, 3, 1, 0] rfl) hP hD hS hw
  refine lv_iconst (v := 1) hx hb d_Integer_stringSize_0 (by decide) ?_
  refine lv_istore_n (lv' := [(1, .int (1 : Int32)), (0, .int x0)]) hx hb d_Integer_stringSize_1 rfl hl (by decide) rfl (fun ls hl => ?_)
  refine lv_iload_n hx hb d_Integer_stringSize_2 rfl (lv_at hl 1 rfl) ?_
  refine lv_if_lt (tgt := 11) hx hb d_Integer_stringSize_3 (by decide) (fun c_3 => ?_) (fun c_3 => ?_)
  · have hw := hw.1 c_3
    exact J11 x0 (1 : Int32) _ _ ls (lv_sub hl [1, 0] rfl) hP hD hS hw
  · have hw := hw.2 c_3
    refine lv_iconst (v := 0) hx hb d_Integer_stringSize_6 (by decide) ?_
    refine lv_istore_n (lv' := [(1, .int (0 : Int32)), (0, .int x0)]) hx hb d_Integer_stringSize_7 rfl hl (by decide) rfl (fun ls hl => ?_)
    refine lv_iload_n hx hb d_Integer_stringSize_8 rfl (lv_at hl 1 rfl) ?_
    refine lv_ineg hx hb d_Integer_stringSize_9 ?_
    refine lv_istore_n (lv' := [(0, .int (-x0)), (1, .int (0 : Int32))]) hx hb d_Integer_stringSize_10 rfl hl (by decide) rfl (fun ls hl => ?_)
    exact J11 (-x0) (0 : Int32) _ _ ls (lv_sub hl [0, 1] rfl) hP hD hS hw

set_option maxHeartbeats 4000000 in
set_option maxRecDepth 100000 in
theorem c_Integer_getChars (l : Launch) (dC : Nat → ClassId) (dI : Nat → Nat → Nat) (h_p2 : Nat) (c_p2 : ClassId) (sz : Nat) (n_p2 : Nat) (f_p2 : Nat → Int32) (x0 : Int32) (x1 : Int32) (post : Int32 → (Nat → Int32) → Prop) (hw : wp_Integer_getChars n_p2 f_p2 x0 x1 post) : Met l y_Integer_getChars (ws_ y_Integer_getChars b_Integer_getChars 7 (some .int)) { frames := 0, cells := 0, slots := 0, locals := 0 } (va_Pc [.int x0, .int x1, .ref h_p2] (PRE (dC, dI) vwCl [(c_p2, .byte)] [ar_ h_p2 c_p2 n_p2 f_p2] sz (va_A [ar_ h_p2 c_p2 n_p2 f_p2] sz))) (va_Qi (fun (r : Int32) (u : (Nat → Int32)) => post r u) (fun (u : (Nat → Int32)) (t : State) => va_P (dC, dI) vwCl [ar_ h_p2 c_p2 n_p2 u] t.heap ∧ va_K (dC, dI) vwCl [(c_p2, .byte)] t ∧ va_D (va_A [ar_ h_p2 c_p2 n_p2 f_p2] sz) [ar_ h_p2 c_p2 n_p2 u]) (va_A [ar_ h_p2 c_p2 n_p2 f_p2] sz)) 0 0 (va_A [ar_ h_p2 c_p2 n_p2 f_p2] sz) := by
  refine Met.ofW (cc := b_Integer_getChars) (maxL := 7) (ret := (some .int)) (by decide) rfl ?_
  intro p e s m args below meth c s₁ B hml hv
  obtain ⟨rfl, hsz, hP, hK, hD0, hG⟩ := hv
  have hx := B.exec
  have hb := B.bytes
  have hr := B.returns
  have hts : ∀ w ∈ tb, w.before _ s = true := fun w h => atoms_spec (ws := ws_ _ _ _ _) B.pre w (List.mem_cons_of_mem _ h)
  have hown : s.vm.findClass R_Integer = some m.cls := findClass_of_methodNamed B.named
  have hlocks := B.notSynchronized
  subst hsz
  have hD := hD0.self (sz := s.heap.size)
  generalize hAe : va_A [ar_ h_p2 c_p2 n_p2 f_p2] s.heap.size = A at hD hG ⊢
  have hA : ∀ q : Nat, s.heap.size ≤ q → A q := fun q h => by rw [← hAe]; exact Or.inr h
  have hS : va_S A s.heap s.heap [] := va_S.rf
  have hP : va_P (dC, dI) vwCl [ar_ h_p2 c_p2 n_p2 f_p2] s.heap := hP
  have hl := lv_entry [.int x0, .int x1, .ref h_p2] (n := 7) (Nat.le_of_ble_eq_true rfl)
  rw [lg_entry_eq]
  generalize (lg_sl [.int x0, .int x1, .ref h_p2] ++ List.replicate (7 - (lg_sl [.int x0, .int x1, .ref h_p2]).length) Slot.unset).toArray = ls at hl ⊢
  have hl : lv_has ls 7 [(0, .int x0), (1, .int x1), (2, .ref h_p2)] := hl
  obtain ⟨Q, hQ⟩ : ∃ Q : State → Prop, Q = MQ below (va_Qi (fun (r : Int32) (u : (Nat → Int32)) => post r u) (fun (u : (Nat → Int32)) (t : State) => va_P (dC, dI) vwCl [ar_ h_p2 c_p2 n_p2 u] t.heap ∧ va_K (dC, dI) vwCl [(c_p2, .byte)] t ∧ va_D A [ar_ h_p2 c_p2 n_p2 u]) A) ([.int x0, .int x1, .ref h_p2] : List Value).toArray s 0 0 A := ⟨_, rfl⟩
  rw [← hQ]
  unfold wp_Integer_getChars at hw
  have J12 : ∀ (v0 : Int32) (v5 : Int32) (y0 : Int32) (f_p2 : Nat → Int32) (H : Heap) (locs : List Loc) (ls : Array Slot), lv_has ls 7 [(0, .int v0), (2, .ref h_p2), (5, .int v5)] → va_P (dC, dI) vwCl [ar_ h_p2 c_p2 n_p2 f_p2] H → va_D A [ar_ h_p2 c_p2 n_p2 f_p2] → va_S A s.heap H locs → wp_Integer_getChars_J12 n_p2 post v0 v5 y0 f_p2 → W p l e (headSpec (ws_ y_Integer_getChars b_Integer_getChars 7 (some .int)) { frames := 0, cells := 0, slots := 0, locals := 0 }).room s m ([.int x0, .int x1, .ref h_p2] : List Value).toArray below meth c H locs 0 0 Q (F0 m 12 ls [.int y0]) := by
    intro v0 v5 y0 f_p2 H locs ls hl hP hD hS hw
    unfold wp_Integer_getChars_J12 at hw
    refine lv_istore (lv' := [(6, .int y0), (0, .int v0), (2, .ref h_p2), (5, .int v5)]) hx hb d_Integer_getChars_12 hl (by decide) rfl (fun ls hl => ?_)
    refine lv_iload hx hb d_Integer_getChars_14 (lv_at hl 0 rfl) ?_
    refine lv_if_ne (tgt := 22) hx hb d_Integer_getChars_16 (by decide) (fun c_1 => ?_) (fun c_1 => ?_)
    · have hw := hw.2 c_1
      have L22 : ∀ (K72 : Int32 → Int32 → Int32 → (Nat → Int32) → Prop), (∀ (v0 : Int32) (v5 : Int32) (v6 : Int32) (f_p2 : Nat → Int32) (H : Heap) (locs : List Loc) (ls : Array Slot), lv_has ls 7 [(0, .int v0), (2, .ref h_p2), (5, .int v5), (6, .int v6)] → va_P (dC, dI) vwCl [ar_ h_p2 c_p2 n_p2 f_p2] H → va_D A [ar_ h_p2 c_p2 n_p2 f_p2] → va_S A s.heap H locs → K72 v0 v5 v6 f_p2 → W p l e (headSpec (ws_ y_Integer_getChars b_Integer_getChars 7 (some .int)) { frames := 0, cells := 0, slots := 0, locals := 0 }).room s m ([.int x0, .int x1, .ref h_p2] : List Value).toArray below meth c H locs 0 0 Q (F0 m 72 ls [])) → ∀ fu22 : Nat, ∀ (v0 : Int32) (v5 : Int32) (v6 : Int32) (f_p2 : Nat → Int32) (H : Heap) (locs : List Loc) (ls : Array Slot), lv_has ls 7 [(0, .int v0), (2, .ref h_p2), (5, .int v5), (6, .int v6)] → va_P (dC, dI) vwCl [ar_ h_p2 c_p2 n_p2 f_p2] H → va_D A [ar_ h_p2 c_p2 n_p2 f_p2] → va_S A s.heap H locs → wp_Integer_getChars_L22 n_p2 K72 post fu22 v0 v5 v6 f_p2 → W p l e (headSpec (ws_ y_Integer_getChars b_Integer_getChars 7 (some .int)) { frames := 0, cells := 0, slots := 0, locals := 0 }).room s m ([.int x0, .int x1, .ref h_p2] : List Value).toArray below meth c H locs 0 0 Q (F0 m 22 ls []) := by
        intro K72 hK72 fu22
        induction fu22 with
        | zero => intro v0 v5 v6 f_p2 H locs ls hl hP hD hS hw; exact False.elim hw
        | succ fu22 ih22 =>
            intro v0 v5 v6 f_p2 H locs ls hl hP hD hS hw
            unfold wp_Integer_getChars_L22 at hw
            refine lv_iload_n hx hb d_Integer_getChars_22 rfl (lv_at hl 0 rfl) ?_
            refine lv_bipush (v := (-100)) hx hb d_Integer_getChars_23 (by decide) ?_
            refine lv_icmp_gt (tgt := 72) hx hb d_Integer_getChars_25 (by decide) (fun c_2 => ?_) (fun c_2 => ?_)
            · have hw := hw.1 c_2
              exact hK72 v0 v5 v6 f_p2 _ _ ls (lv_sub hl [0, 1, 2, 3] rfl) hP hD hS hw
            · have hw := hw.2 c_2
              refine lv_iload_n hx hb d_Integer_getChars_28 rfl (lv_at hl 0 rfl) ?_
              refine lv_bipush (v := 100) hx hb d_Integer_getChars_29 (by decide) ?_
              obtain ⟨h_3, hw⟩ := hw
              refine lv_idiv hx hb d_Integer_getChars_31 h_3 ?_
              refine lv_istore_n (lv' := [(3, .int (v0 / (100 : Int32))), (0, .int v0), (2, .ref h_p2), (5, .int v5), (6, .int v6)]) hx hb d_Integer_getChars_32 rfl hl (by decide) rfl (fun ls hl => ?_)
              refine lv_iload_n hx hb d_Integer_getChars_33 rfl (lv_at hl 0 rfl) ?_
              refine lv_bipush (v := 100) hx hb d_Integer_getChars_34 (by decide) ?_
              refine lv_imul hx hb d_Integer_getChars_36 ?_
              refine lv_iload_n hx hb d_Integer_getChars_37 rfl (lv_at hl 1 rfl) ?_
              refine lv_isub hx hb d_Integer_getChars_38 ?_
              refine lv_istore (lv' := [(4, .int (((v0 / (100 : Int32)) * (100 : Int32)) - v0)), (3, .int (v0 / (100 : Int32))), (0, .int v0), (2, .ref h_p2), (5, .int v5), (6, .int v6)]) hx hb d_Integer_getChars_39 hl (by decide) rfl (fun ls hl => ?_)
              refine lv_iload_n hx hb d_Integer_getChars_41 rfl (lv_at hl 1 rfl) ?_
              refine lv_istore_n (lv' := [(0, .int (v0 / (100 : Int32))), (4, .int (((v0 / (100 : Int32)) * (100 : Int32)) - v0)), (3, .int (v0 / (100 : Int32))), (2, .ref h_p2), (5, .int v5), (6, .int v6)]) hx hb d_Integer_getChars_42 rfl hl (by decide) rfl (fun ls hl => ?_)
              refine lv_aload_n hx hb d_Integer_getChars_43 rfl (lv_at hl 3 rfl) ?_
              refine lv_iinc (v := v5 + (-1 : Int32)) (lv' := [(5, .int (v5 + (-1 : Int32))), (0, .int (v0 / (100 : Int32))), (4, .int (((v0 / (100 : Int32)) * (100 : Int32)) - v0)), (3, .int (v0 / (100 : Int32))), (2, .ref h_p2), (6, .int v6)]) hx hb d_Integer_getChars_44 hl (k := 4) rfl rfl (by decide) rfl (fun ls hl => ?_)
              refine lv_iload hx hb d_Integer_getChars_47 (lv_at hl 0 rfl) ?_
              obtain ⟨t_4, hZt_4, hTt_4⟩ := hG.2.2.2.2.1
              refine va_gets hx hb hZt_4 hS hown (hts _ kt_836) (fun _ h9 => h9) d_Integer_getChars_49 ?_
              refine lv_iload hx hb d_Integer_getChars_52 (lv_at hl 2 rfl) ?_
              obtain ⟨h_5, hw⟩ := hw
              refine va_tb (v := .int (dgO.getD (((v0 / (100 : Int32)) * (100 : Int32)) - v0).toNatClampNeg 0)) hx hb hTt_4 hS h_5 rfl d_Integer_getChars_54 ?_
              obtain ⟨h_6, hw⟩ := hw
              refine va_bast hx hb hK hP hD hS 0 0 rfl rfl h_6 d_Integer_getChars_55 (fun H locs hP hD hS => ?_)
              have hP : va_P (dC, dI) vwCl [ar_ h_p2 c_p2 n_p2 (upd f_p2 (v5 + (-1 : Int32)).toNatClampNeg (vp_nar .byte (dgO.getD (((v0 / (100 : Int32)) * (100 : Int32)) - v0).toNatClampNeg 0)))] H := hP
              have hD : va_D A [ar_ h_p2 c_p2 n_p2 (upd f_p2 (v5 + (-1 : Int32)).toNatClampNeg (vp_nar .byte (dgO.getD (((v0 / (100 : Int32)) * (100 : Int32)) - v0).toNatClampNeg 0)))] := hD
              refine lv_aload_n hx hb d_Integer_getChars_56 rfl (lv_at hl 4 rfl) ?_
              refine lv_iinc (v := (v5 + (-1 : Int32)) + (-1 : Int32)) (lv' := [(5, .int ((v5 + (-1 : Int32)) + (-1 : Int32))), (0, .int (v0 / (100 : Int32))), (4, .int (((v0 / (100 : Int32)) * (100 : Int32)) - v0)), (3, .int (v0 / (100 : Int32))), (2, .ref h_p2), (6, .int v6)]) hx hb d_Integer_getChars_57 hl (k := 0) rfl rfl (by decide) rfl (fun ls hl => ?_)
              refine lv_iload hx hb d_Integer_getChars_60 (lv_at hl 0 rfl) ?_
              obtain ⟨t_7, hZt_7, hTt_7⟩ := hG.2.2.2.2.2.1
              refine va_gets hx hb hZt_7 hS hown (hts _ kt_838) (fun _ h9 => h9) d_Integer_getChars_62 ?_
              refine lv_iload hx hb d_Integer_getChars_65 (lv_at hl 2 rfl) ?_
              obtain ⟨h_8, hw⟩ := hw
              refine va_tb (v := .int (dgT.getD (((v0 / (100 : Int32)) * (100 : Int32)) - v0).toNatClampNeg 0)) hx hb hTt_7 hS h_8 rfl d_Integer_getChars_67 ?_
              obtain ⟨h_9, hw⟩ := hw
              refine va_bast hx hb hK hP hD hS 0 0 rfl rfl h_9 d_Integer_getChars_68 (fun H locs hP hD hS => ?_)
              have hP : va_P (dC, dI) vwCl [ar_ h_p2 c_p2 n_p2 (upd (upd f_p2 (v5 + (-1 : Int32)).toNatClampNeg (vp_nar .byte (dgO.getD (((v0 / (100 : Int32)) * (100 : Int32)) - v0).toNatClampNeg 0))) ((v5 + (-1 : Int32)) + (-1 : Int32)).toNatClampNeg (vp_nar .byte (dgT.getD (((v0 / (100 : Int32)) * (100 : Int32)) - v0).toNatClampNeg 0)))] H := hP
              have hD : va_D A [ar_ h_p2 c_p2 n_p2 (upd (upd f_p2 (v5 + (-1 : Int32)).toNatClampNeg (vp_nar .byte (dgO.getD (((v0 / (100 : Int32)) * (100 : Int32)) - v0).toNatClampNeg 0))) ((v5 + (-1 : Int32)) + (-1 : Int32)).toNatClampNeg (vp_nar .byte (dgT.getD (((v0 / (100 : Int32)) * (100 : Int32)) - v0).toNatClampNeg 0)))] := hD
              refine lv_goto (tgt := 22) hx hb d_Integer_getChars_69 (by decide) ?_
              exact ih22 (v0 / (100 : Int32)) ((v5 + (-1 : Int32)) + (-1 : Int32)) v6 (upd (upd f_p2 (v5 + (-1 : Int32)).toNatClampNeg (vp_nar .byte (dgO.getD (((v0 / (100 : Int32)) * (100 : Int32)) - v0).toNatClampNeg 0))) ((v5 + (-1 : Int32)) + (-1 : Int32)).toNatClampNeg (vp_nar .byte (dgT.getD (((v0 / (100 : Int32)) * (100 : Int32)) - v0).toNatClampNeg 0))) _ _ ls (lv_sub hl [1, 4, 0, 5] rfl) hP hD hS hw
      obtain ⟨fu22, hw⟩ := hw
      refine L22 _ (fun v0 v5 v6 f_p2 H locs ls hl hP hD hS hw => ?_) fu22 v0 v5 y0 f_p2 _ _ ls (lv_sub hl [1, 2, 3, 0] rfl) hP hD hS hw
      try dsimp only at hw
      refine lv_aload_n hx hb d_Integer_getChars_72 rfl (lv_at hl 1 rfl) ?_
      refine lv_iinc (v := v5 + (-1 : Int32)) (lv' := [(5, .int (v5 + (-1 : Int32))), (0, .int v0), (2, .ref h_p2), (6, .int v6)]) hx hb d_Integer_getChars_73 hl (k := 2) rfl rfl (by decide) rfl (fun ls hl => ?_)
      refine lv_iload hx hb d_Integer_getChars_76 (lv_at hl 0 rfl) ?_
      obtain ⟨t_10, hZt_10, hTt_10⟩ := hG.2.2.2.2.1
      refine va_gets hx hb hZt_10 hS hown (hts _ kt_836) (fun _ h9 => h9) d_Integer_getChars_78 ?_
      refine lv_iload_n hx hb d_Integer_getChars_81 rfl (lv_at hl 1 rfl) ?_
      refine lv_ineg hx hb d_Integer_getChars_82 ?_
      obtain ⟨h_11, hw⟩ := hw
      refine va_tb (v := .int (dgO.getD (-v0).toNatClampNeg 0)) hx hb hTt_10 hS h_11 rfl d_Integer_getChars_83 ?_
      obtain ⟨h_12, hw⟩ := hw
      refine va_bast hx hb hK hP hD hS 0 0 rfl rfl h_12 d_Integer_getChars_84 (fun H locs hP hD hS => ?_)
      have hP : va_P (dC, dI) vwCl [ar_ h_p2 c_p2 n_p2 (upd f_p2 (v5 + (-1 : Int32)).toNatClampNeg (vp_nar .byte (dgO.getD (-v0).toNatClampNeg 0)))] H := hP
      have hD : va_D A [ar_ h_p2 c_p2 n_p2 (upd f_p2 (v5 + (-1 : Int32)).toNatClampNeg (vp_nar .byte (dgO.getD (-v0).toNatClampNeg 0)))] := hD
      refine lv_iload_n hx hb d_Integer_getChars_85 rfl (lv_at hl 1 rfl) ?_
      refine lv_bipush (v := (-9)) hx hb d_Integer_getChars_86 (by decide) ?_
      refine lv_icmp_ge (tgt := 104) hx hb d_Integer_getChars_88 (by decide) (fun c_13 => ?_) (fun c_13 => ?_)
      · have hw := hw.1 c_13
        refine lv_iload hx hb d_Integer_getChars_104 (lv_at hl 3 rfl) ?_
        refine lv_if_eq (tgt := 118) hx hb d_Integer_getChars_106 (by decide) (fun c_14 => ?_) (fun c_14 => ?_)
        · have hw := hw.1 c_14
          refine lv_iload hx hb d_Integer_getChars_118 (lv_at hl 0 rfl) ?_
          have hP9 : va_P (dC, dI) vwCl [ar_ h_p2 c_p2 n_p2 (upd f_p2 (v5 + (-1 : Int32)).toNatClampNeg (vp_nar .byte (dgO.getD (-v0).toNatClampNeg 0)))] _ := hP
          have hD9 : va_D A [ar_ h_p2 c_p2 n_p2 (upd f_p2 (v5 + (-1 : Int32)).toNatClampNeg (vp_nar .byte (dgO.getD (-v0).toNatClampNeg 0)))] := hD
          rw [hQ]
          exact W.iret (v := v5 + (-1 : Int32)) hx hb hr (fun t ht hW => ⟨⟨v5 + (-1 : Int32), (upd f_p2 (v5 + (-1 : Int32)).toNatClampNeg (vp_nar .byte (dgO.getD (-v0).toNatClampNeg 0))), rfl, hw, by rw [ht]; exact hP9, va_K.moved hW.alike hK, hD9⟩, hS.F ht⟩) hS.2.2 d_Integer_getChars_120
        · have hw := hw.2 c_14
          refine lv_aload_n hx hb d_Integer_getChars_109 rfl (lv_at hl 2 rfl) ?_
          refine lv_iinc (v := (v5 + (-1 : Int32)) + (-1 : Int32)) (lv' := [(5, .int ((v5 + (-1 : Int32)) + (-1 : Int32))), (0, .int v0), (2, .ref h_p2), (6, .int v6)]) hx hb d_Integer_getChars_110 hl (k := 0) rfl rfl (by decide) rfl (fun ls hl => ?_)
          refine lv_iload hx hb d_Integer_getChars_113 (lv_at hl 0 rfl) ?_
          refine lv_bipush (v := 45) hx hb d_Integer_getChars_115 (by decide) ?_
          obtain ⟨h_15, hw⟩ := hw
          refine va_bast hx hb hK hP hD hS 0 0 rfl rfl h_15 d_Integer_getChars_117 (fun H locs hP hD hS => ?_)
          have hP : va_P (dC, dI) vwCl [ar_ h_p2 c_p2 n_p2 (upd (upd f_p2 (v5 + (-1 : Int32)).toNatClampNeg (vp_nar .byte (dgO.getD (-v0).toNatClampNeg 0))) ((v5 + (-1 : Int32)) + (-1 : Int32)).toNatClampNeg (vp_nar .byte (45 : Int32)))] H := hP
          have hD : va_D A [ar_ h_p2 c_p2 n_p2 (upd (upd f_p2 (v5 + (-1 : Int32)).toNatClampNeg (vp_nar .byte (dgO.getD (-v0).toNatClampNeg 0))) ((v5 + (-1 : Int32)) + (-1 : Int32)).toNatClampNeg (vp_nar .byte (45 : Int32)))] := hD
          refine lv_iload hx hb d_Integer_getChars_118 (lv_at hl 0 rfl) ?_
          have hP9 : va_P (dC, dI) vwCl [ar_ h_p2 c_p2 n_p2 (upd (upd f_p2 (v5 + (-1 : Int32)).toNatClampNeg (vp_nar .byte (dgO.getD (-v0).toNatClampNeg 0))) ((v5 + (-1 : Int32)) + (-1 : Int32)).toNatClampNeg (vp_nar .byte (45 : Int32)))] _ := hP
          have hD9 : va_D A [ar_ h_p2 c_p2 n_p2 (upd (upd f_p2 (v5 + (-1 : Int32)).toNatClampNeg (vp_nar .byte (dgO.getD (-v0).toNatClampNeg 0))) ((v5 + (-1 : Int32)) + (-1 : Int32)).toNatClampNeg (vp_nar .byte (45 : Int32)))] := hD
          rw [hQ]
          exact W.iret (v := (v5 + (-1 : Int32)) + (-1 : Int32)) hx hb hr (fun t ht hW => ⟨⟨(v5 + (-1 : Int32)) + (-1 : Int32), (upd (upd f_p2 (v5 + (-1 : Int32)).toNatClampNeg (vp_nar .byte (dgO.getD (-v0).toNatClampNeg 0))) ((v5 + (-1 : Int32)) + (-1 : Int32)).toNatClampNeg (vp_nar .byte (45 : Int32))), rfl, hw, by rw [ht]; exact hP9, va_K.moved hW.alike hK, hD9⟩, hS.F ht⟩) hS.2.2 d_Integer_getChars_120
      · have hw := hw.2 c_13
        refine lv_aload_n hx hb d_Integer_getChars_91 rfl (lv_at hl 2 rfl) ?_
        refine lv_iinc (v := (v5 + (-1 : Int32)) + (-1 : Int32)) (lv' := [(5, .int ((v5 + (-1 : Int32)) + (-1 : Int32))), (0, .int v0), (2, .ref h_p2), (6, .int v6)]) hx hb d_Integer_getChars_92 hl (k := 0) rfl rfl (by decide) rfl (fun ls hl => ?_)
        refine lv_iload hx hb d_Integer_getChars_95 (lv_at hl 0 rfl) ?_
        obtain ⟨t_16, hZt_16, hTt_16⟩ := hG.2.2.2.2.2.1
        refine va_gets hx hb hZt_16 hS hown (hts _ kt_838) (fun _ h9 => h9) d_Integer_getChars_97 ?_
        refine lv_iload_n hx hb d_Integer_getChars_100 rfl (lv_at hl 1 rfl) ?_
        refine lv_ineg hx hb d_Integer_getChars_101 ?_
        obtain ⟨h_17, hw⟩ := hw
        refine va_tb (v := .int (dgT.getD (-v0).toNatClampNeg 0)) hx hb hTt_16 hS h_17 rfl d_Integer_getChars_102 ?_
        obtain ⟨h_18, hw⟩ := hw
        refine va_bast hx hb hK hP hD hS 0 0 rfl rfl h_18 d_Integer_getChars_103 (fun H locs hP hD hS => ?_)
        have hP : va_P (dC, dI) vwCl [ar_ h_p2 c_p2 n_p2 (upd (upd f_p2 (v5 + (-1 : Int32)).toNatClampNeg (vp_nar .byte (dgO.getD (-v0).toNatClampNeg 0))) ((v5 + (-1 : Int32)) + (-1 : Int32)).toNatClampNeg (vp_nar .byte (dgT.getD (-v0).toNatClampNeg 0)))] H := hP
        have hD : va_D A [ar_ h_p2 c_p2 n_p2 (upd (upd f_p2 (v5 + (-1 : Int32)).toNatClampNeg (vp_nar .byte (dgO.getD (-v0).toNatClampNeg 0))) ((v5 + (-1 : Int32)) + (-1 : Int32)).toNatClampNeg (vp_nar .byte (dgT.getD (-v0).toNatClampNeg 0)))] := hD
        refine lv_iload hx hb d_Integer_getChars_104 (lv_at hl 3 rfl) ?_
        refine lv_if_eq (tgt := 118) hx hb d_Integer_getChars_106 (by decide) (fun c_19 => ?_) (fun c_19 => ?_)
        · have hw := hw.1 c_19
          refine lv_iload hx hb d_Integer_getChars_118 (lv_at hl 0 rfl) ?_
          have hP9 : va_P (dC, dI) vwCl [ar_ h_p2 c_p2 n_p2 (upd (upd f_p2 (v5 + (-1 : Int32)).toNatClampNeg (vp_nar .byte (dgO.getD (-v0).toNatClampNeg 0))) ((v5 + (-1 : Int32)) + (-1 : Int32)).toNatClampNeg (vp_nar .byte (dgT.getD (-v0).toNatClampNeg 0)))] _ := hP
          have hD9 : va_D A [ar_ h_p2 c_p2 n_p2 (upd (upd f_p2 (v5 + (-1 : Int32)).toNatClampNeg (vp_nar .byte (dgO.getD (-v0).toNatClampNeg 0))) ((v5 + (-1 : Int32)) + (-1 : Int32)).toNatClampNeg (vp_nar .byte (dgT.getD (-v0).toNatClampNeg 0)))] := hD
          rw [hQ]
          exact W.iret (v := (v5 + (-1 : Int32)) + (-1 : Int32)) hx hb hr (fun t ht hW => ⟨⟨(v5 + (-1 : Int32)) + (-1 : Int32), (upd (upd f_p2 (v5 + (-1 : Int32)).toNatClampNeg (vp_nar .byte (dgO.getD (-v0).toNatClampNeg 0))) ((v5 + (-1 : Int32)) + (-1 : Int32)).toNatClampNeg (vp_nar .byte (dgT.getD (-v0).toNatClampNeg 0))), rfl, hw, by rw [ht]; exact hP9, va_K.moved hW.alike hK, hD9⟩, hS.F ht⟩) hS.2.2 d_Integer_getChars_120
        · have hw := hw.2 c_19
          refine lv_aload_n hx hb d_Integer_getChars_109 rfl (lv_at hl 2 rfl) ?_
          refine lv_iinc (v := ((v5 + (-1 : Int32)) + (-1 : Int32)) + (-1 : Int32)) (lv' := [(5, .int (((v5 + (-1 : Int32)) + (-1 : Int32)) + (-1 : Int32))), (0, .int v0), (2, .ref h_p2), (6, .int v6)]) hx hb d_Integer_getChars_110 hl (k := 0) rfl rfl (by decide) rfl (fun ls hl => ?_)
          refine lv_iload hx hb d_Integer_getChars_113 (lv_at hl 0 rfl) ?_
          refine lv_bipush (v := 45) hx hb d_Integer_getChars_115 (by decide) ?_
          obtain ⟨h_20, hw⟩ := hw
          refine va_bast hx hb hK hP hD hS 0 0 rfl rfl h_20 d_Integer_getChars_117 (fun H locs hP hD hS => ?_)
          have hP : va_P (dC, dI) vwCl [ar_ h_p2 c_p2 n_p2 (upd (upd (upd f_p2 (v5 + (-1 : Int32)).toNatClampNeg (vp_nar .byte (dgO.getD (-v0).toNatClampNeg 0))) ((v5 + (-1 : Int32)) + (-1 : Int32)).toNatClampNeg (vp_nar .byte (dgT.getD (-v0).toNatClampNeg 0))) (((v5 + (-1 : Int32)) + (-1 : Int32)) + (-1 : Int32)).toNatClampNeg (vp_nar .byte (45 : Int32)))] H := hP
          have hD : va_D A [ar_ h_p2 c_p2 n_p2 (upd (upd (upd f_p2 (v5 + (-1 : Int32)).toNatClampNeg (vp_nar .byte (dgO.getD (-v0).toNatClampNeg 0))) ((v5 + (-1 : Int32)) + (-1 : Int32)).toNatClampNeg (vp_nar .byte (dgT.getD (-v0).toNatClampNeg 0))) (((v5 + (-1 : Int32)) + (-1 : Int32)) + (-1 : Int32)).toNatClampNeg (vp_nar .byte (45 : Int32)))] := hD
          refine lv_iload hx hb d_Integer_getChars_118 (lv_at hl 0 rfl) ?_
          have hP9 : va_P (dC, dI) vwCl [ar_ h_p2 c_p2 n_p2 (upd (upd (upd f_p2 (v5 + (-1 : Int32)).toNatClampNeg (vp_nar .byte (dgO.getD (-v0).toNatClampNeg 0))) ((v5 + (-1 : Int32)) + (-1 : Int32)).toNatClampNeg (vp_nar .byte (dgT.getD (-v0).toNatClampNeg 0))) (((v5 + (-1 : Int32)) + (-1 : Int32)) + (-1 : Int32)).toNatClampNeg (vp_nar .byte (45 : Int32)))] _ := hP
          have hD9 : va_D A [ar_ h_p2 c_p2 n_p2 (upd (upd (upd f_p2 (v5 + (-1 : Int32)).toNatClampNeg (vp_nar .byte (dgO.getD (-v0).toNatClampNeg 0))) ((v5 + (-1 : Int32)) + (-1 : Int32)).toNatClampNeg (vp_nar .byte (dgT.getD (-v0).toNatClampNeg 0))) (((v5 + (-1 : Int32)) + (-1 : Int32)) + (-1 : Int32)).toNatClampNeg (vp_nar .byte (45 : Int32)))] := hD
          rw [hQ]
          exact W.iret (v := ((v5 + (-1 : Int32)) + (-1 : Int32)) + (-1 : Int32)) hx hb hr (fun t ht hW => ⟨⟨((v5 + (-1 : Int32)) + (-1 : Int32)) + (-1 : Int32), (upd (upd (upd f_p2 (v5 + (-1 : Int32)).toNatClampNeg (vp_nar .byte (dgO.getD (-v0).toNatClampNeg 0))) ((v5 + (-1 : Int32)) + (-1 : Int32)).toNatClampNeg (vp_nar .byte (dgT.getD (-v0).toNatClampNeg 0))) (((v5 + (-1 : Int32)) + (-1 : Int32)) + (-1 : Int32)).toNatClampNeg (vp_nar .byte (45 : Int32))), rfl, hw, by rw [ht]; exact hP9, va_K.moved hW.alike hK, hD9⟩, hS.F ht⟩) hS.2.2 d_Integer_getChars_120
    · have hw := hw.1 c_1
      refine lv_iload_n hx hb d_Integer_getChars_19 rfl (lv_at hl 1 rfl) ?_
      refine lv_ineg hx hb d_Integer_getChars_20 ?_
      refine lv_istore_n (lv' := [(0, .int (-v0)), (6, .int y0), (2, .ref h_p2), (5, .int v5)]) hx hb d_Integer_getChars_21 rfl hl (by decide) rfl (fun ls hl => ?_)
      have L22 : ∀ (K72 : Int32 → Int32 → Int32 → (Nat → Int32) → Prop), (∀ (v0 : Int32) (v5 : Int32) (v6 : Int32) (f_p2 : Nat → Int32) (H : Heap) (locs : List Loc) (ls : Array Slot), lv_has ls 7 [(0, .int v0), (2, .ref h_p2), (5, .int v5), (6, .int v6)] → va_P (dC, dI) vwCl [ar_ h_p2 c_p2 n_p2 f_p2] H → va_D A [ar_ h_p2 c_p2 n_p2 f_p2] → va_S A s.heap H locs → K72 v0 v5 v6 f_p2 → W p l e (headSpec (ws_ y_Integer_getChars b_Integer_getChars 7 (some .int)) { frames := 0, cells := 0, slots := 0, locals := 0 }).room s m ([.int x0, .int x1, .ref h_p2] : List Value).toArray below meth c H locs 0 0 Q (F0 m 72 ls [])) → ∀ fu22 : Nat, ∀ (v0 : Int32) (v5 : Int32) (v6 : Int32) (f_p2 : Nat → Int32) (H : Heap) (locs : List Loc) (ls : Array Slot), lv_has ls 7 [(0, .int v0), (2, .ref h_p2), (5, .int v5), (6, .int v6)] → va_P (dC, dI) vwCl [ar_ h_p2 c_p2 n_p2 f_p2] H → va_D A [ar_ h_p2 c_p2 n_p2 f_p2] → va_S A s.heap H locs → wp_Integer_getChars_L22 n_p2 K72 post fu22 v0 v5 v6 f_p2 → W p l e (headSpec (ws_ y_Integer_getChars b_Integer_getChars 7 (some .int)) { frames := 0, cells := 0, slots := 0, locals := 0 }).room s m ([.int x0, .int x1, .ref h_p2] : List Value).toArray below meth c H locs 0 0 Q (F0 m 22 ls []) := by
        intro K72 hK72 fu22
        induction fu22 with
        | zero => intro v0 v5 v6 f_p2 H locs ls hl hP hD hS hw; exact False.elim hw
        | succ fu22 ih22 =>
            intro v0 v5 v6 f_p2 H locs ls hl hP hD hS hw
            unfold wp_Integer_getChars_L22 at hw
            refine lv_iload_n hx hb d_Integer_getChars_22 rfl (lv_at hl 0 rfl) ?_
            refine lv_bipush (v := (-100)) hx hb d_Integer_getChars_23 (by decide) ?_
            refine lv_icmp_gt (tgt := 72) hx hb d_Integer_getChars_25 (by decide) (fun c_21 => ?_) (fun c_21 => ?_)
            · have hw := hw.1 c_21
              exact hK72 v0 v5 v6 f_p2 _ _ ls (lv_sub hl [0, 1, 2, 3] rfl) hP hD hS hw
            · have hw := hw.2 c_21
              refine lv_iload_n hx hb d_Integer_getChars_28 rfl (lv_at hl 0 rfl) ?_
              refine lv_bipush (v := 100) hx hb d_Integer_getChars_29 (by decide) ?_
              obtain ⟨h_22, hw⟩ := hw
              refine lv_idiv hx hb d_Integer_getChars_31 h_22 ?_
              refine lv_istore_n (lv' := [(3, .int (v0 / (100 : Int32))), (0, .int v0), (2, .ref h_p2), (5, .int v5), (6, .int v6)]) hx hb d_Integer_getChars_32 rfl hl (by decide) rfl (fun ls hl => ?_)
              refine lv_iload_n hx hb d_Integer_getChars_33 rfl (lv_at hl 0 rfl) ?_
              refine lv_bipush (v := 100) hx hb d_Integer_getChars_34 (by decide) ?_
              refine lv_imul hx hb d_Integer_getChars_36 ?_
              refine lv_iload_n hx hb d_Integer_getChars_37 rfl (lv_at hl 1 rfl) ?_
              refine lv_isub hx hb d_Integer_getChars_38 ?_
              refine lv_istore (lv' := [(4, .int (((v0 / (100 : Int32)) * (100 : Int32)) - v0)), (3, .int (v0 / (100 : Int32))), (0, .int v0), (2, .ref h_p2), (5, .int v5), (6, .int v6)]) hx hb d_Integer_getChars_39 hl (by decide) rfl (fun ls hl => ?_)
              refine lv_iload_n hx hb d_Integer_getChars_41 rfl (lv_at hl 1 rfl) ?_
              refine lv_istore_n (lv' := [(0, .int (v0 / (100 : Int32))), (4, .int (((v0 / (100 : Int32)) * (100 : Int32)) - v0)), (3, .int (v0 / (100 : Int32))), (2, .ref h_p2), (5, .int v5), (6, .int v6)]) hx hb d_Integer_getChars_42 rfl hl (by decide) rfl (fun ls hl => ?_)
              refine lv_aload_n hx hb d_Integer_getChars_43 rfl (lv_at hl 3 rfl) ?_
              refine lv_iinc (v := v5 + (-1 : Int32)) (lv' := [(5, .int (v5 + (-1 : Int32))), (0, .int (v0 / (100 : Int32))), (4, .int (((v0 / (100 : Int32)) * (100 : Int32)) - v0)), (3, .int (v0 / (100 : Int32))), (2, .ref h_p2), (6, .int v6)]) hx hb d_Integer_getChars_44 hl (k := 4) rfl rfl (by decide) rfl (fun ls hl => ?_)
              refine lv_iload hx hb d_Integer_getChars_47 (lv_at hl 0 rfl) ?_
              obtain ⟨t_23, hZt_23, hTt_23⟩ := hG.2.2.2.2.1
              refine va_gets hx hb hZt_23 hS hown (hts _ kt_836) (fun _ h9 => h9) d_Integer_getChars_49 ?_
              refine lv_iload hx hb d_Integer_getChars_52 (lv_at hl 2 rfl) ?_
              obtain ⟨h_24, hw⟩ := hw
              refine va_tb (v := .int (dgO.getD (((v0 / (100 : Int32)) * (100 : Int32)) - v0).toNatClampNeg 0)) hx hb hTt_23 hS h_24 rfl d_Integer_getChars_54 ?_
              obtain ⟨h_25, hw⟩ := hw
              refine va_bast hx hb hK hP hD hS 0 0 rfl rfl h_25 d_Integer_getChars_55 (fun H locs hP hD hS => ?_)
              have hP : va_P (dC, dI) vwCl [ar_ h_p2 c_p2 n_p2 (upd f_p2 (v5 + (-1 : Int32)).toNatClampNeg (vp_nar .byte (dgO.getD (((v0 / (100 : Int32)) * (100 : Int32)) - v0).toNatClampNeg 0)))] H := hP
              have hD : va_D A [ar_ h_p2 c_p2 n_p2 (upd f_p2 (v5 + (-1 : Int32)).toNatClampNeg (vp_nar .byte (dgO.getD (((v0 / (100 : Int32)) * (100 : Int32)) - v0).toNatClampNeg 0)))] := hD
              refine lv_aload_n hx hb d_Integer_getChars_56 rfl (lv_at hl 4 rfl) ?_
              refine lv_iinc (v := (v5 + (-1 : Int32)) + (-1 : Int32)) (lv' := [(5, .int ((v5 + (-1 : Int32)) + (-1 : Int32))), (0, .int (v0 / (100 : Int32))), (4, .int (((v0 / (100 : Int32)) * (100 : Int32)) - v0)), (3, .int (v0 / (100 : Int32))), (2, .ref h_p2), (6, .int v6)]) hx hb d_Integer_getChars_57 hl (k := 0) rfl rfl (by decide) rfl (fun ls hl => ?_)
              refine lv_iload hx hb d_Integer_getChars_60 (lv_at hl 0 rfl) ?_
              obtain ⟨t_26, hZt_26, hTt_26⟩ := hG.2.2.2.2.2.1
              refine va_gets hx hb hZt_26 hS hown (hts _ kt_838) (fun _ h9 => h9) d_Integer_getChars_62 ?_
              refine lv_iload hx hb d_Integer_getChars_65 (lv_at hl 2 rfl) ?_
              obtain ⟨h_27, hw⟩ := hw
              refine va_tb (v := .int (dgT.getD (((v0 / (100 : Int32)) * (100 : Int32)) - v0).toNatClampNeg 0)) hx hb hTt_26 hS h_27 rfl d_Integer_getChars_67 ?_
              obtain ⟨h_28, hw⟩ := hw
              refine va_bast hx hb hK hP hD hS 0 0 rfl rfl h_28 d_Integer_getChars_68 (fun H locs hP hD hS => ?_)
              have hP : va_P (dC, dI) vwCl [ar_ h_p2 c_p2 n_p2 (upd (upd f_p2 (v5 + (-1 : Int32)).toNatClampNeg (vp_nar .byte (dgO.getD (((v0 / (100 : Int32)) * (100 : Int32)) - v0).toNatClampNeg 0))) ((v5 + (-1 : Int32)) + (-1 : Int32)).toNatClampNeg (vp_nar .byte (dgT.getD (((v0 / (100 : Int32)) * (100 : Int32)) - v0).toNatClampNeg 0)))] H := hP
              have hD : va_D A [ar_ h_p2 c_p2 n_p2 (upd (upd f_p2 (v5 + (-1 : Int32)).toNatClampNeg (vp_nar .byte (dgO.getD (((v0 / (100 : Int32)) * (100 : Int32)) - v0).toNatClampNeg 0))) ((v5 + (-1 : Int32)) + (-1 : Int32)).toNatClampNeg (vp_nar .byte (dgT.getD (((v0 / (100 : Int32)) * (100 : Int32)) - v0).toNatClampNeg 0)))] := hD
              refine lv_goto (tgt := 22) hx hb d_Integer_getChars_69 (by decide) ?_
              exact ih22 (v0 / (100 : Int32)) ((v5 + (-1 : Int32)) + (-1 : Int32)) v6 (upd (upd f_p2 (v5 + (-1 : Int32)).toNatClampNeg (vp_nar .byte (dgO.getD (((v0 / (100 : Int32)) * (100 : Int32)) - v0).toNatClampNeg 0))) ((v5 + (-1 : Int32)) + (-1 : Int32)).toNatClampNeg (vp_nar .byte (dgT.getD (((v0 / (100 : Int32)) * (100 : Int32)) - v0).toNatClampNeg 0))) _ _ ls (lv_sub hl [1, 4, 0, 5] rfl) hP hD hS hw
      obtain ⟨fu22, hw⟩ := hw
      refine L22 _ (fun v0 v5 v6 f_p2 H locs ls hl hP hD hS hw => ?_) fu22 (-v0) v5 y0 f_p2 _ _ ls (lv_sub hl [0, 2, 3, 1] rfl) hP hD hS hw
      try dsimp only at hw
      refine lv_aload_n hx hb d_Integer_getChars_72 rfl (lv_at hl 1 rfl) ?_
      refine lv_iinc (v := v5 + (-1 : Int32)) (lv' := [(5, .int (v5 + (-1 : Int32))), (0, .int v0), (2, .ref h_p2), (6, .int v6)]) hx hb d_Integer_getChars_73 hl (k := 2) rfl rfl (by decide) rfl (fun ls hl => ?_)
      refine lv_iload hx hb d_Integer_getChars_76 (lv_at hl 0 rfl) ?_
      obtain ⟨t_29, hZt_29, hTt_29⟩ := hG.2.2.2.2.1
      refine va_gets hx hb hZt_29 hS hown (hts _ kt_836) (fun _ h9 => h9) d_Integer_getChars_78 ?_
      refine lv_iload_n hx hb d_Integer_getChars_81 rfl (lv_at hl 1 rfl) ?_
      refine lv_ineg hx hb d_Integer_getChars_82 ?_
      obtain ⟨h_30, hw⟩ := hw
      refine va_tb (v := .int (dgO.getD (-v0).toNatClampNeg 0)) hx hb hTt_29 hS h_30 rfl d_Integer_getChars_83 ?_
      obtain ⟨h_31, hw⟩ := hw
      refine va_bast hx hb hK hP hD hS 0 0 rfl rfl h_31 d_Integer_getChars_84 (fun H locs hP hD hS => ?_)
      have hP : va_P (dC, dI) vwCl [ar_ h_p2 c_p2 n_p2 (upd f_p2 (v5 + (-1 : Int32)).toNatClampNeg (vp_nar .byte (dgO.getD (-v0).toNatClampNeg 0)))] H := hP
      have hD : va_D A [ar_ h_p2 c_p2 n_p2 (upd f_p2 (v5 + (-1 : Int32)).toNatClampNeg (vp_nar .byte (dgO.getD (-v0).toNatClampNeg 0)))] := hD
      refine lv_iload_n hx hb d_Integer_getChars_85 rfl (lv_at hl 1 rfl) ?_
      refine lv_bipush (v := (-9)) hx hb d_Integer_getChars_86 (by decide) ?_
      refine lv_icmp_ge (tgt := 104) hx hb d_Integer_getChars_88 (by decide) (fun c_32 => ?_) (fun c_32 => ?_)
      · have hw := hw.1 c_32
        refine lv_iload hx hb d_Integer_getChars_104 (lv_at hl 3 rfl) ?_
        refine lv_if_eq (tgt := 118) hx hb d_Integer_getChars_106 (by decide) (fun c_33 => ?_) (fun c_33 => ?_)
        · have hw := hw.1 c_33
          refine lv_iload hx hb d_Integer_getChars_118 (lv_at hl 0 rfl) ?_
          have hP9 : va_P (dC, dI) vwCl [ar_ h_p2 c_p2 n_p2 (upd f_p2 (v5 + (-1 : Int32)).toNatClampNeg (vp_nar .byte (dgO.getD (-v0).toNatClampNeg 0)))] _ := hP
          have hD9 : va_D A [ar_ h_p2 c_p2 n_p2 (upd f_p2 (v5 + (-1 : Int32)).toNatClampNeg (vp_nar .byte (dgO.getD (-v0).toNatClampNeg 0)))] := hD
          rw [hQ]
          exact W.iret (v := v5 + (-1 : Int32)) hx hb hr (fun t ht hW => ⟨⟨v5 + (-1 : Int32), (upd f_p2 (v5 + (-1 : Int32)).toNatClampNeg (vp_nar .byte (dgO.getD (-v0).toNatClampNeg 0))), rfl, hw, by rw [ht]; exact hP9, va_K.moved hW.alike hK, hD9⟩, hS.F ht⟩) hS.2.2 d_Integer_getChars_120
        · have hw := hw.2 c_33
          refine lv_aload_n hx hb d_Integer_getChars_109 rfl (lv_at hl 2 rfl) ?_
          refine lv_iinc (v := (v5 + (-1 : Int32)) + (-1 : Int32)) (lv' := [(5, .int ((v5 + (-1 : Int32)) + (-1 : Int32))), (0, .int v0), (2, .ref h_p2), (6, .int v6)]) hx hb d_Integer_getChars_110 hl (k := 0) rfl rfl (by decide) rfl (fun ls hl => ?_)
          refine lv_iload hx hb d_Integer_getChars_113 (lv_at hl 0 rfl) ?_
          refine lv_bipush (v := 45) hx hb d_Integer_getChars_115 (by decide) ?_
          obtain ⟨h_34, hw⟩ := hw
          refine va_bast hx hb hK hP hD hS 0 0 rfl rfl h_34 d_Integer_getChars_117 (fun H locs hP hD hS => ?_)
          have hP : va_P (dC, dI) vwCl [ar_ h_p2 c_p2 n_p2 (upd (upd f_p2 (v5 + (-1 : Int32)).toNatClampNeg (vp_nar .byte (dgO.getD (-v0).toNatClampNeg 0))) ((v5 + (-1 : Int32)) + (-1 : Int32)).toNatClampNeg (vp_nar .byte (45 : Int32)))] H := hP
          have hD : va_D A [ar_ h_p2 c_p2 n_p2 (upd (upd f_p2 (v5 + (-1 : Int32)).toNatClampNeg (vp_nar .byte (dgO.getD (-v0).toNatClampNeg 0))) ((v5 + (-1 : Int32)) + (-1 : Int32)).toNatClampNeg (vp_nar .byte (45 : Int32)))] := hD
          refine lv_iload hx hb d_Integer_getChars_118 (lv_at hl 0 rfl) ?_
          have hP9 : va_P (dC, dI) vwCl [ar_ h_p2 c_p2 n_p2 (upd (upd f_p2 (v5 + (-1 : Int32)).toNatClampNeg (vp_nar .byte (dgO.getD (-v0).toNatClampNeg 0))) ((v5 + (-1 : Int32)) + (-1 : Int32)).toNatClampNeg (vp_nar .byte (45 : Int32)))] _ := hP
          have hD9 : va_D A [ar_ h_p2 c_p2 n_p2 (upd (upd f_p2 (v5 + (-1 : Int32)).toNatClampNeg (vp_nar .byte (dgO.getD (-v0).toNatClampNeg 0))) ((v5 + (-1 : Int32)) + (-1 : Int32)).toNatClampNeg (vp_nar .byte (45 : Int32)))] := hD
          rw [hQ]
          exact W.iret (v := (v5 + (-1 : Int32)) + (-1 : Int32)) hx hb hr (fun t ht hW => ⟨⟨(v5 + (-1 : Int32)) + (-1 : Int32), (upd (upd f_p2 (v5 + (-1 : Int32)).toNatClampNeg (vp_nar .byte (dgO.getD (-v0).toNatClampNeg 0))) ((v5 + (-1 : Int32)) + (-1 : Int32)).toNatClampNeg (vp_nar .byte (45 : Int32))), rfl, hw, by rw [ht]; exact hP9, va_K.moved hW.alike hK, hD9⟩, hS.F ht⟩) hS.2.2 d_Integer_getChars_120
      · have hw := hw.2 c_32
        refine lv_aload_n hx hb d_Integer_getChars_91 rfl (lv_at hl 2 rfl) ?_
        refine lv_iinc (v := (v5 + (-1 : Int32)) + (-1 : Int32)) (lv' := [(5, .int ((v5 + (-1 : Int32)) + (-1 : Int32))), (0, .int v0), (2, .ref h_p2), (6, .int v6)]) hx hb d_Integer_getChars_92 hl (k := 0) rfl rfl (by decide) rfl (fun ls hl => ?_)
        refine lv_iload hx hb d_Integer_getChars_95 (lv_at hl 0 rfl) ?_
        obtain ⟨t_35, hZt_35, hTt_35⟩ := hG.2.2.2.2.2.1
        refine va_gets hx hb hZt_35 hS hown (hts _ kt_838) (fun _ h9 => h9) d_Integer_getChars_97 ?_
        refine lv_iload_n hx hb d_Integer_getChars_100 rfl (lv_at hl 1 rfl) ?_
        refine lv_ineg hx hb d_Integer_getChars_101 ?_
        obtain ⟨h_36, hw⟩ := hw
        refine va_tb (v := .int (dgT.getD (-v0).toNatClampNeg 0)) hx hb hTt_35 hS h_36 rfl d_Integer_getChars_102 ?_
        obtain ⟨h_37, hw⟩ := hw
        refine va_bast hx hb hK hP hD hS 0 0 rfl rfl h_37 d_Integer_getChars_103 (fun H locs hP hD hS => ?_)
        have hP : va_P (dC, dI) vwCl [ar_ h_p2 c_p2 n_p2 (upd (upd f_p2 (v5 + (-1 : Int32)).toNatClampNeg (vp_nar .byte (dgO.getD (-v0).toNatClampNeg 0))) ((v5 + (-1 : Int32)) + (-1 : Int32)).toNatClampNeg (vp_nar .byte (dgT.getD (-v0).toNatClampNeg 0)))] H := hP
        have hD : va_D A [ar_ h_p2 c_p2 n_p2 (upd (upd f_p2 (v5 + (-1 : Int32)).toNatClampNeg (vp_nar .byte (dgO.getD (-v0).toNatClampNeg 0))) ((v5 + (-1 : Int32)) + (-1 : Int32)).toNatClampNeg (vp_nar .byte (dgT.getD (-v0).toNatClampNeg 0)))] := hD
        refine lv_iload hx hb d_Integer_getChars_104 (lv_at hl 3 rfl) ?_
        refine lv_if_eq (tgt := 118) hx hb d_Integer_getChars_106 (by decide) (fun c_38 => ?_) (fun c_38 => ?_)
        · have hw := hw.1 c_38
          refine lv_iload hx hb d_Integer_getChars_118 (lv_at hl 0 rfl) ?_
          have hP9 : va_P (dC, dI) vwCl [ar_ h_p2 c_p2 n_p2 (upd (upd f_p2 (v5 + (-1 : Int32)).toNatClampNeg (vp_nar .byte (dgO.getD (-v0).toNatClampNeg 0))) ((v5 + (-1 : Int32)) + (-1 : Int32)).toNatClampNeg (vp_nar .byte (dgT.getD (-v0).toNatClampNeg 0)))] _ := hP
          have hD9 : va_D A [ar_ h_p2 c_p2 n_p2 (upd (upd f_p2 (v5 + (-1 : Int32)).toNatClampNeg (vp_nar .byte (dgO.getD (-v0).toNatClampNeg 0))) ((v5 + (-1 : Int32)) + (-1 : Int32)).toNatClampNeg (vp_nar .byte (dgT.getD (-v0).toNatClampNeg 0)))] := hD
          rw [hQ]
          exact W.iret (v := (v5 + (-1 : Int32)) + (-1 : Int32)) hx hb hr (fun t ht hW => ⟨⟨(v5 + (-1 : Int32)) + (-1 : Int32), (upd (upd f_p2 (v5 + (-1 : Int32)).toNatClampNeg (vp_nar .byte (dgO.getD (-v0).toNatClampNeg 0))) ((v5 + (-1 : Int32)) + (-1 : Int32)).toNatClampNeg (vp_nar .byte (dgT.getD (-v0).toNatClampNeg 0))), rfl, hw, by rw [ht]; exact hP9, va_K.moved hW.alike hK, hD9⟩, hS.F ht⟩) hS.2.2 d_Integer_getChars_120
        · have hw := hw.2 c_38
          refine lv_aload_n hx hb d_Integer_getChars_109 rfl (lv_at hl 2 rfl) ?_
          refine lv_iinc (v := ((v5 + (-1 : Int32)) + (-1 : Int32)) + (-1 : Int32)) (lv' := [(5, .int (((v5 + (-1 : Int32)) + (-1 : Int32)) + (-1 : Int32))), (0, .int v0), (2, .ref h_p2), (6, .int v6)]) hx hb d_Integer_getChars_110 hl (k := 0) rfl rfl (by decide) rfl (fun ls hl => ?_)
          refine lv_iload hx hb d_Integer_getChars_113 (lv_at hl 0 rfl) ?_
          refine lv_bipush (v := 45) hx hb d_Integer_getChars_115 (by decide) ?_
          obtain ⟨h_39, hw⟩ := hw
          refine va_bast hx hb hK hP hD hS 0 0 rfl rfl h_39 d_Integer_getChars_117 (fun H locs hP hD hS => ?_)
          have hP : va_P (dC, dI) vwCl [ar_ h_p2 c_p2 n_p2 (upd (upd (upd f_p2 (v5 + (-1 : Int32)).toNatClampNeg (vp_nar .byte (dgO.getD (-v0).toNatClampNeg 0))) ((v5 + (-1 : Int32)) + (-1 : Int32)).toNatClampNeg (vp_nar .byte (dgT.getD (-v0).toNatClampNeg 0))) (((v5 + (-1 : Int32)) + (-1 : Int32)) + (-1 : Int32)).toNatClampNeg (vp_nar .byte (45 : Int32)))] H := hP
          have hD : va_D A [ar_ h_p2 c_p2 n_p2 (upd (upd (upd f_p2 (v5 + (-1 : Int32)).toNatClampNeg (vp_nar .byte (dgO.getD (-v0).toNatClampNeg 0))) ((v5 + (-1 : Int32)) + (-1 : Int32)).toNatClampNeg (vp_nar .byte (dgT.getD (-v0).toNatClampNeg 0))) (((v5 + (-1 : Int32)) + (-1 : Int32)) + (-1 : Int32)).toNatClampNeg (vp_nar .byte (45 : Int32)))] := hD
          refine lv_iload hx hb d_Integer_getChars_118 (lv_at hl 0 rfl) ?_
          have hP9 : va_P (dC, dI) vwCl [ar_ h_p2 c_p2 n_p2 (upd (upd (upd f_p2 (v5 + (-1 : Int32)).toNatClampNeg (vp_nar .byte (dgO.getD (-v0).toNatClampNeg 0))) ((v5 + (-1 : Int32)) + (-1 : Int32)).toNatClampNeg (vp_nar .byte (dgT.getD (-v0).toNatClampNeg 0))) (((v5 + (-1 : Int32)) + (-1 : Int32)) + (-1 : Int32)).toNatClampNeg (vp_nar .byte (45 : Int32)))] _ := hP
          have hD9 : va_D A [ar_ h_p2 c_p2 n_p2 (upd (upd (upd f_p2 (v5 + (-1 : Int32)).toNatClampNeg (vp_nar .byte (dgO.getD (-v0).toNatClampNeg 0))) ((v5 + (-1 : Int32)) + (-1 : Int32)).toNatClampNeg (vp_nar .byte (dgT.getD (-v0).toNatClampNeg 0))) (((v5 + (-1 : Int32)) + (-1 : Int32)) + (-1 : Int32)).toNatClampNeg (vp_nar .byte (45 : Int32)))] := hD
          rw [hQ]
          exact W.iret (v := ((v5 + (-1 : Int32)) + (-1 : Int32)) + (-1 : Int32)) hx hb hr (fun t ht hW => ⟨⟨((v5 + (-1 : Int32)) + (-1 : Int32)) + (-1 : Int32), (upd (upd (upd f_p2 (v5 + (-1 : Int32)).toNatClampNeg (vp_nar .byte (dgO.getD (-v0).toNatClampNeg 0))) ((v5 + (-1 : Int32)) + (-1 : Int32)).toNatClampNeg (vp_nar .byte (dgT.getD (-v0).toNatClampNeg 0))) (((v5 + (-1 : Int32)) + (-1 : Int32)) + (-1 : Int32)).toNatClampNeg (vp_nar .byte (45 : Int32))), rfl, hw, by rw [ht]; exact hP9, va_K.moved hW.alike hK, hD9⟩, hS.F ht⟩) hS.2.2 d_Integer_getChars_120
  refine lv_iload_n hx hb d_Integer_getChars_0 rfl (lv_at hl 1 rfl) ?_
  refine lv_istore (lv' := [(5, .int x1), (0, .int x0), (1, .int x1), (2, .ref h_p2)]) hx hb d_Integer_getChars_1 hl (by decide) rfl (fun ls hl => ?_)
  refine lv_iload_n hx hb d_Integer_getChars_3 rfl (lv_at hl 1 rfl) ?_
  refine lv_if_ge (tgt := 11) hx hb d_Integer_getChars_4 (by decide) (fun c_40 => ?_) (fun c_40 => ?_)
  · have hw := hw.1 c_40
    refine lv_iconst (v := 0) hx hb d_Integer_getChars_11 (by decide) ?_
    exact J12 x0 x1 (0 : Int32) f_p2 _ _ ls (lv_sub hl [1, 3, 0] rfl) hP hD hS hw
  · have hw := hw.2 c_40
    refine lv_iconst (v := 1) hx hb d_Integer_getChars_7 (by decide) ?_
    refine lv_goto (tgt := 12) hx hb d_Integer_getChars_8 (by decide) ?_
    exact J12 x0 x1 (1 : Int32) f_p2 _ _ ls (lv_sub hl [1, 3, 0] rfl) hP hD hS hw

set_option maxHeartbeats 4000000 in
set_option maxRecDepth 100000 in
theorem c_ArrSup_newLength (l : Launch) (dC : Nat → ClassId) (dI : Nat → Nat → Nat)   (sz : Nat)   (x0 : Int32) (x1 : Int32) (x2 : Int32) (post : Int32 → Prop) (hw : wp_ArrSup_newLength  x0 x1 x2 post) : Met l y_ArrSup_newLength (ws_ y_ArrSup_newLength b_ArrSup_newLength 4 (some .int)) { frames := 1, cells := 0, slots := 0, locals := 21 } (va_Pc [.int x0, .int x1, .int x2] (PRE (dC, dI) vwCl [] [] sz (va_A [] sz))) (va_Qi (fun (r : Int32) (u : Unit) => post r ) (fun (u : Unit) (t : State) => va_P (dC, dI) vwCl [] t.heap ∧ va_K (dC, dI) vwCl [] t ∧ va_D (va_A [] sz) []) (va_A [] sz)) 0 0 (va_A [] sz) := by
  refine Met.ofW (cc := b_ArrSup_newLength) (maxL := 4) (ret := (some .int)) (by decide) rfl ?_
  intro p e s m args below meth c s₁ B hml hv
  obtain ⟨rfl, hsz, hP, hK, hD0, hG⟩ := hv
  have hx := B.exec
  have hb := B.bytes
  have hr := B.returns
  have hts : ∀ w ∈ tb, w.before _ s = true := fun w h => atoms_spec (ws := ws_ _ _ _ _) B.pre w (List.mem_cons_of_mem _ h)
  have hown : s.vm.findClass R_ArrSup = some m.cls := findClass_of_methodNamed B.named
  have hlocks := B.notSynchronized
  subst hsz
  have hD := hD0.self (sz := s.heap.size)
  generalize hAe : va_A [] s.heap.size = A at hD hG ⊢
  have hA : ∀ q : Nat, s.heap.size ≤ q → A q := fun q h => by rw [← hAe]; exact Or.inr h
  have hS : va_S A s.heap s.heap [] := va_S.rf
  have hP : va_P (dC, dI) vwCl [] s.heap := hP
  have hl := lv_entry [.int x0, .int x1, .int x2] (n := 4) (Nat.le_of_ble_eq_true rfl)
  rw [lg_entry_eq]
  generalize (lg_sl [.int x0, .int x1, .int x2] ++ List.replicate (4 - (lg_sl [.int x0, .int x1, .int x2]).length) Slot.unset).toArray = ls at hl ⊢
  have hl : lv_has ls 4 [(0, .int x0), (1, .int x1), (2, .int x2)] := hl
  obtain ⟨Q, hQ⟩ : ∃ Q : State → Prop, Q = MQ below (va_Qi (fun (r : Int32) (u : Unit) => post r ) (fun (u : Unit) (t : State) => va_P (dC, dI) vwCl [] t.heap ∧ va_K (dC, dI) vwCl [] t ∧ va_D A []) A) ([.int x0, .int x1, .int x2] : List Value).toArray s 0 0 A := ⟨_, rfl⟩
  rw [← hQ]
  unfold wp_ArrSup_newLength at hw
  refine lv_iload_n hx hb d_ArrSup_newLength_0 rfl (lv_at hl 0 rfl) ?_
  refine lv_iload_n hx hb d_ArrSup_newLength_1 rfl (lv_at hl 1 rfl) ?_
  refine lv_iload_n hx hb d_ArrSup_newLength_2 rfl (lv_at hl 2 rfl) ?_
  refine va_mmax hx hb (by rw [hml]; exact hl.1.symm) hown (hts _ kt_770) (hts _ kt_174) (hts _ kt_11) (hts _ kt_175) (Nat.le_of_ble_eq_true rfl) (Nat.le_of_ble_eq_true rfl) (Nat.zero_le _) (Nat.zero_le _) d_ArrSup_newLength_3 ?_
  refine lv_iadd hx hb d_ArrSup_newLength_6 ?_
  refine lv_istore_n (lv' := [(3, .int (x0 + (if x1 < x2 then x2 else x1))), (0, .int x0), (1, .int x1), (2, .int x2)]) hx hb d_ArrSup_newLength_7 rfl hl (by decide) rfl (fun ls hl => ?_)
  refine lv_iconst (v := 0) hx hb d_ArrSup_newLength_8 (by decide) ?_
  refine lv_iload_n hx hb d_ArrSup_newLength_9 rfl (lv_at hl 0 rfl) ?_
  refine lv_icmp_ge (tgt := 21) hx hb d_ArrSup_newLength_10 (by decide) (fun c_1 => ?_) (fun c_1 => ?_)
  · have hw := hw.1 c_1
    refine lv_iload_n hx hb d_ArrSup_newLength_21 rfl (lv_at hl 1 rfl) ?_
    refine lv_iload_n hx hb d_ArrSup_newLength_22 rfl (lv_at hl 2 rfl) ?_
    exact False.elim hw
  · have hw := hw.2 c_1
    refine lv_iload_n hx hb d_ArrSup_newLength_13 rfl (lv_at hl 0 rfl) ?_
    refine lv_ldc hx hb hown (hts _ kt_771) d_ArrSup_newLength_14 ?_
    refine lv_icmp_gt (tgt := 21) hx hb d_ArrSup_newLength_16 (by decide) (fun c_2 => ?_) (fun c_2 => ?_)
    · have hw := hw.1 c_2
      refine lv_iload_n hx hb d_ArrSup_newLength_21 rfl (lv_at hl 1 rfl) ?_
      refine lv_iload_n hx hb d_ArrSup_newLength_22 rfl (lv_at hl 2 rfl) ?_
      exact False.elim hw
    · have hw := hw.2 c_2
      refine lv_iload_n hx hb d_ArrSup_newLength_19 rfl (lv_at hl 0 rfl) ?_
      have hP9 : va_P (dC, dI) vwCl [] _ := hP
      have hD9 : va_D A [] := hD
      rw [hQ]
      exact W.iret (v := x0 + (if x1 < x2 then x2 else x1)) hx hb hr (fun t ht hW => ⟨⟨x0 + (if x1 < x2 then x2 else x1), (), rfl, hw, by rw [ht]; exact hP9, va_K.moved hW.alike hK, hD9⟩, hS.F ht⟩) hS.2.2 d_ArrSup_newLength_20

set_option maxHeartbeats 4000000 in
set_option maxRecDepth 100000 in
theorem c_Latin1_canEncode (l : Launch) (dC : Nat → ClassId) (dI : Nat → Nat → Nat)   (sz : Nat)   (x0 : Int32) (post : Int32 → Prop) (hw : wp_Latin1_canEncode  x0 post) : Met l y_Latin1_canEncode (ws_ y_Latin1_canEncode b_Latin1_canEncode 1 (some .boolean)) { frames := 0, cells := 0, slots := 0, locals := 0 } (va_Pc [.int x0] (PRE (dC, dI) vwCl [] [] sz (va_A [] sz))) (va_Qi (fun (r : Int32) (u : Unit) => post r ) (fun (u : Unit) (t : State) => va_P (dC, dI) vwCl [] t.heap ∧ va_K (dC, dI) vwCl [] t ∧ va_D (va_A [] sz) []) (va_A [] sz)) 0 0 (va_A [] sz) := by
  refine Met.ofW (cc := b_Latin1_canEncode) (maxL := 1) (ret := (some .boolean)) (by decide) rfl ?_
  intro p e s m args below meth c s₁ B hml hv
  obtain ⟨rfl, hsz, hP, hK, hD0, hG⟩ := hv
  have hx := B.exec
  have hb := B.bytes
  have hr := B.returns
  have hts : ∀ w ∈ tb, w.before _ s = true := fun w h => atoms_spec (ws := ws_ _ _ _ _) B.pre w (List.mem_cons_of_mem _ h)
  have hown : s.vm.findClass R_Latin1 = some m.cls := findClass_of_methodNamed B.named
  have hlocks := B.notSynchronized
  subst hsz
  have hD := hD0.self (sz := s.heap.size)
  generalize hAe : va_A [] s.heap.size = A at hD hG ⊢
  have hA : ∀ q : Nat, s.heap.size ≤ q → A q := fun q h => by rw [← hAe]; exact Or.inr h
  have hS : va_S A s.heap s.heap [] := va_S.rf
  have hP : va_P (dC, dI) vwCl [] s.heap := hP
  have hl := lv_entry [.int x0] (n := 1) (Nat.le_of_ble_eq_true rfl)
  rw [lg_entry_eq]
  generalize (lg_sl [.int x0] ++ List.replicate (1 - (lg_sl [.int x0]).length) Slot.unset).toArray = ls at hl ⊢
  have hl : lv_has ls 1 [(0, .int x0)] := hl
  obtain ⟨Q, hQ⟩ : ∃ Q : State → Prop, Q = MQ below (va_Qi (fun (r : Int32) (u : Unit) => post r ) (fun (u : Unit) (t : State) => va_P (dC, dI) vwCl [] t.heap ∧ va_K (dC, dI) vwCl [] t ∧ va_D A []) A) ([.int x0] : List Value).toArray s 0 0 A := ⟨_, rfl⟩
  rw [← hQ]
  unfold wp_Latin1_canEncode at hw
  refine lv_iload_n hx hb d_Latin1_canEncode_0 rfl (lv_at hl 0 rfl) ?_
  refine lv_sipush (v := 255) hx hb d_Latin1_canEncode_1 (by decide) ?_
  refine lv_icmp_gt (tgt := 11) hx hb d_Latin1_canEncode_4 (by decide) (fun c_1 => ?_) (fun c_1 => ?_)
  · have hw := hw.1 c_1
    refine lv_iconst (v := 0) hx hb d_Latin1_canEncode_11 (by decide) ?_
    have hP9 : va_P (dC, dI) vwCl [] _ := hP
    have hD9 : va_D A [] := hD
    rw [hQ]
    exact W.zret (v := (0 : Int32)) hx hb hr rfl (fun t ht hW => ⟨⟨(0 : Int32), (), rfl, hw, by rw [ht]; exact hP9, va_K.moved hW.alike hK, hD9⟩, hS.F ht⟩) hS.2.2 d_Latin1_canEncode_12
  · have hw := hw.2 c_1
    refine lv_iconst (v := 1) hx hb d_Latin1_canEncode_7 (by decide) ?_
    refine lv_goto (tgt := 12) hx hb d_Latin1_canEncode_8 (by decide) ?_
    have hP9 : va_P (dC, dI) vwCl [] _ := hP
    have hD9 : va_D A [] := hD
    rw [hQ]
    exact W.zret (v := (1 : Int32)) hx hb hr rfl (fun t ht hW => ⟨⟨(1 : Int32), (), rfl, hw, by rw [ht]; exact hP9, va_K.moved hW.alike hK, hD9⟩, hS.F ht⟩) hS.2.2 d_Latin1_canEncode_12

set_option maxHeartbeats 4000000 in
set_option maxRecDepth 100000 in
theorem c_ASB_isLatin1 (l : Launch) (dC : Nat → ClassId) (dI : Nat → Nat → Nat) (h_this : Nat) (c_value : ClassId) (sz : Nat)  (i_coder : Int32) (i_maybeLatin1 : Int32) (i_count : Int32) (a_value : Nat) (n_value : Nat) (f_value : Nat → Int32)  (post : Int32 → Prop) (hw : wp_ASB_isLatin1 i_coder  post) : Met l y_ASB_isLatin1 (ws_ y_ASB_isLatin1 b_ASB_isLatin1 1 (some .boolean)) { frames := 0, cells := 0, slots := 0, locals := 0 } (va_Pc [.ref h_this] (PRE (dC, dI) vwCl [(c_value, .byte)] [ob_SB h_this a_value i_coder i_maybeLatin1 i_count, ar_ a_value c_value n_value f_value] sz (va_A [ob_SB h_this a_value i_coder i_maybeLatin1 i_count, ar_ a_value c_value n_value f_value] sz))) (va_Qi (fun (r : Int32) (u : Unit) => post r ) (fun (u : Unit) (t : State) => va_P (dC, dI) vwCl [ob_SB h_this a_value i_coder i_maybeLatin1 i_count, ar_ a_value c_value n_value f_value] t.heap ∧ va_K (dC, dI) vwCl [(c_value, .byte)] t ∧ va_D (va_A [ob_SB h_this a_value i_coder i_maybeLatin1 i_count, ar_ a_value c_value n_value f_value] sz) [ob_SB h_this a_value i_coder i_maybeLatin1 i_count, ar_ a_value c_value n_value f_value]) (va_A [ob_SB h_this a_value i_coder i_maybeLatin1 i_count, ar_ a_value c_value n_value f_value] sz)) 0 0 (va_A [ob_SB h_this a_value i_coder i_maybeLatin1 i_count, ar_ a_value c_value n_value f_value] sz) := by
  refine Met.ofW (cc := b_ASB_isLatin1) (maxL := 1) (ret := (some .boolean)) (by decide) rfl ?_
  intro p e s m args below meth c s₁ B hml hv
  obtain ⟨rfl, hsz, hP, hK, hD0, hG⟩ := hv
  have hx := B.exec
  have hb := B.bytes
  have hr := B.returns
  have hts : ∀ w ∈ tb, w.before _ s = true := fun w h => atoms_spec (ws := ws_ _ _ _ _) B.pre w (List.mem_cons_of_mem _ h)
  have hown : s.vm.findClass R_ASB = some m.cls := findClass_of_methodNamed B.named
  have hlocks := B.notSynchronized
  subst hsz
  have hD := hD0.self (sz := s.heap.size)
  generalize hAe : va_A [ob_SB h_this a_value i_coder i_maybeLatin1 i_count, ar_ a_value c_value n_value f_value] s.heap.size = A at hD hG ⊢
  have hA : ∀ q : Nat, s.heap.size ≤ q → A q := fun q h => by rw [← hAe]; exact Or.inr h
  have hS : va_S A s.heap s.heap [] := va_S.rf
  have hP : va_P (dC, dI) vwCl [ob_SB h_this a_value i_coder i_maybeLatin1 i_count, ar_ a_value c_value n_value f_value] s.heap := hP
  have hl := lv_entry [.ref h_this] (n := 1) (Nat.le_of_ble_eq_true rfl)
  rw [lg_entry_eq]
  generalize (lg_sl [.ref h_this] ++ List.replicate (1 - (lg_sl [.ref h_this]).length) Slot.unset).toArray = ls at hl ⊢
  have hl : lv_has ls 1 [(0, .ref h_this)] := hl
  obtain ⟨Q, hQ⟩ : ∃ Q : State → Prop, Q = MQ below (va_Qi (fun (r : Int32) (u : Unit) => post r ) (fun (u : Unit) (t : State) => va_P (dC, dI) vwCl [ob_SB h_this a_value i_coder i_maybeLatin1 i_count, ar_ a_value c_value n_value f_value] t.heap ∧ va_K (dC, dI) vwCl [(c_value, .byte)] t ∧ va_D A [ob_SB h_this a_value i_coder i_maybeLatin1 i_count, ar_ a_value c_value n_value f_value]) A) ([.ref h_this] : List Value).toArray s 0 0 A := ⟨_, rfl⟩
  rw [← hQ]
  unfold wp_ASB_isLatin1 at hw
  refine va_gets hx hb hG.2.2.2.1 hS hown (hts _ kt_234) (fun _ h9 => h9) d_ASB_isLatin1_0 ?_
  refine lv_if_eq (tgt := 17) hx hb d_ASB_isLatin1_3 (by decide) (fun c_1 => ?_) (fun c_1 => ?_)
  · have hw := hw.1 c_1
    refine lv_iconst (v := 0) hx hb d_ASB_isLatin1_17 (by decide) ?_
    have hP9 : va_P (dC, dI) vwCl [ob_SB h_this a_value i_coder i_maybeLatin1 i_count, ar_ a_value c_value n_value f_value] _ := hP
    have hD9 : va_D A [ob_SB h_this a_value i_coder i_maybeLatin1 i_count, ar_ a_value c_value n_value f_value] := hD
    rw [hQ]
    exact W.zret (v := (0 : Int32)) hx hb hr rfl (fun t ht hW => ⟨⟨(0 : Int32), (), rfl, hw, by rw [ht]; exact hP9, va_K.moved hW.alike hK, hD9⟩, hS.F ht⟩) hS.2.2 d_ASB_isLatin1_18
  · have hw := hw.2 c_1
    refine lv_aload_n hx hb d_ASB_isLatin1_6 rfl (lv_at hl 0 rfl) ?_
    refine va_get (D := (dC, dI)) (ci := 8) (v := .int i_coder) (C := R_SB) (T := T_SB) (N := 4) hx hb hts in_SB hown hK hP 0 rfl rfl 1 (by decide) (hts _ kt_243) (fun _ h9 => h9) rfl d_ASB_isLatin1_7 ?_
    refine lv_if_ne (tgt := 17) hx hb d_ASB_isLatin1_10 (by decide) (fun c_2 => ?_) (fun c_2 => ?_)
    · have hw := hw.2 c_2
      refine lv_iconst (v := 0) hx hb d_ASB_isLatin1_17 (by decide) ?_
      have hP9 : va_P (dC, dI) vwCl [ob_SB h_this a_value i_coder i_maybeLatin1 i_count, ar_ a_value c_value n_value f_value] _ := hP
      have hD9 : va_D A [ob_SB h_this a_value i_coder i_maybeLatin1 i_count, ar_ a_value c_value n_value f_value] := hD
      rw [hQ]
      exact W.zret (v := (0 : Int32)) hx hb hr rfl (fun t ht hW => ⟨⟨(0 : Int32), (), rfl, hw, by rw [ht]; exact hP9, va_K.moved hW.alike hK, hD9⟩, hS.F ht⟩) hS.2.2 d_ASB_isLatin1_18
    · have hw := hw.1 c_2
      refine lv_iconst (v := 1) hx hb d_ASB_isLatin1_13 (by decide) ?_
      refine lv_goto (tgt := 18) hx hb d_ASB_isLatin1_14 (by decide) ?_
      have hP9 : va_P (dC, dI) vwCl [ob_SB h_this a_value i_coder i_maybeLatin1 i_count, ar_ a_value c_value n_value f_value] _ := hP
      have hD9 : va_D A [ob_SB h_this a_value i_coder i_maybeLatin1 i_count, ar_ a_value c_value n_value f_value] := hD
      rw [hQ]
      exact W.zret (v := (1 : Int32)) hx hb hr rfl (fun t ht hW => ⟨⟨(1 : Int32), (), rfl, hw, by rw [ht]; exact hP9, va_K.moved hW.alike hK, hD9⟩, hS.F ht⟩) hS.2.2 d_ASB_isLatin1_18

set_option maxHeartbeats 4000000 in
set_option maxRecDepth 100000 in
theorem c_ASB_length (l : Launch) (dC : Nat → ClassId) (dI : Nat → Nat → Nat) (h_this : Nat) (c_value : ClassId) (sz : Nat)  (i_coder : Int32) (i_maybeLatin1 : Int32) (i_count : Int32) (a_value : Nat) (n_value : Nat) (f_value : Nat → Int32)  (post : Int32 → Prop) (hw : wp_ASB_length i_count  post) : Met l y_ASB_length (ws_ y_ASB_length b_ASB_length 1 (some .int)) { frames := 0, cells := 0, slots := 0, locals := 0 } (va_Pc [.ref h_this] (PRE (dC, dI) vwCl [(c_value, .byte)] [ob_SB h_this a_value i_coder i_maybeLatin1 i_count, ar_ a_value c_value n_value f_value] sz (va_A [ob_SB h_this a_value i_coder i_maybeLatin1 i_count, ar_ a_value c_value n_value f_value] sz))) (va_Qi (fun (r : Int32) (u : Unit) => post r ) (fun (u : Unit) (t : State) => va_P (dC, dI) vwCl [ob_SB h_this a_value i_coder i_maybeLatin1 i_count, ar_ a_value c_value n_value f_value] t.heap ∧ va_K (dC, dI) vwCl [(c_value, .byte)] t ∧ va_D (va_A [ob_SB h_this a_value i_coder i_maybeLatin1 i_count, ar_ a_value c_value n_value f_value] sz) [ob_SB h_this a_value i_coder i_maybeLatin1 i_count, ar_ a_value c_value n_value f_value]) (va_A [ob_SB h_this a_value i_coder i_maybeLatin1 i_count, ar_ a_value c_value n_value f_value] sz)) 0 0 (va_A [ob_SB h_this a_value i_coder i_maybeLatin1 i_count, ar_ a_value c_value n_value f_value] sz) := by
  refine Met.ofW (cc := b_ASB_length) (maxL := 1) (ret := (some .int)) (by decide) rfl ?_
  intro p e s m args below meth c s₁ B hml hv
  obtain ⟨rfl, hsz, hP, hK, hD0, hG⟩ := hv
  have hx := B.exec
  have hb := B.bytes
  have hr := B.returns
  have hts : ∀ w ∈ tb, w.before _ s = true := fun w h => atoms_spec (ws := ws_ _ _ _ _) B.pre w (List.mem_cons_of_mem _ h)
  have hown : s.vm.findClass R_ASB = some m.cls := findClass_of_methodNamed B.named
  have hlocks := B.notSynchronized
  subst hsz
  have hD := hD0.self (sz := s.heap.size)
  generalize hAe : va_A [ob_SB h_this a_value i_coder i_maybeLatin1 i_count, ar_ a_value c_value n_value f_value] s.heap.size = A at hD hG ⊢
  have hA : ∀ q : Nat, s.heap.size ≤ q → A q := fun q h => by rw [← hAe]; exact Or.inr h
  have hS : va_S A s.heap s.heap [] := va_S.rf
  have hP : va_P (dC, dI) vwCl [ob_SB h_this a_value i_coder i_maybeLatin1 i_count, ar_ a_value c_value n_value f_value] s.heap := hP
  have hl := lv_entry [.ref h_this] (n := 1) (Nat.le_of_ble_eq_true rfl)
  rw [lg_entry_eq]
  generalize (lg_sl [.ref h_this] ++ List.replicate (1 - (lg_sl [.ref h_this]).length) Slot.unset).toArray = ls at hl ⊢
  have hl : lv_has ls 1 [(0, .ref h_this)] := hl
  obtain ⟨Q, hQ⟩ : ∃ Q : State → Prop, Q = MQ below (va_Qi (fun (r : Int32) (u : Unit) => post r ) (fun (u : Unit) (t : State) => va_P (dC, dI) vwCl [ob_SB h_this a_value i_coder i_maybeLatin1 i_count, ar_ a_value c_value n_value f_value] t.heap ∧ va_K (dC, dI) vwCl [(c_value, .byte)] t ∧ va_D A [ob_SB h_this a_value i_coder i_maybeLatin1 i_count, ar_ a_value c_value n_value f_value]) A) ([.ref h_this] : List Value).toArray s 0 0 A := ⟨_, rfl⟩
  rw [← hQ]
  unfold wp_ASB_length at hw
  refine lv_aload_n hx hb d_ASB_length_0 rfl (lv_at hl 0 rfl) ?_
  refine va_get (D := (dC, dI)) (ci := 8) (v := .int i_count) (C := R_SB) (T := T_SB) (N := 4) hx hb hts in_SB hown hK hP 0 rfl rfl 3 (by decide) (hts _ kt_245) (fun _ h9 => h9) rfl d_ASB_length_1 ?_
  have hP9 : va_P (dC, dI) vwCl [ob_SB h_this a_value i_coder i_maybeLatin1 i_count, ar_ a_value c_value n_value f_value] _ := hP
  have hD9 : va_D A [ob_SB h_this a_value i_coder i_maybeLatin1 i_count, ar_ a_value c_value n_value f_value] := hD
  rw [hQ]
  exact W.iret (v := i_count) hx hb hr (fun t ht hW => ⟨⟨i_count, (), rfl, hw, by rw [ht]; exact hP9, va_K.moved hW.alike hK, hD9⟩, hS.F ht⟩) hS.2.2 d_ASB_length_4

set_option maxHeartbeats 4000000 in
set_option maxRecDepth 100000 in
theorem c_ASB_newCapacity (l : Launch) (dC : Nat → ClassId) (dI : Nat → Nat → Nat) (h_this : Nat) (c_value : ClassId) (sz : Nat)  (i_coder : Int32) (i_maybeLatin1 : Int32) (i_count : Int32) (a_value : Nat) (n_value : Nat) (f_value : Nat → Int32) (x1 : Int32) (post : Int32 → Prop) (hw : wp_ASB_newCapacity i_coder n_value x1 post) : Met l y_ASB_newCapacity (ws_ y_ASB_newCapacity b_ASB_newCapacity 6 (some .int)) { frames := 2, cells := 0, slots := 0, locals := 44 } (va_Pc [.ref h_this, .int x1] (PRE (dC, dI) vwCl [(c_value, .byte)] [ob_SB h_this a_value i_coder i_maybeLatin1 i_count, ar_ a_value c_value n_value f_value] sz (va_A [ob_SB h_this a_value i_coder i_maybeLatin1 i_count, ar_ a_value c_value n_value f_value] sz))) (va_Qi (fun (r : Int32) (u : Unit) => post r ) (fun (u : Unit) (t : State) => va_P (dC, dI) vwCl [ob_SB h_this a_value i_coder i_maybeLatin1 i_count, ar_ a_value c_value n_value f_value] t.heap ∧ va_K (dC, dI) vwCl [(c_value, .byte)] t ∧ va_D (va_A [ob_SB h_this a_value i_coder i_maybeLatin1 i_count, ar_ a_value c_value n_value f_value] sz) [ob_SB h_this a_value i_coder i_maybeLatin1 i_count, ar_ a_value c_value n_value f_value]) (va_A [ob_SB h_this a_value i_coder i_maybeLatin1 i_count, ar_ a_value c_value n_value f_value] sz)) 0 0 (va_A [ob_SB h_this a_value i_coder i_maybeLatin1 i_count, ar_ a_value c_value n_value f_value] sz) := by
  refine Met.ofW (cc := b_ASB_newCapacity) (maxL := 6) (ret := (some .int)) (by decide) rfl ?_
  intro p e s m args below meth c s₁ B hml hv
  obtain ⟨rfl, hsz, hP, hK, hD0, hG⟩ := hv
  have hx := B.exec
  have hb := B.bytes
  have hr := B.returns
  have hts : ∀ w ∈ tb, w.before _ s = true := fun w h => atoms_spec (ws := ws_ _ _ _ _) B.pre w (List.mem_cons_of_mem _ h)
  have hown : s.vm.findClass R_ASB = some m.cls := findClass_of_methodNamed B.named
  have hlocks := B.notSynchronized
  subst hsz
  have hD := hD0.self (sz := s.heap.size)
  generalize hAe : va_A [ob_SB h_this a_value i_coder i_maybeLatin1 i_count, ar_ a_value c_value n_value f_value] s.heap.size = A at hD hG ⊢
  have hA : ∀ q : Nat, s.heap.size ≤ q → A q := fun q h => by rw [← hAe]; exact Or.inr h
  have hS : va_S A s.heap s.heap [] := va_S.rf
  have hP : va_P (dC, dI) vwCl [ob_SB h_this a_value i_coder i_maybeLatin1 i_count, ar_ a_value c_value n_value f_value] s.heap := hP
  have hl := lv_entry [.ref h_this, .int x1] (n := 6) (Nat.le_of_ble_eq_true rfl)
  rw [lg_entry_eq]
  generalize (lg_sl [.ref h_this, .int x1] ++ List.replicate (6 - (lg_sl [.ref h_this, .int x1]).length) Slot.unset).toArray = ls at hl ⊢
  have hl : lv_has ls 6 [(0, .ref h_this), (1, .int x1)] := hl
  obtain ⟨Q, hQ⟩ : ∃ Q : State → Prop, Q = MQ below (va_Qi (fun (r : Int32) (u : Unit) => post r ) (fun (u : Unit) (t : State) => va_P (dC, dI) vwCl [ob_SB h_this a_value i_coder i_maybeLatin1 i_count, ar_ a_value c_value n_value f_value] t.heap ∧ va_K (dC, dI) vwCl [(c_value, .byte)] t ∧ va_D A [ob_SB h_this a_value i_coder i_maybeLatin1 i_count, ar_ a_value c_value n_value f_value]) A) ([.ref h_this, .int x1] : List Value).toArray s 0 0 A := ⟨_, rfl⟩
  rw [← hQ]
  unfold wp_ASB_newCapacity at hw
  refine lv_aload_n hx hb d_ASB_newCapacity_0 rfl (lv_at hl 0 rfl) ?_
  refine va_get (D := (dC, dI)) (ci := 8) (v := .ref a_value) (C := R_SB) (T := T_SB) (N := 4) hx hb hts in_SB hown hK hP 0 rfl rfl 0 (by decide) (hts _ kt_242) (fun _ h9 => h9) rfl d_ASB_newCapacity_1 ?_
  refine va_alen (v := Int32.ofNat n_value) hx hb hK hP 1 0 rfl rfl rfl d_ASB_newCapacity_4 ?_
  refine lv_istore_n (lv' := [(2, .int (Int32.ofNat n_value)), (0, .ref h_this), (1, .int x1)]) hx hb d_ASB_newCapacity_5 rfl hl (by decide) rfl (fun ls hl => ?_)
  refine lv_iload_n hx hb d_ASB_newCapacity_6 rfl (lv_at hl 2 rfl) ?_
  refine lv_aload_n hx hb d_ASB_newCapacity_7 rfl (lv_at hl 1 rfl) ?_
  refine va_get (D := (dC, dI)) (ci := 8) (v := .int i_coder) (C := R_SB) (T := T_SB) (N := 4) hx hb hts in_SB hown hK hP 0 rfl rfl 1 (by decide) (hts _ kt_243) (fun _ h9 => h9) rfl d_ASB_newCapacity_8 ?_
  refine lv_ishl hx hb d_ASB_newCapacity_11 ?_
  refine lv_istore_n (lv' := [(3, .int (x1 <<< (i_coder &&& 31))), (2, .int (Int32.ofNat n_value)), (0, .ref h_this), (1, .int x1)]) hx hb d_ASB_newCapacity_12 rfl hl (by decide) rfl (fun ls hl => ?_)
  refine lv_iload_n hx hb d_ASB_newCapacity_13 rfl (lv_at hl 0 rfl) ?_
  refine lv_iload_n hx hb d_ASB_newCapacity_14 rfl (lv_at hl 1 rfl) ?_
  refine lv_isub hx hb d_ASB_newCapacity_15 ?_
  refine lv_topi (fun x4_1 ex4_1 => ?_)
  have hw := hw x4_1 ex4_1
  refine lv_istore (lv' := [(4, .int x4_1), (3, .int (x1 <<< (i_coder &&& 31))), (2, .int (Int32.ofNat n_value)), (0, .ref h_this), (1, .int x1)]) hx hb d_ASB_newCapacity_16 hl (by decide) rfl (fun ls hl => ?_)
  refine lv_iload_n hx hb d_ASB_newCapacity_18 rfl (lv_at hl 2 rfl) ?_
  refine lv_iload hx hb d_ASB_newCapacity_19 (lv_at hl 0 rfl) ?_
  refine lv_iload_n hx hb d_ASB_newCapacity_21 rfl (lv_at hl 2 rfl) ?_
  refine lv_iconst (v := 2) hx hb d_ASB_newCapacity_22 (by decide) ?_
  refine lv_aload_n hx hb d_ASB_newCapacity_23 rfl (lv_at hl 3 rfl) ?_
  refine va_get (D := (dC, dI)) (ci := 8) (v := .int i_coder) (C := R_SB) (T := T_SB) (N := 4) hx hb hts in_SB hown hK hP 0 rfl rfl 1 (by decide) (hts _ kt_243) (fun _ h9 => h9) rfl d_ASB_newCapacity_24 ?_
  refine lv_ishl hx hb d_ASB_newCapacity_27 ?_
  refine lv_iadd hx hb d_ASB_newCapacity_28 ?_
  have hPc := hP.sub (ws' := []) [] rfl
  have hDc := hD.sub (ws' := []) [] (by decide) rfl
  have hKc := hK.sub (tys' := []) [] rfl
  have hFc := va_free (wc := []) hD hS hA [] rfl
  refine va_calli (va_runS (As := [.int (Int32.ofNat n_value), .int x4_1, .int ((Int32.ofNat n_value) + ((2 : Int32) <<< (i_coder &&& 31)))]) (rest := []) ⟨hx, hb, hml, hown, hts⟩ (c_ArrSup_newLength l dC dI s.heap.size (Int32.ofNat n_value) x4_1 ((Int32.ofNat n_value) + ((2 : Int32) <<< (i_coder &&& 31))) _ hw) (va_cwS 3 hts (gd_S kt_767 kt_768 kt_19 kt_769) rfl rfl rfl (by decide +kernel) ⟨Nat.le_of_ble_eq_true rfl, Nat.le_of_ble_eq_true rfl⟩) ⟨pre_blind, pre_ok hPc hKc hDc hG hS hFc⟩ rfl rfl hl.1 rfl (lv_room (Nat.le_of_ble_eq_true rfl)) d_ASB_newCapacity_29 ⟨Nat.zero_le _, Nat.zero_le _⟩) hS (fun q _ h => hFc q h) hFc (fun r_2 u t H1 locs ht hvm hw hB hz1 hk1 hS => ?_)
  obtain ⟨hP1, hK1, hD1⟩ := hB
  rw [ht] at hP1
  try dsimp only at hw
  obtain ⟨hP, hD⟩ := va_join (wr := [ob_SB h_this a_value i_coder i_maybeLatin1 i_count, ar_ a_value c_value n_value f_value]) (w1 := []) hP hD [] [0, 1] rfl rfl (by decide) (by decide) hk1 hFc hP1 hD1
  generalize H1 = H at hP hS ⊢
  have hP : va_P (dC, dI) vwCl [ob_SB h_this a_value i_coder i_maybeLatin1 i_count, ar_ a_value c_value n_value f_value] H := hP
  have hD : va_D A [ob_SB h_this a_value i_coder i_maybeLatin1 i_count, ar_ a_value c_value n_value f_value] := hD
  refine lv_istore (lv' := [(5, .int r_2), (4, .int x4_1), (3, .int (x1 <<< (i_coder &&& 31))), (2, .int (Int32.ofNat n_value)), (0, .ref h_this), (1, .int x1)]) hx hb d_ASB_newCapacity_32 hl (by decide) rfl (fun ls hl => ?_)
  refine lv_iload hx hb d_ASB_newCapacity_34 (lv_at hl 0 rfl) ?_
  refine lv_ldc hx hb hown (hts _ kt_775) d_ASB_newCapacity_36 ?_
  refine lv_icmp_ne (tgt := 51) hx hb d_ASB_newCapacity_38 (by decide) (fun c_3 => ?_) (fun c_3 => ?_)
  · have hw := hw.2 c_3
    refine lv_iload hx hb d_ASB_newCapacity_51 (lv_at hl 0 rfl) ?_
    refine lv_aload_n hx hb d_ASB_newCapacity_53 rfl (lv_at hl 4 rfl) ?_
    refine va_get (D := (dC, dI)) (ci := 8) (v := .int i_coder) (C := R_SB) (T := T_SB) (N := 4) hx hb hts in_SB hown hK hP 0 rfl rfl 1 (by decide) (hts _ kt_243) (fun _ h9 => h9) rfl d_ASB_newCapacity_54 ?_
    refine lv_ishr hx hb d_ASB_newCapacity_57 ?_
    have hP9 : va_P (dC, dI) vwCl [ob_SB h_this a_value i_coder i_maybeLatin1 i_count, ar_ a_value c_value n_value f_value] _ := hP
    have hD9 : va_D A [ob_SB h_this a_value i_coder i_maybeLatin1 i_count, ar_ a_value c_value n_value f_value] := hD
    rw [hQ]
    exact W.iret (v := r_2 >>> (i_coder &&& 31)) hx hb hr (fun t ht hW => ⟨⟨r_2 >>> (i_coder &&& 31), (), rfl, hw, by rw [ht]; exact hP9, va_K.moved hW.alike hK, hD9⟩, hS.F ht⟩) hS.2.2 d_ASB_newCapacity_58
  · have hw := hw.1 c_3
    exact False.elim hw

set_option maxHeartbeats 4000000 in
set_option maxRecDepth 100000 in
theorem c_ASB_charAt (l : Launch) (dC : Nat → ClassId) (dI : Nat → Nat → Nat) (h_this : Nat) (c_value : ClassId) (sz : Nat)  (i_coder : Int32) (i_maybeLatin1 : Int32) (i_count : Int32) (a_value : Nat) (n_value : Nat) (f_value : Nat → Int32) (x1 : Int32) (post : Int32 → Prop) (hw : wp_ASB_charAt i_coder i_count n_value f_value x1 post) : Met l y_ASB_charAt (ws_ y_ASB_charAt b_ASB_charAt 5 (some .char)) { frames := 2, cells := 0, slots := 0, locals := 43 } (va_Pc [.ref h_this, .int x1] (PRE (dC, dI) vwCl [(c_value, .byte)] [ob_SB h_this a_value i_coder i_maybeLatin1 i_count, ar_ a_value c_value n_value f_value] sz (va_A [ob_SB h_this a_value i_coder i_maybeLatin1 i_count, ar_ a_value c_value n_value f_value] sz))) (va_Qi (fun (r : Int32) (u : Unit) => post r ) (fun (u : Unit) (t : State) => va_P (dC, dI) vwCl [ob_SB h_this a_value i_coder i_maybeLatin1 i_count, ar_ a_value c_value n_value f_value] t.heap ∧ va_K (dC, dI) vwCl [(c_value, .byte)] t ∧ va_D (va_A [ob_SB h_this a_value i_coder i_maybeLatin1 i_count, ar_ a_value c_value n_value f_value] sz) [ob_SB h_this a_value i_coder i_maybeLatin1 i_count, ar_ a_value c_value n_value f_value]) (va_A [ob_SB h_this a_value i_coder i_maybeLatin1 i_count, ar_ a_value c_value n_value f_value] sz)) 0 0 (va_A [ob_SB h_this a_value i_coder i_maybeLatin1 i_count, ar_ a_value c_value n_value f_value] sz) := by
  refine Met.ofW (cc := b_ASB_charAt) (maxL := 5) (ret := (some .char)) (by decide) rfl ?_
  intro p e s m args below meth c s₁ B hml hv
  obtain ⟨rfl, hsz, hP, hK, hD0, hG⟩ := hv
  have hx := B.exec
  have hb := B.bytes
  have hr := B.returns
  have hts : ∀ w ∈ tb, w.before _ s = true := fun w h => atoms_spec (ws := ws_ _ _ _ _) B.pre w (List.mem_cons_of_mem _ h)
  have hown : s.vm.findClass R_ASB = some m.cls := findClass_of_methodNamed B.named
  have hlocks := B.notSynchronized
  subst hsz
  have hD := hD0.self (sz := s.heap.size)
  generalize hAe : va_A [ob_SB h_this a_value i_coder i_maybeLatin1 i_count, ar_ a_value c_value n_value f_value] s.heap.size = A at hD hG ⊢
  have hA : ∀ q : Nat, s.heap.size ≤ q → A q := fun q h => by rw [← hAe]; exact Or.inr h
  have hS : va_S A s.heap s.heap [] := va_S.rf
  have hP : va_P (dC, dI) vwCl [ob_SB h_this a_value i_coder i_maybeLatin1 i_count, ar_ a_value c_value n_value f_value] s.heap := hP
  have hl := lv_entry [.ref h_this, .int x1] (n := 5) (Nat.le_of_ble_eq_true rfl)
  rw [lg_entry_eq]
  generalize (lg_sl [.ref h_this, .int x1] ++ List.replicate (5 - (lg_sl [.ref h_this, .int x1]).length) Slot.unset).toArray = ls at hl ⊢
  have hl : lv_has ls 5 [(0, .ref h_this), (1, .int x1)] := hl
  obtain ⟨Q, hQ⟩ : ∃ Q : State → Prop, Q = MQ below (va_Qi (fun (r : Int32) (u : Unit) => post r ) (fun (u : Unit) (t : State) => va_P (dC, dI) vwCl [ob_SB h_this a_value i_coder i_maybeLatin1 i_count, ar_ a_value c_value n_value f_value] t.heap ∧ va_K (dC, dI) vwCl [(c_value, .byte)] t ∧ va_D A [ob_SB h_this a_value i_coder i_maybeLatin1 i_count, ar_ a_value c_value n_value f_value]) A) ([.ref h_this, .int x1] : List Value).toArray s 0 0 A := ⟨_, rfl⟩
  rw [← hQ]
  unfold wp_ASB_charAt at hw
  refine lv_aload_n hx hb d_ASB_charAt_0 rfl (lv_at hl 0 rfl) ?_
  refine va_get (D := (dC, dI)) (ci := 8) (v := .int i_coder) (C := R_SB) (T := T_SB) (N := 4) hx hb hts in_SB hown hK hP 0 rfl rfl 1 (by decide) (hts _ kt_243) (fun _ h9 => h9) rfl d_ASB_charAt_1 ?_
  refine lv_istore_n (lv' := [(2, .int i_coder), (0, .ref h_this), (1, .int x1)]) hx hb d_ASB_charAt_4 rfl hl (by decide) rfl (fun ls hl => ?_)
  refine lv_aload_n hx hb d_ASB_charAt_5 rfl (lv_at hl 1 rfl) ?_
  refine va_get (D := (dC, dI)) (ci := 8) (v := .ref a_value) (C := R_SB) (T := T_SB) (N := 4) hx hb hts in_SB hown hK hP 0 rfl rfl 0 (by decide) (hts _ kt_242) (fun _ h9 => h9) rfl d_ASB_charAt_6 ?_
  refine lv_astore_n (lv' := [(3, .ref a_value), (2, .int i_coder), (0, .ref h_this), (1, .int x1)]) hx hb d_ASB_charAt_9 rfl hl (by decide) rfl (fun ls hl => ?_)
  refine lv_aload_n hx hb d_ASB_charAt_10 rfl (lv_at hl 2 rfl) ?_
  refine va_get (D := (dC, dI)) (ci := 8) (v := .int i_count) (C := R_SB) (T := T_SB) (N := 4) hx hb hts in_SB hown hK hP 0 rfl rfl 3 (by decide) (hts _ kt_245) (fun _ h9 => h9) rfl d_ASB_charAt_11 ?_
  refine lv_aload_n hx hb d_ASB_charAt_14 rfl (lv_at hl 0 rfl) ?_
  refine va_alen (v := Int32.ofNat n_value) hx hb hK hP 1 0 rfl rfl rfl d_ASB_charAt_15 ?_
  refine lv_iload_n hx hb d_ASB_charAt_16 rfl (lv_at hl 1 rfl) ?_
  refine lv_ishr hx hb d_ASB_charAt_17 ?_
  refine va_mmin hx hb (by rw [hml]; exact hl.1.symm) hown (hts _ kt_988) (hts _ kt_171) (hts _ kt_11) (hts _ kt_172) (Nat.le_of_ble_eq_true rfl) (Nat.le_of_ble_eq_true rfl) (Nat.zero_le _) (Nat.zero_le _) d_ASB_charAt_18 ?_
  refine lv_topi (fun x4_1 ex4_1 => ?_)
  have hw := hw x4_1 ex4_1
  refine lv_istore (lv' := [(4, .int x4_1), (3, .ref a_value), (2, .int i_coder), (0, .ref h_this), (1, .int x1)]) hx hb d_ASB_charAt_21 hl (by decide) rfl (fun ls hl => ?_)
  refine lv_iload_n hx hb d_ASB_charAt_23 rfl (lv_at hl 4 rfl) ?_
  refine lv_iload hx hb d_ASB_charAt_24 (lv_at hl 0 rfl) ?_
  have hPc := hP.sub (ws' := []) [] rfl
  have hDc := hD.sub (ws' := []) [] (by decide) rfl
  have hKc := hK.sub (tys' := []) [] rfl
  have hFc := va_free (wc := []) hD hS hA [] rfl
  refine va_callv (va_runS (As := [.int x1, .int x4_1]) (rest := []) ⟨hx, hb, hml, hown, hts⟩ (c_String_checkIndex l dC dI s.heap.size x1 x4_1 _ hw) (va_cwS 2 hts (gd_S kt_989 kt_119 kt_5 kt_120) rfl rfl rfl (by decide +kernel) ⟨Nat.le_of_ble_eq_true rfl, Nat.le_of_ble_eq_true rfl⟩) ⟨pre_blind, pre_ok hPc hKc hDc hG hS hFc⟩ rfl rfl hl.1 rfl (lv_room (Nat.le_of_ble_eq_true rfl)) d_ASB_charAt_26 ⟨Nat.zero_le _, Nat.zero_le _⟩) hS (fun q _ h => hFc q h) hFc (fun u t H1 locs ht hvm hw hB hz1 hk1 hS => ?_)
  obtain ⟨hP1, hK1, hD1⟩ := hB
  rw [ht] at hP1
  try dsimp only at hw
  obtain ⟨hP, hD⟩ := va_join (wr := [ob_SB h_this a_value i_coder i_maybeLatin1 i_count, ar_ a_value c_value n_value f_value]) (w1 := []) hP hD [] [0, 1] rfl rfl (by decide) (by decide) hk1 hFc hP1 hD1
  generalize H1 = H at hP hS ⊢
  have hP : va_P (dC, dI) vwCl [ob_SB h_this a_value i_coder i_maybeLatin1 i_count, ar_ a_value c_value n_value f_value] H := hP
  have hD : va_D A [ob_SB h_this a_value i_coder i_maybeLatin1 i_count, ar_ a_value c_value n_value f_value] := hD
  refine lv_iload_n hx hb d_ASB_charAt_29 rfl (lv_at hl 2 rfl) ?_
  refine lv_if_ne (tgt := 42) hx hb d_ASB_charAt_30 (by decide) (fun c_2 => ?_) (fun c_2 => ?_)
  · have hw := hw.2 c_2
    refine lv_aload_n hx hb d_ASB_charAt_42 rfl (lv_at hl 1 rfl) ?_
    refine lv_iload_n hx hb d_ASB_charAt_43 rfl (lv_at hl 4 rfl) ?_
    exact False.elim hw
  · have hw := hw.1 c_2
    refine lv_aload_n hx hb d_ASB_charAt_33 rfl (lv_at hl 1 rfl) ?_
    refine lv_iload_n hx hb d_ASB_charAt_34 rfl (lv_at hl 4 rfl) ?_
    obtain ⟨h_3, hw⟩ := hw
    refine va_bald hx hb hK hP 1 0 rfl rfl h_3 d_ASB_charAt_35 ?_
    refine lv_sipush (v := 255) hx hb d_ASB_charAt_36 (by decide) ?_
    refine lv_iand hx hb d_ASB_charAt_39 ?_
    refine lv_i2c hx hb d_ASB_charAt_40 rfl ?_
    obtain ⟨hnar, hw⟩ := hw
    have hP9 : va_P (dC, dI) vwCl [ob_SB h_this a_value i_coder i_maybeLatin1 i_count, ar_ a_value c_value n_value f_value] _ := hP
    have hD9 : va_D A [ob_SB h_this a_value i_coder i_maybeLatin1 i_count, ar_ a_value c_value n_value f_value] := hD
    rw [hQ]
    exact W.zret (v := (((f_value x1.toNatClampNeg) &&& (255 : Int32)).toUInt32 % 65536).toInt32) hx hb hr hnar (fun t ht hW => ⟨⟨(((f_value x1.toNatClampNeg) &&& (255 : Int32)).toUInt32 % 65536).toInt32, (), rfl, hw, by rw [ht]; exact hP9, va_K.moved hW.alike hK, hD9⟩, hS.F ht⟩) hS.2.2 d_ASB_charAt_41

set_option maxHeartbeats 4000000 in
set_option maxRecDepth 100000 in
theorem c_ASB_ensure (l : Launch) (dC : Nat → ClassId) (dI : Nat → Nat → Nat) (mc : Nat) (ms : Nat) (h_this : Nat) (c_value : ClassId) (sz : Nat)  (i_coder : Int32) (i_maybeLatin1 : Int32) (i_count : Int32) (a_value : Nat) (n_value : Nat) (f_value : Nat → Int32) (x1 : Int32) (post : Nat → Nat → (Nat → Int32) → Prop) (hw : wp_ASB_ensure mc ms i_coder a_value n_value f_value x1 post) : Met l y_ASB_ensure (ws_ y_ASB_ensure b_ASB_ensure 3 none) { frames := 3, cells := mc, slots := ms, locals := 82 } (va_Pc [.ref h_this, .int x1] (PRE (dC, dI) vwCl [(c_value, .byte)] [ob_SB h_this a_value i_coder i_maybeLatin1 i_count, ar_ a_value c_value n_value f_value] sz (va_A [ob_SB h_this a_value i_coder i_maybeLatin1 i_count, ar_ a_value c_value n_value f_value] sz))) (va_Qv (fun (u : Nat × Nat × (Nat → Int32)) => post u.1 u.2.1 u.2.2) (fun (u : Nat × Nat × (Nat → Int32)) (t : State) => va_P (dC, dI) vwCl [ob_SB h_this u.1 i_coder i_maybeLatin1 i_count, ar_ u.1 c_value u.2.1 u.2.2] t.heap ∧ va_K (dC, dI) vwCl [(c_value, .byte)] t ∧ va_D (va_A [ob_SB h_this a_value i_coder i_maybeLatin1 i_count, ar_ a_value c_value n_value f_value] sz) [ob_SB h_this u.1 i_coder i_maybeLatin1 i_count, ar_ u.1 c_value u.2.1 u.2.2]) (va_A [ob_SB h_this a_value i_coder i_maybeLatin1 i_count, ar_ a_value c_value n_value f_value] sz)) mc ms (va_A [ob_SB h_this a_value i_coder i_maybeLatin1 i_count, ar_ a_value c_value n_value f_value] sz) := by
  refine Met.ofW (cc := b_ASB_ensure) (maxL := 3) (ret := none) (by decide) rfl ?_
  intro p e s m args below meth c s₁ B hml hv
  obtain ⟨rfl, hsz, hP, hK, hD0, hG⟩ := hv
  have hx := B.exec
  have hb := B.bytes
  have hr := B.returns
  have hts : ∀ w ∈ tb, w.before _ s = true := fun w h => atoms_spec (ws := ws_ _ _ _ _) B.pre w (List.mem_cons_of_mem _ h)
  have hown : s.vm.findClass R_ASB = some m.cls := findClass_of_methodNamed B.named
  have hlocks := B.notSynchronized
  subst hsz
  have hD := hD0.self (sz := s.heap.size)
  generalize hAe : va_A [ob_SB h_this a_value i_coder i_maybeLatin1 i_count, ar_ a_value c_value n_value f_value] s.heap.size = A at hD hG ⊢
  have hA : ∀ q : Nat, s.heap.size ≤ q → A q := fun q h => by rw [← hAe]; exact Or.inr h
  have hS : va_S A s.heap s.heap [] := va_S.rf
  have hP : va_P (dC, dI) vwCl [ob_SB h_this a_value i_coder i_maybeLatin1 i_count, ar_ a_value c_value n_value f_value] s.heap := hP
  have hl := lv_entry [.ref h_this, .int x1] (n := 3) (Nat.le_of_ble_eq_true rfl)
  rw [lg_entry_eq]
  generalize (lg_sl [.ref h_this, .int x1] ++ List.replicate (3 - (lg_sl [.ref h_this, .int x1]).length) Slot.unset).toArray = ls at hl ⊢
  have hl : lv_has ls 3 [(0, .ref h_this), (1, .int x1)] := hl
  obtain ⟨Q, hQ⟩ : ∃ Q : State → Prop, Q = MQ below (va_Qv (fun (u : Nat × Nat × (Nat → Int32)) => post u.1 u.2.1 u.2.2) (fun (u : Nat × Nat × (Nat → Int32)) (t : State) => va_P (dC, dI) vwCl [ob_SB h_this u.1 i_coder i_maybeLatin1 i_count, ar_ u.1 c_value u.2.1 u.2.2] t.heap ∧ va_K (dC, dI) vwCl [(c_value, .byte)] t ∧ va_D A [ob_SB h_this u.1 i_coder i_maybeLatin1 i_count, ar_ u.1 c_value u.2.1 u.2.2]) A) ([.ref h_this, .int x1] : List Value).toArray s mc ms A := ⟨_, rfl⟩
  rw [← hQ]
  have hkc : 0 ≤ mc := Nat.zero_le _
  have hks : 0 ≤ ms := Nat.zero_le _
  unfold wp_ASB_ensure at hw
  refine lv_aload_n hx hb d_ASB_ensure_0 rfl (lv_at hl 0 rfl) ?_
  refine va_get (D := (dC, dI)) (ci := 8) (v := .ref a_value) (C := R_SB) (T := T_SB) (N := 4) hx hb hts in_SB hown hK hP 0 rfl rfl 0 (by decide) (hts _ kt_242) (fun _ h9 => h9) rfl d_ASB_ensure_1 ?_
  refine va_alen (v := Int32.ofNat n_value) hx hb hK hP 1 0 rfl rfl rfl d_ASB_ensure_4 ?_
  refine lv_aload_n hx hb d_ASB_ensure_5 rfl (lv_at hl 0 rfl) ?_
  refine va_get (D := (dC, dI)) (ci := 8) (v := .int i_coder) (C := R_SB) (T := T_SB) (N := 4) hx hb hts in_SB hown hK hP 0 rfl rfl 1 (by decide) (hts _ kt_243) (fun _ h9 => h9) rfl d_ASB_ensure_6 ?_
  refine lv_ishr hx hb d_ASB_ensure_9 ?_
  refine lv_istore_n (lv' := [(2, .int ((Int32.ofNat n_value) >>> (i_coder &&& 31))), (0, .ref h_this), (1, .int x1)]) hx hb d_ASB_ensure_10 rfl hl (by decide) rfl (fun ls hl => ?_)
  refine lv_iload_n hx hb d_ASB_ensure_11 rfl (lv_at hl 2 rfl) ?_
  refine lv_iload_n hx hb d_ASB_ensure_12 rfl (lv_at hl 0 rfl) ?_
  refine lv_isub hx hb d_ASB_ensure_13 ?_
  refine lv_if_le (tgt := 38) hx hb d_ASB_ensure_14 (by decide) (fun c_1 => ?_) (fun c_1 => ?_)
  · have hw := hw.1 c_1
    have hP9 : va_P (dC, dI) vwCl [ob_SB h_this a_value i_coder i_maybeLatin1 i_count, ar_ a_value c_value n_value f_value] _ := hP
    have hD9 : va_D A [ob_SB h_this a_value i_coder i_maybeLatin1 i_count, ar_ a_value c_value n_value f_value] := hD
    refine W.widen (k := mc) (n := ms) hkc hks ?_
    rw [hQ]
    exact W.vret hx hb hr (fun t ht hW => ⟨⟨(a_value, n_value, f_value), rfl, hw, by rw [ht]; exact hP9, va_K.moved hW.alike hK, hD9⟩, hS.F ht⟩) hS.2.2 d_ASB_ensure_38
  · have hw := hw.2 c_1
    refine lv_aload_n hx hb d_ASB_ensure_17 rfl (lv_at hl 1 rfl) ?_
    refine lv_aload_n hx hb d_ASB_ensure_18 rfl (lv_at hl 1 rfl) ?_
    refine va_get (D := (dC, dI)) (ci := 8) (v := .ref a_value) (C := R_SB) (T := T_SB) (N := 4) hx hb hts in_SB hown hK hP 0 rfl rfl 0 (by decide) (hts _ kt_242) (fun _ h9 => h9) rfl d_ASB_ensure_19 ?_
    refine lv_aload_n hx hb d_ASB_ensure_22 rfl (lv_at hl 1 rfl) ?_
    refine lv_iload_n hx hb d_ASB_ensure_23 rfl (lv_at hl 2 rfl) ?_
    have hPc := hP.sub (ws' := [ob_SB h_this a_value i_coder i_maybeLatin1 i_count, ar_ a_value c_value n_value f_value]) [0, 1] rfl
    have hDc := hD.sub (ws' := [ob_SB h_this a_value i_coder i_maybeLatin1 i_count, ar_ a_value c_value n_value f_value]) [0, 1] (by decide) rfl
    have hKc := hK.sub (tys' := [(c_value, .byte)]) [0] rfl
    have hFc := va_free (wc := [ob_SB h_this a_value i_coder i_maybeLatin1 i_count, ar_ a_value c_value n_value f_value]) hD hS hA [0, 1] rfl
    refine va_calli (va_runU (As := [.int x1]) (rest := [.ref a_value, .ref h_this]) ⟨hx, hb, hml, hown, hts⟩ (c_ASB_newCapacity l dC dI h_this c_value s.heap.size i_coder i_maybeLatin1 i_count a_value n_value f_value x1 _ hw) (va_cwU (owner := R_ASB) 1 hts (gd_U kt_763 kt_1362 (mem_sb (i := 1) rfl rfl) kt_765 kt_14 kt_766) rfl rfl rfl rfl (by decide +kernel) ⟨Nat.le_of_ble_eq_true rfl, Nat.le_of_ble_eq_true rfl⟩) ⟨pre_blind, va_recv hKc hPc (ci := 8) (q0 := 0) rfl rfl, pre_ok hPc hKc hDc hG hS hFc⟩ rfl rfl hl.1 rfl (lv_room (Nat.le_of_ble_eq_true rfl)) d_ASB_ensure_24 ⟨hkc, hks⟩) hS (fun q _ h => hFc q h) hFc (fun r_2 u t H1 locs ht hvm hw hB hz1 hk1 hS => ?_)
    obtain ⟨hP1, hK1, hD1⟩ := hB
    rw [ht] at hP1
    try dsimp only at hw
    obtain ⟨hP, hD⟩ := va_join (wr := []) (w1 := [ob_SB h_this a_value i_coder i_maybeLatin1 i_count, ar_ a_value c_value n_value f_value]) hP hD [0, 1] [] rfl rfl (by decide) (by decide) hk1 hFc hP1 hD1
    generalize H1 = H at hP hS ⊢
    have hP : va_P (dC, dI) vwCl [ob_SB h_this a_value i_coder i_maybeLatin1 i_count, ar_ a_value c_value n_value f_value] H := hP
    have hD : va_D A [ob_SB h_this a_value i_coder i_maybeLatin1 i_count, ar_ a_value c_value n_value f_value] := hD
    refine W.widen (k := 0) (n := 0) (Nat.le_refl _) (Nat.le_refl _) ?_
    refine lv_aload_n hx hb d_ASB_ensure_27 rfl (lv_at hl 1 rfl) ?_
    refine va_get (D := (dC, dI)) (ci := 8) (v := .int i_coder) (C := R_SB) (T := T_SB) (N := 4) hx hb hts in_SB hown hK hP 0 rfl rfl 1 (by decide) (hts _ kt_243) (fun _ h9 => h9) rfl d_ASB_ensure_28 ?_
    refine lv_ishl hx hb d_ASB_ensure_31 ?_
    obtain ⟨hkc, hks, hw⟩ := hw
    have hPc := hP.sub (ws' := [ar_ a_value c_value n_value f_value]) [1] rfl
    have hDc := hD.sub (ws' := [ar_ a_value c_value n_value f_value]) [1] (by decide) rfl
    have hKc := hK.sub (tys' := [(c_value, .byte)]) [0] rfl
    have hFc := va_free (wc := [ar_ a_value c_value n_value f_value]) hD hS hA [1] rfl
    refine va_callr (va_runS (As := [.ref a_value, .int (r_2 <<< (i_coder &&& 31))]) (rest := [.ref h_this]) ⟨hx, hb, hml, hown, hts⟩ (c_Arrays_copyOf l dC dI a_value c_value H.size n_value f_value (r_2 <<< (i_coder &&& 31)) _ hw) (va_cwS 2 hts (gd_S kt_776 kt_777 kt_20 kt_778) rfl rfl rfl (by decide +kernel) ⟨Nat.le_of_ble_eq_true rfl, Nat.le_of_ble_eq_true rfl⟩) ⟨pre_blind, pre_ok hPc hKc hDc hG hS hFc⟩ rfl rfl hl.1 rfl (lv_room (Nat.le_of_ble_eq_true rfl)) d_ASB_ensure_32 ⟨hkc, hks⟩) hS (fun q _ h => hFc q h) hFc (fun u ra_4 t H1 locs ht hvm hw hB hz1 hk1 hS => ?_)
    obtain ⟨f_new_3, rfl⟩ : ∃ z, z = u := ⟨_, rfl⟩
    obtain ⟨c9, hP1, hK1, hD1⟩ := hB
    rw [ht] at hP1
    have hK1 := va_K.moved hvm.symm hK1
    try dsimp only at hw
    have hw := hw ra_4
    have hcc : c9 = c_value := Option.some.inj ((show s.vm.findClass ("[" ++ FieldType.byte.toString) = some c9 from (hK1.2 1 _ rfl).2).symm.trans (show s.vm.findClass ("[" ++ FieldType.byte.toString) = some c_value from (hK1.2 0 _ rfl).2))
    rw [hcc] at hP1 hD1
    obtain ⟨hP, hD⟩ := va_join (wr := [ob_SB h_this a_value i_coder i_maybeLatin1 i_count]) (w1 := [ar_ a_value c_value n_value f_value, ar_ ra_4 c_value (r_2 <<< (i_coder &&& 31)).toNatClampNeg f_new_3]) hP hD [1] [0] rfl rfl (by decide) (by decide) hk1 hFc hP1 hD1
    generalize H1 = H at hP hS ⊢
    have hP : va_P (dC, dI) vwCl [ob_SB h_this a_value i_coder i_maybeLatin1 i_count, ar_ a_value c_value n_value f_value, ar_ ra_4 c_value (r_2 <<< (i_coder &&& 31)).toNatClampNeg f_new_3] H := hP
    have hD : va_D A [ob_SB h_this a_value i_coder i_maybeLatin1 i_count, ar_ a_value c_value n_value f_value, ar_ ra_4 c_value (r_2 <<< (i_coder &&& 31)).toNatClampNeg f_new_3] := hD
    refine W.widen (k := 0 + 1) (n := 0 + 200) (Nat.le_refl _) (Nat.le_refl _) ?_
    refine va_put (D := (dC, dI)) (ci := 8) (v := .ref ra_4) (ty := (.array .byte)) (C := R_SB) (T := T_SB) (N := 4) hx hb hts in_SB t_SB t_SB_ok nm_SB hown hK hP hD hS 0 rfl rfl 0 (by decide) (hts _ kt_242) (fun _ h9 => h9) rfl (by decide +kernel) rfl rfl (Nat.le_of_ble_eq_true rfl) d_ASB_ensure_35 (fun H locs hP hD hS => ?_)
    have hP : va_P (dC, dI) vwCl [ob_SB h_this ra_4 i_coder i_maybeLatin1 i_count, ar_ ra_4 c_value ((r_2 <<< (i_coder &&& 31)).toNatClampNeg) f_new_3] H := hP.sub [0, 2] rfl
    have hD : va_D A [ob_SB h_this ra_4 i_coder i_maybeLatin1 i_count, ar_ ra_4 c_value ((r_2 <<< (i_coder &&& 31)).toNatClampNeg) f_new_3] := hD.sub [0, 2] (by decide) rfl
    have hP9 : va_P (dC, dI) vwCl [ob_SB h_this ra_4 i_coder i_maybeLatin1 i_count, ar_ ra_4 c_value ((r_2 <<< (i_coder &&& 31)).toNatClampNeg) f_new_3] _ := hP
    have hD9 : va_D A [ob_SB h_this ra_4 i_coder i_maybeLatin1 i_count, ar_ ra_4 c_value ((r_2 <<< (i_coder &&& 31)).toNatClampNeg) f_new_3] := hD
    refine W.widen (k := mc) (n := ms) hkc hks ?_
    rw [hQ]
    exact W.vret hx hb hr (fun t ht hW => ⟨⟨(ra_4, (r_2 <<< (i_coder &&& 31)).toNatClampNeg, f_new_3), rfl, hw, by rw [ht]; exact hP9, va_K.moved hW.alike hK, hD9⟩, hS.F ht⟩) hS.2.2 d_ASB_ensure_38

set_option maxHeartbeats 4000000 in
set_option maxRecDepth 100000 in
theorem c_ASB_append_c (l : Launch) (dC : Nat → ClassId) (dI : Nat → Nat → Nat) (mc : Nat) (ms : Nat) (h_this : Nat) (c_value : ClassId) (sz : Nat)  (i_coder : Int32) (i_maybeLatin1 : Int32) (i_count : Int32) (a_value : Nat) (n_value : Nat) (f_value : Nat → Int32) (x1 : Int32) (post : Int32 → Nat → Nat → (Nat → Int32) → Prop) (hw : wp_ASB_append_c mc ms i_coder i_count a_value n_value f_value x1 post) : Met l y_ASB_append_c (ws_ y_ASB_append_c b_ASB_append_c 2 (some (.object "java/lang/AbstractStringBuilder"))) { frames := 4, cells := mc, slots := ms, locals := 104 } (va_Pc [.ref h_this, .int x1] (PRE (dC, dI) vwCl [(c_value, .byte)] [ob_SB h_this a_value i_coder i_maybeLatin1 i_count, ar_ a_value c_value n_value f_value] sz (va_A [ob_SB h_this a_value i_coder i_maybeLatin1 i_count, ar_ a_value c_value n_value f_value] sz))) (va_Qr (fun (u : Int32 × Nat × Nat × (Nat → Int32)) => post u.1 u.2.1 u.2.2.1 u.2.2.2) (fun (u : Int32 × Nat × Nat × (Nat → Int32)) (a9 : Nat) (t : State) => a9 = h_this ∧ va_P (dC, dI) vwCl [ob_SB h_this u.2.1 i_coder i_maybeLatin1 u.1, ar_ u.2.1 c_value u.2.2.1 u.2.2.2] t.heap ∧ va_K (dC, dI) vwCl [(c_value, .byte)] t ∧ va_D (va_A [ob_SB h_this a_value i_coder i_maybeLatin1 i_count, ar_ a_value c_value n_value f_value] sz) [ob_SB h_this u.2.1 i_coder i_maybeLatin1 u.1, ar_ u.2.1 c_value u.2.2.1 u.2.2.2]) (va_A [ob_SB h_this a_value i_coder i_maybeLatin1 i_count, ar_ a_value c_value n_value f_value] sz)) mc ms (va_A [ob_SB h_this a_value i_coder i_maybeLatin1 i_count, ar_ a_value c_value n_value f_value] sz) := by
  refine Met.ofW (cc := b_ASB_append_c) (maxL := 2) (ret := (some (.object "java/lang/AbstractStringBuilder"))) (by decide) rfl ?_
  intro p e s m args below meth c s₁ B hml hv
  obtain ⟨rfl, hsz, hP, hK, hD0, hG⟩ := hv
  have hx := B.exec
  have hb := B.bytes
  have hr := B.returns
  have hts : ∀ w ∈ tb, w.before _ s = true := fun w h => atoms_spec (ws := ws_ _ _ _ _) B.pre w (List.mem_cons_of_mem _ h)
  have hown : s.vm.findClass R_ASB = some m.cls := findClass_of_methodNamed B.named
  have hlocks := B.notSynchronized
  subst hsz
  have hD := hD0.self (sz := s.heap.size)
  generalize hAe : va_A [ob_SB h_this a_value i_coder i_maybeLatin1 i_count, ar_ a_value c_value n_value f_value] s.heap.size = A at hD hG ⊢
  have hA : ∀ q : Nat, s.heap.size ≤ q → A q := fun q h => by rw [← hAe]; exact Or.inr h
  have hS : va_S A s.heap s.heap [] := va_S.rf
  have hP : va_P (dC, dI) vwCl [ob_SB h_this a_value i_coder i_maybeLatin1 i_count, ar_ a_value c_value n_value f_value] s.heap := hP
  have hl := lv_entry [.ref h_this, .int x1] (n := 2) (Nat.le_of_ble_eq_true rfl)
  rw [lg_entry_eq]
  generalize (lg_sl [.ref h_this, .int x1] ++ List.replicate (2 - (lg_sl [.ref h_this, .int x1]).length) Slot.unset).toArray = ls at hl ⊢
  have hl : lv_has ls 2 [(0, .ref h_this), (1, .int x1)] := hl
  obtain ⟨Q, hQ⟩ : ∃ Q : State → Prop, Q = MQ below (va_Qr (fun (u : Int32 × Nat × Nat × (Nat → Int32)) => post u.1 u.2.1 u.2.2.1 u.2.2.2) (fun (u : Int32 × Nat × Nat × (Nat → Int32)) (a9 : Nat) (t : State) => a9 = h_this ∧ va_P (dC, dI) vwCl [ob_SB h_this u.2.1 i_coder i_maybeLatin1 u.1, ar_ u.2.1 c_value u.2.2.1 u.2.2.2] t.heap ∧ va_K (dC, dI) vwCl [(c_value, .byte)] t ∧ va_D A [ob_SB h_this u.2.1 i_coder i_maybeLatin1 u.1, ar_ u.2.1 c_value u.2.2.1 u.2.2.2]) A) ([.ref h_this, .int x1] : List Value).toArray s mc ms A := ⟨_, rfl⟩
  rw [← hQ]
  have hkc : 0 ≤ mc := Nat.zero_le _
  have hks : 0 ≤ ms := Nat.zero_le _
  unfold wp_ASB_append_c at hw
  have J45 : ∀ (v1 : Int32) (i_count : Int32) (a_value : Nat) (n_value : Nat) (f_value : Nat → Int32) (kc : Nat) (ks : Nat) (H : Heap) (locs : List Loc) (ls : Array Slot), lv_has ls 2 [(0, .ref h_this), (1, .int v1)] → va_P (dC, dI) vwCl [ob_SB h_this a_value i_coder i_maybeLatin1 i_count, ar_ a_value c_value n_value f_value] H → va_D A [ob_SB h_this a_value i_coder i_maybeLatin1 i_count, ar_ a_value c_value n_value f_value] → va_S A s.heap H locs → kc ≤ mc → ks ≤ ms → wp_ASB_append_c_J45 mc ms i_coder post v1 i_count a_value n_value f_value kc ks → W p l e (headSpec (ws_ y_ASB_append_c b_ASB_append_c 2 (some (.object "java/lang/AbstractStringBuilder"))) { frames := 4, cells := mc, slots := ms, locals := 104 }).room s m ([.ref h_this, .int x1] : List Value).toArray below meth c H locs kc ks Q (F0 m 45 ls []) := by
    intro v1 i_count a_value n_value f_value kc ks H locs ls hl hP hD hS hkc hks hw
    unfold wp_ASB_append_c_J45 at hw
    refine lv_aload_n hx hb d_ASB_append_c_45 rfl (lv_at hl 0 rfl) ?_
    have hPc := hP.sub (ws' := [ob_SB h_this a_value i_coder i_maybeLatin1 i_count, ar_ a_value c_value n_value f_value]) [0, 1] rfl
    have hDc := hD.sub (ws' := [ob_SB h_this a_value i_coder i_maybeLatin1 i_count, ar_ a_value c_value n_value f_value]) [0, 1] (by decide) rfl
    have hKc := hK.sub (tys' := [(c_value, .byte)]) [0] rfl
    have hFc := va_free (wc := [ob_SB h_this a_value i_coder i_maybeLatin1 i_count, ar_ a_value c_value n_value f_value]) hD hS hA [0, 1] rfl
    refine va_calli (va_runU (As := []) (rest := []) ⟨hx, hb, hml, hown, hts⟩ (c_ASB_isLatin1 l dC dI h_this c_value H.size i_coder i_maybeLatin1 i_count a_value n_value f_value _ hw) (va_cwU (owner := R_ASB) 0 hts (gd_U kt_788 kt_790 kt_791 kt_789 kt_14 kt_792) rfl rfl rfl rfl (by decide +kernel) ⟨Nat.le_of_ble_eq_true rfl, Nat.le_of_ble_eq_true rfl⟩) ⟨pre_blind, va_recv hKc hPc (ci := 8) (q0 := 0) rfl rfl, pre_ok hPc hKc hDc hG hS hFc⟩ rfl rfl hl.1 rfl (lv_room (Nat.le_of_ble_eq_true rfl)) d_ASB_append_c_46 ⟨hkc, hks⟩) hS (fun q _ h => hFc q h) hFc (fun r_1 u t H1 locs ht hvm hw hB hz1 hk1 hS => ?_)
    obtain ⟨hP1, hK1, hD1⟩ := hB
    rw [ht] at hP1
    try dsimp only at hw
    obtain ⟨hP, hD⟩ := va_join (wr := []) (w1 := [ob_SB h_this a_value i_coder i_maybeLatin1 i_count, ar_ a_value c_value n_value f_value]) hP hD [0, 1] [] rfl rfl (by decide) (by decide) hk1 hFc hP1 hD1
    generalize H1 = H at hP hS ⊢
    have hP : va_P (dC, dI) vwCl [ob_SB h_this a_value i_coder i_maybeLatin1 i_count, ar_ a_value c_value n_value f_value] H := hP
    have hD : va_D A [ob_SB h_this a_value i_coder i_maybeLatin1 i_count, ar_ a_value c_value n_value f_value] := hD
    refine W.widen (k := kc) (n := ks) (Nat.le_refl _) (Nat.le_refl _) ?_
    refine lv_if_eq (tgt := 56) hx hb d_ASB_append_c_49 (by decide) (fun c_2 => ?_) (fun c_2 => ?_)
    · have hw := hw.1 c_2
      refine lv_aload_n hx hb d_ASB_append_c_56 rfl (lv_at hl 0 rfl) ?_
      refine va_get (D := (dC, dI)) (ci := 8) (v := .ref a_value) (C := R_SB) (T := T_SB) (N := 4) hx hb hts in_SB hown hK hP 0 rfl rfl 0 (by decide) (hts _ kt_242) (fun _ h9 => h9) rfl d_ASB_append_c_57 ?_
      refine lv_aload_n hx hb d_ASB_append_c_60 rfl (lv_at hl 0 rfl) ?_
      refine lv_dup hx hb d_ASB_append_c_61 rfl ?_
      refine va_get (D := (dC, dI)) (ci := 8) (v := .int i_count) (C := R_SB) (T := T_SB) (N := 4) hx hb hts in_SB hown hK hP 0 rfl rfl 3 (by decide) (hts _ kt_245) (fun _ h9 => h9) rfl d_ASB_append_c_62 ?_
      refine lv_dup_x1 hx hb d_ASB_append_c_65 rfl rfl ?_
      refine lv_iconst (v := 1) hx hb d_ASB_append_c_66 (by decide) ?_
      refine lv_iadd hx hb d_ASB_append_c_67 ?_
      refine va_put (D := (dC, dI)) (ci := 8) (v := .int (i_count + (1 : Int32))) (ty := .int) (C := R_SB) (T := T_SB) (N := 4) hx hb hts in_SB t_SB t_SB_ok nm_SB hown hK hP hD hS 0 rfl rfl 3 (by decide) (hts _ kt_245) (fun _ h9 => h9) rfl (by decide +kernel) rfl rfl (Nat.le_of_ble_eq_true rfl) d_ASB_append_c_68 (fun H locs hP hD hS => ?_)
      have hP : va_P (dC, dI) vwCl [ob_SB h_this a_value i_coder i_maybeLatin1 (i_count + (1 : Int32)), ar_ a_value c_value n_value f_value] H := hP
      have hD : va_D A [ob_SB h_this a_value i_coder i_maybeLatin1 (i_count + (1 : Int32)), ar_ a_value c_value n_value f_value] := hD
      refine lv_iload_n hx hb d_ASB_append_c_71 rfl (lv_at hl 1 rfl) ?_
      exact False.elim hw
    · have hw := hw.2 c_2
      refine lv_aload_n hx hb d_ASB_append_c_52 rfl (lv_at hl 0 rfl) ?_
      exact False.elim hw
  refine lv_aload_n hx hb d_ASB_append_c_0 rfl (lv_at hl 0 rfl) ?_
  refine lv_aload_n hx hb d_ASB_append_c_1 rfl (lv_at hl 0 rfl) ?_
  refine va_get (D := (dC, dI)) (ci := 8) (v := .int i_count) (C := R_SB) (T := T_SB) (N := 4) hx hb hts in_SB hown hK hP 0 rfl rfl 3 (by decide) (hts _ kt_245) (fun _ h9 => h9) rfl d_ASB_append_c_2 ?_
  refine lv_iconst (v := 1) hx hb d_ASB_append_c_5 (by decide) ?_
  refine lv_iadd hx hb d_ASB_append_c_6 ?_
  obtain ⟨ca_6, cb_7, hkc, hks, hw⟩ := hw
  have hPc := hP.sub (ws' := [ob_SB h_this a_value i_coder i_maybeLatin1 i_count, ar_ a_value c_value n_value f_value]) [0, 1] rfl
  have hDc := hD.sub (ws' := [ob_SB h_this a_value i_coder i_maybeLatin1 i_count, ar_ a_value c_value n_value f_value]) [0, 1] (by decide) rfl
  have hKc := hK.sub (tys' := [(c_value, .byte)]) [0] rfl
  have hFc := va_free (wc := [ob_SB h_this a_value i_coder i_maybeLatin1 i_count, ar_ a_value c_value n_value f_value]) hD hS hA [0, 1] rfl
  refine va_callv (va_runU (As := [.int (i_count + (1 : Int32))]) (rest := []) ⟨hx, hb, hml, hown, hts⟩ (c_ASB_ensure l dC dI ca_6 cb_7 h_this c_value s.heap.size i_coder i_maybeLatin1 i_count a_value n_value f_value (i_count + (1 : Int32)) _ hw) (va_cwU (owner := R_ASB) 1 hts (gd_U kt_759 kt_1361 (mem_sb (i := 0) rfl rfl) kt_761 kt_14 kt_762) rfl rfl rfl rfl (by decide +kernel) ⟨Nat.le_of_ble_eq_true rfl, Nat.le_of_ble_eq_true rfl⟩) ⟨pre_blind, va_recv hKc hPc (ci := 8) (q0 := 0) rfl rfl, pre_ok hPc hKc hDc hG hS hFc⟩ rfl rfl hl.1 rfl (lv_room (Nat.le_of_ble_eq_true rfl)) d_ASB_append_c_7 ⟨hkc, hks⟩) hS (fun q _ h => hFc q h) hFc (fun u t H1 locs ht hvm hw hB hz1 hk1 hS => ?_)
  obtain ⟨a_value_3, n_value_4, f_value_5⟩ := u
  obtain ⟨hP1, hK1, hD1⟩ := hB
  rw [ht] at hP1
  try dsimp only at hw
  obtain ⟨hP, hD⟩ := va_join (wr := []) (w1 := [ob_SB h_this a_value_3 i_coder i_maybeLatin1 i_count, ar_ a_value_3 c_value n_value_4 f_value_5]) hP hD [0, 1] [] rfl rfl (by decide) (by decide) hk1 hFc hP1 hD1
  generalize H1 = H at hP hS ⊢
  have hP : va_P (dC, dI) vwCl [ob_SB h_this a_value_3 i_coder i_maybeLatin1 i_count, ar_ a_value_3 c_value n_value_4 f_value_5] H := hP
  have hD : va_D A [ob_SB h_this a_value_3 i_coder i_maybeLatin1 i_count, ar_ a_value_3 c_value n_value_4 f_value_5] := hD
  refine W.widen (k := 0 + ca_6) (n := 0 + cb_7) (Nat.le_refl _) (Nat.le_refl _) ?_
  refine lv_aload_n hx hb d_ASB_append_c_10 rfl (lv_at hl 0 rfl) ?_
  have hPc := hP.sub (ws' := [ob_SB h_this a_value_3 i_coder i_maybeLatin1 i_count, ar_ a_value_3 c_value n_value_4 f_value_5]) [0, 1] rfl
  have hDc := hD.sub (ws' := [ob_SB h_this a_value_3 i_coder i_maybeLatin1 i_count, ar_ a_value_3 c_value n_value_4 f_value_5]) [0, 1] (by decide) rfl
  have hKc := hK.sub (tys' := [(c_value, .byte)]) [0] rfl
  have hFc := va_free (wc := [ob_SB h_this a_value_3 i_coder i_maybeLatin1 i_count, ar_ a_value_3 c_value n_value_4 f_value_5]) hD hS hA [0, 1] rfl
  refine va_calli (va_runU (As := []) (rest := []) ⟨hx, hb, hml, hown, hts⟩ (c_ASB_isLatin1 l dC dI h_this c_value H.size i_coder i_maybeLatin1 i_count a_value_3 n_value_4 f_value_5 _ hw) (va_cwU (owner := R_ASB) 0 hts (gd_U kt_788 kt_790 kt_791 kt_789 kt_14 kt_792) rfl rfl rfl rfl (by decide +kernel) ⟨Nat.le_of_ble_eq_true rfl, Nat.le_of_ble_eq_true rfl⟩) ⟨pre_blind, va_recv hKc hPc (ci := 8) (q0 := 0) rfl rfl, pre_ok hPc hKc hDc hG hS hFc⟩ rfl rfl hl.1 rfl (lv_room (Nat.le_of_ble_eq_true rfl)) d_ASB_append_c_11 ⟨hkc, hks⟩) hS (fun q _ h => hFc q h) hFc (fun r_8 u t H1 locs ht hvm hw hB hz1 hk1 hS => ?_)
  obtain ⟨hP1, hK1, hD1⟩ := hB
  rw [ht] at hP1
  try dsimp only at hw
  obtain ⟨hP, hD⟩ := va_join (wr := []) (w1 := [ob_SB h_this a_value_3 i_coder i_maybeLatin1 i_count, ar_ a_value_3 c_value n_value_4 f_value_5]) hP hD [0, 1] [] rfl rfl (by decide) (by decide) hk1 hFc hP1 hD1
  generalize H1 = H at hP hS ⊢
  have hP : va_P (dC, dI) vwCl [ob_SB h_this a_value_3 i_coder i_maybeLatin1 i_count, ar_ a_value_3 c_value n_value_4 f_value_5] H := hP
  have hD : va_D A [ob_SB h_this a_value_3 i_coder i_maybeLatin1 i_count, ar_ a_value_3 c_value n_value_4 f_value_5] := hD
  refine W.widen (k := 0 + ca_6) (n := 0 + cb_7) (Nat.le_refl _) (Nat.le_refl _) ?_
  refine lv_if_eq (tgt := 45) hx hb d_ASB_append_c_14 (by decide) (fun c_9 => ?_) (fun c_9 => ?_)
  · have hw := hw.1 c_9
    exact J45 x1 i_count a_value_3 n_value_4 f_value_5 (0 + ca_6) (0 + cb_7) _ _ ls (lv_sub hl [0, 1] rfl) hP hD hS hkc hks hw
  · have hw := hw.2 c_9
    refine lv_iload_n hx hb d_ASB_append_c_17 rfl (lv_at hl 1 rfl) ?_
    have hPc := hP.sub (ws' := []) [] rfl
    have hDc := hD.sub (ws' := []) [] (by decide) rfl
    have hKc := hK.sub (tys' := []) [] rfl
    have hFc := va_free (wc := []) hD hS hA [] rfl
    refine va_calli (va_runS (As := [.int x1]) (rest := []) ⟨hx, hb, hml, hown, hts⟩ (c_Latin1_canEncode l dC dI H.size x1 _ hw) (va_cwS 1 hts (gd_S kt_870 kt_871 kt_6 kt_872) rfl rfl rfl (by decide +kernel) ⟨Nat.le_of_ble_eq_true rfl, Nat.le_of_ble_eq_true rfl⟩) ⟨pre_blind, pre_ok hPc hKc hDc hG hS hFc⟩ rfl rfl hl.1 rfl (lv_room (Nat.le_of_ble_eq_true rfl)) d_ASB_append_c_18 ⟨hkc, hks⟩) hS (fun q _ h => hFc q h) hFc (fun r_10 u t H1 locs ht hvm hw hB hz1 hk1 hS => ?_)
    obtain ⟨hP1, hK1, hD1⟩ := hB
    rw [ht] at hP1
    try dsimp only at hw
    obtain ⟨hP, hD⟩ := va_join (wr := [ob_SB h_this a_value_3 i_coder i_maybeLatin1 i_count, ar_ a_value_3 c_value n_value_4 f_value_5]) (w1 := []) hP hD [] [0, 1] rfl rfl (by decide) (by decide) hk1 hFc hP1 hD1
    generalize H1 = H at hP hS ⊢
    have hP : va_P (dC, dI) vwCl [ob_SB h_this a_value_3 i_coder i_maybeLatin1 i_count, ar_ a_value_3 c_value n_value_4 f_value_5] H := hP
    have hD : va_D A [ob_SB h_this a_value_3 i_coder i_maybeLatin1 i_count, ar_ a_value_3 c_value n_value_4 f_value_5] := hD
    refine W.widen (k := 0 + ca_6) (n := 0 + cb_7) (Nat.le_refl _) (Nat.le_refl _) ?_
    refine lv_if_eq (tgt := 45) hx hb d_ASB_append_c_21 (by decide) (fun c_11 => ?_) (fun c_11 => ?_)
    · have hw := hw.1 c_11
      exact J45 x1 i_count a_value_3 n_value_4 f_value_5 (0 + ca_6) (0 + cb_7) _ _ ls (lv_sub hl [0, 1] rfl) hP hD hS hkc hks hw
    · have hw := hw.2 c_11
      refine lv_aload_n hx hb d_ASB_append_c_24 rfl (lv_at hl 0 rfl) ?_
      refine va_get (D := (dC, dI)) (ci := 8) (v := .ref a_value_3) (C := R_SB) (T := T_SB) (N := 4) hx hb hts in_SB hown hK hP 0 rfl rfl 0 (by decide) (hts _ kt_242) (fun _ h9 => h9) rfl d_ASB_append_c_25 ?_
      refine lv_aload_n hx hb d_ASB_append_c_28 rfl (lv_at hl 0 rfl) ?_
      refine lv_dup hx hb d_ASB_append_c_29 rfl ?_
      refine va_get (D := (dC, dI)) (ci := 8) (v := .int i_count) (C := R_SB) (T := T_SB) (N := 4) hx hb hts in_SB hown hK hP 0 rfl rfl 3 (by decide) (hts _ kt_245) (fun _ h9 => h9) rfl d_ASB_append_c_30 ?_
      refine lv_dup_x1 hx hb d_ASB_append_c_33 rfl rfl ?_
      refine lv_iconst (v := 1) hx hb d_ASB_append_c_34 (by decide) ?_
      refine lv_iadd hx hb d_ASB_append_c_35 ?_
      refine va_put (D := (dC, dI)) (ci := 8) (v := .int (i_count + (1 : Int32))) (ty := .int) (C := R_SB) (T := T_SB) (N := 4) hx hb hts in_SB t_SB t_SB_ok nm_SB hown hK hP hD hS 0 rfl rfl 3 (by decide) (hts _ kt_245) (fun _ h9 => h9) rfl (by decide +kernel) rfl rfl (Nat.le_of_ble_eq_true rfl) d_ASB_append_c_36 (fun H locs hP hD hS => ?_)
      have hP : va_P (dC, dI) vwCl [ob_SB h_this a_value_3 i_coder i_maybeLatin1 (i_count + (1 : Int32)), ar_ a_value_3 c_value n_value_4 f_value_5] H := hP
      have hD : va_D A [ob_SB h_this a_value_3 i_coder i_maybeLatin1 (i_count + (1 : Int32)), ar_ a_value_3 c_value n_value_4 f_value_5] := hD
      refine lv_iload_n hx hb d_ASB_append_c_39 rfl (lv_at hl 1 rfl) ?_
      refine lv_i2b hx hb d_ASB_append_c_40 rfl ?_
      obtain ⟨h_12, hw⟩ := hw
      refine va_bast hx hb hK hP hD hS 1 0 rfl rfl h_12 d_ASB_append_c_41 (fun H locs hP hD hS => ?_)
      have hP : va_P (dC, dI) vwCl [ob_SB h_this a_value_3 i_coder i_maybeLatin1 (i_count + (1 : Int32)), ar_ a_value_3 c_value n_value_4 (upd f_value_5 i_count.toNatClampNeg (vp_nar .byte x1.toInt8.toInt32))] H := hP
      have hD : va_D A [ob_SB h_this a_value_3 i_coder i_maybeLatin1 (i_count + (1 : Int32)), ar_ a_value_3 c_value n_value_4 (upd f_value_5 i_count.toNatClampNeg (vp_nar .byte x1.toInt8.toInt32))] := hD
      refine lv_goto (tgt := 75) hx hb d_ASB_append_c_42 (by decide) ?_
      refine lv_aload_n hx hb d_ASB_append_c_75 rfl (lv_at hl 0 rfl) ?_
      have hP9 : va_P (dC, dI) vwCl [ob_SB h_this a_value_3 i_coder i_maybeLatin1 (i_count + (1 : Int32)), ar_ a_value_3 c_value n_value_4 (upd f_value_5 i_count.toNatClampNeg (vp_nar .byte x1.toInt8.toInt32))] _ := hP
      have hD9 : va_D A [ob_SB h_this a_value_3 i_coder i_maybeLatin1 (i_count + (1 : Int32)), ar_ a_value_3 c_value n_value_4 (upd f_value_5 i_count.toNatClampNeg (vp_nar .byte x1.toInt8.toInt32))] := hD
      refine W.widen (k := mc) (n := ms) hkc hks ?_
      rw [hQ]
      exact W.aret (v := .ref h_this) hx hb hr (Or.inl ⟨_, rfl⟩) (Or.inr ⟨_, rfl⟩) (fun t ht hW => ⟨⟨(i_count + (1 : Int32), a_value_3, n_value_4, upd f_value_5 i_count.toNatClampNeg (vp_nar .byte x1.toInt8.toInt32)), h_this, rfl, hw, rfl, by rw [ht]; exact hP9, va_K.moved hW.alike hK, hD9⟩, hS.F ht⟩) hS.2.2 d_ASB_append_c_76

set_option maxHeartbeats 4000000 in
set_option maxRecDepth 100000 in
theorem c_ASB_append_i (l : Launch) (dC : Nat → ClassId) (dI : Nat → Nat → Nat) (mc : Nat) (ms : Nat) (h_this : Nat) (c_value : ClassId) (sz : Nat)  (i_coder : Int32) (i_maybeLatin1 : Int32) (i_count : Int32) (a_value : Nat) (n_value : Nat) (f_value : Nat → Int32) (x1 : Int32) (post : Int32 → Nat → Nat → (Nat → Int32) → Prop) (hw : wp_ASB_append_i mc ms i_coder i_count a_value n_value f_value x1 post) : Met l y_ASB_append_i (ws_ y_ASB_append_i b_ASB_append_i 4 (some (.object "java/lang/AbstractStringBuilder"))) { frames := 4, cells := mc, slots := ms, locals := 104 } (va_Pc [.ref h_this, .int x1] (PRE (dC, dI) vwCl [(c_value, .byte)] [ob_SB h_this a_value i_coder i_maybeLatin1 i_count, ar_ a_value c_value n_value f_value] sz (va_A [ob_SB h_this a_value i_coder i_maybeLatin1 i_count, ar_ a_value c_value n_value f_value] sz))) (va_Qr (fun (u : Int32 × Nat × Nat × (Nat → Int32)) => post u.1 u.2.1 u.2.2.1 u.2.2.2) (fun (u : Int32 × Nat × Nat × (Nat → Int32)) (a9 : Nat) (t : State) => a9 = h_this ∧ va_P (dC, dI) vwCl [ob_SB h_this u.2.1 i_coder i_maybeLatin1 u.1, ar_ u.2.1 c_value u.2.2.1 u.2.2.2] t.heap ∧ va_K (dC, dI) vwCl [(c_value, .byte)] t ∧ va_D (va_A [ob_SB h_this a_value i_coder i_maybeLatin1 i_count, ar_ a_value c_value n_value f_value] sz) [ob_SB h_this u.2.1 i_coder i_maybeLatin1 u.1, ar_ u.2.1 c_value u.2.2.1 u.2.2.2]) (va_A [ob_SB h_this a_value i_coder i_maybeLatin1 i_count, ar_ a_value c_value n_value f_value] sz)) mc ms (va_A [ob_SB h_this a_value i_coder i_maybeLatin1 i_count, ar_ a_value c_value n_value f_value] sz) := by
  refine Met.ofW (cc := b_ASB_append_i) (maxL := 4) (ret := (some (.object "java/lang/AbstractStringBuilder"))) (by decide) rfl ?_
  intro p e s m args below meth c s₁ B hml hv
  obtain ⟨rfl, hsz, hP, hK, hD0, hG⟩ := hv
  have hx := B.exec
  have hb := B.bytes
  have hr := B.returns
  have hts : ∀ w ∈ tb, w.before _ s = true := fun w h => atoms_spec (ws := ws_ _ _ _ _) B.pre w (List.mem_cons_of_mem _ h)
  have hown : s.vm.findClass R_ASB = some m.cls := findClass_of_methodNamed B.named
  have hlocks := B.notSynchronized
  subst hsz
  have hD := hD0.self (sz := s.heap.size)
  generalize hAe : va_A [ob_SB h_this a_value i_coder i_maybeLatin1 i_count, ar_ a_value c_value n_value f_value] s.heap.size = A at hD hG ⊢
  have hA : ∀ q : Nat, s.heap.size ≤ q → A q := fun q h => by rw [← hAe]; exact Or.inr h
  have hS : va_S A s.heap s.heap [] := va_S.rf
  have hP : va_P (dC, dI) vwCl [ob_SB h_this a_value i_coder i_maybeLatin1 i_count, ar_ a_value c_value n_value f_value] s.heap := hP
  have hl := lv_entry [.ref h_this, .int x1] (n := 4) (Nat.le_of_ble_eq_true rfl)
  rw [lg_entry_eq]
  generalize (lg_sl [.ref h_this, .int x1] ++ List.replicate (4 - (lg_sl [.ref h_this, .int x1]).length) Slot.unset).toArray = ls at hl ⊢
  have hl : lv_has ls 4 [(0, .ref h_this), (1, .int x1)] := hl
  obtain ⟨Q, hQ⟩ : ∃ Q : State → Prop, Q = MQ below (va_Qr (fun (u : Int32 × Nat × Nat × (Nat → Int32)) => post u.1 u.2.1 u.2.2.1 u.2.2.2) (fun (u : Int32 × Nat × Nat × (Nat → Int32)) (a9 : Nat) (t : State) => a9 = h_this ∧ va_P (dC, dI) vwCl [ob_SB h_this u.2.1 i_coder i_maybeLatin1 u.1, ar_ u.2.1 c_value u.2.2.1 u.2.2.2] t.heap ∧ va_K (dC, dI) vwCl [(c_value, .byte)] t ∧ va_D A [ob_SB h_this u.2.1 i_coder i_maybeLatin1 u.1, ar_ u.2.1 c_value u.2.2.1 u.2.2.2]) A) ([.ref h_this, .int x1] : List Value).toArray s mc ms A := ⟨_, rfl⟩
  rw [← hQ]
  have hkc : 0 ≤ mc := Nat.zero_le _
  have hks : 0 ≤ ms := Nat.zero_le _
  unfold wp_ASB_append_i at hw
  refine lv_aload_n hx hb d_ASB_append_i_0 rfl (lv_at hl 0 rfl) ?_
  refine va_get (D := (dC, dI)) (ci := 8) (v := .int i_count) (C := R_SB) (T := T_SB) (N := 4) hx hb hts in_SB hown hK hP 0 rfl rfl 3 (by decide) (hts _ kt_245) (fun _ h9 => h9) rfl d_ASB_append_i_1 ?_
  refine lv_istore_n (lv' := [(2, .int i_count), (0, .ref h_this), (1, .int x1)]) hx hb d_ASB_append_i_4 rfl hl (by decide) rfl (fun ls hl => ?_)
  refine lv_iload_n hx hb d_ASB_append_i_5 rfl (lv_at hl 0 rfl) ?_
  refine lv_iload_n hx hb d_ASB_append_i_6 rfl (lv_at hl 2 rfl) ?_
  have hPc := hP.sub (ws' := []) [] rfl
  have hDc := hD.sub (ws' := []) [] (by decide) rfl
  have hKc := hK.sub (tys' := []) [] rfl
  have hFc := va_free (wc := []) hD hS hA [] rfl
  refine va_calli (va_runS (As := [.int x1]) (rest := [.int i_count]) ⟨hx, hb, hml, hown, hts⟩ (c_Integer_stringSize l dC dI s.heap.size x1 _ hw) (va_cwS 1 hts (gd_S kt_830 kt_831 kt_21 kt_832) rfl rfl rfl (by decide +kernel) ⟨Nat.le_of_ble_eq_true rfl, Nat.le_of_ble_eq_true rfl⟩) ⟨pre_blind, pre_ok hPc hKc hDc hG hS hFc⟩ rfl rfl hl.1 rfl (lv_room (Nat.le_of_ble_eq_true rfl)) d_ASB_append_i_7 ⟨hkc, hks⟩) hS (fun q _ h => hFc q h) hFc (fun r_1 u t H1 locs ht hvm hw hB hz1 hk1 hS => ?_)
  obtain ⟨hP1, hK1, hD1⟩ := hB
  rw [ht] at hP1
  try dsimp only at hw
  obtain ⟨hP, hD⟩ := va_join (wr := [ob_SB h_this a_value i_coder i_maybeLatin1 i_count, ar_ a_value c_value n_value f_value]) (w1 := []) hP hD [] [0, 1] rfl rfl (by decide) (by decide) hk1 hFc hP1 hD1
  generalize H1 = H at hP hS ⊢
  have hP : va_P (dC, dI) vwCl [ob_SB h_this a_value i_coder i_maybeLatin1 i_count, ar_ a_value c_value n_value f_value] H := hP
  have hD : va_D A [ob_SB h_this a_value i_coder i_maybeLatin1 i_count, ar_ a_value c_value n_value f_value] := hD
  refine W.widen (k := 0) (n := 0) (Nat.le_refl _) (Nat.le_refl _) ?_
  refine lv_iadd hx hb d_ASB_append_i_10 ?_
  refine lv_istore_n (lv' := [(3, .int (i_count + r_1)), (2, .int i_count), (0, .ref h_this), (1, .int x1)]) hx hb d_ASB_append_i_11 rfl hl (by decide) rfl (fun ls hl => ?_)
  refine lv_aload_n hx hb d_ASB_append_i_12 rfl (lv_at hl 2 rfl) ?_
  refine lv_iload_n hx hb d_ASB_append_i_13 rfl (lv_at hl 0 rfl) ?_
  obtain ⟨ca_5, cb_6, hkc, hks, hw⟩ := hw
  have hPc := hP.sub (ws' := [ob_SB h_this a_value i_coder i_maybeLatin1 i_count, ar_ a_value c_value n_value f_value]) [0, 1] rfl
  have hDc := hD.sub (ws' := [ob_SB h_this a_value i_coder i_maybeLatin1 i_count, ar_ a_value c_value n_value f_value]) [0, 1] (by decide) rfl
  have hKc := hK.sub (tys' := [(c_value, .byte)]) [0] rfl
  have hFc := va_free (wc := [ob_SB h_this a_value i_coder i_maybeLatin1 i_count, ar_ a_value c_value n_value f_value]) hD hS hA [0, 1] rfl
  refine va_callv (va_runU (As := [.int (i_count + r_1)]) (rest := []) ⟨hx, hb, hml, hown, hts⟩ (c_ASB_ensure l dC dI ca_5 cb_6 h_this c_value H.size i_coder i_maybeLatin1 i_count a_value n_value f_value (i_count + r_1) _ hw) (va_cwU (owner := R_ASB) 1 hts (gd_U kt_759 kt_1361 (mem_sb (i := 0) rfl rfl) kt_761 kt_14 kt_762) rfl rfl rfl rfl (by decide +kernel) ⟨Nat.le_of_ble_eq_true rfl, Nat.le_of_ble_eq_true rfl⟩) ⟨pre_blind, va_recv hKc hPc (ci := 8) (q0 := 0) rfl rfl, pre_ok hPc hKc hDc hG hS hFc⟩ rfl rfl hl.1 rfl (lv_room (Nat.le_of_ble_eq_true rfl)) d_ASB_append_i_14 ⟨hkc, hks⟩) hS (fun q _ h => hFc q h) hFc (fun u t H1 locs ht hvm hw hB hz1 hk1 hS => ?_)
  obtain ⟨a_value_2, n_value_3, f_value_4⟩ := u
  obtain ⟨hP1, hK1, hD1⟩ := hB
  rw [ht] at hP1
  try dsimp only at hw
  obtain ⟨hP, hD⟩ := va_join (wr := []) (w1 := [ob_SB h_this a_value_2 i_coder i_maybeLatin1 i_count, ar_ a_value_2 c_value n_value_3 f_value_4]) hP hD [0, 1] [] rfl rfl (by decide) (by decide) hk1 hFc hP1 hD1
  generalize H1 = H at hP hS ⊢
  have hP : va_P (dC, dI) vwCl [ob_SB h_this a_value_2 i_coder i_maybeLatin1 i_count, ar_ a_value_2 c_value n_value_3 f_value_4] H := hP
  have hD : va_D A [ob_SB h_this a_value_2 i_coder i_maybeLatin1 i_count, ar_ a_value_2 c_value n_value_3 f_value_4] := hD
  refine W.widen (k := 0 + ca_5) (n := 0 + cb_6) (Nat.le_refl _) (Nat.le_refl _) ?_
  refine lv_aload_n hx hb d_ASB_append_i_17 rfl (lv_at hl 2 rfl) ?_
  have hPc := hP.sub (ws' := [ob_SB h_this a_value_2 i_coder i_maybeLatin1 i_count, ar_ a_value_2 c_value n_value_3 f_value_4]) [0, 1] rfl
  have hDc := hD.sub (ws' := [ob_SB h_this a_value_2 i_coder i_maybeLatin1 i_count, ar_ a_value_2 c_value n_value_3 f_value_4]) [0, 1] (by decide) rfl
  have hKc := hK.sub (tys' := [(c_value, .byte)]) [0] rfl
  have hFc := va_free (wc := [ob_SB h_this a_value_2 i_coder i_maybeLatin1 i_count, ar_ a_value_2 c_value n_value_3 f_value_4]) hD hS hA [0, 1] rfl
  refine va_calli (va_runU (As := []) (rest := []) ⟨hx, hb, hml, hown, hts⟩ (c_ASB_isLatin1 l dC dI h_this c_value H.size i_coder i_maybeLatin1 i_count a_value_2 n_value_3 f_value_4 _ hw) (va_cwU (owner := R_ASB) 0 hts (gd_U kt_788 kt_790 kt_791 kt_789 kt_14 kt_792) rfl rfl rfl rfl (by decide +kernel) ⟨Nat.le_of_ble_eq_true rfl, Nat.le_of_ble_eq_true rfl⟩) ⟨pre_blind, va_recv hKc hPc (ci := 8) (q0 := 0) rfl rfl, pre_ok hPc hKc hDc hG hS hFc⟩ rfl rfl hl.1 rfl (lv_room (Nat.le_of_ble_eq_true rfl)) d_ASB_append_i_18 ⟨hkc, hks⟩) hS (fun q _ h => hFc q h) hFc (fun r_7 u t H1 locs ht hvm hw hB hz1 hk1 hS => ?_)
  obtain ⟨hP1, hK1, hD1⟩ := hB
  rw [ht] at hP1
  try dsimp only at hw
  obtain ⟨hP, hD⟩ := va_join (wr := []) (w1 := [ob_SB h_this a_value_2 i_coder i_maybeLatin1 i_count, ar_ a_value_2 c_value n_value_3 f_value_4]) hP hD [0, 1] [] rfl rfl (by decide) (by decide) hk1 hFc hP1 hD1
  generalize H1 = H at hP hS ⊢
  have hP : va_P (dC, dI) vwCl [ob_SB h_this a_value_2 i_coder i_maybeLatin1 i_count, ar_ a_value_2 c_value n_value_3 f_value_4] H := hP
  have hD : va_D A [ob_SB h_this a_value_2 i_coder i_maybeLatin1 i_count, ar_ a_value_2 c_value n_value_3 f_value_4] := hD
  refine W.widen (k := 0 + ca_5) (n := 0 + cb_6) (Nat.le_refl _) (Nat.le_refl _) ?_
  refine lv_if_eq (tgt := 37) hx hb d_ASB_append_i_21 (by decide) (fun c_8 => ?_) (fun c_8 => ?_)
  · have hw := hw.1 c_8
    refine lv_iload_n hx hb d_ASB_append_i_37 rfl (lv_at hl 3 rfl) ?_
    refine lv_iload_n hx hb d_ASB_append_i_38 rfl (lv_at hl 1 rfl) ?_
    refine lv_iload_n hx hb d_ASB_append_i_39 rfl (lv_at hl 0 rfl) ?_
    refine lv_aload_n hx hb d_ASB_append_i_40 rfl (lv_at hl 2 rfl) ?_
    refine va_get (D := (dC, dI)) (ci := 8) (v := .ref a_value_2) (C := R_SB) (T := T_SB) (N := 4) hx hb hts in_SB hown hK hP 0 rfl rfl 0 (by decide) (hts _ kt_242) (fun _ h9 => h9) rfl d_ASB_append_i_41 ?_
    exact False.elim hw
  · have hw := hw.2 c_8
    refine lv_iload_n hx hb d_ASB_append_i_24 rfl (lv_at hl 3 rfl) ?_
    refine lv_iload_n hx hb d_ASB_append_i_25 rfl (lv_at hl 0 rfl) ?_
    refine lv_aload_n hx hb d_ASB_append_i_26 rfl (lv_at hl 2 rfl) ?_
    refine va_get (D := (dC, dI)) (ci := 8) (v := .ref a_value_2) (C := R_SB) (T := T_SB) (N := 4) hx hb hts in_SB hown hK hP 0 rfl rfl 0 (by decide) (hts _ kt_242) (fun _ h9 => h9) rfl d_ASB_append_i_27 ?_
    have hPc := hP.sub (ws' := [ar_ a_value_2 c_value n_value_3 f_value_4]) [1] rfl
    have hDc := hD.sub (ws' := [ar_ a_value_2 c_value n_value_3 f_value_4]) [1] (by decide) rfl
    have hKc := hK.sub (tys' := [(c_value, .byte)]) [0] rfl
    have hFc := va_free (wc := [ar_ a_value_2 c_value n_value_3 f_value_4]) hD hS hA [1] rfl
    refine va_calli (va_runS (As := [.int x1, .int (i_count + r_1), .ref a_value_2]) (rest := []) ⟨hx, hb, hml, hown, hts⟩ (c_Integer_getChars l dC dI a_value_2 c_value H.size n_value_3 f_value_4 x1 (i_count + r_1) _ hw) (va_cwS 3 hts (gd_S kt_833 kt_834 kt_21 kt_835) rfl rfl rfl (by decide +kernel) ⟨Nat.le_of_ble_eq_true rfl, Nat.le_of_ble_eq_true rfl⟩) ⟨pre_blind, pre_ok hPc hKc hDc hG hS hFc⟩ rfl rfl hl.1 rfl (lv_room (Nat.le_of_ble_eq_true rfl)) d_ASB_append_i_30 ⟨hkc, hks⟩) hS (fun q _ h => hFc q h) hFc (fun r_9 u t H1 locs ht hvm hw hB hz1 hk1 hS => ?_)
    obtain ⟨f_value_10, rfl⟩ : ∃ z, z = u := ⟨_, rfl⟩
    obtain ⟨hP1, hK1, hD1⟩ := hB
    rw [ht] at hP1
    try dsimp only at hw
    obtain ⟨hP, hD⟩ := va_join (wr := [ob_SB h_this a_value_2 i_coder i_maybeLatin1 i_count]) (w1 := [ar_ a_value_2 c_value n_value_3 f_value_10]) hP hD [1] [0] rfl rfl (by decide) (by decide) hk1 hFc hP1 hD1
    generalize H1 = H at hP hS ⊢
    have hP : va_P (dC, dI) vwCl [ob_SB h_this a_value_2 i_coder i_maybeLatin1 i_count, ar_ a_value_2 c_value n_value_3 f_value_10] H := hP
    have hD : va_D A [ob_SB h_this a_value_2 i_coder i_maybeLatin1 i_count, ar_ a_value_2 c_value n_value_3 f_value_10] := hD
    refine W.widen (k := 0 + ca_5) (n := 0 + cb_6) (Nat.le_refl _) (Nat.le_refl _) ?_
    refine lv_pop hx hb d_ASB_append_i_33 rfl ?_
    refine lv_goto (tgt := 48) hx hb d_ASB_append_i_34 (by decide) ?_
    refine lv_aload_n hx hb d_ASB_append_i_48 rfl (lv_at hl 2 rfl) ?_
    refine lv_iload_n hx hb d_ASB_append_i_49 rfl (lv_at hl 0 rfl) ?_
    refine va_put (D := (dC, dI)) (ci := 8) (v := .int (i_count + r_1)) (ty := .int) (C := R_SB) (T := T_SB) (N := 4) hx hb hts in_SB t_SB t_SB_ok nm_SB hown hK hP hD hS 0 rfl rfl 3 (by decide) (hts _ kt_245) (fun _ h9 => h9) rfl (by decide +kernel) rfl rfl (Nat.le_of_ble_eq_true rfl) d_ASB_append_i_50 (fun H locs hP hD hS => ?_)
    have hP : va_P (dC, dI) vwCl [ob_SB h_this a_value_2 i_coder i_maybeLatin1 (i_count + r_1), ar_ a_value_2 c_value n_value_3 f_value_10] H := hP
    have hD : va_D A [ob_SB h_this a_value_2 i_coder i_maybeLatin1 (i_count + r_1), ar_ a_value_2 c_value n_value_3 f_value_10] := hD
    refine lv_aload_n hx hb d_ASB_append_i_53 rfl (lv_at hl 2 rfl) ?_
    have hP9 : va_P (dC, dI) vwCl [ob_SB h_this a_value_2 i_coder i_maybeLatin1 (i_count + r_1), ar_ a_value_2 c_value n_value_3 f_value_10] _ := hP
    have hD9 : va_D A [ob_SB h_this a_value_2 i_coder i_maybeLatin1 (i_count + r_1), ar_ a_value_2 c_value n_value_3 f_value_10] := hD
    refine W.widen (k := mc) (n := ms) hkc hks ?_
    rw [hQ]
    exact W.aret (v := .ref h_this) hx hb hr (Or.inl ⟨_, rfl⟩) (Or.inr ⟨_, rfl⟩) (fun t ht hW => ⟨⟨(i_count + r_1, a_value_2, n_value_3, f_value_10), h_this, rfl, hw, rfl, by rw [ht]; exact hP9, va_K.moved hW.alike hK, hD9⟩, hS.F ht⟩) hS.2.2 d_ASB_append_i_54

set_option maxHeartbeats 4000000 in
set_option maxRecDepth 100000 in
theorem c_String_getBytes (l : Launch) (dC : Nat → ClassId) (dI : Nat → Nat → Nat) (adK adV : Nat → Nat) (i : Nat) (hi : i < 3) (h_p1 : Nat) (c_p1 : ClassId) (sz : Nat) (n_p1 : Nat) (f_p1 : Nat → Int32) (x2 : Int32) (x3 : Int32) (post : (Nat → Int32) → Prop) (hw : wp_String_getBytes i n_p1 f_p1 x2 x3 post) : Met l y_String_getBytes (ws_ y_String_getBytes b_String_getBytes 4 none) { frames := 1, cells := 0, slots := 0, locals := 60 } (va_Pc [.ref (adK i), .ref h_p1, .int x2, .int x3] (PREk adK adV (dC, dI) vwCl [(c_p1, .byte)] [ar_ h_p1 c_p1 n_p1 f_p1] sz (va_A [ar_ h_p1 c_p1 n_p1 f_p1] sz))) (va_Qv (fun (u : (Nat → Int32)) => post u) (fun (u : (Nat → Int32)) (t : State) => va_P (dC, dI) vwCl [ar_ h_p1 c_p1 n_p1 u] t.heap ∧ va_K (dC, dI) vwCl [(c_p1, .byte)] t ∧ va_D (va_A [ar_ h_p1 c_p1 n_p1 f_p1] sz) [ar_ h_p1 c_p1 n_p1 u]) (va_A [ar_ h_p1 c_p1 n_p1 f_p1] sz)) 0 0 (va_A [ar_ h_p1 c_p1 n_p1 f_p1] sz) := by
  refine Met.ofW (cc := b_String_getBytes) (maxL := 4) (ret := none) (by decide) rfl ?_
  intro p e s m args below meth c s₁ B hml hv
  obtain ⟨rfl, ⟨hsz, hP, hK, hD0, hG⟩, hg⟩ := hv
  have hx := B.exec
  have hb := B.bytes
  have hr := B.returns
  have hts : ∀ w ∈ tb, w.before _ s = true := fun w h => atoms_spec (ws := ws_ _ _ _ _) B.pre w (List.mem_cons_of_mem _ h)
  have hown : s.vm.findClass R_String = some m.cls := findClass_of_methodNamed B.named
  have hlocks := B.notSynchronized
  subst hsz
  have hD := hD0.self (sz := s.heap.size)
  generalize hAe : va_A [ar_ h_p1 c_p1 n_p1 f_p1] s.heap.size = A at hD hG hg ⊢
  have hA : ∀ q : Nat, s.heap.size ≤ q → A q := fun q h => by rw [← hAe]; exact Or.inr h
  have hS : va_S A s.heap s.heap [] := va_S.rf
  have hP : va_P (dC, dI) vwCl [ar_ h_p1 c_p1 n_p1 f_p1] s.heap := hP
  have hl := lv_entry [.ref (adK i), .ref h_p1, .int x2, .int x3] (n := 4) (Nat.le_of_ble_eq_true rfl)
  rw [lg_entry_eq]
  generalize (lg_sl [.ref (adK i), .ref h_p1, .int x2, .int x3] ++ List.replicate (4 - (lg_sl [.ref (adK i), .ref h_p1, .int x2, .int x3]).length) Slot.unset).toArray = ls at hl ⊢
  have hl : lv_has ls 4 [(0, .ref (adK i)), (1, .ref h_p1), (2, .int x2), (3, .int x3)] := hl
  obtain ⟨Q, hQ⟩ : ∃ Q : State → Prop, Q = MQ below (va_Qv (fun (u : (Nat → Int32)) => post u) (fun (u : (Nat → Int32)) (t : State) => va_P (dC, dI) vwCl [ar_ h_p1 c_p1 n_p1 u] t.heap ∧ va_K (dC, dI) vwCl [(c_p1, .byte)] t ∧ va_D A [ar_ h_p1 c_p1 n_p1 u]) A) ([.ref (adK i), .ref h_p1, .int x2, .int x3] : List Value).toArray s 0 0 A := ⟨_, rfl⟩
  rw [← hQ]
  unfold wp_String_getBytes at hw
  refine lv_aload_n hx hb d_String_getBytes_0 rfl (lv_at hl 0 rfl) ?_
  have hPc := hP.sub (ws' := []) [] rfl
  have hDc := hD.sub (ws' := []) [] (by decide) rfl
  have hKc := hK.sub (tys' := []) [] rfl
  have hFc := va_free (wc := []) hD hS hA [] rfl
  refine va_calli (va_runV (As := []) (rest := []) ⟨hx, hb, hml, hown, hts⟩ (c_String_coder l dC dI adK adV i hi s.heap.size _ hw) (cwV 0 hts (gd_V kt_101 kt_102 kt_103 kt_5 kt_104) rfl rfl rfl (by decide +kernel) ⟨Nat.le_of_ble_eq_true rfl, Nat.le_of_ble_eq_true rfl⟩) ⟨prek_blind, vk_recv hg.1 hi hS, prek_ok hPc hKc hDc hG hg hS hFc⟩ rfl rfl hl.1 rfl (lv_room (Nat.le_of_ble_eq_true rfl)) d_String_getBytes_1 ⟨Nat.zero_le _, Nat.zero_le _⟩) hS (fun q _ h => hFc q h) hFc (fun r_1 u t H1 locs ht hvm hw hB hz1 hk1 hS => ?_)
  obtain ⟨hP1, hK1, hD1⟩ := hB
  rw [ht] at hP1
  try dsimp only at hw
  obtain ⟨hP, hD⟩ := va_join (wr := [ar_ h_p1 c_p1 n_p1 f_p1]) (w1 := []) hP hD [] [0] rfl rfl (by decide) (by decide) hk1 hFc hP1 hD1
  generalize H1 = H at hP hS ⊢
  have hP : va_P (dC, dI) vwCl [ar_ h_p1 c_p1 n_p1 f_p1] H := hP
  have hD : va_D A [ar_ h_p1 c_p1 n_p1 f_p1] := hD
  refine lv_iload_n hx hb d_String_getBytes_4 rfl (lv_at hl 3 rfl) ?_
  refine lv_icmp_ne (tgt := 28) hx hb d_String_getBytes_5 (by decide) (fun c_2 => ?_) (fun c_2 => ?_)
  · have hw := hw.2 c_2
    refine lv_aload_n hx hb d_String_getBytes_28 rfl (lv_at hl 0 rfl) ?_
    refine vk_getf (v := .ref (adV i)) hx hb (hg.1.1 i hi).2.2.1 hS hown (hts _ kt_1372) (fun _ h9 => h9) d_String_getBytes_29 ?_
    refine lv_iconst (v := 0) hx hb d_String_getBytes_32 (by decide) ?_
    refine lv_aload_n hx hb d_String_getBytes_33 rfl (lv_at hl 1 rfl) ?_
    refine lv_iload_n hx hb d_String_getBytes_34 rfl (lv_at hl 2 rfl) ?_
    refine lv_aload_n hx hb d_String_getBytes_35 rfl (lv_at hl 0 rfl) ?_
    refine vk_getf (v := .ref (adV i)) hx hb (hg.1.1 i hi).2.2.1 hS hown (hts _ kt_1372) (fun _ h9 => h9) d_String_getBytes_36 ?_
    refine va_tlen (v := Int32.ofNat (lenS.getD i 0)) hx hb (hg.1.1 i hi).2.2.2 hS rfl d_String_getBytes_39 ?_
    exact False.elim hw
  · have hw := hw.1 c_2
    refine lv_aload_n hx hb d_String_getBytes_8 rfl (lv_at hl 0 rfl) ?_
    refine vk_getf (v := .ref (adV i)) hx hb (hg.1.1 i hi).2.2.1 hS hown (hts _ kt_1372) (fun _ h9 => h9) d_String_getBytes_9 ?_
    refine lv_iconst (v := 0) hx hb d_String_getBytes_12 (by decide) ?_
    refine lv_aload_n hx hb d_String_getBytes_13 rfl (lv_at hl 1 rfl) ?_
    refine lv_iload_n hx hb d_String_getBytes_14 rfl (lv_at hl 2 rfl) ?_
    refine lv_iload_n hx hb d_String_getBytes_15 rfl (lv_at hl 3 rfl) ?_
    refine lv_ishl hx hb d_String_getBytes_16 ?_
    refine lv_aload_n hx hb d_String_getBytes_17 rfl (lv_at hl 0 rfl) ?_
    refine vk_getf (v := .ref (adV i)) hx hb (hg.1.1 i hi).2.2.1 hS hown (hts _ kt_1372) (fun _ h9 => h9) d_String_getBytes_18 ?_
    refine va_tlen (v := Int32.ofNat (lenS.getD i 0)) hx hb (hg.1.1 i hi).2.2.2 hS rfl d_String_getBytes_21 ?_
    obtain ⟨h_3, h_4, h_5, h_6, h_7, h_8, hw⟩ := hw
    refine vk_copyt (f := (fun j => (bytS.getD i []).getD j 0)) (sp := (0 : Int32)) (dp := (x2 <<< (x3 &&& 31))) (n := (Int32.ofNat (lenS.getD i 0))) (rest := []) hx hb (by rw [hml]; exact hl.1.symm) hown (hts _ kt_932) (hts _ kt_516) (hts _ kt_515) (hts _ kt_17) hK hP hD hS (hg.1.1 i hi).2.2.2 0 0 rfl rfl h_3 h_4 h_5 h_6 h_7 h_8 (Nat.le_of_ble_eq_true rfl) (Nat.le_of_ble_eq_true rfl) d_String_getBytes_22 (fun H locs hP hD hS => ?_)
    have hP : va_P (dC, dI) vwCl [ar_ h_p1 c_p1 n_p1 (va_cpy (fun j => (bytS.getD i []).getD j 0) f_p1 (0 : Int32).toNatClampNeg (x2 <<< (x3 &&& 31)).toNatClampNeg (Int32.ofNat (lenS.getD i 0)).toNatClampNeg)] H := hP
    have hD : va_D A [ar_ h_p1 c_p1 n_p1 (va_cpy (fun j => (bytS.getD i []).getD j 0) f_p1 (0 : Int32).toNatClampNeg (x2 <<< (x3 &&& 31)).toNatClampNeg (Int32.ofNat (lenS.getD i 0)).toNatClampNeg)] := hD
    refine lv_goto (tgt := 43) hx hb d_String_getBytes_25 (by decide) ?_
    have hP9 : va_P (dC, dI) vwCl [ar_ h_p1 c_p1 n_p1 (va_cpy (fun j => (bytS.getD i []).getD j 0) f_p1 (0 : Int32).toNatClampNeg (x2 <<< (x3 &&& 31)).toNatClampNeg (Int32.ofNat (lenS.getD i 0)).toNatClampNeg)] _ := hP
    have hD9 : va_D A [ar_ h_p1 c_p1 n_p1 (va_cpy (fun j => (bytS.getD i []).getD j 0) f_p1 (0 : Int32).toNatClampNeg (x2 <<< (x3 &&& 31)).toNatClampNeg (Int32.ofNat (lenS.getD i 0)).toNatClampNeg)] := hD
    rw [hQ]
    exact W.vret hx hb hr (fun t ht hW => ⟨⟨(va_cpy (fun j => (bytS.getD i []).getD j 0) f_p1 (0 : Int32).toNatClampNeg (x2 <<< (x3 &&& 31)).toNatClampNeg (Int32.ofNat (lenS.getD i 0)).toNatClampNeg), rfl, hw, by rw [ht]; exact hP9, va_K.moved hW.alike hK, hD9⟩, hS.F ht⟩) hS.2.2 d_String_getBytes_43

set_option maxHeartbeats 4000000 in
set_option maxRecDepth 100000 in
theorem c_ASB_inflateIf (l : Launch) (dC : Nat → ClassId) (dI : Nat → Nat → Nat) (adK adV : Nat → Nat) (i : Nat) (hi : i < 3) (h_this : Nat) (c_value : ClassId) (sz : Nat)  (i_coder : Int32) (i_maybeLatin1 : Int32) (i_count : Int32) (a_value : Nat) (n_value : Nat) (f_value : Nat → Int32)  (post : Prop) (hw : wp_ASB_inflateIf i i_coder  post) : Met l y_ASB_inflateIf (ws_ y_ASB_inflateIf b_ASB_inflateIf 2 none) { frames := 1, cells := 0, slots := 0, locals := 20 } (va_Pc [.ref h_this, .ref (adK i)] (PREk adK adV (dC, dI) vwCl [(c_value, .byte)] [ob_SB h_this a_value i_coder i_maybeLatin1 i_count, ar_ a_value c_value n_value f_value] sz (va_A [ob_SB h_this a_value i_coder i_maybeLatin1 i_count, ar_ a_value c_value n_value f_value] sz))) (va_Qv (fun (u : Unit) => post ) (fun (u : Unit) (t : State) => va_P (dC, dI) vwCl [ob_SB h_this a_value i_coder i_maybeLatin1 i_count, ar_ a_value c_value n_value f_value] t.heap ∧ va_K (dC, dI) vwCl [(c_value, .byte)] t ∧ va_D (va_A [ob_SB h_this a_value i_coder i_maybeLatin1 i_count, ar_ a_value c_value n_value f_value] sz) [ob_SB h_this a_value i_coder i_maybeLatin1 i_count, ar_ a_value c_value n_value f_value]) (va_A [ob_SB h_this a_value i_coder i_maybeLatin1 i_count, ar_ a_value c_value n_value f_value] sz)) 0 0 (va_A [ob_SB h_this a_value i_coder i_maybeLatin1 i_count, ar_ a_value c_value n_value f_value] sz) := by
  refine Met.ofW (cc := b_ASB_inflateIf) (maxL := 2) (ret := none) (by decide) rfl ?_
  intro p e s m args below meth c s₁ B hml hv
  obtain ⟨rfl, ⟨hsz, hP, hK, hD0, hG⟩, hg⟩ := hv
  have hx := B.exec
  have hb := B.bytes
  have hr := B.returns
  have hts : ∀ w ∈ tb, w.before _ s = true := fun w h => atoms_spec (ws := ws_ _ _ _ _) B.pre w (List.mem_cons_of_mem _ h)
  have hown : s.vm.findClass R_ASB = some m.cls := findClass_of_methodNamed B.named
  have hlocks := B.notSynchronized
  subst hsz
  have hD := hD0.self (sz := s.heap.size)
  generalize hAe : va_A [ob_SB h_this a_value i_coder i_maybeLatin1 i_count, ar_ a_value c_value n_value f_value] s.heap.size = A at hD hG hg ⊢
  have hA : ∀ q : Nat, s.heap.size ≤ q → A q := fun q h => by rw [← hAe]; exact Or.inr h
  have hS : va_S A s.heap s.heap [] := va_S.rf
  have hP : va_P (dC, dI) vwCl [ob_SB h_this a_value i_coder i_maybeLatin1 i_count, ar_ a_value c_value n_value f_value] s.heap := hP
  have hl := lv_entry [.ref h_this, .ref (adK i)] (n := 2) (Nat.le_of_ble_eq_true rfl)
  rw [lg_entry_eq]
  generalize (lg_sl [.ref h_this, .ref (adK i)] ++ List.replicate (2 - (lg_sl [.ref h_this, .ref (adK i)]).length) Slot.unset).toArray = ls at hl ⊢
  have hl : lv_has ls 2 [(0, .ref h_this), (1, .ref (adK i))] := hl
  obtain ⟨Q, hQ⟩ : ∃ Q : State → Prop, Q = MQ below (va_Qv (fun (u : Unit) => post ) (fun (u : Unit) (t : State) => va_P (dC, dI) vwCl [ob_SB h_this a_value i_coder i_maybeLatin1 i_count, ar_ a_value c_value n_value f_value] t.heap ∧ va_K (dC, dI) vwCl [(c_value, .byte)] t ∧ va_D A [ob_SB h_this a_value i_coder i_maybeLatin1 i_count, ar_ a_value c_value n_value f_value]) A) ([.ref h_this, .ref (adK i)] : List Value).toArray s 0 0 A := ⟨_, rfl⟩
  rw [← hQ]
  unfold wp_ASB_inflateIf at hw
  refine va_gets hx hb hG.2.2.2.1 hS hown (hts _ kt_234) (fun _ h9 => h9) d_ASB_inflateIf_0 ?_
  refine lv_if_eq (tgt := 21) hx hb d_ASB_inflateIf_3 (by decide) (fun c_1 => ?_) (fun c_1 => ?_)
  · have hw := hw.1 c_1
    have hP9 : va_P (dC, dI) vwCl [ob_SB h_this a_value i_coder i_maybeLatin1 i_count, ar_ a_value c_value n_value f_value] _ := hP
    have hD9 : va_D A [ob_SB h_this a_value i_coder i_maybeLatin1 i_count, ar_ a_value c_value n_value f_value] := hD
    rw [hQ]
    exact W.vret hx hb hr (fun t ht hW => ⟨⟨(), rfl, hw, by rw [ht]; exact hP9, va_K.moved hW.alike hK, hD9⟩, hS.F ht⟩) hS.2.2 d_ASB_inflateIf_21
  · have hw := hw.2 c_1
    refine lv_aload_n hx hb d_ASB_inflateIf_6 rfl (lv_at hl 0 rfl) ?_
    refine va_get (D := (dC, dI)) (ci := 8) (v := .int i_coder) (C := R_SB) (T := T_SB) (N := 4) hx hb hts in_SB hown hK hP 0 rfl rfl 1 (by decide) (hts _ kt_243) (fun _ h9 => h9) rfl d_ASB_inflateIf_7 ?_
    refine lv_aload_n hx hb d_ASB_inflateIf_10 rfl (lv_at hl 1 rfl) ?_
    have hPc := hP.sub (ws' := []) [] rfl
    have hDc := hD.sub (ws' := []) [] (by decide) rfl
    have hKc := hK.sub (tys' := []) [] rfl
    have hFc := va_free (wc := []) hD hS hA [] rfl
    refine va_calli (va_runV (As := []) (rest := [.int i_coder]) ⟨hx, hb, hml, hown, hts⟩ (c_String_coder l dC dI adK adV i hi s.heap.size _ hw) (cwV 0 hts (gd_V kt_927 kt_102 kt_103 kt_5 kt_104) rfl rfl rfl (by decide +kernel) ⟨Nat.le_of_ble_eq_true rfl, Nat.le_of_ble_eq_true rfl⟩) ⟨prek_blind, vk_recv hg.1 hi hS, prek_ok hPc hKc hDc hG hg hS hFc⟩ rfl rfl hl.1 rfl (lv_room (Nat.le_of_ble_eq_true rfl)) d_ASB_inflateIf_11 ⟨Nat.zero_le _, Nat.zero_le _⟩) hS (fun q _ h => hFc q h) hFc (fun r_2 u t H1 locs ht hvm hw hB hz1 hk1 hS => ?_)
    obtain ⟨hP1, hK1, hD1⟩ := hB
    rw [ht] at hP1
    try dsimp only at hw
    obtain ⟨hP, hD⟩ := va_join (wr := [ob_SB h_this a_value i_coder i_maybeLatin1 i_count, ar_ a_value c_value n_value f_value]) (w1 := []) hP hD [] [0, 1] rfl rfl (by decide) (by decide) hk1 hFc hP1 hD1
    generalize H1 = H at hP hS ⊢
    have hP : va_P (dC, dI) vwCl [ob_SB h_this a_value i_coder i_maybeLatin1 i_count, ar_ a_value c_value n_value f_value] H := hP
    have hD : va_D A [ob_SB h_this a_value i_coder i_maybeLatin1 i_count, ar_ a_value c_value n_value f_value] := hD
    refine lv_icmp_eq (tgt := 21) hx hb d_ASB_inflateIf_14 (by decide) (fun c_3 => ?_) (fun c_3 => ?_)
    · have hw := hw.1 c_3
      have hP9 : va_P (dC, dI) vwCl [ob_SB h_this a_value i_coder i_maybeLatin1 i_count, ar_ a_value c_value n_value f_value] _ := hP
      have hD9 : va_D A [ob_SB h_this a_value i_coder i_maybeLatin1 i_count, ar_ a_value c_value n_value f_value] := hD
      rw [hQ]
      exact W.vret hx hb hr (fun t ht hW => ⟨⟨(), rfl, hw, by rw [ht]; exact hP9, va_K.moved hW.alike hK, hD9⟩, hS.F ht⟩) hS.2.2 d_ASB_inflateIf_21
    · have hw := hw.2 c_3
      refine lv_aload_n hx hb d_ASB_inflateIf_17 rfl (lv_at hl 0 rfl) ?_
      exact False.elim hw

set_option maxHeartbeats 4000000 in
set_option maxRecDepth 100000 in
theorem c_ASB_putStringAt (l : Launch) (dC : Nat → ClassId) (dI : Nat → Nat → Nat) (adK adV : Nat → Nat) (i : Nat) (hi : i < 3) (h_this : Nat) (c_value : ClassId) (sz : Nat)  (i_coder : Int32) (i_maybeLatin1 : Int32) (i_count : Int32) (a_value : Nat) (n_value : Nat) (f_value : Nat → Int32) (x1 : Int32) (post : (Nat → Int32) → Prop) (hw : wp_ASB_putStringAt i i_coder n_value f_value x1 post) : Met l y_ASB_putStringAt (ws_ y_ASB_putStringAt b_ASB_putStringAt 3 none) { frames := 2, cells := 0, slots := 0, locals := 83 } (va_Pc [.ref h_this, .int x1, .ref (adK i)] (PREk adK adV (dC, dI) vwCl [(c_value, .byte)] [ob_SB h_this a_value i_coder i_maybeLatin1 i_count, ar_ a_value c_value n_value f_value] sz (va_A [ob_SB h_this a_value i_coder i_maybeLatin1 i_count, ar_ a_value c_value n_value f_value] sz))) (va_Qv (fun (u : (Nat → Int32)) => post u) (fun (u : (Nat → Int32)) (t : State) => va_P (dC, dI) vwCl [ob_SB h_this a_value i_coder i_maybeLatin1 i_count, ar_ a_value c_value n_value u] t.heap ∧ va_K (dC, dI) vwCl [(c_value, .byte)] t ∧ va_D (va_A [ob_SB h_this a_value i_coder i_maybeLatin1 i_count, ar_ a_value c_value n_value f_value] sz) [ob_SB h_this a_value i_coder i_maybeLatin1 i_count, ar_ a_value c_value n_value u]) (va_A [ob_SB h_this a_value i_coder i_maybeLatin1 i_count, ar_ a_value c_value n_value f_value] sz)) 0 0 (va_A [ob_SB h_this a_value i_coder i_maybeLatin1 i_count, ar_ a_value c_value n_value f_value] sz) := by
  refine Met.ofW (cc := b_ASB_putStringAt) (maxL := 3) (ret := none) (by decide) rfl ?_
  intro p e s m args below meth c s₁ B hml hv
  obtain ⟨rfl, ⟨hsz, hP, hK, hD0, hG⟩, hg⟩ := hv
  have hx := B.exec
  have hb := B.bytes
  have hr := B.returns
  have hts : ∀ w ∈ tb, w.before _ s = true := fun w h => atoms_spec (ws := ws_ _ _ _ _) B.pre w (List.mem_cons_of_mem _ h)
  have hown : s.vm.findClass R_ASB = some m.cls := findClass_of_methodNamed B.named
  have hlocks := B.notSynchronized
  subst hsz
  have hD := hD0.self (sz := s.heap.size)
  generalize hAe : va_A [ob_SB h_this a_value i_coder i_maybeLatin1 i_count, ar_ a_value c_value n_value f_value] s.heap.size = A at hD hG hg ⊢
  have hA : ∀ q : Nat, s.heap.size ≤ q → A q := fun q h => by rw [← hAe]; exact Or.inr h
  have hS : va_S A s.heap s.heap [] := va_S.rf
  have hP : va_P (dC, dI) vwCl [ob_SB h_this a_value i_coder i_maybeLatin1 i_count, ar_ a_value c_value n_value f_value] s.heap := hP
  have hl := lv_entry [.ref h_this, .int x1, .ref (adK i)] (n := 3) (Nat.le_of_ble_eq_true rfl)
  rw [lg_entry_eq]
  generalize (lg_sl [.ref h_this, .int x1, .ref (adK i)] ++ List.replicate (3 - (lg_sl [.ref h_this, .int x1, .ref (adK i)]).length) Slot.unset).toArray = ls at hl ⊢
  have hl : lv_has ls 3 [(0, .ref h_this), (1, .int x1), (2, .ref (adK i))] := hl
  obtain ⟨Q, hQ⟩ : ∃ Q : State → Prop, Q = MQ below (va_Qv (fun (u : (Nat → Int32)) => post u) (fun (u : (Nat → Int32)) (t : State) => va_P (dC, dI) vwCl [ob_SB h_this a_value i_coder i_maybeLatin1 i_count, ar_ a_value c_value n_value u] t.heap ∧ va_K (dC, dI) vwCl [(c_value, .byte)] t ∧ va_D A [ob_SB h_this a_value i_coder i_maybeLatin1 i_count, ar_ a_value c_value n_value u]) A) ([.ref h_this, .int x1, .ref (adK i)] : List Value).toArray s 0 0 A := ⟨_, rfl⟩
  rw [← hQ]
  unfold wp_ASB_putStringAt at hw
  refine lv_aload_n hx hb d_ASB_putStringAt_0 rfl (lv_at hl 0 rfl) ?_
  refine lv_aload_n hx hb d_ASB_putStringAt_1 rfl (lv_at hl 2 rfl) ?_
  have hPc := hP.sub (ws' := [ob_SB h_this a_value i_coder i_maybeLatin1 i_count, ar_ a_value c_value n_value f_value]) [0, 1] rfl
  have hDc := hD.sub (ws' := [ob_SB h_this a_value i_coder i_maybeLatin1 i_count, ar_ a_value c_value n_value f_value]) [0, 1] (by decide) rfl
  have hKc := hK.sub (tys' := [(c_value, .byte)]) [0] rfl
  have hFc := va_free (wc := [ob_SB h_this a_value i_coder i_maybeLatin1 i_count, ar_ a_value c_value n_value f_value]) hD hS hA [0, 1] rfl
  refine va_callv (va_runU (As := [.ref (adK i)]) (rest := []) ⟨hx, hb, hml, hown, hts⟩ (c_ASB_inflateIf l dC dI adK adV i hi h_this c_value s.heap.size i_coder i_maybeLatin1 i_count a_value n_value f_value _ hw) (va_cwU (owner := R_ASB) 1 hts (gd_U kt_923 kt_1370 (mem_sb (i := 3) rfl rfl) kt_925 kt_14 kt_926) rfl rfl rfl rfl (by decide +kernel) ⟨Nat.le_of_ble_eq_true rfl, Nat.le_of_ble_eq_true rfl⟩) ⟨prek_blind, va_recv hKc hPc (ci := 8) (q0 := 0) rfl rfl, prek_ok hPc hKc hDc hG hg hS hFc⟩ rfl rfl hl.1 rfl (lv_room (Nat.le_of_ble_eq_true rfl)) d_ASB_putStringAt_2 ⟨Nat.zero_le _, Nat.zero_le _⟩) hS (fun q _ h => hFc q h) hFc (fun u t H1 locs ht hvm hw hB hz1 hk1 hS => ?_)
  obtain ⟨hP1, hK1, hD1⟩ := hB
  rw [ht] at hP1
  try dsimp only at hw
  obtain ⟨hP, hD⟩ := va_join (wr := []) (w1 := [ob_SB h_this a_value i_coder i_maybeLatin1 i_count, ar_ a_value c_value n_value f_value]) hP hD [0, 1] [] rfl rfl (by decide) (by decide) hk1 hFc hP1 hD1
  generalize H1 = H at hP hS ⊢
  have hP : va_P (dC, dI) vwCl [ob_SB h_this a_value i_coder i_maybeLatin1 i_count, ar_ a_value c_value n_value f_value] H := hP
  have hD : va_D A [ob_SB h_this a_value i_coder i_maybeLatin1 i_count, ar_ a_value c_value n_value f_value] := hD
  refine lv_aload_n hx hb d_ASB_putStringAt_5 rfl (lv_at hl 2 rfl) ?_
  refine lv_aload_n hx hb d_ASB_putStringAt_6 rfl (lv_at hl 0 rfl) ?_
  refine va_get (D := (dC, dI)) (ci := 8) (v := .ref a_value) (C := R_SB) (T := T_SB) (N := 4) hx hb hts in_SB hown hK hP 0 rfl rfl 0 (by decide) (hts _ kt_242) (fun _ h9 => h9) rfl d_ASB_putStringAt_7 ?_
  refine lv_iload_n hx hb d_ASB_putStringAt_10 rfl (lv_at hl 1 rfl) ?_
  refine lv_aload_n hx hb d_ASB_putStringAt_11 rfl (lv_at hl 0 rfl) ?_
  refine va_get (D := (dC, dI)) (ci := 8) (v := .int i_coder) (C := R_SB) (T := T_SB) (N := 4) hx hb hts in_SB hown hK hP 0 rfl rfl 1 (by decide) (hts _ kt_243) (fun _ h9 => h9) rfl d_ASB_putStringAt_12 ?_
  have hPc := hP.sub (ws' := [ar_ a_value c_value n_value f_value]) [1] rfl
  have hDc := hD.sub (ws' := [ar_ a_value c_value n_value f_value]) [1] (by decide) rfl
  have hKc := hK.sub (tys' := [(c_value, .byte)]) [0] rfl
  have hFc := va_free (wc := [ar_ a_value c_value n_value f_value]) hD hS hA [1] rfl
  refine va_callv (va_runV (As := [.ref a_value, .int x1, .int i_coder]) (rest := []) ⟨hx, hb, hml, hown, hts⟩ (c_String_getBytes l dC dI adK adV i hi a_value c_value H.size n_value f_value x1 i_coder _ hw) (cwV 3 hts (gd_V kt_928 kt_929 kt_930 kt_5 kt_931) rfl rfl rfl (by decide +kernel) ⟨Nat.le_of_ble_eq_true rfl, Nat.le_of_ble_eq_true rfl⟩) ⟨prek_blind, vk_recv hg.1 hi hS, prek_ok hPc hKc hDc hG hg hS hFc⟩ rfl rfl hl.1 rfl (lv_room (Nat.le_of_ble_eq_true rfl)) d_ASB_putStringAt_15 ⟨Nat.zero_le _, Nat.zero_le _⟩) hS (fun q _ h => hFc q h) hFc (fun u t H1 locs ht hvm hw hB hz1 hk1 hS => ?_)
  obtain ⟨f_value_1, rfl⟩ : ∃ z, z = u := ⟨_, rfl⟩
  obtain ⟨hP1, hK1, hD1⟩ := hB
  rw [ht] at hP1
  try dsimp only at hw
  obtain ⟨hP, hD⟩ := va_join (wr := [ob_SB h_this a_value i_coder i_maybeLatin1 i_count]) (w1 := [ar_ a_value c_value n_value f_value_1]) hP hD [1] [0] rfl rfl (by decide) (by decide) hk1 hFc hP1 hD1
  generalize H1 = H at hP hS ⊢
  have hP : va_P (dC, dI) vwCl [ob_SB h_this a_value i_coder i_maybeLatin1 i_count, ar_ a_value c_value n_value f_value_1] H := hP
  have hD : va_D A [ob_SB h_this a_value i_coder i_maybeLatin1 i_count, ar_ a_value c_value n_value f_value_1] := hD
  have hP9 : va_P (dC, dI) vwCl [ob_SB h_this a_value i_coder i_maybeLatin1 i_count, ar_ a_value c_value n_value f_value_1] _ := hP
  have hD9 : va_D A [ob_SB h_this a_value i_coder i_maybeLatin1 i_count, ar_ a_value c_value n_value f_value_1] := hD
  rw [hQ]
  exact W.vret hx hb hr (fun t ht hW => ⟨⟨(f_value_1), rfl, hw, by rw [ht]; exact hP9, va_K.moved hW.alike hK, hD9⟩, hS.F ht⟩) hS.2.2 d_ASB_putStringAt_18

set_option maxHeartbeats 4000000 in
set_option maxRecDepth 100000 in
theorem c_ASB_append_s (l : Launch) (dC : Nat → ClassId) (dI : Nat → Nat → Nat) (mc : Nat) (ms : Nat) (adK adV : Nat → Nat) (i : Nat) (hi : i < 3) (h_this : Nat) (c_value : ClassId) (sz : Nat)  (i_coder : Int32) (i_maybeLatin1 : Int32) (i_count : Int32) (a_value : Nat) (n_value : Nat) (f_value : Nat → Int32)  (post : Int32 → Nat → Nat → (Nat → Int32) → Prop) (hw : wp_ASB_append_s mc ms i i_coder i_count a_value n_value f_value  post) : Met l y_ASB_append_s (ws_ y_ASB_append_s b_ASB_append_s 3 (some (.object "java/lang/AbstractStringBuilder"))) { frames := 4, cells := mc, slots := ms, locals := 105 } (va_Pc [.ref h_this, .ref (adK i)] (PREk adK adV (dC, dI) vwCl [(c_value, .byte)] [ob_SB h_this a_value i_coder i_maybeLatin1 i_count, ar_ a_value c_value n_value f_value] sz (va_A [ob_SB h_this a_value i_coder i_maybeLatin1 i_count, ar_ a_value c_value n_value f_value] sz))) (va_Qr (fun (u : Int32 × Nat × Nat × (Nat → Int32)) => post u.1 u.2.1 u.2.2.1 u.2.2.2) (fun (u : Int32 × Nat × Nat × (Nat → Int32)) (a9 : Nat) (t : State) => a9 = h_this ∧ va_P (dC, dI) vwCl [ob_SB h_this u.2.1 i_coder i_maybeLatin1 u.1, ar_ u.2.1 c_value u.2.2.1 u.2.2.2] t.heap ∧ va_K (dC, dI) vwCl [(c_value, .byte)] t ∧ va_D (va_A [ob_SB h_this a_value i_coder i_maybeLatin1 i_count, ar_ a_value c_value n_value f_value] sz) [ob_SB h_this u.2.1 i_coder i_maybeLatin1 u.1, ar_ u.2.1 c_value u.2.2.1 u.2.2.2]) (va_A [ob_SB h_this a_value i_coder i_maybeLatin1 i_count, ar_ a_value c_value n_value f_value] sz)) mc ms (va_A [ob_SB h_this a_value i_coder i_maybeLatin1 i_count, ar_ a_value c_value n_value f_value] sz) := by
  refine Met.ofW (cc := b_ASB_append_s) (maxL := 3) (ret := (some (.object "java/lang/AbstractStringBuilder"))) (by decide) rfl ?_
  intro p e s m args below meth c s₁ B hml hv
  obtain ⟨rfl, ⟨hsz, hP, hK, hD0, hG⟩, hg⟩ := hv
  have hx := B.exec
  have hb := B.bytes
  have hr := B.returns
  have hts : ∀ w ∈ tb, w.before _ s = true := fun w h => atoms_spec (ws := ws_ _ _ _ _) B.pre w (List.mem_cons_of_mem _ h)
  have hown : s.vm.findClass R_ASB = some m.cls := findClass_of_methodNamed B.named
  have hlocks := B.notSynchronized
  subst hsz
  have hD := hD0.self (sz := s.heap.size)
  generalize hAe : va_A [ob_SB h_this a_value i_coder i_maybeLatin1 i_count, ar_ a_value c_value n_value f_value] s.heap.size = A at hD hG hg ⊢
  have hA : ∀ q : Nat, s.heap.size ≤ q → A q := fun q h => by rw [← hAe]; exact Or.inr h
  have hS : va_S A s.heap s.heap [] := va_S.rf
  have hP : va_P (dC, dI) vwCl [ob_SB h_this a_value i_coder i_maybeLatin1 i_count, ar_ a_value c_value n_value f_value] s.heap := hP
  have hl := lv_entry [.ref h_this, .ref (adK i)] (n := 3) (Nat.le_of_ble_eq_true rfl)
  rw [lg_entry_eq]
  generalize (lg_sl [.ref h_this, .ref (adK i)] ++ List.replicate (3 - (lg_sl [.ref h_this, .ref (adK i)]).length) Slot.unset).toArray = ls at hl ⊢
  have hl : lv_has ls 3 [(0, .ref h_this), (1, .ref (adK i))] := hl
  obtain ⟨Q, hQ⟩ : ∃ Q : State → Prop, Q = MQ below (va_Qr (fun (u : Int32 × Nat × Nat × (Nat → Int32)) => post u.1 u.2.1 u.2.2.1 u.2.2.2) (fun (u : Int32 × Nat × Nat × (Nat → Int32)) (a9 : Nat) (t : State) => a9 = h_this ∧ va_P (dC, dI) vwCl [ob_SB h_this u.2.1 i_coder i_maybeLatin1 u.1, ar_ u.2.1 c_value u.2.2.1 u.2.2.2] t.heap ∧ va_K (dC, dI) vwCl [(c_value, .byte)] t ∧ va_D A [ob_SB h_this u.2.1 i_coder i_maybeLatin1 u.1, ar_ u.2.1 c_value u.2.2.1 u.2.2.2]) A) ([.ref h_this, .ref (adK i)] : List Value).toArray s mc ms A := ⟨_, rfl⟩
  rw [← hQ]
  have hkc : 0 ≤ mc := Nat.zero_le _
  have hks : 0 ≤ ms := Nat.zero_le _
  unfold wp_ASB_append_s at hw
  refine lv_aload_n hx hb d_ASB_append_s_0 rfl (lv_at hl 1 rfl) ?_
  refine lv_ifnonnull (tgt := 9) hx hb d_ASB_append_s_1 (by decide) ?_
  refine lv_aload_n hx hb d_ASB_append_s_9 rfl (lv_at hl 1 rfl) ?_
  have hPc := hP.sub (ws' := []) [] rfl
  have hDc := hD.sub (ws' := []) [] (by decide) rfl
  have hKc := hK.sub (tys' := []) [] rfl
  have hFc := va_free (wc := []) hD hS hA [] rfl
  refine va_calli (va_runV (As := []) (rest := []) ⟨hx, hb, hml, hown, hts⟩ (c_String_length l dC dI adK adV i hi s.heap.size _ hw) (cwV 0 hts (gd_V kt_918 kt_98 kt_99 kt_5 kt_100) rfl rfl rfl (by decide +kernel) ⟨Nat.le_of_ble_eq_true rfl, Nat.le_of_ble_eq_true rfl⟩) ⟨prek_blind, vk_recv hg.1 hi hS, prek_ok hPc hKc hDc hG hg hS hFc⟩ rfl rfl hl.1 rfl (lv_room (Nat.le_of_ble_eq_true rfl)) d_ASB_append_s_10 ⟨hkc, hks⟩) hS (fun q _ h => hFc q h) hFc (fun r_1 u t H1 locs ht hvm hw hB hz1 hk1 hS => ?_)
  obtain ⟨hP1, hK1, hD1⟩ := hB
  rw [ht] at hP1
  try dsimp only at hw
  obtain ⟨hP, hD⟩ := va_join (wr := [ob_SB h_this a_value i_coder i_maybeLatin1 i_count, ar_ a_value c_value n_value f_value]) (w1 := []) hP hD [] [0, 1] rfl rfl (by decide) (by decide) hk1 hFc hP1 hD1
  generalize H1 = H at hP hS ⊢
  have hP : va_P (dC, dI) vwCl [ob_SB h_this a_value i_coder i_maybeLatin1 i_count, ar_ a_value c_value n_value f_value] H := hP
  have hD : va_D A [ob_SB h_this a_value i_coder i_maybeLatin1 i_count, ar_ a_value c_value n_value f_value] := hD
  refine W.widen (k := 0) (n := 0) (Nat.le_refl _) (Nat.le_refl _) ?_
  refine lv_istore_n (lv' := [(2, .int r_1), (0, .ref h_this), (1, .ref (adK i))]) hx hb d_ASB_append_s_13 rfl hl (by decide) rfl (fun ls hl => ?_)
  refine lv_aload_n hx hb d_ASB_append_s_14 rfl (lv_at hl 1 rfl) ?_
  refine lv_aload_n hx hb d_ASB_append_s_15 rfl (lv_at hl 1 rfl) ?_
  refine va_get (D := (dC, dI)) (ci := 8) (v := .int i_count) (C := R_SB) (T := T_SB) (N := 4) hx hb hts in_SB hown hK hP 0 rfl rfl 3 (by decide) (hts _ kt_245) (fun _ h9 => h9) rfl d_ASB_append_s_16 ?_
  refine lv_iload_n hx hb d_ASB_append_s_19 rfl (lv_at hl 0 rfl) ?_
  refine lv_iadd hx hb d_ASB_append_s_20 ?_
  obtain ⟨ca_5, cb_6, hkc, hks, hw⟩ := hw
  have hPc := hP.sub (ws' := [ob_SB h_this a_value i_coder i_maybeLatin1 i_count, ar_ a_value c_value n_value f_value]) [0, 1] rfl
  have hDc := hD.sub (ws' := [ob_SB h_this a_value i_coder i_maybeLatin1 i_count, ar_ a_value c_value n_value f_value]) [0, 1] (by decide) rfl
  have hKc := hK.sub (tys' := [(c_value, .byte)]) [0] rfl
  have hFc := va_free (wc := [ob_SB h_this a_value i_coder i_maybeLatin1 i_count, ar_ a_value c_value n_value f_value]) hD hS hA [0, 1] rfl
  refine va_callv (va_runU (As := [.int (i_count + r_1)]) (rest := []) ⟨hx, hb, hml, hown, hts⟩ (c_ASB_ensure l dC dI ca_5 cb_6 h_this c_value H.size i_coder i_maybeLatin1 i_count a_value n_value f_value (i_count + r_1) _ hw) (va_cwU (owner := R_ASB) 1 hts (gd_U kt_759 kt_1361 (mem_sb (i := 0) rfl rfl) kt_761 kt_14 kt_762) rfl rfl rfl rfl (by decide +kernel) ⟨Nat.le_of_ble_eq_true rfl, Nat.le_of_ble_eq_true rfl⟩) ⟨pre_blind, va_recv hKc hPc (ci := 8) (q0 := 0) rfl rfl, pre_ok hPc hKc hDc hG hS hFc⟩ rfl rfl hl.1 rfl (lv_room (Nat.le_of_ble_eq_true rfl)) d_ASB_append_s_21 ⟨hkc, hks⟩) hS (fun q _ h => hFc q h) hFc (fun u t H1 locs ht hvm hw hB hz1 hk1 hS => ?_)
  obtain ⟨a_value_2, n_value_3, f_value_4⟩ := u
  obtain ⟨hP1, hK1, hD1⟩ := hB
  rw [ht] at hP1
  try dsimp only at hw
  obtain ⟨hP, hD⟩ := va_join (wr := []) (w1 := [ob_SB h_this a_value_2 i_coder i_maybeLatin1 i_count, ar_ a_value_2 c_value n_value_3 f_value_4]) hP hD [0, 1] [] rfl rfl (by decide) (by decide) hk1 hFc hP1 hD1
  generalize H1 = H at hP hS ⊢
  have hP : va_P (dC, dI) vwCl [ob_SB h_this a_value_2 i_coder i_maybeLatin1 i_count, ar_ a_value_2 c_value n_value_3 f_value_4] H := hP
  have hD : va_D A [ob_SB h_this a_value_2 i_coder i_maybeLatin1 i_count, ar_ a_value_2 c_value n_value_3 f_value_4] := hD
  refine W.widen (k := 0 + ca_5) (n := 0 + cb_6) (Nat.le_refl _) (Nat.le_refl _) ?_
  refine lv_aload_n hx hb d_ASB_append_s_24 rfl (lv_at hl 1 rfl) ?_
  refine lv_aload_n hx hb d_ASB_append_s_25 rfl (lv_at hl 1 rfl) ?_
  refine va_get (D := (dC, dI)) (ci := 8) (v := .int i_count) (C := R_SB) (T := T_SB) (N := 4) hx hb hts in_SB hown hK hP 0 rfl rfl 3 (by decide) (hts _ kt_245) (fun _ h9 => h9) rfl d_ASB_append_s_26 ?_
  refine lv_aload_n hx hb d_ASB_append_s_29 rfl (lv_at hl 2 rfl) ?_
  have hPc := hP.sub (ws' := [ob_SB h_this a_value_2 i_coder i_maybeLatin1 i_count, ar_ a_value_2 c_value n_value_3 f_value_4]) [0, 1] rfl
  have hDc := hD.sub (ws' := [ob_SB h_this a_value_2 i_coder i_maybeLatin1 i_count, ar_ a_value_2 c_value n_value_3 f_value_4]) [0, 1] (by decide) rfl
  have hKc := hK.sub (tys' := [(c_value, .byte)]) [0] rfl
  have hFc := va_free (wc := [ob_SB h_this a_value_2 i_coder i_maybeLatin1 i_count, ar_ a_value_2 c_value n_value_3 f_value_4]) hD hS hA [0, 1] rfl
  refine va_callv (va_runU (As := [.int i_count, .ref (adK i)]) (rest := []) ⟨hx, hb, hml, hown, hts⟩ (c_ASB_putStringAt l dC dI adK adV i hi h_this c_value H.size i_coder i_maybeLatin1 i_count a_value_2 n_value_3 f_value_4 i_count _ hw) (va_cwU (owner := R_ASB) 2 hts (gd_U kt_919 kt_1369 (mem_sb (i := 2) rfl rfl) kt_921 kt_14 kt_922) rfl rfl rfl rfl (by decide +kernel) ⟨Nat.le_of_ble_eq_true rfl, Nat.le_of_ble_eq_true rfl⟩) ⟨prek_blind, va_recv hKc hPc (ci := 8) (q0 := 0) rfl rfl, prek_ok hPc hKc hDc hG hg hS hFc⟩ rfl rfl hl.1 rfl (lv_room (Nat.le_of_ble_eq_true rfl)) d_ASB_append_s_30 ⟨hkc, hks⟩) hS (fun q _ h => hFc q h) hFc (fun u t H1 locs ht hvm hw hB hz1 hk1 hS => ?_)
  obtain ⟨f_value_7, rfl⟩ : ∃ z, z = u := ⟨_, rfl⟩
  obtain ⟨hP1, hK1, hD1⟩ := hB
  rw [ht] at hP1
  try dsimp only at hw
  obtain ⟨hP, hD⟩ := va_join (wr := []) (w1 := [ob_SB h_this a_value_2 i_coder i_maybeLatin1 i_count, ar_ a_value_2 c_value n_value_3 f_value_7]) hP hD [0, 1] [] rfl rfl (by decide) (by decide) hk1 hFc hP1 hD1
  generalize H1 = H at hP hS ⊢
  have hP : va_P (dC, dI) vwCl [ob_SB h_this a_value_2 i_coder i_maybeLatin1 i_count, ar_ a_value_2 c_value n_value_3 f_value_7] H := hP
  have hD : va_D A [ob_SB h_this a_value_2 i_coder i_maybeLatin1 i_count, ar_ a_value_2 c_value n_value_3 f_value_7] := hD
  refine W.widen (k := 0 + ca_5) (n := 0 + cb_6) (Nat.le_refl _) (Nat.le_refl _) ?_
  refine lv_aload_n hx hb d_ASB_append_s_33 rfl (lv_at hl 1 rfl) ?_
  refine lv_dup hx hb d_ASB_append_s_34 rfl ?_
  refine va_get (D := (dC, dI)) (ci := 8) (v := .int i_count) (C := R_SB) (T := T_SB) (N := 4) hx hb hts in_SB hown hK hP 0 rfl rfl 3 (by decide) (hts _ kt_245) (fun _ h9 => h9) rfl d_ASB_append_s_35 ?_
  refine lv_iload_n hx hb d_ASB_append_s_38 rfl (lv_at hl 0 rfl) ?_
  refine lv_iadd hx hb d_ASB_append_s_39 ?_
  refine va_put (D := (dC, dI)) (ci := 8) (v := .int (i_count + r_1)) (ty := .int) (C := R_SB) (T := T_SB) (N := 4) hx hb hts in_SB t_SB t_SB_ok nm_SB hown hK hP hD hS 0 rfl rfl 3 (by decide) (hts _ kt_245) (fun _ h9 => h9) rfl (by decide +kernel) rfl rfl (Nat.le_of_ble_eq_true rfl) d_ASB_append_s_40 (fun H locs hP hD hS => ?_)
  have hP : va_P (dC, dI) vwCl [ob_SB h_this a_value_2 i_coder i_maybeLatin1 (i_count + r_1), ar_ a_value_2 c_value n_value_3 f_value_7] H := hP
  have hD : va_D A [ob_SB h_this a_value_2 i_coder i_maybeLatin1 (i_count + r_1), ar_ a_value_2 c_value n_value_3 f_value_7] := hD
  refine lv_aload_n hx hb d_ASB_append_s_43 rfl (lv_at hl 1 rfl) ?_
  have hP9 : va_P (dC, dI) vwCl [ob_SB h_this a_value_2 i_coder i_maybeLatin1 (i_count + r_1), ar_ a_value_2 c_value n_value_3 f_value_7] _ := hP
  have hD9 : va_D A [ob_SB h_this a_value_2 i_coder i_maybeLatin1 (i_count + r_1), ar_ a_value_2 c_value n_value_3 f_value_7] := hD
  refine W.widen (k := mc) (n := ms) hkc hks ?_
  rw [hQ]
  exact W.aret (v := .ref h_this) hx hb hr (Or.inl ⟨_, rfl⟩) (Or.inr ⟨_, rfl⟩) (fun t ht hW => ⟨⟨(i_count + r_1, a_value_2, n_value_3, f_value_7), h_this, rfl, hw, rfl, by rw [ht]; exact hP9, va_K.moved hW.alike hK, hD9⟩, hS.F ht⟩) hS.2.2 d_ASB_append_s_44

set_option maxHeartbeats 4000000 in
set_option maxRecDepth 100000 in
theorem c_ASB_setLength (l : Launch) (dC : Nat → ClassId) (dI : Nat → Nat → Nat) (mc : Nat) (ms : Nat) (h_this : Nat) (c_value : ClassId) (sz : Nat)  (i_coder : Int32) (i_maybeLatin1 : Int32) (i_count : Int32) (a_value : Nat) (n_value : Nat) (f_value : Nat → Int32) (x1 : Int32) (post : Int32 → Int32 → Nat → Nat → (Nat → Int32) → Prop) (hw : wp_ASB_setLength mc ms i_coder i_maybeLatin1 i_count a_value n_value f_value x1 post) : Met l y_ASB_setLength (ws_ y_ASB_setLength b_ASB_setLength 2 none) { frames := 4, cells := mc, slots := ms, locals := 104 } (va_Pc [.ref h_this, .int x1] (PRE (dC, dI) vwCl [(c_value, .byte)] [ob_SB h_this a_value i_coder i_maybeLatin1 i_count, ar_ a_value c_value n_value f_value] sz (va_A [ob_SB h_this a_value i_coder i_maybeLatin1 i_count, ar_ a_value c_value n_value f_value] sz))) (va_Qv (fun (u : Int32 × Int32 × Nat × Nat × (Nat → Int32)) => post u.1 u.2.1 u.2.2.1 u.2.2.2.1 u.2.2.2.2) (fun (u : Int32 × Int32 × Nat × Nat × (Nat → Int32)) (t : State) => va_P (dC, dI) vwCl [ob_SB h_this u.2.2.1 i_coder u.1 u.2.1, ar_ u.2.2.1 c_value u.2.2.2.1 u.2.2.2.2] t.heap ∧ va_K (dC, dI) vwCl [(c_value, .byte)] t ∧ va_D (va_A [ob_SB h_this a_value i_coder i_maybeLatin1 i_count, ar_ a_value c_value n_value f_value] sz) [ob_SB h_this u.2.2.1 i_coder u.1 u.2.1, ar_ u.2.2.1 c_value u.2.2.2.1 u.2.2.2.2]) (va_A [ob_SB h_this a_value i_coder i_maybeLatin1 i_count, ar_ a_value c_value n_value f_value] sz)) mc ms (va_A [ob_SB h_this a_value i_coder i_maybeLatin1 i_count, ar_ a_value c_value n_value f_value] sz) := by
  refine Met.ofW (cc := b_ASB_setLength) (maxL := 2) (ret := none) (by decide) rfl ?_
  intro p e s m args below meth c s₁ B hml hv
  obtain ⟨rfl, hsz, hP, hK, hD0, hG⟩ := hv
  have hx := B.exec
  have hb := B.bytes
  have hr := B.returns
  have hts : ∀ w ∈ tb, w.before _ s = true := fun w h => atoms_spec (ws := ws_ _ _ _ _) B.pre w (List.mem_cons_of_mem _ h)
  have hown : s.vm.findClass R_ASB = some m.cls := findClass_of_methodNamed B.named
  have hlocks := B.notSynchronized
  subst hsz
  have hD := hD0.self (sz := s.heap.size)
  generalize hAe : va_A [ob_SB h_this a_value i_coder i_maybeLatin1 i_count, ar_ a_value c_value n_value f_value] s.heap.size = A at hD hG ⊢
  have hA : ∀ q : Nat, s.heap.size ≤ q → A q := fun q h => by rw [← hAe]; exact Or.inr h
  have hS : va_S A s.heap s.heap [] := va_S.rf
  have hP : va_P (dC, dI) vwCl [ob_SB h_this a_value i_coder i_maybeLatin1 i_count, ar_ a_value c_value n_value f_value] s.heap := hP
  have hl := lv_entry [.ref h_this, .int x1] (n := 2) (Nat.le_of_ble_eq_true rfl)
  rw [lg_entry_eq]
  generalize (lg_sl [.ref h_this, .int x1] ++ List.replicate (2 - (lg_sl [.ref h_this, .int x1]).length) Slot.unset).toArray = ls at hl ⊢
  have hl : lv_has ls 2 [(0, .ref h_this), (1, .int x1)] := hl
  obtain ⟨Q, hQ⟩ : ∃ Q : State → Prop, Q = MQ below (va_Qv (fun (u : Int32 × Int32 × Nat × Nat × (Nat → Int32)) => post u.1 u.2.1 u.2.2.1 u.2.2.2.1 u.2.2.2.2) (fun (u : Int32 × Int32 × Nat × Nat × (Nat → Int32)) (t : State) => va_P (dC, dI) vwCl [ob_SB h_this u.2.2.1 i_coder u.1 u.2.1, ar_ u.2.2.1 c_value u.2.2.2.1 u.2.2.2.2] t.heap ∧ va_K (dC, dI) vwCl [(c_value, .byte)] t ∧ va_D A [ob_SB h_this u.2.2.1 i_coder u.1 u.2.1, ar_ u.2.2.1 c_value u.2.2.2.1 u.2.2.2.2]) A) ([.ref h_this, .int x1] : List Value).toArray s mc ms A := ⟨_, rfl⟩
  rw [← hQ]
  have hkc : 0 ≤ mc := Nat.zero_le _
  have hks : 0 ≤ ms := Nat.zero_le _
  unfold wp_ASB_setLength at hw
  refine lv_iload_n hx hb d_ASB_setLength_0 rfl (lv_at hl 1 rfl) ?_
  refine lv_if_ge (tgt := 13) hx hb d_ASB_setLength_1 (by decide) (fun c_1 => ?_) (fun c_1 => ?_)
  · have hw := hw.1 c_1
    refine lv_aload_n hx hb d_ASB_setLength_13 rfl (lv_at hl 0 rfl) ?_
    refine lv_iload_n hx hb d_ASB_setLength_14 rfl (lv_at hl 1 rfl) ?_
    obtain ⟨ca_5, cb_6, hkc, hks, hw⟩ := hw
    have hPc := hP.sub (ws' := [ob_SB h_this a_value i_coder i_maybeLatin1 i_count, ar_ a_value c_value n_value f_value]) [0, 1] rfl
    have hDc := hD.sub (ws' := [ob_SB h_this a_value i_coder i_maybeLatin1 i_count, ar_ a_value c_value n_value f_value]) [0, 1] (by decide) rfl
    have hKc := hK.sub (tys' := [(c_value, .byte)]) [0] rfl
    have hFc := va_free (wc := [ob_SB h_this a_value i_coder i_maybeLatin1 i_count, ar_ a_value c_value n_value f_value]) hD hS hA [0, 1] rfl
    refine va_callv (va_runU (As := [.int x1]) (rest := []) ⟨hx, hb, hml, hown, hts⟩ (c_ASB_ensure l dC dI ca_5 cb_6 h_this c_value s.heap.size i_coder i_maybeLatin1 i_count a_value n_value f_value x1 _ hw) (va_cwU (owner := R_ASB) 1 hts (gd_U kt_759 kt_1361 (mem_sb (i := 0) rfl rfl) kt_761 kt_14 kt_762) rfl rfl rfl rfl (by decide +kernel) ⟨Nat.le_of_ble_eq_true rfl, Nat.le_of_ble_eq_true rfl⟩) ⟨pre_blind, va_recv hKc hPc (ci := 8) (q0 := 0) rfl rfl, pre_ok hPc hKc hDc hG hS hFc⟩ rfl rfl hl.1 rfl (lv_room (Nat.le_of_ble_eq_true rfl)) d_ASB_setLength_15 ⟨hkc, hks⟩) hS (fun q _ h => hFc q h) hFc (fun u t H1 locs ht hvm hw hB hz1 hk1 hS => ?_)
    obtain ⟨a_value_2, n_value_3, f_value_4⟩ := u
    obtain ⟨hP1, hK1, hD1⟩ := hB
    rw [ht] at hP1
    try dsimp only at hw
    obtain ⟨hP, hD⟩ := va_join (wr := []) (w1 := [ob_SB h_this a_value_2 i_coder i_maybeLatin1 i_count, ar_ a_value_2 c_value n_value_3 f_value_4]) hP hD [0, 1] [] rfl rfl (by decide) (by decide) hk1 hFc hP1 hD1
    generalize H1 = H at hP hS ⊢
    have hP : va_P (dC, dI) vwCl [ob_SB h_this a_value_2 i_coder i_maybeLatin1 i_count, ar_ a_value_2 c_value n_value_3 f_value_4] H := hP
    have hD : va_D A [ob_SB h_this a_value_2 i_coder i_maybeLatin1 i_count, ar_ a_value_2 c_value n_value_3 f_value_4] := hD
    refine W.widen (k := 0 + ca_5) (n := 0 + cb_6) (Nat.le_refl _) (Nat.le_refl _) ?_
    refine lv_aload_n hx hb d_ASB_setLength_18 rfl (lv_at hl 0 rfl) ?_
    refine va_get (D := (dC, dI)) (ci := 8) (v := .int i_count) (C := R_SB) (T := T_SB) (N := 4) hx hb hts in_SB hown hK hP 0 rfl rfl 3 (by decide) (hts _ kt_245) (fun _ h9 => h9) rfl d_ASB_setLength_19 ?_
    refine lv_iload_n hx hb d_ASB_setLength_22 rfl (lv_at hl 1 rfl) ?_
    refine lv_icmp_ge (tgt := 63) hx hb d_ASB_setLength_23 (by decide) (fun c_7 => ?_) (fun c_7 => ?_)
    · have hw := hw.1 c_7
      refine lv_aload_n hx hb d_ASB_setLength_63 rfl (lv_at hl 0 rfl) ?_
      refine va_get (D := (dC, dI)) (ci := 8) (v := .int i_count) (C := R_SB) (T := T_SB) (N := 4) hx hb hts in_SB hown hK hP 0 rfl rfl 3 (by decide) (hts _ kt_245) (fun _ h9 => h9) rfl d_ASB_setLength_64 ?_
      refine lv_iload_n hx hb d_ASB_setLength_67 rfl (lv_at hl 1 rfl) ?_
      refine lv_icmp_le (tgt := 76) hx hb d_ASB_setLength_68 (by decide) (fun c_8 => ?_) (fun c_8 => ?_)
      · have hw := hw.1 c_8
        refine lv_aload_n hx hb d_ASB_setLength_76 rfl (lv_at hl 0 rfl) ?_
        refine lv_iload_n hx hb d_ASB_setLength_77 rfl (lv_at hl 1 rfl) ?_
        refine va_put (D := (dC, dI)) (ci := 8) (v := .int x1) (ty := .int) (C := R_SB) (T := T_SB) (N := 4) hx hb hts in_SB t_SB t_SB_ok nm_SB hown hK hP hD hS 0 rfl rfl 3 (by decide) (hts _ kt_245) (fun _ h9 => h9) rfl (by decide +kernel) rfl rfl (Nat.le_of_ble_eq_true rfl) d_ASB_setLength_78 (fun H locs hP hD hS => ?_)
        have hP : va_P (dC, dI) vwCl [ob_SB h_this a_value_2 i_coder i_maybeLatin1 x1, ar_ a_value_2 c_value n_value_3 f_value_4] H := hP
        have hD : va_D A [ob_SB h_this a_value_2 i_coder i_maybeLatin1 x1, ar_ a_value_2 c_value n_value_3 f_value_4] := hD
        have hP9 : va_P (dC, dI) vwCl [ob_SB h_this a_value_2 i_coder i_maybeLatin1 x1, ar_ a_value_2 c_value n_value_3 f_value_4] _ := hP
        have hD9 : va_D A [ob_SB h_this a_value_2 i_coder i_maybeLatin1 x1, ar_ a_value_2 c_value n_value_3 f_value_4] := hD
        refine W.widen (k := mc) (n := ms) hkc hks ?_
        rw [hQ]
        exact W.vret hx hb hr (fun t ht hW => ⟨⟨(i_maybeLatin1, x1, a_value_2, n_value_3, f_value_4), rfl, hw, by rw [ht]; exact hP9, va_K.moved hW.alike hK, hD9⟩, hS.F ht⟩) hS.2.2 d_ASB_setLength_81
      · have hw := hw.2 c_8
        refine lv_aload_n hx hb d_ASB_setLength_71 rfl (lv_at hl 0 rfl) ?_
        refine lv_iconst (v := 1) hx hb d_ASB_setLength_72 (by decide) ?_
        refine va_put (D := (dC, dI)) (ci := 8) (v := .int (1 : Int32)) (ty := .boolean) (C := R_SB) (T := T_SB) (N := 4) hx hb hts in_SB t_SB t_SB_ok nm_SB hown hK hP hD hS 0 rfl rfl 2 (by decide) (hts _ kt_244) (fun _ h9 => h9) rfl (by decide +kernel) rfl rfl (Nat.le_of_ble_eq_true rfl) d_ASB_setLength_73 (fun H locs hP hD hS => ?_)
        have hP : va_P (dC, dI) vwCl [ob_SB h_this a_value_2 i_coder (1 : Int32) i_count, ar_ a_value_2 c_value n_value_3 f_value_4] H := hP
        have hD : va_D A [ob_SB h_this a_value_2 i_coder (1 : Int32) i_count, ar_ a_value_2 c_value n_value_3 f_value_4] := hD
        refine lv_aload_n hx hb d_ASB_setLength_76 rfl (lv_at hl 0 rfl) ?_
        refine lv_iload_n hx hb d_ASB_setLength_77 rfl (lv_at hl 1 rfl) ?_
        refine va_put (D := (dC, dI)) (ci := 8) (v := .int x1) (ty := .int) (C := R_SB) (T := T_SB) (N := 4) hx hb hts in_SB t_SB t_SB_ok nm_SB hown hK hP hD hS 0 rfl rfl 3 (by decide) (hts _ kt_245) (fun _ h9 => h9) rfl (by decide +kernel) rfl rfl (Nat.le_of_ble_eq_true rfl) d_ASB_setLength_78 (fun H locs hP hD hS => ?_)
        have hP : va_P (dC, dI) vwCl [ob_SB h_this a_value_2 i_coder (1 : Int32) x1, ar_ a_value_2 c_value n_value_3 f_value_4] H := hP
        have hD : va_D A [ob_SB h_this a_value_2 i_coder (1 : Int32) x1, ar_ a_value_2 c_value n_value_3 f_value_4] := hD
        have hP9 : va_P (dC, dI) vwCl [ob_SB h_this a_value_2 i_coder (1 : Int32) x1, ar_ a_value_2 c_value n_value_3 f_value_4] _ := hP
        have hD9 : va_D A [ob_SB h_this a_value_2 i_coder (1 : Int32) x1, ar_ a_value_2 c_value n_value_3 f_value_4] := hD
        refine W.widen (k := mc) (n := ms) hkc hks ?_
        rw [hQ]
        exact W.vret hx hb hr (fun t ht hW => ⟨⟨((1 : Int32), x1, a_value_2, n_value_3, f_value_4), rfl, hw, by rw [ht]; exact hP9, va_K.moved hW.alike hK, hD9⟩, hS.F ht⟩) hS.2.2 d_ASB_setLength_81
    · have hw := hw.2 c_7
      refine lv_aload_n hx hb d_ASB_setLength_26 rfl (lv_at hl 0 rfl) ?_
      have hPc := hP.sub (ws' := [ob_SB h_this a_value_2 i_coder i_maybeLatin1 i_count, ar_ a_value_2 c_value n_value_3 f_value_4]) [0, 1] rfl
      have hDc := hD.sub (ws' := [ob_SB h_this a_value_2 i_coder i_maybeLatin1 i_count, ar_ a_value_2 c_value n_value_3 f_value_4]) [0, 1] (by decide) rfl
      have hKc := hK.sub (tys' := [(c_value, .byte)]) [0] rfl
      have hFc := va_free (wc := [ob_SB h_this a_value_2 i_coder i_maybeLatin1 i_count, ar_ a_value_2 c_value n_value_3 f_value_4]) hD hS hA [0, 1] rfl
      refine va_calli (va_runU (As := []) (rest := []) ⟨hx, hb, hml, hown, hts⟩ (c_ASB_isLatin1 l dC dI h_this c_value H.size i_coder i_maybeLatin1 i_count a_value_2 n_value_3 f_value_4 _ hw) (va_cwU (owner := R_ASB) 0 hts (gd_U kt_788 kt_790 kt_791 kt_789 kt_14 kt_792) rfl rfl rfl rfl (by decide +kernel) ⟨Nat.le_of_ble_eq_true rfl, Nat.le_of_ble_eq_true rfl⟩) ⟨pre_blind, va_recv hKc hPc (ci := 8) (q0 := 0) rfl rfl, pre_ok hPc hKc hDc hG hS hFc⟩ rfl rfl hl.1 rfl (lv_room (Nat.le_of_ble_eq_true rfl)) d_ASB_setLength_27 ⟨hkc, hks⟩) hS (fun q _ h => hFc q h) hFc (fun r_9 u t H1 locs ht hvm hw hB hz1 hk1 hS => ?_)
      obtain ⟨hP1, hK1, hD1⟩ := hB
      rw [ht] at hP1
      try dsimp only at hw
      obtain ⟨hP, hD⟩ := va_join (wr := []) (w1 := [ob_SB h_this a_value_2 i_coder i_maybeLatin1 i_count, ar_ a_value_2 c_value n_value_3 f_value_4]) hP hD [0, 1] [] rfl rfl (by decide) (by decide) hk1 hFc hP1 hD1
      generalize H1 = H at hP hS ⊢
      have hP : va_P (dC, dI) vwCl [ob_SB h_this a_value_2 i_coder i_maybeLatin1 i_count, ar_ a_value_2 c_value n_value_3 f_value_4] H := hP
      have hD : va_D A [ob_SB h_this a_value_2 i_coder i_maybeLatin1 i_count, ar_ a_value_2 c_value n_value_3 f_value_4] := hD
      refine W.widen (k := 0 + ca_5) (n := 0 + cb_6) (Nat.le_refl _) (Nat.le_refl _) ?_
      refine lv_if_eq (tgt := 48) hx hb d_ASB_setLength_30 (by decide) (fun c_10 => ?_) (fun c_10 => ?_)
      · have hw := hw.1 c_10
        refine lv_aload_n hx hb d_ASB_setLength_48 rfl (lv_at hl 0 rfl) ?_
        refine va_get (D := (dC, dI)) (ci := 8) (v := .ref a_value_2) (C := R_SB) (T := T_SB) (N := 4) hx hb hts in_SB hown hK hP 0 rfl rfl 0 (by decide) (hts _ kt_242) (fun _ h9 => h9) rfl d_ASB_setLength_49 ?_
        refine lv_aload_n hx hb d_ASB_setLength_52 rfl (lv_at hl 0 rfl) ?_
        refine va_get (D := (dC, dI)) (ci := 8) (v := .int i_count) (C := R_SB) (T := T_SB) (N := 4) hx hb hts in_SB hown hK hP 0 rfl rfl 3 (by decide) (hts _ kt_245) (fun _ h9 => h9) rfl d_ASB_setLength_53 ?_
        refine lv_iload_n hx hb d_ASB_setLength_56 rfl (lv_at hl 1 rfl) ?_
        exact False.elim hw
      · have hw := hw.2 c_10
        refine lv_aload_n hx hb d_ASB_setLength_33 rfl (lv_at hl 0 rfl) ?_
        refine va_get (D := (dC, dI)) (ci := 8) (v := .ref a_value_2) (C := R_SB) (T := T_SB) (N := 4) hx hb hts in_SB hown hK hP 0 rfl rfl 0 (by decide) (hts _ kt_242) (fun _ h9 => h9) rfl d_ASB_setLength_34 ?_
        refine lv_aload_n hx hb d_ASB_setLength_37 rfl (lv_at hl 0 rfl) ?_
        refine va_get (D := (dC, dI)) (ci := 8) (v := .int i_count) (C := R_SB) (T := T_SB) (N := 4) hx hb hts in_SB hown hK hP 0 rfl rfl 3 (by decide) (hts _ kt_245) (fun _ h9 => h9) rfl d_ASB_setLength_38 ?_
        refine lv_iload_n hx hb d_ASB_setLength_41 rfl (lv_at hl 1 rfl) ?_
        exact False.elim hw
  · have hw := hw.2 c_1
    exact False.elim hw

set_option maxHeartbeats 4000000 in
set_option maxRecDepth 100000 in
theorem c_SB_length (l : Launch) (dC : Nat → ClassId) (dI : Nat → Nat → Nat) (h_this : Nat) (c_value : ClassId) (sz : Nat)  (i_coder : Int32) (i_maybeLatin1 : Int32) (i_count : Int32) (a_value : Nat) (n_value : Nat) (f_value : Nat → Int32)  (post : Int32 → Prop) (hw : wp_SB_length i_count  post) : Met l y_SB_length (ws_ y_SB_length b_SB_length 1 (some .int)) { frames := 1, cells := 0, slots := 0, locals := 20 } (va_Pc [.ref h_this] (PRE (dC, dI) vwCl [(c_value, .byte)] [ob_SB h_this a_value i_coder i_maybeLatin1 i_count, ar_ a_value c_value n_value f_value] sz (va_A [ob_SB h_this a_value i_coder i_maybeLatin1 i_count, ar_ a_value c_value n_value f_value] sz))) (va_Qi (fun (r : Int32) (u : Unit) => post r ) (fun (u : Unit) (t : State) => va_P (dC, dI) vwCl [ob_SB h_this a_value i_coder i_maybeLatin1 i_count, ar_ a_value c_value n_value f_value] t.heap ∧ va_K (dC, dI) vwCl [(c_value, .byte)] t ∧ va_D (va_A [ob_SB h_this a_value i_coder i_maybeLatin1 i_count, ar_ a_value c_value n_value f_value] sz) [ob_SB h_this a_value i_coder i_maybeLatin1 i_count, ar_ a_value c_value n_value f_value]) (va_A [ob_SB h_this a_value i_coder i_maybeLatin1 i_count, ar_ a_value c_value n_value f_value] sz)) 0 0 (va_A [ob_SB h_this a_value i_coder i_maybeLatin1 i_count, ar_ a_value c_value n_value f_value] sz) := by
  refine Met.ofW (cc := b_SB_length) (maxL := 1) (ret := (some .int)) (by decide) rfl ?_
  intro p e s m args below meth c s₁ B hml hv
  obtain ⟨rfl, hsz, hP, hK, hD0, hG⟩ := hv
  have hx := B.exec
  have hb := B.bytes
  have hr := B.returns
  have hts : ∀ w ∈ tb, w.before _ s = true := fun w h => atoms_spec (ws := ws_ _ _ _ _) B.pre w (List.mem_cons_of_mem _ h)
  have hown : s.vm.findClass R_SB = some m.cls := findClass_of_methodNamed B.named
  have hlocks := B.notSynchronized
  subst hsz
  have hD := hD0.self (sz := s.heap.size)
  generalize hAe : va_A [ob_SB h_this a_value i_coder i_maybeLatin1 i_count, ar_ a_value c_value n_value f_value] s.heap.size = A at hD hG ⊢
  have hA : ∀ q : Nat, s.heap.size ≤ q → A q := fun q h => by rw [← hAe]; exact Or.inr h
  have hS : va_S A s.heap s.heap [] := va_S.rf
  have hP : va_P (dC, dI) vwCl [ob_SB h_this a_value i_coder i_maybeLatin1 i_count, ar_ a_value c_value n_value f_value] s.heap := hP
  have hl := lv_entry [.ref h_this] (n := 1) (Nat.le_of_ble_eq_true rfl)
  rw [lg_entry_eq]
  generalize (lg_sl [.ref h_this] ++ List.replicate (1 - (lg_sl [.ref h_this]).length) Slot.unset).toArray = ls at hl ⊢
  have hl : lv_has ls 1 [(0, .ref h_this)] := hl
  obtain ⟨Q, hQ⟩ : ∃ Q : State → Prop, Q = MQ below (va_Qi (fun (r : Int32) (u : Unit) => post r ) (fun (u : Unit) (t : State) => va_P (dC, dI) vwCl [ob_SB h_this a_value i_coder i_maybeLatin1 i_count, ar_ a_value c_value n_value f_value] t.heap ∧ va_K (dC, dI) vwCl [(c_value, .byte)] t ∧ va_D A [ob_SB h_this a_value i_coder i_maybeLatin1 i_count, ar_ a_value c_value n_value f_value]) A) ([.ref h_this] : List Value).toArray s 0 0 A := ⟨_, rfl⟩
  rw [← hQ]
  unfold wp_SB_length at hw
  refine lv_aload_n hx hb d_SB_length_0 rfl (lv_at hl 0 rfl) ?_
  have hPc := hP.sub (ws' := [ob_SB h_this a_value i_coder i_maybeLatin1 i_count, ar_ a_value c_value n_value f_value]) [0, 1] rfl
  have hDc := hD.sub (ws' := [ob_SB h_this a_value i_coder i_maybeLatin1 i_count, ar_ a_value c_value n_value f_value]) [0, 1] (by decide) rfl
  have hKc := hK.sub (tys' := [(c_value, .byte)]) [0] rfl
  have hFc := va_free (wc := [ob_SB h_this a_value i_coder i_maybeLatin1 i_count, ar_ a_value c_value n_value f_value]) hD hS hA [0, 1] rfl
  refine va_calli (va_runSU (hK.1 8 _ rfl).2 (As := []) (rest := []) ⟨hx, hb, hml, hown, hts⟩ (c_ASB_length l dC dI h_this c_value s.heap.size i_coder i_maybeLatin1 i_count a_value n_value f_value _ hw) (va_cwSU 0 hts (gd_SU kt_818 kt_1363 kt_254 kt_819 kt_14 kt_820) rfl rfl rfl (by decide +kernel) ⟨Nat.le_of_ble_eq_true rfl, Nat.le_of_ble_eq_true rfl⟩) ⟨pre_blind, va_recv hKc hPc (ci := 8) (q0 := 0) rfl rfl, pre_ok hPc hKc hDc hG hS hFc⟩ rfl rfl hl.1 rfl (lv_room (Nat.le_of_ble_eq_true rfl)) d_SB_length_1 ⟨Nat.zero_le _, Nat.zero_le _⟩) hS (fun q _ h => hFc q h) hFc (fun r_1 u t H1 locs ht hvm hw hB hz1 hk1 hS => ?_)
  obtain ⟨hP1, hK1, hD1⟩ := hB
  rw [ht] at hP1
  try dsimp only at hw
  obtain ⟨hP, hD⟩ := va_join (wr := []) (w1 := [ob_SB h_this a_value i_coder i_maybeLatin1 i_count, ar_ a_value c_value n_value f_value]) hP hD [0, 1] [] rfl rfl (by decide) (by decide) hk1 hFc hP1 hD1
  generalize H1 = H at hP hS ⊢
  have hP : va_P (dC, dI) vwCl [ob_SB h_this a_value i_coder i_maybeLatin1 i_count, ar_ a_value c_value n_value f_value] H := hP
  have hD : va_D A [ob_SB h_this a_value i_coder i_maybeLatin1 i_count, ar_ a_value c_value n_value f_value] := hD
  have hP9 : va_P (dC, dI) vwCl [ob_SB h_this a_value i_coder i_maybeLatin1 i_count, ar_ a_value c_value n_value f_value] _ := hP
  have hD9 : va_D A [ob_SB h_this a_value i_coder i_maybeLatin1 i_count, ar_ a_value c_value n_value f_value] := hD
  rw [hQ]
  exact W.iret (v := r_1) hx hb hr (fun t ht hW => ⟨⟨r_1, (), rfl, hw, by rw [ht]; exact hP9, va_K.moved hW.alike hK, hD9⟩, hS.F ht⟩) hS.2.2 d_SB_length_4

set_option maxHeartbeats 4000000 in
set_option maxRecDepth 100000 in
theorem c_SB_charAt (l : Launch) (dC : Nat → ClassId) (dI : Nat → Nat → Nat) (h_this : Nat) (c_value : ClassId) (sz : Nat)  (i_coder : Int32) (i_maybeLatin1 : Int32) (i_count : Int32) (a_value : Nat) (n_value : Nat) (f_value : Nat → Int32) (x1 : Int32) (post : Int32 → Prop) (hw : wp_SB_charAt i_coder i_count n_value f_value x1 post) : Met l y_SB_charAt (ws_ y_SB_charAt b_SB_charAt 2 (some .char)) { frames := 3, cells := 0, slots := 0, locals := 67 } (va_Pc [.ref h_this, .int x1] (PRE (dC, dI) vwCl [(c_value, .byte)] [ob_SB h_this a_value i_coder i_maybeLatin1 i_count, ar_ a_value c_value n_value f_value] sz (va_A [ob_SB h_this a_value i_coder i_maybeLatin1 i_count, ar_ a_value c_value n_value f_value] sz))) (va_Qi (fun (r : Int32) (u : Unit) => post r ) (fun (u : Unit) (t : State) => va_P (dC, dI) vwCl [ob_SB h_this a_value i_coder i_maybeLatin1 i_count, ar_ a_value c_value n_value f_value] t.heap ∧ va_K (dC, dI) vwCl [(c_value, .byte)] t ∧ va_D (va_A [ob_SB h_this a_value i_coder i_maybeLatin1 i_count, ar_ a_value c_value n_value f_value] sz) [ob_SB h_this a_value i_coder i_maybeLatin1 i_count, ar_ a_value c_value n_value f_value]) (va_A [ob_SB h_this a_value i_coder i_maybeLatin1 i_count, ar_ a_value c_value n_value f_value] sz)) 0 0 (va_A [ob_SB h_this a_value i_coder i_maybeLatin1 i_count, ar_ a_value c_value n_value f_value] sz) := by
  refine Met.ofW (cc := b_SB_charAt) (maxL := 2) (ret := (some .char)) (by decide) rfl ?_
  intro p e s m args below meth c s₁ B hml hv
  obtain ⟨rfl, hsz, hP, hK, hD0, hG⟩ := hv
  have hx := B.exec
  have hb := B.bytes
  have hr := B.returns
  have hts : ∀ w ∈ tb, w.before _ s = true := fun w h => atoms_spec (ws := ws_ _ _ _ _) B.pre w (List.mem_cons_of_mem _ h)
  have hown : s.vm.findClass R_SB = some m.cls := findClass_of_methodNamed B.named
  have hlocks := B.notSynchronized
  subst hsz
  have hD := hD0.self (sz := s.heap.size)
  generalize hAe : va_A [ob_SB h_this a_value i_coder i_maybeLatin1 i_count, ar_ a_value c_value n_value f_value] s.heap.size = A at hD hG ⊢
  have hA : ∀ q : Nat, s.heap.size ≤ q → A q := fun q h => by rw [← hAe]; exact Or.inr h
  have hS : va_S A s.heap s.heap [] := va_S.rf
  have hP : va_P (dC, dI) vwCl [ob_SB h_this a_value i_coder i_maybeLatin1 i_count, ar_ a_value c_value n_value f_value] s.heap := hP
  have hl := lv_entry [.ref h_this, .int x1] (n := 2) (Nat.le_of_ble_eq_true rfl)
  rw [lg_entry_eq]
  generalize (lg_sl [.ref h_this, .int x1] ++ List.replicate (2 - (lg_sl [.ref h_this, .int x1]).length) Slot.unset).toArray = ls at hl ⊢
  have hl : lv_has ls 2 [(0, .ref h_this), (1, .int x1)] := hl
  obtain ⟨Q, hQ⟩ : ∃ Q : State → Prop, Q = MQ below (va_Qi (fun (r : Int32) (u : Unit) => post r ) (fun (u : Unit) (t : State) => va_P (dC, dI) vwCl [ob_SB h_this a_value i_coder i_maybeLatin1 i_count, ar_ a_value c_value n_value f_value] t.heap ∧ va_K (dC, dI) vwCl [(c_value, .byte)] t ∧ va_D A [ob_SB h_this a_value i_coder i_maybeLatin1 i_count, ar_ a_value c_value n_value f_value]) A) ([.ref h_this, .int x1] : List Value).toArray s 0 0 A := ⟨_, rfl⟩
  rw [← hQ]
  unfold wp_SB_charAt at hw
  refine lv_aload_n hx hb d_SB_charAt_0 rfl (lv_at hl 0 rfl) ?_
  refine lv_iload_n hx hb d_SB_charAt_1 rfl (lv_at hl 1 rfl) ?_
  have hPc := hP.sub (ws' := [ob_SB h_this a_value i_coder i_maybeLatin1 i_count, ar_ a_value c_value n_value f_value]) [0, 1] rfl
  have hDc := hD.sub (ws' := [ob_SB h_this a_value i_coder i_maybeLatin1 i_count, ar_ a_value c_value n_value f_value]) [0, 1] (by decide) rfl
  have hKc := hK.sub (tys' := [(c_value, .byte)]) [0] rfl
  have hFc := va_free (wc := [ob_SB h_this a_value i_coder i_maybeLatin1 i_count, ar_ a_value c_value n_value f_value]) hD hS hA [0, 1] rfl
  refine va_calli (va_runSU (hK.1 8 _ rfl).2 (As := [.int x1]) (rest := []) ⟨hx, hb, hml, hown, hts⟩ (c_ASB_charAt l dC dI h_this c_value s.heap.size i_coder i_maybeLatin1 i_count a_value n_value f_value x1 _ hw) (va_cwSU 1 hts (gd_SU kt_985 kt_1371 kt_254 kt_986 kt_14 kt_987) rfl rfl rfl (by decide +kernel) ⟨Nat.le_of_ble_eq_true rfl, Nat.le_of_ble_eq_true rfl⟩) ⟨pre_blind, va_recv hKc hPc (ci := 8) (q0 := 0) rfl rfl, pre_ok hPc hKc hDc hG hS hFc⟩ rfl rfl hl.1 rfl (lv_room (Nat.le_of_ble_eq_true rfl)) d_SB_charAt_2 ⟨Nat.zero_le _, Nat.zero_le _⟩) hS (fun q _ h => hFc q h) hFc (fun r_1 u t H1 locs ht hvm hw hB hz1 hk1 hS => ?_)
  obtain ⟨hP1, hK1, hD1⟩ := hB
  rw [ht] at hP1
  try dsimp only at hw
  obtain ⟨hP, hD⟩ := va_join (wr := []) (w1 := [ob_SB h_this a_value i_coder i_maybeLatin1 i_count, ar_ a_value c_value n_value f_value]) hP hD [0, 1] [] rfl rfl (by decide) (by decide) hk1 hFc hP1 hD1
  generalize H1 = H at hP hS ⊢
  have hP : va_P (dC, dI) vwCl [ob_SB h_this a_value i_coder i_maybeLatin1 i_count, ar_ a_value c_value n_value f_value] H := hP
  have hD : va_D A [ob_SB h_this a_value i_coder i_maybeLatin1 i_count, ar_ a_value c_value n_value f_value] := hD
  obtain ⟨hnar, hw⟩ := hw
  have hP9 : va_P (dC, dI) vwCl [ob_SB h_this a_value i_coder i_maybeLatin1 i_count, ar_ a_value c_value n_value f_value] _ := hP
  have hD9 : va_D A [ob_SB h_this a_value i_coder i_maybeLatin1 i_count, ar_ a_value c_value n_value f_value] := hD
  rw [hQ]
  exact W.zret (v := r_1) hx hb hr hnar (fun t ht hW => ⟨⟨r_1, (), rfl, hw, by rw [ht]; exact hP9, va_K.moved hW.alike hK, hD9⟩, hS.F ht⟩) hS.2.2 d_SB_charAt_5

set_option maxHeartbeats 4000000 in
set_option maxRecDepth 100000 in
theorem c_SB_append_c (l : Launch) (dC : Nat → ClassId) (dI : Nat → Nat → Nat) (mc : Nat) (ms : Nat) (h_this : Nat) (c_value : ClassId) (sz : Nat)  (i_coder : Int32) (i_maybeLatin1 : Int32) (i_count : Int32) (a_value : Nat) (n_value : Nat) (f_value : Nat → Int32) (x1 : Int32) (post : Int32 → Nat → Nat → (Nat → Int32) → Prop) (hw : wp_SB_append_c mc ms i_coder i_count a_value n_value f_value x1 post) : Met l y_SB_append_c (ws_ y_SB_append_c b_SB_append_c 2 (some (.object "java/lang/StringBuilder"))) { frames := 5, cells := mc, slots := ms, locals := 125 } (va_Pc [.ref h_this, .int x1] (PRE (dC, dI) vwCl [(c_value, .byte)] [ob_SB h_this a_value i_coder i_maybeLatin1 i_count, ar_ a_value c_value n_value f_value] sz (va_A [ob_SB h_this a_value i_coder i_maybeLatin1 i_count, ar_ a_value c_value n_value f_value] sz))) (va_Qr (fun (u : Int32 × Nat × Nat × (Nat → Int32)) => post u.1 u.2.1 u.2.2.1 u.2.2.2) (fun (u : Int32 × Nat × Nat × (Nat → Int32)) (a9 : Nat) (t : State) => a9 = h_this ∧ va_P (dC, dI) vwCl [ob_SB h_this u.2.1 i_coder i_maybeLatin1 u.1, ar_ u.2.1 c_value u.2.2.1 u.2.2.2] t.heap ∧ va_K (dC, dI) vwCl [(c_value, .byte)] t ∧ va_D (va_A [ob_SB h_this a_value i_coder i_maybeLatin1 i_count, ar_ a_value c_value n_value f_value] sz) [ob_SB h_this u.2.1 i_coder i_maybeLatin1 u.1, ar_ u.2.1 c_value u.2.2.1 u.2.2.2]) (va_A [ob_SB h_this a_value i_coder i_maybeLatin1 i_count, ar_ a_value c_value n_value f_value] sz)) mc ms (va_A [ob_SB h_this a_value i_coder i_maybeLatin1 i_count, ar_ a_value c_value n_value f_value] sz) := by
  refine Met.ofW (cc := b_SB_append_c) (maxL := 2) (ret := (some (.object "java/lang/StringBuilder"))) (by decide) rfl ?_
  intro p e s m args below meth c s₁ B hml hv
  obtain ⟨rfl, hsz, hP, hK, hD0, hG⟩ := hv
  have hx := B.exec
  have hb := B.bytes
  have hr := B.returns
  have hts : ∀ w ∈ tb, w.before _ s = true := fun w h => atoms_spec (ws := ws_ _ _ _ _) B.pre w (List.mem_cons_of_mem _ h)
  have hown : s.vm.findClass R_SB = some m.cls := findClass_of_methodNamed B.named
  have hlocks := B.notSynchronized
  subst hsz
  have hD := hD0.self (sz := s.heap.size)
  generalize hAe : va_A [ob_SB h_this a_value i_coder i_maybeLatin1 i_count, ar_ a_value c_value n_value f_value] s.heap.size = A at hD hG ⊢
  have hA : ∀ q : Nat, s.heap.size ≤ q → A q := fun q h => by rw [← hAe]; exact Or.inr h
  have hS : va_S A s.heap s.heap [] := va_S.rf
  have hP : va_P (dC, dI) vwCl [ob_SB h_this a_value i_coder i_maybeLatin1 i_count, ar_ a_value c_value n_value f_value] s.heap := hP
  have hl := lv_entry [.ref h_this, .int x1] (n := 2) (Nat.le_of_ble_eq_true rfl)
  rw [lg_entry_eq]
  generalize (lg_sl [.ref h_this, .int x1] ++ List.replicate (2 - (lg_sl [.ref h_this, .int x1]).length) Slot.unset).toArray = ls at hl ⊢
  have hl : lv_has ls 2 [(0, .ref h_this), (1, .int x1)] := hl
  obtain ⟨Q, hQ⟩ : ∃ Q : State → Prop, Q = MQ below (va_Qr (fun (u : Int32 × Nat × Nat × (Nat → Int32)) => post u.1 u.2.1 u.2.2.1 u.2.2.2) (fun (u : Int32 × Nat × Nat × (Nat → Int32)) (a9 : Nat) (t : State) => a9 = h_this ∧ va_P (dC, dI) vwCl [ob_SB h_this u.2.1 i_coder i_maybeLatin1 u.1, ar_ u.2.1 c_value u.2.2.1 u.2.2.2] t.heap ∧ va_K (dC, dI) vwCl [(c_value, .byte)] t ∧ va_D A [ob_SB h_this u.2.1 i_coder i_maybeLatin1 u.1, ar_ u.2.1 c_value u.2.2.1 u.2.2.2]) A) ([.ref h_this, .int x1] : List Value).toArray s mc ms A := ⟨_, rfl⟩
  rw [← hQ]
  have hkc : 0 ≤ mc := Nat.zero_le _
  have hks : 0 ≤ ms := Nat.zero_le _
  unfold wp_SB_append_c at hw
  refine lv_aload_n hx hb d_SB_append_c_0 rfl (lv_at hl 0 rfl) ?_
  refine lv_iload_n hx hb d_SB_append_c_1 rfl (lv_at hl 1 rfl) ?_
  obtain ⟨ca_5, cb_6, hkc, hks, hw⟩ := hw
  have hPc := hP.sub (ws' := [ob_SB h_this a_value i_coder i_maybeLatin1 i_count, ar_ a_value c_value n_value f_value]) [0, 1] rfl
  have hDc := hD.sub (ws' := [ob_SB h_this a_value i_coder i_maybeLatin1 i_count, ar_ a_value c_value n_value f_value]) [0, 1] (by decide) rfl
  have hKc := hK.sub (tys' := [(c_value, .byte)]) [0] rfl
  have hFc := va_free (wc := [ob_SB h_this a_value i_coder i_maybeLatin1 i_count, ar_ a_value c_value n_value f_value]) hD hS hA [0, 1] rfl
  refine va_callr (va_runSU (hK.1 8 _ rfl).2 (As := [.int x1]) (rest := []) ⟨hx, hb, hml, hown, hts⟩ (c_ASB_append_c l dC dI ca_5 cb_6 h_this c_value s.heap.size i_coder i_maybeLatin1 i_count a_value n_value f_value x1 _ hw) (va_cwSU 1 hts (gd_SU kt_867 kt_1365 kt_254 kt_868 kt_14 kt_869) rfl rfl rfl (by decide +kernel) ⟨Nat.le_of_ble_eq_true rfl, Nat.le_of_ble_eq_true rfl⟩) ⟨pre_blind, va_recv hKc hPc (ci := 8) (q0 := 0) rfl rfl, pre_ok hPc hKc hDc hG hS hFc⟩ rfl rfl hl.1 rfl (lv_room (Nat.le_of_ble_eq_true rfl)) d_SB_append_c_2 ⟨hkc, hks⟩) hS (fun q _ h => hFc q h) hFc (fun u ra t H1 locs ht hvm hw hB hz1 hk1 hS => ?_)
  obtain ⟨i_count_1, a_value_2, n_value_3, f_value_4⟩ := u
  obtain ⟨hra, hP1, hK1, hD1⟩ := hB
  rw [hra]
  rw [ht] at hP1
  try dsimp only at hw
  obtain ⟨hP, hD⟩ := va_join (wr := []) (w1 := [ob_SB h_this a_value_2 i_coder i_maybeLatin1 i_count_1, ar_ a_value_2 c_value n_value_3 f_value_4]) hP hD [0, 1] [] rfl rfl (by decide) (by decide) hk1 hFc hP1 hD1
  generalize H1 = H at hP hS ⊢
  have hP : va_P (dC, dI) vwCl [ob_SB h_this a_value_2 i_coder i_maybeLatin1 i_count_1, ar_ a_value_2 c_value n_value_3 f_value_4] H := hP
  have hD : va_D A [ob_SB h_this a_value_2 i_coder i_maybeLatin1 i_count_1, ar_ a_value_2 c_value n_value_3 f_value_4] := hD
  refine W.widen (k := 0 + ca_5) (n := 0 + cb_6) (Nat.le_refl _) (Nat.le_refl _) ?_
  refine lv_pop hx hb d_SB_append_c_5 rfl ?_
  refine lv_aload_n hx hb d_SB_append_c_6 rfl (lv_at hl 0 rfl) ?_
  have hP9 : va_P (dC, dI) vwCl [ob_SB h_this a_value_2 i_coder i_maybeLatin1 i_count_1, ar_ a_value_2 c_value n_value_3 f_value_4] _ := hP
  have hD9 : va_D A [ob_SB h_this a_value_2 i_coder i_maybeLatin1 i_count_1, ar_ a_value_2 c_value n_value_3 f_value_4] := hD
  refine W.widen (k := mc) (n := ms) hkc hks ?_
  rw [hQ]
  exact W.aret (v := .ref h_this) hx hb hr (Or.inl ⟨_, rfl⟩) (Or.inr ⟨_, rfl⟩) (fun t ht hW => ⟨⟨(i_count_1, a_value_2, n_value_3, f_value_4), h_this, rfl, hw, rfl, by rw [ht]; exact hP9, va_K.moved hW.alike hK, hD9⟩, hS.F ht⟩) hS.2.2 d_SB_append_c_7

set_option maxHeartbeats 4000000 in
set_option maxRecDepth 100000 in
theorem c_SB_append_i (l : Launch) (dC : Nat → ClassId) (dI : Nat → Nat → Nat) (mc : Nat) (ms : Nat) (h_this : Nat) (c_value : ClassId) (sz : Nat)  (i_coder : Int32) (i_maybeLatin1 : Int32) (i_count : Int32) (a_value : Nat) (n_value : Nat) (f_value : Nat → Int32) (x1 : Int32) (post : Int32 → Nat → Nat → (Nat → Int32) → Prop) (hw : wp_SB_append_i mc ms i_coder i_count a_value n_value f_value x1 post) : Met l y_SB_append_i (ws_ y_SB_append_i b_SB_append_i 2 (some (.object "java/lang/StringBuilder"))) { frames := 5, cells := mc, slots := ms, locals := 127 } (va_Pc [.ref h_this, .int x1] (PRE (dC, dI) vwCl [(c_value, .byte)] [ob_SB h_this a_value i_coder i_maybeLatin1 i_count, ar_ a_value c_value n_value f_value] sz (va_A [ob_SB h_this a_value i_coder i_maybeLatin1 i_count, ar_ a_value c_value n_value f_value] sz))) (va_Qr (fun (u : Int32 × Nat × Nat × (Nat → Int32)) => post u.1 u.2.1 u.2.2.1 u.2.2.2) (fun (u : Int32 × Nat × Nat × (Nat → Int32)) (a9 : Nat) (t : State) => a9 = h_this ∧ va_P (dC, dI) vwCl [ob_SB h_this u.2.1 i_coder i_maybeLatin1 u.1, ar_ u.2.1 c_value u.2.2.1 u.2.2.2] t.heap ∧ va_K (dC, dI) vwCl [(c_value, .byte)] t ∧ va_D (va_A [ob_SB h_this a_value i_coder i_maybeLatin1 i_count, ar_ a_value c_value n_value f_value] sz) [ob_SB h_this u.2.1 i_coder i_maybeLatin1 u.1, ar_ u.2.1 c_value u.2.2.1 u.2.2.2]) (va_A [ob_SB h_this a_value i_coder i_maybeLatin1 i_count, ar_ a_value c_value n_value f_value] sz)) mc ms (va_A [ob_SB h_this a_value i_coder i_maybeLatin1 i_count, ar_ a_value c_value n_value f_value] sz) := by
  refine Met.ofW (cc := b_SB_append_i) (maxL := 2) (ret := (some (.object "java/lang/StringBuilder"))) (by decide) rfl ?_
  intro p e s m args below meth c s₁ B hml hv
  obtain ⟨rfl, hsz, hP, hK, hD0, hG⟩ := hv
  have hx := B.exec
  have hb := B.bytes
  have hr := B.returns
  have hts : ∀ w ∈ tb, w.before _ s = true := fun w h => atoms_spec (ws := ws_ _ _ _ _) B.pre w (List.mem_cons_of_mem _ h)
  have hown : s.vm.findClass R_SB = some m.cls := findClass_of_methodNamed B.named
  have hlocks := B.notSynchronized
  subst hsz
  have hD := hD0.self (sz := s.heap.size)
  generalize hAe : va_A [ob_SB h_this a_value i_coder i_maybeLatin1 i_count, ar_ a_value c_value n_value f_value] s.heap.size = A at hD hG ⊢
  have hA : ∀ q : Nat, s.heap.size ≤ q → A q := fun q h => by rw [← hAe]; exact Or.inr h
  have hS : va_S A s.heap s.heap [] := va_S.rf
  have hP : va_P (dC, dI) vwCl [ob_SB h_this a_value i_coder i_maybeLatin1 i_count, ar_ a_value c_value n_value f_value] s.heap := hP
  have hl := lv_entry [.ref h_this, .int x1] (n := 2) (Nat.le_of_ble_eq_true rfl)
  rw [lg_entry_eq]
  generalize (lg_sl [.ref h_this, .int x1] ++ List.replicate (2 - (lg_sl [.ref h_this, .int x1]).length) Slot.unset).toArray = ls at hl ⊢
  have hl : lv_has ls 2 [(0, .ref h_this), (1, .int x1)] := hl
  obtain ⟨Q, hQ⟩ : ∃ Q : State → Prop, Q = MQ below (va_Qr (fun (u : Int32 × Nat × Nat × (Nat → Int32)) => post u.1 u.2.1 u.2.2.1 u.2.2.2) (fun (u : Int32 × Nat × Nat × (Nat → Int32)) (a9 : Nat) (t : State) => a9 = h_this ∧ va_P (dC, dI) vwCl [ob_SB h_this u.2.1 i_coder i_maybeLatin1 u.1, ar_ u.2.1 c_value u.2.2.1 u.2.2.2] t.heap ∧ va_K (dC, dI) vwCl [(c_value, .byte)] t ∧ va_D A [ob_SB h_this u.2.1 i_coder i_maybeLatin1 u.1, ar_ u.2.1 c_value u.2.2.1 u.2.2.2]) A) ([.ref h_this, .int x1] : List Value).toArray s mc ms A := ⟨_, rfl⟩
  rw [← hQ]
  have hkc : 0 ≤ mc := Nat.zero_le _
  have hks : 0 ≤ ms := Nat.zero_le _
  unfold wp_SB_append_i at hw
  refine lv_aload_n hx hb d_SB_append_i_0 rfl (lv_at hl 0 rfl) ?_
  refine lv_iload_n hx hb d_SB_append_i_1 rfl (lv_at hl 1 rfl) ?_
  obtain ⟨ca_5, cb_6, hkc, hks, hw⟩ := hw
  have hPc := hP.sub (ws' := [ob_SB h_this a_value i_coder i_maybeLatin1 i_count, ar_ a_value c_value n_value f_value]) [0, 1] rfl
  have hDc := hD.sub (ws' := [ob_SB h_this a_value i_coder i_maybeLatin1 i_count, ar_ a_value c_value n_value f_value]) [0, 1] (by decide) rfl
  have hKc := hK.sub (tys' := [(c_value, .byte)]) [0] rfl
  have hFc := va_free (wc := [ob_SB h_this a_value i_coder i_maybeLatin1 i_count, ar_ a_value c_value n_value f_value]) hD hS hA [0, 1] rfl
  refine va_callr (va_runSU (hK.1 8 _ rfl).2 (As := [.int x1]) (rest := []) ⟨hx, hb, hml, hown, hts⟩ (c_ASB_append_i l dC dI ca_5 cb_6 h_this c_value s.heap.size i_coder i_maybeLatin1 i_count a_value n_value f_value x1 _ hw) (va_cwSU 1 hts (gd_SU kt_827 kt_1364 kt_254 kt_828 kt_14 kt_829) rfl rfl rfl (by decide +kernel) ⟨Nat.le_of_ble_eq_true rfl, Nat.le_of_ble_eq_true rfl⟩) ⟨pre_blind, va_recv hKc hPc (ci := 8) (q0 := 0) rfl rfl, pre_ok hPc hKc hDc hG hS hFc⟩ rfl rfl hl.1 rfl (lv_room (Nat.le_of_ble_eq_true rfl)) d_SB_append_i_2 ⟨hkc, hks⟩) hS (fun q _ h => hFc q h) hFc (fun u ra t H1 locs ht hvm hw hB hz1 hk1 hS => ?_)
  obtain ⟨i_count_1, a_value_2, n_value_3, f_value_4⟩ := u
  obtain ⟨hra, hP1, hK1, hD1⟩ := hB
  rw [hra]
  rw [ht] at hP1
  try dsimp only at hw
  obtain ⟨hP, hD⟩ := va_join (wr := []) (w1 := [ob_SB h_this a_value_2 i_coder i_maybeLatin1 i_count_1, ar_ a_value_2 c_value n_value_3 f_value_4]) hP hD [0, 1] [] rfl rfl (by decide) (by decide) hk1 hFc hP1 hD1
  generalize H1 = H at hP hS ⊢
  have hP : va_P (dC, dI) vwCl [ob_SB h_this a_value_2 i_coder i_maybeLatin1 i_count_1, ar_ a_value_2 c_value n_value_3 f_value_4] H := hP
  have hD : va_D A [ob_SB h_this a_value_2 i_coder i_maybeLatin1 i_count_1, ar_ a_value_2 c_value n_value_3 f_value_4] := hD
  refine W.widen (k := 0 + ca_5) (n := 0 + cb_6) (Nat.le_refl _) (Nat.le_refl _) ?_
  refine lv_pop hx hb d_SB_append_i_5 rfl ?_
  refine lv_aload_n hx hb d_SB_append_i_6 rfl (lv_at hl 0 rfl) ?_
  have hP9 : va_P (dC, dI) vwCl [ob_SB h_this a_value_2 i_coder i_maybeLatin1 i_count_1, ar_ a_value_2 c_value n_value_3 f_value_4] _ := hP
  have hD9 : va_D A [ob_SB h_this a_value_2 i_coder i_maybeLatin1 i_count_1, ar_ a_value_2 c_value n_value_3 f_value_4] := hD
  refine W.widen (k := mc) (n := ms) hkc hks ?_
  rw [hQ]
  exact W.aret (v := .ref h_this) hx hb hr (Or.inl ⟨_, rfl⟩) (Or.inr ⟨_, rfl⟩) (fun t ht hW => ⟨⟨(i_count_1, a_value_2, n_value_3, f_value_4), h_this, rfl, hw, rfl, by rw [ht]; exact hP9, va_K.moved hW.alike hK, hD9⟩, hS.F ht⟩) hS.2.2 d_SB_append_i_7

set_option maxHeartbeats 4000000 in
set_option maxRecDepth 100000 in
theorem c_SB_append_s (l : Launch) (dC : Nat → ClassId) (dI : Nat → Nat → Nat) (mc : Nat) (ms : Nat) (adK adV : Nat → Nat) (i : Nat) (hi : i < 3) (h_this : Nat) (c_value : ClassId) (sz : Nat)  (i_coder : Int32) (i_maybeLatin1 : Int32) (i_count : Int32) (a_value : Nat) (n_value : Nat) (f_value : Nat → Int32)  (post : Int32 → Nat → Nat → (Nat → Int32) → Prop) (hw : wp_SB_append_s mc ms i i_coder i_count a_value n_value f_value  post) : Met l y_SB_append_s (ws_ y_SB_append_s b_SB_append_s 2 (some (.object "java/lang/StringBuilder"))) { frames := 5, cells := mc, slots := ms, locals := 127 } (va_Pc [.ref h_this, .ref (adK i)] (PREk adK adV (dC, dI) vwCl [(c_value, .byte)] [ob_SB h_this a_value i_coder i_maybeLatin1 i_count, ar_ a_value c_value n_value f_value] sz (va_A [ob_SB h_this a_value i_coder i_maybeLatin1 i_count, ar_ a_value c_value n_value f_value] sz))) (va_Qr (fun (u : Int32 × Nat × Nat × (Nat → Int32)) => post u.1 u.2.1 u.2.2.1 u.2.2.2) (fun (u : Int32 × Nat × Nat × (Nat → Int32)) (a9 : Nat) (t : State) => a9 = h_this ∧ va_P (dC, dI) vwCl [ob_SB h_this u.2.1 i_coder i_maybeLatin1 u.1, ar_ u.2.1 c_value u.2.2.1 u.2.2.2] t.heap ∧ va_K (dC, dI) vwCl [(c_value, .byte)] t ∧ va_D (va_A [ob_SB h_this a_value i_coder i_maybeLatin1 i_count, ar_ a_value c_value n_value f_value] sz) [ob_SB h_this u.2.1 i_coder i_maybeLatin1 u.1, ar_ u.2.1 c_value u.2.2.1 u.2.2.2]) (va_A [ob_SB h_this a_value i_coder i_maybeLatin1 i_count, ar_ a_value c_value n_value f_value] sz)) mc ms (va_A [ob_SB h_this a_value i_coder i_maybeLatin1 i_count, ar_ a_value c_value n_value f_value] sz) := by
  refine Met.ofW (cc := b_SB_append_s) (maxL := 2) (ret := (some (.object "java/lang/StringBuilder"))) (by decide) rfl ?_
  intro p e s m args below meth c s₁ B hml hv
  obtain ⟨rfl, ⟨hsz, hP, hK, hD0, hG⟩, hg⟩ := hv
  have hx := B.exec
  have hb := B.bytes
  have hr := B.returns
  have hts : ∀ w ∈ tb, w.before _ s = true := fun w h => atoms_spec (ws := ws_ _ _ _ _) B.pre w (List.mem_cons_of_mem _ h)
  have hown : s.vm.findClass R_SB = some m.cls := findClass_of_methodNamed B.named
  have hlocks := B.notSynchronized
  subst hsz
  have hD := hD0.self (sz := s.heap.size)
  generalize hAe : va_A [ob_SB h_this a_value i_coder i_maybeLatin1 i_count, ar_ a_value c_value n_value f_value] s.heap.size = A at hD hG hg ⊢
  have hA : ∀ q : Nat, s.heap.size ≤ q → A q := fun q h => by rw [← hAe]; exact Or.inr h
  have hS : va_S A s.heap s.heap [] := va_S.rf
  have hP : va_P (dC, dI) vwCl [ob_SB h_this a_value i_coder i_maybeLatin1 i_count, ar_ a_value c_value n_value f_value] s.heap := hP
  have hl := lv_entry [.ref h_this, .ref (adK i)] (n := 2) (Nat.le_of_ble_eq_true rfl)
  rw [lg_entry_eq]
  generalize (lg_sl [.ref h_this, .ref (adK i)] ++ List.replicate (2 - (lg_sl [.ref h_this, .ref (adK i)]).length) Slot.unset).toArray = ls at hl ⊢
  have hl : lv_has ls 2 [(0, .ref h_this), (1, .ref (adK i))] := hl
  obtain ⟨Q, hQ⟩ : ∃ Q : State → Prop, Q = MQ below (va_Qr (fun (u : Int32 × Nat × Nat × (Nat → Int32)) => post u.1 u.2.1 u.2.2.1 u.2.2.2) (fun (u : Int32 × Nat × Nat × (Nat → Int32)) (a9 : Nat) (t : State) => a9 = h_this ∧ va_P (dC, dI) vwCl [ob_SB h_this u.2.1 i_coder i_maybeLatin1 u.1, ar_ u.2.1 c_value u.2.2.1 u.2.2.2] t.heap ∧ va_K (dC, dI) vwCl [(c_value, .byte)] t ∧ va_D A [ob_SB h_this u.2.1 i_coder i_maybeLatin1 u.1, ar_ u.2.1 c_value u.2.2.1 u.2.2.2]) A) ([.ref h_this, .ref (adK i)] : List Value).toArray s mc ms A := ⟨_, rfl⟩
  rw [← hQ]
  have hkc : 0 ≤ mc := Nat.zero_le _
  have hks : 0 ≤ ms := Nat.zero_le _
  unfold wp_SB_append_s at hw
  refine lv_aload_n hx hb d_SB_append_s_0 rfl (lv_at hl 0 rfl) ?_
  refine lv_aload_n hx hb d_SB_append_s_1 rfl (lv_at hl 1 rfl) ?_
  obtain ⟨ca_5, cb_6, hkc, hks, hw⟩ := hw
  have hPc := hP.sub (ws' := [ob_SB h_this a_value i_coder i_maybeLatin1 i_count, ar_ a_value c_value n_value f_value]) [0, 1] rfl
  have hDc := hD.sub (ws' := [ob_SB h_this a_value i_coder i_maybeLatin1 i_count, ar_ a_value c_value n_value f_value]) [0, 1] (by decide) rfl
  have hKc := hK.sub (tys' := [(c_value, .byte)]) [0] rfl
  have hFc := va_free (wc := [ob_SB h_this a_value i_coder i_maybeLatin1 i_count, ar_ a_value c_value n_value f_value]) hD hS hA [0, 1] rfl
  refine va_callr (va_runSU (hK.1 8 _ rfl).2 (As := [.ref (adK i)]) (rest := []) ⟨hx, hb, hml, hown, hts⟩ (c_ASB_append_s l dC dI ca_5 cb_6 adK adV i hi h_this c_value s.heap.size i_coder i_maybeLatin1 i_count a_value n_value f_value _ hw) (va_cwSU 1 hts (gd_SU kt_908 kt_1367 kt_254 kt_909 kt_14 kt_910) rfl rfl rfl (by decide +kernel) ⟨Nat.le_of_ble_eq_true rfl, Nat.le_of_ble_eq_true rfl⟩) ⟨prek_blind, va_recv hKc hPc (ci := 8) (q0 := 0) rfl rfl, prek_ok hPc hKc hDc hG hg hS hFc⟩ rfl rfl hl.1 rfl (lv_room (Nat.le_of_ble_eq_true rfl)) d_SB_append_s_2 ⟨hkc, hks⟩) hS (fun q _ h => hFc q h) hFc (fun u ra t H1 locs ht hvm hw hB hz1 hk1 hS => ?_)
  obtain ⟨i_count_1, a_value_2, n_value_3, f_value_4⟩ := u
  obtain ⟨hra, hP1, hK1, hD1⟩ := hB
  rw [hra]
  rw [ht] at hP1
  try dsimp only at hw
  obtain ⟨hP, hD⟩ := va_join (wr := []) (w1 := [ob_SB h_this a_value_2 i_coder i_maybeLatin1 i_count_1, ar_ a_value_2 c_value n_value_3 f_value_4]) hP hD [0, 1] [] rfl rfl (by decide) (by decide) hk1 hFc hP1 hD1
  generalize H1 = H at hP hS ⊢
  have hP : va_P (dC, dI) vwCl [ob_SB h_this a_value_2 i_coder i_maybeLatin1 i_count_1, ar_ a_value_2 c_value n_value_3 f_value_4] H := hP
  have hD : va_D A [ob_SB h_this a_value_2 i_coder i_maybeLatin1 i_count_1, ar_ a_value_2 c_value n_value_3 f_value_4] := hD
  refine W.widen (k := 0 + ca_5) (n := 0 + cb_6) (Nat.le_refl _) (Nat.le_refl _) ?_
  refine lv_pop hx hb d_SB_append_s_5 rfl ?_
  refine lv_aload_n hx hb d_SB_append_s_6 rfl (lv_at hl 0 rfl) ?_
  have hP9 : va_P (dC, dI) vwCl [ob_SB h_this a_value_2 i_coder i_maybeLatin1 i_count_1, ar_ a_value_2 c_value n_value_3 f_value_4] _ := hP
  have hD9 : va_D A [ob_SB h_this a_value_2 i_coder i_maybeLatin1 i_count_1, ar_ a_value_2 c_value n_value_3 f_value_4] := hD
  refine W.widen (k := mc) (n := ms) hkc hks ?_
  rw [hQ]
  exact W.aret (v := .ref h_this) hx hb hr (Or.inl ⟨_, rfl⟩) (Or.inr ⟨_, rfl⟩) (fun t ht hW => ⟨⟨(i_count_1, a_value_2, n_value_3, f_value_4), h_this, rfl, hw, rfl, by rw [ht]; exact hP9, va_K.moved hW.alike hK, hD9⟩, hS.F ht⟩) hS.2.2 d_SB_append_s_7

set_option maxHeartbeats 4000000 in
set_option maxRecDepth 100000 in
theorem c_SB_setLength (l : Launch) (dC : Nat → ClassId) (dI : Nat → Nat → Nat) (mc : Nat) (ms : Nat) (h_this : Nat) (c_value : ClassId) (sz : Nat)  (i_coder : Int32) (i_maybeLatin1 : Int32) (i_count : Int32) (a_value : Nat) (n_value : Nat) (f_value : Nat → Int32) (x1 : Int32) (post : Int32 → Int32 → Nat → Nat → (Nat → Int32) → Prop) (hw : wp_SB_setLength mc ms i_coder i_maybeLatin1 i_count a_value n_value f_value x1 post) : Met l y_SB_setLength (ws_ y_SB_setLength b_SB_setLength 2 none) { frames := 5, cells := mc, slots := ms, locals := 125 } (va_Pc [.ref h_this, .int x1] (PRE (dC, dI) vwCl [(c_value, .byte)] [ob_SB h_this a_value i_coder i_maybeLatin1 i_count, ar_ a_value c_value n_value f_value] sz (va_A [ob_SB h_this a_value i_coder i_maybeLatin1 i_count, ar_ a_value c_value n_value f_value] sz))) (va_Qv (fun (u : Int32 × Int32 × Nat × Nat × (Nat → Int32)) => post u.1 u.2.1 u.2.2.1 u.2.2.2.1 u.2.2.2.2) (fun (u : Int32 × Int32 × Nat × Nat × (Nat → Int32)) (t : State) => va_P (dC, dI) vwCl [ob_SB h_this u.2.2.1 i_coder u.1 u.2.1, ar_ u.2.2.1 c_value u.2.2.2.1 u.2.2.2.2] t.heap ∧ va_K (dC, dI) vwCl [(c_value, .byte)] t ∧ va_D (va_A [ob_SB h_this a_value i_coder i_maybeLatin1 i_count, ar_ a_value c_value n_value f_value] sz) [ob_SB h_this u.2.2.1 i_coder u.1 u.2.1, ar_ u.2.2.1 c_value u.2.2.2.1 u.2.2.2.2]) (va_A [ob_SB h_this a_value i_coder i_maybeLatin1 i_count, ar_ a_value c_value n_value f_value] sz)) mc ms (va_A [ob_SB h_this a_value i_coder i_maybeLatin1 i_count, ar_ a_value c_value n_value f_value] sz) := by
  refine Met.ofW (cc := b_SB_setLength) (maxL := 2) (ret := none) (by decide) rfl ?_
  intro p e s m args below meth c s₁ B hml hv
  obtain ⟨rfl, hsz, hP, hK, hD0, hG⟩ := hv
  have hx := B.exec
  have hb := B.bytes
  have hr := B.returns
  have hts : ∀ w ∈ tb, w.before _ s = true := fun w h => atoms_spec (ws := ws_ _ _ _ _) B.pre w (List.mem_cons_of_mem _ h)
  have hown : s.vm.findClass R_SB = some m.cls := findClass_of_methodNamed B.named
  have hlocks := B.notSynchronized
  subst hsz
  have hD := hD0.self (sz := s.heap.size)
  generalize hAe : va_A [ob_SB h_this a_value i_coder i_maybeLatin1 i_count, ar_ a_value c_value n_value f_value] s.heap.size = A at hD hG ⊢
  have hA : ∀ q : Nat, s.heap.size ≤ q → A q := fun q h => by rw [← hAe]; exact Or.inr h
  have hS : va_S A s.heap s.heap [] := va_S.rf
  have hP : va_P (dC, dI) vwCl [ob_SB h_this a_value i_coder i_maybeLatin1 i_count, ar_ a_value c_value n_value f_value] s.heap := hP
  have hl := lv_entry [.ref h_this, .int x1] (n := 2) (Nat.le_of_ble_eq_true rfl)
  rw [lg_entry_eq]
  generalize (lg_sl [.ref h_this, .int x1] ++ List.replicate (2 - (lg_sl [.ref h_this, .int x1]).length) Slot.unset).toArray = ls at hl ⊢
  have hl : lv_has ls 2 [(0, .ref h_this), (1, .int x1)] := hl
  obtain ⟨Q, hQ⟩ : ∃ Q : State → Prop, Q = MQ below (va_Qv (fun (u : Int32 × Int32 × Nat × Nat × (Nat → Int32)) => post u.1 u.2.1 u.2.2.1 u.2.2.2.1 u.2.2.2.2) (fun (u : Int32 × Int32 × Nat × Nat × (Nat → Int32)) (t : State) => va_P (dC, dI) vwCl [ob_SB h_this u.2.2.1 i_coder u.1 u.2.1, ar_ u.2.2.1 c_value u.2.2.2.1 u.2.2.2.2] t.heap ∧ va_K (dC, dI) vwCl [(c_value, .byte)] t ∧ va_D A [ob_SB h_this u.2.2.1 i_coder u.1 u.2.1, ar_ u.2.2.1 c_value u.2.2.2.1 u.2.2.2.2]) A) ([.ref h_this, .int x1] : List Value).toArray s mc ms A := ⟨_, rfl⟩
  rw [← hQ]
  have hkc : 0 ≤ mc := Nat.zero_le _
  have hks : 0 ≤ ms := Nat.zero_le _
  unfold wp_SB_setLength at hw
  refine lv_aload_n hx hb d_SB_setLength_0 rfl (lv_at hl 0 rfl) ?_
  refine lv_iload_n hx hb d_SB_setLength_1 rfl (lv_at hl 1 rfl) ?_
  obtain ⟨ca_6, cb_7, hkc, hks, hw⟩ := hw
  have hPc := hP.sub (ws' := [ob_SB h_this a_value i_coder i_maybeLatin1 i_count, ar_ a_value c_value n_value f_value]) [0, 1] rfl
  have hDc := hD.sub (ws' := [ob_SB h_this a_value i_coder i_maybeLatin1 i_count, ar_ a_value c_value n_value f_value]) [0, 1] (by decide) rfl
  have hKc := hK.sub (tys' := [(c_value, .byte)]) [0] rfl
  have hFc := va_free (wc := [ob_SB h_this a_value i_coder i_maybeLatin1 i_count, ar_ a_value c_value n_value f_value]) hD hS hA [0, 1] rfl
  refine va_callv (va_runSU (hK.1 8 _ rfl).2 (As := [.int x1]) (rest := []) ⟨hx, hb, hml, hown, hts⟩ (c_ASB_setLength l dC dI ca_6 cb_7 h_this c_value s.heap.size i_coder i_maybeLatin1 i_count a_value n_value f_value x1 _ hw) (va_cwSU 1 hts (gd_SU kt_756 kt_1360 kt_254 kt_757 kt_14 kt_758) rfl rfl rfl (by decide +kernel) ⟨Nat.le_of_ble_eq_true rfl, Nat.le_of_ble_eq_true rfl⟩) ⟨pre_blind, va_recv hKc hPc (ci := 8) (q0 := 0) rfl rfl, pre_ok hPc hKc hDc hG hS hFc⟩ rfl rfl hl.1 rfl (lv_room (Nat.le_of_ble_eq_true rfl)) d_SB_setLength_2 ⟨hkc, hks⟩) hS (fun q _ h => hFc q h) hFc (fun u t H1 locs ht hvm hw hB hz1 hk1 hS => ?_)
  obtain ⟨i_maybeLatin1_1, i_count_2, a_value_3, n_value_4, f_value_5⟩ := u
  obtain ⟨hP1, hK1, hD1⟩ := hB
  rw [ht] at hP1
  try dsimp only at hw
  obtain ⟨hP, hD⟩ := va_join (wr := []) (w1 := [ob_SB h_this a_value_3 i_coder i_maybeLatin1_1 i_count_2, ar_ a_value_3 c_value n_value_4 f_value_5]) hP hD [0, 1] [] rfl rfl (by decide) (by decide) hk1 hFc hP1 hD1
  generalize H1 = H at hP hS ⊢
  have hP : va_P (dC, dI) vwCl [ob_SB h_this a_value_3 i_coder i_maybeLatin1_1 i_count_2, ar_ a_value_3 c_value n_value_4 f_value_5] H := hP
  have hD : va_D A [ob_SB h_this a_value_3 i_coder i_maybeLatin1_1 i_count_2, ar_ a_value_3 c_value n_value_4 f_value_5] := hD
  refine W.widen (k := 0 + ca_6) (n := 0 + cb_7) (Nat.le_refl _) (Nat.le_refl _) ?_
  have hP9 : va_P (dC, dI) vwCl [ob_SB h_this a_value_3 i_coder i_maybeLatin1_1 i_count_2, ar_ a_value_3 c_value n_value_4 f_value_5] _ := hP
  have hD9 : va_D A [ob_SB h_this a_value_3 i_coder i_maybeLatin1_1 i_count_2, ar_ a_value_3 c_value n_value_4 f_value_5] := hD
  refine W.widen (k := mc) (n := ms) hkc hks ?_
  rw [hQ]
  exact W.vret hx hb hr (fun t ht hW => ⟨⟨(i_maybeLatin1_1, i_count_2, a_value_3, n_value_4, f_value_5), rfl, hw, by rw [ht]; exact hP9, va_K.moved hW.alike hK, hD9⟩, hS.F ht⟩) hS.2.2 d_SB_setLength_5
