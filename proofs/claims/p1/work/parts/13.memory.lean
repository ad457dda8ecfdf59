theorem d_Memory_setName_0 : decode b_Memory_setName 0 = .ok (.aload_n 0, 1) := by decide +kernel
theorem d_Memory_setName_1 : decode b_Memory_setName 1 = .ok (.getfield 15, 3) := by decide +kernel
theorem d_Memory_setName_4 : decode b_Memory_setName 4 = .ok (.iload_n 1, 1) := by decide +kernel
theorem d_Memory_setName_5 : decode b_Memory_setName 5 = .ok (.iconst 1, 1) := by decide +kernel
theorem d_Memory_setName_6 : decode b_Memory_setName 6 = .ok (.iastore, 1) := by decide +kernel
theorem d_Memory_setName_7 : decode b_Memory_setName 7 = .ok (.aload_n 0, 1) := by decide +kernel
theorem d_Memory_setName_8 : decode b_Memory_setName 8 = .ok (.getfield 19, 3) := by decide +kernel
theorem d_Memory_setName_11 : decode b_Memory_setName 11 = .ok (.iload_n 1, 1) := by decide +kernel
theorem d_Memory_setName_12 : decode b_Memory_setName 12 = .ok (.iload_n 2, 1) := by decide +kernel
theorem d_Memory_setName_13 : decode b_Memory_setName 13 = .ok (.iastore, 1) := by decide +kernel
theorem d_Memory_setName_14 : decode b_Memory_setName 14 = .ok (.return_, 1) := by decide +kernel
theorem d_Memory_reach_0 : decode b_Memory_reach 0 = .ok (.aload_n 0, 1) := by decide +kernel
theorem d_Memory_reach_1 : decode b_Memory_reach 1 = .ok (.getfield 31, 3) := by decide +kernel
theorem d_Memory_reach_4 : decode b_Memory_reach 4 = .ok (.iload_n 1, 1) := by decide +kernel
theorem d_Memory_reach_5 : decode b_Memory_reach 5 = .ok (.baload, 1) := by decide +kernel
theorem d_Memory_reach_6 : decode b_Memory_reach 6 = .ok (.ifCond .ne 30, 3) := by decide +kernel
theorem d_Memory_reach_9 : decode b_Memory_reach 9 = .ok (.aload_n 0, 1) := by decide +kernel
theorem d_Memory_reach_10 : decode b_Memory_reach 10 = .ok (.getfield 31, 3) := by decide +kernel
theorem d_Memory_reach_13 : decode b_Memory_reach 13 = .ok (.iload_n 1, 1) := by decide +kernel
theorem d_Memory_reach_14 : decode b_Memory_reach 14 = .ok (.iconst 1, 1) := by decide +kernel
theorem d_Memory_reach_15 : decode b_Memory_reach 15 = .ok (.bastore, 1) := by decide +kernel
theorem d_Memory_reach_16 : decode b_Memory_reach 16 = .ok (.aload_n 0, 1) := by decide +kernel
theorem d_Memory_reach_17 : decode b_Memory_reach 17 = .ok (.getfield 35, 3) := by decide +kernel
theorem d_Memory_reach_20 : decode b_Memory_reach 20 = .ok (.aload_n 0, 1) := by decide +kernel
theorem d_Memory_reach_21 : decode b_Memory_reach 21 = .ok (.getfield 38, 3) := by decide +kernel
theorem d_Memory_reach_24 : decode b_Memory_reach 24 = .ok (.iload_n 1, 1) := by decide +kernel
theorem d_Memory_reach_25 : decode b_Memory_reach 25 = .ok (.iastore, 1) := by decide +kernel
theorem d_Memory_reach_26 : decode b_Memory_reach 26 = .ok (.aload_n 0, 1) := by decide +kernel
theorem d_Memory_reach_27 : decode b_Memory_reach 27 = .ok (.dup, 1) := by decide +kernel
theorem d_Memory_reach_28 : decode b_Memory_reach 28 = .ok (.getfield 38, 3) := by decide +kernel
theorem d_Memory_reach_31 : decode b_Memory_reach 31 = .ok (.iconst 1, 1) := by decide +kernel
theorem d_Memory_reach_32 : decode b_Memory_reach 32 = .ok (.iadd, 1) := by decide +kernel
theorem d_Memory_reach_33 : decode b_Memory_reach 33 = .ok (.putfield 38, 3) := by decide +kernel
theorem d_Memory_reach_36 : decode b_Memory_reach 36 = .ok (.return_, 1) := by decide +kernel
theorem d_Memory_beginReach_0 : decode b_Memory_beginReach 0 = .ok (.iconst 0, 1) := by decide +kernel
theorem d_Memory_beginReach_1 : decode b_Memory_beginReach 1 = .ok (.istore_n 1, 1) := by decide +kernel
theorem d_Memory_beginReach_2 : decode b_Memory_beginReach 2 = .ok (.iload_n 1, 1) := by decide +kernel
theorem d_Memory_beginReach_3 : decode b_Memory_beginReach 3 = .ok (.aload_n 0, 1) := by decide +kernel
theorem d_Memory_beginReach_4 : decode b_Memory_beginReach 4 = .ok (.getfield 9, 3) := by decide +kernel
theorem d_Memory_beginReach_7 : decode b_Memory_beginReach 7 = .ok (.if_icmp .ge 16, 3) := by decide +kernel
theorem d_Memory_beginReach_10 : decode b_Memory_beginReach 10 = .ok (.aload_n 0, 1) := by decide +kernel
theorem d_Memory_beginReach_11 : decode b_Memory_beginReach 11 = .ok (.getfield 31, 3) := by decide +kernel
theorem d_Memory_beginReach_14 : decode b_Memory_beginReach 14 = .ok (.iload_n 1, 1) := by decide +kernel
theorem d_Memory_beginReach_15 : decode b_Memory_beginReach 15 = .ok (.iconst 0, 1) := by decide +kernel
theorem d_Memory_beginReach_16 : decode b_Memory_beginReach 16 = .ok (.bastore, 1) := by decide +kernel
theorem d_Memory_beginReach_17 : decode b_Memory_beginReach 17 = .ok (.iinc 1 1, 3) := by decide +kernel
theorem d_Memory_beginReach_20 : decode b_Memory_beginReach 20 = .ok (.goto (-18), 3) := by decide +kernel
theorem d_Memory_beginReach_23 : decode b_Memory_beginReach 23 = .ok (.aload_n 0, 1) := by decide +kernel
theorem d_Memory_beginReach_24 : decode b_Memory_beginReach 24 = .ok (.iconst 0, 1) := by decide +kernel
theorem d_Memory_beginReach_25 : decode b_Memory_beginReach 25 = .ok (.putfield 38, 3) := by decide +kernel
theorem d_Memory_beginReach_28 : decode b_Memory_beginReach 28 = .ok (.iconst 0, 1) := by decide +kernel
theorem d_Memory_beginReach_29 : decode b_Memory_beginReach 29 = .ok (.istore_n 1, 1) := by decide +kernel
theorem d_Memory_beginReach_30 : decode b_Memory_beginReach 30 = .ok (.iload_n 1, 1) := by decide +kernel
theorem d_Memory_beginReach_31 : decode b_Memory_beginReach 31 = .ok (.iconst 3, 1) := by decide +kernel
theorem d_Memory_beginReach_32 : decode b_Memory_beginReach 32 = .ok (.if_icmp .ge 14, 3) := by decide +kernel
theorem d_Memory_beginReach_35 : decode b_Memory_beginReach 35 = .ok (.aload_n 0, 1) := by decide +kernel
theorem d_Memory_beginReach_36 : decode b_Memory_beginReach 36 = .ok (.iload_n 1, 1) := by decide +kernel
theorem d_Memory_beginReach_37 : decode b_Memory_beginReach 37 = .ok (.invokevirtual 64, 3) := by decide +kernel
theorem d_Memory_beginReach_40 : decode b_Memory_beginReach 40 = .ok (.iinc 1 1, 3) := by decide +kernel
theorem d_Memory_beginReach_43 : decode b_Memory_beginReach 43 = .ok (.goto (-13), 3) := by decide +kernel
theorem d_Memory_beginReach_46 : decode b_Memory_beginReach 46 = .ok (.return_, 1) := by decide +kernel
theorem d_Memory_freeUnreached_0 : decode b_Memory_freeUnreached 0 = .ok (.aload_n 0, 1) := by decide +kernel
theorem d_Memory_freeUnreached_1 : decode b_Memory_freeUnreached 1 = .ok (.iconst 0, 1) := by decide +kernel
theorem d_Memory_freeUnreached_2 : decode b_Memory_freeUnreached 2 = .ok (.putfield 28, 3) := by decide +kernel
theorem d_Memory_freeUnreached_5 : decode b_Memory_freeUnreached 5 = .ok (.aload_n 0, 1) := by decide +kernel
theorem d_Memory_freeUnreached_6 : decode b_Memory_freeUnreached 6 = .ok (.getfield 9, 3) := by decide +kernel
theorem d_Memory_freeUnreached_9 : decode b_Memory_freeUnreached 9 = .ok (.iconst 1, 1) := by decide +kernel
theorem d_Memory_freeUnreached_10 : decode b_Memory_freeUnreached 10 = .ok (.isub, 1) := by decide +kernel
theorem d_Memory_freeUnreached_11 : decode b_Memory_freeUnreached 11 = .ok (.istore_n 1, 1) := by decide +kernel
theorem d_Memory_freeUnreached_12 : decode b_Memory_freeUnreached 12 = .ok (.iload_n 1, 1) := by decide +kernel
theorem d_Memory_freeUnreached_13 : decode b_Memory_freeUnreached 13 = .ok (.ifCond .lt 38, 3) := by decide +kernel
theorem d_Memory_freeUnreached_16 : decode b_Memory_freeUnreached 16 = .ok (.aload_n 0, 1) := by decide +kernel
theorem d_Memory_freeUnreached_17 : decode b_Memory_freeUnreached 17 = .ok (.getfield 31, 3) := by decide +kernel
theorem d_Memory_freeUnreached_20 : decode b_Memory_freeUnreached 20 = .ok (.iload_n 1, 1) := by decide +kernel
theorem d_Memory_freeUnreached_21 : decode b_Memory_freeUnreached 21 = .ok (.baload, 1) := by decide +kernel
theorem d_Memory_freeUnreached_22 : decode b_Memory_freeUnreached 22 = .ok (.ifCond .ne 23, 3) := by decide +kernel
theorem d_Memory_freeUnreached_25 : decode b_Memory_freeUnreached 25 = .ok (.aload_n 0, 1) := by decide +kernel
theorem d_Memory_freeUnreached_26 : decode b_Memory_freeUnreached 26 = .ok (.getfield 25, 3) := by decide +kernel
theorem d_Memory_freeUnreached_29 : decode b_Memory_freeUnreached 29 = .ok (.aload_n 0, 1) := by decide +kernel
theorem d_Memory_freeUnreached_30 : decode b_Memory_freeUnreached 30 = .ok (.getfield 28, 3) := by decide +kernel
theorem d_Memory_freeUnreached_33 : decode b_Memory_freeUnreached 33 = .ok (.iload_n 1, 1) := by decide +kernel
theorem d_Memory_freeUnreached_34 : decode b_Memory_freeUnreached 34 = .ok (.iastore, 1) := by decide +kernel
theorem d_Memory_freeUnreached_35 : decode b_Memory_freeUnreached 35 = .ok (.aload_n 0, 1) := by decide +kernel
theorem d_Memory_freeUnreached_36 : decode b_Memory_freeUnreached 36 = .ok (.dup, 1) := by decide +kernel
theorem d_Memory_freeUnreached_37 : decode b_Memory_freeUnreached 37 = .ok (.getfield 28, 3) := by decide +kernel
theorem d_Memory_freeUnreached_40 : decode b_Memory_freeUnreached 40 = .ok (.iconst 1, 1) := by decide +kernel
theorem d_Memory_freeUnreached_41 : decode b_Memory_freeUnreached 41 = .ok (.iadd, 1) := by decide +kernel
theorem d_Memory_freeUnreached_42 : decode b_Memory_freeUnreached 42 = .ok (.putfield 28, 3) := by decide +kernel
theorem d_Memory_freeUnreached_45 : decode b_Memory_freeUnreached 45 = .ok (.iinc 1 (-1), 3) := by decide +kernel
theorem d_Memory_freeUnreached_48 : decode b_Memory_freeUnreached 48 = .ok (.goto (-36), 3) := by decide +kernel
theorem d_Memory_freeUnreached_51 : decode b_Memory_freeUnreached 51 = .ok (.return_, 1) := by decide +kernel
theorem d_Memory_clear_0 : decode b_Memory_clear 0 = .ok (.aload_n 0, 1) := by decide +kernel
theorem d_Memory_clear_1 : decode b_Memory_clear 1 = .ok (.iconst 0, 1) := by decide +kernel
theorem d_Memory_clear_2 : decode b_Memory_clear 2 = .ok (.sipush 14636, 3) := by decide +kernel
theorem d_Memory_clear_5 : decode b_Memory_clear 5 = .ok (.invokevirtual 43, 3) := by decide +kernel
theorem d_Memory_clear_8 : decode b_Memory_clear 8 = .ok (.aload_n 0, 1) := by decide +kernel
theorem d_Memory_clear_9 : decode b_Memory_clear 9 = .ok (.iconst 1, 1) := by decide +kernel
theorem d_Memory_clear_10 : decode b_Memory_clear 10 = .ok (.bipush 20, 2) := by decide +kernel
theorem d_Memory_clear_12 : decode b_Memory_clear 12 = .ok (.invokevirtual 43, 3) := by decide +kernel
theorem d_Memory_clear_15 : decode b_Memory_clear 15 = .ok (.aload_n 0, 1) := by decide +kernel
theorem d_Memory_clear_16 : decode b_Memory_clear 16 = .ok (.iconst 2, 1) := by decide +kernel
theorem d_Memory_clear_17 : decode b_Memory_clear 17 = .ok (.bipush 6, 2) := by decide +kernel
theorem d_Memory_clear_19 : decode b_Memory_clear 19 = .ok (.invokevirtual 43, 3) := by decide +kernel
theorem d_Memory_clear_22 : decode b_Memory_clear 22 = .ok (.aload_n 0, 1) := by decide +kernel
theorem d_Memory_clear_23 : decode b_Memory_clear 23 = .ok (.invokevirtual 47, 3) := by decide +kernel
theorem d_Memory_clear_26 : decode b_Memory_clear 26 = .ok (.aload_n 0, 1) := by decide +kernel
theorem d_Memory_clear_27 : decode b_Memory_clear 27 = .ok (.invokevirtual 50, 3) := by decide +kernel
theorem d_Memory_clear_30 : decode b_Memory_clear 30 = .ok (.return_, 1) := by decide +kernel
theorem d_Memory_take_0 : decode b_Memory_take 0 = .ok (.aload_n 0, 1) := by decide +kernel
theorem d_Memory_take_1 : decode b_Memory_take 1 = .ok (.getfield 28, 3) := by decide +kernel
theorem d_Memory_take_4 : decode b_Memory_take 4 = .ok (.ifCond .ne 5, 3) := by decide +kernel
theorem d_Memory_take_7 : decode b_Memory_take 7 = .ok (.iconst 0, 1) := by decide +kernel
theorem d_Memory_take_8 : decode b_Memory_take 8 = .ok (.ireturn, 1) := by decide +kernel
theorem d_Memory_take_9 : decode b_Memory_take 9 = .ok (.aload_n 0, 1) := by decide +kernel
theorem d_Memory_take_10 : decode b_Memory_take 10 = .ok (.dup, 1) := by decide +kernel
theorem d_Memory_take_11 : decode b_Memory_take 11 = .ok (.getfield 28, 3) := by decide +kernel
theorem d_Memory_take_14 : decode b_Memory_take 14 = .ok (.iconst 1, 1) := by decide +kernel
theorem d_Memory_take_15 : decode b_Memory_take 15 = .ok (.isub, 1) := by decide +kernel
theorem d_Memory_take_16 : decode b_Memory_take 16 = .ok (.putfield 28, 3) := by decide +kernel
theorem d_Memory_take_19 : decode b_Memory_take 19 = .ok (.aload_n 0, 1) := by decide +kernel
theorem d_Memory_take_20 : decode b_Memory_take 20 = .ok (.getfield 25, 3) := by decide +kernel
theorem d_Memory_take_23 : decode b_Memory_take 23 = .ok (.aload_n 0, 1) := by decide +kernel
theorem d_Memory_take_24 : decode b_Memory_take 24 = .ok (.getfield 28, 3) := by decide +kernel
theorem d_Memory_take_27 : decode b_Memory_take 27 = .ok (.iaload, 1) := by decide +kernel
theorem d_Memory_take_28 : decode b_Memory_take 28 = .ok (.istore 4, 2) := by decide +kernel
theorem d_Memory_take_30 : decode b_Memory_take 30 = .ok (.aload_n 0, 1) := by decide +kernel
theorem d_Memory_take_31 : decode b_Memory_take 31 = .ok (.getfield 15, 3) := by decide +kernel
theorem d_Memory_take_34 : decode b_Memory_take 34 = .ok (.iload 4, 2) := by decide +kernel
theorem d_Memory_take_36 : decode b_Memory_take 36 = .ok (.iload_n 1, 1) := by decide +kernel
theorem d_Memory_take_37 : decode b_Memory_take 37 = .ok (.iastore, 1) := by decide +kernel
theorem d_Memory_take_38 : decode b_Memory_take 38 = .ok (.aload_n 0, 1) := by decide +kernel
theorem d_Memory_take_39 : decode b_Memory_take 39 = .ok (.getfield 19, 3) := by decide +kernel
theorem d_Memory_take_42 : decode b_Memory_take 42 = .ok (.iload 4, 2) := by decide +kernel
theorem d_Memory_take_44 : decode b_Memory_take 44 = .ok (.iload_n 2, 1) := by decide +kernel
theorem d_Memory_take_45 : decode b_Memory_take 45 = .ok (.iastore, 1) := by decide +kernel
theorem d_Memory_take_46 : decode b_Memory_take 46 = .ok (.aload_n 0, 1) := by decide +kernel
theorem d_Memory_take_47 : decode b_Memory_take 47 = .ok (.getfield 22, 3) := by decide +kernel
theorem d_Memory_take_50 : decode b_Memory_take 50 = .ok (.iload 4, 2) := by decide +kernel
theorem d_Memory_take_52 : decode b_Memory_take 52 = .ok (.iload_n 3, 1) := by decide +kernel
theorem d_Memory_take_53 : decode b_Memory_take 53 = .ok (.iastore, 1) := by decide +kernel
theorem d_Memory_take_54 : decode b_Memory_take 54 = .ok (.iload 4, 2) := by decide +kernel
theorem d_Memory_take_56 : decode b_Memory_take 56 = .ok (.ireturn, 1) := by decide +kernel
theorem d_Memory_newPair_0 : decode b_Memory_newPair 0 = .ok (.aload_n 0, 1) := by decide +kernel
theorem d_Memory_newPair_1 : decode b_Memory_newPair 1 = .ok (.iconst 2, 1) := by decide +kernel
theorem d_Memory_newPair_2 : decode b_Memory_newPair 2 = .ok (.iload_n 1, 1) := by decide +kernel
theorem d_Memory_newPair_3 : decode b_Memory_newPair 3 = .ok (.iload_n 2, 1) := by decide +kernel
theorem d_Memory_newPair_4 : decode b_Memory_newPair 4 = .ok (.invokevirtual 53, 3) := by decide +kernel
theorem d_Memory_newPair_7 : decode b_Memory_newPair 7 = .ok (.ireturn, 1) := by decide +kernel
theorem d_Memory_nameCell_0 : decode b_Memory_nameCell 0 = .ok (.iload_n 1, 1) := by decide +kernel
theorem d_Memory_nameCell_1 : decode b_Memory_nameCell 1 = .ok (.lookupswitch 41 #[(6, 39), (20, 37), (14636, 35)], 35) := by decide +kernel
theorem d_Memory_nameCell_36 : decode b_Memory_nameCell 36 = .ok (.iconst 0, 1) := by decide +kernel
theorem d_Memory_nameCell_37 : decode b_Memory_nameCell 37 = .ok (.ireturn, 1) := by decide +kernel
theorem d_Memory_nameCell_38 : decode b_Memory_nameCell 38 = .ok (.iconst 1, 1) := by decide +kernel
theorem d_Memory_nameCell_39 : decode b_Memory_nameCell 39 = .ok (.ireturn, 1) := by decide +kernel
theorem d_Memory_nameCell_40 : decode b_Memory_nameCell 40 = .ok (.iconst 2, 1) := by decide +kernel
theorem d_Memory_nameCell_41 : decode b_Memory_nameCell 41 = .ok (.ireturn, 1) := by decide +kernel
theorem d_Memory_nameCell_42 : decode b_Memory_nameCell 42 = .ok (.aload_n 0, 1) := by decide +kernel
theorem d_Memory_nameCell_43 : decode b_Memory_nameCell 43 = .ok (.iconst 1, 1) := by decide +kernel
theorem d_Memory_nameCell_44 : decode b_Memory_nameCell 44 = .ok (.iload_n 1, 1) := by decide +kernel
theorem d_Memory_nameCell_45 : decode b_Memory_nameCell 45 = .ok (.iconst 0, 1) := by decide +kernel
theorem d_Memory_nameCell_46 : decode b_Memory_nameCell 46 = .ok (.invokevirtual 53, 3) := by decide +kernel
theorem d_Memory_nameCell_49 : decode b_Memory_nameCell 49 = .ok (.ireturn, 1) := by decide +kernel
theorem d_Memory_newNumber_0 : decode b_Memory_newNumber 0 = .ok (.aload_n 0, 1) := by decide +kernel
theorem d_Memory_newNumber_1 : decode b_Memory_newNumber 1 = .ok (.iconst 0, 1) := by decide +kernel
theorem d_Memory_newNumber_2 : decode b_Memory_newNumber 2 = .ok (.iload_n 1, 1) := by decide +kernel
theorem d_Memory_newNumber_3 : decode b_Memory_newNumber 3 = .ok (.iconst 0, 1) := by decide +kernel
theorem d_Memory_newNumber_4 : decode b_Memory_newNumber 4 = .ok (.invokevirtual 53, 3) := by decide +kernel
theorem d_Memory_newNumber_7 : decode b_Memory_newNumber 7 = .ok (.ireturn, 1) := by decide +kernel
theorem d_Memory_isPair_0 : decode b_Memory_isPair 0 = .ok (.aload_n 0, 1) := by decide +kernel
theorem d_Memory_isPair_1 : decode b_Memory_isPair 1 = .ok (.getfield 15, 3) := by decide +kernel
theorem d_Memory_isPair_4 : decode b_Memory_isPair 4 = .ok (.iload_n 1, 1) := by decide +kernel
theorem d_Memory_isPair_5 : decode b_Memory_isPair 5 = .ok (.iaload, 1) := by decide +kernel
theorem d_Memory_isPair_6 : decode b_Memory_isPair 6 = .ok (.iconst 2, 1) := by decide +kernel
theorem d_Memory_isPair_7 : decode b_Memory_isPair 7 = .ok (.if_icmp .ne 7, 3) := by decide +kernel
theorem d_Memory_isPair_10 : decode b_Memory_isPair 10 = .ok (.iconst 1, 1) := by decide +kernel
theorem d_Memory_isPair_11 : decode b_Memory_isPair 11 = .ok (.goto 4, 3) := by decide +kernel
theorem d_Memory_isPair_14 : decode b_Memory_isPair 14 = .ok (.iconst 0, 1) := by decide +kernel
theorem d_Memory_isPair_15 : decode b_Memory_isPair 15 = .ok (.ireturn, 1) := by decide +kernel
theorem d_Memory_hasAddress_0 : decode b_Memory_hasAddress 0 = .ok (.aload_n 0, 1) := by decide +kernel
theorem d_Memory_hasAddress_1 : decode b_Memory_hasAddress 1 = .ok (.getfield 15, 3) := by decide +kernel
theorem d_Memory_hasAddress_4 : decode b_Memory_hasAddress 4 = .ok (.iload_n 1, 1) := by decide +kernel
theorem d_Memory_hasAddress_5 : decode b_Memory_hasAddress 5 = .ok (.iaload, 1) := by decide +kernel
theorem d_Memory_hasAddress_6 : decode b_Memory_hasAddress 6 = .ok (.iconst 3, 1) := by decide +kernel
theorem d_Memory_hasAddress_7 : decode b_Memory_hasAddress 7 = .ok (.if_icmp .eq 13, 3) := by decide +kernel
theorem d_Memory_hasAddress_10 : decode b_Memory_hasAddress 10 = .ok (.aload_n 0, 1) := by decide +kernel
theorem d_Memory_hasAddress_11 : decode b_Memory_hasAddress 11 = .ok (.getfield 15, 3) := by decide +kernel
theorem d_Memory_hasAddress_14 : decode b_Memory_hasAddress 14 = .ok (.iload_n 1, 1) := by decide +kernel
theorem d_Memory_hasAddress_15 : decode b_Memory_hasAddress 15 = .ok (.iaload, 1) := by decide +kernel
theorem d_Memory_hasAddress_16 : decode b_Memory_hasAddress 16 = .ok (.iconst 4, 1) := by decide +kernel
theorem d_Memory_hasAddress_17 : decode b_Memory_hasAddress 17 = .ok (.if_icmp .ne 7, 3) := by decide +kernel
theorem d_Memory_hasAddress_20 : decode b_Memory_hasAddress 20 = .ok (.iconst 1, 1) := by decide +kernel
theorem d_Memory_hasAddress_21 : decode b_Memory_hasAddress 21 = .ok (.goto 4, 3) := by decide +kernel
theorem d_Memory_hasAddress_24 : decode b_Memory_hasAddress 24 = .ok (.iconst 0, 1) := by decide +kernel
theorem d_Memory_hasAddress_25 : decode b_Memory_hasAddress 25 = .ok (.ireturn, 1) := by decide +kernel
theorem d_Memory_marksFrom_0 : decode b_Memory_marksFrom 0 = .ok (.iconst 0, 1) := by decide +kernel
theorem d_Memory_marksFrom_1 : decode b_Memory_marksFrom 1 = .ok (.istore_n 2, 1) := by decide +kernel
theorem d_Memory_marksFrom_2 : decode b_Memory_marksFrom 2 = .ok (.iload_n 1, 1) := by decide +kernel
theorem d_Memory_marksFrom_3 : decode b_Memory_marksFrom 3 = .ok (.istore_n 3, 1) := by decide +kernel
theorem d_Memory_marksFrom_4 : decode b_Memory_marksFrom 4 = .ok (.iconst 0, 1) := by decide +kernel
theorem d_Memory_marksFrom_5 : decode b_Memory_marksFrom 5 = .ok (.istore 4, 2) := by decide +kernel
theorem d_Memory_marksFrom_7 : decode b_Memory_marksFrom 7 = .ok (.iload 4, 2) := by decide +kernel
theorem d_Memory_marksFrom_9 : decode b_Memory_marksFrom 9 = .ok (.aload_n 0, 1) := by decide +kernel
theorem d_Memory_marksFrom_10 : decode b_Memory_marksFrom 10 = .ok (.getfield 9, 3) := by decide +kernel
theorem d_Memory_marksFrom_13 : decode b_Memory_marksFrom 13 = .ok (.if_icmp .ge 43, 3) := by decide +kernel
theorem d_Memory_marksFrom_16 : decode b_Memory_marksFrom 16 = .ok (.aload_n 0, 1) := by decide +kernel
theorem d_Memory_marksFrom_17 : decode b_Memory_marksFrom 17 = .ok (.iload_n 3, 1) := by decide +kernel
theorem d_Memory_marksFrom_18 : decode b_Memory_marksFrom 18 = .ok (.invokevirtual 57, 3) := by decide +kernel
theorem d_Memory_marksFrom_21 : decode b_Memory_marksFrom 21 = .ok (.ifCond .ne 11, 3) := by decide +kernel
theorem d_Memory_marksFrom_24 : decode b_Memory_marksFrom 24 = .ok (.aload_n 0, 1) := by decide +kernel
theorem d_Memory_marksFrom_25 : decode b_Memory_marksFrom 25 = .ok (.iload_n 3, 1) := by decide +kernel
theorem d_Memory_marksFrom_26 : decode b_Memory_marksFrom 26 = .ok (.invokevirtual 61, 3) := by decide +kernel
theorem d_Memory_marksFrom_29 : decode b_Memory_marksFrom 29 = .ok (.ifCond .eq 27, 3) := by decide +kernel
theorem d_Memory_marksFrom_32 : decode b_Memory_marksFrom 32 = .ok (.aload_n 0, 1) := by decide +kernel
theorem d_Memory_marksFrom_33 : decode b_Memory_marksFrom 33 = .ok (.iload_n 3, 1) := by decide +kernel
theorem d_Memory_marksFrom_34 : decode b_Memory_marksFrom 34 = .ok (.invokevirtual 57, 3) := by decide +kernel
theorem d_Memory_marksFrom_37 : decode b_Memory_marksFrom 37 = .ok (.ifCond .ne 6, 3) := by decide +kernel
theorem d_Memory_marksFrom_40 : decode b_Memory_marksFrom 40 = .ok (.iinc 2 1, 3) := by decide +kernel
theorem d_Memory_marksFrom_43 : decode b_Memory_marksFrom 43 = .ok (.aload_n 0, 1) := by decide +kernel
theorem d_Memory_marksFrom_44 : decode b_Memory_marksFrom 44 = .ok (.getfield 22, 3) := by decide +kernel
theorem d_Memory_marksFrom_47 : decode b_Memory_marksFrom 47 = .ok (.iload_n 3, 1) := by decide +kernel
theorem d_Memory_marksFrom_48 : decode b_Memory_marksFrom 48 = .ok (.iaload, 1) := by decide +kernel
theorem d_Memory_marksFrom_49 : decode b_Memory_marksFrom 49 = .ok (.istore_n 3, 1) := by decide +kernel
theorem d_Memory_marksFrom_50 : decode b_Memory_marksFrom 50 = .ok (.iinc 4 1, 3) := by decide +kernel
theorem d_Memory_marksFrom_53 : decode b_Memory_marksFrom 53 = .ok (.goto (-46), 3) := by decide +kernel
theorem d_Memory_marksFrom_56 : decode b_Memory_marksFrom 56 = .ok (.iload_n 2, 1) := by decide +kernel
theorem d_Memory_marksFrom_57 : decode b_Memory_marksFrom 57 = .ok (.ireturn, 1) := by decide +kernel
theorem d_Memory_pairsFrom_0 : decode b_Memory_pairsFrom 0 = .ok (.iconst 0, 1) := by decide +kernel
theorem d_Memory_pairsFrom_1 : decode b_Memory_pairsFrom 1 = .ok (.istore_n 2, 1) := by decide +kernel
theorem d_Memory_pairsFrom_2 : decode b_Memory_pairsFrom 2 = .ok (.iload_n 1, 1) := by decide +kernel
theorem d_Memory_pairsFrom_3 : decode b_Memory_pairsFrom 3 = .ok (.istore_n 3, 1) := by decide +kernel
theorem d_Memory_pairsFrom_4 : decode b_Memory_pairsFrom 4 = .ok (.iload_n 2, 1) := by decide +kernel
theorem d_Memory_pairsFrom_5 : decode b_Memory_pairsFrom 5 = .ok (.aload_n 0, 1) := by decide +kernel
theorem d_Memory_pairsFrom_6 : decode b_Memory_pairsFrom 6 = .ok (.getfield 9, 3) := by decide +kernel
theorem d_Memory_pairsFrom_9 : decode b_Memory_pairsFrom 9 = .ok (.if_icmp .ge 24, 3) := by decide +kernel
theorem d_Memory_pairsFrom_12 : decode b_Memory_pairsFrom 12 = .ok (.aload_n 0, 1) := by decide +kernel
theorem d_Memory_pairsFrom_13 : decode b_Memory_pairsFrom 13 = .ok (.iload_n 3, 1) := by decide +kernel
theorem d_Memory_pairsFrom_14 : decode b_Memory_pairsFrom 14 = .ok (.invokevirtual 57, 3) := by decide +kernel
theorem d_Memory_pairsFrom_17 : decode b_Memory_pairsFrom 17 = .ok (.ifCond .eq 16, 3) := by decide +kernel
theorem d_Memory_pairsFrom_20 : decode b_Memory_pairsFrom 20 = .ok (.iinc 2 1, 3) := by decide +kernel
theorem d_Memory_pairsFrom_23 : decode b_Memory_pairsFrom 23 = .ok (.aload_n 0, 1) := by decide +kernel
theorem d_Memory_pairsFrom_24 : decode b_Memory_pairsFrom 24 = .ok (.getfield 22, 3) := by decide +kernel
theorem d_Memory_pairsFrom_27 : decode b_Memory_pairsFrom 27 = .ok (.iload_n 3, 1) := by decide +kernel
theorem d_Memory_pairsFrom_28 : decode b_Memory_pairsFrom 28 = .ok (.iaload, 1) := by decide +kernel
theorem d_Memory_pairsFrom_29 : decode b_Memory_pairsFrom 29 = .ok (.istore_n 3, 1) := by decide +kernel
theorem d_Memory_pairsFrom_30 : decode b_Memory_pairsFrom 30 = .ok (.goto (-26), 3) := by decide +kernel
theorem d_Memory_pairsFrom_33 : decode b_Memory_pairsFrom 33 = .ok (.iload_n 2, 1) := by decide +kernel
theorem d_Memory_pairsFrom_34 : decode b_Memory_pairsFrom 34 = .ok (.ireturn, 1) := by decide +kernel
theorem d_Memory_spreadReach_0 : decode b_Memory_spreadReach 0 = .ok (.iconst 0, 1) := by decide +kernel
theorem d_Memory_spreadReach_1 : decode b_Memory_spreadReach 1 = .ok (.istore_n 1, 1) := by decide +kernel
theorem d_Memory_spreadReach_2 : decode b_Memory_spreadReach 2 = .ok (.iload_n 1, 1) := by decide +kernel
theorem d_Memory_spreadReach_3 : decode b_Memory_spreadReach 3 = .ok (.aload_n 0, 1) := by decide +kernel
theorem d_Memory_spreadReach_4 : decode b_Memory_spreadReach 4 = .ok (.getfield 9, 3) := by decide +kernel
theorem d_Memory_spreadReach_7 : decode b_Memory_spreadReach 7 = .ok (.if_icmp .ge 68, 3) := by decide +kernel
theorem d_Memory_spreadReach_10 : decode b_Memory_spreadReach 10 = .ok (.iload_n 1, 1) := by decide +kernel
theorem d_Memory_spreadReach_11 : decode b_Memory_spreadReach 11 = .ok (.aload_n 0, 1) := by decide +kernel
theorem d_Memory_spreadReach_12 : decode b_Memory_spreadReach 12 = .ok (.getfield 38, 3) := by decide +kernel
theorem d_Memory_spreadReach_15 : decode b_Memory_spreadReach 15 = .ok (.if_icmp .ge 60, 3) := by decide +kernel
theorem d_Memory_spreadReach_18 : decode b_Memory_spreadReach 18 = .ok (.aload_n 0, 1) := by decide +kernel
theorem d_Memory_spreadReach_19 : decode b_Memory_spreadReach 19 = .ok (.getfield 35, 3) := by decide +kernel
theorem d_Memory_spreadReach_22 : decode b_Memory_spreadReach 22 = .ok (.iload_n 1, 1) := by decide +kernel
theorem d_Memory_spreadReach_23 : decode b_Memory_spreadReach 23 = .ok (.iaload, 1) := by decide +kernel
theorem d_Memory_spreadReach_24 : decode b_Memory_spreadReach 24 = .ok (.istore_n 2, 1) := by decide +kernel
theorem d_Memory_spreadReach_25 : decode b_Memory_spreadReach 25 = .ok (.aload_n 0, 1) := by decide +kernel
theorem d_Memory_spreadReach_26 : decode b_Memory_spreadReach 26 = .ok (.iload_n 2, 1) := by decide +kernel
theorem d_Memory_spreadReach_27 : decode b_Memory_spreadReach 27 = .ok (.invokevirtual 57, 3) := by decide +kernel
theorem d_Memory_spreadReach_30 : decode b_Memory_spreadReach 30 = .ok (.ifCond .eq 13, 3) := by decide +kernel
theorem d_Memory_spreadReach_33 : decode b_Memory_spreadReach 33 = .ok (.aload_n 0, 1) := by decide +kernel
theorem d_Memory_spreadReach_34 : decode b_Memory_spreadReach 34 = .ok (.aload_n 0, 1) := by decide +kernel
theorem d_Memory_spreadReach_35 : decode b_Memory_spreadReach 35 = .ok (.getfield 19, 3) := by decide +kernel
theorem d_Memory_spreadReach_38 : decode b_Memory_spreadReach 38 = .ok (.iload_n 2, 1) := by decide +kernel
theorem d_Memory_spreadReach_39 : decode b_Memory_spreadReach 39 = .ok (.iaload, 1) := by decide +kernel
theorem d_Memory_spreadReach_40 : decode b_Memory_spreadReach 40 = .ok (.invokevirtual 64, 3) := by decide +kernel
theorem d_Memory_spreadReach_43 : decode b_Memory_spreadReach 43 = .ok (.aload_n 0, 1) := by decide +kernel
theorem d_Memory_spreadReach_44 : decode b_Memory_spreadReach 44 = .ok (.iload_n 2, 1) := by decide +kernel
theorem d_Memory_spreadReach_45 : decode b_Memory_spreadReach 45 = .ok (.invokevirtual 57, 3) := by decide +kernel
theorem d_Memory_spreadReach_48 : decode b_Memory_spreadReach 48 = .ok (.ifCond .ne 11, 3) := by decide +kernel
theorem d_Memory_spreadReach_51 : decode b_Memory_spreadReach 51 = .ok (.aload_n 0, 1) := by decide +kernel
theorem d_Memory_spreadReach_52 : decode b_Memory_spreadReach 52 = .ok (.iload_n 2, 1) := by decide +kernel
theorem d_Memory_spreadReach_53 : decode b_Memory_spreadReach 53 = .ok (.invokevirtual 61, 3) := by decide +kernel
theorem d_Memory_spreadReach_56 : decode b_Memory_spreadReach 56 = .ok (.ifCond .eq 13, 3) := by decide +kernel
theorem d_Memory_spreadReach_59 : decode b_Memory_spreadReach 59 = .ok (.aload_n 0, 1) := by decide +kernel
theorem d_Memory_spreadReach_60 : decode b_Memory_spreadReach 60 = .ok (.aload_n 0, 1) := by decide +kernel
theorem d_Memory_spreadReach_61 : decode b_Memory_spreadReach 61 = .ok (.getfield 22, 3) := by decide +kernel
theorem d_Memory_spreadReach_64 : decode b_Memory_spreadReach 64 = .ok (.iload_n 2, 1) := by decide +kernel
theorem d_Memory_spreadReach_65 : decode b_Memory_spreadReach 65 = .ok (.iaload, 1) := by decide +kernel
theorem d_Memory_spreadReach_66 : decode b_Memory_spreadReach 66 = .ok (.invokevirtual 64, 3) := by decide +kernel
theorem d_Memory_spreadReach_69 : decode b_Memory_spreadReach 69 = .ok (.iinc 1 1, 3) := by decide +kernel
theorem d_Memory_spreadReach_72 : decode b_Memory_spreadReach 72 = .ok (.goto (-70), 3) := by decide +kernel
theorem d_Memory_spreadReach_75 : decode b_Memory_spreadReach 75 = .ok (.aload_n 0, 1) := by decide +kernel
theorem d_Memory_spreadReach_76 : decode b_Memory_spreadReach 76 = .ok (.getfield 38, 3) := by decide +kernel
theorem d_Memory_spreadReach_79 : decode b_Memory_spreadReach 79 = .ok (.ireturn, 1) := by decide +kernel
theorem d_Memory_newClosure_0 : decode b_Memory_newClosure 0 = .ok (.aload_n 0, 1) := by decide +kernel
theorem d_Memory_newClosure_1 : decode b_Memory_newClosure 1 = .ok (.iconst 3, 1) := by decide +kernel
theorem d_Memory_newClosure_2 : decode b_Memory_newClosure 2 = .ok (.iload_n 1, 1) := by decide +kernel
theorem d_Memory_newClosure_3 : decode b_Memory_newClosure 3 = .ok (.iload_n 2, 1) := by decide +kernel
theorem d_Memory_newClosure_4 : decode b_Memory_newClosure 4 = .ok (.invokevirtual 53, 3) := by decide +kernel
theorem d_Memory_newClosure_7 : decode b_Memory_newClosure 7 = .ok (.ireturn, 1) := by decide +kernel
theorem d_Memory_newMark_0 : decode b_Memory_newMark 0 = .ok (.aload_n 0, 1) := by decide +kernel
theorem d_Memory_newMark_1 : decode b_Memory_newMark 1 = .ok (.iconst 4, 1) := by decide +kernel
theorem d_Memory_newMark_2 : decode b_Memory_newMark 2 = .ok (.iload_n 1, 1) := by decide +kernel
theorem d_Memory_newMark_3 : decode b_Memory_newMark 3 = .ok (.iload_n 2, 1) := by decide +kernel
theorem d_Memory_newMark_4 : decode b_Memory_newMark 4 = .ok (.invokevirtual 53, 3) := by decide +kernel
theorem d_Memory_newMark_7 : decode b_Memory_newMark 7 = .ok (.ireturn, 1) := by decide +kernel
theorem d_Memory_kindOf_0 : decode b_Memory_kindOf 0 = .ok (.aload_n 0, 1) := by decide +kernel
theorem d_Memory_kindOf_1 : decode b_Memory_kindOf 1 = .ok (.getfield 15, 3) := by decide +kernel
theorem d_Memory_kindOf_4 : decode b_Memory_kindOf 4 = .ok (.iload_n 1, 1) := by decide +kernel
theorem d_Memory_kindOf_5 : decode b_Memory_kindOf 5 = .ok (.iaload, 1) := by decide +kernel
theorem d_Memory_kindOf_6 : decode b_Memory_kindOf 6 = .ok (.ireturn, 1) := by decide +kernel
theorem d_Memory_valueOf_0 : decode b_Memory_valueOf 0 = .ok (.aload_n 0, 1) := by decide +kernel
theorem d_Memory_valueOf_1 : decode b_Memory_valueOf 1 = .ok (.getfield 19, 3) := by decide +kernel
theorem d_Memory_valueOf_4 : decode b_Memory_valueOf 4 = .ok (.iload_n 1, 1) := by decide +kernel
theorem d_Memory_valueOf_5 : decode b_Memory_valueOf 5 = .ok (.iaload, 1) := by decide +kernel
theorem d_Memory_valueOf_6 : decode b_Memory_valueOf 6 = .ok (.ireturn, 1) := by decide +kernel
theorem d_Memory_headOf_0 : decode b_Memory_headOf 0 = .ok (.aload_n 0, 1) := by decide +kernel
theorem d_Memory_headOf_1 : decode b_Memory_headOf 1 = .ok (.getfield 15, 3) := by decide +kernel
theorem d_Memory_headOf_4 : decode b_Memory_headOf 4 = .ok (.iload_n 1, 1) := by decide +kernel
theorem d_Memory_headOf_5 : decode b_Memory_headOf 5 = .ok (.iaload, 1) := by decide +kernel
theorem d_Memory_headOf_6 : decode b_Memory_headOf 6 = .ok (.iconst 2, 1) := by decide +kernel
theorem d_Memory_headOf_7 : decode b_Memory_headOf 7 = .ok (.if_icmp .ne 12, 3) := by decide +kernel
theorem d_Memory_headOf_10 : decode b_Memory_headOf 10 = .ok (.aload_n 0, 1) := by decide +kernel
theorem d_Memory_headOf_11 : decode b_Memory_headOf 11 = .ok (.getfield 19, 3) := by decide +kernel
theorem d_Memory_headOf_14 : decode b_Memory_headOf 14 = .ok (.iload_n 1, 1) := by decide +kernel
theorem d_Memory_headOf_15 : decode b_Memory_headOf 15 = .ok (.iaload, 1) := by decide +kernel
theorem d_Memory_headOf_16 : decode b_Memory_headOf 16 = .ok (.goto 4, 3) := by decide +kernel
theorem d_Memory_headOf_19 : decode b_Memory_headOf 19 = .ok (.iconst 0, 1) := by decide +kernel
theorem d_Memory_headOf_20 : decode b_Memory_headOf 20 = .ok (.ireturn, 1) := by decide +kernel
theorem d_Memory_tailOf_0 : decode b_Memory_tailOf 0 = .ok (.aload_n 0, 1) := by decide +kernel
theorem d_Memory_tailOf_1 : decode b_Memory_tailOf 1 = .ok (.getfield 15, 3) := by decide +kernel
theorem d_Memory_tailOf_4 : decode b_Memory_tailOf 4 = .ok (.iload_n 1, 1) := by decide +kernel
theorem d_Memory_tailOf_5 : decode b_Memory_tailOf 5 = .ok (.iaload, 1) := by decide +kernel
theorem d_Memory_tailOf_6 : decode b_Memory_tailOf 6 = .ok (.iconst 2, 1) := by decide +kernel
theorem d_Memory_tailOf_7 : decode b_Memory_tailOf 7 = .ok (.if_icmp .ne 12, 3) := by decide +kernel
theorem d_Memory_tailOf_10 : decode b_Memory_tailOf 10 = .ok (.aload_n 0, 1) := by decide +kernel
theorem d_Memory_tailOf_11 : decode b_Memory_tailOf 11 = .ok (.getfield 22, 3) := by decide +kernel
theorem d_Memory_tailOf_14 : decode b_Memory_tailOf 14 = .ok (.iload_n 1, 1) := by decide +kernel
theorem d_Memory_tailOf_15 : decode b_Memory_tailOf 15 = .ok (.iaload, 1) := by decide +kernel
theorem d_Memory_tailOf_16 : decode b_Memory_tailOf 16 = .ok (.goto 4, 3) := by decide +kernel
theorem d_Memory_tailOf_19 : decode b_Memory_tailOf 19 = .ok (.iconst 0, 1) := by decide +kernel
theorem d_Memory_tailOf_20 : decode b_Memory_tailOf 20 = .ok (.ireturn, 1) := by decide +kernel
theorem d_Memory_setHead_0 : decode b_Memory_setHead 0 = .ok (.aload_n 0, 1) := by decide +kernel
theorem d_Memory_setHead_1 : decode b_Memory_setHead 1 = .ok (.iload_n 1, 1) := by decide +kernel
theorem d_Memory_setHead_2 : decode b_Memory_setHead 2 = .ok (.invokevirtual 57, 3) := by decide +kernel
theorem d_Memory_setHead_5 : decode b_Memory_setHead 5 = .ok (.ifCond .eq 10, 3) := by decide +kernel
theorem d_Memory_setHead_8 : decode b_Memory_setHead 8 = .ok (.aload_n 0, 1) := by decide +kernel
theorem d_Memory_setHead_9 : decode b_Memory_setHead 9 = .ok (.getfield 19, 3) := by decide +kernel
theorem d_Memory_setHead_12 : decode b_Memory_setHead 12 = .ok (.iload_n 1, 1) := by decide +kernel
theorem d_Memory_setHead_13 : decode b_Memory_setHead 13 = .ok (.iload_n 2, 1) := by decide +kernel
theorem d_Memory_setHead_14 : decode b_Memory_setHead 14 = .ok (.iastore, 1) := by decide +kernel
theorem d_Memory_setHead_15 : decode b_Memory_setHead 15 = .ok (.return_, 1) := by decide +kernel
theorem d_Memory_addressOf_0 : decode b_Memory_addressOf 0 = .ok (.aload_n 0, 1) := by decide +kernel
theorem d_Memory_addressOf_1 : decode b_Memory_addressOf 1 = .ok (.iload_n 1, 1) := by decide +kernel
theorem d_Memory_addressOf_2 : decode b_Memory_addressOf 2 = .ok (.invokevirtual 61, 3) := by decide +kernel
theorem d_Memory_addressOf_5 : decode b_Memory_addressOf 5 = .ok (.ifCond .eq 12, 3) := by decide +kernel
theorem d_Memory_addressOf_8 : decode b_Memory_addressOf 8 = .ok (.aload_n 0, 1) := by decide +kernel
theorem d_Memory_addressOf_9 : decode b_Memory_addressOf 9 = .ok (.getfield 19, 3) := by decide +kernel
theorem d_Memory_addressOf_12 : decode b_Memory_addressOf 12 = .ok (.iload_n 1, 1) := by decide +kernel
theorem d_Memory_addressOf_13 : decode b_Memory_addressOf 13 = .ok (.iaload, 1) := by decide +kernel
theorem d_Memory_addressOf_14 : decode b_Memory_addressOf 14 = .ok (.goto 4, 3) := by decide +kernel
theorem d_Memory_addressOf_17 : decode b_Memory_addressOf 17 = .ok (.iconst 0, 1) := by decide +kernel
theorem d_Memory_addressOf_18 : decode b_Memory_addressOf 18 = .ok (.ireturn, 1) := by decide +kernel
theorem d_Memory_cellOf_0 : decode b_Memory_cellOf 0 = .ok (.aload_n 0, 1) := by decide +kernel
theorem d_Memory_cellOf_1 : decode b_Memory_cellOf 1 = .ok (.iload_n 1, 1) := by decide +kernel
theorem d_Memory_cellOf_2 : decode b_Memory_cellOf 2 = .ok (.invokevirtual 61, 3) := by decide +kernel
theorem d_Memory_cellOf_5 : decode b_Memory_cellOf 5 = .ok (.ifCond .eq 12, 3) := by decide +kernel
theorem d_Memory_cellOf_8 : decode b_Memory_cellOf 8 = .ok (.aload_n 0, 1) := by decide +kernel
theorem d_Memory_cellOf_9 : decode b_Memory_cellOf 9 = .ok (.getfield 22, 3) := by decide +kernel
theorem d_Memory_cellOf_12 : decode b_Memory_cellOf 12 = .ok (.iload_n 1, 1) := by decide +kernel
theorem d_Memory_cellOf_13 : decode b_Memory_cellOf 13 = .ok (.iaload, 1) := by decide +kernel
theorem d_Memory_cellOf_14 : decode b_Memory_cellOf 14 = .ok (.goto 4, 3) := by decide +kernel
theorem d_Memory_cellOf_17 : decode b_Memory_cellOf 17 = .ok (.iconst 0, 1) := by decide +kernel
theorem d_Memory_cellOf_18 : decode b_Memory_cellOf 18 = .ok (.ireturn, 1) := by decide +kernel
theorem d_Memory_pairBehind_0 : decode b_Memory_pairBehind 0 = .ok (.iload_n 1, 1) := by decide +kernel
theorem d_Memory_pairBehind_1 : decode b_Memory_pairBehind 1 = .ok (.istore_n 3, 1) := by decide +kernel
theorem d_Memory_pairBehind_2 : decode b_Memory_pairBehind 2 = .ok (.iconst 0, 1) := by decide +kernel
theorem d_Memory_pairBehind_3 : decode b_Memory_pairBehind 3 = .ok (.istore 4, 2) := by decide +kernel
theorem d_Memory_pairBehind_5 : decode b_Memory_pairBehind 5 = .ok (.iload 4, 2) := by decide +kernel
theorem d_Memory_pairBehind_7 : decode b_Memory_pairBehind 7 = .ok (.iload_n 2, 1) := by decide +kernel
theorem d_Memory_pairBehind_8 : decode b_Memory_pairBehind 8 = .ok (.if_icmp .ge 24, 3) := by decide +kernel
theorem d_Memory_pairBehind_11 : decode b_Memory_pairBehind 11 = .ok (.aload_n 0, 1) := by decide +kernel
theorem d_Memory_pairBehind_12 : decode b_Memory_pairBehind 12 = .ok (.iload_n 3, 1) := by decide +kernel
theorem d_Memory_pairBehind_13 : decode b_Memory_pairBehind 13 = .ok (.invokevirtual 57, 3) := by decide +kernel
theorem d_Memory_pairBehind_16 : decode b_Memory_pairBehind 16 = .ok (.ifCond .eq 16, 3) := by decide +kernel
theorem d_Memory_pairBehind_19 : decode b_Memory_pairBehind 19 = .ok (.aload_n 0, 1) := by decide +kernel
theorem d_Memory_pairBehind_20 : decode b_Memory_pairBehind 20 = .ok (.getfield 22, 3) := by decide +kernel
theorem d_Memory_pairBehind_23 : decode b_Memory_pairBehind 23 = .ok (.iload_n 3, 1) := by decide +kernel
theorem d_Memory_pairBehind_24 : decode b_Memory_pairBehind 24 = .ok (.iaload, 1) := by decide +kernel
theorem d_Memory_pairBehind_25 : decode b_Memory_pairBehind 25 = .ok (.istore_n 3, 1) := by decide +kernel
theorem d_Memory_pairBehind_26 : decode b_Memory_pairBehind 26 = .ok (.iinc 4 1, 3) := by decide +kernel
theorem d_Memory_pairBehind_29 : decode b_Memory_pairBehind 29 = .ok (.goto (-24), 3) := by decide +kernel
theorem d_Memory_pairBehind_32 : decode b_Memory_pairBehind 32 = .ok (.aload_n 0, 1) := by decide +kernel
theorem d_Memory_pairBehind_33 : decode b_Memory_pairBehind 33 = .ok (.iload_n 3, 1) := by decide +kernel
theorem d_Memory_pairBehind_34 : decode b_Memory_pairBehind 34 = .ok (.invokevirtual 57, 3) := by decide +kernel
theorem d_Memory_pairBehind_37 : decode b_Memory_pairBehind 37 = .ok (.ifCond .eq 7, 3) := by decide +kernel
theorem d_Memory_pairBehind_40 : decode b_Memory_pairBehind 40 = .ok (.iload_n 3, 1) := by decide +kernel
theorem d_Memory_pairBehind_41 : decode b_Memory_pairBehind 41 = .ok (.goto 4, 3) := by decide +kernel
theorem d_Memory_pairBehind_44 : decode b_Memory_pairBehind 44 = .ok (.iconst (-1), 1) := by decide +kernel
theorem d_Memory_pairBehind_45 : decode b_Memory_pairBehind 45 = .ok (.ireturn, 1) := by decide +kernel
set_option maxHeartbeats 4000000 in
set_option maxRecDepth 100000 in
theorem c_Memory_setName (l : Launch) (dC : Nat → ClassId) (dI : Nat → Nat → Nat) (h_this : Nat) (h_kinds : Nat) (h_lefts : Nat) (h_rights : Nat) (h_free : Nat) (h_isReached : Nat) (h_reached : Nat) (c_kinds : ClassId) (c_lefts : ClassId) (sz : Nat) (n_kinds : Nat) (n_lefts : Nat) (i_size : Int32) (i_freeCount : Int32) (i_reachedCount : Int32) (f_kinds : Nat → Int32) (f_lefts : Nat → Int32) (x1 : Int32) (x2 : Int32) (post : (Nat → Int32) → (Nat → Int32) → Prop) (hw : wp_Memory_setName n_kinds n_lefts f_kinds f_lefts x1 x2 post) : Met l y_Memory_setName (ws_ y_Memory_setName b_Memory_setName 3 none) { frames := 0, cells := 0, slots := 0, locals := 0 } (va_Pc [.ref h_this, .int x1, .int x2] (PRE (dC, dI) vwCl [(c_kinds, .int), (c_lefts, .int)] [ob_Memory h_this i_size h_kinds h_lefts h_rights h_free i_freeCount h_isReached h_reached i_reachedCount, ar_ h_kinds c_kinds n_kinds f_kinds, ar_ h_lefts c_lefts n_lefts f_lefts] sz (va_A [ob_Memory h_this i_size h_kinds h_lefts h_rights h_free i_freeCount h_isReached h_reached i_reachedCount, ar_ h_kinds c_kinds n_kinds f_kinds, ar_ h_lefts c_lefts n_lefts f_lefts] sz))) (va_Qv (fun (u : (Nat → Int32) × (Nat → Int32)) => post u.1 u.2) (fun (u : (Nat → Int32) × (Nat → Int32)) (t : State) => va_P (dC, dI) vwCl [ob_Memory h_this i_size h_kinds h_lefts h_rights h_free i_freeCount h_isReached h_reached i_reachedCount, ar_ h_kinds c_kinds n_kinds u.1, ar_ h_lefts c_lefts n_lefts u.2] t.heap ∧ va_K (dC, dI) vwCl [(c_kinds, .int), (c_lefts, .int)] t ∧ va_D (va_A [ob_Memory h_this i_size h_kinds h_lefts h_rights h_free i_freeCount h_isReached h_reached i_reachedCount, ar_ h_kinds c_kinds n_kinds f_kinds, ar_ h_lefts c_lefts n_lefts f_lefts] sz) [ob_Memory h_this i_size h_kinds h_lefts h_rights h_free i_freeCount h_isReached h_reached i_reachedCount, ar_ h_kinds c_kinds n_kinds u.1, ar_ h_lefts c_lefts n_lefts u.2]) (va_A [ob_Memory h_this i_size h_kinds h_lefts h_rights h_free i_freeCount h_isReached h_reached i_reachedCount, ar_ h_kinds c_kinds n_kinds f_kinds, ar_ h_lefts c_lefts n_lefts f_lefts] sz)) 0 0 (va_A [ob_Memory h_this i_size h_kinds h_lefts h_rights h_free i_freeCount h_isReached h_reached i_reachedCount, ar_ h_kinds c_kinds n_kinds f_kinds, ar_ h_lefts c_lefts n_lefts f_lefts] sz) := by
  refine Met.ofW (cc := b_Memory_setName) (maxL := 3) (ret := none) (by decide) rfl ?_
  intro p e s m args below meth c s₁ B hml hv
  obtain ⟨rfl, hsz, hP, hK, hD0, hG⟩ := hv
  have hx := B.exec
  have hb := B.bytes
  have hr := B.returns
  have hts : ∀ w ∈ tb, w.before _ s = true := fun w h => atoms_spec (ws := ws_ _ _ _ _) B.pre w (List.mem_cons_of_mem _ h)
  have hown : s.vm.findClass R_Memory = some m.cls := findClass_of_methodNamed B.named
  have hlocks := B.notSynchronized
  subst hsz
  have hD := hD0.self (sz := s.heap.size)
  generalize hAe : va_A [ob_Memory h_this i_size h_kinds h_lefts h_rights h_free i_freeCount h_isReached h_reached i_reachedCount, ar_ h_kinds c_kinds n_kinds f_kinds, ar_ h_lefts c_lefts n_lefts f_lefts] s.heap.size = A at hD hG ⊢
  have hA : ∀ q : Nat, s.heap.size ≤ q → A q := fun q h => by rw [← hAe]; exact Or.inr h
  have hS : va_S A s.heap s.heap [] := va_S.rf
  have hP : va_P (dC, dI) vwCl [ob_Memory h_this i_size h_kinds h_lefts h_rights h_free i_freeCount h_isReached h_reached i_reachedCount, ar_ h_kinds c_kinds n_kinds f_kinds, ar_ h_lefts c_lefts n_lefts f_lefts] s.heap := hP
  have hl := lv_entry [.ref h_this, .int x1, .int x2] (n := 3) (Nat.le_of_ble_eq_true rfl)
  rw [lg_entry_eq]
  generalize (lg_sl [.ref h_this, .int x1, .int x2] ++ List.replicate (3 - (lg_sl [.ref h_this, .int x1, .int x2]).length) Slot.unset).toArray = ls at hl ⊢
  have hl : lv_has ls 3 [(0, .ref h_this), (1, .int x1), (2, .int x2)] := hl
  obtain ⟨Q, hQ⟩ : ∃ Q : State → Prop, Q = MQ below (va_Qv (fun (u : (Nat → Int32) × (Nat → Int32)) => post u.1 u.2) (fun (u : (Nat → Int32) × (Nat → Int32)) (t : State) => va_P (dC, dI) vwCl [ob_Memory h_this i_size h_kinds h_lefts h_rights h_free i_freeCount h_isReached h_reached i_reachedCount, ar_ h_kinds c_kinds n_kinds u.1, ar_ h_lefts c_lefts n_lefts u.2] t.heap ∧ va_K (dC, dI) vwCl [(c_kinds, .int), (c_lefts, .int)] t ∧ va_D A [ob_Memory h_this i_size h_kinds h_lefts h_rights h_free i_freeCount h_isReached h_reached i_reachedCount, ar_ h_kinds c_kinds n_kinds u.1, ar_ h_lefts c_lefts n_lefts u.2]) A) ([.ref h_this, .int x1, .int x2] : List Value).toArray s 0 0 A := ⟨_, rfl⟩
  rw [← hQ]
  unfold wp_Memory_setName at hw
  refine lv_aload_n hx hb d_Memory_setName_0 rfl (lv_at hl 0 rfl) ?_
  refine va_get (D := (dC, dI)) (ci := 4) (v := .ref h_kinds) (C := R_Memory) (T := T_Memory) (N := 9) hx hb hts in_Memory hown hK hP 0 rfl rfl 1 (by decide) (hts _ kt_189) (fun _ h9 => h9) rfl d_Memory_setName_1 ?_
  refine lv_iload_n hx hb d_Memory_setName_4 rfl (lv_at hl 1 rfl) ?_
  refine lv_iconst (v := 1) hx hb d_Memory_setName_5 (by decide) ?_
  obtain ⟨h_1, hw⟩ := hw
  refine va_iast hx hb hK hP hD hS 1 0 rfl rfl h_1 d_Memory_setName_6 (fun H locs hP hD hS => ?_)
  have hP : va_P (dC, dI) vwCl [ob_Memory h_this i_size h_kinds h_lefts h_rights h_free i_freeCount h_isReached h_reached i_reachedCount, ar_ h_kinds c_kinds n_kinds (upd f_kinds x1.toNatClampNeg (1 : Int32)), ar_ h_lefts c_lefts n_lefts f_lefts] H := hP
  have hD : va_D A [ob_Memory h_this i_size h_kinds h_lefts h_rights h_free i_freeCount h_isReached h_reached i_reachedCount, ar_ h_kinds c_kinds n_kinds (upd f_kinds x1.toNatClampNeg (1 : Int32)), ar_ h_lefts c_lefts n_lefts f_lefts] := hD
  refine lv_aload_n hx hb d_Memory_setName_7 rfl (lv_at hl 0 rfl) ?_
  refine va_get (D := (dC, dI)) (ci := 4) (v := .ref h_lefts) (C := R_Memory) (T := T_Memory) (N := 9) hx hb hts in_Memory hown hK hP 0 rfl rfl 2 (by decide) (hts _ kt_190) (fun _ h9 => h9) rfl d_Memory_setName_8 ?_
  refine lv_iload_n hx hb d_Memory_setName_11 rfl (lv_at hl 1 rfl) ?_
  refine lv_iload_n hx hb d_Memory_setName_12 rfl (lv_at hl 2 rfl) ?_
  obtain ⟨h_2, hw⟩ := hw
  refine va_iast hx hb hK hP hD hS 2 1 rfl rfl h_2 d_Memory_setName_13 (fun H locs hP hD hS => ?_)
  have hP : va_P (dC, dI) vwCl [ob_Memory h_this i_size h_kinds h_lefts h_rights h_free i_freeCount h_isReached h_reached i_reachedCount, ar_ h_kinds c_kinds n_kinds (upd f_kinds x1.toNatClampNeg (1 : Int32)), ar_ h_lefts c_lefts n_lefts (upd f_lefts x1.toNatClampNeg x2)] H := hP
  have hD : va_D A [ob_Memory h_this i_size h_kinds h_lefts h_rights h_free i_freeCount h_isReached h_reached i_reachedCount, ar_ h_kinds c_kinds n_kinds (upd f_kinds x1.toNatClampNeg (1 : Int32)), ar_ h_lefts c_lefts n_lefts (upd f_lefts x1.toNatClampNeg x2)] := hD
  have hP9 : va_P (dC, dI) vwCl [ob_Memory h_this i_size h_kinds h_lefts h_rights h_free i_freeCount h_isReached h_reached i_reachedCount, ar_ h_kinds c_kinds n_kinds (upd f_kinds x1.toNatClampNeg (1 : Int32)), ar_ h_lefts c_lefts n_lefts (upd f_lefts x1.toNatClampNeg x2)] _ := hP
  have hD9 : va_D A [ob_Memory h_this i_size h_kinds h_lefts h_rights h_free i_freeCount h_isReached h_reached i_reachedCount, ar_ h_kinds c_kinds n_kinds (upd f_kinds x1.toNatClampNeg (1 : Int32)), ar_ h_lefts c_lefts n_lefts (upd f_lefts x1.toNatClampNeg x2)] := hD
  rw [hQ]
  exact W.vret hx hb hr (fun t ht hW => ⟨⟨(upd f_kinds x1.toNatClampNeg (1 : Int32), upd f_lefts x1.toNatClampNeg x2), rfl, hw, by rw [ht]; exact hP9, va_K.moved hW.alike hK, hD9⟩, hS.F ht⟩) hS.2.2 d_Memory_setName_14

set_option maxHeartbeats 4000000 in
set_option maxRecDepth 100000 in
theorem c_Memory_reach (l : Launch) (dC : Nat → ClassId) (dI : Nat → Nat → Nat) (h_this : Nat) (h_isReached : Nat) (h_reached : Nat) (h_kinds : Nat) (h_lefts : Nat) (h_rights : Nat) (h_free : Nat) (c_isReached : ClassId) (c_reached : ClassId) (sz : Nat) (n_isReached : Nat) (n_reached : Nat) (i_size : Int32) (i_freeCount : Int32) (i_reachedCount : Int32) (f_isReached : Nat → Int32) (f_reached : Nat → Int32) (x1 : Int32) (post : Int32 → (Nat → Int32) → (Nat → Int32) → Prop) (hw : wp_Memory_reach n_isReached n_reached i_reachedCount f_isReached f_reached x1 post) : Met l y_Memory_reach (ws_ y_Memory_reach b_Memory_reach 2 none) { frames := 0, cells := 0, slots := 0, locals := 0 } (va_Pc [.ref h_this, .int x1] (PRE (dC, dI) vwCl [(c_isReached, .boolean), (c_reached, .int)] [ob_Memory h_this i_size h_kinds h_lefts h_rights h_free i_freeCount h_isReached h_reached i_reachedCount, ar_ h_isReached c_isReached n_isReached f_isReached, ar_ h_reached c_reached n_reached f_reached] sz (va_A [ob_Memory h_this i_size h_kinds h_lefts h_rights h_free i_freeCount h_isReached h_reached i_reachedCount, ar_ h_isReached c_isReached n_isReached f_isReached, ar_ h_reached c_reached n_reached f_reached] sz))) (va_Qv (fun (u : Int32 × (Nat → Int32) × (Nat → Int32)) => post u.1 u.2.1 u.2.2) (fun (u : Int32 × (Nat → Int32) × (Nat → Int32)) (t : State) => va_P (dC, dI) vwCl [ob_Memory h_this i_size h_kinds h_lefts h_rights h_free i_freeCount h_isReached h_reached u.1, ar_ h_isReached c_isReached n_isReached u.2.1, ar_ h_reached c_reached n_reached u.2.2] t.heap ∧ va_K (dC, dI) vwCl [(c_isReached, .boolean), (c_reached, .int)] t ∧ va_D (va_A [ob_Memory h_this i_size h_kinds h_lefts h_rights h_free i_freeCount h_isReached h_reached i_reachedCount, ar_ h_isReached c_isReached n_isReached f_isReached, ar_ h_reached c_reached n_reached f_reached] sz) [ob_Memory h_this i_size h_kinds h_lefts h_rights h_free i_freeCount h_isReached h_reached u.1, ar_ h_isReached c_isReached n_isReached u.2.1, ar_ h_reached c_reached n_reached u.2.2]) (va_A [ob_Memory h_this i_size h_kinds h_lefts h_rights h_free i_freeCount h_isReached h_reached i_reachedCount, ar_ h_isReached c_isReached n_isReached f_isReached, ar_ h_reached c_reached n_reached f_reached] sz)) 0 0 (va_A [ob_Memory h_this i_size h_kinds h_lefts h_rights h_free i_freeCount h_isReached h_reached i_reachedCount, ar_ h_isReached c_isReached n_isReached f_isReached, ar_ h_reached c_reached n_reached f_reached] sz) := by
  refine Met.ofW (cc := b_Memory_reach) (maxL := 2) (ret := none) (by decide) rfl ?_
  intro p e s m args below meth c s₁ B hml hv
  obtain ⟨rfl, hsz, hP, hK, hD0, hG⟩ := hv
  have hx := B.exec
  have hb := B.bytes
  have hr := B.returns
  have hts : ∀ w ∈ tb, w.before _ s = true := fun w h => atoms_spec (ws := ws_ _ _ _ _) B.pre w (List.mem_cons_of_mem _ h)
  have hown : s.vm.findClass R_Memory = some m.cls := findClass_of_methodNamed B.named
  have hlocks := B.notSynchronized
  subst hsz
  have hD := hD0.self (sz := s.heap.size)
  generalize hAe : va_A [ob_Memory h_this i_size h_kinds h_lefts h_rights h_free i_freeCount h_isReached h_reached i_reachedCount, ar_ h_isReached c_isReached n_isReached f_isReached, ar_ h_reached c_reached n_reached f_reached] s.heap.size = A at hD hG ⊢
  have hA : ∀ q : Nat, s.heap.size ≤ q → A q := fun q h => by rw [← hAe]; exact Or.inr h
  have hS : va_S A s.heap s.heap [] := va_S.rf
  have hP : va_P (dC, dI) vwCl [ob_Memory h_this i_size h_kinds h_lefts h_rights h_free i_freeCount h_isReached h_reached i_reachedCount, ar_ h_isReached c_isReached n_isReached f_isReached, ar_ h_reached c_reached n_reached f_reached] s.heap := hP
  have hl := lv_entry [.ref h_this, .int x1] (n := 2) (Nat.le_of_ble_eq_true rfl)
  rw [lg_entry_eq]
  generalize (lg_sl [.ref h_this, .int x1] ++ List.replicate (2 - (lg_sl [.ref h_this, .int x1]).length) Slot.unset).toArray = ls at hl ⊢
  have hl : lv_has ls 2 [(0, .ref h_this), (1, .int x1)] := hl
  obtain ⟨Q, hQ⟩ : ∃ Q : State → Prop, Q = MQ below (va_Qv (fun (u : Int32 × (Nat → Int32) × (Nat → Int32)) => post u.1 u.2.1 u.2.2) (fun (u : Int32 × (Nat → Int32) × (Nat → Int32)) (t : State) => va_P (dC, dI) vwCl [ob_Memory h_this i_size h_kinds h_lefts h_rights h_free i_freeCount h_isReached h_reached u.1, ar_ h_isReached c_isReached n_isReached u.2.1, ar_ h_reached c_reached n_reached u.2.2] t.heap ∧ va_K (dC, dI) vwCl [(c_isReached, .boolean), (c_reached, .int)] t ∧ va_D A [ob_Memory h_this i_size h_kinds h_lefts h_rights h_free i_freeCount h_isReached h_reached u.1, ar_ h_isReached c_isReached n_isReached u.2.1, ar_ h_reached c_reached n_reached u.2.2]) A) ([.ref h_this, .int x1] : List Value).toArray s 0 0 A := ⟨_, rfl⟩
  rw [← hQ]
  unfold wp_Memory_reach at hw
  refine lv_aload_n hx hb d_Memory_reach_0 rfl (lv_at hl 0 rfl) ?_
  refine va_get (D := (dC, dI)) (ci := 4) (v := .ref h_isReached) (C := R_Memory) (T := T_Memory) (N := 9) hx hb hts in_Memory hown hK hP 0 rfl rfl 6 (by decide) (hts _ kt_196) (fun _ h9 => h9) rfl d_Memory_reach_1 ?_
  refine lv_iload_n hx hb d_Memory_reach_4 rfl (lv_at hl 1 rfl) ?_
  obtain ⟨h_1, hw⟩ := hw
  refine va_zald hx hb hK hP 1 0 rfl rfl h_1 d_Memory_reach_5 ?_
  refine lv_if_ne (tgt := 36) hx hb d_Memory_reach_6 (by decide) (fun c_2 => ?_) (fun c_2 => ?_)
  · have hw := hw.2 c_2
    have hP9 : va_P (dC, dI) vwCl [ob_Memory h_this i_size h_kinds h_lefts h_rights h_free i_freeCount h_isReached h_reached i_reachedCount, ar_ h_isReached c_isReached n_isReached f_isReached, ar_ h_reached c_reached n_reached f_reached] _ := hP
    have hD9 : va_D A [ob_Memory h_this i_size h_kinds h_lefts h_rights h_free i_freeCount h_isReached h_reached i_reachedCount, ar_ h_isReached c_isReached n_isReached f_isReached, ar_ h_reached c_reached n_reached f_reached] := hD
    rw [hQ]
    exact W.vret hx hb hr (fun t ht hW => ⟨⟨(i_reachedCount, f_isReached, f_reached), rfl, hw, by rw [ht]; exact hP9, va_K.moved hW.alike hK, hD9⟩, hS.F ht⟩) hS.2.2 d_Memory_reach_36
  · have hw := hw.1 c_2
    refine lv_aload_n hx hb d_Memory_reach_9 rfl (lv_at hl 0 rfl) ?_
    refine va_get (D := (dC, dI)) (ci := 4) (v := .ref h_isReached) (C := R_Memory) (T := T_Memory) (N := 9) hx hb hts in_Memory hown hK hP 0 rfl rfl 6 (by decide) (hts _ kt_196) (fun _ h9 => h9) rfl d_Memory_reach_10 ?_
    refine lv_iload_n hx hb d_Memory_reach_13 rfl (lv_at hl 1 rfl) ?_
    refine lv_iconst (v := 1) hx hb d_Memory_reach_14 (by decide) ?_
    obtain ⟨h_3, hw⟩ := hw
    refine va_zast hx hb hK hP hD hS 1 0 rfl rfl h_3 d_Memory_reach_15 (fun H locs hP hD hS => ?_)
    have hP : va_P (dC, dI) vwCl [ob_Memory h_this i_size h_kinds h_lefts h_rights h_free i_freeCount h_isReached h_reached i_reachedCount, ar_ h_isReached c_isReached n_isReached (upd f_isReached x1.toNatClampNeg (vp_nar .boolean (1 : Int32))), ar_ h_reached c_reached n_reached f_reached] H := hP
    have hD : va_D A [ob_Memory h_this i_size h_kinds h_lefts h_rights h_free i_freeCount h_isReached h_reached i_reachedCount, ar_ h_isReached c_isReached n_isReached (upd f_isReached x1.toNatClampNeg (vp_nar .boolean (1 : Int32))), ar_ h_reached c_reached n_reached f_reached] := hD
    refine lv_aload_n hx hb d_Memory_reach_16 rfl (lv_at hl 0 rfl) ?_
    refine va_get (D := (dC, dI)) (ci := 4) (v := .ref h_reached) (C := R_Memory) (T := T_Memory) (N := 9) hx hb hts in_Memory hown hK hP 0 rfl rfl 7 (by decide) (hts _ kt_197) (fun _ h9 => h9) rfl d_Memory_reach_17 ?_
    refine lv_aload_n hx hb d_Memory_reach_20 rfl (lv_at hl 0 rfl) ?_
    refine va_get (D := (dC, dI)) (ci := 4) (v := .int i_reachedCount) (C := R_Memory) (T := T_Memory) (N := 9) hx hb hts in_Memory hown hK hP 0 rfl rfl 8 (by decide) (hts _ kt_198) (fun _ h9 => h9) rfl d_Memory_reach_21 ?_
    refine lv_iload_n hx hb d_Memory_reach_24 rfl (lv_at hl 1 rfl) ?_
    obtain ⟨h_4, hw⟩ := hw
    refine va_iast hx hb hK hP hD hS 2 1 rfl rfl h_4 d_Memory_reach_25 (fun H locs hP hD hS => ?_)
    have hP : va_P (dC, dI) vwCl [ob_Memory h_this i_size h_kinds h_lefts h_rights h_free i_freeCount h_isReached h_reached i_reachedCount, ar_ h_isReached c_isReached n_isReached (upd f_isReached x1.toNatClampNeg (vp_nar .boolean (1 : Int32))), ar_ h_reached c_reached n_reached (upd f_reached i_reachedCount.toNatClampNeg x1)] H := hP
    have hD : va_D A [ob_Memory h_this i_size h_kinds h_lefts h_rights h_free i_freeCount h_isReached h_reached i_reachedCount, ar_ h_isReached c_isReached n_isReached (upd f_isReached x1.toNatClampNeg (vp_nar .boolean (1 : Int32))), ar_ h_reached c_reached n_reached (upd f_reached i_reachedCount.toNatClampNeg x1)] := hD
    refine lv_aload_n hx hb d_Memory_reach_26 rfl (lv_at hl 0 rfl) ?_
    refine lv_dup hx hb d_Memory_reach_27 rfl ?_
    refine va_get (D := (dC, dI)) (ci := 4) (v := .int i_reachedCount) (C := R_Memory) (T := T_Memory) (N := 9) hx hb hts in_Memory hown hK hP 0 rfl rfl 8 (by decide) (hts _ kt_198) (fun _ h9 => h9) rfl d_Memory_reach_28 ?_
    refine lv_iconst (v := 1) hx hb d_Memory_reach_31 (by decide) ?_
    refine lv_iadd hx hb d_Memory_reach_32 ?_
    refine va_put (D := (dC, dI)) (ci := 4) (v := .int (i_reachedCount + (1 : Int32))) (ty := .int) (C := R_Memory) (T := T_Memory) (N := 9) hx hb hts in_Memory t_Memory t_Memory_ok nm_Memory hown hK hP hD hS 0 rfl rfl 8 (by decide) (hts _ kt_198) (fun _ h9 => h9) rfl (by decide +kernel) rfl rfl (Nat.le_of_ble_eq_true rfl) d_Memory_reach_33 (fun H locs hP hD hS => ?_)
    have hP : va_P (dC, dI) vwCl [ob_Memory h_this i_size h_kinds h_lefts h_rights h_free i_freeCount h_isReached h_reached (i_reachedCount + (1 : Int32)), ar_ h_isReached c_isReached n_isReached (upd f_isReached x1.toNatClampNeg (vp_nar .boolean (1 : Int32))), ar_ h_reached c_reached n_reached (upd f_reached i_reachedCount.toNatClampNeg x1)] H := hP
    have hD : va_D A [ob_Memory h_this i_size h_kinds h_lefts h_rights h_free i_freeCount h_isReached h_reached (i_reachedCount + (1 : Int32)), ar_ h_isReached c_isReached n_isReached (upd f_isReached x1.toNatClampNeg (vp_nar .boolean (1 : Int32))), ar_ h_reached c_reached n_reached (upd f_reached i_reachedCount.toNatClampNeg x1)] := hD
    have hP9 : va_P (dC, dI) vwCl [ob_Memory h_this i_size h_kinds h_lefts h_rights h_free i_freeCount h_isReached h_reached (i_reachedCount + (1 : Int32)), ar_ h_isReached c_isReached n_isReached (upd f_isReached x1.toNatClampNeg (vp_nar .boolean (1 : Int32))), ar_ h_reached c_reached n_reached (upd f_reached i_reachedCount.toNatClampNeg x1)] _ := hP
    have hD9 : va_D A [ob_Memory h_this i_size h_kinds h_lefts h_rights h_free i_freeCount h_isReached h_reached (i_reachedCount + (1 : Int32)), ar_ h_isReached c_isReached n_isReached (upd f_isReached x1.toNatClampNeg (vp_nar .boolean (1 : Int32))), ar_ h_reached c_reached n_reached (upd f_reached i_reachedCount.toNatClampNeg x1)] := hD
    rw [hQ]
    exact W.vret hx hb hr (fun t ht hW => ⟨⟨(i_reachedCount + (1 : Int32), upd f_isReached x1.toNatClampNeg (vp_nar .boolean (1 : Int32)), upd f_reached i_reachedCount.toNatClampNeg x1), rfl, hw, by rw [ht]; exact hP9, va_K.moved hW.alike hK, hD9⟩, hS.F ht⟩) hS.2.2 d_Memory_reach_36

set_option maxHeartbeats 4000000 in
set_option maxRecDepth 100000 in
theorem c_Memory_beginReach (l : Launch) (dC : Nat → ClassId) (dI : Nat → Nat → Nat) (h_this : Nat) (h_isReached : Nat) (h_reached : Nat) (h_kinds : Nat) (h_lefts : Nat) (h_rights : Nat) (h_free : Nat) (c_isReached : ClassId) (c_reached : ClassId) (sz : Nat) (n_isReached : Nat) (n_reached : Nat) (i_size : Int32) (i_freeCount : Int32) (i_reachedCount : Int32) (f_isReached : Nat → Int32) (f_reached : Nat → Int32)  (post : Int32 → (Nat → Int32) → (Nat → Int32) → Prop) (hw : wp_Memory_beginReach n_isReached n_reached i_size i_reachedCount f_isReached f_reached  post) : Met l y_Memory_beginReach (ws_ y_Memory_beginReach b_Memory_beginReach 2 none) { frames := 1, cells := 0, slots := 0, locals := 21 } (va_Pc [.ref h_this] (PRE (dC, dI) vwCl [(c_isReached, .boolean), (c_reached, .int)] [ob_Memory h_this i_size h_kinds h_lefts h_rights h_free i_freeCount h_isReached h_reached i_reachedCount, ar_ h_isReached c_isReached n_isReached f_isReached, ar_ h_reached c_reached n_reached f_reached] sz (va_A [ob_Memory h_this i_size h_kinds h_lefts h_rights h_free i_freeCount h_isReached h_reached i_reachedCount, ar_ h_isReached c_isReached n_isReached f_isReached, ar_ h_reached c_reached n_reached f_reached] sz))) (va_Qv (fun (u : Int32 × (Nat → Int32) × (Nat → Int32)) => post u.1 u.2.1 u.2.2) (fun (u : Int32 × (Nat → Int32) × (Nat → Int32)) (t : State) => va_P (dC, dI) vwCl [ob_Memory h_this i_size h_kinds h_lefts h_rights h_free i_freeCount h_isReached h_reached u.1, ar_ h_isReached c_isReached n_isReached u.2.1, ar_ h_reached c_reached n_reached u.2.2] t.heap ∧ va_K (dC, dI) vwCl [(c_isReached, .boolean), (c_reached, .int)] t ∧ va_D (va_A [ob_Memory h_this i_size h_kinds h_lefts h_rights h_free i_freeCount h_isReached h_reached i_reachedCount, ar_ h_isReached c_isReached n_isReached f_isReached, ar_ h_reached c_reached n_reached f_reached] sz) [ob_Memory h_this i_size h_kinds h_lefts h_rights h_free i_freeCount h_isReached h_reached u.1, ar_ h_isReached c_isReached n_isReached u.2.1, ar_ h_reached c_reached n_reached u.2.2]) (va_A [ob_Memory h_this i_size h_kinds h_lefts h_rights h_free i_freeCount h_isReached h_reached i_reachedCount, ar_ h_isReached c_isReached n_isReached f_isReached, ar_ h_reached c_reached n_reached f_reached] sz)) 0 0 (va_A [ob_Memory h_this i_size h_kinds h_lefts h_rights h_free i_freeCount h_isReached h_reached i_reachedCount, ar_ h_isReached c_isReached n_isReached f_isReached, ar_ h_reached c_reached n_reached f_reached] sz) := by
  refine Met.ofW (cc := b_Memory_beginReach) (maxL := 2) (ret := none) (by decide) rfl ?_
  intro p e s m args below meth c s₁ B hml hv
  obtain ⟨rfl, hsz, hP, hK, hD0, hG⟩ := hv
  have hx := B.exec
  have hb := B.bytes
  have hr := B.returns
  have hts : ∀ w ∈ tb, w.before _ s = true := fun w h => atoms_spec (ws := ws_ _ _ _ _) B.pre w (List.mem_cons_of_mem _ h)
  have hown : s.vm.findClass R_Memory = some m.cls := findClass_of_methodNamed B.named
  have hlocks := B.notSynchronized
  subst hsz
  have hD := hD0.self (sz := s.heap.size)
  generalize hAe : va_A [ob_Memory h_this i_size h_kinds h_lefts h_rights h_free i_freeCount h_isReached h_reached i_reachedCount, ar_ h_isReached c_isReached n_isReached f_isReached, ar_ h_reached c_reached n_reached f_reached] s.heap.size = A at hD hG ⊢
  have hA : ∀ q : Nat, s.heap.size ≤ q → A q := fun q h => by rw [← hAe]; exact Or.inr h
  have hS : va_S A s.heap s.heap [] := va_S.rf
  have hP : va_P (dC, dI) vwCl [ob_Memory h_this i_size h_kinds h_lefts h_rights h_free i_freeCount h_isReached h_reached i_reachedCount, ar_ h_isReached c_isReached n_isReached f_isReached, ar_ h_reached c_reached n_reached f_reached] s.heap := hP
  have hl := lv_entry [.ref h_this] (n := 2) (Nat.le_of_ble_eq_true rfl)
  rw [lg_entry_eq]
  generalize (lg_sl [.ref h_this] ++ List.replicate (2 - (lg_sl [.ref h_this]).length) Slot.unset).toArray = ls at hl ⊢
  have hl : lv_has ls 2 [(0, .ref h_this)] := hl
  obtain ⟨Q, hQ⟩ : ∃ Q : State → Prop, Q = MQ below (va_Qv (fun (u : Int32 × (Nat → Int32) × (Nat → Int32)) => post u.1 u.2.1 u.2.2) (fun (u : Int32 × (Nat → Int32) × (Nat → Int32)) (t : State) => va_P (dC, dI) vwCl [ob_Memory h_this i_size h_kinds h_lefts h_rights h_free i_freeCount h_isReached h_reached u.1, ar_ h_isReached c_isReached n_isReached u.2.1, ar_ h_reached c_reached n_reached u.2.2] t.heap ∧ va_K (dC, dI) vwCl [(c_isReached, .boolean), (c_reached, .int)] t ∧ va_D A [ob_Memory h_this i_size h_kinds h_lefts h_rights h_free i_freeCount h_isReached h_reached u.1, ar_ h_isReached c_isReached n_isReached u.2.1, ar_ h_reached c_reached n_reached u.2.2]) A) ([.ref h_this] : List Value).toArray s 0 0 A := ⟨_, rfl⟩
  rw [← hQ]
  unfold wp_Memory_beginReach at hw
  refine lv_iconst (v := 0) hx hb d_Memory_beginReach_0 (by decide) ?_
  refine lv_istore_n (lv' := [(1, .int (0 : Int32)), (0, .ref h_this)]) hx hb d_Memory_beginReach_1 rfl hl (by decide) rfl (fun ls hl => ?_)
  have L2 : ∀ (K23 : Int32 → (Nat → Int32) → (Nat → Int32) → Prop), (∀ (i_reachedCount : Int32) (f_isReached : Nat → Int32) (f_reached : Nat → Int32) (H : Heap) (locs : List Loc) (ls : Array Slot), lv_has ls 2 [(0, .ref h_this)] → va_P (dC, dI) vwCl [ob_Memory h_this i_size h_kinds h_lefts h_rights h_free i_freeCount h_isReached h_reached i_reachedCount, ar_ h_isReached c_isReached n_isReached f_isReached, ar_ h_reached c_reached n_reached f_reached] H → va_D A [ob_Memory h_this i_size h_kinds h_lefts h_rights h_free i_freeCount h_isReached h_reached i_reachedCount, ar_ h_isReached c_isReached n_isReached f_isReached, ar_ h_reached c_reached n_reached f_reached] → va_S A s.heap H locs → K23 i_reachedCount f_isReached f_reached → W p l e (headSpec (ws_ y_Memory_beginReach b_Memory_beginReach 2 none) { frames := 1, cells := 0, slots := 0, locals := 21 }).room s m ([.ref h_this] : List Value).toArray below meth c H locs 0 0 Q (F0 m 23 ls [])) → ∀ fu2 : Nat, ∀ (v1 : Int32) (i_reachedCount : Int32) (f_isReached : Nat → Int32) (f_reached : Nat → Int32) (H : Heap) (locs : List Loc) (ls : Array Slot), lv_has ls 2 [(0, .ref h_this), (1, .int v1)] → va_P (dC, dI) vwCl [ob_Memory h_this i_size h_kinds h_lefts h_rights h_free i_freeCount h_isReached h_reached i_reachedCount, ar_ h_isReached c_isReached n_isReached f_isReached, ar_ h_reached c_reached n_reached f_reached] H → va_D A [ob_Memory h_this i_size h_kinds h_lefts h_rights h_free i_freeCount h_isReached h_reached i_reachedCount, ar_ h_isReached c_isReached n_isReached f_isReached, ar_ h_reached c_reached n_reached f_reached] → va_S A s.heap H locs → wp_Memory_beginReach_L2 n_isReached n_reached i_size K23 post fu2 v1 i_reachedCount f_isReached f_reached → W p l e (headSpec (ws_ y_Memory_beginReach b_Memory_beginReach 2 none) { frames := 1, cells := 0, slots := 0, locals := 21 }).room s m ([.ref h_this] : List Value).toArray below meth c H locs 0 0 Q (F0 m 2 ls []) := by
    intro K23 hK23 fu2
    induction fu2 with
    | zero => intro v1 i_reachedCount f_isReached f_reached H locs ls hl hP hD hS hw; exact False.elim hw
    | succ fu2 ih2 =>
        intro v1 i_reachedCount f_isReached f_reached H locs ls hl hP hD hS hw
        unfold wp_Memory_beginReach_L2 at hw
        refine lv_iload_n hx hb d_Memory_beginReach_2 rfl (lv_at hl 1 rfl) ?_
        refine lv_aload_n hx hb d_Memory_beginReach_3 rfl (lv_at hl 0 rfl) ?_
        refine va_get (D := (dC, dI)) (ci := 4) (v := .int i_size) (C := R_Memory) (T := T_Memory) (N := 9) hx hb hts in_Memory hown hK hP 0 rfl rfl 0 (by decide) (hts _ kt_186) (fun _ h9 => h9) rfl d_Memory_beginReach_4 ?_
        refine lv_icmp_ge (tgt := 23) hx hb d_Memory_beginReach_7 (by decide) (fun c_1 => ?_) (fun c_1 => ?_)
        · have hw := hw.1 c_1
          exact hK23 i_reachedCount f_isReached f_reached _ _ ls (lv_sub hl [0] rfl) hP hD hS hw
        · have hw := hw.2 c_1
          refine lv_aload_n hx hb d_Memory_beginReach_10 rfl (lv_at hl 0 rfl) ?_
          refine va_get (D := (dC, dI)) (ci := 4) (v := .ref h_isReached) (C := R_Memory) (T := T_Memory) (N := 9) hx hb hts in_Memory hown hK hP 0 rfl rfl 6 (by decide) (hts _ kt_196) (fun _ h9 => h9) rfl d_Memory_beginReach_11 ?_
          refine lv_iload_n hx hb d_Memory_beginReach_14 rfl (lv_at hl 1 rfl) ?_
          refine lv_iconst (v := 0) hx hb d_Memory_beginReach_15 (by decide) ?_
          obtain ⟨h_2, hw⟩ := hw
          refine va_zast hx hb hK hP hD hS 1 0 rfl rfl h_2 d_Memory_beginReach_16 (fun H locs hP hD hS => ?_)
          have hP : va_P (dC, dI) vwCl [ob_Memory h_this i_size h_kinds h_lefts h_rights h_free i_freeCount h_isReached h_reached i_reachedCount, ar_ h_isReached c_isReached n_isReached (upd f_isReached v1.toNatClampNeg (vp_nar .boolean (0 : Int32))), ar_ h_reached c_reached n_reached f_reached] H := hP
          have hD : va_D A [ob_Memory h_this i_size h_kinds h_lefts h_rights h_free i_freeCount h_isReached h_reached i_reachedCount, ar_ h_isReached c_isReached n_isReached (upd f_isReached v1.toNatClampNeg (vp_nar .boolean (0 : Int32))), ar_ h_reached c_reached n_reached f_reached] := hD
          refine lv_iinc (v := v1 + (1 : Int32)) (lv' := [(1, .int (v1 + (1 : Int32))), (0, .ref h_this)]) hx hb d_Memory_beginReach_17 hl (k := 1) rfl rfl (by decide) rfl (fun ls hl => ?_)
          refine lv_goto (tgt := 2) hx hb d_Memory_beginReach_20 (by decide) ?_
          exact ih2 (v1 + (1 : Int32)) i_reachedCount (upd f_isReached v1.toNatClampNeg (vp_nar .boolean (0 : Int32))) f_reached _ _ ls (lv_sub hl [1, 0] rfl) hP hD hS hw
  obtain ⟨fu2, hw⟩ := hw
  refine L2 _ (fun i_reachedCount f_isReached f_reached H locs ls hl hP hD hS hw => ?_) fu2 (0 : Int32) i_reachedCount f_isReached f_reached _ _ ls (lv_sub hl [1, 0] rfl) hP hD hS hw
  try dsimp only at hw
  refine lv_aload_n hx hb d_Memory_beginReach_23 rfl (lv_at hl 0 rfl) ?_
  refine lv_iconst (v := 0) hx hb d_Memory_beginReach_24 (by decide) ?_
  refine va_put (D := (dC, dI)) (ci := 4) (v := .int (0 : Int32)) (ty := .int) (C := R_Memory) (T := T_Memory) (N := 9) hx hb hts in_Memory t_Memory t_Memory_ok nm_Memory hown hK hP hD hS 0 rfl rfl 8 (by decide) (hts _ kt_198) (fun _ h9 => h9) rfl (by decide +kernel) rfl rfl (Nat.le_of_ble_eq_true rfl) d_Memory_beginReach_25 (fun H locs hP hD hS => ?_)
  have hP : va_P (dC, dI) vwCl [ob_Memory h_this i_size h_kinds h_lefts h_rights h_free i_freeCount h_isReached h_reached (0 : Int32), ar_ h_isReached c_isReached n_isReached f_isReached, ar_ h_reached c_reached n_reached f_reached] H := hP
  have hD : va_D A [ob_Memory h_this i_size h_kinds h_lefts h_rights h_free i_freeCount h_isReached h_reached (0 : Int32), ar_ h_isReached c_isReached n_isReached f_isReached, ar_ h_reached c_reached n_reached f_reached] := hD
  refine lv_iconst (v := 0) hx hb d_Memory_beginReach_28 (by decide) ?_
  refine lv_istore_n (lv' := [(1, .int (0 : Int32)), (0, .ref h_this)]) hx hb d_Memory_beginReach_29 rfl hl (by decide) rfl (fun ls hl => ?_)
  have L30 : ∀ fu30 : Nat, ∀ (v1 : Int32) (i_reachedCount : Int32) (f_isReached : Nat → Int32) (f_reached : Nat → Int32) (H : Heap) (locs : List Loc) (ls : Array Slot), lv_has ls 2 [(0, .ref h_this), (1, .int v1)] → va_P (dC, dI) vwCl [ob_Memory h_this i_size h_kinds h_lefts h_rights h_free i_freeCount h_isReached h_reached i_reachedCount, ar_ h_isReached c_isReached n_isReached f_isReached, ar_ h_reached c_reached n_reached f_reached] H → va_D A [ob_Memory h_this i_size h_kinds h_lefts h_rights h_free i_freeCount h_isReached h_reached i_reachedCount, ar_ h_isReached c_isReached n_isReached f_isReached, ar_ h_reached c_reached n_reached f_reached] → va_S A s.heap H locs → wp_Memory_beginReach_L30 n_isReached n_reached i_size post fu30 v1 i_reachedCount f_isReached f_reached → W p l e (headSpec (ws_ y_Memory_beginReach b_Memory_beginReach 2 none) { frames := 1, cells := 0, slots := 0, locals := 21 }).room s m ([.ref h_this] : List Value).toArray below meth c H locs 0 0 Q (F0 m 30 ls []) := by
    intro fu30
    induction fu30 with
    | zero => intro v1 i_reachedCount f_isReached f_reached H locs ls hl hP hD hS hw; exact False.elim hw
    | succ fu30 ih30 =>
        intro v1 i_reachedCount f_isReached f_reached H locs ls hl hP hD hS hw
        unfold wp_Memory_beginReach_L30 at hw
        refine lv_iload_n hx hb d_Memory_beginReach_30 rfl (lv_at hl 1 rfl) ?_
        refine lv_iconst (v := 3) hx hb d_Memory_beginReach_31 (by decide) ?_
        refine lv_icmp_ge (tgt := 46) hx hb d_Memory_beginReach_32 (by decide) (fun c_3 => ?_) (fun c_3 => ?_)
        · have hw := hw.1 c_3
          have hP9 : va_P (dC, dI) vwCl [ob_Memory h_this i_size h_kinds h_lefts h_rights h_free i_freeCount h_isReached h_reached i_reachedCount, ar_ h_isReached c_isReached n_isReached f_isReached, ar_ h_reached c_reached n_reached f_reached] _ := hP
          have hD9 : va_D A [ob_Memory h_this i_size h_kinds h_lefts h_rights h_free i_freeCount h_isReached h_reached i_reachedCount, ar_ h_isReached c_isReached n_isReached f_isReached, ar_ h_reached c_reached n_reached f_reached] := hD
          rw [hQ]
          exact W.vret hx hb hr (fun t ht hW => ⟨⟨(i_reachedCount, f_isReached, f_reached), rfl, hw, by rw [ht]; exact hP9, va_K.moved hW.alike hK, hD9⟩, hS.F ht⟩) hS.2.2 d_Memory_beginReach_46
        · have hw := hw.2 c_3
          refine lv_aload_n hx hb d_Memory_beginReach_35 rfl (lv_at hl 0 rfl) ?_
          refine lv_iload_n hx hb d_Memory_beginReach_36 rfl (lv_at hl 1 rfl) ?_
          have hPc := hP.sub (ws' := [ob_Memory h_this i_size h_kinds h_lefts h_rights h_free i_freeCount h_isReached h_reached i_reachedCount, ar_ h_isReached c_isReached n_isReached f_isReached, ar_ h_reached c_reached n_reached f_reached]) [0, 1, 2] rfl
          have hDc := hD.sub (ws' := [ob_Memory h_this i_size h_kinds h_lefts h_rights h_free i_freeCount h_isReached h_reached i_reachedCount, ar_ h_isReached c_isReached n_isReached f_isReached, ar_ h_reached c_reached n_reached f_reached]) [0, 1, 2] (by decide) rfl
          have hKc := hK.sub (tys' := [(c_isReached, .boolean), (c_reached, .int)]) [0, 1] rfl
          have hFc := va_free (wc := [ob_Memory h_this i_size h_kinds h_lefts h_rights h_free i_freeCount h_isReached h_reached i_reachedCount, ar_ h_isReached c_isReached n_isReached f_isReached, ar_ h_reached c_reached n_reached f_reached]) hD hS hA [0, 1, 2] rfl
          refine va_callv (va_runV (As := [.int v1]) (rest := []) ⟨hx, hb, hml, hown, hts⟩ (c_Memory_reach l dC dI h_this h_isReached h_reached h_kinds h_lefts h_rights h_free c_isReached c_reached H.size n_isReached n_reached i_size i_freeCount i_reachedCount f_isReached f_reached v1 _ hw) (cwV 1 hts (gd_V kt_569 kt_570 kt_571 kt_12 kt_572) rfl rfl rfl (by decide +kernel) ⟨Nat.le_of_ble_eq_true rfl, Nat.le_of_ble_eq_true rfl⟩) ⟨pre_blind, va_recv hKc hPc (ci := 4) (q0 := 0) rfl rfl, pre_ok hPc hKc hDc hG hS hFc⟩ rfl rfl hl.1 rfl (lv_room (Nat.le_of_ble_eq_true rfl)) d_Memory_beginReach_37 ⟨Nat.zero_le _, Nat.zero_le _⟩) hS (fun q _ h => hFc q h) hFc (fun u t H1 locs ht hvm hw hB hz1 hk1 hS => ?_)
          obtain ⟨i_reachedCount_4, f_isReached_5, f_reached_6⟩ := u
          obtain ⟨hP1, hK1, hD1⟩ := hB
          rw [ht] at hP1
          try dsimp only at hw
          obtain ⟨hP, hD⟩ := va_join (wr := []) (w1 := [ob_Memory h_this i_size h_kinds h_lefts h_rights h_free i_freeCount h_isReached h_reached i_reachedCount_4, ar_ h_isReached c_isReached n_isReached f_isReached_5, ar_ h_reached c_reached n_reached f_reached_6]) hP hD [0, 1, 2] [] rfl rfl (by decide) (by decide) hk1 hFc hP1 hD1
          generalize H1 = H at hP hS ⊢
          have hP : va_P (dC, dI) vwCl [ob_Memory h_this i_size h_kinds h_lefts h_rights h_free i_freeCount h_isReached h_reached i_reachedCount_4, ar_ h_isReached c_isReached n_isReached f_isReached_5, ar_ h_reached c_reached n_reached f_reached_6] H := hP
          have hD : va_D A [ob_Memory h_this i_size h_kinds h_lefts h_rights h_free i_freeCount h_isReached h_reached i_reachedCount_4, ar_ h_isReached c_isReached n_isReached f_isReached_5, ar_ h_reached c_reached n_reached f_reached_6] := hD
          refine lv_iinc (v := v1 + (1 : Int32)) (lv' := [(1, .int (v1 + (1 : Int32))), (0, .ref h_this)]) hx hb d_Memory_beginReach_40 hl (k := 1) rfl rfl (by decide) rfl (fun ls hl => ?_)
          refine lv_goto (tgt := 30) hx hb d_Memory_beginReach_43 (by decide) ?_
          exact ih30 (v1 + (1 : Int32)) i_reachedCount_4 f_isReached_5 f_reached_6 _ _ ls (lv_sub hl [1, 0] rfl) hP hD hS hw
  obtain ⟨fu30, hw⟩ := hw
  exact L30   fu30 (0 : Int32) (0 : Int32) f_isReached f_reached _ _ ls (lv_sub hl [1, 0] rfl) hP hD hS hw

set_option maxHeartbeats 4000000 in
set_option maxRecDepth 100000 in
theorem c_Memory_freeUnreached (l : Launch) (dC : Nat → ClassId) (dI : Nat → Nat → Nat) (h_this : Nat) (h_free : Nat) (h_isReached : Nat) (h_kinds : Nat) (h_lefts : Nat) (h_rights : Nat) (h_reached : Nat) (c_free : ClassId) (c_isReached : ClassId) (sz : Nat) (n_free : Nat) (n_isReached : Nat) (i_size : Int32) (i_freeCount : Int32) (i_reachedCount : Int32) (f_free : Nat → Int32) (f_isReached : Nat → Int32)  (post : Int32 → (Nat → Int32) → Prop) (hw : wp_Memory_freeUnreached n_free n_isReached i_size i_freeCount f_free f_isReached  post) : Met l y_Memory_freeUnreached (ws_ y_Memory_freeUnreached b_Memory_freeUnreached 2 none) { frames := 0, cells := 0, slots := 0, locals := 0 } (va_Pc [.ref h_this] (PRE (dC, dI) vwCl [(c_free, .int), (c_isReached, .boolean)] [ob_Memory h_this i_size h_kinds h_lefts h_rights h_free i_freeCount h_isReached h_reached i_reachedCount, ar_ h_free c_free n_free f_free, ar_ h_isReached c_isReached n_isReached f_isReached] sz (va_A [ob_Memory h_this i_size h_kinds h_lefts h_rights h_free i_freeCount h_isReached h_reached i_reachedCount, ar_ h_free c_free n_free f_free, ar_ h_isReached c_isReached n_isReached f_isReached] sz))) (va_Qv (fun (u : Int32 × (Nat → Int32)) => post u.1 u.2) (fun (u : Int32 × (Nat → Int32)) (t : State) => va_P (dC, dI) vwCl [ob_Memory h_this i_size h_kinds h_lefts h_rights h_free u.1 h_isReached h_reached i_reachedCount, ar_ h_free c_free n_free u.2, ar_ h_isReached c_isReached n_isReached f_isReached] t.heap ∧ va_K (dC, dI) vwCl [(c_free, .int), (c_isReached, .boolean)] t ∧ va_D (va_A [ob_Memory h_this i_size h_kinds h_lefts h_rights h_free i_freeCount h_isReached h_reached i_reachedCount, ar_ h_free c_free n_free f_free, ar_ h_isReached c_isReached n_isReached f_isReached] sz) [ob_Memory h_this i_size h_kinds h_lefts h_rights h_free u.1 h_isReached h_reached i_reachedCount, ar_ h_free c_free n_free u.2, ar_ h_isReached c_isReached n_isReached f_isReached]) (va_A [ob_Memory h_this i_size h_kinds h_lefts h_rights h_free i_freeCount h_isReached h_reached i_reachedCount, ar_ h_free c_free n_free f_free, ar_ h_isReached c_isReached n_isReached f_isReached] sz)) 0 0 (va_A [ob_Memory h_this i_size h_kinds h_lefts h_rights h_free i_freeCount h_isReached h_reached i_reachedCount, ar_ h_free c_free n_free f_free, ar_ h_isReached c_isReached n_isReached f_isReached] sz) := by
  refine Met.ofW (cc := b_Memory_freeUnreached) (maxL := 2) (ret := none) (by decide) rfl ?_
  intro p e s m args below meth c s₁ B hml hv
  obtain ⟨rfl, hsz, hP, hK, hD0, hG⟩ := hv
  have hx := B.exec
  have hb := B.bytes
  have hr := B.returns
  have hts : ∀ w ∈ tb, w.before _ s = true := fun w h => atoms_spec (ws := ws_ _ _ _ _) B.pre w (List.mem_cons_of_mem _ h)
  have hown : s.vm.findClass R_Memory = some m.cls := findClass_of_methodNamed B.named
  have hlocks := B.notSynchronized
  subst hsz
  have hD := hD0.self (sz := s.heap.size)
  generalize hAe : va_A [ob_Memory h_this i_size h_kinds h_lefts h_rights h_free i_freeCount h_isReached h_reached i_reachedCount, ar_ h_free c_free n_free f_free, ar_ h_isReached c_isReached n_isReached f_isReached] s.heap.size = A at hD hG ⊢
  have hA : ∀ q : Nat, s.heap.size ≤ q → A q := fun q h => by rw [← hAe]; exact Or.inr h
  have hS : va_S A s.heap s.heap [] := va_S.rf
  have hP : va_P (dC, dI) vwCl [ob_Memory h_this i_size h_kinds h_lefts h_rights h_free i_freeCount h_isReached h_reached i_reachedCount, ar_ h_free c_free n_free f_free, ar_ h_isReached c_isReached n_isReached f_isReached] s.heap := hP
  have hl := lv_entry [.ref h_this] (n := 2) (Nat.le_of_ble_eq_true rfl)
  rw [lg_entry_eq]
  generalize (lg_sl [.ref h_this] ++ List.replicate (2 - (lg_sl [.ref h_this]).length) Slot.unset).toArray = ls at hl ⊢
  have hl : lv_has ls 2 [(0, .ref h_this)] := hl
  obtain ⟨Q, hQ⟩ : ∃ Q : State → Prop, Q = MQ below (va_Qv (fun (u : Int32 × (Nat → Int32)) => post u.1 u.2) (fun (u : Int32 × (Nat → Int32)) (t : State) => va_P (dC, dI) vwCl [ob_Memory h_this i_size h_kinds h_lefts h_rights h_free u.1 h_isReached h_reached i_reachedCount, ar_ h_free c_free n_free u.2, ar_ h_isReached c_isReached n_isReached f_isReached] t.heap ∧ va_K (dC, dI) vwCl [(c_free, .int), (c_isReached, .boolean)] t ∧ va_D A [ob_Memory h_this i_size h_kinds h_lefts h_rights h_free u.1 h_isReached h_reached i_reachedCount, ar_ h_free c_free n_free u.2, ar_ h_isReached c_isReached n_isReached f_isReached]) A) ([.ref h_this] : List Value).toArray s 0 0 A := ⟨_, rfl⟩
  rw [← hQ]
  unfold wp_Memory_freeUnreached at hw
  refine lv_aload_n hx hb d_Memory_freeUnreached_0 rfl (lv_at hl 0 rfl) ?_
  refine lv_iconst (v := 0) hx hb d_Memory_freeUnreached_1 (by decide) ?_
  refine va_put (D := (dC, dI)) (ci := 4) (v := .int (0 : Int32)) (ty := .int) (C := R_Memory) (T := T_Memory) (N := 9) hx hb hts in_Memory t_Memory t_Memory_ok nm_Memory hown hK hP hD hS 0 rfl rfl 5 (by decide) (hts _ kt_193) (fun _ h9 => h9) rfl (by decide +kernel) rfl rfl (Nat.le_of_ble_eq_true rfl) d_Memory_freeUnreached_2 (fun H locs hP hD hS => ?_)
  have hP : va_P (dC, dI) vwCl [ob_Memory h_this i_size h_kinds h_lefts h_rights h_free (0 : Int32) h_isReached h_reached i_reachedCount, ar_ h_free c_free n_free f_free, ar_ h_isReached c_isReached n_isReached f_isReached] H := hP
  have hD : va_D A [ob_Memory h_this i_size h_kinds h_lefts h_rights h_free (0 : Int32) h_isReached h_reached i_reachedCount, ar_ h_free c_free n_free f_free, ar_ h_isReached c_isReached n_isReached f_isReached] := hD
  refine lv_aload_n hx hb d_Memory_freeUnreached_5 rfl (lv_at hl 0 rfl) ?_
  refine va_get (D := (dC, dI)) (ci := 4) (v := .int i_size) (C := R_Memory) (T := T_Memory) (N := 9) hx hb hts in_Memory hown hK hP 0 rfl rfl 0 (by decide) (hts _ kt_186) (fun _ h9 => h9) rfl d_Memory_freeUnreached_6 ?_
  refine lv_iconst (v := 1) hx hb d_Memory_freeUnreached_9 (by decide) ?_
  refine lv_isub hx hb d_Memory_freeUnreached_10 ?_
  refine lv_istore_n (lv' := [(1, .int (i_size - (1 : Int32))), (0, .ref h_this)]) hx hb d_Memory_freeUnreached_11 rfl hl (by decide) rfl (fun ls hl => ?_)
  have L12 : ∀ fu12 : Nat, ∀ (v1 : Int32) (i_freeCount : Int32) (f_free : Nat → Int32) (H : Heap) (locs : List Loc) (ls : Array Slot), lv_has ls 2 [(0, .ref h_this), (1, .int v1)] → va_P (dC, dI) vwCl [ob_Memory h_this i_size h_kinds h_lefts h_rights h_free i_freeCount h_isReached h_reached i_reachedCount, ar_ h_free c_free n_free f_free, ar_ h_isReached c_isReached n_isReached f_isReached] H → va_D A [ob_Memory h_this i_size h_kinds h_lefts h_rights h_free i_freeCount h_isReached h_reached i_reachedCount, ar_ h_free c_free n_free f_free, ar_ h_isReached c_isReached n_isReached f_isReached] → va_S A s.heap H locs → wp_Memory_freeUnreached_L12 n_free n_isReached i_size f_isReached post fu12 v1 i_freeCount f_free → W p l e (headSpec (ws_ y_Memory_freeUnreached b_Memory_freeUnreached 2 none) { frames := 0, cells := 0, slots := 0, locals := 0 }).room s m ([.ref h_this] : List Value).toArray below meth c H locs 0 0 Q (F0 m 12 ls []) := by
    intro fu12
    induction fu12 with
    | zero => intro v1 i_freeCount f_free H locs ls hl hP hD hS hw; exact False.elim hw
    | succ fu12 ih12 =>
        intro v1 i_freeCount f_free H locs ls hl hP hD hS hw
        unfold wp_Memory_freeUnreached_L12 at hw
        have J45 : ∀ (v1 : Int32) (i_freeCount : Int32) (f_free : Nat → Int32) (H : Heap) (locs : List Loc) (ls : Array Slot), lv_has ls 2 [(0, .ref h_this), (1, .int v1)] → va_P (dC, dI) vwCl [ob_Memory h_this i_size h_kinds h_lefts h_rights h_free i_freeCount h_isReached h_reached i_reachedCount, ar_ h_free c_free n_free f_free, ar_ h_isReached c_isReached n_isReached f_isReached] H → va_D A [ob_Memory h_this i_size h_kinds h_lefts h_rights h_free i_freeCount h_isReached h_reached i_reachedCount, ar_ h_free c_free n_free f_free, ar_ h_isReached c_isReached n_isReached f_isReached] → va_S A s.heap H locs → wp_Memory_freeUnreached_J45 n_free n_isReached i_size f_isReached (wp_Memory_freeUnreached_L12 n_free n_isReached i_size f_isReached post fu12) post v1 i_freeCount f_free → W p l e (headSpec (ws_ y_Memory_freeUnreached b_Memory_freeUnreached 2 none) { frames := 0, cells := 0, slots := 0, locals := 0 }).room s m ([.ref h_this] : List Value).toArray below meth c H locs 0 0 Q (F0 m 45 ls []) := by
          intro v1 i_freeCount f_free H locs ls hl hP hD hS hw
          unfold wp_Memory_freeUnreached_J45 at hw
          refine lv_iinc (v := v1 + (-1 : Int32)) (lv' := [(1, .int (v1 + (-1 : Int32))), (0, .ref h_this)]) hx hb d_Memory_freeUnreached_45 hl (k := 1) rfl rfl (by decide) rfl (fun ls hl => ?_)
          refine lv_goto (tgt := 12) hx hb d_Memory_freeUnreached_48 (by decide) ?_
          exact ih12 (v1 + (-1 : Int32)) i_freeCount f_free _ _ ls (lv_sub hl [1, 0] rfl) hP hD hS hw
        refine lv_iload_n hx hb d_Memory_freeUnreached_12 rfl (lv_at hl 1 rfl) ?_
        refine lv_if_lt (tgt := 51) hx hb d_Memory_freeUnreached_13 (by decide) (fun c_1 => ?_) (fun c_1 => ?_)
        · have hw := hw.1 c_1
          have hP9 : va_P (dC, dI) vwCl [ob_Memory h_this i_size h_kinds h_lefts h_rights h_free i_freeCount h_isReached h_reached i_reachedCount, ar_ h_free c_free n_free f_free, ar_ h_isReached c_isReached n_isReached f_isReached] _ := hP
          have hD9 : va_D A [ob_Memory h_this i_size h_kinds h_lefts h_rights h_free i_freeCount h_isReached h_reached i_reachedCount, ar_ h_free c_free n_free f_free, ar_ h_isReached c_isReached n_isReached f_isReached] := hD
          rw [hQ]
          exact W.vret hx hb hr (fun t ht hW => ⟨⟨(i_freeCount, f_free), rfl, hw, by rw [ht]; exact hP9, va_K.moved hW.alike hK, hD9⟩, hS.F ht⟩) hS.2.2 d_Memory_freeUnreached_51
        · have hw := hw.2 c_1
          refine lv_aload_n hx hb d_Memory_freeUnreached_16 rfl (lv_at hl 0 rfl) ?_
          refine va_get (D := (dC, dI)) (ci := 4) (v := .ref h_isReached) (C := R_Memory) (T := T_Memory) (N := 9) hx hb hts in_Memory hown hK hP 0 rfl rfl 6 (by decide) (hts _ kt_196) (fun _ h9 => h9) rfl d_Memory_freeUnreached_17 ?_
          refine lv_iload_n hx hb d_Memory_freeUnreached_20 rfl (lv_at hl 1 rfl) ?_
          obtain ⟨h_2, hw⟩ := hw
          refine va_zald hx hb hK hP 2 1 rfl rfl h_2 d_Memory_freeUnreached_21 ?_
          refine lv_if_ne (tgt := 45) hx hb d_Memory_freeUnreached_22 (by decide) (fun c_3 => ?_) (fun c_3 => ?_)
          · have hw := hw.2 c_3
            exact J45 v1 i_freeCount f_free _ _ ls (lv_sub hl [0, 1] rfl) hP hD hS hw
          · have hw := hw.1 c_3
            refine lv_aload_n hx hb d_Memory_freeUnreached_25 rfl (lv_at hl 0 rfl) ?_
            refine va_get (D := (dC, dI)) (ci := 4) (v := .ref h_free) (C := R_Memory) (T := T_Memory) (N := 9) hx hb hts in_Memory hown hK hP 0 rfl rfl 4 (by decide) (hts _ kt_192) (fun _ h9 => h9) rfl d_Memory_freeUnreached_26 ?_
            refine lv_aload_n hx hb d_Memory_freeUnreached_29 rfl (lv_at hl 0 rfl) ?_
            refine va_get (D := (dC, dI)) (ci := 4) (v := .int i_freeCount) (C := R_Memory) (T := T_Memory) (N := 9) hx hb hts in_Memory hown hK hP 0 rfl rfl 5 (by decide) (hts _ kt_193) (fun _ h9 => h9) rfl d_Memory_freeUnreached_30 ?_
            refine lv_iload_n hx hb d_Memory_freeUnreached_33 rfl (lv_at hl 1 rfl) ?_
            obtain ⟨h_4, hw⟩ := hw
            refine va_iast hx hb hK hP hD hS 1 0 rfl rfl h_4 d_Memory_freeUnreached_34 (fun H locs hP hD hS => ?_)
            have hP : va_P (dC, dI) vwCl [ob_Memory h_this i_size h_kinds h_lefts h_rights h_free i_freeCount h_isReached h_reached i_reachedCount, ar_ h_free c_free n_free (upd f_free i_freeCount.toNatClampNeg v1), ar_ h_isReached c_isReached n_isReached f_isReached] H := hP
            have hD : va_D A [ob_Memory h_this i_size h_kinds h_lefts h_rights h_free i_freeCount h_isReached h_reached i_reachedCount, ar_ h_free c_free n_free (upd f_free i_freeCount.toNatClampNeg v1), ar_ h_isReached c_isReached n_isReached f_isReached] := hD
            refine lv_aload_n hx hb d_Memory_freeUnreached_35 rfl (lv_at hl 0 rfl) ?_
            refine lv_dup hx hb d_Memory_freeUnreached_36 rfl ?_
            refine va_get (D := (dC, dI)) (ci := 4) (v := .int i_freeCount) (C := R_Memory) (T := T_Memory) (N := 9) hx hb hts in_Memory hown hK hP 0 rfl rfl 5 (by decide) (hts _ kt_193) (fun _ h9 => h9) rfl d_Memory_freeUnreached_37 ?_
            refine lv_iconst (v := 1) hx hb d_Memory_freeUnreached_40 (by decide) ?_
            refine lv_iadd hx hb d_Memory_freeUnreached_41 ?_
            refine va_put (D := (dC, dI)) (ci := 4) (v := .int (i_freeCount + (1 : Int32))) (ty := .int) (C := R_Memory) (T := T_Memory) (N := 9) hx hb hts in_Memory t_Memory t_Memory_ok nm_Memory hown hK hP hD hS 0 rfl rfl 5 (by decide) (hts _ kt_193) (fun _ h9 => h9) rfl (by decide +kernel) rfl rfl (Nat.le_of_ble_eq_true rfl) d_Memory_freeUnreached_42 (fun H locs hP hD hS => ?_)
            have hP : va_P (dC, dI) vwCl [ob_Memory h_this i_size h_kinds h_lefts h_rights h_free (i_freeCount + (1 : Int32)) h_isReached h_reached i_reachedCount, ar_ h_free c_free n_free (upd f_free i_freeCount.toNatClampNeg v1), ar_ h_isReached c_isReached n_isReached f_isReached] H := hP
            have hD : va_D A [ob_Memory h_this i_size h_kinds h_lefts h_rights h_free (i_freeCount + (1 : Int32)) h_isReached h_reached i_reachedCount, ar_ h_free c_free n_free (upd f_free i_freeCount.toNatClampNeg v1), ar_ h_isReached c_isReached n_isReached f_isReached] := hD
            exact J45 v1 (i_freeCount + (1 : Int32)) (upd f_free i_freeCount.toNatClampNeg v1) _ _ ls (lv_sub hl [0, 1] rfl) hP hD hS hw
  obtain ⟨fu12, hw⟩ := hw
  exact L12   fu12 (i_size - (1 : Int32)) (0 : Int32) f_free _ _ ls (lv_sub hl [1, 0] rfl) hP hD hS hw

set_option maxHeartbeats 4000000 in
set_option maxRecDepth 100000 in
theorem c_Memory_clear (l : Launch) (dC : Nat → ClassId) (dI : Nat → Nat → Nat) (h_this : Nat) (h_free : Nat) (h_isReached : Nat) (h_kinds : Nat) (h_lefts : Nat) (h_reached : Nat) (h_rights : Nat) (c_free : ClassId) (c_isReached : ClassId) (c_kinds : ClassId) (c_lefts : ClassId) (c_reached : ClassId) (sz : Nat) (n_free : Nat) (n_isReached : Nat) (n_kinds : Nat) (n_lefts : Nat) (n_reached : Nat) (i_size : Int32) (i_freeCount : Int32) (i_reachedCount : Int32) (f_free : Nat → Int32) (f_isReached : Nat → Int32) (f_kinds : Nat → Int32) (f_lefts : Nat → Int32) (f_reached : Nat → Int32)  (post : Int32 → Int32 → (Nat → Int32) → (Nat → Int32) → (Nat → Int32) → (Nat → Int32) → (Nat → Int32) → Prop) (hw : wp_Memory_clear n_free n_isReached n_kinds n_lefts n_reached i_size i_freeCount i_reachedCount f_free f_isReached f_kinds f_lefts f_reached  post) : Met l y_Memory_clear (ws_ y_Memory_clear b_Memory_clear 1 none) { frames := 2, cells := 0, slots := 0, locals := 42 } (va_Pc [.ref h_this] (PRE (dC, dI) vwCl [(c_free, .int), (c_isReached, .boolean), (c_kinds, .int), (c_lefts, .int), (c_reached, .int)] [ob_Memory h_this i_size h_kinds h_lefts h_rights h_free i_freeCount h_isReached h_reached i_reachedCount, ar_ h_free c_free n_free f_free, ar_ h_isReached c_isReached n_isReached f_isReached, ar_ h_kinds c_kinds n_kinds f_kinds, ar_ h_lefts c_lefts n_lefts f_lefts, ar_ h_reached c_reached n_reached f_reached] sz (va_A [ob_Memory h_this i_size h_kinds h_lefts h_rights h_free i_freeCount h_isReached h_reached i_reachedCount, ar_ h_free c_free n_free f_free, ar_ h_isReached c_isReached n_isReached f_isReached, ar_ h_kinds c_kinds n_kinds f_kinds, ar_ h_lefts c_lefts n_lefts f_lefts, ar_ h_reached c_reached n_reached f_reached] sz))) (va_Qv (fun (u : Int32 × Int32 × (Nat → Int32) × (Nat → Int32) × (Nat → Int32) × (Nat → Int32) × (Nat → Int32)) => post u.1 u.2.1 u.2.2.1 u.2.2.2.1 u.2.2.2.2.1 u.2.2.2.2.2.1 u.2.2.2.2.2.2) (fun (u : Int32 × Int32 × (Nat → Int32) × (Nat → Int32) × (Nat → Int32) × (Nat → Int32) × (Nat → Int32)) (t : State) => va_P (dC, dI) vwCl [ob_Memory h_this i_size h_kinds h_lefts h_rights h_free u.1 h_isReached h_reached u.2.1, ar_ h_free c_free n_free u.2.2.1, ar_ h_isReached c_isReached n_isReached u.2.2.2.1, ar_ h_kinds c_kinds n_kinds u.2.2.2.2.1, ar_ h_lefts c_lefts n_lefts u.2.2.2.2.2.1, ar_ h_reached c_reached n_reached u.2.2.2.2.2.2] t.heap ∧ va_K (dC, dI) vwCl [(c_free, .int), (c_isReached, .boolean), (c_kinds, .int), (c_lefts, .int), (c_reached, .int)] t ∧ va_D (va_A [ob_Memory h_this i_size h_kinds h_lefts h_rights h_free i_freeCount h_isReached h_reached i_reachedCount, ar_ h_free c_free n_free f_free, ar_ h_isReached c_isReached n_isReached f_isReached, ar_ h_kinds c_kinds n_kinds f_kinds, ar_ h_lefts c_lefts n_lefts f_lefts, ar_ h_reached c_reached n_reached f_reached] sz) [ob_Memory h_this i_size h_kinds h_lefts h_rights h_free u.1 h_isReached h_reached u.2.1, ar_ h_free c_free n_free u.2.2.1, ar_ h_isReached c_isReached n_isReached u.2.2.2.1, ar_ h_kinds c_kinds n_kinds u.2.2.2.2.1, ar_ h_lefts c_lefts n_lefts u.2.2.2.2.2.1, ar_ h_reached c_reached n_reached u.2.2.2.2.2.2]) (va_A [ob_Memory h_this i_size h_kinds h_lefts h_rights h_free i_freeCount h_isReached h_reached i_reachedCount, ar_ h_free c_free n_free f_free, ar_ h_isReached c_isReached n_isReached f_isReached, ar_ h_kinds c_kinds n_kinds f_kinds, ar_ h_lefts c_lefts n_lefts f_lefts, ar_ h_reached c_reached n_reached f_reached] sz)) 0 0 (va_A [ob_Memory h_this i_size h_kinds h_lefts h_rights h_free i_freeCount h_isReached h_reached i_reachedCount, ar_ h_free c_free n_free f_free, ar_ h_isReached c_isReached n_isReached f_isReached, ar_ h_kinds c_kinds n_kinds f_kinds, ar_ h_lefts c_lefts n_lefts f_lefts, ar_ h_reached c_reached n_reached f_reached] sz) := by
  refine Met.ofW (cc := b_Memory_clear) (maxL := 1) (ret := none) (by decide) rfl ?_
  intro p e s m args below meth c s₁ B hml hv
  obtain ⟨rfl, hsz, hP, hK, hD0, hG⟩ := hv
  have hx := B.exec
  have hb := B.bytes
  have hr := B.returns
  have hts : ∀ w ∈ tb, w.before _ s = true := fun w h => atoms_spec (ws := ws_ _ _ _ _) B.pre w (List.mem_cons_of_mem _ h)
  have hown : s.vm.findClass R_Memory = some m.cls := findClass_of_methodNamed B.named
  have hlocks := B.notSynchronized
  subst hsz
  have hD := hD0.self (sz := s.heap.size)
  generalize hAe : va_A [ob_Memory h_this i_size h_kinds h_lefts h_rights h_free i_freeCount h_isReached h_reached i_reachedCount, ar_ h_free c_free n_free f_free, ar_ h_isReached c_isReached n_isReached f_isReached, ar_ h_kinds c_kinds n_kinds f_kinds, ar_ h_lefts c_lefts n_lefts f_lefts, ar_ h_reached c_reached n_reached f_reached] s.heap.size = A at hD hG ⊢
  have hA : ∀ q : Nat, s.heap.size ≤ q → A q := fun q h => by rw [← hAe]; exact Or.inr h
  have hS : va_S A s.heap s.heap [] := va_S.rf
  have hP : va_P (dC, dI) vwCl [ob_Memory h_this i_size h_kinds h_lefts h_rights h_free i_freeCount h_isReached h_reached i_reachedCount, ar_ h_free c_free n_free f_free, ar_ h_isReached c_isReached n_isReached f_isReached, ar_ h_kinds c_kinds n_kinds f_kinds, ar_ h_lefts c_lefts n_lefts f_lefts, ar_ h_reached c_reached n_reached f_reached] s.heap := hP
  have hl := lv_entry [.ref h_this] (n := 1) (Nat.le_of_ble_eq_true rfl)
  rw [lg_entry_eq]
  generalize (lg_sl [.ref h_this] ++ List.replicate (1 - (lg_sl [.ref h_this]).length) Slot.unset).toArray = ls at hl ⊢
  have hl : lv_has ls 1 [(0, .ref h_this)] := hl
  obtain ⟨Q, hQ⟩ : ∃ Q : State → Prop, Q = MQ below (va_Qv (fun (u : Int32 × Int32 × (Nat → Int32) × (Nat → Int32) × (Nat → Int32) × (Nat → Int32) × (Nat → Int32)) => post u.1 u.2.1 u.2.2.1 u.2.2.2.1 u.2.2.2.2.1 u.2.2.2.2.2.1 u.2.2.2.2.2.2) (fun (u : Int32 × Int32 × (Nat → Int32) × (Nat → Int32) × (Nat → Int32) × (Nat → Int32) × (Nat → Int32)) (t : State) => va_P (dC, dI) vwCl [ob_Memory h_this i_size h_kinds h_lefts h_rights h_free u.1 h_isReached h_reached u.2.1, ar_ h_free c_free n_free u.2.2.1, ar_ h_isReached c_isReached n_isReached u.2.2.2.1, ar_ h_kinds c_kinds n_kinds u.2.2.2.2.1, ar_ h_lefts c_lefts n_lefts u.2.2.2.2.2.1, ar_ h_reached c_reached n_reached u.2.2.2.2.2.2] t.heap ∧ va_K (dC, dI) vwCl [(c_free, .int), (c_isReached, .boolean), (c_kinds, .int), (c_lefts, .int), (c_reached, .int)] t ∧ va_D A [ob_Memory h_this i_size h_kinds h_lefts h_rights h_free u.1 h_isReached h_reached u.2.1, ar_ h_free c_free n_free u.2.2.1, ar_ h_isReached c_isReached n_isReached u.2.2.2.1, ar_ h_kinds c_kinds n_kinds u.2.2.2.2.1, ar_ h_lefts c_lefts n_lefts u.2.2.2.2.2.1, ar_ h_reached c_reached n_reached u.2.2.2.2.2.2]) A) ([.ref h_this] : List Value).toArray s 0 0 A := ⟨_, rfl⟩
  rw [← hQ]
  unfold wp_Memory_clear at hw
  refine lv_aload_n hx hb d_Memory_clear_0 rfl (lv_at hl 0 rfl) ?_
  refine lv_iconst (v := 0) hx hb d_Memory_clear_1 (by decide) ?_
  refine lv_sipush (v := 14636) hx hb d_Memory_clear_2 (by decide) ?_
  have hPc := hP.sub (ws' := [ob_Memory h_this i_size h_kinds h_lefts h_rights h_free i_freeCount h_isReached h_reached i_reachedCount, ar_ h_kinds c_kinds n_kinds f_kinds, ar_ h_lefts c_lefts n_lefts f_lefts]) [0, 3, 4] rfl
  have hDc := hD.sub (ws' := [ob_Memory h_this i_size h_kinds h_lefts h_rights h_free i_freeCount h_isReached h_reached i_reachedCount, ar_ h_kinds c_kinds n_kinds f_kinds, ar_ h_lefts c_lefts n_lefts f_lefts]) [0, 3, 4] (by decide) rfl
  have hKc := hK.sub (tys' := [(c_kinds, .int), (c_lefts, .int)]) [2, 3] rfl
  have hFc := va_free (wc := [ob_Memory h_this i_size h_kinds h_lefts h_rights h_free i_freeCount h_isReached h_reached i_reachedCount, ar_ h_kinds c_kinds n_kinds f_kinds, ar_ h_lefts c_lefts n_lefts f_lefts]) hD hS hA [0, 3, 4] rfl
  refine va_callv (va_runV (As := [.int (0 : Int32), .int (14636 : Int32)]) (rest := []) ⟨hx, hb, hml, hown, hts⟩ (c_Memory_setName l dC dI h_this h_kinds h_lefts h_rights h_free h_isReached h_reached c_kinds c_lefts s.heap.size n_kinds n_lefts i_size i_freeCount i_reachedCount f_kinds f_lefts (0 : Int32) (14636 : Int32) _ hw) (cwV 2 hts (gd_V kt_561 kt_563 ks_25 kt_12 kt_564) rfl rfl rfl (by decide +kernel) ⟨Nat.le_of_ble_eq_true rfl, Nat.le_of_ble_eq_true rfl⟩) ⟨pre_blind, va_recv hKc hPc (ci := 4) (q0 := 0) rfl rfl, pre_ok hPc hKc hDc hG hS hFc⟩ rfl rfl hl.1 rfl (lv_room (Nat.le_of_ble_eq_true rfl)) d_Memory_clear_5 ⟨Nat.zero_le _, Nat.zero_le _⟩) hS (fun q _ h => hFc q h) hFc (fun u t H1 locs ht hvm hw hB hz1 hk1 hS => ?_)
  obtain ⟨f_kinds_1, f_lefts_2⟩ := u
  obtain ⟨hP1, hK1, hD1⟩ := hB
  rw [ht] at hP1
  try dsimp only at hw
  obtain ⟨hP, hD⟩ := va_join (wr := [ar_ h_free c_free n_free f_free, ar_ h_isReached c_isReached n_isReached f_isReached, ar_ h_reached c_reached n_reached f_reached]) (w1 := [ob_Memory h_this i_size h_kinds h_lefts h_rights h_free i_freeCount h_isReached h_reached i_reachedCount, ar_ h_kinds c_kinds n_kinds f_kinds_1, ar_ h_lefts c_lefts n_lefts f_lefts_2]) hP hD [0, 3, 4] [1, 2, 5] rfl rfl (by decide) (by decide) hk1 hFc hP1 hD1
  generalize H1 = H at hP hS ⊢
  have hP : va_P (dC, dI) vwCl [ar_ h_free c_free n_free f_free, ar_ h_isReached c_isReached n_isReached f_isReached, ar_ h_reached c_reached n_reached f_reached, ob_Memory h_this i_size h_kinds h_lefts h_rights h_free i_freeCount h_isReached h_reached i_reachedCount, ar_ h_kinds c_kinds n_kinds f_kinds_1, ar_ h_lefts c_lefts n_lefts f_lefts_2] H := hP
  have hD : va_D A [ar_ h_free c_free n_free f_free, ar_ h_isReached c_isReached n_isReached f_isReached, ar_ h_reached c_reached n_reached f_reached, ob_Memory h_this i_size h_kinds h_lefts h_rights h_free i_freeCount h_isReached h_reached i_reachedCount, ar_ h_kinds c_kinds n_kinds f_kinds_1, ar_ h_lefts c_lefts n_lefts f_lefts_2] := hD
  refine lv_aload_n hx hb d_Memory_clear_8 rfl (lv_at hl 0 rfl) ?_
  refine lv_iconst (v := 1) hx hb d_Memory_clear_9 (by decide) ?_
  refine lv_bipush (v := 20) hx hb d_Memory_clear_10 (by decide) ?_
  have hPc := hP.sub (ws' := [ob_Memory h_this i_size h_kinds h_lefts h_rights h_free i_freeCount h_isReached h_reached i_reachedCount, ar_ h_kinds c_kinds n_kinds f_kinds_1, ar_ h_lefts c_lefts n_lefts f_lefts_2]) [3, 4, 5] rfl
  have hDc := hD.sub (ws' := [ob_Memory h_this i_size h_kinds h_lefts h_rights h_free i_freeCount h_isReached h_reached i_reachedCount, ar_ h_kinds c_kinds n_kinds f_kinds_1, ar_ h_lefts c_lefts n_lefts f_lefts_2]) [3, 4, 5] (by decide) rfl
  have hKc := hK.sub (tys' := [(c_kinds, .int), (c_lefts, .int)]) [2, 3] rfl
  have hFc := va_free (wc := [ob_Memory h_this i_size h_kinds h_lefts h_rights h_free i_freeCount h_isReached h_reached i_reachedCount, ar_ h_kinds c_kinds n_kinds f_kinds_1, ar_ h_lefts c_lefts n_lefts f_lefts_2]) hD hS hA [3, 4, 5] rfl
  refine va_callv (va_runV (As := [.int (1 : Int32), .int (20 : Int32)]) (rest := []) ⟨hx, hb, hml, hown, hts⟩ (c_Memory_setName l dC dI h_this h_kinds h_lefts h_rights h_free h_isReached h_reached c_kinds c_lefts H.size n_kinds n_lefts i_size i_freeCount i_reachedCount f_kinds_1 f_lefts_2 (1 : Int32) (20 : Int32) _ hw) (cwV 2 hts (gd_V kt_561 kt_563 ks_25 kt_12 kt_564) rfl rfl rfl (by decide +kernel) ⟨Nat.le_of_ble_eq_true rfl, Nat.le_of_ble_eq_true rfl⟩) ⟨pre_blind, va_recv hKc hPc (ci := 4) (q0 := 0) rfl rfl, pre_ok hPc hKc hDc hG hS hFc⟩ rfl rfl hl.1 rfl (lv_room (Nat.le_of_ble_eq_true rfl)) d_Memory_clear_12 ⟨Nat.zero_le _, Nat.zero_le _⟩) hS (fun q _ h => hFc q h) hFc (fun u t H1 locs ht hvm hw hB hz1 hk1 hS => ?_)
  obtain ⟨f_kinds_3, f_lefts_4⟩ := u
  obtain ⟨hP1, hK1, hD1⟩ := hB
  rw [ht] at hP1
  try dsimp only at hw
  obtain ⟨hP, hD⟩ := va_join (wr := [ar_ h_free c_free n_free f_free, ar_ h_isReached c_isReached n_isReached f_isReached, ar_ h_reached c_reached n_reached f_reached]) (w1 := [ob_Memory h_this i_size h_kinds h_lefts h_rights h_free i_freeCount h_isReached h_reached i_reachedCount, ar_ h_kinds c_kinds n_kinds f_kinds_3, ar_ h_lefts c_lefts n_lefts f_lefts_4]) hP hD [3, 4, 5] [0, 1, 2] rfl rfl (by decide) (by decide) hk1 hFc hP1 hD1
  generalize H1 = H at hP hS ⊢
  have hP : va_P (dC, dI) vwCl [ar_ h_free c_free n_free f_free, ar_ h_isReached c_isReached n_isReached f_isReached, ar_ h_reached c_reached n_reached f_reached, ob_Memory h_this i_size h_kinds h_lefts h_rights h_free i_freeCount h_isReached h_reached i_reachedCount, ar_ h_kinds c_kinds n_kinds f_kinds_3, ar_ h_lefts c_lefts n_lefts f_lefts_4] H := hP
  have hD : va_D A [ar_ h_free c_free n_free f_free, ar_ h_isReached c_isReached n_isReached f_isReached, ar_ h_reached c_reached n_reached f_reached, ob_Memory h_this i_size h_kinds h_lefts h_rights h_free i_freeCount h_isReached h_reached i_reachedCount, ar_ h_kinds c_kinds n_kinds f_kinds_3, ar_ h_lefts c_lefts n_lefts f_lefts_4] := hD
  refine lv_aload_n hx hb d_Memory_clear_15 rfl (lv_at hl 0 rfl) ?_
  refine lv_iconst (v := 2) hx hb d_Memory_clear_16 (by decide) ?_
  refine lv_bipush (v := 6) hx hb d_Memory_clear_17 (by decide) ?_
  have hPc := hP.sub (ws' := [ob_Memory h_this i_size h_kinds h_lefts h_rights h_free i_freeCount h_isReached h_reached i_reachedCount, ar_ h_kinds c_kinds n_kinds f_kinds_3, ar_ h_lefts c_lefts n_lefts f_lefts_4]) [3, 4, 5] rfl
  have hDc := hD.sub (ws' := [ob_Memory h_this i_size h_kinds h_lefts h_rights h_free i_freeCount h_isReached h_reached i_reachedCount, ar_ h_kinds c_kinds n_kinds f_kinds_3, ar_ h_lefts c_lefts n_lefts f_lefts_4]) [3, 4, 5] (by decide) rfl
  have hKc := hK.sub (tys' := [(c_kinds, .int), (c_lefts, .int)]) [2, 3] rfl
  have hFc := va_free (wc := [ob_Memory h_this i_size h_kinds h_lefts h_rights h_free i_freeCount h_isReached h_reached i_reachedCount, ar_ h_kinds c_kinds n_kinds f_kinds_3, ar_ h_lefts c_lefts n_lefts f_lefts_4]) hD hS hA [3, 4, 5] rfl
  refine va_callv (va_runV (As := [.int (2 : Int32), .int (6 : Int32)]) (rest := []) ⟨hx, hb, hml, hown, hts⟩ (c_Memory_setName l dC dI h_this h_kinds h_lefts h_rights h_free h_isReached h_reached c_kinds c_lefts H.size n_kinds n_lefts i_size i_freeCount i_reachedCount f_kinds_3 f_lefts_4 (2 : Int32) (6 : Int32) _ hw) (cwV 2 hts (gd_V kt_561 kt_563 ks_25 kt_12 kt_564) rfl rfl rfl (by decide +kernel) ⟨Nat.le_of_ble_eq_true rfl, Nat.le_of_ble_eq_true rfl⟩) ⟨pre_blind, va_recv hKc hPc (ci := 4) (q0 := 0) rfl rfl, pre_ok hPc hKc hDc hG hS hFc⟩ rfl rfl hl.1 rfl (lv_room (Nat.le_of_ble_eq_true rfl)) d_Memory_clear_19 ⟨Nat.zero_le _, Nat.zero_le _⟩) hS (fun q _ h => hFc q h) hFc (fun u t H1 locs ht hvm hw hB hz1 hk1 hS => ?_)
  obtain ⟨f_kinds_5, f_lefts_6⟩ := u
  obtain ⟨hP1, hK1, hD1⟩ := hB
  rw [ht] at hP1
  try dsimp only at hw
  obtain ⟨hP, hD⟩ := va_join (wr := [ar_ h_free c_free n_free f_free, ar_ h_isReached c_isReached n_isReached f_isReached, ar_ h_reached c_reached n_reached f_reached]) (w1 := [ob_Memory h_this i_size h_kinds h_lefts h_rights h_free i_freeCount h_isReached h_reached i_reachedCount, ar_ h_kinds c_kinds n_kinds f_kinds_5, ar_ h_lefts c_lefts n_lefts f_lefts_6]) hP hD [3, 4, 5] [0, 1, 2] rfl rfl (by decide) (by decide) hk1 hFc hP1 hD1
  generalize H1 = H at hP hS ⊢
  have hP : va_P (dC, dI) vwCl [ar_ h_free c_free n_free f_free, ar_ h_isReached c_isReached n_isReached f_isReached, ar_ h_reached c_reached n_reached f_reached, ob_Memory h_this i_size h_kinds h_lefts h_rights h_free i_freeCount h_isReached h_reached i_reachedCount, ar_ h_kinds c_kinds n_kinds f_kinds_5, ar_ h_lefts c_lefts n_lefts f_lefts_6] H := hP
  have hD : va_D A [ar_ h_free c_free n_free f_free, ar_ h_isReached c_isReached n_isReached f_isReached, ar_ h_reached c_reached n_reached f_reached, ob_Memory h_this i_size h_kinds h_lefts h_rights h_free i_freeCount h_isReached h_reached i_reachedCount, ar_ h_kinds c_kinds n_kinds f_kinds_5, ar_ h_lefts c_lefts n_lefts f_lefts_6] := hD
  refine lv_aload_n hx hb d_Memory_clear_22 rfl (lv_at hl 0 rfl) ?_
  have hPc := hP.sub (ws' := [ob_Memory h_this i_size h_kinds h_lefts h_rights h_free i_freeCount h_isReached h_reached i_reachedCount, ar_ h_isReached c_isReached n_isReached f_isReached, ar_ h_reached c_reached n_reached f_reached]) [3, 1, 2] rfl
  have hDc := hD.sub (ws' := [ob_Memory h_this i_size h_kinds h_lefts h_rights h_free i_freeCount h_isReached h_reached i_reachedCount, ar_ h_isReached c_isReached n_isReached f_isReached, ar_ h_reached c_reached n_reached f_reached]) [3, 1, 2] (by decide) rfl
  have hKc := hK.sub (tys' := [(c_isReached, .boolean), (c_reached, .int)]) [1, 4] rfl
  have hFc := va_free (wc := [ob_Memory h_this i_size h_kinds h_lefts h_rights h_free i_freeCount h_isReached h_reached i_reachedCount, ar_ h_isReached c_isReached n_isReached f_isReached, ar_ h_reached c_reached n_reached f_reached]) hD hS hA [3, 1, 2] rfl
  refine va_callv (va_runV (As := []) (rest := []) ⟨hx, hb, hml, hown, hts⟩ (c_Memory_beginReach l dC dI h_this h_isReached h_reached h_kinds h_lefts h_rights h_free c_isReached c_reached H.size n_isReached n_reached i_size i_freeCount i_reachedCount f_isReached f_reached _ hw) (cwV 0 hts (gd_V kt_565 kt_566 kt_567 kt_12 kt_568) rfl rfl rfl (by decide +kernel) ⟨Nat.le_of_ble_eq_true rfl, Nat.le_of_ble_eq_true rfl⟩) ⟨pre_blind, va_recv hKc hPc (ci := 4) (q0 := 0) rfl rfl, pre_ok hPc hKc hDc hG hS hFc⟩ rfl rfl hl.1 rfl (lv_room (Nat.le_of_ble_eq_true rfl)) d_Memory_clear_23 ⟨Nat.zero_le _, Nat.zero_le _⟩) hS (fun q _ h => hFc q h) hFc (fun u t H1 locs ht hvm hw hB hz1 hk1 hS => ?_)
  obtain ⟨i_reachedCount_7, f_isReached_8, f_reached_9⟩ := u
  obtain ⟨hP1, hK1, hD1⟩ := hB
  rw [ht] at hP1
  try dsimp only at hw
  obtain ⟨hP, hD⟩ := va_join (wr := [ar_ h_free c_free n_free f_free, ar_ h_kinds c_kinds n_kinds f_kinds_5, ar_ h_lefts c_lefts n_lefts f_lefts_6]) (w1 := [ob_Memory h_this i_size h_kinds h_lefts h_rights h_free i_freeCount h_isReached h_reached i_reachedCount_7, ar_ h_isReached c_isReached n_isReached f_isReached_8, ar_ h_reached c_reached n_reached f_reached_9]) hP hD [3, 1, 2] [0, 4, 5] rfl rfl (by decide) (by decide) hk1 hFc hP1 hD1
  generalize H1 = H at hP hS ⊢
  have hP : va_P (dC, dI) vwCl [ar_ h_free c_free n_free f_free, ar_ h_kinds c_kinds n_kinds f_kinds_5, ar_ h_lefts c_lefts n_lefts f_lefts_6, ob_Memory h_this i_size h_kinds h_lefts h_rights h_free i_freeCount h_isReached h_reached i_reachedCount_7, ar_ h_isReached c_isReached n_isReached f_isReached_8, ar_ h_reached c_reached n_reached f_reached_9] H := hP
  have hD : va_D A [ar_ h_free c_free n_free f_free, ar_ h_kinds c_kinds n_kinds f_kinds_5, ar_ h_lefts c_lefts n_lefts f_lefts_6, ob_Memory h_this i_size h_kinds h_lefts h_rights h_free i_freeCount h_isReached h_reached i_reachedCount_7, ar_ h_isReached c_isReached n_isReached f_isReached_8, ar_ h_reached c_reached n_reached f_reached_9] := hD
  refine lv_aload_n hx hb d_Memory_clear_26 rfl (lv_at hl 0 rfl) ?_
  have hPc := hP.sub (ws' := [ob_Memory h_this i_size h_kinds h_lefts h_rights h_free i_freeCount h_isReached h_reached i_reachedCount_7, ar_ h_free c_free n_free f_free, ar_ h_isReached c_isReached n_isReached f_isReached_8]) [3, 0, 4] rfl
  have hDc := hD.sub (ws' := [ob_Memory h_this i_size h_kinds h_lefts h_rights h_free i_freeCount h_isReached h_reached i_reachedCount_7, ar_ h_free c_free n_free f_free, ar_ h_isReached c_isReached n_isReached f_isReached_8]) [3, 0, 4] (by decide) rfl
  have hKc := hK.sub (tys' := [(c_free, .int), (c_isReached, .boolean)]) [0, 1] rfl
  have hFc := va_free (wc := [ob_Memory h_this i_size h_kinds h_lefts h_rights h_free i_freeCount h_isReached h_reached i_reachedCount_7, ar_ h_free c_free n_free f_free, ar_ h_isReached c_isReached n_isReached f_isReached_8]) hD hS hA [3, 0, 4] rfl
  refine va_callv (va_runV (As := []) (rest := []) ⟨hx, hb, hml, hown, hts⟩ (c_Memory_freeUnreached l dC dI h_this h_free h_isReached h_kinds h_lefts h_rights h_reached c_free c_isReached H.size n_free n_isReached i_size i_freeCount i_reachedCount_7 f_free f_isReached_8 _ hw) (cwV 0 hts (gd_V kt_573 kt_574 kt_575 kt_12 kt_576) rfl rfl rfl (by decide +kernel) ⟨Nat.le_of_ble_eq_true rfl, Nat.le_of_ble_eq_true rfl⟩) ⟨pre_blind, va_recv hKc hPc (ci := 4) (q0 := 0) rfl rfl, pre_ok hPc hKc hDc hG hS hFc⟩ rfl rfl hl.1 rfl (lv_room (Nat.le_of_ble_eq_true rfl)) d_Memory_clear_27 ⟨Nat.zero_le _, Nat.zero_le _⟩) hS (fun q _ h => hFc q h) hFc (fun u t H1 locs ht hvm hw hB hz1 hk1 hS => ?_)
  obtain ⟨i_freeCount_10, f_free_11⟩ := u
  obtain ⟨hP1, hK1, hD1⟩ := hB
  rw [ht] at hP1
  try dsimp only at hw
  obtain ⟨hP, hD⟩ := va_join (wr := [ar_ h_kinds c_kinds n_kinds f_kinds_5, ar_ h_lefts c_lefts n_lefts f_lefts_6, ar_ h_reached c_reached n_reached f_reached_9]) (w1 := [ob_Memory h_this i_size h_kinds h_lefts h_rights h_free i_freeCount_10 h_isReached h_reached i_reachedCount_7, ar_ h_free c_free n_free f_free_11, ar_ h_isReached c_isReached n_isReached f_isReached_8]) hP hD [3, 0, 4] [1, 2, 5] rfl rfl (by decide) (by decide) hk1 hFc hP1 hD1
  generalize H1 = H at hP hS ⊢
  have hP : va_P (dC, dI) vwCl [ar_ h_kinds c_kinds n_kinds f_kinds_5, ar_ h_lefts c_lefts n_lefts f_lefts_6, ar_ h_reached c_reached n_reached f_reached_9, ob_Memory h_this i_size h_kinds h_lefts h_rights h_free i_freeCount_10 h_isReached h_reached i_reachedCount_7, ar_ h_free c_free n_free f_free_11, ar_ h_isReached c_isReached n_isReached f_isReached_8] H := hP
  have hD : va_D A [ar_ h_kinds c_kinds n_kinds f_kinds_5, ar_ h_lefts c_lefts n_lefts f_lefts_6, ar_ h_reached c_reached n_reached f_reached_9, ob_Memory h_this i_size h_kinds h_lefts h_rights h_free i_freeCount_10 h_isReached h_reached i_reachedCount_7, ar_ h_free c_free n_free f_free_11, ar_ h_isReached c_isReached n_isReached f_isReached_8] := hD
  have hP9 : va_P (dC, dI) vwCl [ob_Memory h_this i_size h_kinds h_lefts h_rights h_free i_freeCount_10 h_isReached h_reached i_reachedCount_7, ar_ h_free c_free n_free f_free_11, ar_ h_isReached c_isReached n_isReached f_isReached_8, ar_ h_kinds c_kinds n_kinds f_kinds_5, ar_ h_lefts c_lefts n_lefts f_lefts_6, ar_ h_reached c_reached n_reached f_reached_9] _ := (hP.sub [3, 4, 5, 0, 1, 2] rfl)
  have hD9 : va_D A [ob_Memory h_this i_size h_kinds h_lefts h_rights h_free i_freeCount_10 h_isReached h_reached i_reachedCount_7, ar_ h_free c_free n_free f_free_11, ar_ h_isReached c_isReached n_isReached f_isReached_8, ar_ h_kinds c_kinds n_kinds f_kinds_5, ar_ h_lefts c_lefts n_lefts f_lefts_6, ar_ h_reached c_reached n_reached f_reached_9] := (hD.sub [3, 4, 5, 0, 1, 2] (by decide) rfl)
  rw [hQ]
  exact W.vret hx hb hr (fun t ht hW => ⟨⟨(i_freeCount_10, i_reachedCount_7, f_free_11, f_isReached_8, f_kinds_5, f_lefts_6, f_reached_9), rfl, hw, by rw [ht]; exact hP9, va_K.moved hW.alike hK, hD9⟩, hS.F ht⟩) hS.2.2 d_Memory_clear_30

set_option maxHeartbeats 4000000 in
set_option maxRecDepth 100000 in
theorem c_Memory_take (l : Launch) (dC : Nat → ClassId) (dI : Nat → Nat → Nat) (h_this : Nat) (h_free : Nat) (h_kinds : Nat) (h_lefts : Nat) (h_rights : Nat) (h_isReached : Nat) (h_reached : Nat) (c_free : ClassId) (c_kinds : ClassId) (c_lefts : ClassId) (c_rights : ClassId) (sz : Nat) (n_free : Nat) (n_kinds : Nat) (n_lefts : Nat) (n_rights : Nat) (i_size : Int32) (i_freeCount : Int32) (i_reachedCount : Int32) (f_free : Nat → Int32) (f_kinds : Nat → Int32) (f_lefts : Nat → Int32) (f_rights : Nat → Int32) (x1 : Int32) (x2 : Int32) (x3 : Int32) (post : Int32 → Int32 → (Nat → Int32) → (Nat → Int32) → (Nat → Int32) → Prop) (hw : wp_Memory_take n_free n_kinds n_lefts n_rights i_freeCount f_free f_kinds f_lefts f_rights x1 x2 x3 post) : Met l y_Memory_take (ws_ y_Memory_take b_Memory_take 5 (some .int)) { frames := 0, cells := 0, slots := 0, locals := 0 } (va_Pc [.ref h_this, .int x1, .int x2, .int x3] (PRE (dC, dI) vwCl [(c_free, .int), (c_kinds, .int), (c_lefts, .int), (c_rights, .int)] [ob_Memory h_this i_size h_kinds h_lefts h_rights h_free i_freeCount h_isReached h_reached i_reachedCount, ar_ h_free c_free n_free f_free, ar_ h_kinds c_kinds n_kinds f_kinds, ar_ h_lefts c_lefts n_lefts f_lefts, ar_ h_rights c_rights n_rights f_rights] sz (va_A [ob_Memory h_this i_size h_kinds h_lefts h_rights h_free i_freeCount h_isReached h_reached i_reachedCount, ar_ h_free c_free n_free f_free, ar_ h_kinds c_kinds n_kinds f_kinds, ar_ h_lefts c_lefts n_lefts f_lefts, ar_ h_rights c_rights n_rights f_rights] sz))) (va_Qi (fun (r : Int32) (u : Int32 × (Nat → Int32) × (Nat → Int32) × (Nat → Int32)) => post r u.1 u.2.1 u.2.2.1 u.2.2.2) (fun (u : Int32 × (Nat → Int32) × (Nat → Int32) × (Nat → Int32)) (t : State) => va_P (dC, dI) vwCl [ob_Memory h_this i_size h_kinds h_lefts h_rights h_free u.1 h_isReached h_reached i_reachedCount, ar_ h_free c_free n_free f_free, ar_ h_kinds c_kinds n_kinds u.2.1, ar_ h_lefts c_lefts n_lefts u.2.2.1, ar_ h_rights c_rights n_rights u.2.2.2] t.heap ∧ va_K (dC, dI) vwCl [(c_free, .int), (c_kinds, .int), (c_lefts, .int), (c_rights, .int)] t ∧ va_D (va_A [ob_Memory h_this i_size h_kinds h_lefts h_rights h_free i_freeCount h_isReached h_reached i_reachedCount, ar_ h_free c_free n_free f_free, ar_ h_kinds c_kinds n_kinds f_kinds, ar_ h_lefts c_lefts n_lefts f_lefts, ar_ h_rights c_rights n_rights f_rights] sz) [ob_Memory h_this i_size h_kinds h_lefts h_rights h_free u.1 h_isReached h_reached i_reachedCount, ar_ h_free c_free n_free f_free, ar_ h_kinds c_kinds n_kinds u.2.1, ar_ h_lefts c_lefts n_lefts u.2.2.1, ar_ h_rights c_rights n_rights u.2.2.2]) (va_A [ob_Memory h_this i_size h_kinds h_lefts h_rights h_free i_freeCount h_isReached h_reached i_reachedCount, ar_ h_free c_free n_free f_free, ar_ h_kinds c_kinds n_kinds f_kinds, ar_ h_lefts c_lefts n_lefts f_lefts, ar_ h_rights c_rights n_rights f_rights] sz)) 0 0 (va_A [ob_Memory h_this i_size h_kinds h_lefts h_rights h_free i_freeCount h_isReached h_reached i_reachedCount, ar_ h_free c_free n_free f_free, ar_ h_kinds c_kinds n_kinds f_kinds, ar_ h_lefts c_lefts n_lefts f_lefts, ar_ h_rights c_rights n_rights f_rights] sz) := by
  refine Met.ofW (cc := b_Memory_take) (maxL := 5) (ret := (some .int)) (by decide) rfl ?_
  intro p e s m args below meth c s₁ B hml hv
  obtain ⟨rfl, hsz, hP, hK, hD0, hG⟩ := hv
  have hx := B.exec
  have hb := B.bytes
  have hr := B.returns
  have hts : ∀ w ∈ tb, w.before _ s = true := fun w h => atoms_spec (ws := ws_ _ _ _ _) B.pre w (List.mem_cons_of_mem _ h)
  have hown : s.vm.findClass R_Memory = some m.cls := findClass_of_methodNamed B.named
  have hlocks := B.notSynchronized
  subst hsz
  have hD := hD0.self (sz := s.heap.size)
  generalize hAe : va_A [ob_Memory h_this i_size h_kinds h_lefts h_rights h_free i_freeCount h_isReached h_reached i_reachedCount, ar_ h_free c_free n_free f_free, ar_ h_kinds c_kinds n_kinds f_kinds, ar_ h_lefts c_lefts n_lefts f_lefts, ar_ h_rights c_rights n_rights f_rights] s.heap.size = A at hD hG ⊢
  have hA : ∀ q : Nat, s.heap.size ≤ q → A q := fun q h => by rw [← hAe]; exact Or.inr h
  have hS : va_S A s.heap s.heap [] := va_S.rf
  have hP : va_P (dC, dI) vwCl [ob_Memory h_this i_size h_kinds h_lefts h_rights h_free i_freeCount h_isReached h_reached i_reachedCount, ar_ h_free c_free n_free f_free, ar_ h_kinds c_kinds n_kinds f_kinds, ar_ h_lefts c_lefts n_lefts f_lefts, ar_ h_rights c_rights n_rights f_rights] s.heap := hP
  have hl := lv_entry [.ref h_this, .int x1, .int x2, .int x3] (n := 5) (Nat.le_of_ble_eq_true rfl)
  rw [lg_entry_eq]
  generalize (lg_sl [.ref h_this, .int x1, .int x2, .int x3] ++ List.replicate (5 - (lg_sl [.ref h_this, .int x1, .int x2, .int x3]).length) Slot.unset).toArray = ls at hl ⊢
  have hl : lv_has ls 5 [(0, .ref h_this), (1, .int x1), (2, .int x2), (3, .int x3)] := hl
  obtain ⟨Q, hQ⟩ : ∃ Q : State → Prop, Q = MQ below (va_Qi (fun (r : Int32) (u : Int32 × (Nat → Int32) × (Nat → Int32) × (Nat → Int32)) => post r u.1 u.2.1 u.2.2.1 u.2.2.2) (fun (u : Int32 × (Nat → Int32) × (Nat → Int32) × (Nat → Int32)) (t : State) => va_P (dC, dI) vwCl [ob_Memory h_this i_size h_kinds h_lefts h_rights h_free u.1 h_isReached h_reached i_reachedCount, ar_ h_free c_free n_free f_free, ar_ h_kinds c_kinds n_kinds u.2.1, ar_ h_lefts c_lefts n_lefts u.2.2.1, ar_ h_rights c_rights n_rights u.2.2.2] t.heap ∧ va_K (dC, dI) vwCl [(c_free, .int), (c_kinds, .int), (c_lefts, .int), (c_rights, .int)] t ∧ va_D A [ob_Memory h_this i_size h_kinds h_lefts h_rights h_free u.1 h_isReached h_reached i_reachedCount, ar_ h_free c_free n_free f_free, ar_ h_kinds c_kinds n_kinds u.2.1, ar_ h_lefts c_lefts n_lefts u.2.2.1, ar_ h_rights c_rights n_rights u.2.2.2]) A) ([.ref h_this, .int x1, .int x2, .int x3] : List Value).toArray s 0 0 A := ⟨_, rfl⟩
  rw [← hQ]
  unfold wp_Memory_take at hw
  refine lv_aload_n hx hb d_Memory_take_0 rfl (lv_at hl 0 rfl) ?_
  refine va_get (D := (dC, dI)) (ci := 4) (v := .int i_freeCount) (C := R_Memory) (T := T_Memory) (N := 9) hx hb hts in_Memory hown hK hP 0 rfl rfl 5 (by decide) (hts _ kt_193) (fun _ h9 => h9) rfl d_Memory_take_1 ?_
  refine lv_if_ne (tgt := 9) hx hb d_Memory_take_4 (by decide) (fun c_1 => ?_) (fun c_1 => ?_)
  · have hw := hw.2 c_1
    refine lv_aload_n hx hb d_Memory_take_9 rfl (lv_at hl 0 rfl) ?_
    refine lv_dup hx hb d_Memory_take_10 rfl ?_
    refine va_get (D := (dC, dI)) (ci := 4) (v := .int i_freeCount) (C := R_Memory) (T := T_Memory) (N := 9) hx hb hts in_Memory hown hK hP 0 rfl rfl 5 (by decide) (hts _ kt_193) (fun _ h9 => h9) rfl d_Memory_take_11 ?_
    refine lv_iconst (v := 1) hx hb d_Memory_take_14 (by decide) ?_
    refine lv_isub hx hb d_Memory_take_15 ?_
    refine va_put (D := (dC, dI)) (ci := 4) (v := .int (i_freeCount - (1 : Int32))) (ty := .int) (C := R_Memory) (T := T_Memory) (N := 9) hx hb hts in_Memory t_Memory t_Memory_ok nm_Memory hown hK hP hD hS 0 rfl rfl 5 (by decide) (hts _ kt_193) (fun _ h9 => h9) rfl (by decide +kernel) rfl rfl (Nat.le_of_ble_eq_true rfl) d_Memory_take_16 (fun H locs hP hD hS => ?_)
    have hP : va_P (dC, dI) vwCl [ob_Memory h_this i_size h_kinds h_lefts h_rights h_free (i_freeCount - (1 : Int32)) h_isReached h_reached i_reachedCount, ar_ h_free c_free n_free f_free, ar_ h_kinds c_kinds n_kinds f_kinds, ar_ h_lefts c_lefts n_lefts f_lefts, ar_ h_rights c_rights n_rights f_rights] H := hP
    have hD : va_D A [ob_Memory h_this i_size h_kinds h_lefts h_rights h_free (i_freeCount - (1 : Int32)) h_isReached h_reached i_reachedCount, ar_ h_free c_free n_free f_free, ar_ h_kinds c_kinds n_kinds f_kinds, ar_ h_lefts c_lefts n_lefts f_lefts, ar_ h_rights c_rights n_rights f_rights] := hD
    refine lv_aload_n hx hb d_Memory_take_19 rfl (lv_at hl 0 rfl) ?_
    refine va_get (D := (dC, dI)) (ci := 4) (v := .ref h_free) (C := R_Memory) (T := T_Memory) (N := 9) hx hb hts in_Memory hown hK hP 0 rfl rfl 4 (by decide) (hts _ kt_192) (fun _ h9 => h9) rfl d_Memory_take_20 ?_
    refine lv_aload_n hx hb d_Memory_take_23 rfl (lv_at hl 0 rfl) ?_
    refine va_get (D := (dC, dI)) (ci := 4) (v := .int (i_freeCount - (1 : Int32))) (C := R_Memory) (T := T_Memory) (N := 9) hx hb hts in_Memory hown hK hP 0 rfl rfl 5 (by decide) (hts _ kt_193) (fun _ h9 => h9) rfl d_Memory_take_24 ?_
    obtain ⟨h_2, hw⟩ := hw
    refine va_iald hx hb hK hP 1 0 rfl rfl h_2 d_Memory_take_27 ?_
    refine lv_istore (lv' := [(4, .int (f_free (i_freeCount - (1 : Int32)).toNatClampNeg)), (0, .ref h_this), (1, .int x1), (2, .int x2), (3, .int x3)]) hx hb d_Memory_take_28 hl (by decide) rfl (fun ls hl => ?_)
    refine lv_aload_n hx hb d_Memory_take_30 rfl (lv_at hl 1 rfl) ?_
    refine va_get (D := (dC, dI)) (ci := 4) (v := .ref h_kinds) (C := R_Memory) (T := T_Memory) (N := 9) hx hb hts in_Memory hown hK hP 0 rfl rfl 1 (by decide) (hts _ kt_189) (fun _ h9 => h9) rfl d_Memory_take_31 ?_
    refine lv_iload hx hb d_Memory_take_34 (lv_at hl 0 rfl) ?_
    refine lv_iload_n hx hb d_Memory_take_36 rfl (lv_at hl 2 rfl) ?_
    obtain ⟨h_3, hw⟩ := hw
    refine va_iast hx hb hK hP hD hS 2 1 rfl rfl h_3 d_Memory_take_37 (fun H locs hP hD hS => ?_)
    have hP : va_P (dC, dI) vwCl [ob_Memory h_this i_size h_kinds h_lefts h_rights h_free (i_freeCount - (1 : Int32)) h_isReached h_reached i_reachedCount, ar_ h_free c_free n_free f_free, ar_ h_kinds c_kinds n_kinds (upd f_kinds (f_free (i_freeCount - (1 : Int32)).toNatClampNeg).toNatClampNeg x1), ar_ h_lefts c_lefts n_lefts f_lefts, ar_ h_rights c_rights n_rights f_rights] H := hP
    have hD : va_D A [ob_Memory h_this i_size h_kinds h_lefts h_rights h_free (i_freeCount - (1 : Int32)) h_isReached h_reached i_reachedCount, ar_ h_free c_free n_free f_free, ar_ h_kinds c_kinds n_kinds (upd f_kinds (f_free (i_freeCount - (1 : Int32)).toNatClampNeg).toNatClampNeg x1), ar_ h_lefts c_lefts n_lefts f_lefts, ar_ h_rights c_rights n_rights f_rights] := hD
    refine lv_aload_n hx hb d_Memory_take_38 rfl (lv_at hl 1 rfl) ?_
    refine va_get (D := (dC, dI)) (ci := 4) (v := .ref h_lefts) (C := R_Memory) (T := T_Memory) (N := 9) hx hb hts in_Memory hown hK hP 0 rfl rfl 2 (by decide) (hts _ kt_190) (fun _ h9 => h9) rfl d_Memory_take_39 ?_
    refine lv_iload hx hb d_Memory_take_42 (lv_at hl 0 rfl) ?_
    refine lv_iload_n hx hb d_Memory_take_44 rfl (lv_at hl 3 rfl) ?_
    obtain ⟨h_4, hw⟩ := hw
    refine va_iast hx hb hK hP hD hS 3 2 rfl rfl h_4 d_Memory_take_45 (fun H locs hP hD hS => ?_)
    have hP : va_P (dC, dI) vwCl [ob_Memory h_this i_size h_kinds h_lefts h_rights h_free (i_freeCount - (1 : Int32)) h_isReached h_reached i_reachedCount, ar_ h_free c_free n_free f_free, ar_ h_kinds c_kinds n_kinds (upd f_kinds (f_free (i_freeCount - (1 : Int32)).toNatClampNeg).toNatClampNeg x1), ar_ h_lefts c_lefts n_lefts (upd f_lefts (f_free (i_freeCount - (1 : Int32)).toNatClampNeg).toNatClampNeg x2), ar_ h_rights c_rights n_rights f_rights] H := hP
    have hD : va_D A [ob_Memory h_this i_size h_kinds h_lefts h_rights h_free (i_freeCount - (1 : Int32)) h_isReached h_reached i_reachedCount, ar_ h_free c_free n_free f_free, ar_ h_kinds c_kinds n_kinds (upd f_kinds (f_free (i_freeCount - (1 : Int32)).toNatClampNeg).toNatClampNeg x1), ar_ h_lefts c_lefts n_lefts (upd f_lefts (f_free (i_freeCount - (1 : Int32)).toNatClampNeg).toNatClampNeg x2), ar_ h_rights c_rights n_rights f_rights] := hD
    refine lv_aload_n hx hb d_Memory_take_46 rfl (lv_at hl 1 rfl) ?_
    refine va_get (D := (dC, dI)) (ci := 4) (v := .ref h_rights) (C := R_Memory) (T := T_Memory) (N := 9) hx hb hts in_Memory hown hK hP 0 rfl rfl 3 (by decide) (hts _ kt_191) (fun _ h9 => h9) rfl d_Memory_take_47 ?_
    refine lv_iload hx hb d_Memory_take_50 (lv_at hl 0 rfl) ?_
    refine lv_iload_n hx hb d_Memory_take_52 rfl (lv_at hl 4 rfl) ?_
    obtain ⟨h_5, hw⟩ := hw
    refine va_iast hx hb hK hP hD hS 4 3 rfl rfl h_5 d_Memory_take_53 (fun H locs hP hD hS => ?_)
    have hP : va_P (dC, dI) vwCl [ob_Memory h_this i_size h_kinds h_lefts h_rights h_free (i_freeCount - (1 : Int32)) h_isReached h_reached i_reachedCount, ar_ h_free c_free n_free f_free, ar_ h_kinds c_kinds n_kinds (upd f_kinds (f_free (i_freeCount - (1 : Int32)).toNatClampNeg).toNatClampNeg x1), ar_ h_lefts c_lefts n_lefts (upd f_lefts (f_free (i_freeCount - (1 : Int32)).toNatClampNeg).toNatClampNeg x2), ar_ h_rights c_rights n_rights (upd f_rights (f_free (i_freeCount - (1 : Int32)).toNatClampNeg).toNatClampNeg x3)] H := hP
    have hD : va_D A [ob_Memory h_this i_size h_kinds h_lefts h_rights h_free (i_freeCount - (1 : Int32)) h_isReached h_reached i_reachedCount, ar_ h_free c_free n_free f_free, ar_ h_kinds c_kinds n_kinds (upd f_kinds (f_free (i_freeCount - (1 : Int32)).toNatClampNeg).toNatClampNeg x1), ar_ h_lefts c_lefts n_lefts (upd f_lefts (f_free (i_freeCount - (1 : Int32)).toNatClampNeg).toNatClampNeg x2), ar_ h_rights c_rights n_rights (upd f_rights (f_free (i_freeCount - (1 : Int32)).toNatClampNeg).toNatClampNeg x3)] := hD
    refine lv_iload hx hb d_Memory_take_54 (lv_at hl 0 rfl) ?_
    have hP9 : va_P (dC, dI) vwCl [ob_Memory h_this i_size h_kinds h_lefts h_rights h_free (i_freeCount - (1 : Int32)) h_isReached h_reached i_reachedCount, ar_ h_free c_free n_free f_free, ar_ h_kinds c_kinds n_kinds (upd f_kinds (f_free (i_freeCount - (1 : Int32)).toNatClampNeg).toNatClampNeg x1), ar_ h_lefts c_lefts n_lefts (upd f_lefts (f_free (i_freeCount - (1 : Int32)).toNatClampNeg).toNatClampNeg x2), ar_ h_rights c_rights n_rights (upd f_rights (f_free (i_freeCount - (1 : Int32)).toNatClampNeg).toNatClampNeg x3)] _ := hP
    have hD9 : va_D A [ob_Memory h_this i_size h_kinds h_lefts h_rights h_free (i_freeCount - (1 : Int32)) h_isReached h_reached i_reachedCount, ar_ h_free c_free n_free f_free, ar_ h_kinds c_kinds n_kinds (upd f_kinds (f_free (i_freeCount - (1 : Int32)).toNatClampNeg).toNatClampNeg x1), ar_ h_lefts c_lefts n_lefts (upd f_lefts (f_free (i_freeCount - (1 : Int32)).toNatClampNeg).toNatClampNeg x2), ar_ h_rights c_rights n_rights (upd f_rights (f_free (i_freeCount - (1 : Int32)).toNatClampNeg).toNatClampNeg x3)] := hD
    rw [hQ]
    exact W.iret (v := f_free (i_freeCount - (1 : Int32)).toNatClampNeg) hx hb hr (fun t ht hW => ⟨⟨f_free (i_freeCount - (1 : Int32)).toNatClampNeg, (i_freeCount - (1 : Int32), upd f_kinds (f_free (i_freeCount - (1 : Int32)).toNatClampNeg).toNatClampNeg x1, upd f_lefts (f_free (i_freeCount - (1 : Int32)).toNatClampNeg).toNatClampNeg x2, upd f_rights (f_free (i_freeCount - (1 : Int32)).toNatClampNeg).toNatClampNeg x3), rfl, hw, by rw [ht]; exact hP9, va_K.moved hW.alike hK, hD9⟩, hS.F ht⟩) hS.2.2 d_Memory_take_56
  · have hw := hw.1 c_1
    refine lv_iconst (v := 0) hx hb d_Memory_take_7 (by decide) ?_
    have hP9 : va_P (dC, dI) vwCl [ob_Memory h_this i_size h_kinds h_lefts h_rights h_free i_freeCount h_isReached h_reached i_reachedCount, ar_ h_free c_free n_free f_free, ar_ h_kinds c_kinds n_kinds f_kinds, ar_ h_lefts c_lefts n_lefts f_lefts, ar_ h_rights c_rights n_rights f_rights] _ := hP
    have hD9 : va_D A [ob_Memory h_this i_size h_kinds h_lefts h_rights h_free i_freeCount h_isReached h_reached i_reachedCount, ar_ h_free c_free n_free f_free, ar_ h_kinds c_kinds n_kinds f_kinds, ar_ h_lefts c_lefts n_lefts f_lefts, ar_ h_rights c_rights n_rights f_rights] := hD
    rw [hQ]
    exact W.iret (v := (0 : Int32)) hx hb hr (fun t ht hW => ⟨⟨(0 : Int32), (i_freeCount, f_kinds, f_lefts, f_rights), rfl, hw, by rw [ht]; exact hP9, va_K.moved hW.alike hK, hD9⟩, hS.F ht⟩) hS.2.2 d_Memory_take_8

set_option maxHeartbeats 4000000 in
set_option maxRecDepth 100000 in
theorem c_Memory_newPair (l : Launch) (dC : Nat → ClassId) (dI : Nat → Nat → Nat) (h_this : Nat) (h_free : Nat) (h_kinds : Nat) (h_lefts : Nat) (h_rights : Nat) (h_isReached : Nat) (h_reached : Nat) (c_free : ClassId) (c_kinds : ClassId) (c_lefts : ClassId) (c_rights : ClassId) (sz : Nat) (n_free : Nat) (n_kinds : Nat) (n_lefts : Nat) (n_rights : Nat) (i_size : Int32) (i_freeCount : Int32) (i_reachedCount : Int32) (f_free : Nat → Int32) (f_kinds : Nat → Int32) (f_lefts : Nat → Int32) (f_rights : Nat → Int32) (x1 : Int32) (x2 : Int32) (post : Int32 → Int32 → (Nat → Int32) → (Nat → Int32) → (Nat → Int32) → Prop) (hw : wp_Memory_newPair n_free n_kinds n_lefts n_rights i_freeCount f_free f_kinds f_lefts f_rights x1 x2 post) : Met l y_Memory_newPair (ws_ y_Memory_newPair b_Memory_newPair 3 (some .int)) { frames := 1, cells := 0, slots := 0, locals := 24 } (va_Pc [.ref h_this, .int x1, .int x2] (PRE (dC, dI) vwCl [(c_free, .int), (c_kinds, .int), (c_lefts, .int), (c_rights, .int)] [ob_Memory h_this i_size h_kinds h_lefts h_rights h_free i_freeCount h_isReached h_reached i_reachedCount, ar_ h_free c_free n_free f_free, ar_ h_kinds c_kinds n_kinds f_kinds, ar_ h_lefts c_lefts n_lefts f_lefts, ar_ h_rights c_rights n_rights f_rights] sz (va_A [ob_Memory h_this i_size h_kinds h_lefts h_rights h_free i_freeCount h_isReached h_reached i_reachedCount, ar_ h_free c_free n_free f_free, ar_ h_kinds c_kinds n_kinds f_kinds, ar_ h_lefts c_lefts n_lefts f_lefts, ar_ h_rights c_rights n_rights f_rights] sz))) (va_Qi (fun (r : Int32) (u : Int32 × (Nat → Int32) × (Nat → Int32) × (Nat → Int32)) => post r u.1 u.2.1 u.2.2.1 u.2.2.2) (fun (u : Int32 × (Nat → Int32) × (Nat → Int32) × (Nat → Int32)) (t : State) => va_P (dC, dI) vwCl [ob_Memory h_this i_size h_kinds h_lefts h_rights h_free u.1 h_isReached h_reached i_reachedCount, ar_ h_free c_free n_free f_free, ar_ h_kinds c_kinds n_kinds u.2.1, ar_ h_lefts c_lefts n_lefts u.2.2.1, ar_ h_rights c_rights n_rights u.2.2.2] t.heap ∧ va_K (dC, dI) vwCl [(c_free, .int), (c_kinds, .int), (c_lefts, .int), (c_rights, .int)] t ∧ va_D (va_A [ob_Memory h_this i_size h_kinds h_lefts h_rights h_free i_freeCount h_isReached h_reached i_reachedCount, ar_ h_free c_free n_free f_free, ar_ h_kinds c_kinds n_kinds f_kinds, ar_ h_lefts c_lefts n_lefts f_lefts, ar_ h_rights c_rights n_rights f_rights] sz) [ob_Memory h_this i_size h_kinds h_lefts h_rights h_free u.1 h_isReached h_reached i_reachedCount, ar_ h_free c_free n_free f_free, ar_ h_kinds c_kinds n_kinds u.2.1, ar_ h_lefts c_lefts n_lefts u.2.2.1, ar_ h_rights c_rights n_rights u.2.2.2]) (va_A [ob_Memory h_this i_size h_kinds h_lefts h_rights h_free i_freeCount h_isReached h_reached i_reachedCount, ar_ h_free c_free n_free f_free, ar_ h_kinds c_kinds n_kinds f_kinds, ar_ h_lefts c_lefts n_lefts f_lefts, ar_ h_rights c_rights n_rights f_rights] sz)) 0 0 (va_A [ob_Memory h_this i_size h_kinds h_lefts h_rights h_free i_freeCount h_isReached h_reached i_reachedCount, ar_ h_free c_free n_free f_free, ar_ h_kinds c_kinds n_kinds f_kinds, ar_ h_lefts c_lefts n_lefts f_lefts, ar_ h_rights c_rights n_rights f_rights] sz) := by
  refine Met.ofW (cc := b_Memory_newPair) (maxL := 3) (ret := (some .int)) (by decide) rfl ?_
  intro p e s m args below meth c s₁ B hml hv
  obtain ⟨rfl, hsz, hP, hK, hD0, hG⟩ := hv
  have hx := B.exec
  have hb := B.bytes
  have hr := B.returns
  have hts : ∀ w ∈ tb, w.before _ s = true := fun w h => atoms_spec (ws := ws_ _ _ _ _) B.pre w (List.mem_cons_of_mem _ h)
  have hown : s.vm.findClass R_Memory = some m.cls := findClass_of_methodNamed B.named
  have hlocks := B.notSynchronized
  subst hsz
  have hD := hD0.self (sz := s.heap.size)
  generalize hAe : va_A [ob_Memory h_this i_size h_kinds h_lefts h_rights h_free i_freeCount h_isReached h_reached i_reachedCount, ar_ h_free c_free n_free f_free, ar_ h_kinds c_kinds n_kinds f_kinds, ar_ h_lefts c_lefts n_lefts f_lefts, ar_ h_rights c_rights n_rights f_rights] s.heap.size = A at hD hG ⊢
  have hA : ∀ q : Nat, s.heap.size ≤ q → A q := fun q h => by rw [← hAe]; exact Or.inr h
  have hS : va_S A s.heap s.heap [] := va_S.rf
  have hP : va_P (dC, dI) vwCl [ob_Memory h_this i_size h_kinds h_lefts h_rights h_free i_freeCount h_isReached h_reached i_reachedCount, ar_ h_free c_free n_free f_free, ar_ h_kinds c_kinds n_kinds f_kinds, ar_ h_lefts c_lefts n_lefts f_lefts, ar_ h_rights c_rights n_rights f_rights] s.heap := hP
  have hl := lv_entry [.ref h_this, .int x1, .int x2] (n := 3) (Nat.le_of_ble_eq_true rfl)
  rw [lg_entry_eq]
  generalize (lg_sl [.ref h_this, .int x1, .int x2] ++ List.replicate (3 - (lg_sl [.ref h_this, .int x1, .int x2]).length) Slot.unset).toArray = ls at hl ⊢
  have hl : lv_has ls 3 [(0, .ref h_this), (1, .int x1), (2, .int x2)] := hl
  obtain ⟨Q, hQ⟩ : ∃ Q : State → Prop, Q = MQ below (va_Qi (fun (r : Int32) (u : Int32 × (Nat → Int32) × (Nat → Int32) × (Nat → Int32)) => post r u.1 u.2.1 u.2.2.1 u.2.2.2) (fun (u : Int32 × (Nat → Int32) × (Nat → Int32) × (Nat → Int32)) (t : State) => va_P (dC, dI) vwCl [ob_Memory h_this i_size h_kinds h_lefts h_rights h_free u.1 h_isReached h_reached i_reachedCount, ar_ h_free c_free n_free f_free, ar_ h_kinds c_kinds n_kinds u.2.1, ar_ h_lefts c_lefts n_lefts u.2.2.1, ar_ h_rights c_rights n_rights u.2.2.2] t.heap ∧ va_K (dC, dI) vwCl [(c_free, .int), (c_kinds, .int), (c_lefts, .int), (c_rights, .int)] t ∧ va_D A [ob_Memory h_this i_size h_kinds h_lefts h_rights h_free u.1 h_isReached h_reached i_reachedCount, ar_ h_free c_free n_free f_free, ar_ h_kinds c_kinds n_kinds u.2.1, ar_ h_lefts c_lefts n_lefts u.2.2.1, ar_ h_rights c_rights n_rights u.2.2.2]) A) ([.ref h_this, .int x1, .int x2] : List Value).toArray s 0 0 A := ⟨_, rfl⟩
  rw [← hQ]
  unfold wp_Memory_newPair at hw
  refine lv_aload_n hx hb d_Memory_newPair_0 rfl (lv_at hl 0 rfl) ?_
  refine lv_iconst (v := 2) hx hb d_Memory_newPair_1 (by decide) ?_
  refine lv_iload_n hx hb d_Memory_newPair_2 rfl (lv_at hl 1 rfl) ?_
  refine lv_iload_n hx hb d_Memory_newPair_3 rfl (lv_at hl 2 rfl) ?_
  have hPc := hP.sub (ws' := [ob_Memory h_this i_size h_kinds h_lefts h_rights h_free i_freeCount h_isReached h_reached i_reachedCount, ar_ h_free c_free n_free f_free, ar_ h_kinds c_kinds n_kinds f_kinds, ar_ h_lefts c_lefts n_lefts f_lefts, ar_ h_rights c_rights n_rights f_rights]) [0, 1, 2, 3, 4] rfl
  have hDc := hD.sub (ws' := [ob_Memory h_this i_size h_kinds h_lefts h_rights h_free i_freeCount h_isReached h_reached i_reachedCount, ar_ h_free c_free n_free f_free, ar_ h_kinds c_kinds n_kinds f_kinds, ar_ h_lefts c_lefts n_lefts f_lefts, ar_ h_rights c_rights n_rights f_rights]) [0, 1, 2, 3, 4] (by decide) rfl
  have hKc := hK.sub (tys' := [(c_free, .int), (c_kinds, .int), (c_lefts, .int), (c_rights, .int)]) [0, 1, 2, 3] rfl
  have hFc := va_free (wc := [ob_Memory h_this i_size h_kinds h_lefts h_rights h_free i_freeCount h_isReached h_reached i_reachedCount, ar_ h_free c_free n_free f_free, ar_ h_kinds c_kinds n_kinds f_kinds, ar_ h_lefts c_lefts n_lefts f_lefts, ar_ h_rights c_rights n_rights f_rights]) hD hS hA [0, 1, 2, 3, 4] rfl
  refine va_calli (va_runV (As := [.int (2 : Int32), .int x1, .int x2]) (rest := []) ⟨hx, hb, hml, hown, hts⟩ (c_Memory_take l dC dI h_this h_free h_kinds h_lefts h_rights h_isReached h_reached c_free c_kinds c_lefts c_rights s.heap.size n_free n_kinds n_lefts n_rights i_size i_freeCount i_reachedCount f_free f_kinds f_lefts f_rights (2 : Int32) x1 x2 _ hw) (cwV 3 hts (gd_V kt_584 kt_586 ks_26 kt_12 kt_587) rfl rfl rfl (by decide +kernel) ⟨Nat.le_of_ble_eq_true rfl, Nat.le_of_ble_eq_true rfl⟩) ⟨pre_blind, va_recv hKc hPc (ci := 4) (q0 := 0) rfl rfl, pre_ok hPc hKc hDc hG hS hFc⟩ rfl rfl hl.1 rfl (lv_room (Nat.le_of_ble_eq_true rfl)) d_Memory_newPair_4 ⟨Nat.zero_le _, Nat.zero_le _⟩) hS (fun q _ h => hFc q h) hFc (fun r_1 u t H1 locs ht hvm hw hB hz1 hk1 hS => ?_)
  obtain ⟨i_freeCount_2, f_kinds_3, f_lefts_4, f_rights_5⟩ := u
  obtain ⟨hP1, hK1, hD1⟩ := hB
  rw [ht] at hP1
  try dsimp only at hw
  obtain ⟨hP, hD⟩ := va_join (wr := []) (w1 := [ob_Memory h_this i_size h_kinds h_lefts h_rights h_free i_freeCount_2 h_isReached h_reached i_reachedCount, ar_ h_free c_free n_free f_free, ar_ h_kinds c_kinds n_kinds f_kinds_3, ar_ h_lefts c_lefts n_lefts f_lefts_4, ar_ h_rights c_rights n_rights f_rights_5]) hP hD [0, 1, 2, 3, 4] [] rfl rfl (by decide) (by decide) hk1 hFc hP1 hD1
  generalize H1 = H at hP hS ⊢
  have hP : va_P (dC, dI) vwCl [ob_Memory h_this i_size h_kinds h_lefts h_rights h_free i_freeCount_2 h_isReached h_reached i_reachedCount, ar_ h_free c_free n_free f_free, ar_ h_kinds c_kinds n_kinds f_kinds_3, ar_ h_lefts c_lefts n_lefts f_lefts_4, ar_ h_rights c_rights n_rights f_rights_5] H := hP
  have hD : va_D A [ob_Memory h_this i_size h_kinds h_lefts h_rights h_free i_freeCount_2 h_isReached h_reached i_reachedCount, ar_ h_free c_free n_free f_free, ar_ h_kinds c_kinds n_kinds f_kinds_3, ar_ h_lefts c_lefts n_lefts f_lefts_4, ar_ h_rights c_rights n_rights f_rights_5] := hD
  have hP9 : va_P (dC, dI) vwCl [ob_Memory h_this i_size h_kinds h_lefts h_rights h_free i_freeCount_2 h_isReached h_reached i_reachedCount, ar_ h_free c_free n_free f_free, ar_ h_kinds c_kinds n_kinds f_kinds_3, ar_ h_lefts c_lefts n_lefts f_lefts_4, ar_ h_rights c_rights n_rights f_rights_5] _ := hP
  have hD9 : va_D A [ob_Memory h_this i_size h_kinds h_lefts h_rights h_free i_freeCount_2 h_isReached h_reached i_reachedCount, ar_ h_free c_free n_free f_free, ar_ h_kinds c_kinds n_kinds f_kinds_3, ar_ h_lefts c_lefts n_lefts f_lefts_4, ar_ h_rights c_rights n_rights f_rights_5] := hD
  rw [hQ]
  exact W.iret (v := r_1) hx hb hr (fun t ht hW => ⟨⟨r_1, (i_freeCount_2, f_kinds_3, f_lefts_4, f_rights_5), rfl, hw, by rw [ht]; exact hP9, va_K.moved hW.alike hK, hD9⟩, hS.F ht⟩) hS.2.2 d_Memory_newPair_7

set_option maxHeartbeats 4000000 in
set_option maxRecDepth 100000 in
theorem c_Memory_nameCell (l : Launch) (dC : Nat → ClassId) (dI : Nat → Nat → Nat) (h_this : Nat) (h_free : Nat) (h_kinds : Nat) (h_lefts : Nat) (h_rights : Nat) (h_isReached : Nat) (h_reached : Nat) (c_free : ClassId) (c_kinds : ClassId) (c_lefts : ClassId) (c_rights : ClassId) (sz : Nat) (n_free : Nat) (n_kinds : Nat) (n_lefts : Nat) (n_rights : Nat) (i_size : Int32) (i_freeCount : Int32) (i_reachedCount : Int32) (f_free : Nat → Int32) (f_kinds : Nat → Int32) (f_lefts : Nat → Int32) (f_rights : Nat → Int32) (x1 : Int32) (post : Int32 → Int32 → (Nat → Int32) → (Nat → Int32) → (Nat → Int32) → Prop) (hw : wp_Memory_nameCell n_free n_kinds n_lefts n_rights i_freeCount f_free f_kinds f_lefts f_rights x1 post) : Met l y_Memory_nameCell (ws_ y_Memory_nameCell b_Memory_nameCell 2 (some .int)) { frames := 1, cells := 0, slots := 0, locals := 24 } (va_Pc [.ref h_this, .int x1] (PRE (dC, dI) vwCl [(c_free, .int), (c_kinds, .int), (c_lefts, .int), (c_rights, .int)] [ob_Memory h_this i_size h_kinds h_lefts h_rights h_free i_freeCount h_isReached h_reached i_reachedCount, ar_ h_free c_free n_free f_free, ar_ h_kinds c_kinds n_kinds f_kinds, ar_ h_lefts c_lefts n_lefts f_lefts, ar_ h_rights c_rights n_rights f_rights] sz (va_A [ob_Memory h_this i_size h_kinds h_lefts h_rights h_free i_freeCount h_isReached h_reached i_reachedCount, ar_ h_free c_free n_free f_free, ar_ h_kinds c_kinds n_kinds f_kinds, ar_ h_lefts c_lefts n_lefts f_lefts, ar_ h_rights c_rights n_rights f_rights] sz))) (va_Qi (fun (r : Int32) (u : Int32 × (Nat → Int32) × (Nat → Int32) × (Nat → Int32)) => post r u.1 u.2.1 u.2.2.1 u.2.2.2) (fun (u : Int32 × (Nat → Int32) × (Nat → Int32) × (Nat → Int32)) (t : State) => va_P (dC, dI) vwCl [ob_Memory h_this i_size h_kinds h_lefts h_rights h_free u.1 h_isReached h_reached i_reachedCount, ar_ h_free c_free n_free f_free, ar_ h_kinds c_kinds n_kinds u.2.1, ar_ h_lefts c_lefts n_lefts u.2.2.1, ar_ h_rights c_rights n_rights u.2.2.2] t.heap ∧ va_K (dC, dI) vwCl [(c_free, .int), (c_kinds, .int), (c_lefts, .int), (c_rights, .int)] t ∧ va_D (va_A [ob_Memory h_this i_size h_kinds h_lefts h_rights h_free i_freeCount h_isReached h_reached i_reachedCount, ar_ h_free c_free n_free f_free, ar_ h_kinds c_kinds n_kinds f_kinds, ar_ h_lefts c_lefts n_lefts f_lefts, ar_ h_rights c_rights n_rights f_rights] sz) [ob_Memory h_this i_size h_kinds h_lefts h_rights h_free u.1 h_isReached h_reached i_reachedCount, ar_ h_free c_free n_free f_free, ar_ h_kinds c_kinds n_kinds u.2.1, ar_ h_lefts c_lefts n_lefts u.2.2.1, ar_ h_rights c_rights n_rights u.2.2.2]) (va_A [ob_Memory h_this i_size h_kinds h_lefts h_rights h_free i_freeCount h_isReached h_reached i_reachedCount, ar_ h_free c_free n_free f_free, ar_ h_kinds c_kinds n_kinds f_kinds, ar_ h_lefts c_lefts n_lefts f_lefts, ar_ h_rights c_rights n_rights f_rights] sz)) 0 0 (va_A [ob_Memory h_this i_size h_kinds h_lefts h_rights h_free i_freeCount h_isReached h_reached i_reachedCount, ar_ h_free c_free n_free f_free, ar_ h_kinds c_kinds n_kinds f_kinds, ar_ h_lefts c_lefts n_lefts f_lefts, ar_ h_rights c_rights n_rights f_rights] sz) := by
  refine Met.ofW (cc := b_Memory_nameCell) (maxL := 2) (ret := (some .int)) (by decide) rfl ?_
  intro p e s m args below meth c s₁ B hml hv
  obtain ⟨rfl, hsz, hP, hK, hD0, hG⟩ := hv
  have hx := B.exec
  have hb := B.bytes
  have hr := B.returns
  have hts : ∀ w ∈ tb, w.before _ s = true := fun w h => atoms_spec (ws := ws_ _ _ _ _) B.pre w (List.mem_cons_of_mem _ h)
  have hown : s.vm.findClass R_Memory = some m.cls := findClass_of_methodNamed B.named
  have hlocks := B.notSynchronized
  subst hsz
  have hD := hD0.self (sz := s.heap.size)
  generalize hAe : va_A [ob_Memory h_this i_size h_kinds h_lefts h_rights h_free i_freeCount h_isReached h_reached i_reachedCount, ar_ h_free c_free n_free f_free, ar_ h_kinds c_kinds n_kinds f_kinds, ar_ h_lefts c_lefts n_lefts f_lefts, ar_ h_rights c_rights n_rights f_rights] s.heap.size = A at hD hG ⊢
  have hA : ∀ q : Nat, s.heap.size ≤ q → A q := fun q h => by rw [← hAe]; exact Or.inr h
  have hS : va_S A s.heap s.heap [] := va_S.rf
  have hP : va_P (dC, dI) vwCl [ob_Memory h_this i_size h_kinds h_lefts h_rights h_free i_freeCount h_isReached h_reached i_reachedCount, ar_ h_free c_free n_free f_free, ar_ h_kinds c_kinds n_kinds f_kinds, ar_ h_lefts c_lefts n_lefts f_lefts, ar_ h_rights c_rights n_rights f_rights] s.heap := hP
  have hl := lv_entry [.ref h_this, .int x1] (n := 2) (Nat.le_of_ble_eq_true rfl)
  rw [lg_entry_eq]
  generalize (lg_sl [.ref h_this, .int x1] ++ List.replicate (2 - (lg_sl [.ref h_this, .int x1]).length) Slot.unset).toArray = ls at hl ⊢
  have hl : lv_has ls 2 [(0, .ref h_this), (1, .int x1)] := hl
  obtain ⟨Q, hQ⟩ : ∃ Q : State → Prop, Q = MQ below (va_Qi (fun (r : Int32) (u : Int32 × (Nat → Int32) × (Nat → Int32) × (Nat → Int32)) => post r u.1 u.2.1 u.2.2.1 u.2.2.2) (fun (u : Int32 × (Nat → Int32) × (Nat → Int32) × (Nat → Int32)) (t : State) => va_P (dC, dI) vwCl [ob_Memory h_this i_size h_kinds h_lefts h_rights h_free u.1 h_isReached h_reached i_reachedCount, ar_ h_free c_free n_free f_free, ar_ h_kinds c_kinds n_kinds u.2.1, ar_ h_lefts c_lefts n_lefts u.2.2.1, ar_ h_rights c_rights n_rights u.2.2.2] t.heap ∧ va_K (dC, dI) vwCl [(c_free, .int), (c_kinds, .int), (c_lefts, .int), (c_rights, .int)] t ∧ va_D A [ob_Memory h_this i_size h_kinds h_lefts h_rights h_free u.1 h_isReached h_reached i_reachedCount, ar_ h_free c_free n_free f_free, ar_ h_kinds c_kinds n_kinds u.2.1, ar_ h_lefts c_lefts n_lefts u.2.2.1, ar_ h_rights c_rights n_rights u.2.2.2]) A) ([.ref h_this, .int x1] : List Value).toArray s 0 0 A := ⟨_, rfl⟩
  rw [← hQ]
  unfold wp_Memory_nameCell at hw
  refine lv_iload_n hx hb d_Memory_nameCell_0 rfl (lv_at hl 1 rfl) ?_
  by_cases c_1 : x1 = 6
  · have hw := hw.1 c_1
    refine lv_lookup (off := 39) (tgt := 40) hx hb d_Memory_nameCell_1 (by decide) (by rw [c_1]; decide) (by decide) ?_
    refine lv_iconst (v := 2) hx hb d_Memory_nameCell_40 (by decide) ?_
    have hP9 : va_P (dC, dI) vwCl [ob_Memory h_this i_size h_kinds h_lefts h_rights h_free i_freeCount h_isReached h_reached i_reachedCount, ar_ h_free c_free n_free f_free, ar_ h_kinds c_kinds n_kinds f_kinds, ar_ h_lefts c_lefts n_lefts f_lefts, ar_ h_rights c_rights n_rights f_rights] _ := hP
    have hD9 : va_D A [ob_Memory h_this i_size h_kinds h_lefts h_rights h_free i_freeCount h_isReached h_reached i_reachedCount, ar_ h_free c_free n_free f_free, ar_ h_kinds c_kinds n_kinds f_kinds, ar_ h_lefts c_lefts n_lefts f_lefts, ar_ h_rights c_rights n_rights f_rights] := hD
    rw [hQ]
    exact W.iret (v := (2 : Int32)) hx hb hr (fun t ht hW => ⟨⟨(2 : Int32), (i_freeCount, f_kinds, f_lefts, f_rights), rfl, hw, by rw [ht]; exact hP9, va_K.moved hW.alike hK, hD9⟩, hS.F ht⟩) hS.2.2 d_Memory_nameCell_41
  have hw := hw.2 c_1
  by_cases c_2 : x1 = 20
  · have hw := hw.1 c_2
    refine lv_lookup (off := 37) (tgt := 38) hx hb d_Memory_nameCell_1 (by decide) (by rw [c_2]; decide) (by decide) ?_
    refine lv_iconst (v := 1) hx hb d_Memory_nameCell_38 (by decide) ?_
    have hP9 : va_P (dC, dI) vwCl [ob_Memory h_this i_size h_kinds h_lefts h_rights h_free i_freeCount h_isReached h_reached i_reachedCount, ar_ h_free c_free n_free f_free, ar_ h_kinds c_kinds n_kinds f_kinds, ar_ h_lefts c_lefts n_lefts f_lefts, ar_ h_rights c_rights n_rights f_rights] _ := hP
    have hD9 : va_D A [ob_Memory h_this i_size h_kinds h_lefts h_rights h_free i_freeCount h_isReached h_reached i_reachedCount, ar_ h_free c_free n_free f_free, ar_ h_kinds c_kinds n_kinds f_kinds, ar_ h_lefts c_lefts n_lefts f_lefts, ar_ h_rights c_rights n_rights f_rights] := hD
    rw [hQ]
    exact W.iret (v := (1 : Int32)) hx hb hr (fun t ht hW => ⟨⟨(1 : Int32), (i_freeCount, f_kinds, f_lefts, f_rights), rfl, hw, by rw [ht]; exact hP9, va_K.moved hW.alike hK, hD9⟩, hS.F ht⟩) hS.2.2 d_Memory_nameCell_39
  have hw := hw.2 c_2
  by_cases c_3 : x1 = 14636
  · have hw := hw.1 c_3
    refine lv_lookup (off := 35) (tgt := 36) hx hb d_Memory_nameCell_1 (by decide) (by rw [c_3]; decide) (by decide) ?_
    refine lv_iconst (v := 0) hx hb d_Memory_nameCell_36 (by decide) ?_
    have hP9 : va_P (dC, dI) vwCl [ob_Memory h_this i_size h_kinds h_lefts h_rights h_free i_freeCount h_isReached h_reached i_reachedCount, ar_ h_free c_free n_free f_free, ar_ h_kinds c_kinds n_kinds f_kinds, ar_ h_lefts c_lefts n_lefts f_lefts, ar_ h_rights c_rights n_rights f_rights] _ := hP
    have hD9 : va_D A [ob_Memory h_this i_size h_kinds h_lefts h_rights h_free i_freeCount h_isReached h_reached i_reachedCount, ar_ h_free c_free n_free f_free, ar_ h_kinds c_kinds n_kinds f_kinds, ar_ h_lefts c_lefts n_lefts f_lefts, ar_ h_rights c_rights n_rights f_rights] := hD
    rw [hQ]
    exact W.iret (v := (0 : Int32)) hx hb hr (fun t ht hW => ⟨⟨(0 : Int32), (i_freeCount, f_kinds, f_lefts, f_rights), rfl, hw, by rw [ht]; exact hP9, va_K.moved hW.alike hK, hD9⟩, hS.F ht⟩) hS.2.2 d_Memory_nameCell_37
  have hw := hw.2 c_3
  refine lv_lookup (off := 41) (tgt := 42) hx hb d_Memory_nameCell_1 (by decide) (by dsimp only; rw [lv_osw c_1 (show (6 : Int32).toInt = 6 by decide), lv_osw c_2 (show (20 : Int32).toInt = 20 by decide), lv_osw c_3 (show (14636 : Int32).toInt = 14636 by decide)]; rfl) (by decide) ?_
  refine lv_aload_n hx hb d_Memory_nameCell_42 rfl (lv_at hl 0 rfl) ?_
  refine lv_iconst (v := 1) hx hb d_Memory_nameCell_43 (by decide) ?_
  refine lv_iload_n hx hb d_Memory_nameCell_44 rfl (lv_at hl 1 rfl) ?_
  refine lv_iconst (v := 0) hx hb d_Memory_nameCell_45 (by decide) ?_
  have hPc := hP.sub (ws' := [ob_Memory h_this i_size h_kinds h_lefts h_rights h_free i_freeCount h_isReached h_reached i_reachedCount, ar_ h_free c_free n_free f_free, ar_ h_kinds c_kinds n_kinds f_kinds, ar_ h_lefts c_lefts n_lefts f_lefts, ar_ h_rights c_rights n_rights f_rights]) [0, 1, 2, 3, 4] rfl
  have hDc := hD.sub (ws' := [ob_Memory h_this i_size h_kinds h_lefts h_rights h_free i_freeCount h_isReached h_reached i_reachedCount, ar_ h_free c_free n_free f_free, ar_ h_kinds c_kinds n_kinds f_kinds, ar_ h_lefts c_lefts n_lefts f_lefts, ar_ h_rights c_rights n_rights f_rights]) [0, 1, 2, 3, 4] (by decide) rfl
  have hKc := hK.sub (tys' := [(c_free, .int), (c_kinds, .int), (c_lefts, .int), (c_rights, .int)]) [0, 1, 2, 3] rfl
  have hFc := va_free (wc := [ob_Memory h_this i_size h_kinds h_lefts h_rights h_free i_freeCount h_isReached h_reached i_reachedCount, ar_ h_free c_free n_free f_free, ar_ h_kinds c_kinds n_kinds f_kinds, ar_ h_lefts c_lefts n_lefts f_lefts, ar_ h_rights c_rights n_rights f_rights]) hD hS hA [0, 1, 2, 3, 4] rfl
  refine va_calli (va_runV (As := [.int (1 : Int32), .int x1, .int (0 : Int32)]) (rest := []) ⟨hx, hb, hml, hown, hts⟩ (c_Memory_take l dC dI h_this h_free h_kinds h_lefts h_rights h_isReached h_reached c_free c_kinds c_lefts c_rights s.heap.size n_free n_kinds n_lefts n_rights i_size i_freeCount i_reachedCount f_free f_kinds f_lefts f_rights (1 : Int32) x1 (0 : Int32) _ hw) (cwV 3 hts (gd_V kt_584 kt_586 ks_26 kt_12 kt_587) rfl rfl rfl (by decide +kernel) ⟨Nat.le_of_ble_eq_true rfl, Nat.le_of_ble_eq_true rfl⟩) ⟨pre_blind, va_recv hKc hPc (ci := 4) (q0 := 0) rfl rfl, pre_ok hPc hKc hDc hG hS hFc⟩ rfl rfl hl.1 rfl (lv_room (Nat.le_of_ble_eq_true rfl)) d_Memory_nameCell_46 ⟨Nat.zero_le _, Nat.zero_le _⟩) hS (fun q _ h => hFc q h) hFc (fun r_4 u t H1 locs ht hvm hw hB hz1 hk1 hS => ?_)
  obtain ⟨i_freeCount_5, f_kinds_6, f_lefts_7, f_rights_8⟩ := u
  obtain ⟨hP1, hK1, hD1⟩ := hB
  rw [ht] at hP1
  try dsimp only at hw
  obtain ⟨hP, hD⟩ := va_join (wr := []) (w1 := [ob_Memory h_this i_size h_kinds h_lefts h_rights h_free i_freeCount_5 h_isReached h_reached i_reachedCount, ar_ h_free c_free n_free f_free, ar_ h_kinds c_kinds n_kinds f_kinds_6, ar_ h_lefts c_lefts n_lefts f_lefts_7, ar_ h_rights c_rights n_rights f_rights_8]) hP hD [0, 1, 2, 3, 4] [] rfl rfl (by decide) (by decide) hk1 hFc hP1 hD1
  generalize H1 = H at hP hS ⊢
  have hP : va_P (dC, dI) vwCl [ob_Memory h_this i_size h_kinds h_lefts h_rights h_free i_freeCount_5 h_isReached h_reached i_reachedCount, ar_ h_free c_free n_free f_free, ar_ h_kinds c_kinds n_kinds f_kinds_6, ar_ h_lefts c_lefts n_lefts f_lefts_7, ar_ h_rights c_rights n_rights f_rights_8] H := hP
  have hD : va_D A [ob_Memory h_this i_size h_kinds h_lefts h_rights h_free i_freeCount_5 h_isReached h_reached i_reachedCount, ar_ h_free c_free n_free f_free, ar_ h_kinds c_kinds n_kinds f_kinds_6, ar_ h_lefts c_lefts n_lefts f_lefts_7, ar_ h_rights c_rights n_rights f_rights_8] := hD
  have hP9 : va_P (dC, dI) vwCl [ob_Memory h_this i_size h_kinds h_lefts h_rights h_free i_freeCount_5 h_isReached h_reached i_reachedCount, ar_ h_free c_free n_free f_free, ar_ h_kinds c_kinds n_kinds f_kinds_6, ar_ h_lefts c_lefts n_lefts f_lefts_7, ar_ h_rights c_rights n_rights f_rights_8] _ := hP
  have hD9 : va_D A [ob_Memory h_this i_size h_kinds h_lefts h_rights h_free i_freeCount_5 h_isReached h_reached i_reachedCount, ar_ h_free c_free n_free f_free, ar_ h_kinds c_kinds n_kinds f_kinds_6, ar_ h_lefts c_lefts n_lefts f_lefts_7, ar_ h_rights c_rights n_rights f_rights_8] := hD
  rw [hQ]
  exact W.iret (v := r_4) hx hb hr (fun t ht hW => ⟨⟨r_4, (i_freeCount_5, f_kinds_6, f_lefts_7, f_rights_8), rfl, hw, by rw [ht]; exact hP9, va_K.moved hW.alike hK, hD9⟩, hS.F ht⟩) hS.2.2 d_Memory_nameCell_49

set_option maxHeartbeats 4000000 in
set_option maxRecDepth 100000 in
theorem c_Memory_newNumber (l : Launch) (dC : Nat → ClassId) (dI : Nat → Nat → Nat) (h_this : Nat) (h_free : Nat) (h_kinds : Nat) (h_lefts : Nat) (h_rights : Nat) (h_isReached : Nat) (h_reached : Nat) (c_free : ClassId) (c_kinds : ClassId) (c_lefts : ClassId) (c_rights : ClassId) (sz : Nat) (n_free : Nat) (n_kinds : Nat) (n_lefts : Nat) (n_rights : Nat) (i_size : Int32) (i_freeCount : Int32) (i_reachedCount : Int32) (f_free : Nat → Int32) (f_kinds : Nat → Int32) (f_lefts : Nat → Int32) (f_rights : Nat → Int32) (x1 : Int32) (post : Int32 → Int32 → (Nat → Int32) → (Nat → Int32) → (Nat → Int32) → Prop) (hw : wp_Memory_newNumber n_free n_kinds n_lefts n_rights i_freeCount f_free f_kinds f_lefts f_rights x1 post) : Met l y_Memory_newNumber (ws_ y_Memory_newNumber b_Memory_newNumber 2 (some .int)) { frames := 1, cells := 0, slots := 0, locals := 24 } (va_Pc [.ref h_this, .int x1] (PRE (dC, dI) vwCl [(c_free, .int), (c_kinds, .int), (c_lefts, .int), (c_rights, .int)] [ob_Memory h_this i_size h_kinds h_lefts h_rights h_free i_freeCount h_isReached h_reached i_reachedCount, ar_ h_free c_free n_free f_free, ar_ h_kinds c_kinds n_kinds f_kinds, ar_ h_lefts c_lefts n_lefts f_lefts, ar_ h_rights c_rights n_rights f_rights] sz (va_A [ob_Memory h_this i_size h_kinds h_lefts h_rights h_free i_freeCount h_isReached h_reached i_reachedCount, ar_ h_free c_free n_free f_free, ar_ h_kinds c_kinds n_kinds f_kinds, ar_ h_lefts c_lefts n_lefts f_lefts, ar_ h_rights c_rights n_rights f_rights] sz))) (va_Qi (fun (r : Int32) (u : Int32 × (Nat → Int32) × (Nat → Int32) × (Nat → Int32)) => post r u.1 u.2.1 u.2.2.1 u.2.2.2) (fun (u : Int32 × (Nat → Int32) × (Nat → Int32) × (Nat → Int32)) (t : State) => va_P (dC, dI) vwCl [ob_Memory h_this i_size h_kinds h_lefts h_rights h_free u.1 h_isReached h_reached i_reachedCount, ar_ h_free c_free n_free f_free, ar_ h_kinds c_kinds n_kinds u.2.1, ar_ h_lefts c_lefts n_lefts u.2.2.1, ar_ h_rights c_rights n_rights u.2.2.2] t.heap ∧ va_K (dC, dI) vwCl [(c_free, .int), (c_kinds, .int), (c_lefts, .int), (c_rights, .int)] t ∧ va_D (va_A [ob_Memory h_this i_size h_kinds h_lefts h_rights h_free i_freeCount h_isReached h_reached i_reachedCount, ar_ h_free c_free n_free f_free, ar_ h_kinds c_kinds n_kinds f_kinds, ar_ h_lefts c_lefts n_lefts f_lefts, ar_ h_rights c_rights n_rights f_rights] sz) [ob_Memory h_this i_size h_kinds h_lefts h_rights h_free u.1 h_isReached h_reached i_reachedCount, ar_ h_free c_free n_free f_free, ar_ h_kinds c_kinds n_kinds u.2.1, ar_ h_lefts c_lefts n_lefts u.2.2.1, ar_ h_rights c_rights n_rights u.2.2.2]) (va_A [ob_Memory h_this i_size h_kinds h_lefts h_rights h_free i_freeCount h_isReached h_reached i_reachedCount, ar_ h_free c_free n_free f_free, ar_ h_kinds c_kinds n_kinds f_kinds, ar_ h_lefts c_lefts n_lefts f_lefts, ar_ h_rights c_rights n_rights f_rights] sz)) 0 0 (va_A [ob_Memory h_this i_size h_kinds h_lefts h_rights h_free i_freeCount h_isReached h_reached i_reachedCount, ar_ h_free c_free n_free f_free, ar_ h_kinds c_kinds n_kinds f_kinds, ar_ h_lefts c_lefts n_lefts f_lefts, ar_ h_rights c_rights n_rights f_rights] sz) := by
  refine Met.ofW (cc := b_Memory_newNumber) (maxL := 2) (ret := (some .int)) (by decide) rfl ?_
  intro p e s m args below meth c s₁ B hml hv
  obtain ⟨rfl, hsz, hP, hK, hD0, hG⟩ := hv
  have hx := B.exec
  have hb := B.bytes
  have hr := B.returns
  have hts : ∀ w ∈ tb, w.before _ s = true := fun w h => atoms_spec (ws := ws_ _ _ _ _) B.pre w (List.mem_cons_of_mem _ h)
  have hown : s.vm.findClass R_Memory = some m.cls := findClass_of_methodNamed B.named
  have hlocks := B.notSynchronized
  subst hsz
  have hD := hD0.self (sz := s.heap.size)
  generalize hAe : va_A [ob_Memory h_this i_size h_kinds h_lefts h_rights h_free i_freeCount h_isReached h_reached i_reachedCount, ar_ h_free c_free n_free f_free, ar_ h_kinds c_kinds n_kinds f_kinds, ar_ h_lefts c_lefts n_lefts f_lefts, ar_ h_rights c_rights n_rights f_rights] s.heap.size = A at hD hG ⊢
  have hA : ∀ q : Nat, s.heap.size ≤ q → A q := fun q h => by rw [← hAe]; exact Or.inr h
  have hS : va_S A s.heap s.heap [] := va_S.rf
  have hP : va_P (dC, dI) vwCl [ob_Memory h_this i_size h_kinds h_lefts h_rights h_free i_freeCount h_isReached h_reached i_reachedCount, ar_ h_free c_free n_free f_free, ar_ h_kinds c_kinds n_kinds f_kinds, ar_ h_lefts c_lefts n_lefts f_lefts, ar_ h_rights c_rights n_rights f_rights] s.heap := hP
  have hl := lv_entry [.ref h_this, .int x1] (n := 2) (Nat.le_of_ble_eq_true rfl)
  rw [lg_entry_eq]
  generalize (lg_sl [.ref h_this, .int x1] ++ List.replicate (2 - (lg_sl [.ref h_this, .int x1]).length) Slot.unset).toArray = ls at hl ⊢
  have hl : lv_has ls 2 [(0, .ref h_this), (1, .int x1)] := hl
  obtain ⟨Q, hQ⟩ : ∃ Q : State → Prop, Q = MQ below (va_Qi (fun (r : Int32) (u : Int32 × (Nat → Int32) × (Nat → Int32) × (Nat → Int32)) => post r u.1 u.2.1 u.2.2.1 u.2.2.2) (fun (u : Int32 × (Nat → Int32) × (Nat → Int32) × (Nat → Int32)) (t : State) => va_P (dC, dI) vwCl [ob_Memory h_this i_size h_kinds h_lefts h_rights h_free u.1 h_isReached h_reached i_reachedCount, ar_ h_free c_free n_free f_free, ar_ h_kinds c_kinds n_kinds u.2.1, ar_ h_lefts c_lefts n_lefts u.2.2.1, ar_ h_rights c_rights n_rights u.2.2.2] t.heap ∧ va_K (dC, dI) vwCl [(c_free, .int), (c_kinds, .int), (c_lefts, .int), (c_rights, .int)] t ∧ va_D A [ob_Memory h_this i_size h_kinds h_lefts h_rights h_free u.1 h_isReached h_reached i_reachedCount, ar_ h_free c_free n_free f_free, ar_ h_kinds c_kinds n_kinds u.2.1, ar_ h_lefts c_lefts n_lefts u.2.2.1, ar_ h_rights c_rights n_rights u.2.2.2]) A) ([.ref h_this, .int x1] : List Value).toArray s 0 0 A := ⟨_, rfl⟩
  rw [← hQ]
  unfold wp_Memory_newNumber at hw
  refine lv_aload_n hx hb d_Memory_newNumber_0 rfl (lv_at hl 0 rfl) ?_
  refine lv_iconst (v := 0) hx hb d_Memory_newNumber_1 (by decide) ?_
  refine lv_iload_n hx hb d_Memory_newNumber_2 rfl (lv_at hl 1 rfl) ?_
  refine lv_iconst (v := 0) hx hb d_Memory_newNumber_3 (by decide) ?_
  have hPc := hP.sub (ws' := [ob_Memory h_this i_size h_kinds h_lefts h_rights h_free i_freeCount h_isReached h_reached i_reachedCount, ar_ h_free c_free n_free f_free, ar_ h_kinds c_kinds n_kinds f_kinds, ar_ h_lefts c_lefts n_lefts f_lefts, ar_ h_rights c_rights n_rights f_rights]) [0, 1, 2, 3, 4] rfl
  have hDc := hD.sub (ws' := [ob_Memory h_this i_size h_kinds h_lefts h_rights h_free i_freeCount h_isReached h_reached i_reachedCount, ar_ h_free c_free n_free f_free, ar_ h_kinds c_kinds n_kinds f_kinds, ar_ h_lefts c_lefts n_lefts f_lefts, ar_ h_rights c_rights n_rights f_rights]) [0, 1, 2, 3, 4] (by decide) rfl
  have hKc := hK.sub (tys' := [(c_free, .int), (c_kinds, .int), (c_lefts, .int), (c_rights, .int)]) [0, 1, 2, 3] rfl
  have hFc := va_free (wc := [ob_Memory h_this i_size h_kinds h_lefts h_rights h_free i_freeCount h_isReached h_reached i_reachedCount, ar_ h_free c_free n_free f_free, ar_ h_kinds c_kinds n_kinds f_kinds, ar_ h_lefts c_lefts n_lefts f_lefts, ar_ h_rights c_rights n_rights f_rights]) hD hS hA [0, 1, 2, 3, 4] rfl
  refine va_calli (va_runV (As := [.int (0 : Int32), .int x1, .int (0 : Int32)]) (rest := []) ⟨hx, hb, hml, hown, hts⟩ (c_Memory_take l dC dI h_this h_free h_kinds h_lefts h_rights h_isReached h_reached c_free c_kinds c_lefts c_rights s.heap.size n_free n_kinds n_lefts n_rights i_size i_freeCount i_reachedCount f_free f_kinds f_lefts f_rights (0 : Int32) x1 (0 : Int32) _ hw) (cwV 3 hts (gd_V kt_584 kt_586 ks_26 kt_12 kt_587) rfl rfl rfl (by decide +kernel) ⟨Nat.le_of_ble_eq_true rfl, Nat.le_of_ble_eq_true rfl⟩) ⟨pre_blind, va_recv hKc hPc (ci := 4) (q0 := 0) rfl rfl, pre_ok hPc hKc hDc hG hS hFc⟩ rfl rfl hl.1 rfl (lv_room (Nat.le_of_ble_eq_true rfl)) d_Memory_newNumber_4 ⟨Nat.zero_le _, Nat.zero_le _⟩) hS (fun q _ h => hFc q h) hFc (fun r_1 u t H1 locs ht hvm hw hB hz1 hk1 hS => ?_)
  obtain ⟨i_freeCount_2, f_kinds_3, f_lefts_4, f_rights_5⟩ := u
  obtain ⟨hP1, hK1, hD1⟩ := hB
  rw [ht] at hP1
  try dsimp only at hw
  obtain ⟨hP, hD⟩ := va_join (wr := []) (w1 := [ob_Memory h_this i_size h_kinds h_lefts h_rights h_free i_freeCount_2 h_isReached h_reached i_reachedCount, ar_ h_free c_free n_free f_free, ar_ h_kinds c_kinds n_kinds f_kinds_3, ar_ h_lefts c_lefts n_lefts f_lefts_4, ar_ h_rights c_rights n_rights f_rights_5]) hP hD [0, 1, 2, 3, 4] [] rfl rfl (by decide) (by decide) hk1 hFc hP1 hD1
  generalize H1 = H at hP hS ⊢
  have hP : va_P (dC, dI) vwCl [ob_Memory h_this i_size h_kinds h_lefts h_rights h_free i_freeCount_2 h_isReached h_reached i_reachedCount, ar_ h_free c_free n_free f_free, ar_ h_kinds c_kinds n_kinds f_kinds_3, ar_ h_lefts c_lefts n_lefts f_lefts_4, ar_ h_rights c_rights n_rights f_rights_5] H := hP
  have hD : va_D A [ob_Memory h_this i_size h_kinds h_lefts h_rights h_free i_freeCount_2 h_isReached h_reached i_reachedCount, ar_ h_free c_free n_free f_free, ar_ h_kinds c_kinds n_kinds f_kinds_3, ar_ h_lefts c_lefts n_lefts f_lefts_4, ar_ h_rights c_rights n_rights f_rights_5] := hD
  have hP9 : va_P (dC, dI) vwCl [ob_Memory h_this i_size h_kinds h_lefts h_rights h_free i_freeCount_2 h_isReached h_reached i_reachedCount, ar_ h_free c_free n_free f_free, ar_ h_kinds c_kinds n_kinds f_kinds_3, ar_ h_lefts c_lefts n_lefts f_lefts_4, ar_ h_rights c_rights n_rights f_rights_5] _ := hP
  have hD9 : va_D A [ob_Memory h_this i_size h_kinds h_lefts h_rights h_free i_freeCount_2 h_isReached h_reached i_reachedCount, ar_ h_free c_free n_free f_free, ar_ h_kinds c_kinds n_kinds f_kinds_3, ar_ h_lefts c_lefts n_lefts f_lefts_4, ar_ h_rights c_rights n_rights f_rights_5] := hD
  rw [hQ]
  exact W.iret (v := r_1) hx hb hr (fun t ht hW => ⟨⟨r_1, (i_freeCount_2, f_kinds_3, f_lefts_4, f_rights_5), rfl, hw, by rw [ht]; exact hP9, va_K.moved hW.alike hK, hD9⟩, hS.F ht⟩) hS.2.2 d_Memory_newNumber_7

set_option maxHeartbeats 4000000 in
set_option maxRecDepth 100000 in
theorem c_Memory_isPair (l : Launch) (dC : Nat → ClassId) (dI : Nat → Nat → Nat) (h_this : Nat) (h_kinds : Nat) (h_lefts : Nat) (h_rights : Nat) (h_free : Nat) (h_isReached : Nat) (h_reached : Nat) (c_kinds : ClassId) (sz : Nat) (n_kinds : Nat) (i_size : Int32) (i_freeCount : Int32) (i_reachedCount : Int32) (f_kinds : Nat → Int32) (x1 : Int32) (post : Int32 → Prop) (hw : wp_Memory_isPair n_kinds f_kinds x1 post) : Met l y_Memory_isPair (ws_ y_Memory_isPair b_Memory_isPair 2 (some .boolean)) { frames := 0, cells := 0, slots := 0, locals := 0 } (va_Pc [.ref h_this, .int x1] (PRE (dC, dI) vwCl [(c_kinds, .int)] [ob_Memory h_this i_size h_kinds h_lefts h_rights h_free i_freeCount h_isReached h_reached i_reachedCount, ar_ h_kinds c_kinds n_kinds f_kinds] sz (va_A [ob_Memory h_this i_size h_kinds h_lefts h_rights h_free i_freeCount h_isReached h_reached i_reachedCount, ar_ h_kinds c_kinds n_kinds f_kinds] sz))) (va_Qi (fun (r : Int32) (u : Unit) => post r ) (fun (u : Unit) (t : State) => va_P (dC, dI) vwCl [ob_Memory h_this i_size h_kinds h_lefts h_rights h_free i_freeCount h_isReached h_reached i_reachedCount, ar_ h_kinds c_kinds n_kinds f_kinds] t.heap ∧ va_K (dC, dI) vwCl [(c_kinds, .int)] t ∧ va_D (va_A [ob_Memory h_this i_size h_kinds h_lefts h_rights h_free i_freeCount h_isReached h_reached i_reachedCount, ar_ h_kinds c_kinds n_kinds f_kinds] sz) [ob_Memory h_this i_size h_kinds h_lefts h_rights h_free i_freeCount h_isReached h_reached i_reachedCount, ar_ h_kinds c_kinds n_kinds f_kinds]) (va_A [ob_Memory h_this i_size h_kinds h_lefts h_rights h_free i_freeCount h_isReached h_reached i_reachedCount, ar_ h_kinds c_kinds n_kinds f_kinds] sz)) 0 0 (va_A [ob_Memory h_this i_size h_kinds h_lefts h_rights h_free i_freeCount h_isReached h_reached i_reachedCount, ar_ h_kinds c_kinds n_kinds f_kinds] sz) := by
  refine Met.ofW (cc := b_Memory_isPair) (maxL := 2) (ret := (some .boolean)) (by decide) rfl ?_
  intro p e s m args below meth c s₁ B hml hv
  obtain ⟨rfl, hsz, hP, hK, hD0, hG⟩ := hv
  have hx := B.exec
  have hb := B.bytes
  have hr := B.returns
  have hts : ∀ w ∈ tb, w.before _ s = true := fun w h => atoms_spec (ws := ws_ _ _ _ _) B.pre w (List.mem_cons_of_mem _ h)
  have hown : s.vm.findClass R_Memory = some m.cls := findClass_of_methodNamed B.named
  have hlocks := B.notSynchronized
  subst hsz
  have hD := hD0.self (sz := s.heap.size)
  generalize hAe : va_A [ob_Memory h_this i_size h_kinds h_lefts h_rights h_free i_freeCount h_isReached h_reached i_reachedCount, ar_ h_kinds c_kinds n_kinds f_kinds] s.heap.size = A at hD hG ⊢
  have hA : ∀ q : Nat, s.heap.size ≤ q → A q := fun q h => by rw [← hAe]; exact Or.inr h
  have hS : va_S A s.heap s.heap [] := va_S.rf
  have hP : va_P (dC, dI) vwCl [ob_Memory h_this i_size h_kinds h_lefts h_rights h_free i_freeCount h_isReached h_reached i_reachedCount, ar_ h_kinds c_kinds n_kinds f_kinds] s.heap := hP
  have hl := lv_entry [.ref h_this, .int x1] (n := 2) (Nat.le_of_ble_eq_true rfl)
  rw [lg_entry_eq]
  generalize (lg_sl [.ref h_this, .int x1] ++ List.replicate (2 - (lg_sl [.ref h_this, .int x1]).length) Slot.unset).toArray = ls at hl ⊢
  have hl : lv_has ls 2 [(0, .ref h_this), (1, .int x1)] := hl
  obtain ⟨Q, hQ⟩ : ∃ Q : State → Prop, Q = MQ below (va_Qi (fun (r : Int32) (u : Unit) => post r ) (fun (u : Unit) (t : State) => va_P (dC, dI) vwCl [ob_Memory h_this i_size h_kinds h_lefts h_rights h_free i_freeCount h_isReached h_reached i_reachedCount, ar_ h_kinds c_kinds n_kinds f_kinds] t.heap ∧ va_K (dC, dI) vwCl [(c_kinds, .int)] t ∧ va_D A [ob_Memory h_this i_size h_kinds h_lefts h_rights h_free i_freeCount h_isReached h_reached i_reachedCount, ar_ h_kinds c_kinds n_kinds f_kinds]) A) ([.ref h_this, .int x1] : List Value).toArray s 0 0 A := ⟨_, rfl⟩
  rw [← hQ]
  unfold wp_Memory_isPair at hw
  refine lv_aload_n hx hb d_Memory_isPair_0 rfl (lv_at hl 0 rfl) ?_
  refine va_get (D := (dC, dI)) (ci := 4) (v := .ref h_kinds) (C := R_Memory) (T := T_Memory) (N := 9) hx hb hts in_Memory hown hK hP 0 rfl rfl 1 (by decide) (hts _ kt_189) (fun _ h9 => h9) rfl d_Memory_isPair_1 ?_
  refine lv_iload_n hx hb d_Memory_isPair_4 rfl (lv_at hl 1 rfl) ?_
  obtain ⟨h_1, hw⟩ := hw
  refine va_iald hx hb hK hP 1 0 rfl rfl h_1 d_Memory_isPair_5 ?_
  refine lv_iconst (v := 2) hx hb d_Memory_isPair_6 (by decide) ?_
  refine lv_icmp_ne (tgt := 14) hx hb d_Memory_isPair_7 (by decide) (fun c_2 => ?_) (fun c_2 => ?_)
  · have hw := hw.2 c_2
    refine lv_iconst (v := 0) hx hb d_Memory_isPair_14 (by decide) ?_
    have hP9 : va_P (dC, dI) vwCl [ob_Memory h_this i_size h_kinds h_lefts h_rights h_free i_freeCount h_isReached h_reached i_reachedCount, ar_ h_kinds c_kinds n_kinds f_kinds] _ := hP
    have hD9 : va_D A [ob_Memory h_this i_size h_kinds h_lefts h_rights h_free i_freeCount h_isReached h_reached i_reachedCount, ar_ h_kinds c_kinds n_kinds f_kinds] := hD
    rw [hQ]
    exact W.zret (v := (0 : Int32)) hx hb hr rfl (fun t ht hW => ⟨⟨(0 : Int32), (), rfl, hw, by rw [ht]; exact hP9, va_K.moved hW.alike hK, hD9⟩, hS.F ht⟩) hS.2.2 d_Memory_isPair_15
  · have hw := hw.1 c_2
    refine lv_iconst (v := 1) hx hb d_Memory_isPair_10 (by decide) ?_
    refine lv_goto (tgt := 15) hx hb d_Memory_isPair_11 (by decide) ?_
    have hP9 : va_P (dC, dI) vwCl [ob_Memory h_this i_size h_kinds h_lefts h_rights h_free i_freeCount h_isReached h_reached i_reachedCount, ar_ h_kinds c_kinds n_kinds f_kinds] _ := hP
    have hD9 : va_D A [ob_Memory h_this i_size h_kinds h_lefts h_rights h_free i_freeCount h_isReached h_reached i_reachedCount, ar_ h_kinds c_kinds n_kinds f_kinds] := hD
    rw [hQ]
    exact W.zret (v := (1 : Int32)) hx hb hr rfl (fun t ht hW => ⟨⟨(1 : Int32), (), rfl, hw, by rw [ht]; exact hP9, va_K.moved hW.alike hK, hD9⟩, hS.F ht⟩) hS.2.2 d_Memory_isPair_15

set_option maxHeartbeats 4000000 in
set_option maxRecDepth 100000 in
theorem c_Memory_hasAddress (l : Launch) (dC : Nat → ClassId) (dI : Nat → Nat → Nat) (h_this : Nat) (h_kinds : Nat) (h_lefts : Nat) (h_rights : Nat) (h_free : Nat) (h_isReached : Nat) (h_reached : Nat) (c_kinds : ClassId) (sz : Nat) (n_kinds : Nat) (i_size : Int32) (i_freeCount : Int32) (i_reachedCount : Int32) (f_kinds : Nat → Int32) (x1 : Int32) (post : Int32 → Prop) (hw : wp_Memory_hasAddress n_kinds f_kinds x1 post) : Met l y_Memory_hasAddress (ws_ y_Memory_hasAddress b_Memory_hasAddress 2 (some .boolean)) { frames := 0, cells := 0, slots := 0, locals := 0 } (va_Pc [.ref h_this, .int x1] (PRE (dC, dI) vwCl [(c_kinds, .int)] [ob_Memory h_this i_size h_kinds h_lefts h_rights h_free i_freeCount h_isReached h_reached i_reachedCount, ar_ h_kinds c_kinds n_kinds f_kinds] sz (va_A [ob_Memory h_this i_size h_kinds h_lefts h_rights h_free i_freeCount h_isReached h_reached i_reachedCount, ar_ h_kinds c_kinds n_kinds f_kinds] sz))) (va_Qi (fun (r : Int32) (u : Unit) => post r ) (fun (u : Unit) (t : State) => va_P (dC, dI) vwCl [ob_Memory h_this i_size h_kinds h_lefts h_rights h_free i_freeCount h_isReached h_reached i_reachedCount, ar_ h_kinds c_kinds n_kinds f_kinds] t.heap ∧ va_K (dC, dI) vwCl [(c_kinds, .int)] t ∧ va_D (va_A [ob_Memory h_this i_size h_kinds h_lefts h_rights h_free i_freeCount h_isReached h_reached i_reachedCount, ar_ h_kinds c_kinds n_kinds f_kinds] sz) [ob_Memory h_this i_size h_kinds h_lefts h_rights h_free i_freeCount h_isReached h_reached i_reachedCount, ar_ h_kinds c_kinds n_kinds f_kinds]) (va_A [ob_Memory h_this i_size h_kinds h_lefts h_rights h_free i_freeCount h_isReached h_reached i_reachedCount, ar_ h_kinds c_kinds n_kinds f_kinds] sz)) 0 0 (va_A [ob_Memory h_this i_size h_kinds h_lefts h_rights h_free i_freeCount h_isReached h_reached i_reachedCount, ar_ h_kinds c_kinds n_kinds f_kinds] sz) := by
  refine Met.ofW (cc := b_Memory_hasAddress) (maxL := 2) (ret := (some .boolean)) (by decide) rfl ?_
  intro p e s m args below meth c s₁ B hml hv
  obtain ⟨rfl, hsz, hP, hK, hD0, hG⟩ := hv
  have hx := B.exec
  have hb := B.bytes
  have hr := B.returns
  have hts : ∀ w ∈ tb, w.before _ s = true := fun w h => atoms_spec (ws := ws_ _ _ _ _) B.pre w (List.mem_cons_of_mem _ h)
  have hown : s.vm.findClass R_Memory = some m.cls := findClass_of_methodNamed B.named
  have hlocks := B.notSynchronized
  subst hsz
  have hD := hD0.self (sz := s.heap.size)
  generalize hAe : va_A [ob_Memory h_this i_size h_kinds h_lefts h_rights h_free i_freeCount h_isReached h_reached i_reachedCount, ar_ h_kinds c_kinds n_kinds f_kinds] s.heap.size = A at hD hG ⊢
  have hA : ∀ q : Nat, s.heap.size ≤ q → A q := fun q h => by rw [← hAe]; exact Or.inr h
  have hS : va_S A s.heap s.heap [] := va_S.rf
  have hP : va_P (dC, dI) vwCl [ob_Memory h_this i_size h_kinds h_lefts h_rights h_free i_freeCount h_isReached h_reached i_reachedCount, ar_ h_kinds c_kinds n_kinds f_kinds] s.heap := hP
  have hl := lv_entry [.ref h_this, .int x1] (n := 2) (Nat.le_of_ble_eq_true rfl)
  rw [lg_entry_eq]
  generalize (lg_sl [.ref h_this, .int x1] ++ List.replicate (2 - (lg_sl [.ref h_this, .int x1]).length) Slot.unset).toArray = ls at hl ⊢
  have hl : lv_has ls 2 [(0, .ref h_this), (1, .int x1)] := hl
  obtain ⟨Q, hQ⟩ : ∃ Q : State → Prop, Q = MQ below (va_Qi (fun (r : Int32) (u : Unit) => post r ) (fun (u : Unit) (t : State) => va_P (dC, dI) vwCl [ob_Memory h_this i_size h_kinds h_lefts h_rights h_free i_freeCount h_isReached h_reached i_reachedCount, ar_ h_kinds c_kinds n_kinds f_kinds] t.heap ∧ va_K (dC, dI) vwCl [(c_kinds, .int)] t ∧ va_D A [ob_Memory h_this i_size h_kinds h_lefts h_rights h_free i_freeCount h_isReached h_reached i_reachedCount, ar_ h_kinds c_kinds n_kinds f_kinds]) A) ([.ref h_this, .int x1] : List Value).toArray s 0 0 A := ⟨_, rfl⟩
  rw [← hQ]
  unfold wp_Memory_hasAddress at hw
  refine lv_aload_n hx hb d_Memory_hasAddress_0 rfl (lv_at hl 0 rfl) ?_
  refine va_get (D := (dC, dI)) (ci := 4) (v := .ref h_kinds) (C := R_Memory) (T := T_Memory) (N := 9) hx hb hts in_Memory hown hK hP 0 rfl rfl 1 (by decide) (hts _ kt_189) (fun _ h9 => h9) rfl d_Memory_hasAddress_1 ?_
  refine lv_iload_n hx hb d_Memory_hasAddress_4 rfl (lv_at hl 1 rfl) ?_
  obtain ⟨h_1, hw⟩ := hw
  refine va_iald hx hb hK hP 1 0 rfl rfl h_1 d_Memory_hasAddress_5 ?_
  refine lv_iconst (v := 3) hx hb d_Memory_hasAddress_6 (by decide) ?_
  refine lv_icmp_eq (tgt := 20) hx hb d_Memory_hasAddress_7 (by decide) (fun c_2 => ?_) (fun c_2 => ?_)
  · have hw := hw.1 c_2
    refine lv_iconst (v := 1) hx hb d_Memory_hasAddress_20 (by decide) ?_
    refine lv_goto (tgt := 25) hx hb d_Memory_hasAddress_21 (by decide) ?_
    have hP9 : va_P (dC, dI) vwCl [ob_Memory h_this i_size h_kinds h_lefts h_rights h_free i_freeCount h_isReached h_reached i_reachedCount, ar_ h_kinds c_kinds n_kinds f_kinds] _ := hP
    have hD9 : va_D A [ob_Memory h_this i_size h_kinds h_lefts h_rights h_free i_freeCount h_isReached h_reached i_reachedCount, ar_ h_kinds c_kinds n_kinds f_kinds] := hD
    rw [hQ]
    exact W.zret (v := (1 : Int32)) hx hb hr rfl (fun t ht hW => ⟨⟨(1 : Int32), (), rfl, hw, by rw [ht]; exact hP9, va_K.moved hW.alike hK, hD9⟩, hS.F ht⟩) hS.2.2 d_Memory_hasAddress_25
  · have hw := hw.2 c_2
    refine lv_aload_n hx hb d_Memory_hasAddress_10 rfl (lv_at hl 0 rfl) ?_
    refine va_get (D := (dC, dI)) (ci := 4) (v := .ref h_kinds) (C := R_Memory) (T := T_Memory) (N := 9) hx hb hts in_Memory hown hK hP 0 rfl rfl 1 (by decide) (hts _ kt_189) (fun _ h9 => h9) rfl d_Memory_hasAddress_11 ?_
    refine lv_iload_n hx hb d_Memory_hasAddress_14 rfl (lv_at hl 1 rfl) ?_
    obtain ⟨h_3, hw⟩ := hw
    refine va_iald hx hb hK hP 1 0 rfl rfl h_3 d_Memory_hasAddress_15 ?_
    refine lv_iconst (v := 4) hx hb d_Memory_hasAddress_16 (by decide) ?_
    refine lv_icmp_ne (tgt := 24) hx hb d_Memory_hasAddress_17 (by decide) (fun c_4 => ?_) (fun c_4 => ?_)
    · have hw := hw.2 c_4
      refine lv_iconst (v := 0) hx hb d_Memory_hasAddress_24 (by decide) ?_
      have hP9 : va_P (dC, dI) vwCl [ob_Memory h_this i_size h_kinds h_lefts h_rights h_free i_freeCount h_isReached h_reached i_reachedCount, ar_ h_kinds c_kinds n_kinds f_kinds] _ := hP
      have hD9 : va_D A [ob_Memory h_this i_size h_kinds h_lefts h_rights h_free i_freeCount h_isReached h_reached i_reachedCount, ar_ h_kinds c_kinds n_kinds f_kinds] := hD
      rw [hQ]
      exact W.zret (v := (0 : Int32)) hx hb hr rfl (fun t ht hW => ⟨⟨(0 : Int32), (), rfl, hw, by rw [ht]; exact hP9, va_K.moved hW.alike hK, hD9⟩, hS.F ht⟩) hS.2.2 d_Memory_hasAddress_25
    · have hw := hw.1 c_4
      refine lv_iconst (v := 1) hx hb d_Memory_hasAddress_20 (by decide) ?_
      refine lv_goto (tgt := 25) hx hb d_Memory_hasAddress_21 (by decide) ?_
      have hP9 : va_P (dC, dI) vwCl [ob_Memory h_this i_size h_kinds h_lefts h_rights h_free i_freeCount h_isReached h_reached i_reachedCount, ar_ h_kinds c_kinds n_kinds f_kinds] _ := hP
      have hD9 : va_D A [ob_Memory h_this i_size h_kinds h_lefts h_rights h_free i_freeCount h_isReached h_reached i_reachedCount, ar_ h_kinds c_kinds n_kinds f_kinds] := hD
      rw [hQ]
      exact W.zret (v := (1 : Int32)) hx hb hr rfl (fun t ht hW => ⟨⟨(1 : Int32), (), rfl, hw, by rw [ht]; exact hP9, va_K.moved hW.alike hK, hD9⟩, hS.F ht⟩) hS.2.2 d_Memory_hasAddress_25

set_option maxHeartbeats 4000000 in
set_option maxRecDepth 100000 in
theorem c_Memory_marksFrom (l : Launch) (dC : Nat → ClassId) (dI : Nat → Nat → Nat) (h_this : Nat) (h_kinds : Nat) (h_rights : Nat) (h_lefts : Nat) (h_free : Nat) (h_isReached : Nat) (h_reached : Nat) (c_kinds : ClassId) (c_rights : ClassId) (sz : Nat) (n_kinds : Nat) (n_rights : Nat) (i_size : Int32) (i_freeCount : Int32) (i_reachedCount : Int32) (f_kinds : Nat → Int32) (f_rights : Nat → Int32) (x1 : Int32) (post : Int32 → Prop) (hw : wp_Memory_marksFrom n_kinds n_rights i_size f_kinds f_rights x1 post) : Met l y_Memory_marksFrom (ws_ y_Memory_marksFrom b_Memory_marksFrom 5 (some .int)) { frames := 1, cells := 0, slots := 0, locals := 21 } (va_Pc [.ref h_this, .int x1] (PRE (dC, dI) vwCl [(c_kinds, .int), (c_rights, .int)] [ob_Memory h_this i_size h_kinds h_lefts h_rights h_free i_freeCount h_isReached h_reached i_reachedCount, ar_ h_kinds c_kinds n_kinds f_kinds, ar_ h_rights c_rights n_rights f_rights] sz (va_A [ob_Memory h_this i_size h_kinds h_lefts h_rights h_free i_freeCount h_isReached h_reached i_reachedCount, ar_ h_kinds c_kinds n_kinds f_kinds, ar_ h_rights c_rights n_rights f_rights] sz))) (va_Qi (fun (r : Int32) (u : Unit) => post r ) (fun (u : Unit) (t : State) => va_P (dC, dI) vwCl [ob_Memory h_this i_size h_kinds h_lefts h_rights h_free i_freeCount h_isReached h_reached i_reachedCount, ar_ h_kinds c_kinds n_kinds f_kinds, ar_ h_rights c_rights n_rights f_rights] t.heap ∧ va_K (dC, dI) vwCl [(c_kinds, .int), (c_rights, .int)] t ∧ va_D (va_A [ob_Memory h_this i_size h_kinds h_lefts h_rights h_free i_freeCount h_isReached h_reached i_reachedCount, ar_ h_kinds c_kinds n_kinds f_kinds, ar_ h_rights c_rights n_rights f_rights] sz) [ob_Memory h_this i_size h_kinds h_lefts h_rights h_free i_freeCount h_isReached h_reached i_reachedCount, ar_ h_kinds c_kinds n_kinds f_kinds, ar_ h_rights c_rights n_rights f_rights]) (va_A [ob_Memory h_this i_size h_kinds h_lefts h_rights h_free i_freeCount h_isReached h_reached i_reachedCount, ar_ h_kinds c_kinds n_kinds f_kinds, ar_ h_rights c_rights n_rights f_rights] sz)) 0 0 (va_A [ob_Memory h_this i_size h_kinds h_lefts h_rights h_free i_freeCount h_isReached h_reached i_reachedCount, ar_ h_kinds c_kinds n_kinds f_kinds, ar_ h_rights c_rights n_rights f_rights] sz) := by
  refine Met.ofW (cc := b_Memory_marksFrom) (maxL := 5) (ret := (some .int)) (by decide) rfl ?_
  intro p e s m args below meth c s₁ B hml hv
  obtain ⟨rfl, hsz, hP, hK, hD0, hG⟩ := hv
  have hx := B.exec
  have hb := B.bytes
  have hr := B.returns
  have hts : ∀ w ∈ tb, w.before _ s = true := fun w h => atoms_spec (ws := ws_ _ _ _ _) B.pre w (List.mem_cons_of_mem _ h)
  have hown : s.vm.findClass R_Memory = some m.cls := findClass_of_methodNamed B.named
  have hlocks := B.notSynchronized
  subst hsz
  have hD := hD0.self (sz := s.heap.size)
  generalize hAe : va_A [ob_Memory h_this i_size h_kinds h_lefts h_rights h_free i_freeCount h_isReached h_reached i_reachedCount, ar_ h_kinds c_kinds n_kinds f_kinds, ar_ h_rights c_rights n_rights f_rights] s.heap.size = A at hD hG ⊢
  have hA : ∀ q : Nat, s.heap.size ≤ q → A q := fun q h => by rw [← hAe]; exact Or.inr h
  have hS : va_S A s.heap s.heap [] := va_S.rf
  have hP : va_P (dC, dI) vwCl [ob_Memory h_this i_size h_kinds h_lefts h_rights h_free i_freeCount h_isReached h_reached i_reachedCount, ar_ h_kinds c_kinds n_kinds f_kinds, ar_ h_rights c_rights n_rights f_rights] s.heap := hP
  have hl := lv_entry [.ref h_this, .int x1] (n := 5) (Nat.le_of_ble_eq_true rfl)
  rw [lg_entry_eq]
  generalize (lg_sl [.ref h_this, .int x1] ++ List.replicate (5 - (lg_sl [.ref h_this, .int x1]).length) Slot.unset).toArray = ls at hl ⊢
  have hl : lv_has ls 5 [(0, .ref h_this), (1, .int x1)] := hl
  obtain ⟨Q, hQ⟩ : ∃ Q : State → Prop, Q = MQ below (va_Qi (fun (r : Int32) (u : Unit) => post r ) (fun (u : Unit) (t : State) => va_P (dC, dI) vwCl [ob_Memory h_this i_size h_kinds h_lefts h_rights h_free i_freeCount h_isReached h_reached i_reachedCount, ar_ h_kinds c_kinds n_kinds f_kinds, ar_ h_rights c_rights n_rights f_rights] t.heap ∧ va_K (dC, dI) vwCl [(c_kinds, .int), (c_rights, .int)] t ∧ va_D A [ob_Memory h_this i_size h_kinds h_lefts h_rights h_free i_freeCount h_isReached h_reached i_reachedCount, ar_ h_kinds c_kinds n_kinds f_kinds, ar_ h_rights c_rights n_rights f_rights]) A) ([.ref h_this, .int x1] : List Value).toArray s 0 0 A := ⟨_, rfl⟩
  rw [← hQ]
  unfold wp_Memory_marksFrom at hw
  refine lv_iconst (v := 0) hx hb d_Memory_marksFrom_0 (by decide) ?_
  refine lv_istore_n (lv' := [(2, .int (0 : Int32)), (0, .ref h_this), (1, .int x1)]) hx hb d_Memory_marksFrom_1 rfl hl (by decide) rfl (fun ls hl => ?_)
  refine lv_iload_n hx hb d_Memory_marksFrom_2 rfl (lv_at hl 2 rfl) ?_
  refine lv_istore_n (lv' := [(3, .int x1), (2, .int (0 : Int32)), (0, .ref h_this), (1, .int x1)]) hx hb d_Memory_marksFrom_3 rfl hl (by decide) rfl (fun ls hl => ?_)
  refine lv_iconst (v := 0) hx hb d_Memory_marksFrom_4 (by decide) ?_
  refine lv_istore (lv' := [(4, .int (0 : Int32)), (3, .int x1), (2, .int (0 : Int32)), (0, .ref h_this), (1, .int x1)]) hx hb d_Memory_marksFrom_5 hl (by decide) rfl (fun ls hl => ?_)
  have L7 : ∀ fu7 : Nat, ∀ (v2 : Int32) (v3 : Int32) (v4 : Int32) (H : Heap) (locs : List Loc) (ls : Array Slot), lv_has ls 5 [(0, .ref h_this), (2, .int v2), (3, .int v3), (4, .int v4)] → va_P (dC, dI) vwCl [ob_Memory h_this i_size h_kinds h_lefts h_rights h_free i_freeCount h_isReached h_reached i_reachedCount, ar_ h_kinds c_kinds n_kinds f_kinds, ar_ h_rights c_rights n_rights f_rights] H → va_D A [ob_Memory h_this i_size h_kinds h_lefts h_rights h_free i_freeCount h_isReached h_reached i_reachedCount, ar_ h_kinds c_kinds n_kinds f_kinds, ar_ h_rights c_rights n_rights f_rights] → va_S A s.heap H locs → wp_Memory_marksFrom_L7 n_kinds n_rights i_size f_kinds f_rights post fu7 v2 v3 v4 → W p l e (headSpec (ws_ y_Memory_marksFrom b_Memory_marksFrom 5 (some .int)) { frames := 1, cells := 0, slots := 0, locals := 21 }).room s m ([.ref h_this, .int x1] : List Value).toArray below meth c H locs 0 0 Q (F0 m 7 ls []) := by
    intro fu7
    induction fu7 with
    | zero => intro v2 v3 v4 H locs ls hl hP hD hS hw; exact False.elim hw
    | succ fu7 ih7 =>
        intro v2 v3 v4 H locs ls hl hP hD hS hw
        unfold wp_Memory_marksFrom_L7 at hw
        have J43 : ∀ (v2 : Int32) (v3 : Int32) (v4 : Int32) (H : Heap) (locs : List Loc) (ls : Array Slot), lv_has ls 5 [(0, .ref h_this), (2, .int v2), (3, .int v3), (4, .int v4)] → va_P (dC, dI) vwCl [ob_Memory h_this i_size h_kinds h_lefts h_rights h_free i_freeCount h_isReached h_reached i_reachedCount, ar_ h_kinds c_kinds n_kinds f_kinds, ar_ h_rights c_rights n_rights f_rights] H → va_D A [ob_Memory h_this i_size h_kinds h_lefts h_rights h_free i_freeCount h_isReached h_reached i_reachedCount, ar_ h_kinds c_kinds n_kinds f_kinds, ar_ h_rights c_rights n_rights f_rights] → va_S A s.heap H locs → wp_Memory_marksFrom_J43 n_kinds n_rights i_size f_kinds f_rights (wp_Memory_marksFrom_L7 n_kinds n_rights i_size f_kinds f_rights post fu7) post v2 v3 v4 → W p l e (headSpec (ws_ y_Memory_marksFrom b_Memory_marksFrom 5 (some .int)) { frames := 1, cells := 0, slots := 0, locals := 21 }).room s m ([.ref h_this, .int x1] : List Value).toArray below meth c H locs 0 0 Q (F0 m 43 ls []) := by
          intro v2 v3 v4 H locs ls hl hP hD hS hw
          unfold wp_Memory_marksFrom_J43 at hw
          refine lv_aload_n hx hb d_Memory_marksFrom_43 rfl (lv_at hl 0 rfl) ?_
          refine va_get (D := (dC, dI)) (ci := 4) (v := .ref h_rights) (C := R_Memory) (T := T_Memory) (N := 9) hx hb hts in_Memory hown hK hP 0 rfl rfl 3 (by decide) (hts _ kt_191) (fun _ h9 => h9) rfl d_Memory_marksFrom_44 ?_
          refine lv_iload_n hx hb d_Memory_marksFrom_47 rfl (lv_at hl 2 rfl) ?_
          obtain ⟨h_1, hw⟩ := hw
          refine va_iald hx hb hK hP 2 1 rfl rfl h_1 d_Memory_marksFrom_48 ?_
          refine lv_istore_n (lv' := [(3, .int (f_rights v3.toNatClampNeg)), (0, .ref h_this), (2, .int v2), (4, .int v4)]) hx hb d_Memory_marksFrom_49 rfl hl (by decide) rfl (fun ls hl => ?_)
          refine lv_iinc (v := v4 + (1 : Int32)) (lv' := [(4, .int (v4 + (1 : Int32))), (3, .int (f_rights v3.toNatClampNeg)), (0, .ref h_this), (2, .int v2)]) hx hb d_Memory_marksFrom_50 hl (k := 3) rfl rfl (by decide) rfl (fun ls hl => ?_)
          refine lv_goto (tgt := 7) hx hb d_Memory_marksFrom_53 (by decide) ?_
          exact ih7 v2 (f_rights v3.toNatClampNeg) (v4 + (1 : Int32)) _ _ ls (lv_sub hl [2, 3, 1, 0] rfl) hP hD hS hw
        have J32 : ∀ (v2 : Int32) (v3 : Int32) (v4 : Int32) (H : Heap) (locs : List Loc) (ls : Array Slot), lv_has ls 5 [(0, .ref h_this), (2, .int v2), (3, .int v3), (4, .int v4)] → va_P (dC, dI) vwCl [ob_Memory h_this i_size h_kinds h_lefts h_rights h_free i_freeCount h_isReached h_reached i_reachedCount, ar_ h_kinds c_kinds n_kinds f_kinds, ar_ h_rights c_rights n_rights f_rights] H → va_D A [ob_Memory h_this i_size h_kinds h_lefts h_rights h_free i_freeCount h_isReached h_reached i_reachedCount, ar_ h_kinds c_kinds n_kinds f_kinds, ar_ h_rights c_rights n_rights f_rights] → va_S A s.heap H locs → wp_Memory_marksFrom_J32 n_kinds n_rights i_size f_kinds f_rights (wp_Memory_marksFrom_L7 n_kinds n_rights i_size f_kinds f_rights post fu7) post v2 v3 v4 → W p l e (headSpec (ws_ y_Memory_marksFrom b_Memory_marksFrom 5 (some .int)) { frames := 1, cells := 0, slots := 0, locals := 21 }).room s m ([.ref h_this, .int x1] : List Value).toArray below meth c H locs 0 0 Q (F0 m 32 ls []) := by
          intro v2 v3 v4 H locs ls hl hP hD hS hw
          unfold wp_Memory_marksFrom_J32 at hw
          refine lv_aload_n hx hb d_Memory_marksFrom_32 rfl (lv_at hl 0 rfl) ?_
          refine lv_iload_n hx hb d_Memory_marksFrom_33 rfl (lv_at hl 2 rfl) ?_
          have hPc := hP.sub (ws' := [ob_Memory h_this i_size h_kinds h_lefts h_rights h_free i_freeCount h_isReached h_reached i_reachedCount, ar_ h_kinds c_kinds n_kinds f_kinds]) [0, 1] rfl
          have hDc := hD.sub (ws' := [ob_Memory h_this i_size h_kinds h_lefts h_rights h_free i_freeCount h_isReached h_reached i_reachedCount, ar_ h_kinds c_kinds n_kinds f_kinds]) [0, 1] (by decide) rfl
          have hKc := hK.sub (tys' := [(c_kinds, .int)]) [0] rfl
          have hFc := va_free (wc := [ob_Memory h_this i_size h_kinds h_lefts h_rights h_free i_freeCount h_isReached h_reached i_reachedCount, ar_ h_kinds c_kinds n_kinds f_kinds]) hD hS hA [0, 1] rfl
          refine va_calli (va_runV (As := [.int v3]) (rest := []) ⟨hx, hb, hml, hown, hts⟩ (c_Memory_isPair l dC dI h_this h_kinds h_lefts h_rights h_free h_isReached h_reached c_kinds H.size n_kinds i_size i_freeCount i_reachedCount f_kinds v3 _ hw) (cwV 1 hts (gd_V kt_637 kt_638 kt_639 kt_12 kt_640) rfl rfl rfl (by decide +kernel) ⟨Nat.le_of_ble_eq_true rfl, Nat.le_of_ble_eq_true rfl⟩) ⟨pre_blind, va_recv hKc hPc (ci := 4) (q0 := 0) rfl rfl, pre_ok hPc hKc hDc hG hS hFc⟩ rfl rfl hl.1 rfl (lv_room (Nat.le_of_ble_eq_true rfl)) d_Memory_marksFrom_34 ⟨Nat.zero_le _, Nat.zero_le _⟩) hS (fun q _ h => hFc q h) hFc (fun r_2 u t H1 locs ht hvm hw hB hz1 hk1 hS => ?_)
          obtain ⟨hP1, hK1, hD1⟩ := hB
          rw [ht] at hP1
          try dsimp only at hw
          obtain ⟨hP, hD⟩ := va_join (wr := [ar_ h_rights c_rights n_rights f_rights]) (w1 := [ob_Memory h_this i_size h_kinds h_lefts h_rights h_free i_freeCount h_isReached h_reached i_reachedCount, ar_ h_kinds c_kinds n_kinds f_kinds]) hP hD [0, 1] [2] rfl rfl (by decide) (by decide) hk1 hFc hP1 hD1
          generalize H1 = H at hP hS ⊢
          have hP : va_P (dC, dI) vwCl [ar_ h_rights c_rights n_rights f_rights, ob_Memory h_this i_size h_kinds h_lefts h_rights h_free i_freeCount h_isReached h_reached i_reachedCount, ar_ h_kinds c_kinds n_kinds f_kinds] H := hP
          have hD : va_D A [ar_ h_rights c_rights n_rights f_rights, ob_Memory h_this i_size h_kinds h_lefts h_rights h_free i_freeCount h_isReached h_reached i_reachedCount, ar_ h_kinds c_kinds n_kinds f_kinds] := hD
          refine lv_if_ne (tgt := 43) hx hb d_Memory_marksFrom_37 (by decide) (fun c_3 => ?_) (fun c_3 => ?_)
          · have hw := hw.2 c_3
            exact J43 v2 v3 v4 _ _ ls (lv_sub hl [0, 1, 2, 3] rfl) (hP.sub [1, 2, 0] rfl) (hD.sub [1, 2, 0] (by decide) rfl) hS hw
          · have hw := hw.1 c_3
            refine lv_iinc (v := v2 + (1 : Int32)) (lv' := [(2, .int (v2 + (1 : Int32))), (0, .ref h_this), (3, .int v3), (4, .int v4)]) hx hb d_Memory_marksFrom_40 hl (k := 1) rfl rfl (by decide) rfl (fun ls hl => ?_)
            exact J43 (v2 + (1 : Int32)) v3 v4 _ _ ls (lv_sub hl [1, 0, 2, 3] rfl) (hP.sub [1, 2, 0] rfl) (hD.sub [1, 2, 0] (by decide) rfl) hS hw
        refine lv_iload hx hb d_Memory_marksFrom_7 (lv_at hl 3 rfl) ?_
        refine lv_aload_n hx hb d_Memory_marksFrom_9 rfl (lv_at hl 0 rfl) ?_
        refine va_get (D := (dC, dI)) (ci := 4) (v := .int i_size) (C := R_Memory) (T := T_Memory) (N := 9) hx hb hts in_Memory hown hK hP 0 rfl rfl 0 (by decide) (hts _ kt_186) (fun _ h9 => h9) rfl d_Memory_marksFrom_10 ?_
        refine lv_icmp_ge (tgt := 56) hx hb d_Memory_marksFrom_13 (by decide) (fun c_4 => ?_) (fun c_4 => ?_)
        · have hw := hw.1 c_4
          refine lv_iload_n hx hb d_Memory_marksFrom_56 rfl (lv_at hl 1 rfl) ?_
          have hP9 : va_P (dC, dI) vwCl [ob_Memory h_this i_size h_kinds h_lefts h_rights h_free i_freeCount h_isReached h_reached i_reachedCount, ar_ h_kinds c_kinds n_kinds f_kinds, ar_ h_rights c_rights n_rights f_rights] _ := hP
          have hD9 : va_D A [ob_Memory h_this i_size h_kinds h_lefts h_rights h_free i_freeCount h_isReached h_reached i_reachedCount, ar_ h_kinds c_kinds n_kinds f_kinds, ar_ h_rights c_rights n_rights f_rights] := hD
          rw [hQ]
          exact W.iret (v := v2) hx hb hr (fun t ht hW => ⟨⟨v2, (), rfl, hw, by rw [ht]; exact hP9, va_K.moved hW.alike hK, hD9⟩, hS.F ht⟩) hS.2.2 d_Memory_marksFrom_57
        · have hw := hw.2 c_4
          refine lv_aload_n hx hb d_Memory_marksFrom_16 rfl (lv_at hl 0 rfl) ?_
          refine lv_iload_n hx hb d_Memory_marksFrom_17 rfl (lv_at hl 2 rfl) ?_
          have hPc := hP.sub (ws' := [ob_Memory h_this i_size h_kinds h_lefts h_rights h_free i_freeCount h_isReached h_reached i_reachedCount, ar_ h_kinds c_kinds n_kinds f_kinds]) [0, 1] rfl
          have hDc := hD.sub (ws' := [ob_Memory h_this i_size h_kinds h_lefts h_rights h_free i_freeCount h_isReached h_reached i_reachedCount, ar_ h_kinds c_kinds n_kinds f_kinds]) [0, 1] (by decide) rfl
          have hKc := hK.sub (tys' := [(c_kinds, .int)]) [0] rfl
          have hFc := va_free (wc := [ob_Memory h_this i_size h_kinds h_lefts h_rights h_free i_freeCount h_isReached h_reached i_reachedCount, ar_ h_kinds c_kinds n_kinds f_kinds]) hD hS hA [0, 1] rfl
          refine va_calli (va_runV (As := [.int v3]) (rest := []) ⟨hx, hb, hml, hown, hts⟩ (c_Memory_isPair l dC dI h_this h_kinds h_lefts h_rights h_free h_isReached h_reached c_kinds H.size n_kinds i_size i_freeCount i_reachedCount f_kinds v3 _ hw) (cwV 1 hts (gd_V kt_637 kt_638 kt_639 kt_12 kt_640) rfl rfl rfl (by decide +kernel) ⟨Nat.le_of_ble_eq_true rfl, Nat.le_of_ble_eq_true rfl⟩) ⟨pre_blind, va_recv hKc hPc (ci := 4) (q0 := 0) rfl rfl, pre_ok hPc hKc hDc hG hS hFc⟩ rfl rfl hl.1 rfl (lv_room (Nat.le_of_ble_eq_true rfl)) d_Memory_marksFrom_18 ⟨Nat.zero_le _, Nat.zero_le _⟩) hS (fun q _ h => hFc q h) hFc (fun r_5 u t H1 locs ht hvm hw hB hz1 hk1 hS => ?_)
          obtain ⟨hP1, hK1, hD1⟩ := hB
          rw [ht] at hP1
          try dsimp only at hw
          obtain ⟨hP, hD⟩ := va_join (wr := [ar_ h_rights c_rights n_rights f_rights]) (w1 := [ob_Memory h_this i_size h_kinds h_lefts h_rights h_free i_freeCount h_isReached h_reached i_reachedCount, ar_ h_kinds c_kinds n_kinds f_kinds]) hP hD [0, 1] [2] rfl rfl (by decide) (by decide) hk1 hFc hP1 hD1
          generalize H1 = H at hP hS ⊢
          have hP : va_P (dC, dI) vwCl [ar_ h_rights c_rights n_rights f_rights, ob_Memory h_this i_size h_kinds h_lefts h_rights h_free i_freeCount h_isReached h_reached i_reachedCount, ar_ h_kinds c_kinds n_kinds f_kinds] H := hP
          have hD : va_D A [ar_ h_rights c_rights n_rights f_rights, ob_Memory h_this i_size h_kinds h_lefts h_rights h_free i_freeCount h_isReached h_reached i_reachedCount, ar_ h_kinds c_kinds n_kinds f_kinds] := hD
          refine lv_if_ne (tgt := 32) hx hb d_Memory_marksFrom_21 (by decide) (fun c_6 => ?_) (fun c_6 => ?_)
          · have hw := hw.2 c_6
            exact J32 v2 v3 v4 _ _ ls (lv_sub hl [0, 1, 2, 3] rfl) (hP.sub [1, 2, 0] rfl) (hD.sub [1, 2, 0] (by decide) rfl) hS hw
          · have hw := hw.1 c_6
            refine lv_aload_n hx hb d_Memory_marksFrom_24 rfl (lv_at hl 0 rfl) ?_
            refine lv_iload_n hx hb d_Memory_marksFrom_25 rfl (lv_at hl 2 rfl) ?_
            have hPc := hP.sub (ws' := [ob_Memory h_this i_size h_kinds h_lefts h_rights h_free i_freeCount h_isReached h_reached i_reachedCount, ar_ h_kinds c_kinds n_kinds f_kinds]) [1, 2] rfl
            have hDc := hD.sub (ws' := [ob_Memory h_this i_size h_kinds h_lefts h_rights h_free i_freeCount h_isReached h_reached i_reachedCount, ar_ h_kinds c_kinds n_kinds f_kinds]) [1, 2] (by decide) rfl
            have hKc := hK.sub (tys' := [(c_kinds, .int)]) [0] rfl
            have hFc := va_free (wc := [ob_Memory h_this i_size h_kinds h_lefts h_rights h_free i_freeCount h_isReached h_reached i_reachedCount, ar_ h_kinds c_kinds n_kinds f_kinds]) hD hS hA [1, 2] rfl
            refine va_calli (va_runV (As := [.int v3]) (rest := []) ⟨hx, hb, hml, hown, hts⟩ (c_Memory_hasAddress l dC dI h_this h_kinds h_lefts h_rights h_free h_isReached h_reached c_kinds H.size n_kinds i_size i_freeCount i_reachedCount f_kinds v3 _ hw) (cwV 1 hts (gd_V kt_641 kt_643 ks_29 kt_12 kt_644) rfl rfl rfl (by decide +kernel) ⟨Nat.le_of_ble_eq_true rfl, Nat.le_of_ble_eq_true rfl⟩) ⟨pre_blind, va_recv hKc hPc (ci := 4) (q0 := 0) rfl rfl, pre_ok hPc hKc hDc hG hS hFc⟩ rfl rfl hl.1 rfl (lv_room (Nat.le_of_ble_eq_true rfl)) d_Memory_marksFrom_26 ⟨Nat.zero_le _, Nat.zero_le _⟩) hS (fun q _ h => hFc q h) hFc (fun r_7 u t H1 locs ht hvm hw hB hz1 hk1 hS => ?_)
            obtain ⟨hP1, hK1, hD1⟩ := hB
            rw [ht] at hP1
            try dsimp only at hw
            obtain ⟨hP, hD⟩ := va_join (wr := [ar_ h_rights c_rights n_rights f_rights]) (w1 := [ob_Memory h_this i_size h_kinds h_lefts h_rights h_free i_freeCount h_isReached h_reached i_reachedCount, ar_ h_kinds c_kinds n_kinds f_kinds]) hP hD [1, 2] [0] rfl rfl (by decide) (by decide) hk1 hFc hP1 hD1
            generalize H1 = H at hP hS ⊢
            have hP : va_P (dC, dI) vwCl [ar_ h_rights c_rights n_rights f_rights, ob_Memory h_this i_size h_kinds h_lefts h_rights h_free i_freeCount h_isReached h_reached i_reachedCount, ar_ h_kinds c_kinds n_kinds f_kinds] H := hP
            have hD : va_D A [ar_ h_rights c_rights n_rights f_rights, ob_Memory h_this i_size h_kinds h_lefts h_rights h_free i_freeCount h_isReached h_reached i_reachedCount, ar_ h_kinds c_kinds n_kinds f_kinds] := hD
            refine lv_if_eq (tgt := 56) hx hb d_Memory_marksFrom_29 (by decide) (fun c_8 => ?_) (fun c_8 => ?_)
            · have hw := hw.1 c_8
              refine lv_iload_n hx hb d_Memory_marksFrom_56 rfl (lv_at hl 1 rfl) ?_
              have hP9 : va_P (dC, dI) vwCl [ob_Memory h_this i_size h_kinds h_lefts h_rights h_free i_freeCount h_isReached h_reached i_reachedCount, ar_ h_kinds c_kinds n_kinds f_kinds, ar_ h_rights c_rights n_rights f_rights] _ := (hP.sub [1, 2, 0] rfl)
              have hD9 : va_D A [ob_Memory h_this i_size h_kinds h_lefts h_rights h_free i_freeCount h_isReached h_reached i_reachedCount, ar_ h_kinds c_kinds n_kinds f_kinds, ar_ h_rights c_rights n_rights f_rights] := (hD.sub [1, 2, 0] (by decide) rfl)
              rw [hQ]
              exact W.iret (v := v2) hx hb hr (fun t ht hW => ⟨⟨v2, (), rfl, hw, by rw [ht]; exact hP9, va_K.moved hW.alike hK, hD9⟩, hS.F ht⟩) hS.2.2 d_Memory_marksFrom_57
            · have hw := hw.2 c_8
              exact J32 v2 v3 v4 _ _ ls (lv_sub hl [0, 1, 2, 3] rfl) (hP.sub [1, 2, 0] rfl) (hD.sub [1, 2, 0] (by decide) rfl) hS hw
  obtain ⟨fu7, hw⟩ := hw
  exact L7   fu7 (0 : Int32) x1 (0 : Int32) _ _ ls (lv_sub hl [3, 2, 1, 0] rfl) hP hD hS hw

set_option maxHeartbeats 4000000 in
set_option maxRecDepth 100000 in
theorem c_Memory_pairsFrom (l : Launch) (dC : Nat → ClassId) (dI : Nat → Nat → Nat) (h_this : Nat) (h_kinds : Nat) (h_rights : Nat) (h_lefts : Nat) (h_free : Nat) (h_isReached : Nat) (h_reached : Nat) (c_kinds : ClassId) (c_rights : ClassId) (sz : Nat) (n_kinds : Nat) (n_rights : Nat) (i_size : Int32) (i_freeCount : Int32) (i_reachedCount : Int32) (f_kinds : Nat → Int32) (f_rights : Nat → Int32) (x1 : Int32) (post : Int32 → Prop) (hw : wp_Memory_pairsFrom n_kinds n_rights i_size f_kinds f_rights x1 post) : Met l y_Memory_pairsFrom (ws_ y_Memory_pairsFrom b_Memory_pairsFrom 4 (some .int)) { frames := 1, cells := 0, slots := 0, locals := 21 } (va_Pc [.ref h_this, .int x1] (PRE (dC, dI) vwCl [(c_kinds, .int), (c_rights, .int)] [ob_Memory h_this i_size h_kinds h_lefts h_rights h_free i_freeCount h_isReached h_reached i_reachedCount, ar_ h_kinds c_kinds n_kinds f_kinds, ar_ h_rights c_rights n_rights f_rights] sz (va_A [ob_Memory h_this i_size h_kinds h_lefts h_rights h_free i_freeCount h_isReached h_reached i_reachedCount, ar_ h_kinds c_kinds n_kinds f_kinds, ar_ h_rights c_rights n_rights f_rights] sz))) (va_Qi (fun (r : Int32) (u : Unit) => post r ) (fun (u : Unit) (t : State) => va_P (dC, dI) vwCl [ob_Memory h_this i_size h_kinds h_lefts h_rights h_free i_freeCount h_isReached h_reached i_reachedCount, ar_ h_kinds c_kinds n_kinds f_kinds, ar_ h_rights c_rights n_rights f_rights] t.heap ∧ va_K (dC, dI) vwCl [(c_kinds, .int), (c_rights, .int)] t ∧ va_D (va_A [ob_Memory h_this i_size h_kinds h_lefts h_rights h_free i_freeCount h_isReached h_reached i_reachedCount, ar_ h_kinds c_kinds n_kinds f_kinds, ar_ h_rights c_rights n_rights f_rights] sz) [ob_Memory h_this i_size h_kinds h_lefts h_rights h_free i_freeCount h_isReached h_reached i_reachedCount, ar_ h_kinds c_kinds n_kinds f_kinds, ar_ h_rights c_rights n_rights f_rights]) (va_A [ob_Memory h_this i_size h_kinds h_lefts h_rights h_free i_freeCount h_isReached h_reached i_reachedCount, ar_ h_kinds c_kinds n_kinds f_kinds, ar_ h_rights c_rights n_rights f_rights] sz)) 0 0 (va_A [ob_Memory h_this i_size h_kinds h_lefts h_rights h_free i_freeCount h_isReached h_reached i_reachedCount, ar_ h_kinds c_kinds n_kinds f_kinds, ar_ h_rights c_rights n_rights f_rights] sz) := by
  refine Met.ofW (cc := b_Memory_pairsFrom) (maxL := 4) (ret := (some .int)) (by decide) rfl ?_
  intro p e s m args below meth c s₁ B hml hv
  obtain ⟨rfl, hsz, hP, hK, hD0, hG⟩ := hv
  have hx := B.exec
  have hb := B.bytes
  have hr := B.returns
  have hts : ∀ w ∈ tb, w.before _ s = true := fun w h => atoms_spec (ws := ws_ _ _ _ _) B.pre w (List.mem_cons_of_mem _ h)
  have hown : s.vm.findClass R_Memory = some m.cls := findClass_of_methodNamed B.named
  have hlocks := B.notSynchronized
  subst hsz
  have hD := hD0.self (sz := s.heap.size)
  generalize hAe : va_A [ob_Memory h_this i_size h_kinds h_lefts h_rights h_free i_freeCount h_isReached h_reached i_reachedCount, ar_ h_kinds c_kinds n_kinds f_kinds, ar_ h_rights c_rights n_rights f_rights] s.heap.size = A at hD hG ⊢
  have hA : ∀ q : Nat, s.heap.size ≤ q → A q := fun q h => by rw [← hAe]; exact Or.inr h
  have hS : va_S A s.heap s.heap [] := va_S.rf
  have hP : va_P (dC, dI) vwCl [ob_Memory h_this i_size h_kinds h_lefts h_rights h_free i_freeCount h_isReached h_reached i_reachedCount, ar_ h_kinds c_kinds n_kinds f_kinds, ar_ h_rights c_rights n_rights f_rights] s.heap := hP
  have hl := lv_entry [.ref h_this, .int x1] (n := 4) (Nat.le_of_ble_eq_true rfl)
  rw [lg_entry_eq]
  generalize (lg_sl [.ref h_this, .int x1] ++ List.replicate (4 - (lg_sl [.ref h_this, .int x1]).length) Slot.unset).toArray = ls at hl ⊢
  have hl : lv_has ls 4 [(0, .ref h_this), (1, .int x1)] := hl
  obtain ⟨Q, hQ⟩ : ∃ Q : State → Prop, Q = MQ below (va_Qi (fun (r : Int32) (u : Unit) => post r ) (fun (u : Unit) (t : State) => va_P (dC, dI) vwCl [ob_Memory h_this i_size h_kinds h_lefts h_rights h_free i_freeCount h_isReached h_reached i_reachedCount, ar_ h_kinds c_kinds n_kinds f_kinds, ar_ h_rights c_rights n_rights f_rights] t.heap ∧ va_K (dC, dI) vwCl [(c_kinds, .int), (c_rights, .int)] t ∧ va_D A [ob_Memory h_this i_size h_kinds h_lefts h_rights h_free i_freeCount h_isReached h_reached i_reachedCount, ar_ h_kinds c_kinds n_kinds f_kinds, ar_ h_rights c_rights n_rights f_rights]) A) ([.ref h_this, .int x1] : List Value).toArray s 0 0 A := ⟨_, rfl⟩
  rw [← hQ]
  unfold wp_Memory_pairsFrom at hw
  refine lv_iconst (v := 0) hx hb d_Memory_pairsFrom_0 (by decide) ?_
  refine lv_istore_n (lv' := [(2, .int (0 : Int32)), (0, .ref h_this), (1, .int x1)]) hx hb d_Memory_pairsFrom_1 rfl hl (by decide) rfl (fun ls hl => ?_)
  refine lv_iload_n hx hb d_Memory_pairsFrom_2 rfl (lv_at hl 2 rfl) ?_
  refine lv_istore_n (lv' := [(3, .int x1), (2, .int (0 : Int32)), (0, .ref h_this), (1, .int x1)]) hx hb d_Memory_pairsFrom_3 rfl hl (by decide) rfl (fun ls hl => ?_)
  have L4 : ∀ fu4 : Nat, ∀ (v2 : Int32) (v3 : Int32) (H : Heap) (locs : List Loc) (ls : Array Slot), lv_has ls 4 [(0, .ref h_this), (2, .int v2), (3, .int v3)] → va_P (dC, dI) vwCl [ob_Memory h_this i_size h_kinds h_lefts h_rights h_free i_freeCount h_isReached h_reached i_reachedCount, ar_ h_kinds c_kinds n_kinds f_kinds, ar_ h_rights c_rights n_rights f_rights] H → va_D A [ob_Memory h_this i_size h_kinds h_lefts h_rights h_free i_freeCount h_isReached h_reached i_reachedCount, ar_ h_kinds c_kinds n_kinds f_kinds, ar_ h_rights c_rights n_rights f_rights] → va_S A s.heap H locs → wp_Memory_pairsFrom_L4 n_kinds n_rights i_size f_kinds f_rights post fu4 v2 v3 → W p l e (headSpec (ws_ y_Memory_pairsFrom b_Memory_pairsFrom 4 (some .int)) { frames := 1, cells := 0, slots := 0, locals := 21 }).room s m ([.ref h_this, .int x1] : List Value).toArray below meth c H locs 0 0 Q (F0 m 4 ls []) := by
    intro fu4
    induction fu4 with
    | zero => intro v2 v3 H locs ls hl hP hD hS hw; exact False.elim hw
    | succ fu4 ih4 =>
        intro v2 v3 H locs ls hl hP hD hS hw
        unfold wp_Memory_pairsFrom_L4 at hw
        refine lv_iload_n hx hb d_Memory_pairsFrom_4 rfl (lv_at hl 1 rfl) ?_
        refine lv_aload_n hx hb d_Memory_pairsFrom_5 rfl (lv_at hl 0 rfl) ?_
        refine va_get (D := (dC, dI)) (ci := 4) (v := .int i_size) (C := R_Memory) (T := T_Memory) (N := 9) hx hb hts in_Memory hown hK hP 0 rfl rfl 0 (by decide) (hts _ kt_186) (fun _ h9 => h9) rfl d_Memory_pairsFrom_6 ?_
        refine lv_icmp_ge (tgt := 33) hx hb d_Memory_pairsFrom_9 (by decide) (fun c_1 => ?_) (fun c_1 => ?_)
        · have hw := hw.1 c_1
          refine lv_iload_n hx hb d_Memory_pairsFrom_33 rfl (lv_at hl 1 rfl) ?_
          have hP9 : va_P (dC, dI) vwCl [ob_Memory h_this i_size h_kinds h_lefts h_rights h_free i_freeCount h_isReached h_reached i_reachedCount, ar_ h_kinds c_kinds n_kinds f_kinds, ar_ h_rights c_rights n_rights f_rights] _ := hP
          have hD9 : va_D A [ob_Memory h_this i_size h_kinds h_lefts h_rights h_free i_freeCount h_isReached h_reached i_reachedCount, ar_ h_kinds c_kinds n_kinds f_kinds, ar_ h_rights c_rights n_rights f_rights] := hD
          rw [hQ]
          exact W.iret (v := v2) hx hb hr (fun t ht hW => ⟨⟨v2, (), rfl, hw, by rw [ht]; exact hP9, va_K.moved hW.alike hK, hD9⟩, hS.F ht⟩) hS.2.2 d_Memory_pairsFrom_34
        · have hw := hw.2 c_1
          refine lv_aload_n hx hb d_Memory_pairsFrom_12 rfl (lv_at hl 0 rfl) ?_
          refine lv_iload_n hx hb d_Memory_pairsFrom_13 rfl (lv_at hl 2 rfl) ?_
          have hPc := hP.sub (ws' := [ob_Memory h_this i_size h_kinds h_lefts h_rights h_free i_freeCount h_isReached h_reached i_reachedCount, ar_ h_kinds c_kinds n_kinds f_kinds]) [0, 1] rfl
          have hDc := hD.sub (ws' := [ob_Memory h_this i_size h_kinds h_lefts h_rights h_free i_freeCount h_isReached h_reached i_reachedCount, ar_ h_kinds c_kinds n_kinds f_kinds]) [0, 1] (by decide) rfl
          have hKc := hK.sub (tys' := [(c_kinds, .int)]) [0] rfl
          have hFc := va_free (wc := [ob_Memory h_this i_size h_kinds h_lefts h_rights h_free i_freeCount h_isReached h_reached i_reachedCount, ar_ h_kinds c_kinds n_kinds f_kinds]) hD hS hA [0, 1] rfl
          refine va_calli (va_runV (As := [.int v3]) (rest := []) ⟨hx, hb, hml, hown, hts⟩ (c_Memory_isPair l dC dI h_this h_kinds h_lefts h_rights h_free h_isReached h_reached c_kinds H.size n_kinds i_size i_freeCount i_reachedCount f_kinds v3 _ hw) (cwV 1 hts (gd_V kt_637 kt_638 kt_639 kt_12 kt_640) rfl rfl rfl (by decide +kernel) ⟨Nat.le_of_ble_eq_true rfl, Nat.le_of_ble_eq_true rfl⟩) ⟨pre_blind, va_recv hKc hPc (ci := 4) (q0 := 0) rfl rfl, pre_ok hPc hKc hDc hG hS hFc⟩ rfl rfl hl.1 rfl (lv_room (Nat.le_of_ble_eq_true rfl)) d_Memory_pairsFrom_14 ⟨Nat.zero_le _, Nat.zero_le _⟩) hS (fun q _ h => hFc q h) hFc (fun r_2 u t H1 locs ht hvm hw hB hz1 hk1 hS => ?_)
          obtain ⟨hP1, hK1, hD1⟩ := hB
          rw [ht] at hP1
          try dsimp only at hw
          obtain ⟨hP, hD⟩ := va_join (wr := [ar_ h_rights c_rights n_rights f_rights]) (w1 := [ob_Memory h_this i_size h_kinds h_lefts h_rights h_free i_freeCount h_isReached h_reached i_reachedCount, ar_ h_kinds c_kinds n_kinds f_kinds]) hP hD [0, 1] [2] rfl rfl (by decide) (by decide) hk1 hFc hP1 hD1
          generalize H1 = H at hP hS ⊢
          have hP : va_P (dC, dI) vwCl [ar_ h_rights c_rights n_rights f_rights, ob_Memory h_this i_size h_kinds h_lefts h_rights h_free i_freeCount h_isReached h_reached i_reachedCount, ar_ h_kinds c_kinds n_kinds f_kinds] H := hP
          have hD : va_D A [ar_ h_rights c_rights n_rights f_rights, ob_Memory h_this i_size h_kinds h_lefts h_rights h_free i_freeCount h_isReached h_reached i_reachedCount, ar_ h_kinds c_kinds n_kinds f_kinds] := hD
          refine lv_if_eq (tgt := 33) hx hb d_Memory_pairsFrom_17 (by decide) (fun c_3 => ?_) (fun c_3 => ?_)
          · have hw := hw.1 c_3
            refine lv_iload_n hx hb d_Memory_pairsFrom_33 rfl (lv_at hl 1 rfl) ?_
            have hP9 : va_P (dC, dI) vwCl [ob_Memory h_this i_size h_kinds h_lefts h_rights h_free i_freeCount h_isReached h_reached i_reachedCount, ar_ h_kinds c_kinds n_kinds f_kinds, ar_ h_rights c_rights n_rights f_rights] _ := (hP.sub [1, 2, 0] rfl)
            have hD9 : va_D A [ob_Memory h_this i_size h_kinds h_lefts h_rights h_free i_freeCount h_isReached h_reached i_reachedCount, ar_ h_kinds c_kinds n_kinds f_kinds, ar_ h_rights c_rights n_rights f_rights] := (hD.sub [1, 2, 0] (by decide) rfl)
            rw [hQ]
            exact W.iret (v := v2) hx hb hr (fun t ht hW => ⟨⟨v2, (), rfl, hw, by rw [ht]; exact hP9, va_K.moved hW.alike hK, hD9⟩, hS.F ht⟩) hS.2.2 d_Memory_pairsFrom_34
          · have hw := hw.2 c_3
            refine lv_iinc (v := v2 + (1 : Int32)) (lv' := [(2, .int (v2 + (1 : Int32))), (0, .ref h_this), (3, .int v3)]) hx hb d_Memory_pairsFrom_20 hl (k := 1) rfl rfl (by decide) rfl (fun ls hl => ?_)
            refine lv_aload_n hx hb d_Memory_pairsFrom_23 rfl (lv_at hl 1 rfl) ?_
            refine va_get (D := (dC, dI)) (ci := 4) (v := .ref h_rights) (C := R_Memory) (T := T_Memory) (N := 9) hx hb hts in_Memory hown hK hP 1 rfl rfl 3 (by decide) (hts _ kt_191) (fun _ h9 => h9) rfl d_Memory_pairsFrom_24 ?_
            refine lv_iload_n hx hb d_Memory_pairsFrom_27 rfl (lv_at hl 2 rfl) ?_
            obtain ⟨h_4, hw⟩ := hw
            refine va_iald hx hb hK hP 0 1 rfl rfl h_4 d_Memory_pairsFrom_28 ?_
            refine lv_istore_n (lv' := [(3, .int (f_rights v3.toNatClampNeg)), (2, .int (v2 + (1 : Int32))), (0, .ref h_this)]) hx hb d_Memory_pairsFrom_29 rfl hl (by decide) rfl (fun ls hl => ?_)
            refine lv_goto (tgt := 4) hx hb d_Memory_pairsFrom_30 (by decide) ?_
            exact ih4 (v2 + (1 : Int32)) (f_rights v3.toNatClampNeg) _ _ ls (lv_sub hl [2, 1, 0] rfl) (hP.sub [1, 2, 0] rfl) (hD.sub [1, 2, 0] (by decide) rfl) hS hw
  obtain ⟨fu4, hw⟩ := hw
  exact L4   fu4 (0 : Int32) x1 _ _ ls (lv_sub hl [2, 1, 0] rfl) hP hD hS hw

set_option maxHeartbeats 4000000 in
set_option maxRecDepth 100000 in
theorem c_Memory_spreadReach (l : Launch) (dC : Nat → ClassId) (dI : Nat → Nat → Nat) (h_this : Nat) (h_isReached : Nat) (h_kinds : Nat) (h_lefts : Nat) (h_reached : Nat) (h_rights : Nat) (h_free : Nat) (c_isReached : ClassId) (c_kinds : ClassId) (c_lefts : ClassId) (c_reached : ClassId) (c_rights : ClassId) (sz : Nat) (n_isReached : Nat) (n_kinds : Nat) (n_lefts : Nat) (n_reached : Nat) (n_rights : Nat) (i_size : Int32) (i_freeCount : Int32) (i_reachedCount : Int32) (f_isReached : Nat → Int32) (f_kinds : Nat → Int32) (f_lefts : Nat → Int32) (f_reached : Nat → Int32) (f_rights : Nat → Int32)  (post : Int32 → Int32 → (Nat → Int32) → (Nat → Int32) → Prop) (hw : wp_Memory_spreadReach n_isReached n_kinds n_lefts n_reached n_rights i_size i_reachedCount f_isReached f_kinds f_lefts f_reached f_rights  post) : Met l y_Memory_spreadReach (ws_ y_Memory_spreadReach b_Memory_spreadReach 3 (some .int)) { frames := 1, cells := 0, slots := 0, locals := 21 } (va_Pc [.ref h_this] (PRE (dC, dI) vwCl [(c_isReached, .boolean), (c_kinds, .int), (c_lefts, .int), (c_reached, .int), (c_rights, .int)] [ob_Memory h_this i_size h_kinds h_lefts h_rights h_free i_freeCount h_isReached h_reached i_reachedCount, ar_ h_isReached c_isReached n_isReached f_isReached, ar_ h_kinds c_kinds n_kinds f_kinds, ar_ h_lefts c_lefts n_lefts f_lefts, ar_ h_reached c_reached n_reached f_reached, ar_ h_rights c_rights n_rights f_rights] sz (va_A [ob_Memory h_this i_size h_kinds h_lefts h_rights h_free i_freeCount h_isReached h_reached i_reachedCount, ar_ h_isReached c_isReached n_isReached f_isReached, ar_ h_kinds c_kinds n_kinds f_kinds, ar_ h_lefts c_lefts n_lefts f_lefts, ar_ h_reached c_reached n_reached f_reached, ar_ h_rights c_rights n_rights f_rights] sz))) (va_Qi (fun (r : Int32) (u : Int32 × (Nat → Int32) × (Nat → Int32)) => post r u.1 u.2.1 u.2.2) (fun (u : Int32 × (Nat → Int32) × (Nat → Int32)) (t : State) => va_P (dC, dI) vwCl [ob_Memory h_this i_size h_kinds h_lefts h_rights h_free i_freeCount h_isReached h_reached u.1, ar_ h_isReached c_isReached n_isReached u.2.1, ar_ h_kinds c_kinds n_kinds f_kinds, ar_ h_lefts c_lefts n_lefts f_lefts, ar_ h_reached c_reached n_reached u.2.2, ar_ h_rights c_rights n_rights f_rights] t.heap ∧ va_K (dC, dI) vwCl [(c_isReached, .boolean), (c_kinds, .int), (c_lefts, .int), (c_reached, .int), (c_rights, .int)] t ∧ va_D (va_A [ob_Memory h_this i_size h_kinds h_lefts h_rights h_free i_freeCount h_isReached h_reached i_reachedCount, ar_ h_isReached c_isReached n_isReached f_isReached, ar_ h_kinds c_kinds n_kinds f_kinds, ar_ h_lefts c_lefts n_lefts f_lefts, ar_ h_reached c_reached n_reached f_reached, ar_ h_rights c_rights n_rights f_rights] sz) [ob_Memory h_this i_size h_kinds h_lefts h_rights h_free i_freeCount h_isReached h_reached u.1, ar_ h_isReached c_isReached n_isReached u.2.1, ar_ h_kinds c_kinds n_kinds f_kinds, ar_ h_lefts c_lefts n_lefts f_lefts, ar_ h_reached c_reached n_reached u.2.2, ar_ h_rights c_rights n_rights f_rights]) (va_A [ob_Memory h_this i_size h_kinds h_lefts h_rights h_free i_freeCount h_isReached h_reached i_reachedCount, ar_ h_isReached c_isReached n_isReached f_isReached, ar_ h_kinds c_kinds n_kinds f_kinds, ar_ h_lefts c_lefts n_lefts f_lefts, ar_ h_reached c_reached n_reached f_reached, ar_ h_rights c_rights n_rights f_rights] sz)) 0 0 (va_A [ob_Memory h_this i_size h_kinds h_lefts h_rights h_free i_freeCount h_isReached h_reached i_reachedCount, ar_ h_isReached c_isReached n_isReached f_isReached, ar_ h_kinds c_kinds n_kinds f_kinds, ar_ h_lefts c_lefts n_lefts f_lefts, ar_ h_reached c_reached n_reached f_reached, ar_ h_rights c_rights n_rights f_rights] sz) := by
  refine Met.ofW (cc := b_Memory_spreadReach) (maxL := 3) (ret := (some .int)) (by decide) rfl ?_
  intro p e s m args below meth c s₁ B hml hv
  obtain ⟨rfl, hsz, hP, hK, hD0, hG⟩ := hv
  have hx := B.exec
  have hb := B.bytes
  have hr := B.returns
  have hts : ∀ w ∈ tb, w.before _ s = true := fun w h => atoms_spec (ws := ws_ _ _ _ _) B.pre w (List.mem_cons_of_mem _ h)
  have hown : s.vm.findClass R_Memory = some m.cls := findClass_of_methodNamed B.named
  have hlocks := B.notSynchronized
  subst hsz
  have hD := hD0.self (sz := s.heap.size)
  generalize hAe : va_A [ob_Memory h_this i_size h_kinds h_lefts h_rights h_free i_freeCount h_isReached h_reached i_reachedCount, ar_ h_isReached c_isReached n_isReached f_isReached, ar_ h_kinds c_kinds n_kinds f_kinds, ar_ h_lefts c_lefts n_lefts f_lefts, ar_ h_reached c_reached n_reached f_reached, ar_ h_rights c_rights n_rights f_rights] s.heap.size = A at hD hG ⊢
  have hA : ∀ q : Nat, s.heap.size ≤ q → A q := fun q h => by rw [← hAe]; exact Or.inr h
  have hS : va_S A s.heap s.heap [] := va_S.rf
  have hP : va_P (dC, dI) vwCl [ob_Memory h_this i_size h_kinds h_lefts h_rights h_free i_freeCount h_isReached h_reached i_reachedCount, ar_ h_isReached c_isReached n_isReached f_isReached, ar_ h_kinds c_kinds n_kinds f_kinds, ar_ h_lefts c_lefts n_lefts f_lefts, ar_ h_reached c_reached n_reached f_reached, ar_ h_rights c_rights n_rights f_rights] s.heap := hP
  have hl := lv_entry [.ref h_this] (n := 3) (Nat.le_of_ble_eq_true rfl)
  rw [lg_entry_eq]
  generalize (lg_sl [.ref h_this] ++ List.replicate (3 - (lg_sl [.ref h_this]).length) Slot.unset).toArray = ls at hl ⊢
  have hl : lv_has ls 3 [(0, .ref h_this)] := hl
  obtain ⟨Q, hQ⟩ : ∃ Q : State → Prop, Q = MQ below (va_Qi (fun (r : Int32) (u : Int32 × (Nat → Int32) × (Nat → Int32)) => post r u.1 u.2.1 u.2.2) (fun (u : Int32 × (Nat → Int32) × (Nat → Int32)) (t : State) => va_P (dC, dI) vwCl [ob_Memory h_this i_size h_kinds h_lefts h_rights h_free i_freeCount h_isReached h_reached u.1, ar_ h_isReached c_isReached n_isReached u.2.1, ar_ h_kinds c_kinds n_kinds f_kinds, ar_ h_lefts c_lefts n_lefts f_lefts, ar_ h_reached c_reached n_reached u.2.2, ar_ h_rights c_rights n_rights f_rights] t.heap ∧ va_K (dC, dI) vwCl [(c_isReached, .boolean), (c_kinds, .int), (c_lefts, .int), (c_reached, .int), (c_rights, .int)] t ∧ va_D A [ob_Memory h_this i_size h_kinds h_lefts h_rights h_free i_freeCount h_isReached h_reached u.1, ar_ h_isReached c_isReached n_isReached u.2.1, ar_ h_kinds c_kinds n_kinds f_kinds, ar_ h_lefts c_lefts n_lefts f_lefts, ar_ h_reached c_reached n_reached u.2.2, ar_ h_rights c_rights n_rights f_rights]) A) ([.ref h_this] : List Value).toArray s 0 0 A := ⟨_, rfl⟩
  rw [← hQ]
  unfold wp_Memory_spreadReach at hw
  refine lv_iconst (v := 0) hx hb d_Memory_spreadReach_0 (by decide) ?_
  refine lv_istore_n (lv' := [(1, .int (0 : Int32)), (0, .ref h_this)]) hx hb d_Memory_spreadReach_1 rfl hl (by decide) rfl (fun ls hl => ?_)
  have L2 : ∀ fu2 : Nat, ∀ (v1 : Int32) (i_reachedCount : Int32) (f_isReached : Nat → Int32) (f_reached : Nat → Int32) (H : Heap) (locs : List Loc) (ls : Array Slot), lv_has ls 3 [(0, .ref h_this), (1, .int v1)] → va_P (dC, dI) vwCl [ob_Memory h_this i_size h_kinds h_lefts h_rights h_free i_freeCount h_isReached h_reached i_reachedCount, ar_ h_isReached c_isReached n_isReached f_isReached, ar_ h_kinds c_kinds n_kinds f_kinds, ar_ h_lefts c_lefts n_lefts f_lefts, ar_ h_reached c_reached n_reached f_reached, ar_ h_rights c_rights n_rights f_rights] H → va_D A [ob_Memory h_this i_size h_kinds h_lefts h_rights h_free i_freeCount h_isReached h_reached i_reachedCount, ar_ h_isReached c_isReached n_isReached f_isReached, ar_ h_kinds c_kinds n_kinds f_kinds, ar_ h_lefts c_lefts n_lefts f_lefts, ar_ h_reached c_reached n_reached f_reached, ar_ h_rights c_rights n_rights f_rights] → va_S A s.heap H locs → wp_Memory_spreadReach_L2 n_isReached n_kinds n_lefts n_reached n_rights i_size f_kinds f_lefts f_rights post fu2 v1 i_reachedCount f_isReached f_reached → W p l e (headSpec (ws_ y_Memory_spreadReach b_Memory_spreadReach 3 (some .int)) { frames := 1, cells := 0, slots := 0, locals := 21 }).room s m ([.ref h_this] : List Value).toArray below meth c H locs 0 0 Q (F0 m 2 ls []) := by
    intro fu2
    induction fu2 with
    | zero => intro v1 i_reachedCount f_isReached f_reached H locs ls hl hP hD hS hw; exact False.elim hw
    | succ fu2 ih2 =>
        intro v1 i_reachedCount f_isReached f_reached H locs ls hl hP hD hS hw
        unfold wp_Memory_spreadReach_L2 at hw
        have J69 : ∀ (v1 : Int32) (i_reachedCount : Int32) (f_isReached : Nat → Int32) (f_reached : Nat → Int32) (H : Heap) (locs : List Loc) (ls : Array Slot), lv_has ls 3 [(0, .ref h_this), (1, .int v1)] → va_P (dC, dI) vwCl [ob_Memory h_this i_size h_kinds h_lefts h_rights h_free i_freeCount h_isReached h_reached i_reachedCount, ar_ h_isReached c_isReached n_isReached f_isReached, ar_ h_kinds c_kinds n_kinds f_kinds, ar_ h_lefts c_lefts n_lefts f_lefts, ar_ h_reached c_reached n_reached f_reached, ar_ h_rights c_rights n_rights f_rights] H → va_D A [ob_Memory h_this i_size h_kinds h_lefts h_rights h_free i_freeCount h_isReached h_reached i_reachedCount, ar_ h_isReached c_isReached n_isReached f_isReached, ar_ h_kinds c_kinds n_kinds f_kinds, ar_ h_lefts c_lefts n_lefts f_lefts, ar_ h_reached c_reached n_reached f_reached, ar_ h_rights c_rights n_rights f_rights] → va_S A s.heap H locs → wp_Memory_spreadReach_J69 n_isReached n_kinds n_lefts n_reached n_rights i_size f_kinds f_lefts f_rights (wp_Memory_spreadReach_L2 n_isReached n_kinds n_lefts n_reached n_rights i_size f_kinds f_lefts f_rights post fu2) post v1 i_reachedCount f_isReached f_reached → W p l e (headSpec (ws_ y_Memory_spreadReach b_Memory_spreadReach 3 (some .int)) { frames := 1, cells := 0, slots := 0, locals := 21 }).room s m ([.ref h_this] : List Value).toArray below meth c H locs 0 0 Q (F0 m 69 ls []) := by
          intro v1 i_reachedCount f_isReached f_reached H locs ls hl hP hD hS hw
          unfold wp_Memory_spreadReach_J69 at hw
          refine lv_iinc (v := v1 + (1 : Int32)) (lv' := [(1, .int (v1 + (1 : Int32))), (0, .ref h_this)]) hx hb d_Memory_spreadReach_69 hl (k := 1) rfl rfl (by decide) rfl (fun ls hl => ?_)
          refine lv_goto (tgt := 2) hx hb d_Memory_spreadReach_72 (by decide) ?_
          exact ih2 (v1 + (1 : Int32)) i_reachedCount f_isReached f_reached _ _ ls (lv_sub hl [1, 0] rfl) hP hD hS hw
        have J59 : ∀ (v1 : Int32) (v2 : Int32) (i_reachedCount : Int32) (f_isReached : Nat → Int32) (f_reached : Nat → Int32) (H : Heap) (locs : List Loc) (ls : Array Slot), lv_has ls 3 [(0, .ref h_this), (1, .int v1), (2, .int v2)] → va_P (dC, dI) vwCl [ob_Memory h_this i_size h_kinds h_lefts h_rights h_free i_freeCount h_isReached h_reached i_reachedCount, ar_ h_isReached c_isReached n_isReached f_isReached, ar_ h_kinds c_kinds n_kinds f_kinds, ar_ h_lefts c_lefts n_lefts f_lefts, ar_ h_reached c_reached n_reached f_reached, ar_ h_rights c_rights n_rights f_rights] H → va_D A [ob_Memory h_this i_size h_kinds h_lefts h_rights h_free i_freeCount h_isReached h_reached i_reachedCount, ar_ h_isReached c_isReached n_isReached f_isReached, ar_ h_kinds c_kinds n_kinds f_kinds, ar_ h_lefts c_lefts n_lefts f_lefts, ar_ h_reached c_reached n_reached f_reached, ar_ h_rights c_rights n_rights f_rights] → va_S A s.heap H locs → wp_Memory_spreadReach_J59 n_isReached n_kinds n_lefts n_reached n_rights i_size f_kinds f_lefts f_rights (wp_Memory_spreadReach_L2 n_isReached n_kinds n_lefts n_reached n_rights i_size f_kinds f_lefts f_rights post fu2) post v1 v2 i_reachedCount f_isReached f_reached → W p l e (headSpec (ws_ y_Memory_spreadReach b_Memory_spreadReach 3 (some .int)) { frames := 1, cells := 0, slots := 0, locals := 21 }).room s m ([.ref h_this] : List Value).toArray below meth c H locs 0 0 Q (F0 m 59 ls []) := by
          intro v1 v2 i_reachedCount f_isReached f_reached H locs ls hl hP hD hS hw
          unfold wp_Memory_spreadReach_J59 at hw
          refine lv_aload_n hx hb d_Memory_spreadReach_59 rfl (lv_at hl 0 rfl) ?_
          refine lv_aload_n hx hb d_Memory_spreadReach_60 rfl (lv_at hl 0 rfl) ?_
          refine va_get (D := (dC, dI)) (ci := 4) (v := .ref h_rights) (C := R_Memory) (T := T_Memory) (N := 9) hx hb hts in_Memory hown hK hP 0 rfl rfl 3 (by decide) (hts _ kt_191) (fun _ h9 => h9) rfl d_Memory_spreadReach_61 ?_
          refine lv_iload_n hx hb d_Memory_spreadReach_64 rfl (lv_at hl 2 rfl) ?_
          obtain ⟨h_1, hw⟩ := hw
          refine va_iald hx hb hK hP 5 4 rfl rfl h_1 d_Memory_spreadReach_65 ?_
          have hPc := hP.sub (ws' := [ob_Memory h_this i_size h_kinds h_lefts h_rights h_free i_freeCount h_isReached h_reached i_reachedCount, ar_ h_isReached c_isReached n_isReached f_isReached, ar_ h_reached c_reached n_reached f_reached]) [0, 1, 4] rfl
          have hDc := hD.sub (ws' := [ob_Memory h_this i_size h_kinds h_lefts h_rights h_free i_freeCount h_isReached h_reached i_reachedCount, ar_ h_isReached c_isReached n_isReached f_isReached, ar_ h_reached c_reached n_reached f_reached]) [0, 1, 4] (by decide) rfl
          have hKc := hK.sub (tys' := [(c_isReached, .boolean), (c_reached, .int)]) [0, 3] rfl
          have hFc := va_free (wc := [ob_Memory h_this i_size h_kinds h_lefts h_rights h_free i_freeCount h_isReached h_reached i_reachedCount, ar_ h_isReached c_isReached n_isReached f_isReached, ar_ h_reached c_reached n_reached f_reached]) hD hS hA [0, 1, 4] rfl
          refine va_callv (va_runV (As := [.int (f_rights v2.toNatClampNeg)]) (rest := []) ⟨hx, hb, hml, hown, hts⟩ (c_Memory_reach l dC dI h_this h_isReached h_reached h_kinds h_lefts h_rights h_free c_isReached c_reached H.size n_isReached n_reached i_size i_freeCount i_reachedCount f_isReached f_reached (f_rights v2.toNatClampNeg) _ hw) (cwV 1 hts (gd_V kt_569 kt_570 kt_571 kt_12 kt_572) rfl rfl rfl (by decide +kernel) ⟨Nat.le_of_ble_eq_true rfl, Nat.le_of_ble_eq_true rfl⟩) ⟨pre_blind, va_recv hKc hPc (ci := 4) (q0 := 0) rfl rfl, pre_ok hPc hKc hDc hG hS hFc⟩ rfl rfl hl.1 rfl (lv_room (Nat.le_of_ble_eq_true rfl)) d_Memory_spreadReach_66 ⟨Nat.zero_le _, Nat.zero_le _⟩) hS (fun q _ h => hFc q h) hFc (fun u t H1 locs ht hvm hw hB hz1 hk1 hS => ?_)
          obtain ⟨i_reachedCount_2, f_isReached_3, f_reached_4⟩ := u
          obtain ⟨hP1, hK1, hD1⟩ := hB
          rw [ht] at hP1
          try dsimp only at hw
          obtain ⟨hP, hD⟩ := va_join (wr := [ar_ h_kinds c_kinds n_kinds f_kinds, ar_ h_lefts c_lefts n_lefts f_lefts, ar_ h_rights c_rights n_rights f_rights]) (w1 := [ob_Memory h_this i_size h_kinds h_lefts h_rights h_free i_freeCount h_isReached h_reached i_reachedCount_2, ar_ h_isReached c_isReached n_isReached f_isReached_3, ar_ h_reached c_reached n_reached f_reached_4]) hP hD [0, 1, 4] [2, 3, 5] rfl rfl (by decide) (by decide) hk1 hFc hP1 hD1
          generalize H1 = H at hP hS ⊢
          have hP : va_P (dC, dI) vwCl [ar_ h_kinds c_kinds n_kinds f_kinds, ar_ h_lefts c_lefts n_lefts f_lefts, ar_ h_rights c_rights n_rights f_rights, ob_Memory h_this i_size h_kinds h_lefts h_rights h_free i_freeCount h_isReached h_reached i_reachedCount_2, ar_ h_isReached c_isReached n_isReached f_isReached_3, ar_ h_reached c_reached n_reached f_reached_4] H := hP
          have hD : va_D A [ar_ h_kinds c_kinds n_kinds f_kinds, ar_ h_lefts c_lefts n_lefts f_lefts, ar_ h_rights c_rights n_rights f_rights, ob_Memory h_this i_size h_kinds h_lefts h_rights h_free i_freeCount h_isReached h_reached i_reachedCount_2, ar_ h_isReached c_isReached n_isReached f_isReached_3, ar_ h_reached c_reached n_reached f_reached_4] := hD
          exact J69 v1 i_reachedCount_2 f_isReached_3 f_reached_4 _ _ ls (lv_sub hl [0, 1] rfl) (hP.sub [3, 4, 0, 1, 5, 2] rfl) (hD.sub [3, 4, 0, 1, 5, 2] (by decide) rfl) hS hw
        have J43 : ∀ (v1 : Int32) (v2 : Int32) (i_reachedCount : Int32) (f_isReached : Nat → Int32) (f_reached : Nat → Int32) (H : Heap) (locs : List Loc) (ls : Array Slot), lv_has ls 3 [(0, .ref h_this), (1, .int v1), (2, .int v2)] → va_P (dC, dI) vwCl [ob_Memory h_this i_size h_kinds h_lefts h_rights h_free i_freeCount h_isReached h_reached i_reachedCount, ar_ h_isReached c_isReached n_isReached f_isReached, ar_ h_kinds c_kinds n_kinds f_kinds, ar_ h_lefts c_lefts n_lefts f_lefts, ar_ h_reached c_reached n_reached f_reached, ar_ h_rights c_rights n_rights f_rights] H → va_D A [ob_Memory h_this i_size h_kinds h_lefts h_rights h_free i_freeCount h_isReached h_reached i_reachedCount, ar_ h_isReached c_isReached n_isReached f_isReached, ar_ h_kinds c_kinds n_kinds f_kinds, ar_ h_lefts c_lefts n_lefts f_lefts, ar_ h_reached c_reached n_reached f_reached, ar_ h_rights c_rights n_rights f_rights] → va_S A s.heap H locs → wp_Memory_spreadReach_J43 n_isReached n_kinds n_lefts n_reached n_rights i_size f_kinds f_lefts f_rights (wp_Memory_spreadReach_L2 n_isReached n_kinds n_lefts n_reached n_rights i_size f_kinds f_lefts f_rights post fu2) post v1 v2 i_reachedCount f_isReached f_reached → W p l e (headSpec (ws_ y_Memory_spreadReach b_Memory_spreadReach 3 (some .int)) { frames := 1, cells := 0, slots := 0, locals := 21 }).room s m ([.ref h_this] : List Value).toArray below meth c H locs 0 0 Q (F0 m 43 ls []) := by
          intro v1 v2 i_reachedCount f_isReached f_reached H locs ls hl hP hD hS hw
          unfold wp_Memory_spreadReach_J43 at hw
          refine lv_aload_n hx hb d_Memory_spreadReach_43 rfl (lv_at hl 0 rfl) ?_
          refine lv_iload_n hx hb d_Memory_spreadReach_44 rfl (lv_at hl 2 rfl) ?_
          have hPc := hP.sub (ws' := [ob_Memory h_this i_size h_kinds h_lefts h_rights h_free i_freeCount h_isReached h_reached i_reachedCount, ar_ h_kinds c_kinds n_kinds f_kinds]) [0, 2] rfl
          have hDc := hD.sub (ws' := [ob_Memory h_this i_size h_kinds h_lefts h_rights h_free i_freeCount h_isReached h_reached i_reachedCount, ar_ h_kinds c_kinds n_kinds f_kinds]) [0, 2] (by decide) rfl
          have hKc := hK.sub (tys' := [(c_kinds, .int)]) [1] rfl
          have hFc := va_free (wc := [ob_Memory h_this i_size h_kinds h_lefts h_rights h_free i_freeCount h_isReached h_reached i_reachedCount, ar_ h_kinds c_kinds n_kinds f_kinds]) hD hS hA [0, 2] rfl
          refine va_calli (va_runV (As := [.int v2]) (rest := []) ⟨hx, hb, hml, hown, hts⟩ (c_Memory_isPair l dC dI h_this h_kinds h_lefts h_rights h_free h_isReached h_reached c_kinds H.size n_kinds i_size i_freeCount i_reachedCount f_kinds v2 _ hw) (cwV 1 hts (gd_V kt_637 kt_638 kt_639 kt_12 kt_640) rfl rfl rfl (by decide +kernel) ⟨Nat.le_of_ble_eq_true rfl, Nat.le_of_ble_eq_true rfl⟩) ⟨pre_blind, va_recv hKc hPc (ci := 4) (q0 := 0) rfl rfl, pre_ok hPc hKc hDc hG hS hFc⟩ rfl rfl hl.1 rfl (lv_room (Nat.le_of_ble_eq_true rfl)) d_Memory_spreadReach_45 ⟨Nat.zero_le _, Nat.zero_le _⟩) hS (fun q _ h => hFc q h) hFc (fun r_5 u t H1 locs ht hvm hw hB hz1 hk1 hS => ?_)
          obtain ⟨hP1, hK1, hD1⟩ := hB
          rw [ht] at hP1
          try dsimp only at hw
          obtain ⟨hP, hD⟩ := va_join (wr := [ar_ h_isReached c_isReached n_isReached f_isReached, ar_ h_lefts c_lefts n_lefts f_lefts, ar_ h_reached c_reached n_reached f_reached, ar_ h_rights c_rights n_rights f_rights]) (w1 := [ob_Memory h_this i_size h_kinds h_lefts h_rights h_free i_freeCount h_isReached h_reached i_reachedCount, ar_ h_kinds c_kinds n_kinds f_kinds]) hP hD [0, 2] [1, 3, 4, 5] rfl rfl (by decide) (by decide) hk1 hFc hP1 hD1
          generalize H1 = H at hP hS ⊢
          have hP : va_P (dC, dI) vwCl [ar_ h_isReached c_isReached n_isReached f_isReached, ar_ h_lefts c_lefts n_lefts f_lefts, ar_ h_reached c_reached n_reached f_reached, ar_ h_rights c_rights n_rights f_rights, ob_Memory h_this i_size h_kinds h_lefts h_rights h_free i_freeCount h_isReached h_reached i_reachedCount, ar_ h_kinds c_kinds n_kinds f_kinds] H := hP
          have hD : va_D A [ar_ h_isReached c_isReached n_isReached f_isReached, ar_ h_lefts c_lefts n_lefts f_lefts, ar_ h_reached c_reached n_reached f_reached, ar_ h_rights c_rights n_rights f_rights, ob_Memory h_this i_size h_kinds h_lefts h_rights h_free i_freeCount h_isReached h_reached i_reachedCount, ar_ h_kinds c_kinds n_kinds f_kinds] := hD
          refine lv_if_ne (tgt := 59) hx hb d_Memory_spreadReach_48 (by decide) (fun c_6 => ?_) (fun c_6 => ?_)
          · have hw := hw.2 c_6
            exact J59 v1 v2 i_reachedCount f_isReached f_reached _ _ ls (lv_sub hl [0, 1, 2] rfl) (hP.sub [4, 0, 5, 1, 2, 3] rfl) (hD.sub [4, 0, 5, 1, 2, 3] (by decide) rfl) hS hw
          · have hw := hw.1 c_6
            refine lv_aload_n hx hb d_Memory_spreadReach_51 rfl (lv_at hl 0 rfl) ?_
            refine lv_iload_n hx hb d_Memory_spreadReach_52 rfl (lv_at hl 2 rfl) ?_
            have hPc := hP.sub (ws' := [ob_Memory h_this i_size h_kinds h_lefts h_rights h_free i_freeCount h_isReached h_reached i_reachedCount, ar_ h_kinds c_kinds n_kinds f_kinds]) [4, 5] rfl
            have hDc := hD.sub (ws' := [ob_Memory h_this i_size h_kinds h_lefts h_rights h_free i_freeCount h_isReached h_reached i_reachedCount, ar_ h_kinds c_kinds n_kinds f_kinds]) [4, 5] (by decide) rfl
            have hKc := hK.sub (tys' := [(c_kinds, .int)]) [1] rfl
            have hFc := va_free (wc := [ob_Memory h_this i_size h_kinds h_lefts h_rights h_free i_freeCount h_isReached h_reached i_reachedCount, ar_ h_kinds c_kinds n_kinds f_kinds]) hD hS hA [4, 5] rfl
            refine va_calli (va_runV (As := [.int v2]) (rest := []) ⟨hx, hb, hml, hown, hts⟩ (c_Memory_hasAddress l dC dI h_this h_kinds h_lefts h_rights h_free h_isReached h_reached c_kinds H.size n_kinds i_size i_freeCount i_reachedCount f_kinds v2 _ hw) (cwV 1 hts (gd_V kt_641 kt_643 ks_29 kt_12 kt_644) rfl rfl rfl (by decide +kernel) ⟨Nat.le_of_ble_eq_true rfl, Nat.le_of_ble_eq_true rfl⟩) ⟨pre_blind, va_recv hKc hPc (ci := 4) (q0 := 0) rfl rfl, pre_ok hPc hKc hDc hG hS hFc⟩ rfl rfl hl.1 rfl (lv_room (Nat.le_of_ble_eq_true rfl)) d_Memory_spreadReach_53 ⟨Nat.zero_le _, Nat.zero_le _⟩) hS (fun q _ h => hFc q h) hFc (fun r_7 u t H1 locs ht hvm hw hB hz1 hk1 hS => ?_)
            obtain ⟨hP1, hK1, hD1⟩ := hB
            rw [ht] at hP1
            try dsimp only at hw
            obtain ⟨hP, hD⟩ := va_join (wr := [ar_ h_isReached c_isReached n_isReached f_isReached, ar_ h_lefts c_lefts n_lefts f_lefts, ar_ h_reached c_reached n_reached f_reached, ar_ h_rights c_rights n_rights f_rights]) (w1 := [ob_Memory h_this i_size h_kinds h_lefts h_rights h_free i_freeCount h_isReached h_reached i_reachedCount, ar_ h_kinds c_kinds n_kinds f_kinds]) hP hD [4, 5] [0, 1, 2, 3] rfl rfl (by decide) (by decide) hk1 hFc hP1 hD1
            generalize H1 = H at hP hS ⊢
            have hP : va_P (dC, dI) vwCl [ar_ h_isReached c_isReached n_isReached f_isReached, ar_ h_lefts c_lefts n_lefts f_lefts, ar_ h_reached c_reached n_reached f_reached, ar_ h_rights c_rights n_rights f_rights, ob_Memory h_this i_size h_kinds h_lefts h_rights h_free i_freeCount h_isReached h_reached i_reachedCount, ar_ h_kinds c_kinds n_kinds f_kinds] H := hP
            have hD : va_D A [ar_ h_isReached c_isReached n_isReached f_isReached, ar_ h_lefts c_lefts n_lefts f_lefts, ar_ h_reached c_reached n_reached f_reached, ar_ h_rights c_rights n_rights f_rights, ob_Memory h_this i_size h_kinds h_lefts h_rights h_free i_freeCount h_isReached h_reached i_reachedCount, ar_ h_kinds c_kinds n_kinds f_kinds] := hD
            refine lv_if_eq (tgt := 69) hx hb d_Memory_spreadReach_56 (by decide) (fun c_8 => ?_) (fun c_8 => ?_)
            · have hw := hw.1 c_8
              exact J69 v1 i_reachedCount f_isReached f_reached _ _ ls (lv_sub hl [0, 1] rfl) (hP.sub [4, 0, 5, 1, 2, 3] rfl) (hD.sub [4, 0, 5, 1, 2, 3] (by decide) rfl) hS hw
            · have hw := hw.2 c_8
              exact J59 v1 v2 i_reachedCount f_isReached f_reached _ _ ls (lv_sub hl [0, 1, 2] rfl) (hP.sub [4, 0, 5, 1, 2, 3] rfl) (hD.sub [4, 0, 5, 1, 2, 3] (by decide) rfl) hS hw
        refine lv_iload_n hx hb d_Memory_spreadReach_2 rfl (lv_at hl 1 rfl) ?_
        refine lv_aload_n hx hb d_Memory_spreadReach_3 rfl (lv_at hl 0 rfl) ?_
        refine va_get (D := (dC, dI)) (ci := 4) (v := .int i_size) (C := R_Memory) (T := T_Memory) (N := 9) hx hb hts in_Memory hown hK hP 0 rfl rfl 0 (by decide) (hts _ kt_186) (fun _ h9 => h9) rfl d_Memory_spreadReach_4 ?_
        refine lv_icmp_ge (tgt := 75) hx hb d_Memory_spreadReach_7 (by decide) (fun c_9 => ?_) (fun c_9 => ?_)
        · have hw := hw.1 c_9
          refine lv_aload_n hx hb d_Memory_spreadReach_75 rfl (lv_at hl 0 rfl) ?_
          refine va_get (D := (dC, dI)) (ci := 4) (v := .int i_reachedCount) (C := R_Memory) (T := T_Memory) (N := 9) hx hb hts in_Memory hown hK hP 0 rfl rfl 8 (by decide) (hts _ kt_198) (fun _ h9 => h9) rfl d_Memory_spreadReach_76 ?_
          have hP9 : va_P (dC, dI) vwCl [ob_Memory h_this i_size h_kinds h_lefts h_rights h_free i_freeCount h_isReached h_reached i_reachedCount, ar_ h_isReached c_isReached n_isReached f_isReached, ar_ h_kinds c_kinds n_kinds f_kinds, ar_ h_lefts c_lefts n_lefts f_lefts, ar_ h_reached c_reached n_reached f_reached, ar_ h_rights c_rights n_rights f_rights] _ := hP
          have hD9 : va_D A [ob_Memory h_this i_size h_kinds h_lefts h_rights h_free i_freeCount h_isReached h_reached i_reachedCount, ar_ h_isReached c_isReached n_isReached f_isReached, ar_ h_kinds c_kinds n_kinds f_kinds, ar_ h_lefts c_lefts n_lefts f_lefts, ar_ h_reached c_reached n_reached f_reached, ar_ h_rights c_rights n_rights f_rights] := hD
          rw [hQ]
          exact W.iret (v := i_reachedCount) hx hb hr (fun t ht hW => ⟨⟨i_reachedCount, (i_reachedCount, f_isReached, f_reached), rfl, hw, by rw [ht]; exact hP9, va_K.moved hW.alike hK, hD9⟩, hS.F ht⟩) hS.2.2 d_Memory_spreadReach_79
        · have hw := hw.2 c_9
          refine lv_iload_n hx hb d_Memory_spreadReach_10 rfl (lv_at hl 1 rfl) ?_
          refine lv_aload_n hx hb d_Memory_spreadReach_11 rfl (lv_at hl 0 rfl) ?_
          refine va_get (D := (dC, dI)) (ci := 4) (v := .int i_reachedCount) (C := R_Memory) (T := T_Memory) (N := 9) hx hb hts in_Memory hown hK hP 0 rfl rfl 8 (by decide) (hts _ kt_198) (fun _ h9 => h9) rfl d_Memory_spreadReach_12 ?_
          refine lv_icmp_ge (tgt := 75) hx hb d_Memory_spreadReach_15 (by decide) (fun c_10 => ?_) (fun c_10 => ?_)
          · have hw := hw.1 c_10
            refine lv_aload_n hx hb d_Memory_spreadReach_75 rfl (lv_at hl 0 rfl) ?_
            refine va_get (D := (dC, dI)) (ci := 4) (v := .int i_reachedCount) (C := R_Memory) (T := T_Memory) (N := 9) hx hb hts in_Memory hown hK hP 0 rfl rfl 8 (by decide) (hts _ kt_198) (fun _ h9 => h9) rfl d_Memory_spreadReach_76 ?_
            have hP9 : va_P (dC, dI) vwCl [ob_Memory h_this i_size h_kinds h_lefts h_rights h_free i_freeCount h_isReached h_reached i_reachedCount, ar_ h_isReached c_isReached n_isReached f_isReached, ar_ h_kinds c_kinds n_kinds f_kinds, ar_ h_lefts c_lefts n_lefts f_lefts, ar_ h_reached c_reached n_reached f_reached, ar_ h_rights c_rights n_rights f_rights] _ := hP
            have hD9 : va_D A [ob_Memory h_this i_size h_kinds h_lefts h_rights h_free i_freeCount h_isReached h_reached i_reachedCount, ar_ h_isReached c_isReached n_isReached f_isReached, ar_ h_kinds c_kinds n_kinds f_kinds, ar_ h_lefts c_lefts n_lefts f_lefts, ar_ h_reached c_reached n_reached f_reached, ar_ h_rights c_rights n_rights f_rights] := hD
            rw [hQ]
            exact W.iret (v := i_reachedCount) hx hb hr (fun t ht hW => ⟨⟨i_reachedCount, (i_reachedCount, f_isReached, f_reached), rfl, hw, by rw [ht]; exact hP9, va_K.moved hW.alike hK, hD9⟩, hS.F ht⟩) hS.2.2 d_Memory_spreadReach_79
          · have hw := hw.2 c_10
            refine lv_aload_n hx hb d_Memory_spreadReach_18 rfl (lv_at hl 0 rfl) ?_
            refine va_get (D := (dC, dI)) (ci := 4) (v := .ref h_reached) (C := R_Memory) (T := T_Memory) (N := 9) hx hb hts in_Memory hown hK hP 0 rfl rfl 7 (by decide) (hts _ kt_197) (fun _ h9 => h9) rfl d_Memory_spreadReach_19 ?_
            refine lv_iload_n hx hb d_Memory_spreadReach_22 rfl (lv_at hl 1 rfl) ?_
            obtain ⟨h_11, hw⟩ := hw
            refine va_iald hx hb hK hP 4 3 rfl rfl h_11 d_Memory_spreadReach_23 ?_
            refine lv_istore_n (lv' := [(2, .int (f_reached v1.toNatClampNeg)), (0, .ref h_this), (1, .int v1)]) hx hb d_Memory_spreadReach_24 rfl hl (by decide) rfl (fun ls hl => ?_)
            refine lv_aload_n hx hb d_Memory_spreadReach_25 rfl (lv_at hl 1 rfl) ?_
            refine lv_iload_n hx hb d_Memory_spreadReach_26 rfl (lv_at hl 0 rfl) ?_
            have hPc := hP.sub (ws' := [ob_Memory h_this i_size h_kinds h_lefts h_rights h_free i_freeCount h_isReached h_reached i_reachedCount, ar_ h_kinds c_kinds n_kinds f_kinds]) [0, 2] rfl
            have hDc := hD.sub (ws' := [ob_Memory h_this i_size h_kinds h_lefts h_rights h_free i_freeCount h_isReached h_reached i_reachedCount, ar_ h_kinds c_kinds n_kinds f_kinds]) [0, 2] (by decide) rfl
            have hKc := hK.sub (tys' := [(c_kinds, .int)]) [1] rfl
            have hFc := va_free (wc := [ob_Memory h_this i_size h_kinds h_lefts h_rights h_free i_freeCount h_isReached h_reached i_reachedCount, ar_ h_kinds c_kinds n_kinds f_kinds]) hD hS hA [0, 2] rfl
            refine va_calli (va_runV (As := [.int (f_reached v1.toNatClampNeg)]) (rest := []) ⟨hx, hb, hml, hown, hts⟩ (c_Memory_isPair l dC dI h_this h_kinds h_lefts h_rights h_free h_isReached h_reached c_kinds H.size n_kinds i_size i_freeCount i_reachedCount f_kinds (f_reached v1.toNatClampNeg) _ hw) (cwV 1 hts (gd_V kt_637 kt_638 kt_639 kt_12 kt_640) rfl rfl rfl (by decide +kernel) ⟨Nat.le_of_ble_eq_true rfl, Nat.le_of_ble_eq_true rfl⟩) ⟨pre_blind, va_recv hKc hPc (ci := 4) (q0 := 0) rfl rfl, pre_ok hPc hKc hDc hG hS hFc⟩ rfl rfl hl.1 rfl (lv_room (Nat.le_of_ble_eq_true rfl)) d_Memory_spreadReach_27 ⟨Nat.zero_le _, Nat.zero_le _⟩) hS (fun q _ h => hFc q h) hFc (fun r_12 u t H1 locs ht hvm hw hB hz1 hk1 hS => ?_)
            obtain ⟨hP1, hK1, hD1⟩ := hB
            rw [ht] at hP1
            try dsimp only at hw
            obtain ⟨hP, hD⟩ := va_join (wr := [ar_ h_isReached c_isReached n_isReached f_isReached, ar_ h_lefts c_lefts n_lefts f_lefts, ar_ h_reached c_reached n_reached f_reached, ar_ h_rights c_rights n_rights f_rights]) (w1 := [ob_Memory h_this i_size h_kinds h_lefts h_rights h_free i_freeCount h_isReached h_reached i_reachedCount, ar_ h_kinds c_kinds n_kinds f_kinds]) hP hD [0, 2] [1, 3, 4, 5] rfl rfl (by decide) (by decide) hk1 hFc hP1 hD1
            generalize H1 = H at hP hS ⊢
            have hP : va_P (dC, dI) vwCl [ar_ h_isReached c_isReached n_isReached f_isReached, ar_ h_lefts c_lefts n_lefts f_lefts, ar_ h_reached c_reached n_reached f_reached, ar_ h_rights c_rights n_rights f_rights, ob_Memory h_this i_size h_kinds h_lefts h_rights h_free i_freeCount h_isReached h_reached i_reachedCount, ar_ h_kinds c_kinds n_kinds f_kinds] H := hP
            have hD : va_D A [ar_ h_isReached c_isReached n_isReached f_isReached, ar_ h_lefts c_lefts n_lefts f_lefts, ar_ h_reached c_reached n_reached f_reached, ar_ h_rights c_rights n_rights f_rights, ob_Memory h_this i_size h_kinds h_lefts h_rights h_free i_freeCount h_isReached h_reached i_reachedCount, ar_ h_kinds c_kinds n_kinds f_kinds] := hD
            refine lv_if_eq (tgt := 43) hx hb d_Memory_spreadReach_30 (by decide) (fun c_13 => ?_) (fun c_13 => ?_)
            · have hw := hw.1 c_13
              exact J43 v1 (f_reached v1.toNatClampNeg) i_reachedCount f_isReached f_reached _ _ ls (lv_sub hl [1, 2, 0] rfl) (hP.sub [4, 0, 5, 1, 2, 3] rfl) (hD.sub [4, 0, 5, 1, 2, 3] (by decide) rfl) hS hw
            · have hw := hw.2 c_13
              refine lv_aload_n hx hb d_Memory_spreadReach_33 rfl (lv_at hl 1 rfl) ?_
              refine lv_aload_n hx hb d_Memory_spreadReach_34 rfl (lv_at hl 1 rfl) ?_
              refine va_get (D := (dC, dI)) (ci := 4) (v := .ref h_lefts) (C := R_Memory) (T := T_Memory) (N := 9) hx hb hts in_Memory hown hK hP 4 rfl rfl 2 (by decide) (hts _ kt_190) (fun _ h9 => h9) rfl d_Memory_spreadReach_35 ?_
              refine lv_iload_n hx hb d_Memory_spreadReach_38 rfl (lv_at hl 0 rfl) ?_
              obtain ⟨h_14, hw⟩ := hw
              refine va_iald hx hb hK hP 1 2 rfl rfl h_14 d_Memory_spreadReach_39 ?_
              have hPc := hP.sub (ws' := [ob_Memory h_this i_size h_kinds h_lefts h_rights h_free i_freeCount h_isReached h_reached i_reachedCount, ar_ h_isReached c_isReached n_isReached f_isReached, ar_ h_reached c_reached n_reached f_reached]) [4, 0, 2] rfl
              have hDc := hD.sub (ws' := [ob_Memory h_this i_size h_kinds h_lefts h_rights h_free i_freeCount h_isReached h_reached i_reachedCount, ar_ h_isReached c_isReached n_isReached f_isReached, ar_ h_reached c_reached n_reached f_reached]) [4, 0, 2] (by decide) rfl
              have hKc := hK.sub (tys' := [(c_isReached, .boolean), (c_reached, .int)]) [0, 3] rfl
              have hFc := va_free (wc := [ob_Memory h_this i_size h_kinds h_lefts h_rights h_free i_freeCount h_isReached h_reached i_reachedCount, ar_ h_isReached c_isReached n_isReached f_isReached, ar_ h_reached c_reached n_reached f_reached]) hD hS hA [4, 0, 2] rfl
              refine va_callv (va_runV (As := [.int (f_lefts (f_reached v1.toNatClampNeg).toNatClampNeg)]) (rest := []) ⟨hx, hb, hml, hown, hts⟩ (c_Memory_reach l dC dI h_this h_isReached h_reached h_kinds h_lefts h_rights h_free c_isReached c_reached H.size n_isReached n_reached i_size i_freeCount i_reachedCount f_isReached f_reached (f_lefts (f_reached v1.toNatClampNeg).toNatClampNeg) _ hw) (cwV 1 hts (gd_V kt_569 kt_570 kt_571 kt_12 kt_572) rfl rfl rfl (by decide +kernel) ⟨Nat.le_of_ble_eq_true rfl, Nat.le_of_ble_eq_true rfl⟩) ⟨pre_blind, va_recv hKc hPc (ci := 4) (q0 := 0) rfl rfl, pre_ok hPc hKc hDc hG hS hFc⟩ rfl rfl hl.1 rfl (lv_room (Nat.le_of_ble_eq_true rfl)) d_Memory_spreadReach_40 ⟨Nat.zero_le _, Nat.zero_le _⟩) hS (fun q _ h => hFc q h) hFc (fun u t H1 locs ht hvm hw hB hz1 hk1 hS => ?_)
              obtain ⟨i_reachedCount_15, f_isReached_16, f_reached_17⟩ := u
              obtain ⟨hP1, hK1, hD1⟩ := hB
              rw [ht] at hP1
              try dsimp only at hw
              obtain ⟨hP, hD⟩ := va_join (wr := [ar_ h_lefts c_lefts n_lefts f_lefts, ar_ h_rights c_rights n_rights f_rights, ar_ h_kinds c_kinds n_kinds f_kinds]) (w1 := [ob_Memory h_this i_size h_kinds h_lefts h_rights h_free i_freeCount h_isReached h_reached i_reachedCount_15, ar_ h_isReached c_isReached n_isReached f_isReached_16, ar_ h_reached c_reached n_reached f_reached_17]) hP hD [4, 0, 2] [1, 3, 5] rfl rfl (by decide) (by decide) hk1 hFc hP1 hD1
              generalize H1 = H at hP hS ⊢
              have hP : va_P (dC, dI) vwCl [ar_ h_lefts c_lefts n_lefts f_lefts, ar_ h_rights c_rights n_rights f_rights, ar_ h_kinds c_kinds n_kinds f_kinds, ob_Memory h_this i_size h_kinds h_lefts h_rights h_free i_freeCount h_isReached h_reached i_reachedCount_15, ar_ h_isReached c_isReached n_isReached f_isReached_16, ar_ h_reached c_reached n_reached f_reached_17] H := hP
              have hD : va_D A [ar_ h_lefts c_lefts n_lefts f_lefts, ar_ h_rights c_rights n_rights f_rights, ar_ h_kinds c_kinds n_kinds f_kinds, ob_Memory h_this i_size h_kinds h_lefts h_rights h_free i_freeCount h_isReached h_reached i_reachedCount_15, ar_ h_isReached c_isReached n_isReached f_isReached_16, ar_ h_reached c_reached n_reached f_reached_17] := hD
              exact J43 v1 (f_reached v1.toNatClampNeg) i_reachedCount_15 f_isReached_16 f_reached_17 _ _ ls (lv_sub hl [1, 2, 0] rfl) (hP.sub [3, 4, 2, 0, 5, 1] rfl) (hD.sub [3, 4, 2, 0, 5, 1] (by decide) rfl) hS hw
  obtain ⟨fu2, hw⟩ := hw
  exact L2   fu2 (0 : Int32) i_reachedCount f_isReached f_reached _ _ ls (lv_sub hl [1, 0] rfl) hP hD hS hw

set_option maxHeartbeats 4000000 in
set_option maxRecDepth 100000 in
theorem c_Memory_newClosure (l : Launch) (dC : Nat → ClassId) (dI : Nat → Nat → Nat) (h_this : Nat) (h_free : Nat) (h_kinds : Nat) (h_lefts : Nat) (h_rights : Nat) (h_isReached : Nat) (h_reached : Nat) (c_free : ClassId) (c_kinds : ClassId) (c_lefts : ClassId) (c_rights : ClassId) (sz : Nat) (n_free : Nat) (n_kinds : Nat) (n_lefts : Nat) (n_rights : Nat) (i_size : Int32) (i_freeCount : Int32) (i_reachedCount : Int32) (f_free : Nat → Int32) (f_kinds : Nat → Int32) (f_lefts : Nat → Int32) (f_rights : Nat → Int32) (x1 : Int32) (x2 : Int32) (post : Int32 → Int32 → (Nat → Int32) → (Nat → Int32) → (Nat → Int32) → Prop) (hw : wp_Memory_newClosure n_free n_kinds n_lefts n_rights i_freeCount f_free f_kinds f_lefts f_rights x1 x2 post) : Met l y_Memory_newClosure (ws_ y_Memory_newClosure b_Memory_newClosure 3 (some .int)) { frames := 1, cells := 0, slots := 0, locals := 24 } (va_Pc [.ref h_this, .int x1, .int x2] (PRE (dC, dI) vwCl [(c_free, .int), (c_kinds, .int), (c_lefts, .int), (c_rights, .int)] [ob_Memory h_this i_size h_kinds h_lefts h_rights h_free i_freeCount h_isReached h_reached i_reachedCount, ar_ h_free c_free n_free f_free, ar_ h_kinds c_kinds n_kinds f_kinds, ar_ h_lefts c_lefts n_lefts f_lefts, ar_ h_rights c_rights n_rights f_rights] sz (va_A [ob_Memory h_this i_size h_kinds h_lefts h_rights h_free i_freeCount h_isReached h_reached i_reachedCount, ar_ h_free c_free n_free f_free, ar_ h_kinds c_kinds n_kinds f_kinds, ar_ h_lefts c_lefts n_lefts f_lefts, ar_ h_rights c_rights n_rights f_rights] sz))) (va_Qi (fun (r : Int32) (u : Int32 × (Nat → Int32) × (Nat → Int32) × (Nat → Int32)) => post r u.1 u.2.1 u.2.2.1 u.2.2.2) (fun (u : Int32 × (Nat → Int32) × (Nat → Int32) × (Nat → Int32)) (t : State) => va_P (dC, dI) vwCl [ob_Memory h_this i_size h_kinds h_lefts h_rights h_free u.1 h_isReached h_reached i_reachedCount, ar_ h_free c_free n_free f_free, ar_ h_kinds c_kinds n_kinds u.2.1, ar_ h_lefts c_lefts n_lefts u.2.2.1, ar_ h_rights c_rights n_rights u.2.2.2] t.heap ∧ va_K (dC, dI) vwCl [(c_free, .int), (c_kinds, .int), (c_lefts, .int), (c_rights, .int)] t ∧ va_D (va_A [ob_Memory h_this i_size h_kinds h_lefts h_rights h_free i_freeCount h_isReached h_reached i_reachedCount, ar_ h_free c_free n_free f_free, ar_ h_kinds c_kinds n_kinds f_kinds, ar_ h_lefts c_lefts n_lefts f_lefts, ar_ h_rights c_rights n_rights f_rights] sz) [ob_Memory h_this i_size h_kinds h_lefts h_rights h_free u.1 h_isReached h_reached i_reachedCount, ar_ h_free c_free n_free f_free, ar_ h_kinds c_kinds n_kinds u.2.1, ar_ h_lefts c_lefts n_lefts u.2.2.1, ar_ h_rights c_rights n_rights u.2.2.2]) (va_A [ob_Memory h_this i_size h_kinds h_lefts h_rights h_free i_freeCount h_isReached h_reached i_reachedCount, ar_ h_free c_free n_free f_free, ar_ h_kinds c_kinds n_kinds f_kinds, ar_ h_lefts c_lefts n_lefts f_lefts, ar_ h_rights c_rights n_rights f_rights] sz)) 0 0 (va_A [ob_Memory h_this i_size h_kinds h_lefts h_rights h_free i_freeCount h_isReached h_reached i_reachedCount, ar_ h_free c_free n_free f_free, ar_ h_kinds c_kinds n_kinds f_kinds, ar_ h_lefts c_lefts n_lefts f_lefts, ar_ h_rights c_rights n_rights f_rights] sz) := by
  refine Met.ofW (cc := b_Memory_newClosure) (maxL := 3) (ret := (some .int)) (by decide) rfl ?_
  intro p e s m args below meth c s₁ B hml hv
  obtain ⟨rfl, hsz, hP, hK, hD0, hG⟩ := hv
  have hx := B.exec
  have hb := B.bytes
  have hr := B.returns
  have hts : ∀ w ∈ tb, w.before _ s = true := fun w h => atoms_spec (ws := ws_ _ _ _ _) B.pre w (List.mem_cons_of_mem _ h)
  have hown : s.vm.findClass R_Memory = some m.cls := findClass_of_methodNamed B.named
  have hlocks := B.notSynchronized
  subst hsz
  have hD := hD0.self (sz := s.heap.size)
  generalize hAe : va_A [ob_Memory h_this i_size h_kinds h_lefts h_rights h_free i_freeCount h_isReached h_reached i_reachedCount, ar_ h_free c_free n_free f_free, ar_ h_kinds c_kinds n_kinds f_kinds, ar_ h_lefts c_lefts n_lefts f_lefts, ar_ h_rights c_rights n_rights f_rights] s.heap.size = A at hD hG ⊢
  have hA : ∀ q : Nat, s.heap.size ≤ q → A q := fun q h => by rw [← hAe]; exact Or.inr h
  have hS : va_S A s.heap s.heap [] := va_S.rf
  have hP : va_P (dC, dI) vwCl [ob_Memory h_this i_size h_kinds h_lefts h_rights h_free i_freeCount h_isReached h_reached i_reachedCount, ar_ h_free c_free n_free f_free, ar_ h_kinds c_kinds n_kinds f_kinds, ar_ h_lefts c_lefts n_lefts f_lefts, ar_ h_rights c_rights n_rights f_rights] s.heap := hP
  have hl := lv_entry [.ref h_this, .int x1, .int x2] (n := 3) (Nat.le_of_ble_eq_true rfl)
  rw [lg_entry_eq]
  generalize (lg_sl [.ref h_this, .int x1, .int x2] ++ List.replicate (3 - (lg_sl [.ref h_this, .int x1, .int x2]).length) Slot.unset).toArray = ls at hl ⊢
  have hl : lv_has ls 3 [(0, .ref h_this), (1, .int x1), (2, .int x2)] := hl
  obtain ⟨Q, hQ⟩ : ∃ Q : State → Prop, Q = MQ below (va_Qi (fun (r : Int32) (u : Int32 × (Nat → Int32) × (Nat → Int32) × (Nat → Int32)) => post r u.1 u.2.1 u.2.2.1 u.2.2.2) (fun (u : Int32 × (Nat → Int32) × (Nat → Int32) × (Nat → Int32)) (t : State) => va_P (dC, dI) vwCl [ob_Memory h_this i_size h_kinds h_lefts h_rights h_free u.1 h_isReached h_reached i_reachedCount, ar_ h_free c_free n_free f_free, ar_ h_kinds c_kinds n_kinds u.2.1, ar_ h_lefts c_lefts n_lefts u.2.2.1, ar_ h_rights c_rights n_rights u.2.2.2] t.heap ∧ va_K (dC, dI) vwCl [(c_free, .int), (c_kinds, .int), (c_lefts, .int), (c_rights, .int)] t ∧ va_D A [ob_Memory h_this i_size h_kinds h_lefts h_rights h_free u.1 h_isReached h_reached i_reachedCount, ar_ h_free c_free n_free f_free, ar_ h_kinds c_kinds n_kinds u.2.1, ar_ h_lefts c_lefts n_lefts u.2.2.1, ar_ h_rights c_rights n_rights u.2.2.2]) A) ([.ref h_this, .int x1, .int x2] : List Value).toArray s 0 0 A := ⟨_, rfl⟩
  rw [← hQ]
  unfold wp_Memory_newClosure at hw
  refine lv_aload_n hx hb d_Memory_newClosure_0 rfl (lv_at hl 0 rfl) ?_
  refine lv_iconst (v := 3) hx hb d_Memory_newClosure_1 (by decide) ?_
  refine lv_iload_n hx hb d_Memory_newClosure_2 rfl (lv_at hl 1 rfl) ?_
  refine lv_iload_n hx hb d_Memory_newClosure_3 rfl (lv_at hl 2 rfl) ?_
  have hPc := hP.sub (ws' := [ob_Memory h_this i_size h_kinds h_lefts h_rights h_free i_freeCount h_isReached h_reached i_reachedCount, ar_ h_free c_free n_free f_free, ar_ h_kinds c_kinds n_kinds f_kinds, ar_ h_lefts c_lefts n_lefts f_lefts, ar_ h_rights c_rights n_rights f_rights]) [0, 1, 2, 3, 4] rfl
  have hDc := hD.sub (ws' := [ob_Memory h_this i_size h_kinds h_lefts h_rights h_free i_freeCount h_isReached h_reached i_reachedCount, ar_ h_free c_free n_free f_free, ar_ h_kinds c_kinds n_kinds f_kinds, ar_ h_lefts c_lefts n_lefts f_lefts, ar_ h_rights c_rights n_rights f_rights]) [0, 1, 2, 3, 4] (by decide) rfl
  have hKc := hK.sub (tys' := [(c_free, .int), (c_kinds, .int), (c_lefts, .int), (c_rights, .int)]) [0, 1, 2, 3] rfl
  have hFc := va_free (wc := [ob_Memory h_this i_size h_kinds h_lefts h_rights h_free i_freeCount h_isReached h_reached i_reachedCount, ar_ h_free c_free n_free f_free, ar_ h_kinds c_kinds n_kinds f_kinds, ar_ h_lefts c_lefts n_lefts f_lefts, ar_ h_rights c_rights n_rights f_rights]) hD hS hA [0, 1, 2, 3, 4] rfl
  refine va_calli (va_runV (As := [.int (3 : Int32), .int x1, .int x2]) (rest := []) ⟨hx, hb, hml, hown, hts⟩ (c_Memory_take l dC dI h_this h_free h_kinds h_lefts h_rights h_isReached h_reached c_free c_kinds c_lefts c_rights s.heap.size n_free n_kinds n_lefts n_rights i_size i_freeCount i_reachedCount f_free f_kinds f_lefts f_rights (3 : Int32) x1 x2 _ hw) (cwV 3 hts (gd_V kt_584 kt_586 ks_26 kt_12 kt_587) rfl rfl rfl (by decide +kernel) ⟨Nat.le_of_ble_eq_true rfl, Nat.le_of_ble_eq_true rfl⟩) ⟨pre_blind, va_recv hKc hPc (ci := 4) (q0 := 0) rfl rfl, pre_ok hPc hKc hDc hG hS hFc⟩ rfl rfl hl.1 rfl (lv_room (Nat.le_of_ble_eq_true rfl)) d_Memory_newClosure_4 ⟨Nat.zero_le _, Nat.zero_le _⟩) hS (fun q _ h => hFc q h) hFc (fun r_1 u t H1 locs ht hvm hw hB hz1 hk1 hS => ?_)
  obtain ⟨i_freeCount_2, f_kinds_3, f_lefts_4, f_rights_5⟩ := u
  obtain ⟨hP1, hK1, hD1⟩ := hB
  rw [ht] at hP1
  try dsimp only at hw
  obtain ⟨hP, hD⟩ := va_join (wr := []) (w1 := [ob_Memory h_this i_size h_kinds h_lefts h_rights h_free i_freeCount_2 h_isReached h_reached i_reachedCount, ar_ h_free c_free n_free f_free, ar_ h_kinds c_kinds n_kinds f_kinds_3, ar_ h_lefts c_lefts n_lefts f_lefts_4, ar_ h_rights c_rights n_rights f_rights_5]) hP hD [0, 1, 2, 3, 4] [] rfl rfl (by decide) (by decide) hk1 hFc hP1 hD1
  generalize H1 = H at hP hS ⊢
  have hP : va_P (dC, dI) vwCl [ob_Memory h_this i_size h_kinds h_lefts h_rights h_free i_freeCount_2 h_isReached h_reached i_reachedCount, ar_ h_free c_free n_free f_free, ar_ h_kinds c_kinds n_kinds f_kinds_3, ar_ h_lefts c_lefts n_lefts f_lefts_4, ar_ h_rights c_rights n_rights f_rights_5] H := hP
  have hD : va_D A [ob_Memory h_this i_size h_kinds h_lefts h_rights h_free i_freeCount_2 h_isReached h_reached i_reachedCount, ar_ h_free c_free n_free f_free, ar_ h_kinds c_kinds n_kinds f_kinds_3, ar_ h_lefts c_lefts n_lefts f_lefts_4, ar_ h_rights c_rights n_rights f_rights_5] := hD
  have hP9 : va_P (dC, dI) vwCl [ob_Memory h_this i_size h_kinds h_lefts h_rights h_free i_freeCount_2 h_isReached h_reached i_reachedCount, ar_ h_free c_free n_free f_free, ar_ h_kinds c_kinds n_kinds f_kinds_3, ar_ h_lefts c_lefts n_lefts f_lefts_4, ar_ h_rights c_rights n_rights f_rights_5] _ := hP
  have hD9 : va_D A [ob_Memory h_this i_size h_kinds h_lefts h_rights h_free i_freeCount_2 h_isReached h_reached i_reachedCount, ar_ h_free c_free n_free f_free, ar_ h_kinds c_kinds n_kinds f_kinds_3, ar_ h_lefts c_lefts n_lefts f_lefts_4, ar_ h_rights c_rights n_rights f_rights_5] := hD
  rw [hQ]
  exact W.iret (v := r_1) hx hb hr (fun t ht hW => ⟨⟨r_1, (i_freeCount_2, f_kinds_3, f_lefts_4, f_rights_5), rfl, hw, by rw [ht]; exact hP9, va_K.moved hW.alike hK, hD9⟩, hS.F ht⟩) hS.2.2 d_Memory_newClosure_7

set_option maxHeartbeats 4000000 in
set_option maxRecDepth 100000 in
theorem c_Memory_newMark (l : Launch) (dC : Nat → ClassId) (dI : Nat → Nat → Nat) (h_this : Nat) (h_free : Nat) (h_kinds : Nat) (h_lefts : Nat) (h_rights : Nat) (h_isReached : Nat) (h_reached : Nat) (c_free : ClassId) (c_kinds : ClassId) (c_lefts : ClassId) (c_rights : ClassId) (sz : Nat) (n_free : Nat) (n_kinds : Nat) (n_lefts : Nat) (n_rights : Nat) (i_size : Int32) (i_freeCount : Int32) (i_reachedCount : Int32) (f_free : Nat → Int32) (f_kinds : Nat → Int32) (f_lefts : Nat → Int32) (f_rights : Nat → Int32) (x1 : Int32) (x2 : Int32) (post : Int32 → Int32 → (Nat → Int32) → (Nat → Int32) → (Nat → Int32) → Prop) (hw : wp_Memory_newMark n_free n_kinds n_lefts n_rights i_freeCount f_free f_kinds f_lefts f_rights x1 x2 post) : Met l y_Memory_newMark (ws_ y_Memory_newMark b_Memory_newMark 3 (some .int)) { frames := 1, cells := 0, slots := 0, locals := 24 } (va_Pc [.ref h_this, .int x1, .int x2] (PRE (dC, dI) vwCl [(c_free, .int), (c_kinds, .int), (c_lefts, .int), (c_rights, .int)] [ob_Memory h_this i_size h_kinds h_lefts h_rights h_free i_freeCount h_isReached h_reached i_reachedCount, ar_ h_free c_free n_free f_free, ar_ h_kinds c_kinds n_kinds f_kinds, ar_ h_lefts c_lefts n_lefts f_lefts, ar_ h_rights c_rights n_rights f_rights] sz (va_A [ob_Memory h_this i_size h_kinds h_lefts h_rights h_free i_freeCount h_isReached h_reached i_reachedCount, ar_ h_free c_free n_free f_free, ar_ h_kinds c_kinds n_kinds f_kinds, ar_ h_lefts c_lefts n_lefts f_lefts, ar_ h_rights c_rights n_rights f_rights] sz))) (va_Qi (fun (r : Int32) (u : Int32 × (Nat → Int32) × (Nat → Int32) × (Nat → Int32)) => post r u.1 u.2.1 u.2.2.1 u.2.2.2) (fun (u : Int32 × (Nat → Int32) × (Nat → Int32) × (Nat → Int32)) (t : State) => va_P (dC, dI) vwCl [ob_Memory h_this i_size h_kinds h_lefts h_rights h_free u.1 h_isReached h_reached i_reachedCount, ar_ h_free c_free n_free f_free, ar_ h_kinds c_kinds n_kinds u.2.1, ar_ h_lefts c_lefts n_lefts u.2.2.1, ar_ h_rights c_rights n_rights u.2.2.2] t.heap ∧ va_K (dC, dI) vwCl [(c_free, .int), (c_kinds, .int), (c_lefts, .int), (c_rights, .int)] t ∧ va_D (va_A [ob_Memory h_this i_size h_kinds h_lefts h_rights h_free i_freeCount h_isReached h_reached i_reachedCount, ar_ h_free c_free n_free f_free, ar_ h_kinds c_kinds n_kinds f_kinds, ar_ h_lefts c_lefts n_lefts f_lefts, ar_ h_rights c_rights n_rights f_rights] sz) [ob_Memory h_this i_size h_kinds h_lefts h_rights h_free u.1 h_isReached h_reached i_reachedCount, ar_ h_free c_free n_free f_free, ar_ h_kinds c_kinds n_kinds u.2.1, ar_ h_lefts c_lefts n_lefts u.2.2.1, ar_ h_rights c_rights n_rights u.2.2.2]) (va_A [ob_Memory h_this i_size h_kinds h_lefts h_rights h_free i_freeCount h_isReached h_reached i_reachedCount, ar_ h_free c_free n_free f_free, ar_ h_kinds c_kinds n_kinds f_kinds, ar_ h_lefts c_lefts n_lefts f_lefts, ar_ h_rights c_rights n_rights f_rights] sz)) 0 0 (va_A [ob_Memory h_this i_size h_kinds h_lefts h_rights h_free i_freeCount h_isReached h_reached i_reachedCount, ar_ h_free c_free n_free f_free, ar_ h_kinds c_kinds n_kinds f_kinds, ar_ h_lefts c_lefts n_lefts f_lefts, ar_ h_rights c_rights n_rights f_rights] sz) := by
  refine Met.ofW (cc := b_Memory_newMark) (maxL := 3) (ret := (some .int)) (by decide) rfl ?_
  intro p e s m args below meth c s₁ B hml hv
  obtain ⟨rfl, hsz, hP, hK, hD0, hG⟩ := hv
  have hx := B.exec
  have hb := B.bytes
  have hr := B.returns
  have hts : ∀ w ∈ tb, w.before _ s = true := fun w h => atoms_spec (ws := ws_ _ _ _ _) B.pre w (List.mem_cons_of_mem _ h)
  have hown : s.vm.findClass R_Memory = some m.cls := findClass_of_methodNamed B.named
  have hlocks := B.notSynchronized
  subst hsz
  have hD := hD0.self (sz := s.heap.size)
  generalize hAe : va_A [ob_Memory h_this i_size h_kinds h_lefts h_rights h_free i_freeCount h_isReached h_reached i_reachedCount, ar_ h_free c_free n_free f_free, ar_ h_kinds c_kinds n_kinds f_kinds, ar_ h_lefts c_lefts n_lefts f_lefts, ar_ h_rights c_rights n_rights f_rights] s.heap.size = A at hD hG ⊢
  have hA : ∀ q : Nat, s.heap.size ≤ q → A q := fun q h => by rw [← hAe]; exact Or.inr h
  have hS : va_S A s.heap s.heap [] := va_S.rf
  have hP : va_P (dC, dI) vwCl [ob_Memory h_this i_size h_kinds h_lefts h_rights h_free i_freeCount h_isReached h_reached i_reachedCount, ar_ h_free c_free n_free f_free, ar_ h_kinds c_kinds n_kinds f_kinds, ar_ h_lefts c_lefts n_lefts f_lefts, ar_ h_rights c_rights n_rights f_rights] s.heap := hP
  have hl := lv_entry [.ref h_this, .int x1, .int x2] (n := 3) (Nat.le_of_ble_eq_true rfl)
  rw [lg_entry_eq]
  generalize (lg_sl [.ref h_this, .int x1, .int x2] ++ List.replicate (3 - (lg_sl [.ref h_this, .int x1, .int x2]).length) Slot.unset).toArray = ls at hl ⊢
  have hl : lv_has ls 3 [(0, .ref h_this), (1, .int x1), (2, .int x2)] := hl
  obtain ⟨Q, hQ⟩ : ∃ Q : State → Prop, Q = MQ below (va_Qi (fun (r : Int32) (u : Int32 × (Nat → Int32) × (Nat → Int32) × (Nat → Int32)) => post r u.1 u.2.1 u.2.2.1 u.2.2.2) (fun (u : Int32 × (Nat → Int32) × (Nat → Int32) × (Nat → Int32)) (t : State) => va_P (dC, dI) vwCl [ob_Memory h_this i_size h_kinds h_lefts h_rights h_free u.1 h_isReached h_reached i_reachedCount, ar_ h_free c_free n_free f_free, ar_ h_kinds c_kinds n_kinds u.2.1, ar_ h_lefts c_lefts n_lefts u.2.2.1, ar_ h_rights c_rights n_rights u.2.2.2] t.heap ∧ va_K (dC, dI) vwCl [(c_free, .int), (c_kinds, .int), (c_lefts, .int), (c_rights, .int)] t ∧ va_D A [ob_Memory h_this i_size h_kinds h_lefts h_rights h_free u.1 h_isReached h_reached i_reachedCount, ar_ h_free c_free n_free f_free, ar_ h_kinds c_kinds n_kinds u.2.1, ar_ h_lefts c_lefts n_lefts u.2.2.1, ar_ h_rights c_rights n_rights u.2.2.2]) A) ([.ref h_this, .int x1, .int x2] : List Value).toArray s 0 0 A := ⟨_, rfl⟩
  rw [← hQ]
  unfold wp_Memory_newMark at hw
  refine lv_aload_n hx hb d_Memory_newMark_0 rfl (lv_at hl 0 rfl) ?_
  refine lv_iconst (v := 4) hx hb d_Memory_newMark_1 (by decide) ?_
  refine lv_iload_n hx hb d_Memory_newMark_2 rfl (lv_at hl 1 rfl) ?_
  refine lv_iload_n hx hb d_Memory_newMark_3 rfl (lv_at hl 2 rfl) ?_
  have hPc := hP.sub (ws' := [ob_Memory h_this i_size h_kinds h_lefts h_rights h_free i_freeCount h_isReached h_reached i_reachedCount, ar_ h_free c_free n_free f_free, ar_ h_kinds c_kinds n_kinds f_kinds, ar_ h_lefts c_lefts n_lefts f_lefts, ar_ h_rights c_rights n_rights f_rights]) [0, 1, 2, 3, 4] rfl
  have hDc := hD.sub (ws' := [ob_Memory h_this i_size h_kinds h_lefts h_rights h_free i_freeCount h_isReached h_reached i_reachedCount, ar_ h_free c_free n_free f_free, ar_ h_kinds c_kinds n_kinds f_kinds, ar_ h_lefts c_lefts n_lefts f_lefts, ar_ h_rights c_rights n_rights f_rights]) [0, 1, 2, 3, 4] (by decide) rfl
  have hKc := hK.sub (tys' := [(c_free, .int), (c_kinds, .int), (c_lefts, .int), (c_rights, .int)]) [0, 1, 2, 3] rfl
  have hFc := va_free (wc := [ob_Memory h_this i_size h_kinds h_lefts h_rights h_free i_freeCount h_isReached h_reached i_reachedCount, ar_ h_free c_free n_free f_free, ar_ h_kinds c_kinds n_kinds f_kinds, ar_ h_lefts c_lefts n_lefts f_lefts, ar_ h_rights c_rights n_rights f_rights]) hD hS hA [0, 1, 2, 3, 4] rfl
  refine va_calli (va_runV (As := [.int (4 : Int32), .int x1, .int x2]) (rest := []) ⟨hx, hb, hml, hown, hts⟩ (c_Memory_take l dC dI h_this h_free h_kinds h_lefts h_rights h_isReached h_reached c_free c_kinds c_lefts c_rights s.heap.size n_free n_kinds n_lefts n_rights i_size i_freeCount i_reachedCount f_free f_kinds f_lefts f_rights (4 : Int32) x1 x2 _ hw) (cwV 3 hts (gd_V kt_584 kt_586 ks_26 kt_12 kt_587) rfl rfl rfl (by decide +kernel) ⟨Nat.le_of_ble_eq_true rfl, Nat.le_of_ble_eq_true rfl⟩) ⟨pre_blind, va_recv hKc hPc (ci := 4) (q0 := 0) rfl rfl, pre_ok hPc hKc hDc hG hS hFc⟩ rfl rfl hl.1 rfl (lv_room (Nat.le_of_ble_eq_true rfl)) d_Memory_newMark_4 ⟨Nat.zero_le _, Nat.zero_le _⟩) hS (fun q _ h => hFc q h) hFc (fun r_1 u t H1 locs ht hvm hw hB hz1 hk1 hS => ?_)
  obtain ⟨i_freeCount_2, f_kinds_3, f_lefts_4, f_rights_5⟩ := u
  obtain ⟨hP1, hK1, hD1⟩ := hB
  rw [ht] at hP1
  try dsimp only at hw
  obtain ⟨hP, hD⟩ := va_join (wr := []) (w1 := [ob_Memory h_this i_size h_kinds h_lefts h_rights h_free i_freeCount_2 h_isReached h_reached i_reachedCount, ar_ h_free c_free n_free f_free, ar_ h_kinds c_kinds n_kinds f_kinds_3, ar_ h_lefts c_lefts n_lefts f_lefts_4, ar_ h_rights c_rights n_rights f_rights_5]) hP hD [0, 1, 2, 3, 4] [] rfl rfl (by decide) (by decide) hk1 hFc hP1 hD1
  generalize H1 = H at hP hS ⊢
  have hP : va_P (dC, dI) vwCl [ob_Memory h_this i_size h_kinds h_lefts h_rights h_free i_freeCount_2 h_isReached h_reached i_reachedCount, ar_ h_free c_free n_free f_free, ar_ h_kinds c_kinds n_kinds f_kinds_3, ar_ h_lefts c_lefts n_lefts f_lefts_4, ar_ h_rights c_rights n_rights f_rights_5] H := hP
  have hD : va_D A [ob_Memory h_this i_size h_kinds h_lefts h_rights h_free i_freeCount_2 h_isReached h_reached i_reachedCount, ar_ h_free c_free n_free f_free, ar_ h_kinds c_kinds n_kinds f_kinds_3, ar_ h_lefts c_lefts n_lefts f_lefts_4, ar_ h_rights c_rights n_rights f_rights_5] := hD
  have hP9 : va_P (dC, dI) vwCl [ob_Memory h_this i_size h_kinds h_lefts h_rights h_free i_freeCount_2 h_isReached h_reached i_reachedCount, ar_ h_free c_free n_free f_free, ar_ h_kinds c_kinds n_kinds f_kinds_3, ar_ h_lefts c_lefts n_lefts f_lefts_4, ar_ h_rights c_rights n_rights f_rights_5] _ := hP
  have hD9 : va_D A [ob_Memory h_this i_size h_kinds h_lefts h_rights h_free i_freeCount_2 h_isReached h_reached i_reachedCount, ar_ h_free c_free n_free f_free, ar_ h_kinds c_kinds n_kinds f_kinds_3, ar_ h_lefts c_lefts n_lefts f_lefts_4, ar_ h_rights c_rights n_rights f_rights_5] := hD
  rw [hQ]
  exact W.iret (v := r_1) hx hb hr (fun t ht hW => ⟨⟨r_1, (i_freeCount_2, f_kinds_3, f_lefts_4, f_rights_5), rfl, hw, by rw [ht]; exact hP9, va_K.moved hW.alike hK, hD9⟩, hS.F ht⟩) hS.2.2 d_Memory_newMark_7

set_option maxHeartbeats 4000000 in
set_option maxRecDepth 100000 in
theorem c_Memory_kindOf (l : Launch) (dC : Nat → ClassId) (dI : Nat → Nat → Nat) (h_this : Nat) (h_kinds : Nat) (h_lefts : Nat) (h_rights : Nat) (h_free : Nat) (h_isReached : Nat) (h_reached : Nat) (c_kinds : ClassId) (sz : Nat) (n_kinds : Nat) (i_size : Int32) (i_freeCount : Int32) (i_reachedCount : Int32) (f_kinds : Nat → Int32) (x1 : Int32) (post : Int32 → Prop) (hw : wp_Memory_kindOf n_kinds f_kinds x1 post) : Met l y_Memory_kindOf (ws_ y_Memory_kindOf b_Memory_kindOf 2 (some .int)) { frames := 0, cells := 0, slots := 0, locals := 0 } (va_Pc [.ref h_this, .int x1] (PRE (dC, dI) vwCl [(c_kinds, .int)] [ob_Memory h_this i_size h_kinds h_lefts h_rights h_free i_freeCount h_isReached h_reached i_reachedCount, ar_ h_kinds c_kinds n_kinds f_kinds] sz (va_A [ob_Memory h_this i_size h_kinds h_lefts h_rights h_free i_freeCount h_isReached h_reached i_reachedCount, ar_ h_kinds c_kinds n_kinds f_kinds] sz))) (va_Qi (fun (r : Int32) (u : Unit) => post r ) (fun (u : Unit) (t : State) => va_P (dC, dI) vwCl [ob_Memory h_this i_size h_kinds h_lefts h_rights h_free i_freeCount h_isReached h_reached i_reachedCount, ar_ h_kinds c_kinds n_kinds f_kinds] t.heap ∧ va_K (dC, dI) vwCl [(c_kinds, .int)] t ∧ va_D (va_A [ob_Memory h_this i_size h_kinds h_lefts h_rights h_free i_freeCount h_isReached h_reached i_reachedCount, ar_ h_kinds c_kinds n_kinds f_kinds] sz) [ob_Memory h_this i_size h_kinds h_lefts h_rights h_free i_freeCount h_isReached h_reached i_reachedCount, ar_ h_kinds c_kinds n_kinds f_kinds]) (va_A [ob_Memory h_this i_size h_kinds h_lefts h_rights h_free i_freeCount h_isReached h_reached i_reachedCount, ar_ h_kinds c_kinds n_kinds f_kinds] sz)) 0 0 (va_A [ob_Memory h_this i_size h_kinds h_lefts h_rights h_free i_freeCount h_isReached h_reached i_reachedCount, ar_ h_kinds c_kinds n_kinds f_kinds] sz) := by
  refine Met.ofW (cc := b_Memory_kindOf) (maxL := 2) (ret := (some .int)) (by decide) rfl ?_
  intro p e s m args below meth c s₁ B hml hv
  obtain ⟨rfl, hsz, hP, hK, hD0, hG⟩ := hv
  have hx := B.exec
  have hb := B.bytes
  have hr := B.returns
  have hts : ∀ w ∈ tb, w.before _ s = true := fun w h => atoms_spec (ws := ws_ _ _ _ _) B.pre w (List.mem_cons_of_mem _ h)
  have hown : s.vm.findClass R_Memory = some m.cls := findClass_of_methodNamed B.named
  have hlocks := B.notSynchronized
  subst hsz
  have hD := hD0.self (sz := s.heap.size)
  generalize hAe : va_A [ob_Memory h_this i_size h_kinds h_lefts h_rights h_free i_freeCount h_isReached h_reached i_reachedCount, ar_ h_kinds c_kinds n_kinds f_kinds] s.heap.size = A at hD hG ⊢
  have hA : ∀ q : Nat, s.heap.size ≤ q → A q := fun q h => by rw [← hAe]; exact Or.inr h
  have hS : va_S A s.heap s.heap [] := va_S.rf
  have hP : va_P (dC, dI) vwCl [ob_Memory h_this i_size h_kinds h_lefts h_rights h_free i_freeCount h_isReached h_reached i_reachedCount, ar_ h_kinds c_kinds n_kinds f_kinds] s.heap := hP
  have hl := lv_entry [.ref h_this, .int x1] (n := 2) (Nat.le_of_ble_eq_true rfl)
  rw [lg_entry_eq]
  generalize (lg_sl [.ref h_this, .int x1] ++ List.replicate (2 - (lg_sl [.ref h_this, .int x1]).length) Slot.unset).toArray = ls at hl ⊢
  have hl : lv_has ls 2 [(0, .ref h_this), (1, .int x1)] := hl
  obtain ⟨Q, hQ⟩ : ∃ Q : State → Prop, Q = MQ below (va_Qi (fun (r : Int32) (u : Unit) => post r ) (fun (u : Unit) (t : State) => va_P (dC, dI) vwCl [ob_Memory h_this i_size h_kinds h_lefts h_rights h_free i_freeCount h_isReached h_reached i_reachedCount, ar_ h_kinds c_kinds n_kinds f_kinds] t.heap ∧ va_K (dC, dI) vwCl [(c_kinds, .int)] t ∧ va_D A [ob_Memory h_this i_size h_kinds h_lefts h_rights h_free i_freeCount h_isReached h_reached i_reachedCount, ar_ h_kinds c_kinds n_kinds f_kinds]) A) ([.ref h_this, .int x1] : List Value).toArray s 0 0 A := ⟨_, rfl⟩
  rw [← hQ]
  unfold wp_Memory_kindOf at hw
  refine lv_aload_n hx hb d_Memory_kindOf_0 rfl (lv_at hl 0 rfl) ?_
  refine va_get (D := (dC, dI)) (ci := 4) (v := .ref h_kinds) (C := R_Memory) (T := T_Memory) (N := 9) hx hb hts in_Memory hown hK hP 0 rfl rfl 1 (by decide) (hts _ kt_189) (fun _ h9 => h9) rfl d_Memory_kindOf_1 ?_
  refine lv_iload_n hx hb d_Memory_kindOf_4 rfl (lv_at hl 1 rfl) ?_
  obtain ⟨h_1, hw⟩ := hw
  refine va_iald hx hb hK hP 1 0 rfl rfl h_1 d_Memory_kindOf_5 ?_
  have hP9 : va_P (dC, dI) vwCl [ob_Memory h_this i_size h_kinds h_lefts h_rights h_free i_freeCount h_isReached h_reached i_reachedCount, ar_ h_kinds c_kinds n_kinds f_kinds] _ := hP
  have hD9 : va_D A [ob_Memory h_this i_size h_kinds h_lefts h_rights h_free i_freeCount h_isReached h_reached i_reachedCount, ar_ h_kinds c_kinds n_kinds f_kinds] := hD
  rw [hQ]
  exact W.iret (v := f_kinds x1.toNatClampNeg) hx hb hr (fun t ht hW => ⟨⟨f_kinds x1.toNatClampNeg, (), rfl, hw, by rw [ht]; exact hP9, va_K.moved hW.alike hK, hD9⟩, hS.F ht⟩) hS.2.2 d_Memory_kindOf_6

set_option maxHeartbeats 4000000 in
set_option maxRecDepth 100000 in
theorem c_Memory_valueOf (l : Launch) (dC : Nat → ClassId) (dI : Nat → Nat → Nat) (h_this : Nat) (h_lefts : Nat) (h_kinds : Nat) (h_rights : Nat) (h_free : Nat) (h_isReached : Nat) (h_reached : Nat) (c_lefts : ClassId) (sz : Nat) (n_lefts : Nat) (i_size : Int32) (i_freeCount : Int32) (i_reachedCount : Int32) (f_lefts : Nat → Int32) (x1 : Int32) (post : Int32 → Prop) (hw : wp_Memory_valueOf n_lefts f_lefts x1 post) : Met l y_Memory_valueOf (ws_ y_Memory_valueOf b_Memory_valueOf 2 (some .int)) { frames := 0, cells := 0, slots := 0, locals := 0 } (va_Pc [.ref h_this, .int x1] (PRE (dC, dI) vwCl [(c_lefts, .int)] [ob_Memory h_this i_size h_kinds h_lefts h_rights h_free i_freeCount h_isReached h_reached i_reachedCount, ar_ h_lefts c_lefts n_lefts f_lefts] sz (va_A [ob_Memory h_this i_size h_kinds h_lefts h_rights h_free i_freeCount h_isReached h_reached i_reachedCount, ar_ h_lefts c_lefts n_lefts f_lefts] sz))) (va_Qi (fun (r : Int32) (u : Unit) => post r ) (fun (u : Unit) (t : State) => va_P (dC, dI) vwCl [ob_Memory h_this i_size h_kinds h_lefts h_rights h_free i_freeCount h_isReached h_reached i_reachedCount, ar_ h_lefts c_lefts n_lefts f_lefts] t.heap ∧ va_K (dC, dI) vwCl [(c_lefts, .int)] t ∧ va_D (va_A [ob_Memory h_this i_size h_kinds h_lefts h_rights h_free i_freeCount h_isReached h_reached i_reachedCount, ar_ h_lefts c_lefts n_lefts f_lefts] sz) [ob_Memory h_this i_size h_kinds h_lefts h_rights h_free i_freeCount h_isReached h_reached i_reachedCount, ar_ h_lefts c_lefts n_lefts f_lefts]) (va_A [ob_Memory h_this i_size h_kinds h_lefts h_rights h_free i_freeCount h_isReached h_reached i_reachedCount, ar_ h_lefts c_lefts n_lefts f_lefts] sz)) 0 0 (va_A [ob_Memory h_this i_size h_kinds h_lefts h_rights h_free i_freeCount h_isReached h_reached i_reachedCount, ar_ h_lefts c_lefts n_lefts f_lefts] sz) := by
  refine Met.ofW (cc := b_Memory_valueOf) (maxL := 2) (ret := (some .int)) (by decide) rfl ?_
  intro p e s m args below meth c s₁ B hml hv
  obtain ⟨rfl, hsz, hP, hK, hD0, hG⟩ := hv
  have hx := B.exec
  have hb := B.bytes
  have hr := B.returns
  have hts : ∀ w ∈ tb, w.before _ s = true := fun w h => atoms_spec (ws := ws_ _ _ _ _) B.pre w (List.mem_cons_of_mem _ h)
  have hown : s.vm.findClass R_Memory = some m.cls := findClass_of_methodNamed B.named
  have hlocks := B.notSynchronized
  subst hsz
  have hD := hD0.self (sz := s.heap.size)
  generalize hAe : va_A [ob_Memory h_this i_size h_kinds h_lefts h_rights h_free i_freeCount h_isReached h_reached i_reachedCount, ar_ h_lefts c_lefts n_lefts f_lefts] s.heap.size = A at hD hG ⊢
  have hA : ∀ q : Nat, s.heap.size ≤ q → A q := fun q h => by rw [← hAe]; exact Or.inr h
  have hS : va_S A s.heap s.heap [] := va_S.rf
  have hP : va_P (dC, dI) vwCl [ob_Memory h_this i_size h_kinds h_lefts h_rights h_free i_freeCount h_isReached h_reached i_reachedCount, ar_ h_lefts c_lefts n_lefts f_lefts] s.heap := hP
  have hl := lv_entry [.ref h_this, .int x1] (n := 2) (Nat.le_of_ble_eq_true rfl)
  rw [lg_entry_eq]
  generalize (lg_sl [.ref h_this, .int x1] ++ List.replicate (2 - (lg_sl [.ref h_this, .int x1]).length) Slot.unset).toArray = ls at hl ⊢
  have hl : lv_has ls 2 [(0, .ref h_this), (1, .int x1)] := hl
  obtain ⟨Q, hQ⟩ : ∃ Q : State → Prop, Q = MQ below (va_Qi (fun (r : Int32) (u : Unit) => post r ) (fun (u : Unit) (t : State) => va_P (dC, dI) vwCl [ob_Memory h_this i_size h_kinds h_lefts h_rights h_free i_freeCount h_isReached h_reached i_reachedCount, ar_ h_lefts c_lefts n_lefts f_lefts] t.heap ∧ va_K (dC, dI) vwCl [(c_lefts, .int)] t ∧ va_D A [ob_Memory h_this i_size h_kinds h_lefts h_rights h_free i_freeCount h_isReached h_reached i_reachedCount, ar_ h_lefts c_lefts n_lefts f_lefts]) A) ([.ref h_this, .int x1] : List Value).toArray s 0 0 A := ⟨_, rfl⟩
  rw [← hQ]
  unfold wp_Memory_valueOf at hw
  refine lv_aload_n hx hb d_Memory_valueOf_0 rfl (lv_at hl 0 rfl) ?_
  refine va_get (D := (dC, dI)) (ci := 4) (v := .ref h_lefts) (C := R_Memory) (T := T_Memory) (N := 9) hx hb hts in_Memory hown hK hP 0 rfl rfl 2 (by decide) (hts _ kt_190) (fun _ h9 => h9) rfl d_Memory_valueOf_1 ?_
  refine lv_iload_n hx hb d_Memory_valueOf_4 rfl (lv_at hl 1 rfl) ?_
  obtain ⟨h_1, hw⟩ := hw
  refine va_iald hx hb hK hP 1 0 rfl rfl h_1 d_Memory_valueOf_5 ?_
  have hP9 : va_P (dC, dI) vwCl [ob_Memory h_this i_size h_kinds h_lefts h_rights h_free i_freeCount h_isReached h_reached i_reachedCount, ar_ h_lefts c_lefts n_lefts f_lefts] _ := hP
  have hD9 : va_D A [ob_Memory h_this i_size h_kinds h_lefts h_rights h_free i_freeCount h_isReached h_reached i_reachedCount, ar_ h_lefts c_lefts n_lefts f_lefts] := hD
  rw [hQ]
  exact W.iret (v := f_lefts x1.toNatClampNeg) hx hb hr (fun t ht hW => ⟨⟨f_lefts x1.toNatClampNeg, (), rfl, hw, by rw [ht]; exact hP9, va_K.moved hW.alike hK, hD9⟩, hS.F ht⟩) hS.2.2 d_Memory_valueOf_6

set_option maxHeartbeats 4000000 in
set_option maxRecDepth 100000 in
theorem c_Memory_headOf (l : Launch) (dC : Nat → ClassId) (dI : Nat → Nat → Nat) (h_this : Nat) (h_kinds : Nat) (h_lefts : Nat) (h_rights : Nat) (h_free : Nat) (h_isReached : Nat) (h_reached : Nat) (c_kinds : ClassId) (c_lefts : ClassId) (sz : Nat) (n_kinds : Nat) (n_lefts : Nat) (i_size : Int32) (i_freeCount : Int32) (i_reachedCount : Int32) (f_kinds : Nat → Int32) (f_lefts : Nat → Int32) (x1 : Int32) (post : Int32 → Prop) (hw : wp_Memory_headOf n_kinds n_lefts f_kinds f_lefts x1 post) : Met l y_Memory_headOf (ws_ y_Memory_headOf b_Memory_headOf 2 (some .int)) { frames := 0, cells := 0, slots := 0, locals := 0 } (va_Pc [.ref h_this, .int x1] (PRE (dC, dI) vwCl [(c_kinds, .int), (c_lefts, .int)] [ob_Memory h_this i_size h_kinds h_lefts h_rights h_free i_freeCount h_isReached h_reached i_reachedCount, ar_ h_kinds c_kinds n_kinds f_kinds, ar_ h_lefts c_lefts n_lefts f_lefts] sz (va_A [ob_Memory h_this i_size h_kinds h_lefts h_rights h_free i_freeCount h_isReached h_reached i_reachedCount, ar_ h_kinds c_kinds n_kinds f_kinds, ar_ h_lefts c_lefts n_lefts f_lefts] sz))) (va_Qi (fun (r : Int32) (u : Unit) => post r ) (fun (u : Unit) (t : State) => va_P (dC, dI) vwCl [ob_Memory h_this i_size h_kinds h_lefts h_rights h_free i_freeCount h_isReached h_reached i_reachedCount, ar_ h_kinds c_kinds n_kinds f_kinds, ar_ h_lefts c_lefts n_lefts f_lefts] t.heap ∧ va_K (dC, dI) vwCl [(c_kinds, .int), (c_lefts, .int)] t ∧ va_D (va_A [ob_Memory h_this i_size h_kinds h_lefts h_rights h_free i_freeCount h_isReached h_reached i_reachedCount, ar_ h_kinds c_kinds n_kinds f_kinds, ar_ h_lefts c_lefts n_lefts f_lefts] sz) [ob_Memory h_this i_size h_kinds h_lefts h_rights h_free i_freeCount h_isReached h_reached i_reachedCount, ar_ h_kinds c_kinds n_kinds f_kinds, ar_ h_lefts c_lefts n_lefts f_lefts]) (va_A [ob_Memory h_this i_size h_kinds h_lefts h_rights h_free i_freeCount h_isReached h_reached i_reachedCount, ar_ h_kinds c_kinds n_kinds f_kinds, ar_ h_lefts c_lefts n_lefts f_lefts] sz)) 0 0 (va_A [ob_Memory h_this i_size h_kinds h_lefts h_rights h_free i_freeCount h_isReached h_reached i_reachedCount, ar_ h_kinds c_kinds n_kinds f_kinds, ar_ h_lefts c_lefts n_lefts f_lefts] sz) := by
  refine Met.ofW (cc := b_Memory_headOf) (maxL := 2) (ret := (some .int)) (by decide) rfl ?_
  intro p e s m args below meth c s₁ B hml hv
  obtain ⟨rfl, hsz, hP, hK, hD0, hG⟩ := hv
  have hx := B.exec
  have hb := B.bytes
  have hr := B.returns
  have hts : ∀ w ∈ tb, w.before _ s = true := fun w h => atoms_spec (ws := ws_ _ _ _ _) B.pre w (List.mem_cons_of_mem _ h)
  have hown : s.vm.findClass R_Memory = some m.cls := findClass_of_methodNamed B.named
  have hlocks := B.notSynchronized
  subst hsz
  have hD := hD0.self (sz := s.heap.size)
  generalize hAe : va_A [ob_Memory h_this i_size h_kinds h_lefts h_rights h_free i_freeCount h_isReached h_reached i_reachedCount, ar_ h_kinds c_kinds n_kinds f_kinds, ar_ h_lefts c_lefts n_lefts f_lefts] s.heap.size = A at hD hG ⊢
  have hA : ∀ q : Nat, s.heap.size ≤ q → A q := fun q h => by rw [← hAe]; exact Or.inr h
  have hS : va_S A s.heap s.heap [] := va_S.rf
  have hP : va_P (dC, dI) vwCl [ob_Memory h_this i_size h_kinds h_lefts h_rights h_free i_freeCount h_isReached h_reached i_reachedCount, ar_ h_kinds c_kinds n_kinds f_kinds, ar_ h_lefts c_lefts n_lefts f_lefts] s.heap := hP
  have hl := lv_entry [.ref h_this, .int x1] (n := 2) (Nat.le_of_ble_eq_true rfl)
  rw [lg_entry_eq]
  generalize (lg_sl [.ref h_this, .int x1] ++ List.replicate (2 - (lg_sl [.ref h_this, .int x1]).length) Slot.unset).toArray = ls at hl ⊢
  have hl : lv_has ls 2 [(0, .ref h_this), (1, .int x1)] := hl
  obtain ⟨Q, hQ⟩ : ∃ Q : State → Prop, Q = MQ below (va_Qi (fun (r : Int32) (u : Unit) => post r ) (fun (u : Unit) (t : State) => va_P (dC, dI) vwCl [ob_Memory h_this i_size h_kinds h_lefts h_rights h_free i_freeCount h_isReached h_reached i_reachedCount, ar_ h_kinds c_kinds n_kinds f_kinds, ar_ h_lefts c_lefts n_lefts f_lefts] t.heap ∧ va_K (dC, dI) vwCl [(c_kinds, .int), (c_lefts, .int)] t ∧ va_D A [ob_Memory h_this i_size h_kinds h_lefts h_rights h_free i_freeCount h_isReached h_reached i_reachedCount, ar_ h_kinds c_kinds n_kinds f_kinds, ar_ h_lefts c_lefts n_lefts f_lefts]) A) ([.ref h_this, .int x1] : List Value).toArray s 0 0 A := ⟨_, rfl⟩
  rw [← hQ]
  unfold wp_Memory_headOf at hw
  refine lv_aload_n hx hb d_Memory_headOf_0 rfl (lv_at hl 0 rfl) ?_
  refine va_get (D := (dC, dI)) (ci := 4) (v := .ref h_kinds) (C := R_Memory) (T := T_Memory) (N := 9) hx hb hts in_Memory hown hK hP 0 rfl rfl 1 (by decide) (hts _ kt_189) (fun _ h9 => h9) rfl d_Memory_headOf_1 ?_
  refine lv_iload_n hx hb d_Memory_headOf_4 rfl (lv_at hl 1 rfl) ?_
  obtain ⟨h_1, hw⟩ := hw
  refine va_iald hx hb hK hP 1 0 rfl rfl h_1 d_Memory_headOf_5 ?_
  refine lv_iconst (v := 2) hx hb d_Memory_headOf_6 (by decide) ?_
  refine lv_icmp_ne (tgt := 19) hx hb d_Memory_headOf_7 (by decide) (fun c_2 => ?_) (fun c_2 => ?_)
  · have hw := hw.2 c_2
    refine lv_iconst (v := 0) hx hb d_Memory_headOf_19 (by decide) ?_
    have hP9 : va_P (dC, dI) vwCl [ob_Memory h_this i_size h_kinds h_lefts h_rights h_free i_freeCount h_isReached h_reached i_reachedCount, ar_ h_kinds c_kinds n_kinds f_kinds, ar_ h_lefts c_lefts n_lefts f_lefts] _ := hP
    have hD9 : va_D A [ob_Memory h_this i_size h_kinds h_lefts h_rights h_free i_freeCount h_isReached h_reached i_reachedCount, ar_ h_kinds c_kinds n_kinds f_kinds, ar_ h_lefts c_lefts n_lefts f_lefts] := hD
    rw [hQ]
    exact W.iret (v := (0 : Int32)) hx hb hr (fun t ht hW => ⟨⟨(0 : Int32), (), rfl, hw, by rw [ht]; exact hP9, va_K.moved hW.alike hK, hD9⟩, hS.F ht⟩) hS.2.2 d_Memory_headOf_20
  · have hw := hw.1 c_2
    refine lv_aload_n hx hb d_Memory_headOf_10 rfl (lv_at hl 0 rfl) ?_
    refine va_get (D := (dC, dI)) (ci := 4) (v := .ref h_lefts) (C := R_Memory) (T := T_Memory) (N := 9) hx hb hts in_Memory hown hK hP 0 rfl rfl 2 (by decide) (hts _ kt_190) (fun _ h9 => h9) rfl d_Memory_headOf_11 ?_
    refine lv_iload_n hx hb d_Memory_headOf_14 rfl (lv_at hl 1 rfl) ?_
    obtain ⟨h_3, hw⟩ := hw
    refine va_iald hx hb hK hP 2 1 rfl rfl h_3 d_Memory_headOf_15 ?_
    refine lv_goto (tgt := 20) hx hb d_Memory_headOf_16 (by decide) ?_
    have hP9 : va_P (dC, dI) vwCl [ob_Memory h_this i_size h_kinds h_lefts h_rights h_free i_freeCount h_isReached h_reached i_reachedCount, ar_ h_kinds c_kinds n_kinds f_kinds, ar_ h_lefts c_lefts n_lefts f_lefts] _ := hP
    have hD9 : va_D A [ob_Memory h_this i_size h_kinds h_lefts h_rights h_free i_freeCount h_isReached h_reached i_reachedCount, ar_ h_kinds c_kinds n_kinds f_kinds, ar_ h_lefts c_lefts n_lefts f_lefts] := hD
    rw [hQ]
    exact W.iret (v := f_lefts x1.toNatClampNeg) hx hb hr (fun t ht hW => ⟨⟨f_lefts x1.toNatClampNeg, (), rfl, hw, by rw [ht]; exact hP9, va_K.moved hW.alike hK, hD9⟩, hS.F ht⟩) hS.2.2 d_Memory_headOf_20

set_option maxHeartbeats 4000000 in
set_option maxRecDepth 100000 in
theorem c_Memory_tailOf (l : Launch) (dC : Nat → ClassId) (dI : Nat → Nat → Nat) (h_this : Nat) (h_kinds : Nat) (h_rights : Nat) (h_lefts : Nat) (h_free : Nat) (h_isReached : Nat) (h_reached : Nat) (c_kinds : ClassId) (c_rights : ClassId) (sz : Nat) (n_kinds : Nat) (n_rights : Nat) (i_size : Int32) (i_freeCount : Int32) (i_reachedCount : Int32) (f_kinds : Nat → Int32) (f_rights : Nat → Int32) (x1 : Int32) (post : Int32 → Prop) (hw : wp_Memory_tailOf n_kinds n_rights f_kinds f_rights x1 post) : Met l y_Memory_tailOf (ws_ y_Memory_tailOf b_Memory_tailOf 2 (some .int)) { frames := 0, cells := 0, slots := 0, locals := 0 } (va_Pc [.ref h_this, .int x1] (PRE (dC, dI) vwCl [(c_kinds, .int), (c_rights, .int)] [ob_Memory h_this i_size h_kinds h_lefts h_rights h_free i_freeCount h_isReached h_reached i_reachedCount, ar_ h_kinds c_kinds n_kinds f_kinds, ar_ h_rights c_rights n_rights f_rights] sz (va_A [ob_Memory h_this i_size h_kinds h_lefts h_rights h_free i_freeCount h_isReached h_reached i_reachedCount, ar_ h_kinds c_kinds n_kinds f_kinds, ar_ h_rights c_rights n_rights f_rights] sz))) (va_Qi (fun (r : Int32) (u : Unit) => post r ) (fun (u : Unit) (t : State) => va_P (dC, dI) vwCl [ob_Memory h_this i_size h_kinds h_lefts h_rights h_free i_freeCount h_isReached h_reached i_reachedCount, ar_ h_kinds c_kinds n_kinds f_kinds, ar_ h_rights c_rights n_rights f_rights] t.heap ∧ va_K (dC, dI) vwCl [(c_kinds, .int), (c_rights, .int)] t ∧ va_D (va_A [ob_Memory h_this i_size h_kinds h_lefts h_rights h_free i_freeCount h_isReached h_reached i_reachedCount, ar_ h_kinds c_kinds n_kinds f_kinds, ar_ h_rights c_rights n_rights f_rights] sz) [ob_Memory h_this i_size h_kinds h_lefts h_rights h_free i_freeCount h_isReached h_reached i_reachedCount, ar_ h_kinds c_kinds n_kinds f_kinds, ar_ h_rights c_rights n_rights f_rights]) (va_A [ob_Memory h_this i_size h_kinds h_lefts h_rights h_free i_freeCount h_isReached h_reached i_reachedCount, ar_ h_kinds c_kinds n_kinds f_kinds, ar_ h_rights c_rights n_rights f_rights] sz)) 0 0 (va_A [ob_Memory h_this i_size h_kinds h_lefts h_rights h_free i_freeCount h_isReached h_reached i_reachedCount, ar_ h_kinds c_kinds n_kinds f_kinds, ar_ h_rights c_rights n_rights f_rights] sz) := by
  refine Met.ofW (cc := b_Memory_tailOf) (maxL := 2) (ret := (some .int)) (by decide) rfl ?_
  intro p e s m args below meth c s₁ B hml hv
  obtain ⟨rfl, hsz, hP, hK, hD0, hG⟩ := hv
  have hx := B.exec
  have hb := B.bytes
  have hr := B.returns
  have hts : ∀ w ∈ tb, w.before _ s = true := fun w h => atoms_spec (ws := ws_ _ _ _ _) B.pre w (List.mem_cons_of_mem _ h)
  have hown : s.vm.findClass R_Memory = some m.cls := findClass_of_methodNamed B.named
  have hlocks := B.notSynchronized
  subst hsz
  have hD := hD0.self (sz := s.heap.size)
  generalize hAe : va_A [ob_Memory h_this i_size h_kinds h_lefts h_rights h_free i_freeCount h_isReached h_reached i_reachedCount, ar_ h_kinds c_kinds n_kinds f_kinds, ar_ h_rights c_rights n_rights f_rights] s.heap.size = A at hD hG ⊢
  have hA : ∀ q : Nat, s.heap.size ≤ q → A q := fun q h => by rw [← hAe]; exact Or.inr h
  have hS : va_S A s.heap s.heap [] := va_S.rf
  have hP : va_P (dC, dI) vwCl [ob_Memory h_this i_size h_kinds h_lefts h_rights h_free i_freeCount h_isReached h_reached i_reachedCount, ar_ h_kinds c_kinds n_kinds f_kinds, ar_ h_rights c_rights n_rights f_rights] s.heap := hP
  have hl := lv_entry [.ref h_this, .int x1] (n := 2) (Nat.le_of_ble_eq_true rfl)
  rw [lg_entry_eq]
  generalize (lg_sl [.ref h_this, .int x1] ++ List.replicate (2 - (lg_sl [.ref h_this, .int x1]).length) Slot.unset).toArray = ls at hl ⊢
  have hl : lv_has ls 2 [(0, .ref h_this), (1, .int x1)] := hl
  obtain ⟨Q, hQ⟩ : ∃ Q : State → Prop, Q = MQ below (va_Qi (fun (r : Int32) (u : Unit) => post r ) (fun (u : Unit) (t : State) => va_P (dC, dI) vwCl [ob_Memory h_this i_size h_kinds h_lefts h_rights h_free i_freeCount h_isReached h_reached i_reachedCount, ar_ h_kinds c_kinds n_kinds f_kinds, ar_ h_rights c_rights n_rights f_rights] t.heap ∧ va_K (dC, dI) vwCl [(c_kinds, .int), (c_rights, .int)] t ∧ va_D A [ob_Memory h_this i_size h_kinds h_lefts h_rights h_free i_freeCount h_isReached h_reached i_reachedCount, ar_ h_kinds c_kinds n_kinds f_kinds, ar_ h_rights c_rights n_rights f_rights]) A) ([.ref h_this, .int x1] : List Value).toArray s 0 0 A := ⟨_, rfl⟩
  rw [← hQ]
  unfold wp_Memory_tailOf at hw
  refine lv_aload_n hx hb d_Memory_tailOf_0 rfl (lv_at hl 0 rfl) ?_
  refine va_get (D := (dC, dI)) (ci := 4) (v := .ref h_kinds) (C := R_Memory) (T := T_Memory) (N := 9) hx hb hts in_Memory hown hK hP 0 rfl rfl 1 (by decide) (hts _ kt_189) (fun _ h9 => h9) rfl d_Memory_tailOf_1 ?_
  refine lv_iload_n hx hb d_Memory_tailOf_4 rfl (lv_at hl 1 rfl) ?_
  obtain ⟨h_1, hw⟩ := hw
  refine va_iald hx hb hK hP 1 0 rfl rfl h_1 d_Memory_tailOf_5 ?_
  refine lv_iconst (v := 2) hx hb d_Memory_tailOf_6 (by decide) ?_
  refine lv_icmp_ne (tgt := 19) hx hb d_Memory_tailOf_7 (by decide) (fun c_2 => ?_) (fun c_2 => ?_)
  · have hw := hw.2 c_2
    refine lv_iconst (v := 0) hx hb d_Memory_tailOf_19 (by decide) ?_
    have hP9 : va_P (dC, dI) vwCl [ob_Memory h_this i_size h_kinds h_lefts h_rights h_free i_freeCount h_isReached h_reached i_reachedCount, ar_ h_kinds c_kinds n_kinds f_kinds, ar_ h_rights c_rights n_rights f_rights] _ := hP
    have hD9 : va_D A [ob_Memory h_this i_size h_kinds h_lefts h_rights h_free i_freeCount h_isReached h_reached i_reachedCount, ar_ h_kinds c_kinds n_kinds f_kinds, ar_ h_rights c_rights n_rights f_rights] := hD
    rw [hQ]
    exact W.iret (v := (0 : Int32)) hx hb hr (fun t ht hW => ⟨⟨(0 : Int32), (), rfl, hw, by rw [ht]; exact hP9, va_K.moved hW.alike hK, hD9⟩, hS.F ht⟩) hS.2.2 d_Memory_tailOf_20
  · have hw := hw.1 c_2
    refine lv_aload_n hx hb d_Memory_tailOf_10 rfl (lv_at hl 0 rfl) ?_
    refine va_get (D := (dC, dI)) (ci := 4) (v := .ref h_rights) (C := R_Memory) (T := T_Memory) (N := 9) hx hb hts in_Memory hown hK hP 0 rfl rfl 3 (by decide) (hts _ kt_191) (fun _ h9 => h9) rfl d_Memory_tailOf_11 ?_
    refine lv_iload_n hx hb d_Memory_tailOf_14 rfl (lv_at hl 1 rfl) ?_
    obtain ⟨h_3, hw⟩ := hw
    refine va_iald hx hb hK hP 2 1 rfl rfl h_3 d_Memory_tailOf_15 ?_
    refine lv_goto (tgt := 20) hx hb d_Memory_tailOf_16 (by decide) ?_
    have hP9 : va_P (dC, dI) vwCl [ob_Memory h_this i_size h_kinds h_lefts h_rights h_free i_freeCount h_isReached h_reached i_reachedCount, ar_ h_kinds c_kinds n_kinds f_kinds, ar_ h_rights c_rights n_rights f_rights] _ := hP
    have hD9 : va_D A [ob_Memory h_this i_size h_kinds h_lefts h_rights h_free i_freeCount h_isReached h_reached i_reachedCount, ar_ h_kinds c_kinds n_kinds f_kinds, ar_ h_rights c_rights n_rights f_rights] := hD
    rw [hQ]
    exact W.iret (v := f_rights x1.toNatClampNeg) hx hb hr (fun t ht hW => ⟨⟨f_rights x1.toNatClampNeg, (), rfl, hw, by rw [ht]; exact hP9, va_K.moved hW.alike hK, hD9⟩, hS.F ht⟩) hS.2.2 d_Memory_tailOf_20

set_option maxHeartbeats 4000000 in
set_option maxRecDepth 100000 in
theorem c_Memory_setHead (l : Launch) (dC : Nat → ClassId) (dI : Nat → Nat → Nat) (h_this : Nat) (h_kinds : Nat) (h_lefts : Nat) (h_rights : Nat) (h_free : Nat) (h_isReached : Nat) (h_reached : Nat) (c_kinds : ClassId) (c_lefts : ClassId) (sz : Nat) (n_kinds : Nat) (n_lefts : Nat) (i_size : Int32) (i_freeCount : Int32) (i_reachedCount : Int32) (f_kinds : Nat → Int32) (f_lefts : Nat → Int32) (x1 : Int32) (x2 : Int32) (post : (Nat → Int32) → Prop) (hw : wp_Memory_setHead n_kinds n_lefts f_kinds f_lefts x1 x2 post) : Met l y_Memory_setHead (ws_ y_Memory_setHead b_Memory_setHead 3 none) { frames := 1, cells := 0, slots := 0, locals := 21 } (va_Pc [.ref h_this, .int x1, .int x2] (PRE (dC, dI) vwCl [(c_kinds, .int), (c_lefts, .int)] [ob_Memory h_this i_size h_kinds h_lefts h_rights h_free i_freeCount h_isReached h_reached i_reachedCount, ar_ h_kinds c_kinds n_kinds f_kinds, ar_ h_lefts c_lefts n_lefts f_lefts] sz (va_A [ob_Memory h_this i_size h_kinds h_lefts h_rights h_free i_freeCount h_isReached h_reached i_reachedCount, ar_ h_kinds c_kinds n_kinds f_kinds, ar_ h_lefts c_lefts n_lefts f_lefts] sz))) (va_Qv (fun (u : (Nat → Int32)) => post u) (fun (u : (Nat → Int32)) (t : State) => va_P (dC, dI) vwCl [ob_Memory h_this i_size h_kinds h_lefts h_rights h_free i_freeCount h_isReached h_reached i_reachedCount, ar_ h_kinds c_kinds n_kinds f_kinds, ar_ h_lefts c_lefts n_lefts u] t.heap ∧ va_K (dC, dI) vwCl [(c_kinds, .int), (c_lefts, .int)] t ∧ va_D (va_A [ob_Memory h_this i_size h_kinds h_lefts h_rights h_free i_freeCount h_isReached h_reached i_reachedCount, ar_ h_kinds c_kinds n_kinds f_kinds, ar_ h_lefts c_lefts n_lefts f_lefts] sz) [ob_Memory h_this i_size h_kinds h_lefts h_rights h_free i_freeCount h_isReached h_reached i_reachedCount, ar_ h_kinds c_kinds n_kinds f_kinds, ar_ h_lefts c_lefts n_lefts u]) (va_A [ob_Memory h_this i_size h_kinds h_lefts h_rights h_free i_freeCount h_isReached h_reached i_reachedCount, ar_ h_kinds c_kinds n_kinds f_kinds, ar_ h_lefts c_lefts n_lefts f_lefts] sz)) 0 0 (va_A [ob_Memory h_this i_size h_kinds h_lefts h_rights h_free i_freeCount h_isReached h_reached i_reachedCount, ar_ h_kinds c_kinds n_kinds f_kinds, ar_ h_lefts c_lefts n_lefts f_lefts] sz) := by
  refine Met.ofW (cc := b_Memory_setHead) (maxL := 3) (ret := none) (by decide) rfl ?_
  intro p e s m args below meth c s₁ B hml hv
  obtain ⟨rfl, hsz, hP, hK, hD0, hG⟩ := hv
  have hx := B.exec
  have hb := B.bytes
  have hr := B.returns
  have hts : ∀ w ∈ tb, w.before _ s = true := fun w h => atoms_spec (ws := ws_ _ _ _ _) B.pre w (List.mem_cons_of_mem _ h)
  have hown : s.vm.findClass R_Memory = some m.cls := findClass_of_methodNamed B.named
  have hlocks := B.notSynchronized
  subst hsz
  have hD := hD0.self (sz := s.heap.size)
  generalize hAe : va_A [ob_Memory h_this i_size h_kinds h_lefts h_rights h_free i_freeCount h_isReached h_reached i_reachedCount, ar_ h_kinds c_kinds n_kinds f_kinds, ar_ h_lefts c_lefts n_lefts f_lefts] s.heap.size = A at hD hG ⊢
  have hA : ∀ q : Nat, s.heap.size ≤ q → A q := fun q h => by rw [← hAe]; exact Or.inr h
  have hS : va_S A s.heap s.heap [] := va_S.rf
  have hP : va_P (dC, dI) vwCl [ob_Memory h_this i_size h_kinds h_lefts h_rights h_free i_freeCount h_isReached h_reached i_reachedCount, ar_ h_kinds c_kinds n_kinds f_kinds, ar_ h_lefts c_lefts n_lefts f_lefts] s.heap := hP
  have hl := lv_entry [.ref h_this, .int x1, .int x2] (n := 3) (Nat.le_of_ble_eq_true rfl)
  rw [lg_entry_eq]
  generalize (lg_sl [.ref h_this, .int x1, .int x2] ++ List.replicate (3 - (lg_sl [.ref h_this, .int x1, .int x2]).length) Slot.unset).toArray = ls at hl ⊢
  have hl : lv_has ls 3 [(0, .ref h_this), (1, .int x1), (2, .int x2)] := hl
  obtain ⟨Q, hQ⟩ : ∃ Q : State → Prop, Q = MQ below (va_Qv (fun (u : (Nat → Int32)) => post u) (fun (u : (Nat → Int32)) (t : State) => va_P (dC, dI) vwCl [ob_Memory h_this i_size h_kinds h_lefts h_rights h_free i_freeCount h_isReached h_reached i_reachedCount, ar_ h_kinds c_kinds n_kinds f_kinds, ar_ h_lefts c_lefts n_lefts u] t.heap ∧ va_K (dC, dI) vwCl [(c_kinds, .int), (c_lefts, .int)] t ∧ va_D A [ob_Memory h_this i_size h_kinds h_lefts h_rights h_free i_freeCount h_isReached h_reached i_reachedCount, ar_ h_kinds c_kinds n_kinds f_kinds, ar_ h_lefts c_lefts n_lefts u]) A) ([.ref h_this, .int x1, .int x2] : List Value).toArray s 0 0 A := ⟨_, rfl⟩
  rw [← hQ]
  unfold wp_Memory_setHead at hw
  refine lv_aload_n hx hb d_Memory_setHead_0 rfl (lv_at hl 0 rfl) ?_
  refine lv_iload_n hx hb d_Memory_setHead_1 rfl (lv_at hl 1 rfl) ?_
  have hPc := hP.sub (ws' := [ob_Memory h_this i_size h_kinds h_lefts h_rights h_free i_freeCount h_isReached h_reached i_reachedCount, ar_ h_kinds c_kinds n_kinds f_kinds]) [0, 1] rfl
  have hDc := hD.sub (ws' := [ob_Memory h_this i_size h_kinds h_lefts h_rights h_free i_freeCount h_isReached h_reached i_reachedCount, ar_ h_kinds c_kinds n_kinds f_kinds]) [0, 1] (by decide) rfl
  have hKc := hK.sub (tys' := [(c_kinds, .int)]) [0] rfl
  have hFc := va_free (wc := [ob_Memory h_this i_size h_kinds h_lefts h_rights h_free i_freeCount h_isReached h_reached i_reachedCount, ar_ h_kinds c_kinds n_kinds f_kinds]) hD hS hA [0, 1] rfl
  refine va_calli (va_runV (As := [.int x1]) (rest := []) ⟨hx, hb, hml, hown, hts⟩ (c_Memory_isPair l dC dI h_this h_kinds h_lefts h_rights h_free h_isReached h_reached c_kinds s.heap.size n_kinds i_size i_freeCount i_reachedCount f_kinds x1 _ hw) (cwV 1 hts (gd_V kt_637 kt_638 kt_639 kt_12 kt_640) rfl rfl rfl (by decide +kernel) ⟨Nat.le_of_ble_eq_true rfl, Nat.le_of_ble_eq_true rfl⟩) ⟨pre_blind, va_recv hKc hPc (ci := 4) (q0 := 0) rfl rfl, pre_ok hPc hKc hDc hG hS hFc⟩ rfl rfl hl.1 rfl (lv_room (Nat.le_of_ble_eq_true rfl)) d_Memory_setHead_2 ⟨Nat.zero_le _, Nat.zero_le _⟩) hS (fun q _ h => hFc q h) hFc (fun r_1 u t H1 locs ht hvm hw hB hz1 hk1 hS => ?_)
  obtain ⟨hP1, hK1, hD1⟩ := hB
  rw [ht] at hP1
  try dsimp only at hw
  obtain ⟨hP, hD⟩ := va_join (wr := [ar_ h_lefts c_lefts n_lefts f_lefts]) (w1 := [ob_Memory h_this i_size h_kinds h_lefts h_rights h_free i_freeCount h_isReached h_reached i_reachedCount, ar_ h_kinds c_kinds n_kinds f_kinds]) hP hD [0, 1] [2] rfl rfl (by decide) (by decide) hk1 hFc hP1 hD1
  generalize H1 = H at hP hS ⊢
  have hP : va_P (dC, dI) vwCl [ar_ h_lefts c_lefts n_lefts f_lefts, ob_Memory h_this i_size h_kinds h_lefts h_rights h_free i_freeCount h_isReached h_reached i_reachedCount, ar_ h_kinds c_kinds n_kinds f_kinds] H := hP
  have hD : va_D A [ar_ h_lefts c_lefts n_lefts f_lefts, ob_Memory h_this i_size h_kinds h_lefts h_rights h_free i_freeCount h_isReached h_reached i_reachedCount, ar_ h_kinds c_kinds n_kinds f_kinds] := hD
  refine lv_if_eq (tgt := 15) hx hb d_Memory_setHead_5 (by decide) (fun c_2 => ?_) (fun c_2 => ?_)
  · have hw := hw.1 c_2
    have hP9 : va_P (dC, dI) vwCl [ob_Memory h_this i_size h_kinds h_lefts h_rights h_free i_freeCount h_isReached h_reached i_reachedCount, ar_ h_kinds c_kinds n_kinds f_kinds, ar_ h_lefts c_lefts n_lefts f_lefts] _ := (hP.sub [1, 2, 0] rfl)
    have hD9 : va_D A [ob_Memory h_this i_size h_kinds h_lefts h_rights h_free i_freeCount h_isReached h_reached i_reachedCount, ar_ h_kinds c_kinds n_kinds f_kinds, ar_ h_lefts c_lefts n_lefts f_lefts] := (hD.sub [1, 2, 0] (by decide) rfl)
    rw [hQ]
    exact W.vret hx hb hr (fun t ht hW => ⟨⟨(f_lefts), rfl, hw, by rw [ht]; exact hP9, va_K.moved hW.alike hK, hD9⟩, hS.F ht⟩) hS.2.2 d_Memory_setHead_15
  · have hw := hw.2 c_2
    refine lv_aload_n hx hb d_Memory_setHead_8 rfl (lv_at hl 0 rfl) ?_
    refine va_get (D := (dC, dI)) (ci := 4) (v := .ref h_lefts) (C := R_Memory) (T := T_Memory) (N := 9) hx hb hts in_Memory hown hK hP 1 rfl rfl 2 (by decide) (hts _ kt_190) (fun _ h9 => h9) rfl d_Memory_setHead_9 ?_
    refine lv_iload_n hx hb d_Memory_setHead_12 rfl (lv_at hl 1 rfl) ?_
    refine lv_iload_n hx hb d_Memory_setHead_13 rfl (lv_at hl 2 rfl) ?_
    obtain ⟨h_3, hw⟩ := hw
    refine va_iast hx hb hK hP hD hS 0 1 rfl rfl h_3 d_Memory_setHead_14 (fun H locs hP hD hS => ?_)
    have hP : va_P (dC, dI) vwCl [ar_ h_lefts c_lefts n_lefts (upd f_lefts x1.toNatClampNeg x2), ob_Memory h_this i_size h_kinds h_lefts h_rights h_free i_freeCount h_isReached h_reached i_reachedCount, ar_ h_kinds c_kinds n_kinds f_kinds] H := hP
    have hD : va_D A [ar_ h_lefts c_lefts n_lefts (upd f_lefts x1.toNatClampNeg x2), ob_Memory h_this i_size h_kinds h_lefts h_rights h_free i_freeCount h_isReached h_reached i_reachedCount, ar_ h_kinds c_kinds n_kinds f_kinds] := hD
    have hP9 : va_P (dC, dI) vwCl [ob_Memory h_this i_size h_kinds h_lefts h_rights h_free i_freeCount h_isReached h_reached i_reachedCount, ar_ h_kinds c_kinds n_kinds f_kinds, ar_ h_lefts c_lefts n_lefts (upd f_lefts x1.toNatClampNeg x2)] _ := (hP.sub [1, 2, 0] rfl)
    have hD9 : va_D A [ob_Memory h_this i_size h_kinds h_lefts h_rights h_free i_freeCount h_isReached h_reached i_reachedCount, ar_ h_kinds c_kinds n_kinds f_kinds, ar_ h_lefts c_lefts n_lefts (upd f_lefts x1.toNatClampNeg x2)] := (hD.sub [1, 2, 0] (by decide) rfl)
    rw [hQ]
    exact W.vret hx hb hr (fun t ht hW => ⟨⟨(upd f_lefts x1.toNatClampNeg x2), rfl, hw, by rw [ht]; exact hP9, va_K.moved hW.alike hK, hD9⟩, hS.F ht⟩) hS.2.2 d_Memory_setHead_15

set_option maxHeartbeats 4000000 in
set_option maxRecDepth 100000 in
theorem c_Memory_addressOf (l : Launch) (dC : Nat → ClassId) (dI : Nat → Nat → Nat) (h_this : Nat) (h_kinds : Nat) (h_lefts : Nat) (h_rights : Nat) (h_free : Nat) (h_isReached : Nat) (h_reached : Nat) (c_kinds : ClassId) (c_lefts : ClassId) (sz : Nat) (n_kinds : Nat) (n_lefts : Nat) (i_size : Int32) (i_freeCount : Int32) (i_reachedCount : Int32) (f_kinds : Nat → Int32) (f_lefts : Nat → Int32) (x1 : Int32) (post : Int32 → Prop) (hw : wp_Memory_addressOf n_kinds n_lefts f_kinds f_lefts x1 post) : Met l y_Memory_addressOf (ws_ y_Memory_addressOf b_Memory_addressOf 2 (some .int)) { frames := 1, cells := 0, slots := 0, locals := 21 } (va_Pc [.ref h_this, .int x1] (PRE (dC, dI) vwCl [(c_kinds, .int), (c_lefts, .int)] [ob_Memory h_this i_size h_kinds h_lefts h_rights h_free i_freeCount h_isReached h_reached i_reachedCount, ar_ h_kinds c_kinds n_kinds f_kinds, ar_ h_lefts c_lefts n_lefts f_lefts] sz (va_A [ob_Memory h_this i_size h_kinds h_lefts h_rights h_free i_freeCount h_isReached h_reached i_reachedCount, ar_ h_kinds c_kinds n_kinds f_kinds, ar_ h_lefts c_lefts n_lefts f_lefts] sz))) (va_Qi (fun (r : Int32) (u : Unit) => post r ) (fun (u : Unit) (t : State) => va_P (dC, dI) vwCl [ob_Memory h_this i_size h_kinds h_lefts h_rights h_free i_freeCount h_isReached h_reached i_reachedCount, ar_ h_kinds c_kinds n_kinds f_kinds, ar_ h_lefts c_lefts n_lefts f_lefts] t.heap ∧ va_K (dC, dI) vwCl [(c_kinds, .int), (c_lefts, .int)] t ∧ va_D (va_A [ob_Memory h_this i_size h_kinds h_lefts h_rights h_free i_freeCount h_isReached h_reached i_reachedCount, ar_ h_kinds c_kinds n_kinds f_kinds, ar_ h_lefts c_lefts n_lefts f_lefts] sz) [ob_Memory h_this i_size h_kinds h_lefts h_rights h_free i_freeCount h_isReached h_reached i_reachedCount, ar_ h_kinds c_kinds n_kinds f_kinds, ar_ h_lefts c_lefts n_lefts f_lefts]) (va_A [ob_Memory h_this i_size h_kinds h_lefts h_rights h_free i_freeCount h_isReached h_reached i_reachedCount, ar_ h_kinds c_kinds n_kinds f_kinds, ar_ h_lefts c_lefts n_lefts f_lefts] sz)) 0 0 (va_A [ob_Memory h_this i_size h_kinds h_lefts h_rights h_free i_freeCount h_isReached h_reached i_reachedCount, ar_ h_kinds c_kinds n_kinds f_kinds, ar_ h_lefts c_lefts n_lefts f_lefts] sz) := by
  refine Met.ofW (cc := b_Memory_addressOf) (maxL := 2) (ret := (some .int)) (by decide) rfl ?_
  intro p e s m args below meth c s₁ B hml hv
  obtain ⟨rfl, hsz, hP, hK, hD0, hG⟩ := hv
  have hx := B.exec
  have hb := B.bytes
  have hr := B.returns
  have hts : ∀ w ∈ tb, w.before _ s = true := fun w h => atoms_spec (ws := ws_ _ _ _ _) B.pre w (List.mem_cons_of_mem _ h)
  have hown : s.vm.findClass R_Memory = some m.cls := findClass_of_methodNamed B.named
  have hlocks := B.notSynchronized
  subst hsz
  have hD := hD0.self (sz := s.heap.size)
  generalize hAe : va_A [ob_Memory h_this i_size h_kinds h_lefts h_rights h_free i_freeCount h_isReached h_reached i_reachedCount, ar_ h_kinds c_kinds n_kinds f_kinds, ar_ h_lefts c_lefts n_lefts f_lefts] s.heap.size = A at hD hG ⊢
  have hA : ∀ q : Nat, s.heap.size ≤ q → A q := fun q h => by rw [← hAe]; exact Or.inr h
  have hS : va_S A s.heap s.heap [] := va_S.rf
  have hP : va_P (dC, dI) vwCl [ob_Memory h_this i_size h_kinds h_lefts h_rights h_free i_freeCount h_isReached h_reached i_reachedCount, ar_ h_kinds c_kinds n_kinds f_kinds, ar_ h_lefts c_lefts n_lefts f_lefts] s.heap := hP
  have hl := lv_entry [.ref h_this, .int x1] (n := 2) (Nat.le_of_ble_eq_true rfl)
  rw [lg_entry_eq]
  generalize (lg_sl [.ref h_this, .int x1] ++ List.replicate (2 - (lg_sl [.ref h_this, .int x1]).length) Slot.unset).toArray = ls at hl ⊢
  have hl : lv_has ls 2 [(0, .ref h_this), (1, .int x1)] := hl
  obtain ⟨Q, hQ⟩ : ∃ Q : State → Prop, Q = MQ below (va_Qi (fun (r : Int32) (u : Unit) => post r ) (fun (u : Unit) (t : State) => va_P (dC, dI) vwCl [ob_Memory h_this i_size h_kinds h_lefts h_rights h_free i_freeCount h_isReached h_reached i_reachedCount, ar_ h_kinds c_kinds n_kinds f_kinds, ar_ h_lefts c_lefts n_lefts f_lefts] t.heap ∧ va_K (dC, dI) vwCl [(c_kinds, .int), (c_lefts, .int)] t ∧ va_D A [ob_Memory h_this i_size h_kinds h_lefts h_rights h_free i_freeCount h_isReached h_reached i_reachedCount, ar_ h_kinds c_kinds n_kinds f_kinds, ar_ h_lefts c_lefts n_lefts f_lefts]) A) ([.ref h_this, .int x1] : List Value).toArray s 0 0 A := ⟨_, rfl⟩
  rw [← hQ]
  unfold wp_Memory_addressOf at hw
  refine lv_aload_n hx hb d_Memory_addressOf_0 rfl (lv_at hl 0 rfl) ?_
  refine lv_iload_n hx hb d_Memory_addressOf_1 rfl (lv_at hl 1 rfl) ?_
  have hPc := hP.sub (ws' := [ob_Memory h_this i_size h_kinds h_lefts h_rights h_free i_freeCount h_isReached h_reached i_reachedCount, ar_ h_kinds c_kinds n_kinds f_kinds]) [0, 1] rfl
  have hDc := hD.sub (ws' := [ob_Memory h_this i_size h_kinds h_lefts h_rights h_free i_freeCount h_isReached h_reached i_reachedCount, ar_ h_kinds c_kinds n_kinds f_kinds]) [0, 1] (by decide) rfl
  have hKc := hK.sub (tys' := [(c_kinds, .int)]) [0] rfl
  have hFc := va_free (wc := [ob_Memory h_this i_size h_kinds h_lefts h_rights h_free i_freeCount h_isReached h_reached i_reachedCount, ar_ h_kinds c_kinds n_kinds f_kinds]) hD hS hA [0, 1] rfl
  refine va_calli (va_runV (As := [.int x1]) (rest := []) ⟨hx, hb, hml, hown, hts⟩ (c_Memory_hasAddress l dC dI h_this h_kinds h_lefts h_rights h_free h_isReached h_reached c_kinds s.heap.size n_kinds i_size i_freeCount i_reachedCount f_kinds x1 _ hw) (cwV 1 hts (gd_V kt_641 kt_643 ks_29 kt_12 kt_644) rfl rfl rfl (by decide +kernel) ⟨Nat.le_of_ble_eq_true rfl, Nat.le_of_ble_eq_true rfl⟩) ⟨pre_blind, va_recv hKc hPc (ci := 4) (q0 := 0) rfl rfl, pre_ok hPc hKc hDc hG hS hFc⟩ rfl rfl hl.1 rfl (lv_room (Nat.le_of_ble_eq_true rfl)) d_Memory_addressOf_2 ⟨Nat.zero_le _, Nat.zero_le _⟩) hS (fun q _ h => hFc q h) hFc (fun r_1 u t H1 locs ht hvm hw hB hz1 hk1 hS => ?_)
  obtain ⟨hP1, hK1, hD1⟩ := hB
  rw [ht] at hP1
  try dsimp only at hw
  obtain ⟨hP, hD⟩ := va_join (wr := [ar_ h_lefts c_lefts n_lefts f_lefts]) (w1 := [ob_Memory h_this i_size h_kinds h_lefts h_rights h_free i_freeCount h_isReached h_reached i_reachedCount, ar_ h_kinds c_kinds n_kinds f_kinds]) hP hD [0, 1] [2] rfl rfl (by decide) (by decide) hk1 hFc hP1 hD1
  generalize H1 = H at hP hS ⊢
  have hP : va_P (dC, dI) vwCl [ar_ h_lefts c_lefts n_lefts f_lefts, ob_Memory h_this i_size h_kinds h_lefts h_rights h_free i_freeCount h_isReached h_reached i_reachedCount, ar_ h_kinds c_kinds n_kinds f_kinds] H := hP
  have hD : va_D A [ar_ h_lefts c_lefts n_lefts f_lefts, ob_Memory h_this i_size h_kinds h_lefts h_rights h_free i_freeCount h_isReached h_reached i_reachedCount, ar_ h_kinds c_kinds n_kinds f_kinds] := hD
  refine lv_if_eq (tgt := 17) hx hb d_Memory_addressOf_5 (by decide) (fun c_2 => ?_) (fun c_2 => ?_)
  · have hw := hw.1 c_2
    refine lv_iconst (v := 0) hx hb d_Memory_addressOf_17 (by decide) ?_
    have hP9 : va_P (dC, dI) vwCl [ob_Memory h_this i_size h_kinds h_lefts h_rights h_free i_freeCount h_isReached h_reached i_reachedCount, ar_ h_kinds c_kinds n_kinds f_kinds, ar_ h_lefts c_lefts n_lefts f_lefts] _ := (hP.sub [1, 2, 0] rfl)
    have hD9 : va_D A [ob_Memory h_this i_size h_kinds h_lefts h_rights h_free i_freeCount h_isReached h_reached i_reachedCount, ar_ h_kinds c_kinds n_kinds f_kinds, ar_ h_lefts c_lefts n_lefts f_lefts] := (hD.sub [1, 2, 0] (by decide) rfl)
    rw [hQ]
    exact W.iret (v := (0 : Int32)) hx hb hr (fun t ht hW => ⟨⟨(0 : Int32), (), rfl, hw, by rw [ht]; exact hP9, va_K.moved hW.alike hK, hD9⟩, hS.F ht⟩) hS.2.2 d_Memory_addressOf_18
  · have hw := hw.2 c_2
    refine lv_aload_n hx hb d_Memory_addressOf_8 rfl (lv_at hl 0 rfl) ?_
    refine va_get (D := (dC, dI)) (ci := 4) (v := .ref h_lefts) (C := R_Memory) (T := T_Memory) (N := 9) hx hb hts in_Memory hown hK hP 1 rfl rfl 2 (by decide) (hts _ kt_190) (fun _ h9 => h9) rfl d_Memory_addressOf_9 ?_
    refine lv_iload_n hx hb d_Memory_addressOf_12 rfl (lv_at hl 1 rfl) ?_
    obtain ⟨h_3, hw⟩ := hw
    refine va_iald hx hb hK hP 0 1 rfl rfl h_3 d_Memory_addressOf_13 ?_
    refine lv_goto (tgt := 18) hx hb d_Memory_addressOf_14 (by decide) ?_
    have hP9 : va_P (dC, dI) vwCl [ob_Memory h_this i_size h_kinds h_lefts h_rights h_free i_freeCount h_isReached h_reached i_reachedCount, ar_ h_kinds c_kinds n_kinds f_kinds, ar_ h_lefts c_lefts n_lefts f_lefts] _ := (hP.sub [1, 2, 0] rfl)
    have hD9 : va_D A [ob_Memory h_this i_size h_kinds h_lefts h_rights h_free i_freeCount h_isReached h_reached i_reachedCount, ar_ h_kinds c_kinds n_kinds f_kinds, ar_ h_lefts c_lefts n_lefts f_lefts] := (hD.sub [1, 2, 0] (by decide) rfl)
    rw [hQ]
    exact W.iret (v := f_lefts x1.toNatClampNeg) hx hb hr (fun t ht hW => ⟨⟨f_lefts x1.toNatClampNeg, (), rfl, hw, by rw [ht]; exact hP9, va_K.moved hW.alike hK, hD9⟩, hS.F ht⟩) hS.2.2 d_Memory_addressOf_18

set_option maxHeartbeats 4000000 in
set_option maxRecDepth 100000 in
theorem c_Memory_cellOf (l : Launch) (dC : Nat → ClassId) (dI : Nat → Nat → Nat) (h_this : Nat) (h_kinds : Nat) (h_rights : Nat) (h_lefts : Nat) (h_free : Nat) (h_isReached : Nat) (h_reached : Nat) (c_kinds : ClassId) (c_rights : ClassId) (sz : Nat) (n_kinds : Nat) (n_rights : Nat) (i_size : Int32) (i_freeCount : Int32) (i_reachedCount : Int32) (f_kinds : Nat → Int32) (f_rights : Nat → Int32) (x1 : Int32) (post : Int32 → Prop) (hw : wp_Memory_cellOf n_kinds n_rights f_kinds f_rights x1 post) : Met l y_Memory_cellOf (ws_ y_Memory_cellOf b_Memory_cellOf 2 (some .int)) { frames := 1, cells := 0, slots := 0, locals := 21 } (va_Pc [.ref h_this, .int x1] (PRE (dC, dI) vwCl [(c_kinds, .int), (c_rights, .int)] [ob_Memory h_this i_size h_kinds h_lefts h_rights h_free i_freeCount h_isReached h_reached i_reachedCount, ar_ h_kinds c_kinds n_kinds f_kinds, ar_ h_rights c_rights n_rights f_rights] sz (va_A [ob_Memory h_this i_size h_kinds h_lefts h_rights h_free i_freeCount h_isReached h_reached i_reachedCount, ar_ h_kinds c_kinds n_kinds f_kinds, ar_ h_rights c_rights n_rights f_rights] sz))) (va_Qi (fun (r : Int32) (u : Unit) => post r ) (fun (u : Unit) (t : State) => va_P (dC, dI) vwCl [ob_Memory h_this i_size h_kinds h_lefts h_rights h_free i_freeCount h_isReached h_reached i_reachedCount, ar_ h_kinds c_kinds n_kinds f_kinds, ar_ h_rights c_rights n_rights f_rights] t.heap ∧ va_K (dC, dI) vwCl [(c_kinds, .int), (c_rights, .int)] t ∧ va_D (va_A [ob_Memory h_this i_size h_kinds h_lefts h_rights h_free i_freeCount h_isReached h_reached i_reachedCount, ar_ h_kinds c_kinds n_kinds f_kinds, ar_ h_rights c_rights n_rights f_rights] sz) [ob_Memory h_this i_size h_kinds h_lefts h_rights h_free i_freeCount h_isReached h_reached i_reachedCount, ar_ h_kinds c_kinds n_kinds f_kinds, ar_ h_rights c_rights n_rights f_rights]) (va_A [ob_Memory h_this i_size h_kinds h_lefts h_rights h_free i_freeCount h_isReached h_reached i_reachedCount, ar_ h_kinds c_kinds n_kinds f_kinds, ar_ h_rights c_rights n_rights f_rights] sz)) 0 0 (va_A [ob_Memory h_this i_size h_kinds h_lefts h_rights h_free i_freeCount h_isReached h_reached i_reachedCount, ar_ h_kinds c_kinds n_kinds f_kinds, ar_ h_rights c_rights n_rights f_rights] sz) := by
  refine Met.ofW (cc := b_Memory_cellOf) (maxL := 2) (ret := (some .int)) (by decide) rfl ?_
  intro p e s m args below meth c s₁ B hml hv
  obtain ⟨rfl, hsz, hP, hK, hD0, hG⟩ := hv
  have hx := B.exec
  have hb := B.bytes
  have hr := B.returns
  have hts : ∀ w ∈ tb, w.before _ s = true := fun w h => atoms_spec (ws := ws_ _ _ _ _) B.pre w (List.mem_cons_of_mem _ h)
  have hown : s.vm.findClass R_Memory = some m.cls := findClass_of_methodNamed B.named
  have hlocks := B.notSynchronized
  subst hsz
  have hD := hD0.self (sz := s.heap.size)
  generalize hAe : va_A [ob_Memory h_this i_size h_kinds h_lefts h_rights h_free i_freeCount h_isReached h_reached i_reachedCount, ar_ h_kinds c_kinds n_kinds f_kinds, ar_ h_rights c_rights n_rights f_rights] s.heap.size = A at hD hG ⊢
  have hA : ∀ q : Nat, s.heap.size ≤ q → A q := fun q h => by rw [← hAe]; exact Or.inr h
  have hS : va_S A s.heap s.heap [] := va_S.rf
  have hP : va_P (dC, dI) vwCl [ob_Memory h_this i_size h_kinds h_lefts h_rights h_free i_freeCount h_isReached h_reached i_reachedCount, ar_ h_kinds c_kinds n_kinds f_kinds, ar_ h_rights c_rights n_rights f_rights] s.heap := hP
  have hl := lv_entry [.ref h_this, .int x1] (n := 2) (Nat.le_of_ble_eq_true rfl)
  rw [lg_entry_eq]
  generalize (lg_sl [.ref h_this, .int x1] ++ List.replicate (2 - (lg_sl [.ref h_this, .int x1]).length) Slot.unset).toArray = ls at hl ⊢
  have hl : lv_has ls 2 [(0, .ref h_this), (1, .int x1)] := hl
  obtain ⟨Q, hQ⟩ : ∃ Q : State → Prop, Q = MQ below (va_Qi (fun (r : Int32) (u : Unit) => post r ) (fun (u : Unit) (t : State) => va_P (dC, dI) vwCl [ob_Memory h_this i_size h_kinds h_lefts h_rights h_free i_freeCount h_isReached h_reached i_reachedCount, ar_ h_kinds c_kinds n_kinds f_kinds, ar_ h_rights c_rights n_rights f_rights] t.heap ∧ va_K (dC, dI) vwCl [(c_kinds, .int), (c_rights, .int)] t ∧ va_D A [ob_Memory h_this i_size h_kinds h_lefts h_rights h_free i_freeCount h_isReached h_reached i_reachedCount, ar_ h_kinds c_kinds n_kinds f_kinds, ar_ h_rights c_rights n_rights f_rights]) A) ([.ref h_this, .int x1] : List Value).toArray s 0 0 A := ⟨_, rfl⟩
  rw [← hQ]
  unfold wp_Memory_cellOf at hw
  refine lv_aload_n hx hb d_Memory_cellOf_0 rfl (lv_at hl 0 rfl) ?_
  refine lv_iload_n hx hb d_Memory_cellOf_1 rfl (lv_at hl 1 rfl) ?_
  have hPc := hP.sub (ws' := [ob_Memory h_this i_size h_kinds h_lefts h_rights h_free i_freeCount h_isReached h_reached i_reachedCount, ar_ h_kinds c_kinds n_kinds f_kinds]) [0, 1] rfl
  have hDc := hD.sub (ws' := [ob_Memory h_this i_size h_kinds h_lefts h_rights h_free i_freeCount h_isReached h_reached i_reachedCount, ar_ h_kinds c_kinds n_kinds f_kinds]) [0, 1] (by decide) rfl
  have hKc := hK.sub (tys' := [(c_kinds, .int)]) [0] rfl
  have hFc := va_free (wc := [ob_Memory h_this i_size h_kinds h_lefts h_rights h_free i_freeCount h_isReached h_reached i_reachedCount, ar_ h_kinds c_kinds n_kinds f_kinds]) hD hS hA [0, 1] rfl
  refine va_calli (va_runV (As := [.int x1]) (rest := []) ⟨hx, hb, hml, hown, hts⟩ (c_Memory_hasAddress l dC dI h_this h_kinds h_lefts h_rights h_free h_isReached h_reached c_kinds s.heap.size n_kinds i_size i_freeCount i_reachedCount f_kinds x1 _ hw) (cwV 1 hts (gd_V kt_641 kt_643 ks_29 kt_12 kt_644) rfl rfl rfl (by decide +kernel) ⟨Nat.le_of_ble_eq_true rfl, Nat.le_of_ble_eq_true rfl⟩) ⟨pre_blind, va_recv hKc hPc (ci := 4) (q0 := 0) rfl rfl, pre_ok hPc hKc hDc hG hS hFc⟩ rfl rfl hl.1 rfl (lv_room (Nat.le_of_ble_eq_true rfl)) d_Memory_cellOf_2 ⟨Nat.zero_le _, Nat.zero_le _⟩) hS (fun q _ h => hFc q h) hFc (fun r_1 u t H1 locs ht hvm hw hB hz1 hk1 hS => ?_)
  obtain ⟨hP1, hK1, hD1⟩ := hB
  rw [ht] at hP1
  try dsimp only at hw
  obtain ⟨hP, hD⟩ := va_join (wr := [ar_ h_rights c_rights n_rights f_rights]) (w1 := [ob_Memory h_this i_size h_kinds h_lefts h_rights h_free i_freeCount h_isReached h_reached i_reachedCount, ar_ h_kinds c_kinds n_kinds f_kinds]) hP hD [0, 1] [2] rfl rfl (by decide) (by decide) hk1 hFc hP1 hD1
  generalize H1 = H at hP hS ⊢
  have hP : va_P (dC, dI) vwCl [ar_ h_rights c_rights n_rights f_rights, ob_Memory h_this i_size h_kinds h_lefts h_rights h_free i_freeCount h_isReached h_reached i_reachedCount, ar_ h_kinds c_kinds n_kinds f_kinds] H := hP
  have hD : va_D A [ar_ h_rights c_rights n_rights f_rights, ob_Memory h_this i_size h_kinds h_lefts h_rights h_free i_freeCount h_isReached h_reached i_reachedCount, ar_ h_kinds c_kinds n_kinds f_kinds] := hD
  refine lv_if_eq (tgt := 17) hx hb d_Memory_cellOf_5 (by decide) (fun c_2 => ?_) (fun c_2 => ?_)
  · have hw := hw.1 c_2
    refine lv_iconst (v := 0) hx hb d_Memory_cellOf_17 (by decide) ?_
    have hP9 : va_P (dC, dI) vwCl [ob_Memory h_this i_size h_kinds h_lefts h_rights h_free i_freeCount h_isReached h_reached i_reachedCount, ar_ h_kinds c_kinds n_kinds f_kinds, ar_ h_rights c_rights n_rights f_rights] _ := (hP.sub [1, 2, 0] rfl)
    have hD9 : va_D A [ob_Memory h_this i_size h_kinds h_lefts h_rights h_free i_freeCount h_isReached h_reached i_reachedCount, ar_ h_kinds c_kinds n_kinds f_kinds, ar_ h_rights c_rights n_rights f_rights] := (hD.sub [1, 2, 0] (by decide) rfl)
    rw [hQ]
    exact W.iret (v := (0 : Int32)) hx hb hr (fun t ht hW => ⟨⟨(0 : Int32), (), rfl, hw, by rw [ht]; exact hP9, va_K.moved hW.alike hK, hD9⟩, hS.F ht⟩) hS.2.2 d_Memory_cellOf_18
  · have hw := hw.2 c_2
    refine lv_aload_n hx hb d_Memory_cellOf_8 rfl (lv_at hl 0 rfl) ?_
    refine va_get (D := (dC, dI)) (ci := 4) (v := .ref h_rights) (C := R_Memory) (T := T_Memory) (N := 9) hx hb hts in_Memory hown hK hP 1 rfl rfl 3 (by decide) (hts _ kt_191) (fun _ h9 => h9) rfl d_Memory_cellOf_9 ?_
    refine lv_iload_n hx hb d_Memory_cellOf_12 rfl (lv_at hl 1 rfl) ?_
    obtain ⟨h_3, hw⟩ := hw
    refine va_iald hx hb hK hP 0 1 rfl rfl h_3 d_Memory_cellOf_13 ?_
    refine lv_goto (tgt := 18) hx hb d_Memory_cellOf_14 (by decide) ?_
    have hP9 : va_P (dC, dI) vwCl [ob_Memory h_this i_size h_kinds h_lefts h_rights h_free i_freeCount h_isReached h_reached i_reachedCount, ar_ h_kinds c_kinds n_kinds f_kinds, ar_ h_rights c_rights n_rights f_rights] _ := (hP.sub [1, 2, 0] rfl)
    have hD9 : va_D A [ob_Memory h_this i_size h_kinds h_lefts h_rights h_free i_freeCount h_isReached h_reached i_reachedCount, ar_ h_kinds c_kinds n_kinds f_kinds, ar_ h_rights c_rights n_rights f_rights] := (hD.sub [1, 2, 0] (by decide) rfl)
    rw [hQ]
    exact W.iret (v := f_rights x1.toNatClampNeg) hx hb hr (fun t ht hW => ⟨⟨f_rights x1.toNatClampNeg, (), rfl, hw, by rw [ht]; exact hP9, va_K.moved hW.alike hK, hD9⟩, hS.F ht⟩) hS.2.2 d_Memory_cellOf_18

set_option maxHeartbeats 4000000 in
set_option maxRecDepth 100000 in
theorem c_Memory_pairBehind (l : Launch) (dC : Nat → ClassId) (dI : Nat → Nat → Nat) (h_this : Nat) (h_kinds : Nat) (h_rights : Nat) (h_lefts : Nat) (h_free : Nat) (h_isReached : Nat) (h_reached : Nat) (c_kinds : ClassId) (c_rights : ClassId) (sz : Nat) (n_kinds : Nat) (n_rights : Nat) (i_size : Int32) (i_freeCount : Int32) (i_reachedCount : Int32) (f_kinds : Nat → Int32) (f_rights : Nat → Int32) (x1 : Int32) (x2 : Int32) (post : Int32 → Prop) (hw : wp_Memory_pairBehind n_kinds n_rights f_kinds f_rights x1 x2 post) : Met l y_Memory_pairBehind (ws_ y_Memory_pairBehind b_Memory_pairBehind 5 (some .int)) { frames := 1, cells := 0, slots := 0, locals := 21 } (va_Pc [.ref h_this, .int x1, .int x2] (PRE (dC, dI) vwCl [(c_kinds, .int), (c_rights, .int)] [ob_Memory h_this i_size h_kinds h_lefts h_rights h_free i_freeCount h_isReached h_reached i_reachedCount, ar_ h_kinds c_kinds n_kinds f_kinds, ar_ h_rights c_rights n_rights f_rights] sz (va_A [ob_Memory h_this i_size h_kinds h_lefts h_rights h_free i_freeCount h_isReached h_reached i_reachedCount, ar_ h_kinds c_kinds n_kinds f_kinds, ar_ h_rights c_rights n_rights f_rights] sz))) (va_Qi (fun (r : Int32) (u : Unit) => post r ) (fun (u : Unit) (t : State) => va_P (dC, dI) vwCl [ob_Memory h_this i_size h_kinds h_lefts h_rights h_free i_freeCount h_isReached h_reached i_reachedCount, ar_ h_kinds c_kinds n_kinds f_kinds, ar_ h_rights c_rights n_rights f_rights] t.heap ∧ va_K (dC, dI) vwCl [(c_kinds, .int), (c_rights, .int)] t ∧ va_D (va_A [ob_Memory h_this i_size h_kinds h_lefts h_rights h_free i_freeCount h_isReached h_reached i_reachedCount, ar_ h_kinds c_kinds n_kinds f_kinds, ar_ h_rights c_rights n_rights f_rights] sz) [ob_Memory h_this i_size h_kinds h_lefts h_rights h_free i_freeCount h_isReached h_reached i_reachedCount, ar_ h_kinds c_kinds n_kinds f_kinds, ar_ h_rights c_rights n_rights f_rights]) (va_A [ob_Memory h_this i_size h_kinds h_lefts h_rights h_free i_freeCount h_isReached h_reached i_reachedCount, ar_ h_kinds c_kinds n_kinds f_kinds, ar_ h_rights c_rights n_rights f_rights] sz)) 0 0 (va_A [ob_Memory h_this i_size h_kinds h_lefts h_rights h_free i_freeCount h_isReached h_reached i_reachedCount, ar_ h_kinds c_kinds n_kinds f_kinds, ar_ h_rights c_rights n_rights f_rights] sz) := by
  refine Met.ofW (cc := b_Memory_pairBehind) (maxL := 5) (ret := (some .int)) (by decide) rfl ?_
  intro p e s m args below meth c s₁ B hml hv
  obtain ⟨rfl, hsz, hP, hK, hD0, hG⟩ := hv
  have hx := B.exec
  have hb := B.bytes
  have hr := B.returns
  have hts : ∀ w ∈ tb, w.before _ s = true := fun w h => atoms_spec (ws := ws_ _ _ _ _) B.pre w (List.mem_cons_of_mem _ h)
  have hown : s.vm.findClass R_Memory = some m.cls := findClass_of_methodNamed B.named
  have hlocks := B.notSynchronized
  subst hsz
  have hD := hD0.self (sz := s.heap.size)
  generalize hAe : va_A [ob_Memory h_this i_size h_kinds h_lefts h_rights h_free i_freeCount h_isReached h_reached i_reachedCount, ar_ h_kinds c_kinds n_kinds f_kinds, ar_ h_rights c_rights n_rights f_rights] s.heap.size = A at hD hG ⊢
  have hA : ∀ q : Nat, s.heap.size ≤ q → A q := fun q h => by rw [← hAe]; exact Or.inr h
  have hS : va_S A s.heap s.heap [] := va_S.rf
  have hP : va_P (dC, dI) vwCl [ob_Memory h_this i_size h_kinds h_lefts h_rights h_free i_freeCount h_isReached h_reached i_reachedCount, ar_ h_kinds c_kinds n_kinds f_kinds, ar_ h_rights c_rights n_rights f_rights] s.heap := hP
  have hl := lv_entry [.ref h_this, .int x1, .int x2] (n := 5) (Nat.le_of_ble_eq_true rfl)
  rw [lg_entry_eq]
  generalize (lg_sl [.ref h_this, .int x1, .int x2] ++ List.replicate (5 - (lg_sl [.ref h_this, .int x1, .int x2]).length) Slot.unset).toArray = ls at hl ⊢
  have hl : lv_has ls 5 [(0, .ref h_this), (1, .int x1), (2, .int x2)] := hl
  obtain ⟨Q, hQ⟩ : ∃ Q : State → Prop, Q = MQ below (va_Qi (fun (r : Int32) (u : Unit) => post r ) (fun (u : Unit) (t : State) => va_P (dC, dI) vwCl [ob_Memory h_this i_size h_kinds h_lefts h_rights h_free i_freeCount h_isReached h_reached i_reachedCount, ar_ h_kinds c_kinds n_kinds f_kinds, ar_ h_rights c_rights n_rights f_rights] t.heap ∧ va_K (dC, dI) vwCl [(c_kinds, .int), (c_rights, .int)] t ∧ va_D A [ob_Memory h_this i_size h_kinds h_lefts h_rights h_free i_freeCount h_isReached h_reached i_reachedCount, ar_ h_kinds c_kinds n_kinds f_kinds, ar_ h_rights c_rights n_rights f_rights]) A) ([.ref h_this, .int x1, .int x2] : List Value).toArray s 0 0 A := ⟨_, rfl⟩
  rw [← hQ]
  unfold wp_Memory_pairBehind at hw
  refine lv_iload_n hx hb d_Memory_pairBehind_0 rfl (lv_at hl 1 rfl) ?_
  refine lv_istore_n (lv' := [(3, .int x1), (0, .ref h_this), (1, .int x1), (2, .int x2)]) hx hb d_Memory_pairBehind_1 rfl hl (by decide) rfl (fun ls hl => ?_)
  refine lv_iconst (v := 0) hx hb d_Memory_pairBehind_2 (by decide) ?_
  refine lv_istore (lv' := [(4, .int (0 : Int32)), (3, .int x1), (0, .ref h_this), (1, .int x1), (2, .int x2)]) hx hb d_Memory_pairBehind_3 hl (by decide) rfl (fun ls hl => ?_)
  have L5 : ∀ (K32 : Int32 → Prop), (∀ (v3 : Int32) (H : Heap) (locs : List Loc) (ls : Array Slot), lv_has ls 5 [(0, .ref h_this), (3, .int v3)] → va_P (dC, dI) vwCl [ob_Memory h_this i_size h_kinds h_lefts h_rights h_free i_freeCount h_isReached h_reached i_reachedCount, ar_ h_kinds c_kinds n_kinds f_kinds, ar_ h_rights c_rights n_rights f_rights] H → va_D A [ob_Memory h_this i_size h_kinds h_lefts h_rights h_free i_freeCount h_isReached h_reached i_reachedCount, ar_ h_kinds c_kinds n_kinds f_kinds, ar_ h_rights c_rights n_rights f_rights] → va_S A s.heap H locs → K32 v3 → W p l e (headSpec (ws_ y_Memory_pairBehind b_Memory_pairBehind 5 (some .int)) { frames := 1, cells := 0, slots := 0, locals := 21 }).room s m ([.ref h_this, .int x1, .int x2] : List Value).toArray below meth c H locs 0 0 Q (F0 m 32 ls [])) → ∀ fu5 : Nat, ∀ (v2 : Int32) (v3 : Int32) (v4 : Int32) (H : Heap) (locs : List Loc) (ls : Array Slot), lv_has ls 5 [(0, .ref h_this), (2, .int v2), (3, .int v3), (4, .int v4)] → va_P (dC, dI) vwCl [ob_Memory h_this i_size h_kinds h_lefts h_rights h_free i_freeCount h_isReached h_reached i_reachedCount, ar_ h_kinds c_kinds n_kinds f_kinds, ar_ h_rights c_rights n_rights f_rights] H → va_D A [ob_Memory h_this i_size h_kinds h_lefts h_rights h_free i_freeCount h_isReached h_reached i_reachedCount, ar_ h_kinds c_kinds n_kinds f_kinds, ar_ h_rights c_rights n_rights f_rights] → va_S A s.heap H locs → wp_Memory_pairBehind_L5 n_kinds n_rights f_kinds f_rights K32 post fu5 v2 v3 v4 → W p l e (headSpec (ws_ y_Memory_pairBehind b_Memory_pairBehind 5 (some .int)) { frames := 1, cells := 0, slots := 0, locals := 21 }).room s m ([.ref h_this, .int x1, .int x2] : List Value).toArray below meth c H locs 0 0 Q (F0 m 5 ls []) := by
    intro K32 hK32 fu5
    induction fu5 with
    | zero => intro v2 v3 v4 H locs ls hl hP hD hS hw; exact False.elim hw
    | succ fu5 ih5 =>
        intro v2 v3 v4 H locs ls hl hP hD hS hw
        unfold wp_Memory_pairBehind_L5 at hw
        refine lv_iload hx hb d_Memory_pairBehind_5 (lv_at hl 3 rfl) ?_
        refine lv_iload_n hx hb d_Memory_pairBehind_7 rfl (lv_at hl 1 rfl) ?_
        refine lv_icmp_ge (tgt := 32) hx hb d_Memory_pairBehind_8 (by decide) (fun c_1 => ?_) (fun c_1 => ?_)
        · have hw := hw.1 c_1
          exact hK32 v3 _ _ ls (lv_sub hl [0, 2] rfl) hP hD hS hw
        · have hw := hw.2 c_1
          refine lv_aload_n hx hb d_Memory_pairBehind_11 rfl (lv_at hl 0 rfl) ?_
          refine lv_iload_n hx hb d_Memory_pairBehind_12 rfl (lv_at hl 2 rfl) ?_
          have hPc := hP.sub (ws' := [ob_Memory h_this i_size h_kinds h_lefts h_rights h_free i_freeCount h_isReached h_reached i_reachedCount, ar_ h_kinds c_kinds n_kinds f_kinds]) [0, 1] rfl
          have hDc := hD.sub (ws' := [ob_Memory h_this i_size h_kinds h_lefts h_rights h_free i_freeCount h_isReached h_reached i_reachedCount, ar_ h_kinds c_kinds n_kinds f_kinds]) [0, 1] (by decide) rfl
          have hKc := hK.sub (tys' := [(c_kinds, .int)]) [0] rfl
          have hFc := va_free (wc := [ob_Memory h_this i_size h_kinds h_lefts h_rights h_free i_freeCount h_isReached h_reached i_reachedCount, ar_ h_kinds c_kinds n_kinds f_kinds]) hD hS hA [0, 1] rfl
          refine va_calli (va_runV (As := [.int v3]) (rest := []) ⟨hx, hb, hml, hown, hts⟩ (c_Memory_isPair l dC dI h_this h_kinds h_lefts h_rights h_free h_isReached h_reached c_kinds H.size n_kinds i_size i_freeCount i_reachedCount f_kinds v3 _ hw) (cwV 1 hts (gd_V kt_637 kt_638 kt_639 kt_12 kt_640) rfl rfl rfl (by decide +kernel) ⟨Nat.le_of_ble_eq_true rfl, Nat.le_of_ble_eq_true rfl⟩) ⟨pre_blind, va_recv hKc hPc (ci := 4) (q0 := 0) rfl rfl, pre_ok hPc hKc hDc hG hS hFc⟩ rfl rfl hl.1 rfl (lv_room (Nat.le_of_ble_eq_true rfl)) d_Memory_pairBehind_13 ⟨Nat.zero_le _, Nat.zero_le _⟩) hS (fun q _ h => hFc q h) hFc (fun r_2 u t H1 locs ht hvm hw hB hz1 hk1 hS => ?_)
          obtain ⟨hP1, hK1, hD1⟩ := hB
          rw [ht] at hP1
          try dsimp only at hw
          obtain ⟨hP, hD⟩ := va_join (wr := [ar_ h_rights c_rights n_rights f_rights]) (w1 := [ob_Memory h_this i_size h_kinds h_lefts h_rights h_free i_freeCount h_isReached h_reached i_reachedCount, ar_ h_kinds c_kinds n_kinds f_kinds]) hP hD [0, 1] [2] rfl rfl (by decide) (by decide) hk1 hFc hP1 hD1
          generalize H1 = H at hP hS ⊢
          have hP : va_P (dC, dI) vwCl [ar_ h_rights c_rights n_rights f_rights, ob_Memory h_this i_size h_kinds h_lefts h_rights h_free i_freeCount h_isReached h_reached i_reachedCount, ar_ h_kinds c_kinds n_kinds f_kinds] H := hP
          have hD : va_D A [ar_ h_rights c_rights n_rights f_rights, ob_Memory h_this i_size h_kinds h_lefts h_rights h_free i_freeCount h_isReached h_reached i_reachedCount, ar_ h_kinds c_kinds n_kinds f_kinds] := hD
          refine lv_if_eq (tgt := 32) hx hb d_Memory_pairBehind_16 (by decide) (fun c_3 => ?_) (fun c_3 => ?_)
          · have hw := hw.1 c_3
            exact hK32 v3 _ _ ls (lv_sub hl [0, 2] rfl) (hP.sub [1, 2, 0] rfl) (hD.sub [1, 2, 0] (by decide) rfl) hS hw
          · have hw := hw.2 c_3
            refine lv_aload_n hx hb d_Memory_pairBehind_19 rfl (lv_at hl 0 rfl) ?_
            refine va_get (D := (dC, dI)) (ci := 4) (v := .ref h_rights) (C := R_Memory) (T := T_Memory) (N := 9) hx hb hts in_Memory hown hK hP 1 rfl rfl 3 (by decide) (hts _ kt_191) (fun _ h9 => h9) rfl d_Memory_pairBehind_20 ?_
            refine lv_iload_n hx hb d_Memory_pairBehind_23 rfl (lv_at hl 2 rfl) ?_
            obtain ⟨h_4, hw⟩ := hw
            refine va_iald hx hb hK hP 0 1 rfl rfl h_4 d_Memory_pairBehind_24 ?_
            refine lv_istore_n (lv' := [(3, .int (f_rights v3.toNatClampNeg)), (0, .ref h_this), (2, .int v2), (4, .int v4)]) hx hb d_Memory_pairBehind_25 rfl hl (by decide) rfl (fun ls hl => ?_)
            refine lv_iinc (v := v4 + (1 : Int32)) (lv' := [(4, .int (v4 + (1 : Int32))), (3, .int (f_rights v3.toNatClampNeg)), (0, .ref h_this), (2, .int v2)]) hx hb d_Memory_pairBehind_26 hl (k := 3) rfl rfl (by decide) rfl (fun ls hl => ?_)
            refine lv_goto (tgt := 5) hx hb d_Memory_pairBehind_29 (by decide) ?_
            exact ih5 v2 (f_rights v3.toNatClampNeg) (v4 + (1 : Int32)) _ _ ls (lv_sub hl [2, 3, 1, 0] rfl) (hP.sub [1, 2, 0] rfl) (hD.sub [1, 2, 0] (by decide) rfl) hS hw
  obtain ⟨fu5, hw⟩ := hw
  refine L5 _ (fun v3 H locs ls hl hP hD hS hw => ?_) fu5 x2 x1 (0 : Int32) _ _ ls (lv_sub hl [2, 4, 1, 0] rfl) hP hD hS hw
  try dsimp only at hw
  refine lv_aload_n hx hb d_Memory_pairBehind_32 rfl (lv_at hl 0 rfl) ?_
  refine lv_iload_n hx hb d_Memory_pairBehind_33 rfl (lv_at hl 1 rfl) ?_
  have hPc := hP.sub (ws' := [ob_Memory h_this i_size h_kinds h_lefts h_rights h_free i_freeCount h_isReached h_reached i_reachedCount, ar_ h_kinds c_kinds n_kinds f_kinds]) [0, 1] rfl
  have hDc := hD.sub (ws' := [ob_Memory h_this i_size h_kinds h_lefts h_rights h_free i_freeCount h_isReached h_reached i_reachedCount, ar_ h_kinds c_kinds n_kinds f_kinds]) [0, 1] (by decide) rfl
  have hKc := hK.sub (tys' := [(c_kinds, .int)]) [0] rfl
  have hFc := va_free (wc := [ob_Memory h_this i_size h_kinds h_lefts h_rights h_free i_freeCount h_isReached h_reached i_reachedCount, ar_ h_kinds c_kinds n_kinds f_kinds]) hD hS hA [0, 1] rfl
  refine va_calli (va_runV (As := [.int v3]) (rest := []) ⟨hx, hb, hml, hown, hts⟩ (c_Memory_isPair l dC dI h_this h_kinds h_lefts h_rights h_free h_isReached h_reached c_kinds H.size n_kinds i_size i_freeCount i_reachedCount f_kinds v3 _ hw) (cwV 1 hts (gd_V kt_637 kt_638 kt_639 kt_12 kt_640) rfl rfl rfl (by decide +kernel) ⟨Nat.le_of_ble_eq_true rfl, Nat.le_of_ble_eq_true rfl⟩) ⟨pre_blind, va_recv hKc hPc (ci := 4) (q0 := 0) rfl rfl, pre_ok hPc hKc hDc hG hS hFc⟩ rfl rfl hl.1 rfl (lv_room (Nat.le_of_ble_eq_true rfl)) d_Memory_pairBehind_34 ⟨Nat.zero_le _, Nat.zero_le _⟩) hS (fun q _ h => hFc q h) hFc (fun r_5 u t H1 locs ht hvm hw hB hz1 hk1 hS => ?_)
  obtain ⟨hP1, hK1, hD1⟩ := hB
  rw [ht] at hP1
  try dsimp only at hw
  obtain ⟨hP, hD⟩ := va_join (wr := [ar_ h_rights c_rights n_rights f_rights]) (w1 := [ob_Memory h_this i_size h_kinds h_lefts h_rights h_free i_freeCount h_isReached h_reached i_reachedCount, ar_ h_kinds c_kinds n_kinds f_kinds]) hP hD [0, 1] [2] rfl rfl (by decide) (by decide) hk1 hFc hP1 hD1
  generalize H1 = H at hP hS ⊢
  have hP : va_P (dC, dI) vwCl [ar_ h_rights c_rights n_rights f_rights, ob_Memory h_this i_size h_kinds h_lefts h_rights h_free i_freeCount h_isReached h_reached i_reachedCount, ar_ h_kinds c_kinds n_kinds f_kinds] H := hP
  have hD : va_D A [ar_ h_rights c_rights n_rights f_rights, ob_Memory h_this i_size h_kinds h_lefts h_rights h_free i_freeCount h_isReached h_reached i_reachedCount, ar_ h_kinds c_kinds n_kinds f_kinds] := hD
  refine lv_if_eq (tgt := 44) hx hb d_Memory_pairBehind_37 (by decide) (fun c_6 => ?_) (fun c_6 => ?_)
  · have hw := hw.1 c_6
    refine lv_iconst (v := (-1)) hx hb d_Memory_pairBehind_44 (by decide) ?_
    have hP9 : va_P (dC, dI) vwCl [ob_Memory h_this i_size h_kinds h_lefts h_rights h_free i_freeCount h_isReached h_reached i_reachedCount, ar_ h_kinds c_kinds n_kinds f_kinds, ar_ h_rights c_rights n_rights f_rights] _ := (hP.sub [1, 2, 0] rfl)
    have hD9 : va_D A [ob_Memory h_this i_size h_kinds h_lefts h_rights h_free i_freeCount h_isReached h_reached i_reachedCount, ar_ h_kinds c_kinds n_kinds f_kinds, ar_ h_rights c_rights n_rights f_rights] := (hD.sub [1, 2, 0] (by decide) rfl)
    rw [hQ]
    exact W.iret (v := (-1 : Int32)) hx hb hr (fun t ht hW => ⟨⟨(-1 : Int32), (), rfl, hw, by rw [ht]; exact hP9, va_K.moved hW.alike hK, hD9⟩, hS.F ht⟩) hS.2.2 d_Memory_pairBehind_45
  · have hw := hw.2 c_6
    refine lv_iload_n hx hb d_Memory_pairBehind_40 rfl (lv_at hl 1 rfl) ?_
    refine lv_goto (tgt := 45) hx hb d_Memory_pairBehind_41 (by decide) ?_
    have hP9 : va_P (dC, dI) vwCl [ob_Memory h_this i_size h_kinds h_lefts h_rights h_free i_freeCount h_isReached h_reached i_reachedCount, ar_ h_kinds c_kinds n_kinds f_kinds, ar_ h_rights c_rights n_rights f_rights] _ := (hP.sub [1, 2, 0] rfl)
    have hD9 : va_D A [ob_Memory h_this i_size h_kinds h_lefts h_rights h_free i_freeCount h_isReached h_reached i_reachedCount, ar_ h_kinds c_kinds n_kinds f_kinds, ar_ h_rights c_rights n_rights f_rights] := (hD.sub [1, 2, 0] (by decide) rfl)
    rw [hQ]
    exact W.iret (v := v3) hx hb hr (fun t ht hW => ⟨⟨v3, (), rfl, hw, by rw [ht]; exact hP9, va_K.moved hW.alike hK, hD9⟩, hS.F ht⟩) hS.2.2 d_Memory_pairBehind_45
