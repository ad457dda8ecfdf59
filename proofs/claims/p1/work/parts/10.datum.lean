theorem d_Secd_isDigit_0 : decode b_Secd_isDigit 0 = .ok (.iload_n 0, 1) := by decide +kernel
theorem d_Secd_isDigit_1 : decode b_Secd_isDigit 1 = .ok (.bipush 48, 2) := by decide +kernel
theorem d_Secd_isDigit_3 : decode b_Secd_isDigit 3 = .ok (.if_icmp .lt 13, 3) := by decide +kernel
theorem d_Secd_isDigit_6 : decode b_Secd_isDigit 6 = .ok (.iload_n 0, 1) := by decide +kernel
theorem d_Secd_isDigit_7 : decode b_Secd_isDigit 7 = .ok (.bipush 57, 2) := by decide +kernel
theorem d_Secd_isDigit_9 : decode b_Secd_isDigit 9 = .ok (.if_icmp .gt 7, 3) := by decide +kernel
theorem d_Secd_isDigit_12 : decode b_Secd_isDigit 12 = .ok (.iconst 1, 1) := by decide +kernel
theorem d_Secd_isDigit_13 : decode b_Secd_isDigit 13 = .ok (.goto 4, 3) := by decide +kernel
theorem d_Secd_isDigit_16 : decode b_Secd_isDigit 16 = .ok (.iconst 0, 1) := by decide +kernel
theorem d_Secd_isDigit_17 : decode b_Secd_isDigit 17 = .ok (.ireturn, 1) := by decide +kernel
theorem d_Secd_isLetter_0 : decode b_Secd_isLetter 0 = .ok (.iload_n 0, 1) := by decide +kernel
theorem d_Secd_isLetter_1 : decode b_Secd_isLetter 1 = .ok (.bipush 97, 2) := by decide +kernel
theorem d_Secd_isLetter_3 : decode b_Secd_isLetter 3 = .ok (.if_icmp .lt 13, 3) := by decide +kernel
theorem d_Secd_isLetter_6 : decode b_Secd_isLetter 6 = .ok (.iload_n 0, 1) := by decide +kernel
theorem d_Secd_isLetter_7 : decode b_Secd_isLetter 7 = .ok (.bipush 122, 2) := by decide +kernel
theorem d_Secd_isLetter_9 : decode b_Secd_isLetter 9 = .ok (.if_icmp .gt 7, 3) := by decide +kernel
theorem d_Secd_isLetter_12 : decode b_Secd_isLetter 12 = .ok (.iconst 1, 1) := by decide +kernel
theorem d_Secd_isLetter_13 : decode b_Secd_isLetter 13 = .ok (.goto 4, 3) := by decide +kernel
theorem d_Secd_isLetter_16 : decode b_Secd_isLetter 16 = .ok (.iconst 0, 1) := by decide +kernel
theorem d_Secd_isLetter_17 : decode b_Secd_isLetter 17 = .ok (.ireturn, 1) := by decide +kernel
theorem d_Secd_isTextCharacter_0 : decode b_Secd_isTextCharacter 0 = .ok (.iload_n 0, 1) := by decide +kernel
theorem d_Secd_isTextCharacter_1 : decode b_Secd_isTextCharacter 1 = .ok (.bipush 32, 2) := by decide +kernel
theorem d_Secd_isTextCharacter_3 : decode b_Secd_isTextCharacter 3 = .ok (.if_icmp .eq 35, 3) := by decide +kernel
theorem d_Secd_isTextCharacter_6 : decode b_Secd_isTextCharacter 6 = .ok (.iload_n 0, 1) := by decide +kernel
theorem d_Secd_isTextCharacter_7 : decode b_Secd_isTextCharacter 7 = .ok (.bipush 40, 2) := by decide +kernel
theorem d_Secd_isTextCharacter_9 : decode b_Secd_isTextCharacter 9 = .ok (.if_icmp .eq 29, 3) := by decide +kernel
theorem d_Secd_isTextCharacter_12 : decode b_Secd_isTextCharacter 12 = .ok (.iload_n 0, 1) := by decide +kernel
theorem d_Secd_isTextCharacter_13 : decode b_Secd_isTextCharacter 13 = .ok (.bipush 41, 2) := by decide +kernel
theorem d_Secd_isTextCharacter_15 : decode b_Secd_isTextCharacter 15 = .ok (.if_icmp .eq 23, 3) := by decide +kernel
theorem d_Secd_isTextCharacter_18 : decode b_Secd_isTextCharacter 18 = .ok (.iload_n 0, 1) := by decide +kernel
theorem d_Secd_isTextCharacter_19 : decode b_Secd_isTextCharacter 19 = .ok (.bipush 45, 2) := by decide +kernel
theorem d_Secd_isTextCharacter_21 : decode b_Secd_isTextCharacter 21 = .ok (.if_icmp .eq 17, 3) := by decide +kernel
theorem d_Secd_isTextCharacter_24 : decode b_Secd_isTextCharacter 24 = .ok (.iload_n 0, 1) := by decide +kernel
theorem d_Secd_isTextCharacter_25 : decode b_Secd_isTextCharacter 25 = .ok (.invokestatic 162, 3) := by decide +kernel
theorem d_Secd_isTextCharacter_28 : decode b_Secd_isTextCharacter 28 = .ok (.ifCond .ne 10, 3) := by decide +kernel
theorem d_Secd_isTextCharacter_31 : decode b_Secd_isTextCharacter 31 = .ok (.iload_n 0, 1) := by decide +kernel
theorem d_Secd_isTextCharacter_32 : decode b_Secd_isTextCharacter 32 = .ok (.invokestatic 165, 3) := by decide +kernel
theorem d_Secd_isTextCharacter_35 : decode b_Secd_isTextCharacter 35 = .ok (.ifCond .eq 7, 3) := by decide +kernel
theorem d_Secd_isTextCharacter_38 : decode b_Secd_isTextCharacter 38 = .ok (.iconst 1, 1) := by decide +kernel
theorem d_Secd_isTextCharacter_39 : decode b_Secd_isTextCharacter 39 = .ok (.goto 4, 3) := by decide +kernel
theorem d_Secd_isTextCharacter_42 : decode b_Secd_isTextCharacter 42 = .ok (.iconst 0, 1) := by decide +kernel
theorem d_Secd_isTextCharacter_43 : decode b_Secd_isTextCharacter 43 = .ok (.ireturn, 1) := by decide +kernel
theorem d_Datum_addPart_0 : decode b_Datum_addPart 0 = .ok (.aload_n 0, 1) := by decide +kernel
theorem d_Datum_addPart_1 : decode b_Datum_addPart 1 = .ok (.getfield 28, 3) := by decide +kernel
theorem d_Datum_addPart_4 : decode b_Datum_addPart 4 = .ok (.iload_n 1, 1) := by decide +kernel
theorem d_Datum_addPart_5 : decode b_Datum_addPart 5 = .ok (.iaload, 1) := by decide +kernel
theorem d_Datum_addPart_6 : decode b_Datum_addPart 6 = .ok (.iconst (-1), 1) := by decide +kernel
theorem d_Datum_addPart_7 : decode b_Datum_addPart 7 = .ok (.if_icmp .ne 18, 3) := by decide +kernel
theorem d_Datum_addPart_10 : decode b_Datum_addPart 10 = .ok (.aload_n 0, 1) := by decide +kernel
theorem d_Datum_addPart_11 : decode b_Datum_addPart 11 = .ok (.getfield 15, 3) := by decide +kernel
theorem d_Datum_addPart_14 : decode b_Datum_addPart 14 = .ok (.aload_n 0, 1) := by decide +kernel
theorem d_Datum_addPart_15 : decode b_Datum_addPart 15 = .ok (.getfield 25, 3) := by decide +kernel
theorem d_Datum_addPart_18 : decode b_Datum_addPart 18 = .ok (.iload_n 1, 1) := by decide +kernel
theorem d_Datum_addPart_19 : decode b_Datum_addPart 19 = .ok (.iaload, 1) := by decide +kernel
theorem d_Datum_addPart_20 : decode b_Datum_addPart 20 = .ok (.iload_n 2, 1) := by decide +kernel
theorem d_Datum_addPart_21 : decode b_Datum_addPart 21 = .ok (.iastore, 1) := by decide +kernel
theorem d_Datum_addPart_22 : decode b_Datum_addPart 22 = .ok (.goto 15, 3) := by decide +kernel
theorem d_Datum_addPart_25 : decode b_Datum_addPart 25 = .ok (.aload_n 0, 1) := by decide +kernel
theorem d_Datum_addPart_26 : decode b_Datum_addPart 26 = .ok (.getfield 18, 3) := by decide +kernel
theorem d_Datum_addPart_29 : decode b_Datum_addPart 29 = .ok (.aload_n 0, 1) := by decide +kernel
theorem d_Datum_addPart_30 : decode b_Datum_addPart 30 = .ok (.getfield 28, 3) := by decide +kernel
theorem d_Datum_addPart_33 : decode b_Datum_addPart 33 = .ok (.iload_n 1, 1) := by decide +kernel
theorem d_Datum_addPart_34 : decode b_Datum_addPart 34 = .ok (.iaload, 1) := by decide +kernel
theorem d_Datum_addPart_35 : decode b_Datum_addPart 35 = .ok (.iload_n 2, 1) := by decide +kernel
theorem d_Datum_addPart_36 : decode b_Datum_addPart 36 = .ok (.iastore, 1) := by decide +kernel
theorem d_Datum_addPart_37 : decode b_Datum_addPart 37 = .ok (.aload_n 0, 1) := by decide +kernel
theorem d_Datum_addPart_38 : decode b_Datum_addPart 38 = .ok (.getfield 28, 3) := by decide +kernel
theorem d_Datum_addPart_41 : decode b_Datum_addPart 41 = .ok (.iload_n 1, 1) := by decide +kernel
theorem d_Datum_addPart_42 : decode b_Datum_addPart 42 = .ok (.iload_n 2, 1) := by decide +kernel
theorem d_Datum_addPart_43 : decode b_Datum_addPart 43 = .ok (.iastore, 1) := by decide +kernel
theorem d_Datum_addPart_44 : decode b_Datum_addPart 44 = .ok (.return_, 1) := by decide +kernel
theorem d_Datum_addNode_0 : decode b_Datum_addNode 0 = .ok (.aload_n 0, 1) := by decide +kernel
theorem d_Datum_addNode_1 : decode b_Datum_addNode 1 = .ok (.getfield 21, 3) := by decide +kernel
theorem d_Datum_addNode_4 : decode b_Datum_addNode 4 = .ok (.sipush 200, 3) := by decide +kernel
theorem d_Datum_addNode_7 : decode b_Datum_addNode 7 = .ok (.if_icmp .ge 17, 3) := by decide +kernel
theorem d_Datum_addNode_10 : decode b_Datum_addNode 10 = .ok (.aload_n 0, 1) := by decide +kernel
theorem d_Datum_addNode_11 : decode b_Datum_addNode 11 = .ok (.getfield 31, 3) := by decide +kernel
theorem d_Datum_addNode_14 : decode b_Datum_addNode 14 = .ok (.ifCond .ne 12, 3) := by decide +kernel
theorem d_Datum_addNode_17 : decode b_Datum_addNode 17 = .ok (.aload_n 0, 1) := by decide +kernel
theorem d_Datum_addNode_18 : decode b_Datum_addNode 18 = .ok (.getfield 21, 3) := by decide +kernel
theorem d_Datum_addNode_21 : decode b_Datum_addNode 21 = .ok (.ifCond .le 5, 3) := by decide +kernel
theorem d_Datum_addNode_24 : decode b_Datum_addNode 24 = .ok (.iconst 0, 1) := by decide +kernel
theorem d_Datum_addNode_25 : decode b_Datum_addNode 25 = .ok (.ireturn, 1) := by decide +kernel
theorem d_Datum_addNode_26 : decode b_Datum_addNode 26 = .ok (.aload_n 0, 1) := by decide +kernel
theorem d_Datum_addNode_27 : decode b_Datum_addNode 27 = .ok (.getfield 9, 3) := by decide +kernel
theorem d_Datum_addNode_30 : decode b_Datum_addNode 30 = .ok (.aload_n 0, 1) := by decide +kernel
theorem d_Datum_addNode_31 : decode b_Datum_addNode 31 = .ok (.getfield 21, 3) := by decide +kernel
theorem d_Datum_addNode_34 : decode b_Datum_addNode 34 = .ok (.iload_n 1, 1) := by decide +kernel
theorem d_Datum_addNode_35 : decode b_Datum_addNode 35 = .ok (.iastore, 1) := by decide +kernel
theorem d_Datum_addNode_36 : decode b_Datum_addNode 36 = .ok (.aload_n 0, 1) := by decide +kernel
theorem d_Datum_addNode_37 : decode b_Datum_addNode 37 = .ok (.getfield 15, 3) := by decide +kernel
theorem d_Datum_addNode_40 : decode b_Datum_addNode 40 = .ok (.aload_n 0, 1) := by decide +kernel
theorem d_Datum_addNode_41 : decode b_Datum_addNode 41 = .ok (.getfield 21, 3) := by decide +kernel
theorem d_Datum_addNode_44 : decode b_Datum_addNode 44 = .ok (.iload_n 2, 1) := by decide +kernel
theorem d_Datum_addNode_45 : decode b_Datum_addNode 45 = .ok (.iastore, 1) := by decide +kernel
theorem d_Datum_addNode_46 : decode b_Datum_addNode 46 = .ok (.aload_n 0, 1) := by decide +kernel
theorem d_Datum_addNode_47 : decode b_Datum_addNode 47 = .ok (.getfield 18, 3) := by decide +kernel
theorem d_Datum_addNode_50 : decode b_Datum_addNode 50 = .ok (.aload_n 0, 1) := by decide +kernel
theorem d_Datum_addNode_51 : decode b_Datum_addNode 51 = .ok (.getfield 21, 3) := by decide +kernel
theorem d_Datum_addNode_54 : decode b_Datum_addNode 54 = .ok (.iconst (-1), 1) := by decide +kernel
theorem d_Datum_addNode_55 : decode b_Datum_addNode 55 = .ok (.iastore, 1) := by decide +kernel
theorem d_Datum_addNode_56 : decode b_Datum_addNode 56 = .ok (.aload_n 0, 1) := by decide +kernel
theorem d_Datum_addNode_57 : decode b_Datum_addNode 57 = .ok (.getfield 31, 3) := by decide +kernel
theorem d_Datum_addNode_60 : decode b_Datum_addNode 60 = .ok (.ifCond .le 17, 3) := by decide +kernel
theorem d_Datum_addNode_63 : decode b_Datum_addNode 63 = .ok (.aload_n 0, 1) := by decide +kernel
theorem d_Datum_addNode_64 : decode b_Datum_addNode 64 = .ok (.aload_n 0, 1) := by decide +kernel
theorem d_Datum_addNode_65 : decode b_Datum_addNode 65 = .ok (.getfield 31, 3) := by decide +kernel
theorem d_Datum_addNode_68 : decode b_Datum_addNode 68 = .ok (.iconst 1, 1) := by decide +kernel
theorem d_Datum_addNode_69 : decode b_Datum_addNode 69 = .ok (.isub, 1) := by decide +kernel
theorem d_Datum_addNode_70 : decode b_Datum_addNode 70 = .ok (.aload_n 0, 1) := by decide +kernel
theorem d_Datum_addNode_71 : decode b_Datum_addNode 71 = .ok (.getfield 21, 3) := by decide +kernel
theorem d_Datum_addNode_74 : decode b_Datum_addNode 74 = .ok (.invokevirtual 74, 3) := by decide +kernel
theorem d_Datum_addNode_77 : decode b_Datum_addNode 77 = .ok (.aload_n 0, 1) := by decide +kernel
theorem d_Datum_addNode_78 : decode b_Datum_addNode 78 = .ok (.dup, 1) := by decide +kernel
theorem d_Datum_addNode_79 : decode b_Datum_addNode 79 = .ok (.getfield 21, 3) := by decide +kernel
theorem d_Datum_addNode_82 : decode b_Datum_addNode 82 = .ok (.iconst 1, 1) := by decide +kernel
theorem d_Datum_addNode_83 : decode b_Datum_addNode 83 = .ok (.iadd, 1) := by decide +kernel
theorem d_Datum_addNode_84 : decode b_Datum_addNode 84 = .ok (.putfield 21, 3) := by decide +kernel
theorem d_Datum_addNode_87 : decode b_Datum_addNode 87 = .ok (.iconst 1, 1) := by decide +kernel
theorem d_Datum_addNode_88 : decode b_Datum_addNode 88 = .ok (.ireturn, 1) := by decide +kernel
theorem d_Datum_readNumber_0 : decode b_Datum_readNumber 0 = .ok (.aload_n 1, 1) := by decide +kernel
theorem d_Datum_readNumber_1 : decode b_Datum_readNumber 1 = .ok (.iload_n 3, 1) := by decide +kernel
theorem d_Datum_readNumber_2 : decode b_Datum_readNumber 2 = .ok (.caload, 1) := by decide +kernel
theorem d_Datum_readNumber_3 : decode b_Datum_readNumber 3 = .ok (.bipush 45, 2) := by decide +kernel
theorem d_Datum_readNumber_5 : decode b_Datum_readNumber 5 = .ok (.if_icmp .ne 7, 3) := by decide +kernel
theorem d_Datum_readNumber_8 : decode b_Datum_readNumber 8 = .ok (.iconst 1, 1) := by decide +kernel
theorem d_Datum_readNumber_9 : decode b_Datum_readNumber 9 = .ok (.goto 4, 3) := by decide +kernel
theorem d_Datum_readNumber_12 : decode b_Datum_readNumber 12 = .ok (.iconst 0, 1) := by decide +kernel
theorem d_Datum_readNumber_13 : decode b_Datum_readNumber 13 = .ok (.istore 4, 2) := by decide +kernel
theorem d_Datum_readNumber_15 : decode b_Datum_readNumber 15 = .ok (.iload 4, 2) := by decide +kernel
theorem d_Datum_readNumber_17 : decode b_Datum_readNumber 17 = .ok (.ifCond .eq 9, 3) := by decide +kernel
theorem d_Datum_readNumber_20 : decode b_Datum_readNumber 20 = .ok (.iload_n 3, 1) := by decide +kernel
theorem d_Datum_readNumber_21 : decode b_Datum_readNumber 21 = .ok (.iconst 1, 1) := by decide +kernel
theorem d_Datum_readNumber_22 : decode b_Datum_readNumber 22 = .ok (.iadd, 1) := by decide +kernel
theorem d_Datum_readNumber_23 : decode b_Datum_readNumber 23 = .ok (.goto 4, 3) := by decide +kernel
theorem d_Datum_readNumber_26 : decode b_Datum_readNumber 26 = .ok (.iload_n 3, 1) := by decide +kernel
theorem d_Datum_readNumber_27 : decode b_Datum_readNumber 27 = .ok (.istore 5, 2) := by decide +kernel
theorem d_Datum_readNumber_29 : decode b_Datum_readNumber 29 = .ok (.iconst 0, 1) := by decide +kernel
theorem d_Datum_readNumber_30 : decode b_Datum_readNumber 30 = .ok (.istore 6, 2) := by decide +kernel
theorem d_Datum_readNumber_32 : decode b_Datum_readNumber 32 = .ok (.iload 5, 2) := by decide +kernel
theorem d_Datum_readNumber_34 : decode b_Datum_readNumber 34 = .ok (.istore 7, 2) := by decide +kernel
theorem d_Datum_readNumber_36 : decode b_Datum_readNumber 36 = .ok (.iload 7, 2) := by decide +kernel
theorem d_Datum_readNumber_38 : decode b_Datum_readNumber 38 = .ok (.iload_n 2, 1) := by decide +kernel
theorem d_Datum_readNumber_39 : decode b_Datum_readNumber 39 = .ok (.if_icmp .ge 34, 3) := by decide +kernel
theorem d_Datum_readNumber_42 : decode b_Datum_readNumber 42 = .ok (.aload_n 1, 1) := by decide +kernel
theorem d_Datum_readNumber_43 : decode b_Datum_readNumber 43 = .ok (.iload 7, 2) := by decide +kernel
theorem d_Datum_readNumber_45 : decode b_Datum_readNumber 45 = .ok (.caload, 1) := by decide +kernel
theorem d_Datum_readNumber_46 : decode b_Datum_readNumber 46 = .ok (.invokestatic 71, 3) := by decide +kernel
theorem d_Datum_readNumber_49 : decode b_Datum_readNumber 49 = .ok (.ifCond .eq 24, 3) := by decide +kernel
theorem d_Datum_readNumber_52 : decode b_Datum_readNumber 52 = .ok (.bipush 10, 2) := by decide +kernel
theorem d_Datum_readNumber_54 : decode b_Datum_readNumber 54 = .ok (.iload 6, 2) := by decide +kernel
theorem d_Datum_readNumber_56 : decode b_Datum_readNumber 56 = .ok (.imul, 1) := by decide +kernel
theorem d_Datum_readNumber_57 : decode b_Datum_readNumber 57 = .ok (.aload_n 1, 1) := by decide +kernel
theorem d_Datum_readNumber_58 : decode b_Datum_readNumber 58 = .ok (.iload 7, 2) := by decide +kernel
theorem d_Datum_readNumber_60 : decode b_Datum_readNumber 60 = .ok (.caload, 1) := by decide +kernel
theorem d_Datum_readNumber_61 : decode b_Datum_readNumber 61 = .ok (.bipush 48, 2) := by decide +kernel
theorem d_Datum_readNumber_63 : decode b_Datum_readNumber 63 = .ok (.isub, 1) := by decide +kernel
theorem d_Datum_readNumber_64 : decode b_Datum_readNumber 64 = .ok (.iadd, 1) := by decide +kernel
theorem d_Datum_readNumber_65 : decode b_Datum_readNumber 65 = .ok (.istore 6, 2) := by decide +kernel
theorem d_Datum_readNumber_67 : decode b_Datum_readNumber 67 = .ok (.iinc 7 1, 3) := by decide +kernel
theorem d_Datum_readNumber_70 : decode b_Datum_readNumber 70 = .ok (.goto (-34), 3) := by decide +kernel
theorem d_Datum_readNumber_73 : decode b_Datum_readNumber 73 = .ok (.iload 7, 2) := by decide +kernel
theorem d_Datum_readNumber_75 : decode b_Datum_readNumber 75 = .ok (.iload 5, 2) := by decide +kernel
theorem d_Datum_readNumber_77 : decode b_Datum_readNumber 77 = .ok (.if_icmp .le 17, 3) := by decide +kernel
theorem d_Datum_readNumber_80 : decode b_Datum_readNumber 80 = .ok (.iload 7, 2) := by decide +kernel
theorem d_Datum_readNumber_82 : decode b_Datum_readNumber 82 = .ok (.iload 5, 2) := by decide +kernel
theorem d_Datum_readNumber_84 : decode b_Datum_readNumber 84 = .ok (.isub, 1) := by decide +kernel
theorem d_Datum_readNumber_85 : decode b_Datum_readNumber 85 = .ok (.bipush 9, 2) := by decide +kernel
theorem d_Datum_readNumber_87 : decode b_Datum_readNumber 87 = .ok (.if_icmp .gt 7, 3) := by decide +kernel
theorem d_Datum_readNumber_90 : decode b_Datum_readNumber 90 = .ok (.iconst 1, 1) := by decide +kernel
theorem d_Datum_readNumber_91 : decode b_Datum_readNumber 91 = .ok (.goto 4, 3) := by decide +kernel
theorem d_Datum_readNumber_94 : decode b_Datum_readNumber 94 = .ok (.iconst 0, 1) := by decide +kernel
theorem d_Datum_readNumber_95 : decode b_Datum_readNumber 95 = .ok (.istore 8, 2) := by decide +kernel
theorem d_Datum_readNumber_97 : decode b_Datum_readNumber 97 = .ok (.iload 8, 2) := by decide +kernel
theorem d_Datum_readNumber_99 : decode b_Datum_readNumber 99 = .ok (.ifCond .eq 29, 3) := by decide +kernel
theorem d_Datum_readNumber_102 : decode b_Datum_readNumber 102 = .ok (.aload_n 0, 1) := by decide +kernel
theorem d_Datum_readNumber_103 : decode b_Datum_readNumber 103 = .ok (.iconst 0, 1) := by decide +kernel
theorem d_Datum_readNumber_104 : decode b_Datum_readNumber 104 = .ok (.iload 4, 2) := by decide +kernel
theorem d_Datum_readNumber_106 : decode b_Datum_readNumber 106 = .ok (.ifCond .eq 9, 3) := by decide +kernel
theorem d_Datum_readNumber_109 : decode b_Datum_readNumber 109 = .ok (.iload 6, 2) := by decide +kernel
theorem d_Datum_readNumber_111 : decode b_Datum_readNumber 111 = .ok (.ineg, 1) := by decide +kernel
theorem d_Datum_readNumber_112 : decode b_Datum_readNumber 112 = .ok (.goto 5, 3) := by decide +kernel
theorem d_Datum_readNumber_115 : decode b_Datum_readNumber 115 = .ok (.iload 6, 2) := by decide +kernel
theorem d_Datum_readNumber_117 : decode b_Datum_readNumber 117 = .ok (.invokevirtual 61, 3) := by decide +kernel
theorem d_Datum_readNumber_120 : decode b_Datum_readNumber 120 = .ok (.ifCond .eq 8, 3) := by decide +kernel
theorem d_Datum_readNumber_123 : decode b_Datum_readNumber 123 = .ok (.iload 7, 2) := by decide +kernel
theorem d_Datum_readNumber_125 : decode b_Datum_readNumber 125 = .ok (.goto 4, 3) := by decide +kernel
theorem d_Datum_readNumber_128 : decode b_Datum_readNumber 128 = .ok (.iconst (-1), 1) := by decide +kernel
theorem d_Datum_readNumber_129 : decode b_Datum_readNumber 129 = .ok (.ireturn, 1) := by decide +kernel
theorem d_Names_withLetter_0 : decode b_Names_withLetter 0 = .ok (.iload_n 0, 1) := by decide +kernel
theorem d_Names_withLetter_1 : decode b_Names_withLetter 1 = .ok (.iconst 5, 1) := by decide +kernel
theorem d_Names_withLetter_2 : decode b_Names_withLetter 2 = .ok (.ishl, 1) := by decide +kernel
theorem d_Names_withLetter_3 : decode b_Names_withLetter 3 = .ok (.iload_n 1, 1) := by decide +kernel
theorem d_Names_withLetter_4 : decode b_Names_withLetter 4 = .ok (.bipush 97, 2) := by decide +kernel
theorem d_Names_withLetter_6 : decode b_Names_withLetter 6 = .ok (.isub, 1) := by decide +kernel
theorem d_Names_withLetter_7 : decode b_Names_withLetter 7 = .ok (.iconst 1, 1) := by decide +kernel
theorem d_Names_withLetter_8 : decode b_Names_withLetter 8 = .ok (.iadd, 1) := by decide +kernel
theorem d_Names_withLetter_9 : decode b_Names_withLetter 9 = .ok (.iadd, 1) := by decide +kernel
theorem d_Names_withLetter_10 : decode b_Names_withLetter 10 = .ok (.ireturn, 1) := by decide +kernel
theorem d_Datum_readName_0 : decode b_Datum_readName 0 = .ok (.iconst 0, 1) := by decide +kernel
theorem d_Datum_readName_1 : decode b_Datum_readName 1 = .ok (.istore 4, 2) := by decide +kernel
theorem d_Datum_readName_3 : decode b_Datum_readName 3 = .ok (.iload_n 3, 1) := by decide +kernel
theorem d_Datum_readName_4 : decode b_Datum_readName 4 = .ok (.istore 5, 2) := by decide +kernel
theorem d_Datum_readName_6 : decode b_Datum_readName 6 = .ok (.iload 5, 2) := by decide +kernel
theorem d_Datum_readName_8 : decode b_Datum_readName 8 = .ok (.iload_n 2, 1) := by decide +kernel
theorem d_Datum_readName_9 : decode b_Datum_readName 9 = .ok (.if_icmp .ge 30, 3) := by decide +kernel
theorem d_Datum_readName_12 : decode b_Datum_readName 12 = .ok (.aload_n 1, 1) := by decide +kernel
theorem d_Datum_readName_13 : decode b_Datum_readName 13 = .ok (.iload 5, 2) := by decide +kernel
theorem d_Datum_readName_15 : decode b_Datum_readName 15 = .ok (.caload, 1) := by decide +kernel
theorem d_Datum_readName_16 : decode b_Datum_readName 16 = .ok (.invokestatic 51, 3) := by decide +kernel
theorem d_Datum_readName_19 : decode b_Datum_readName 19 = .ok (.ifCond .eq 20, 3) := by decide +kernel
theorem d_Datum_readName_22 : decode b_Datum_readName 22 = .ok (.iload 4, 2) := by decide +kernel
theorem d_Datum_readName_24 : decode b_Datum_readName 24 = .ok (.aload_n 1, 1) := by decide +kernel
theorem d_Datum_readName_25 : decode b_Datum_readName 25 = .ok (.iload 5, 2) := by decide +kernel
theorem d_Datum_readName_27 : decode b_Datum_readName 27 = .ok (.caload, 1) := by decide +kernel
theorem d_Datum_readName_28 : decode b_Datum_readName 28 = .ok (.invokestatic 65, 3) := by decide +kernel
theorem d_Datum_readName_31 : decode b_Datum_readName 31 = .ok (.istore 4, 2) := by decide +kernel
theorem d_Datum_readName_33 : decode b_Datum_readName 33 = .ok (.iinc 5 1, 3) := by decide +kernel
theorem d_Datum_readName_36 : decode b_Datum_readName 36 = .ok (.goto (-30), 3) := by decide +kernel
theorem d_Datum_readName_39 : decode b_Datum_readName 39 = .ok (.iload 5, 2) := by decide +kernel
theorem d_Datum_readName_41 : decode b_Datum_readName 41 = .ok (.iload_n 3, 1) := by decide +kernel
theorem d_Datum_readName_42 : decode b_Datum_readName 42 = .ok (.isub, 1) := by decide +kernel
theorem d_Datum_readName_43 : decode b_Datum_readName 43 = .ok (.bipush 6, 2) := by decide +kernel
theorem d_Datum_readName_45 : decode b_Datum_readName 45 = .ok (.if_icmp .gt 18, 3) := by decide +kernel
theorem d_Datum_readName_48 : decode b_Datum_readName 48 = .ok (.aload_n 0, 1) := by decide +kernel
theorem d_Datum_readName_49 : decode b_Datum_readName 49 = .ok (.iconst 1, 1) := by decide +kernel
theorem d_Datum_readName_50 : decode b_Datum_readName 50 = .ok (.iload 4, 2) := by decide +kernel
theorem d_Datum_readName_52 : decode b_Datum_readName 52 = .ok (.invokevirtual 61, 3) := by decide +kernel
theorem d_Datum_readName_55 : decode b_Datum_readName 55 = .ok (.ifCond .eq 8, 3) := by decide +kernel
theorem d_Datum_readName_58 : decode b_Datum_readName 58 = .ok (.iload 5, 2) := by decide +kernel
theorem d_Datum_readName_60 : decode b_Datum_readName 60 = .ok (.goto 4, 3) := by decide +kernel
theorem d_Datum_readName_63 : decode b_Datum_readName 63 = .ok (.iconst (-1), 1) := by decide +kernel
theorem d_Datum_readName_64 : decode b_Datum_readName 64 = .ok (.ireturn, 1) := by decide +kernel
theorem d_Datum_closeList_0 : decode b_Datum_closeList 0 = .ok (.aload_n 0, 1) := by decide +kernel
theorem d_Datum_closeList_1 : decode b_Datum_closeList 1 = .ok (.getfield 31, 3) := by decide +kernel
theorem d_Datum_closeList_4 : decode b_Datum_closeList 4 = .ok (.ifCond .ne 5, 3) := by decide +kernel
theorem d_Datum_closeList_7 : decode b_Datum_closeList 7 = .ok (.iconst 0, 1) := by decide +kernel
theorem d_Datum_closeList_8 : decode b_Datum_closeList 8 = .ok (.ireturn, 1) := by decide +kernel
theorem d_Datum_closeList_9 : decode b_Datum_closeList 9 = .ok (.aload_n 0, 1) := by decide +kernel
theorem d_Datum_closeList_10 : decode b_Datum_closeList 10 = .ok (.dup, 1) := by decide +kernel
theorem d_Datum_closeList_11 : decode b_Datum_closeList 11 = .ok (.getfield 31, 3) := by decide +kernel
theorem d_Datum_closeList_14 : decode b_Datum_closeList 14 = .ok (.iconst 1, 1) := by decide +kernel
theorem d_Datum_closeList_15 : decode b_Datum_closeList 15 = .ok (.isub, 1) := by decide +kernel
theorem d_Datum_closeList_16 : decode b_Datum_closeList 16 = .ok (.putfield 31, 3) := by decide +kernel
theorem d_Datum_closeList_19 : decode b_Datum_closeList 19 = .ok (.iconst 1, 1) := by decide +kernel
theorem d_Datum_closeList_20 : decode b_Datum_closeList 20 = .ok (.ireturn, 1) := by decide +kernel
theorem d_Datum_openList_0 : decode b_Datum_openList 0 = .ok (.aload_n 0, 1) := by decide +kernel
theorem d_Datum_openList_1 : decode b_Datum_openList 1 = .ok (.getfield 31, 3) := by decide +kernel
theorem d_Datum_openList_4 : decode b_Datum_openList 4 = .ok (.bipush 12, 2) := by decide +kernel
theorem d_Datum_openList_6 : decode b_Datum_openList 6 = .ok (.if_icmp .ge 12, 3) := by decide +kernel
theorem d_Datum_openList_9 : decode b_Datum_openList 9 = .ok (.aload_n 0, 1) := by decide +kernel
theorem d_Datum_openList_10 : decode b_Datum_openList 10 = .ok (.iconst 2, 1) := by decide +kernel
theorem d_Datum_openList_11 : decode b_Datum_openList 11 = .ok (.iconst (-1), 1) := by decide +kernel
theorem d_Datum_openList_12 : decode b_Datum_openList 12 = .ok (.invokevirtual 61, 3) := by decide +kernel
theorem d_Datum_openList_15 : decode b_Datum_openList 15 = .ok (.ifCond .ne 5, 3) := by decide +kernel
theorem d_Datum_openList_18 : decode b_Datum_openList 18 = .ok (.iconst 0, 1) := by decide +kernel
theorem d_Datum_openList_19 : decode b_Datum_openList 19 = .ok (.ireturn, 1) := by decide +kernel
theorem d_Datum_openList_20 : decode b_Datum_openList 20 = .ok (.aload_n 0, 1) := by decide +kernel
theorem d_Datum_openList_21 : decode b_Datum_openList 21 = .ok (.getfield 25, 3) := by decide +kernel
theorem d_Datum_openList_24 : decode b_Datum_openList 24 = .ok (.aload_n 0, 1) := by decide +kernel
theorem d_Datum_openList_25 : decode b_Datum_openList 25 = .ok (.getfield 31, 3) := by decide +kernel
theorem d_Datum_openList_28 : decode b_Datum_openList 28 = .ok (.aload_n 0, 1) := by decide +kernel
theorem d_Datum_openList_29 : decode b_Datum_openList 29 = .ok (.getfield 21, 3) := by decide +kernel
theorem d_Datum_openList_32 : decode b_Datum_openList 32 = .ok (.iconst 1, 1) := by decide +kernel
theorem d_Datum_openList_33 : decode b_Datum_openList 33 = .ok (.isub, 1) := by decide +kernel
theorem d_Datum_openList_34 : decode b_Datum_openList 34 = .ok (.iastore, 1) := by decide +kernel
theorem d_Datum_openList_35 : decode b_Datum_openList 35 = .ok (.aload_n 0, 1) := by decide +kernel
theorem d_Datum_openList_36 : decode b_Datum_openList 36 = .ok (.getfield 28, 3) := by decide +kernel
theorem d_Datum_openList_39 : decode b_Datum_openList 39 = .ok (.aload_n 0, 1) := by decide +kernel
theorem d_Datum_openList_40 : decode b_Datum_openList 40 = .ok (.getfield 31, 3) := by decide +kernel
theorem d_Datum_openList_43 : decode b_Datum_openList 43 = .ok (.iconst (-1), 1) := by decide +kernel
theorem d_Datum_openList_44 : decode b_Datum_openList 44 = .ok (.iastore, 1) := by decide +kernel
theorem d_Datum_openList_45 : decode b_Datum_openList 45 = .ok (.aload_n 0, 1) := by decide +kernel
theorem d_Datum_openList_46 : decode b_Datum_openList 46 = .ok (.dup, 1) := by decide +kernel
theorem d_Datum_openList_47 : decode b_Datum_openList 47 = .ok (.getfield 31, 3) := by decide +kernel
theorem d_Datum_openList_50 : decode b_Datum_openList 50 = .ok (.iconst 1, 1) := by decide +kernel
theorem d_Datum_openList_51 : decode b_Datum_openList 51 = .ok (.iadd, 1) := by decide +kernel
theorem d_Datum_openList_52 : decode b_Datum_openList 52 = .ok (.putfield 31, 3) := by decide +kernel
theorem d_Datum_openList_55 : decode b_Datum_openList 55 = .ok (.iconst 1, 1) := by decide +kernel
theorem d_Datum_openList_56 : decode b_Datum_openList 56 = .ok (.ireturn, 1) := by decide +kernel
theorem d_Datum_readOne_0 : decode b_Datum_readOne 0 = .ok (.aload_n 1, 1) := by decide +kernel
theorem d_Datum_readOne_1 : decode b_Datum_readOne 1 = .ok (.iload_n 3, 1) := by decide +kernel
theorem d_Datum_readOne_2 : decode b_Datum_readOne 2 = .ok (.caload, 1) := by decide +kernel
theorem d_Datum_readOne_3 : decode b_Datum_readOne 3 = .ok (.istore 4, 2) := by decide +kernel
theorem d_Datum_readOne_5 : decode b_Datum_readOne 5 = .ok (.iload 4, 2) := by decide +kernel
theorem d_Datum_readOne_7 : decode b_Datum_readOne 7 = .ok (.bipush 32, 2) := by decide +kernel
theorem d_Datum_readOne_9 : decode b_Datum_readOne 9 = .ok (.if_icmp .ne 7, 3) := by decide +kernel
theorem d_Datum_readOne_12 : decode b_Datum_readOne 12 = .ok (.iload_n 3, 1) := by decide +kernel
theorem d_Datum_readOne_13 : decode b_Datum_readOne 13 = .ok (.iconst 1, 1) := by decide +kernel
theorem d_Datum_readOne_14 : decode b_Datum_readOne 14 = .ok (.iadd, 1) := by decide +kernel
theorem d_Datum_readOne_15 : decode b_Datum_readOne 15 = .ok (.ireturn, 1) := by decide +kernel
theorem d_Datum_readOne_16 : decode b_Datum_readOne 16 = .ok (.iload 4, 2) := by decide +kernel
theorem d_Datum_readOne_18 : decode b_Datum_readOne 18 = .ok (.bipush 40, 2) := by decide +kernel
theorem d_Datum_readOne_20 : decode b_Datum_readOne 20 = .ok (.if_icmp .ne 18, 3) := by decide +kernel
theorem d_Datum_readOne_23 : decode b_Datum_readOne 23 = .ok (.aload_n 0, 1) := by decide +kernel
theorem d_Datum_readOne_24 : decode b_Datum_readOne 24 = .ok (.invokevirtual 44, 3) := by decide +kernel
theorem d_Datum_readOne_27 : decode b_Datum_readOne 27 = .ok (.ifCond .eq 9, 3) := by decide +kernel
theorem d_Datum_readOne_30 : decode b_Datum_readOne 30 = .ok (.iload_n 3, 1) := by decide +kernel
theorem d_Datum_readOne_31 : decode b_Datum_readOne 31 = .ok (.iconst 1, 1) := by decide +kernel
theorem d_Datum_readOne_32 : decode b_Datum_readOne 32 = .ok (.iadd, 1) := by decide +kernel
theorem d_Datum_readOne_33 : decode b_Datum_readOne 33 = .ok (.goto 4, 3) := by decide +kernel
theorem d_Datum_readOne_36 : decode b_Datum_readOne 36 = .ok (.iconst (-1), 1) := by decide +kernel
theorem d_Datum_readOne_37 : decode b_Datum_readOne 37 = .ok (.ireturn, 1) := by decide +kernel
theorem d_Datum_readOne_38 : decode b_Datum_readOne 38 = .ok (.iload 4, 2) := by decide +kernel
theorem d_Datum_readOne_40 : decode b_Datum_readOne 40 = .ok (.bipush 41, 2) := by decide +kernel
theorem d_Datum_readOne_42 : decode b_Datum_readOne 42 = .ok (.if_icmp .ne 18, 3) := by decide +kernel
theorem d_Datum_readOne_45 : decode b_Datum_readOne 45 = .ok (.aload_n 0, 1) := by decide +kernel
theorem d_Datum_readOne_46 : decode b_Datum_readOne 46 = .ok (.invokevirtual 48, 3) := by decide +kernel
theorem d_Datum_readOne_49 : decode b_Datum_readOne 49 = .ok (.ifCond .eq 9, 3) := by decide +kernel
theorem d_Datum_readOne_52 : decode b_Datum_readOne 52 = .ok (.iload_n 3, 1) := by decide +kernel
theorem d_Datum_readOne_53 : decode b_Datum_readOne 53 = .ok (.iconst 1, 1) := by decide +kernel
theorem d_Datum_readOne_54 : decode b_Datum_readOne 54 = .ok (.iadd, 1) := by decide +kernel
theorem d_Datum_readOne_55 : decode b_Datum_readOne 55 = .ok (.goto 4, 3) := by decide +kernel
theorem d_Datum_readOne_58 : decode b_Datum_readOne 58 = .ok (.iconst (-1), 1) := by decide +kernel
theorem d_Datum_readOne_59 : decode b_Datum_readOne 59 = .ok (.ireturn, 1) := by decide +kernel
theorem d_Datum_readOne_60 : decode b_Datum_readOne 60 = .ok (.iload 4, 2) := by decide +kernel
theorem d_Datum_readOne_62 : decode b_Datum_readOne 62 = .ok (.invokestatic 51, 3) := by decide +kernel
theorem d_Datum_readOne_65 : decode b_Datum_readOne 65 = .ok (.ifCond .eq 13, 3) := by decide +kernel
theorem d_Datum_readOne_68 : decode b_Datum_readOne 68 = .ok (.aload_n 0, 1) := by decide +kernel
theorem d_Datum_readOne_69 : decode b_Datum_readOne 69 = .ok (.aload_n 1, 1) := by decide +kernel
theorem d_Datum_readOne_70 : decode b_Datum_readOne 70 = .ok (.iload_n 2, 1) := by decide +kernel
theorem d_Datum_readOne_71 : decode b_Datum_readOne 71 = .ok (.iload_n 3, 1) := by decide +kernel
theorem d_Datum_readOne_72 : decode b_Datum_readOne 72 = .ok (.invokevirtual 55, 3) := by decide +kernel
theorem d_Datum_readOne_75 : decode b_Datum_readOne 75 = .ok (.goto 10, 3) := by decide +kernel
theorem d_Datum_readOne_78 : decode b_Datum_readOne 78 = .ok (.aload_n 0, 1) := by decide +kernel
theorem d_Datum_readOne_79 : decode b_Datum_readOne 79 = .ok (.aload_n 1, 1) := by decide +kernel
theorem d_Datum_readOne_80 : decode b_Datum_readOne 80 = .ok (.iload_n 2, 1) := by decide +kernel
theorem d_Datum_readOne_81 : decode b_Datum_readOne 81 = .ok (.iload_n 3, 1) := by decide +kernel
theorem d_Datum_readOne_82 : decode b_Datum_readOne 82 = .ok (.invokevirtual 58, 3) := by decide +kernel
theorem d_Datum_readOne_85 : decode b_Datum_readOne 85 = .ok (.ireturn, 1) := by decide +kernel
theorem d_Datum_read_0 : decode b_Datum_read 0 = .ok (.aload_n 0, 1) := by decide +kernel
theorem d_Datum_read_1 : decode b_Datum_read 1 = .ok (.iconst 0, 1) := by decide +kernel
theorem d_Datum_read_2 : decode b_Datum_read 2 = .ok (.putfield 21, 3) := by decide +kernel
theorem d_Datum_read_5 : decode b_Datum_read 5 = .ok (.aload_n 0, 1) := by decide +kernel
theorem d_Datum_read_6 : decode b_Datum_read 6 = .ok (.iconst 0, 1) := by decide +kernel
theorem d_Datum_read_7 : decode b_Datum_read 7 = .ok (.putfield 31, 3) := by decide +kernel
theorem d_Datum_read_10 : decode b_Datum_read 10 = .ok (.iconst 0, 1) := by decide +kernel
theorem d_Datum_read_11 : decode b_Datum_read 11 = .ok (.istore_n 3, 1) := by decide +kernel
theorem d_Datum_read_12 : decode b_Datum_read 12 = .ok (.iload_n 3, 1) := by decide +kernel
theorem d_Datum_read_13 : decode b_Datum_read 13 = .ok (.iload_n 2, 1) := by decide +kernel
theorem d_Datum_read_14 : decode b_Datum_read 14 = .ok (.if_icmp .ge 26, 3) := by decide +kernel
theorem d_Datum_read_17 : decode b_Datum_read 17 = .ok (.aload_n 0, 1) := by decide +kernel
theorem d_Datum_read_18 : decode b_Datum_read 18 = .ok (.aload_n 1, 1) := by decide +kernel
theorem d_Datum_read_19 : decode b_Datum_read 19 = .ok (.iload_n 2, 1) := by decide +kernel
theorem d_Datum_read_20 : decode b_Datum_read 20 = .ok (.iload_n 3, 1) := by decide +kernel
theorem d_Datum_read_21 : decode b_Datum_read 21 = .ok (.invokevirtual 34, 3) := by decide +kernel
theorem d_Datum_read_24 : decode b_Datum_read 24 = .ok (.istore 4, 2) := by decide +kernel
theorem d_Datum_read_26 : decode b_Datum_read 26 = .ok (.iload 4, 2) := by decide +kernel
theorem d_Datum_read_28 : decode b_Datum_read 28 = .ok (.iload_n 3, 1) := by decide +kernel
theorem d_Datum_read_29 : decode b_Datum_read 29 = .ok (.if_icmp .gt 5, 3) := by decide +kernel
theorem d_Datum_read_32 : decode b_Datum_read 32 = .ok (.iconst 0, 1) := by decide +kernel
theorem d_Datum_read_33 : decode b_Datum_read 33 = .ok (.ireturn, 1) := by decide +kernel
theorem d_Datum_read_34 : decode b_Datum_read 34 = .ok (.iload 4, 2) := by decide +kernel
theorem d_Datum_read_36 : decode b_Datum_read 36 = .ok (.istore_n 3, 1) := by decide +kernel
theorem d_Datum_read_37 : decode b_Datum_read 37 = .ok (.goto (-25), 3) := by decide +kernel
theorem d_Datum_read_40 : decode b_Datum_read 40 = .ok (.aload_n 0, 1) := by decide +kernel
theorem d_Datum_read_41 : decode b_Datum_read 41 = .ok (.getfield 21, 3) := by decide +kernel
theorem d_Datum_read_44 : decode b_Datum_read 44 = .ok (.ifCond .le 14, 3) := by decide +kernel
theorem d_Datum_read_47 : decode b_Datum_read 47 = .ok (.aload_n 0, 1) := by decide +kernel
theorem d_Datum_read_48 : decode b_Datum_read 48 = .ok (.getfield 31, 3) := by decide +kernel
theorem d_Datum_read_51 : decode b_Datum_read 51 = .ok (.ifCond .ne 7, 3) := by decide +kernel
theorem d_Datum_read_54 : decode b_Datum_read 54 = .ok (.iconst 1, 1) := by decide +kernel
theorem d_Datum_read_55 : decode b_Datum_read 55 = .ok (.goto 4, 3) := by decide +kernel
theorem d_Datum_read_58 : decode b_Datum_read 58 = .ok (.iconst 0, 1) := by decide +kernel
theorem d_Datum_read_59 : decode b_Datum_read 59 = .ok (.ireturn, 1) := by decide +kernel
theorem d_Datum_kindOf_0 : decode b_Datum_kindOf 0 = .ok (.aload_n 0, 1) := by decide +kernel
theorem d_Datum_kindOf_1 : decode b_Datum_kindOf 1 = .ok (.getfield 9, 3) := by decide +kernel
theorem d_Datum_kindOf_4 : decode b_Datum_kindOf 4 = .ok (.iload_n 1, 1) := by decide +kernel
theorem d_Datum_kindOf_5 : decode b_Datum_kindOf 5 = .ok (.iaload, 1) := by decide +kernel
theorem d_Datum_kindOf_6 : decode b_Datum_kindOf 6 = .ok (.ireturn, 1) := by decide +kernel
theorem d_Datum_firstPartOf_0 : decode b_Datum_firstPartOf 0 = .ok (.aload_n 0, 1) := by decide +kernel
theorem d_Datum_firstPartOf_1 : decode b_Datum_firstPartOf 1 = .ok (.getfield 9, 3) := by decide +kernel
theorem d_Datum_firstPartOf_4 : decode b_Datum_firstPartOf 4 = .ok (.iload_n 1, 1) := by decide +kernel
theorem d_Datum_firstPartOf_5 : decode b_Datum_firstPartOf 5 = .ok (.iaload, 1) := by decide +kernel
theorem d_Datum_firstPartOf_6 : decode b_Datum_firstPartOf 6 = .ok (.iconst 2, 1) := by decide +kernel
theorem d_Datum_firstPartOf_7 : decode b_Datum_firstPartOf 7 = .ok (.if_icmp .ne 12, 3) := by decide +kernel
theorem d_Datum_firstPartOf_10 : decode b_Datum_firstPartOf 10 = .ok (.aload_n 0, 1) := by decide +kernel
theorem d_Datum_firstPartOf_11 : decode b_Datum_firstPartOf 11 = .ok (.getfield 15, 3) := by decide +kernel
theorem d_Datum_firstPartOf_14 : decode b_Datum_firstPartOf 14 = .ok (.iload_n 1, 1) := by decide +kernel
theorem d_Datum_firstPartOf_15 : decode b_Datum_firstPartOf 15 = .ok (.iaload, 1) := by decide +kernel
theorem d_Datum_firstPartOf_16 : decode b_Datum_firstPartOf 16 = .ok (.goto 4, 3) := by decide +kernel
theorem d_Datum_firstPartOf_19 : decode b_Datum_firstPartOf 19 = .ok (.iconst (-1), 1) := by decide +kernel
theorem d_Datum_firstPartOf_20 : decode b_Datum_firstPartOf 20 = .ok (.ireturn, 1) := by decide +kernel
theorem d_Datum_valueOf_0 : decode b_Datum_valueOf 0 = .ok (.aload_n 0, 1) := by decide +kernel
theorem d_Datum_valueOf_1 : decode b_Datum_valueOf 1 = .ok (.getfield 15, 3) := by decide +kernel
theorem d_Datum_valueOf_4 : decode b_Datum_valueOf 4 = .ok (.iload_n 1, 1) := by decide +kernel
theorem d_Datum_valueOf_5 : decode b_Datum_valueOf 5 = .ok (.iaload, 1) := by decide +kernel
theorem d_Datum_valueOf_6 : decode b_Datum_valueOf 6 = .ok (.ireturn, 1) := by decide +kernel
theorem d_Datum_followerOf_0 : decode b_Datum_followerOf 0 = .ok (.aload_n 0, 1) := by decide +kernel
theorem d_Datum_followerOf_1 : decode b_Datum_followerOf 1 = .ok (.getfield 18, 3) := by decide +kernel
theorem d_Datum_followerOf_4 : decode b_Datum_followerOf 4 = .ok (.iload_n 1, 1) := by decide +kernel
theorem d_Datum_followerOf_5 : decode b_Datum_followerOf 5 = .ok (.iaload, 1) := by decide +kernel
theorem d_Datum_followerOf_6 : decode b_Datum_followerOf 6 = .ok (.ireturn, 1) := by decide +kernel
theorem d_Datum_countFrom_0 : decode b_Datum_countFrom 0 = .ok (.iconst 0, 1) := by decide +kernel
theorem d_Datum_countFrom_1 : decode b_Datum_countFrom 1 = .ok (.istore_n 2, 1) := by decide +kernel
theorem d_Datum_countFrom_2 : decode b_Datum_countFrom 2 = .ok (.iload_n 1, 1) := by decide +kernel
theorem d_Datum_countFrom_3 : decode b_Datum_countFrom 3 = .ok (.istore_n 3, 1) := by decide +kernel
theorem d_Datum_countFrom_4 : decode b_Datum_countFrom 4 = .ok (.iload_n 3, 1) := by decide +kernel
theorem d_Datum_countFrom_5 : decode b_Datum_countFrom 5 = .ok (.iconst (-1), 1) := by decide +kernel
theorem d_Datum_countFrom_6 : decode b_Datum_countFrom 6 = .ok (.if_icmp .eq 24, 3) := by decide +kernel
theorem d_Datum_countFrom_9 : decode b_Datum_countFrom 9 = .ok (.iload_n 2, 1) := by decide +kernel
theorem d_Datum_countFrom_10 : decode b_Datum_countFrom 10 = .ok (.aload_n 0, 1) := by decide +kernel
theorem d_Datum_countFrom_11 : decode b_Datum_countFrom 11 = .ok (.getfield 21, 3) := by decide +kernel
theorem d_Datum_countFrom_14 : decode b_Datum_countFrom 14 = .ok (.if_icmp .ge 16, 3) := by decide +kernel
theorem d_Datum_countFrom_17 : decode b_Datum_countFrom 17 = .ok (.iinc 2 1, 3) := by decide +kernel
theorem d_Datum_countFrom_20 : decode b_Datum_countFrom 20 = .ok (.aload_n 0, 1) := by decide +kernel
theorem d_Datum_countFrom_21 : decode b_Datum_countFrom 21 = .ok (.getfield 18, 3) := by decide +kernel
theorem d_Datum_countFrom_24 : decode b_Datum_countFrom 24 = .ok (.iload_n 3, 1) := by decide +kernel
theorem d_Datum_countFrom_25 : decode b_Datum_countFrom 25 = .ok (.iaload, 1) := by decide +kernel
theorem d_Datum_countFrom_26 : decode b_Datum_countFrom 26 = .ok (.istore_n 3, 1) := by decide +kernel
theorem d_Datum_countFrom_27 : decode b_Datum_countFrom 27 = .ok (.goto (-23), 3) := by decide +kernel
theorem d_Datum_countFrom_30 : decode b_Datum_countFrom 30 = .ok (.iload_n 2, 1) := by decide +kernel
theorem d_Datum_countFrom_31 : decode b_Datum_countFrom 31 = .ok (.ireturn, 1) := by decide +kernel
theorem d_Datum_partBehind_0 : decode b_Datum_partBehind 0 = .ok (.iload_n 1, 1) := by decide +kernel
theorem d_Datum_partBehind_1 : decode b_Datum_partBehind 1 = .ok (.istore_n 3, 1) := by decide +kernel
theorem d_Datum_partBehind_2 : decode b_Datum_partBehind 2 = .ok (.iconst 0, 1) := by decide +kernel
theorem d_Datum_partBehind_3 : decode b_Datum_partBehind 3 = .ok (.istore 4, 2) := by decide +kernel
theorem d_Datum_partBehind_5 : decode b_Datum_partBehind 5 = .ok (.iload 4, 2) := by decide +kernel
theorem d_Datum_partBehind_7 : decode b_Datum_partBehind 7 = .ok (.iload_n 2, 1) := by decide +kernel
theorem d_Datum_partBehind_8 : decode b_Datum_partBehind 8 = .ok (.if_icmp .ge 21, 3) := by decide +kernel
theorem d_Datum_partBehind_11 : decode b_Datum_partBehind 11 = .ok (.iload_n 3, 1) := by decide +kernel
theorem d_Datum_partBehind_12 : decode b_Datum_partBehind 12 = .ok (.iconst (-1), 1) := by decide +kernel
theorem d_Datum_partBehind_13 : decode b_Datum_partBehind 13 = .ok (.if_icmp .eq 16, 3) := by decide +kernel
theorem d_Datum_partBehind_16 : decode b_Datum_partBehind 16 = .ok (.aload_n 0, 1) := by decide +kernel
theorem d_Datum_partBehind_17 : decode b_Datum_partBehind 17 = .ok (.getfield 18, 3) := by decide +kernel
theorem d_Datum_partBehind_20 : decode b_Datum_partBehind 20 = .ok (.iload_n 3, 1) := by decide +kernel
theorem d_Datum_partBehind_21 : decode b_Datum_partBehind 21 = .ok (.iaload, 1) := by decide +kernel
theorem d_Datum_partBehind_22 : decode b_Datum_partBehind 22 = .ok (.istore_n 3, 1) := by decide +kernel
theorem d_Datum_partBehind_23 : decode b_Datum_partBehind 23 = .ok (.iinc 4 1, 3) := by decide +kernel
theorem d_Datum_partBehind_26 : decode b_Datum_partBehind 26 = .ok (.goto (-21), 3) := by decide +kernel
theorem d_Datum_partBehind_29 : decode b_Datum_partBehind 29 = .ok (.iload_n 3, 1) := by decide +kernel
theorem d_Datum_partBehind_30 : decode b_Datum_partBehind 30 = .ok (.ireturn, 1) := by decide +kernel
theorem d_Datum_copyFrom_0 : decode b_Datum_copyFrom 0 = .ok (.aload_n 1, 1) := by decide +kernel
theorem d_Datum_copyFrom_1 : decode b_Datum_copyFrom 1 = .ok (.getfield 9, 3) := by decide +kernel
theorem d_Datum_copyFrom_4 : decode b_Datum_copyFrom 4 = .ok (.iconst 0, 1) := by decide +kernel
theorem d_Datum_copyFrom_5 : decode b_Datum_copyFrom 5 = .ok (.aload_n 0, 1) := by decide +kernel
theorem d_Datum_copyFrom_6 : decode b_Datum_copyFrom 6 = .ok (.getfield 9, 3) := by decide +kernel
theorem d_Datum_copyFrom_9 : decode b_Datum_copyFrom 9 = .ok (.iconst 0, 1) := by decide +kernel
theorem d_Datum_copyFrom_10 : decode b_Datum_copyFrom 10 = .ok (.aload_n 1, 1) := by decide +kernel
theorem d_Datum_copyFrom_11 : decode b_Datum_copyFrom 11 = .ok (.getfield 21, 3) := by decide +kernel
theorem d_Datum_copyFrom_14 : decode b_Datum_copyFrom 14 = .ok (.invokestatic 38, 3) := by decide +kernel
theorem d_Datum_copyFrom_17 : decode b_Datum_copyFrom 17 = .ok (.aload_n 1, 1) := by decide +kernel
theorem d_Datum_copyFrom_18 : decode b_Datum_copyFrom 18 = .ok (.getfield 15, 3) := by decide +kernel
theorem d_Datum_copyFrom_21 : decode b_Datum_copyFrom 21 = .ok (.iconst 0, 1) := by decide +kernel
theorem d_Datum_copyFrom_22 : decode b_Datum_copyFrom 22 = .ok (.aload_n 0, 1) := by decide +kernel
theorem d_Datum_copyFrom_23 : decode b_Datum_copyFrom 23 = .ok (.getfield 15, 3) := by decide +kernel
theorem d_Datum_copyFrom_26 : decode b_Datum_copyFrom 26 = .ok (.iconst 0, 1) := by decide +kernel
theorem d_Datum_copyFrom_27 : decode b_Datum_copyFrom 27 = .ok (.aload_n 1, 1) := by decide +kernel
theorem d_Datum_copyFrom_28 : decode b_Datum_copyFrom 28 = .ok (.getfield 21, 3) := by decide +kernel
theorem d_Datum_copyFrom_31 : decode b_Datum_copyFrom 31 = .ok (.invokestatic 38, 3) := by decide +kernel
theorem d_Datum_copyFrom_34 : decode b_Datum_copyFrom 34 = .ok (.aload_n 1, 1) := by decide +kernel
theorem d_Datum_copyFrom_35 : decode b_Datum_copyFrom 35 = .ok (.getfield 18, 3) := by decide +kernel
theorem d_Datum_copyFrom_38 : decode b_Datum_copyFrom 38 = .ok (.iconst 0, 1) := by decide +kernel
theorem d_Datum_copyFrom_39 : decode b_Datum_copyFrom 39 = .ok (.aload_n 0, 1) := by decide +kernel
theorem d_Datum_copyFrom_40 : decode b_Datum_copyFrom 40 = .ok (.getfield 18, 3) := by decide +kernel
theorem d_Datum_copyFrom_43 : decode b_Datum_copyFrom 43 = .ok (.iconst 0, 1) := by decide +kernel
theorem d_Datum_copyFrom_44 : decode b_Datum_copyFrom 44 = .ok (.aload_n 1, 1) := by decide +kernel
theorem d_Datum_copyFrom_45 : decode b_Datum_copyFrom 45 = .ok (.getfield 21, 3) := by decide +kernel
theorem d_Datum_copyFrom_48 : decode b_Datum_copyFrom 48 = .ok (.invokestatic 38, 3) := by decide +kernel
theorem d_Datum_copyFrom_51 : decode b_Datum_copyFrom 51 = .ok (.aload_n 0, 1) := by decide +kernel
theorem d_Datum_copyFrom_52 : decode b_Datum_copyFrom 52 = .ok (.aload_n 1, 1) := by decide +kernel
theorem d_Datum_copyFrom_53 : decode b_Datum_copyFrom 53 = .ok (.getfield 21, 3) := by decide +kernel
theorem d_Datum_copyFrom_56 : decode b_Datum_copyFrom 56 = .ok (.putfield 21, 3) := by decide +kernel
theorem d_Datum_copyFrom_59 : decode b_Datum_copyFrom 59 = .ok (.return_, 1) := by decide +kernel
set_option maxHeartbeats 4000000 in
set_option maxRecDepth 100000 in
theorem c_Secd_isDigit (l : Launch) (dC : Nat → ClassId) (dI : Nat → Nat → Nat)   (sz : Nat)   (x0 : Int32) (post : Int32 → Prop) (hw : wp_Secd_isDigit  x0 post) : Met l y_Secd_isDigit (ws_ y_Secd_isDigit b_Secd_isDigit 1 (some .boolean)) { frames := 0, cells := 0, slots := 0, locals := 0 } (va_Pc [.int x0] (PRE (dC, dI) vwCl [] [] sz (va_A [] sz))) (va_Qi (fun (r : Int32) (u : Unit) => post r ) (fun (u : Unit) (t : State) => va_P (dC, dI) vwCl [] t.heap ∧ va_K (dC, dI) vwCl [] t ∧ va_D (va_A [] sz) []) (va_A [] sz)) 0 0 (va_A [] sz) := by
  refine Met.ofW (cc := b_Secd_isDigit) (maxL := 1) (ret := (some .boolean)) (by decide) rfl ?_
  intro p e s m args below meth c s₁ B hml hv
  obtain ⟨rfl, hsz, hP, hK, hD0, hG⟩ := hv
  have hx := B.exec
  have hb := B.bytes
  have hr := B.returns
  have hts : ∀ w ∈ tb, w.before _ s = true := fun w h => atoms_spec (ws := ws_ _ _ _ _) B.pre w (List.mem_cons_of_mem _ h)
  have hown : s.vm.findClass R_Secd = some m.cls := findClass_of_methodNamed B.named
  have hlocks := B.notSynchronized
  subst hsz
  have hD := hD0.self (sz := s.heap.size)
  generalize hAe : va_A [] s.heap.size = A at hD hG ⊢
  have hA : ∀ q : Nat, s.heap.size ≤ q → A q := fun q h => by rw [← hAe]; exact Or.inr h
  have hS : va_S A s.heap s.heap [] := va_S.rf
  have hP : va_P (dC, dI) vwCl [] s.heap := hP
  have hl := lv_entry [.int x0] (n := 1) (Nat.le_of_ble_eq_true rfl)
  rw [lg_entry_eq]
  generalize (lg_sl [.int x0] ++ List.replicate (1 - (lg_sl [.int x0]).length) Slot.unset).toArray = ls at hl ⊢
  have hl : lv_has ls 1 [(0, .int x0)] := hl
  obtain ⟨Q, hQ⟩ : ∃ Q : State → Prop, Q = MQ below (va_Qi (fun (r : Int32) (u : Unit) => post r ) (fun (u : Unit) (t : State) => va_P (dC, dI) vwCl [] t.heap ∧ va_K (dC, dI) vwCl [] t ∧ va_D A []) A) ([.int x0] : List Value).toArray s 0 0 A := ⟨_, rfl⟩
  rw [← hQ]
  unfold wp_Secd_isDigit at hw
  refine lv_iload_n hx hb d_Secd_isDigit_0 rfl (lv_at hl 0 rfl) ?_
  refine lv_bipush (v := 48) hx hb d_Secd_isDigit_1 (by decide) ?_
  refine lv_icmp_lt (tgt := 16) hx hb d_Secd_isDigit_3 (by decide) (fun c_1 => ?_) (fun c_1 => ?_)
  · have hw := hw.1 c_1
    refine lv_iconst (v := 0) hx hb d_Secd_isDigit_16 (by decide) ?_
    have hP9 : va_P (dC, dI) vwCl [] _ := hP
    have hD9 : va_D A [] := hD
    rw [hQ]
    exact W.zret (v := (0 : Int32)) hx hb hr rfl (fun t ht hW => ⟨⟨(0 : Int32), (), rfl, hw, by rw [ht]; exact hP9, va_K.moved hW.alike hK, hD9⟩, hS.F ht⟩) hS.2.2 d_Secd_isDigit_17
  · have hw := hw.2 c_1
    refine lv_iload_n hx hb d_Secd_isDigit_6 rfl (lv_at hl 0 rfl) ?_
    refine lv_bipush (v := 57) hx hb d_Secd_isDigit_7 (by decide) ?_
    refine lv_icmp_gt (tgt := 16) hx hb d_Secd_isDigit_9 (by decide) (fun c_2 => ?_) (fun c_2 => ?_)
    · have hw := hw.1 c_2
      refine lv_iconst (v := 0) hx hb d_Secd_isDigit_16 (by decide) ?_
      have hP9 : va_P (dC, dI) vwCl [] _ := hP
      have hD9 : va_D A [] := hD
      rw [hQ]
      exact W.zret (v := (0 : Int32)) hx hb hr rfl (fun t ht hW => ⟨⟨(0 : Int32), (), rfl, hw, by rw [ht]; exact hP9, va_K.moved hW.alike hK, hD9⟩, hS.F ht⟩) hS.2.2 d_Secd_isDigit_17
    · have hw := hw.2 c_2
      refine lv_iconst (v := 1) hx hb d_Secd_isDigit_12 (by decide) ?_
      refine lv_goto (tgt := 17) hx hb d_Secd_isDigit_13 (by decide) ?_
      have hP9 : va_P (dC, dI) vwCl [] _ := hP
      have hD9 : va_D A [] := hD
      rw [hQ]
      exact W.zret (v := (1 : Int32)) hx hb hr rfl (fun t ht hW => ⟨⟨(1 : Int32), (), rfl, hw, by rw [ht]; exact hP9, va_K.moved hW.alike hK, hD9⟩, hS.F ht⟩) hS.2.2 d_Secd_isDigit_17

set_option maxHeartbeats 4000000 in
set_option maxRecDepth 100000 in
theorem c_Secd_isLetter (l : Launch) (dC : Nat → ClassId) (dI : Nat → Nat → Nat)   (sz : Nat)   (x0 : Int32) (post : Int32 → Prop) (hw : wp_Secd_isLetter  x0 post) : Met l y_Secd_isLetter (ws_ y_Secd_isLetter b_Secd_isLetter 1 (some .boolean)) { frames := 0, cells := 0, slots := 0, locals := 0 } (va_Pc [.int x0] (PRE (dC, dI) vwCl [] [] sz (va_A [] sz))) (va_Qi (fun (r : Int32) (u : Unit) => post r ) (fun (u : Unit) (t : State) => va_P (dC, dI) vwCl [] t.heap ∧ va_K (dC, dI) vwCl [] t ∧ va_D (va_A [] sz) []) (va_A [] sz)) 0 0 (va_A [] sz) := by
  refine Met.ofW (cc := b_Secd_isLetter) (maxL := 1) (ret := (some .boolean)) (by decide) rfl ?_
  intro p e s m args below meth c s₁ B hml hv
  obtain ⟨rfl, hsz, hP, hK, hD0, hG⟩ := hv
  have hx := B.exec
  have hb := B.bytes
  have hr := B.returns
  have hts : ∀ w ∈ tb, w.before _ s = true := fun w h => atoms_spec (ws := ws_ _ _ _ _) B.pre w (List.mem_cons_of_mem _ h)
  have hown : s.vm.findClass R_Secd = some m.cls := findClass_of_methodNamed B.named
  have hlocks := B.notSynchronized
  subst hsz
  have hD := hD0.self (sz := s.heap.size)
  generalize hAe : va_A [] s.heap.size = A at hD hG ⊢
  have hA : ∀ q : Nat, s.heap.size ≤ q → A q := fun q h => by rw [← hAe]; exact Or.inr h
  have hS : va_S A s.heap s.heap [] := va_S.rf
  have hP : va_P (dC, dI) vwCl [] s.heap := hP
  have hl := lv_entry [.int x0] (n := 1) (Nat.le_of_ble_eq_true rfl)
  rw [lg_entry_eq]
  generalize (lg_sl [.int x0] ++ List.replicate (1 - (lg_sl [.int x0]).length) Slot.unset).toArray = ls at hl ⊢
  have hl : lv_has ls 1 [(0, .int x0)] := hl
  obtain ⟨Q, hQ⟩ : ∃ Q : State → Prop, Q = MQ below (va_Qi (fun (r : Int32) (u : Unit) => post r ) (fun (u : Unit) (t : State) => va_P (dC, dI) vwCl [] t.heap ∧ va_K (dC, dI) vwCl [] t ∧ va_D A []) A) ([.int x0] : List Value).toArray s 0 0 A := ⟨_, rfl⟩
  rw [← hQ]
  unfold wp_Secd_isLetter at hw
  refine lv_iload_n hx hb d_Secd_isLetter_0 rfl (lv_at hl 0 rfl) ?_
  refine lv_bipush (v := 97) hx hb d_Secd_isLetter_1 (by decide) ?_
  refine lv_icmp_lt (tgt := 16) hx hb d_Secd_isLetter_3 (by decide) (fun c_1 => ?_) (fun c_1 => ?_)
  · have hw := hw.1 c_1
    refine lv_iconst (v := 0) hx hb d_Secd_isLetter_16 (by decide) ?_
    have hP9 : va_P (dC, dI) vwCl [] _ := hP
    have hD9 : va_D A [] := hD
    rw [hQ]
    exact W.zret (v := (0 : Int32)) hx hb hr rfl (fun t ht hW => ⟨⟨(0 : Int32), (), rfl, hw, by rw [ht]; exact hP9, va_K.moved hW.alike hK, hD9⟩, hS.F ht⟩) hS.2.2 d_Secd_isLetter_17
  · have hw := hw.2 c_1
    refine lv_iload_n hx hb d_Secd_isLetter_6 rfl (lv_at hl 0 rfl) ?_
    refine lv_bipush (v := 122) hx hb d_Secd_isLetter_7 (by decide) ?_
    refine lv_icmp_gt (tgt := 16) hx hb d_Secd_isLetter_9 (by decide) (fun c_2 => ?_) (fun c_2 => ?_)
    · have hw := hw.1 c_2
      refine lv_iconst (v := 0) hx hb d_Secd_isLetter_16 (by decide) ?_
      have hP9 : va_P (dC, dI) vwCl [] _ := hP
      have hD9 : va_D A [] := hD
      rw [hQ]
      exact W.zret (v := (0 : Int32)) hx hb hr rfl (fun t ht hW => ⟨⟨(0 : Int32), (), rfl, hw, by rw [ht]; exact hP9, va_K.moved hW.alike hK, hD9⟩, hS.F ht⟩) hS.2.2 d_Secd_isLetter_17
    · have hw := hw.2 c_2
      refine lv_iconst (v := 1) hx hb d_Secd_isLetter_12 (by decide) ?_
      refine lv_goto (tgt := 17) hx hb d_Secd_isLetter_13 (by decide) ?_
      have hP9 : va_P (dC, dI) vwCl [] _ := hP
      have hD9 : va_D A [] := hD
      rw [hQ]
      exact W.zret (v := (1 : Int32)) hx hb hr rfl (fun t ht hW => ⟨⟨(1 : Int32), (), rfl, hw, by rw [ht]; exact hP9, va_K.moved hW.alike hK, hD9⟩, hS.F ht⟩) hS.2.2 d_Secd_isLetter_17

set_option maxHeartbeats 4000000 in
set_option maxRecDepth 100000 in
theorem c_Secd_isTextCharacter (l : Launch) (dC : Nat → ClassId) (dI : Nat → Nat → Nat)   (sz : Nat)   (x0 : Int32) (post : Int32 → Prop) (hw : wp_Secd_isTextCharacter  x0 post) : Met l y_Secd_isTextCharacter (ws_ y_Secd_isTextCharacter b_Secd_isTextCharacter 1 (some .boolean)) { frames := 1, cells := 0, slots := 0, locals := 20 } (va_Pc [.int x0] (PRE (dC, dI) vwCl [] [] sz (va_A [] sz))) (va_Qi (fun (r : Int32) (u : Unit) => post r ) (fun (u : Unit) (t : State) => va_P (dC, dI) vwCl [] t.heap ∧ va_K (dC, dI) vwCl [] t ∧ va_D (va_A [] sz) []) (va_A [] sz)) 0 0 (va_A [] sz) := by
  refine Met.ofW (cc := b_Secd_isTextCharacter) (maxL := 1) (ret := (some .boolean)) (by decide) rfl ?_
  intro p e s m args below meth c s₁ B hml hv
  obtain ⟨rfl, hsz, hP, hK, hD0, hG⟩ := hv
  have hx := B.exec
  have hb := B.bytes
  have hr := B.returns
  have hts : ∀ w ∈ tb, w.before _ s = true := fun w h => atoms_spec (ws := ws_ _ _ _ _) B.pre w (List.mem_cons_of_mem _ h)
  have hown : s.vm.findClass R_Secd = some m.cls := findClass_of_methodNamed B.named
  have hlocks := B.notSynchronized
  subst hsz
  have hD := hD0.self (sz := s.heap.size)
  generalize hAe : va_A [] s.heap.size = A at hD hG ⊢
  have hA : ∀ q : Nat, s.heap.size ≤ q → A q := fun q h => by rw [← hAe]; exact Or.inr h
  have hS : va_S A s.heap s.heap [] := va_S.rf
  have hP : va_P (dC, dI) vwCl [] s.heap := hP
  have hl := lv_entry [.int x0] (n := 1) (Nat.le_of_ble_eq_true rfl)
  rw [lg_entry_eq]
  generalize (lg_sl [.int x0] ++ List.replicate (1 - (lg_sl [.int x0]).length) Slot.unset).toArray = ls at hl ⊢
  have hl : lv_has ls 1 [(0, .int x0)] := hl
  obtain ⟨Q, hQ⟩ : ∃ Q : State → Prop, Q = MQ below (va_Qi (fun (r : Int32) (u : Unit) => post r ) (fun (u : Unit) (t : State) => va_P (dC, dI) vwCl [] t.heap ∧ va_K (dC, dI) vwCl [] t ∧ va_D A []) A) ([.int x0] : List Value).toArray s 0 0 A := ⟨_, rfl⟩
  rw [← hQ]
  unfold wp_Secd_isTextCharacter at hw
  refine lv_iload_n hx hb d_Secd_isTextCharacter_0 rfl (lv_at hl 0 rfl) ?_
  refine lv_bipush (v := 32) hx hb d_Secd_isTextCharacter_1 (by decide) ?_
  refine lv_icmp_eq (tgt := 38) hx hb d_Secd_isTextCharacter_3 (by decide) (fun c_1 => ?_) (fun c_1 => ?_)
  · have hw := hw.1 c_1
    refine lv_iconst (v := 1) hx hb d_Secd_isTextCharacter_38 (by decide) ?_
    refine lv_goto (tgt := 43) hx hb d_Secd_isTextCharacter_39 (by decide) ?_
    have hP9 : va_P (dC, dI) vwCl [] _ := hP
    have hD9 : va_D A [] := hD
    rw [hQ]
    exact W.zret (v := (1 : Int32)) hx hb hr rfl (fun t ht hW => ⟨⟨(1 : Int32), (), rfl, hw, by rw [ht]; exact hP9, va_K.moved hW.alike hK, hD9⟩, hS.F ht⟩) hS.2.2 d_Secd_isTextCharacter_43
  · have hw := hw.2 c_1
    refine lv_iload_n hx hb d_Secd_isTextCharacter_6 rfl (lv_at hl 0 rfl) ?_
    refine lv_bipush (v := 40) hx hb d_Secd_isTextCharacter_7 (by decide) ?_
    refine lv_icmp_eq (tgt := 38) hx hb d_Secd_isTextCharacter_9 (by decide) (fun c_2 => ?_) (fun c_2 => ?_)
    · have hw := hw.1 c_2
      refine lv_iconst (v := 1) hx hb d_Secd_isTextCharacter_38 (by decide) ?_
      refine lv_goto (tgt := 43) hx hb d_Secd_isTextCharacter_39 (by decide) ?_
      have hP9 : va_P (dC, dI) vwCl [] _ := hP
      have hD9 : va_D A [] := hD
      rw [hQ]
      exact W.zret (v := (1 : Int32)) hx hb hr rfl (fun t ht hW => ⟨⟨(1 : Int32), (), rfl, hw, by rw [ht]; exact hP9, va_K.moved hW.alike hK, hD9⟩, hS.F ht⟩) hS.2.2 d_Secd_isTextCharacter_43
    · have hw := hw.2 c_2
      refine lv_iload_n hx hb d_Secd_isTextCharacter_12 rfl (lv_at hl 0 rfl) ?_
      refine lv_bipush (v := 41) hx hb d_Secd_isTextCharacter_13 (by decide) ?_
      refine lv_icmp_eq (tgt := 38) hx hb d_Secd_isTextCharacter_15 (by decide) (fun c_3 => ?_) (fun c_3 => ?_)
      · have hw := hw.1 c_3
        refine lv_iconst (v := 1) hx hb d_Secd_isTextCharacter_38 (by decide) ?_
        refine lv_goto (tgt := 43) hx hb d_Secd_isTextCharacter_39 (by decide) ?_
        have hP9 : va_P (dC, dI) vwCl [] _ := hP
        have hD9 : va_D A [] := hD
        rw [hQ]
        exact W.zret (v := (1 : Int32)) hx hb hr rfl (fun t ht hW => ⟨⟨(1 : Int32), (), rfl, hw, by rw [ht]; exact hP9, va_K.moved hW.alike hK, hD9⟩, hS.F ht⟩) hS.2.2 d_Secd_isTextCharacter_43
      · have hw := hw.2 c_3
        refine lv_iload_n hx hb d_Secd_isTextCharacter_18 rfl (lv_at hl 0 rfl) ?_
        refine lv_bipush (v := 45) hx hb d_Secd_isTextCharacter_19 (by decide) ?_
        refine lv_icmp_eq (tgt := 38) hx hb d_Secd_isTextCharacter_21 (by decide) (fun c_4 => ?_) (fun c_4 => ?_)
        · have hw := hw.1 c_4
          refine lv_iconst (v := 1) hx hb d_Secd_isTextCharacter_38 (by decide) ?_
          refine lv_goto (tgt := 43) hx hb d_Secd_isTextCharacter_39 (by decide) ?_
          have hP9 : va_P (dC, dI) vwCl [] _ := hP
          have hD9 : va_D A [] := hD
          rw [hQ]
          exact W.zret (v := (1 : Int32)) hx hb hr rfl (fun t ht hW => ⟨⟨(1 : Int32), (), rfl, hw, by rw [ht]; exact hP9, va_K.moved hW.alike hK, hD9⟩, hS.F ht⟩) hS.2.2 d_Secd_isTextCharacter_43
        · have hw := hw.2 c_4
          refine lv_iload_n hx hb d_Secd_isTextCharacter_24 rfl (lv_at hl 0 rfl) ?_
          have hPc := hP.sub (ws' := []) [] rfl
          have hDc := hD.sub (ws' := []) [] (by decide) rfl
          have hKc := hK.sub (tys' := []) [] rfl
          have hFc := va_free (wc := []) hD hS hA [] rfl
          refine va_calli (va_runS (As := [.int x0]) (rest := []) ⟨hx, hb, hml, hown, hts⟩ (c_Secd_isDigit l dC dI s.heap.size x0 _ hw) (va_cwS 1 hts (gd_S kt_341 kt_342 kt_1 kt_343) rfl rfl rfl (by decide +kernel) ⟨Nat.le_of_ble_eq_true rfl, Nat.le_of_ble_eq_true rfl⟩) ⟨pre_blind, pre_ok hPc hKc hDc hG hS hFc⟩ rfl rfl hl.1 rfl (lv_room (Nat.le_of_ble_eq_true rfl)) d_Secd_isTextCharacter_25 ⟨Nat.zero_le _, Nat.zero_le _⟩) hS (fun q _ h => hFc q h) hFc (fun r_5 u t H1 locs ht hvm hw hB hz1 hk1 hS => ?_)
          obtain ⟨hP1, hK1, hD1⟩ := hB
          rw [ht] at hP1
          try dsimp only at hw
          obtain ⟨hP, hD⟩ := va_join (wr := []) (w1 := []) hP hD [] [] rfl rfl (by decide) (by decide) hk1 hFc hP1 hD1
          generalize H1 = H at hP hS ⊢
          have hP : va_P (dC, dI) vwCl [] H := hP
          have hD : va_D A [] := hD
          refine lv_if_ne (tgt := 38) hx hb d_Secd_isTextCharacter_28 (by decide) (fun c_6 => ?_) (fun c_6 => ?_)
          · have hw := hw.2 c_6
            refine lv_iconst (v := 1) hx hb d_Secd_isTextCharacter_38 (by decide) ?_
            refine lv_goto (tgt := 43) hx hb d_Secd_isTextCharacter_39 (by decide) ?_
            have hP9 : va_P (dC, dI) vwCl [] _ := hP
            have hD9 : va_D A [] := hD
            rw [hQ]
            exact W.zret (v := (1 : Int32)) hx hb hr rfl (fun t ht hW => ⟨⟨(1 : Int32), (), rfl, hw, by rw [ht]; exact hP9, va_K.moved hW.alike hK, hD9⟩, hS.F ht⟩) hS.2.2 d_Secd_isTextCharacter_43
          · have hw := hw.1 c_6
            refine lv_iload_n hx hb d_Secd_isTextCharacter_31 rfl (lv_at hl 0 rfl) ?_
            have hPc := hP.sub (ws' := []) [] rfl
            have hDc := hD.sub (ws' := []) [] (by decide) rfl
            have hKc := hK.sub (tys' := []) [] rfl
            have hFc := va_free (wc := []) hD hS hA [] rfl
            refine va_calli (va_runS (As := [.int x0]) (rest := []) ⟨hx, hb, hml, hown, hts⟩ (c_Secd_isLetter l dC dI H.size x0 _ hw) (va_cwS 1 hts (gd_S kt_344 kt_345 kt_1 kt_346) rfl rfl rfl (by decide +kernel) ⟨Nat.le_of_ble_eq_true rfl, Nat.le_of_ble_eq_true rfl⟩) ⟨pre_blind, pre_ok hPc hKc hDc hG hS hFc⟩ rfl rfl hl.1 rfl (lv_room (Nat.le_of_ble_eq_true rfl)) d_Secd_isTextCharacter_32 ⟨Nat.zero_le _, Nat.zero_le _⟩) hS (fun q _ h => hFc q h) hFc (fun r_7 u t H1 locs ht hvm hw hB hz1 hk1 hS => ?_)
            obtain ⟨hP1, hK1, hD1⟩ := hB
            rw [ht] at hP1
            try dsimp only at hw
            obtain ⟨hP, hD⟩ := va_join (wr := []) (w1 := []) hP hD [] [] rfl rfl (by decide) (by decide) hk1 hFc hP1 hD1
            generalize H1 = H at hP hS ⊢
            have hP : va_P (dC, dI) vwCl [] H := hP
            have hD : va_D A [] := hD
            refine lv_if_eq (tgt := 42) hx hb d_Secd_isTextCharacter_35 (by decide) (fun c_8 => ?_) (fun c_8 => ?_)
            · have hw := hw.1 c_8
              refine lv_iconst (v := 0) hx hb d_Secd_isTextCharacter_42 (by decide) ?_
              have hP9 : va_P (dC, dI) vwCl [] _ := hP
              have hD9 : va_D A [] := hD
              rw [hQ]
              exact W.zret (v := (0 : Int32)) hx hb hr rfl (fun t ht hW => ⟨⟨(0 : Int32), (), rfl, hw, by rw [ht]; exact hP9, va_K.moved hW.alike hK, hD9⟩, hS.F ht⟩) hS.2.2 d_Secd_isTextCharacter_43
            · have hw := hw.2 c_8
              refine lv_iconst (v := 1) hx hb d_Secd_isTextCharacter_38 (by decide) ?_
              refine lv_goto (tgt := 43) hx hb d_Secd_isTextCharacter_39 (by decide) ?_
              have hP9 : va_P (dC, dI) vwCl [] _ := hP
              have hD9 : va_D A [] := hD
              rw [hQ]
              exact W.zret (v := (1 : Int32)) hx hb hr rfl (fun t ht hW => ⟨⟨(1 : Int32), (), rfl, hw, by rw [ht]; exact hP9, va_K.moved hW.alike hK, hD9⟩, hS.F ht⟩) hS.2.2 d_Secd_isTextCharacter_43

set_option maxHeartbeats 4000000 in
set_option maxRecDepth 100000 in
theorem c_Datum_addPart (l : Launch) (dC : Nat → ClassId) (dI : Nat → Nat → Nat) (h_this : Nat) (h_followers : Nat) (h_lastParts : Nat) (h_openLists : Nat) (h_values : Nat) (h_kinds : Nat) (c_followers : ClassId) (c_lastParts : ClassId) (c_openLists : ClassId) (c_values : ClassId) (sz : Nat)  (i_count : Int32) (i_openCount : Int32) (f_followers : Nat → Int32) (f_lastParts : Nat → Int32) (f_openLists : Nat → Int32) (f_values : Nat → Int32) (x1 : Int32) (x2 : Int32) (post : (Nat → Int32) → (Nat → Int32) → (Nat → Int32) → Prop) (hw : wp_Datum_addPart f_followers f_lastParts f_openLists f_values x1 x2 post) : Met l y_Datum_addPart (ws_ y_Datum_addPart b_Datum_addPart 3 none) { frames := 0, cells := 0, slots := 0, locals := 0 } (va_Pc [.ref h_this, .int x1, .int x2] (PRE (dC, dI) vwCl [(c_followers, .int), (c_lastParts, .int), (c_openLists, .int), (c_values, .int)] [ob_Datum h_this h_kinds h_values h_followers i_count h_openLists h_lastParts i_openCount, ar_ h_followers c_followers 200 f_followers, ar_ h_lastParts c_lastParts 12 f_lastParts, ar_ h_openLists c_openLists 12 f_openLists, ar_ h_values c_values 200 f_values] sz (va_A [ob_Datum h_this h_kinds h_values h_followers i_count h_openLists h_lastParts i_openCount, ar_ h_followers c_followers 200 f_followers, ar_ h_lastParts c_lastParts 12 f_lastParts, ar_ h_openLists c_openLists 12 f_openLists, ar_ h_values c_values 200 f_values] sz))) (va_Qv (fun (u : (Nat → Int32) × (Nat → Int32) × (Nat → Int32)) => post u.1 u.2.1 u.2.2) (fun (u : (Nat → Int32) × (Nat → Int32) × (Nat → Int32)) (t : State) => va_P (dC, dI) vwCl [ob_Datum h_this h_kinds h_values h_followers i_count h_openLists h_lastParts i_openCount, ar_ h_followers c_followers 200 u.1, ar_ h_lastParts c_lastParts 12 u.2.1, ar_ h_openLists c_openLists 12 f_openLists, ar_ h_values c_values 200 u.2.2] t.heap ∧ va_K (dC, dI) vwCl [(c_followers, .int), (c_lastParts, .int), (c_openLists, .int), (c_values, .int)] t ∧ va_D (va_A [ob_Datum h_this h_kinds h_values h_followers i_count h_openLists h_lastParts i_openCount, ar_ h_followers c_followers 200 f_followers, ar_ h_lastParts c_lastParts 12 f_lastParts, ar_ h_openLists c_openLists 12 f_openLists, ar_ h_values c_values 200 f_values] sz) [ob_Datum h_this h_kinds h_values h_followers i_count h_openLists h_lastParts i_openCount, ar_ h_followers c_followers 200 u.1, ar_ h_lastParts c_lastParts 12 u.2.1, ar_ h_openLists c_openLists 12 f_openLists, ar_ h_values c_values 200 u.2.2]) (va_A [ob_Datum h_this h_kinds h_values h_followers i_count h_openLists h_lastParts i_openCount, ar_ h_followers c_followers 200 f_followers, ar_ h_lastParts c_lastParts 12 f_lastParts, ar_ h_openLists c_openLists 12 f_openLists, ar_ h_values c_values 200 f_values] sz)) 0 0 (va_A [ob_Datum h_this h_kinds h_values h_followers i_count h_openLists h_lastParts i_openCount, ar_ h_followers c_followers 200 f_followers, ar_ h_lastParts c_lastParts 12 f_lastParts, ar_ h_openLists c_openLists 12 f_openLists, ar_ h_values c_values 200 f_values] sz) := by
  refine Met.ofW (cc := b_Datum_addPart) (maxL := 3) (ret := none) (by decide) rfl ?_
  intro p e s m args below meth c s₁ B hml hv
  obtain ⟨rfl, hsz, hP, hK, hD0, hG⟩ := hv
  have hx := B.exec
  have hb := B.bytes
  have hr := B.returns
  have hts : ∀ w ∈ tb, w.before _ s = true := fun w h => atoms_spec (ws := ws_ _ _ _ _) B.pre w (List.mem_cons_of_mem _ h)
  have hown : s.vm.findClass R_Datum = some m.cls := findClass_of_methodNamed B.named
  have hlocks := B.notSynchronized
  subst hsz
  have hD := hD0.self (sz := s.heap.size)
  generalize hAe : va_A [ob_Datum h_this h_kinds h_values h_followers i_count h_openLists h_lastParts i_openCount, ar_ h_followers c_followers 200 f_followers, ar_ h_lastParts c_lastParts 12 f_lastParts, ar_ h_openLists c_openLists 12 f_openLists, ar_ h_values c_values 200 f_values] s.heap.size = A at hD hG ⊢
  have hA : ∀ q : Nat, s.heap.size ≤ q → A q := fun q h => by rw [← hAe]; exact Or.inr h
  have hS : va_S A s.heap s.heap [] := va_S.rf
  have hP : va_P (dC, dI) vwCl [ob_Datum h_this h_kinds h_values h_followers i_count h_openLists h_lastParts i_openCount, ar_ h_followers c_followers 200 f_followers, ar_ h_lastParts c_lastParts 12 f_lastParts, ar_ h_openLists c_openLists 12 f_openLists, ar_ h_values c_values 200 f_values] s.heap := hP
  have hl := lv_entry [.ref h_this, .int x1, .int x2] (n := 3) (Nat.le_of_ble_eq_true rfl)
  rw [lg_entry_eq]
  generalize (lg_sl [.ref h_this, .int x1, .int x2] ++ List.replicate (3 - (lg_sl [.ref h_this, .int x1, .int x2]).length) Slot.unset).toArray = ls at hl ⊢
  have hl : lv_has ls 3 [(0, .ref h_this), (1, .int x1), (2, .int x2)] := hl
  obtain ⟨Q, hQ⟩ : ∃ Q : State → Prop, Q = MQ below (va_Qv (fun (u : (Nat → Int32) × (Nat → Int32) × (Nat → Int32)) => post u.1 u.2.1 u.2.2) (fun (u : (Nat → Int32) × (Nat → Int32) × (Nat → Int32)) (t : State) => va_P (dC, dI) vwCl [ob_Datum h_this h_kinds h_values h_followers i_count h_openLists h_lastParts i_openCount, ar_ h_followers c_followers 200 u.1, ar_ h_lastParts c_lastParts 12 u.2.1, ar_ h_openLists c_openLists 12 f_openLists, ar_ h_values c_values 200 u.2.2] t.heap ∧ va_K (dC, dI) vwCl [(c_followers, .int), (c_lastParts, .int), (c_openLists, .int), (c_values, .int)] t ∧ va_D A [ob_Datum h_this h_kinds h_values h_followers i_count h_openLists h_lastParts i_openCount, ar_ h_followers c_followers 200 u.1, ar_ h_lastParts c_lastParts 12 u.2.1, ar_ h_openLists c_openLists 12 f_openLists, ar_ h_values c_values 200 u.2.2]) A) ([.ref h_this, .int x1, .int x2] : List Value).toArray s 0 0 A := ⟨_, rfl⟩
  rw [← hQ]
  unfold wp_Datum_addPart at hw
  refine lv_aload_n hx hb d_Datum_addPart_0 rfl (lv_at hl 0 rfl) ?_
  refine va_get (D := (dC, dI)) (ci := 1) (v := .ref h_lastParts) (C := R_Datum) (T := T_Datum) (N := 7) hx hb hts in_Datum hown hK hP 0 rfl rfl 5 (by decide) (hts _ kt_41) (fun _ h9 => h9) rfl d_Datum_addPart_1 ?_
  refine lv_iload_n hx hb d_Datum_addPart_4 rfl (lv_at hl 1 rfl) ?_
  obtain ⟨h_1, hw⟩ := hw
  refine va_iald hx hb hK hP 2 1 rfl rfl h_1 d_Datum_addPart_5 ?_
  refine lv_iconst (v := (-1)) hx hb d_Datum_addPart_6 (by decide) ?_
  refine lv_icmp_ne (tgt := 25) hx hb d_Datum_addPart_7 (by decide) (fun c_2 => ?_) (fun c_2 => ?_)
  · have hw := hw.2 c_2
    refine lv_aload_n hx hb d_Datum_addPart_25 rfl (lv_at hl 0 rfl) ?_
    refine va_get (D := (dC, dI)) (ci := 1) (v := .ref h_followers) (C := R_Datum) (T := T_Datum) (N := 7) hx hb hts in_Datum hown hK hP 0 rfl rfl 2 (by decide) (hts _ kt_38) (fun _ h9 => h9) rfl d_Datum_addPart_26 ?_
    refine lv_aload_n hx hb d_Datum_addPart_29 rfl (lv_at hl 0 rfl) ?_
    refine va_get (D := (dC, dI)) (ci := 1) (v := .ref h_lastParts) (C := R_Datum) (T := T_Datum) (N := 7) hx hb hts in_Datum hown hK hP 0 rfl rfl 5 (by decide) (hts _ kt_41) (fun _ h9 => h9) rfl d_Datum_addPart_30 ?_
    refine lv_iload_n hx hb d_Datum_addPart_33 rfl (lv_at hl 1 rfl) ?_
    obtain ⟨h_3, hw⟩ := hw
    refine va_iald hx hb hK hP 2 1 rfl rfl h_3 d_Datum_addPart_34 ?_
    refine lv_iload_n hx hb d_Datum_addPart_35 rfl (lv_at hl 2 rfl) ?_
    obtain ⟨h_4, hw⟩ := hw
    refine va_iast hx hb hK hP hD hS 1 0 rfl rfl h_4 d_Datum_addPart_36 (fun H locs hP hD hS => ?_)
    have hP : va_P (dC, dI) vwCl [ob_Datum h_this h_kinds h_values h_followers i_count h_openLists h_lastParts i_openCount, ar_ h_followers c_followers 200 (upd f_followers (f_lastParts x1.toNatClampNeg).toNatClampNeg x2), ar_ h_lastParts c_lastParts 12 f_lastParts, ar_ h_openLists c_openLists 12 f_openLists, ar_ h_values c_values 200 f_values] H := hP
    have hD : va_D A [ob_Datum h_this h_kinds h_values h_followers i_count h_openLists h_lastParts i_openCount, ar_ h_followers c_followers 200 (upd f_followers (f_lastParts x1.toNatClampNeg).toNatClampNeg x2), ar_ h_lastParts c_lastParts 12 f_lastParts, ar_ h_openLists c_openLists 12 f_openLists, ar_ h_values c_values 200 f_values] := hD
    refine lv_aload_n hx hb d_Datum_addPart_37 rfl (lv_at hl 0 rfl) ?_
    refine va_get (D := (dC, dI)) (ci := 1) (v := .ref h_lastParts) (C := R_Datum) (T := T_Datum) (N := 7) hx hb hts in_Datum hown hK hP 0 rfl rfl 5 (by decide) (hts _ kt_41) (fun _ h9 => h9) rfl d_Datum_addPart_38 ?_
    refine lv_iload_n hx hb d_Datum_addPart_41 rfl (lv_at hl 1 rfl) ?_
    refine lv_iload_n hx hb d_Datum_addPart_42 rfl (lv_at hl 2 rfl) ?_
    obtain ⟨h_5, hw⟩ := hw
    refine va_iast hx hb hK hP hD hS 2 1 rfl rfl h_5 d_Datum_addPart_43 (fun H locs hP hD hS => ?_)
    have hP : va_P (dC, dI) vwCl [ob_Datum h_this h_kinds h_values h_followers i_count h_openLists h_lastParts i_openCount, ar_ h_followers c_followers 200 (upd f_followers (f_lastParts x1.toNatClampNeg).toNatClampNeg x2), ar_ h_lastParts c_lastParts 12 (upd f_lastParts x1.toNatClampNeg x2), ar_ h_openLists c_openLists 12 f_openLists, ar_ h_values c_values 200 f_values] H := hP
    have hD : va_D A [ob_Datum h_this h_kinds h_values h_followers i_count h_openLists h_lastParts i_openCount, ar_ h_followers c_followers 200 (upd f_followers (f_lastParts x1.toNatClampNeg).toNatClampNeg x2), ar_ h_lastParts c_lastParts 12 (upd f_lastParts x1.toNatClampNeg x2), ar_ h_openLists c_openLists 12 f_openLists, ar_ h_values c_values 200 f_values] := hD
    have hP9 : va_P (dC, dI) vwCl [ob_Datum h_this h_kinds h_values h_followers i_count h_openLists h_lastParts i_openCount, ar_ h_followers c_followers 200 (upd f_followers (f_lastParts x1.toNatClampNeg).toNatClampNeg x2), ar_ h_lastParts c_lastParts 12 (upd f_lastParts x1.toNatClampNeg x2), ar_ h_openLists c_openLists 12 f_openLists, ar_ h_values c_values 200 f_values] _ := hP
    have hD9 : va_D A [ob_Datum h_this h_kinds h_values h_followers i_count h_openLists h_lastParts i_openCount, ar_ h_followers c_followers 200 (upd f_followers (f_lastParts x1.toNatClampNeg).toNatClampNeg x2), ar_ h_lastParts c_lastParts 12 (upd f_lastParts x1.toNatClampNeg x2), ar_ h_openLists c_openLists 12 f_openLists, ar_ h_values c_values 200 f_values] := hD
    rw [hQ]
    exact W.vret hx hb hr (fun t ht hW => ⟨⟨(upd f_followers (f_lastParts x1.toNatClampNeg).toNatClampNeg x2, upd f_lastParts x1.toNatClampNeg x2, f_values), rfl, hw, by rw [ht]; exact hP9, va_K.moved hW.alike hK, hD9⟩, hS.F ht⟩) hS.2.2 d_Datum_addPart_44
  · have hw := hw.1 c_2
    refine lv_aload_n hx hb d_Datum_addPart_10 rfl (lv_at hl 0 rfl) ?_
    refine va_get (D := (dC, dI)) (ci := 1) (v := .ref h_values) (C := R_Datum) (T := T_Datum) (N := 7) hx hb hts in_Datum hown hK hP 0 rfl rfl 1 (by decide) (hts _ kt_37) (fun _ h9 => h9) rfl d_Datum_addPart_11 ?_
    refine lv_aload_n hx hb d_Datum_addPart_14 rfl (lv_at hl 0 rfl) ?_
    refine va_get (D := (dC, dI)) (ci := 1) (v := .ref h_openLists) (C := R_Datum) (T := T_Datum) (N := 7) hx hb hts in_Datum hown hK hP 0 rfl rfl 4 (by decide) (hts _ kt_40) (fun _ h9 => h9) rfl d_Datum_addPart_15 ?_
    refine lv_iload_n hx hb d_Datum_addPart_18 rfl (lv_at hl 1 rfl) ?_
    obtain ⟨h_6, hw⟩ := hw
    refine va_iald hx hb hK hP 3 2 rfl rfl h_6 d_Datum_addPart_19 ?_
    refine lv_iload_n hx hb d_Datum_addPart_20 rfl (lv_at hl 2 rfl) ?_
    obtain ⟨h_7, hw⟩ := hw
    refine va_iast hx hb hK hP hD hS 4 3 rfl rfl h_7 d_Datum_addPart_21 (fun H locs hP hD hS => ?_)
    have hP : va_P (dC, dI) vwCl [ob_Datum h_this h_kinds h_values h_followers i_count h_openLists h_lastParts i_openCount, ar_ h_followers c_followers 200 f_followers, ar_ h_lastParts c_lastParts 12 f_lastParts, ar_ h_openLists c_openLists 12 f_openLists, ar_ h_values c_values 200 (upd f_values (f_openLists x1.toNatClampNeg).toNatClampNeg x2)] H := hP
    have hD : va_D A [ob_Datum h_this h_kinds h_values h_followers i_count h_openLists h_lastParts i_openCount, ar_ h_followers c_followers 200 f_followers, ar_ h_lastParts c_lastParts 12 f_lastParts, ar_ h_openLists c_openLists 12 f_openLists, ar_ h_values c_values 200 (upd f_values (f_openLists x1.toNatClampNeg).toNatClampNeg x2)] := hD
    refine lv_goto (tgt := 37) hx hb d_Datum_addPart_22 (by decide) ?_
    refine lv_aload_n hx hb d_Datum_addPart_37 rfl (lv_at hl 0 rfl) ?_
    refine va_get (D := (dC, dI)) (ci := 1) (v := .ref h_lastParts) (C := R_Datum) (T := T_Datum) (N := 7) hx hb hts in_Datum hown hK hP 0 rfl rfl 5 (by decide) (hts _ kt_41) (fun _ h9 => h9) rfl d_Datum_addPart_38 ?_
    refine lv_iload_n hx hb d_Datum_addPart_41 rfl (lv_at hl 1 rfl) ?_
    refine lv_iload_n hx hb d_Datum_addPart_42 rfl (lv_at hl 2 rfl) ?_
    obtain ⟨h_8, hw⟩ := hw
    refine va_iast hx hb hK hP hD hS 2 1 rfl rfl h_8 d_Datum_addPart_43 (fun H locs hP hD hS => ?_)
    have hP : va_P (dC, dI) vwCl [ob_Datum h_this h_kinds h_values h_followers i_count h_openLists h_lastParts i_openCount, ar_ h_followers c_followers 200 f_followers, ar_ h_lastParts c_lastParts 12 (upd f_lastParts x1.toNatClampNeg x2), ar_ h_openLists c_openLists 12 f_openLists, ar_ h_values c_values 200 (upd f_values (f_openLists x1.toNatClampNeg).toNatClampNeg x2)] H := hP
    have hD : va_D A [ob_Datum h_this h_kinds h_values h_followers i_count h_openLists h_lastParts i_openCount, ar_ h_followers c_followers 200 f_followers, ar_ h_lastParts c_lastParts 12 (upd f_lastParts x1.toNatClampNeg x2), ar_ h_openLists c_openLists 12 f_openLists, ar_ h_values c_values 200 (upd f_values (f_openLists x1.toNatClampNeg).toNatClampNeg x2)] := hD
    have hP9 : va_P (dC, dI) vwCl [ob_Datum h_this h_kinds h_values h_followers i_count h_openLists h_lastParts i_openCount, ar_ h_followers c_followers 200 f_followers, ar_ h_lastParts c_lastParts 12 (upd f_lastParts x1.toNatClampNeg x2), ar_ h_openLists c_openLists 12 f_openLists, ar_ h_values c_values 200 (upd f_values (f_openLists x1.toNatClampNeg).toNatClampNeg x2)] _ := hP
    have hD9 : va_D A [ob_Datum h_this h_kinds h_values h_followers i_count h_openLists h_lastParts i_openCount, ar_ h_followers c_followers 200 f_followers, ar_ h_lastParts c_lastParts 12 (upd f_lastParts x1.toNatClampNeg x2), ar_ h_openLists c_openLists 12 f_openLists, ar_ h_values c_values 200 (upd f_values (f_openLists x1.toNatClampNeg).toNatClampNeg x2)] := hD
    rw [hQ]
    exact W.vret hx hb hr (fun t ht hW => ⟨⟨(f_followers, upd f_lastParts x1.toNatClampNeg x2, upd f_values (f_openLists x1.toNatClampNeg).toNatClampNeg x2), rfl, hw, by rw [ht]; exact hP9, va_K.moved hW.alike hK, hD9⟩, hS.F ht⟩) hS.2.2 d_Datum_addPart_44

set_option maxHeartbeats 4000000 in
set_option maxRecDepth 100000 in
theorem c_Datum_addNode (l : Launch) (dC : Nat → ClassId) (dI : Nat → Nat → Nat) (h_this : Nat) (h_followers : Nat) (h_kinds : Nat) (h_lastParts : Nat) (h_openLists : Nat) (h_values : Nat) (c_followers : ClassId) (c_kinds : ClassId) (c_lastParts : ClassId) (c_openLists : ClassId) (c_values : ClassId) (sz : Nat)  (i_count : Int32) (i_openCount : Int32) (f_followers : Nat → Int32) (f_kinds : Nat → Int32) (f_lastParts : Nat → Int32) (f_openLists : Nat → Int32) (f_values : Nat → Int32) (x1 : Int32) (x2 : Int32) (post : Int32 → Int32 → (Nat → Int32) → (Nat → Int32) → (Nat → Int32) → (Nat → Int32) → Prop) (hw : wp_Datum_addNode i_count i_openCount f_followers f_kinds f_lastParts f_openLists f_values x1 x2 post) : Met l y_Datum_addNode (ws_ y_Datum_addNode b_Datum_addNode 3 (some .boolean)) { frames := 1, cells := 0, slots := 0, locals := 22 } (va_Pc [.ref h_this, .int x1, .int x2] (PRE (dC, dI) vwCl [(c_followers, .int), (c_kinds, .int), (c_lastParts, .int), (c_openLists, .int), (c_values, .int)] [ob_Datum h_this h_kinds h_values h_followers i_count h_openLists h_lastParts i_openCount, ar_ h_followers c_followers 200 f_followers, ar_ h_kinds c_kinds 200 f_kinds, ar_ h_lastParts c_lastParts 12 f_lastParts, ar_ h_openLists c_openLists 12 f_openLists, ar_ h_values c_values 200 f_values] sz (va_A [ob_Datum h_this h_kinds h_values h_followers i_count h_openLists h_lastParts i_openCount, ar_ h_followers c_followers 200 f_followers, ar_ h_kinds c_kinds 200 f_kinds, ar_ h_lastParts c_lastParts 12 f_lastParts, ar_ h_openLists c_openLists 12 f_openLists, ar_ h_values c_values 200 f_values] sz))) (va_Qi (fun (r : Int32) (u : Int32 × (Nat → Int32) × (Nat → Int32) × (Nat → Int32) × (Nat → Int32)) => post r u.1 u.2.1 u.2.2.1 u.2.2.2.1 u.2.2.2.2) (fun (u : Int32 × (Nat → Int32) × (Nat → Int32) × (Nat → Int32) × (Nat → Int32)) (t : State) => va_P (dC, dI) vwCl [ob_Datum h_this h_kinds h_values h_followers u.1 h_openLists h_lastParts i_openCount, ar_ h_followers c_followers 200 u.2.1, ar_ h_kinds c_kinds 200 u.2.2.1, ar_ h_lastParts c_lastParts 12 u.2.2.2.1, ar_ h_openLists c_openLists 12 f_openLists, ar_ h_values c_values 200 u.2.2.2.2] t.heap ∧ va_K (dC, dI) vwCl [(c_followers, .int), (c_kinds, .int), (c_lastParts, .int), (c_openLists, .int), (c_values, .int)] t ∧ va_D (va_A [ob_Datum h_this h_kinds h_values h_followers i_count h_openLists h_lastParts i_openCount, ar_ h_followers c_followers 200 f_followers, ar_ h_kinds c_kinds 200 f_kinds, ar_ h_lastParts c_lastParts 12 f_lastParts, ar_ h_openLists c_openLists 12 f_openLists, ar_ h_values c_values 200 f_values] sz) [ob_Datum h_this h_kinds h_values h_followers u.1 h_openLists h_lastParts i_openCount, ar_ h_followers c_followers 200 u.2.1, ar_ h_kinds c_kinds 200 u.2.2.1, ar_ h_lastParts c_lastParts 12 u.2.2.2.1, ar_ h_openLists c_openLists 12 f_openLists, ar_ h_values c_values 200 u.2.2.2.2]) (va_A [ob_Datum h_this h_kinds h_values h_followers i_count h_openLists h_lastParts i_openCount, ar_ h_followers c_followers 200 f_followers, ar_ h_kinds c_kinds 200 f_kinds, ar_ h_lastParts c_lastParts 12 f_lastParts, ar_ h_openLists c_openLists 12 f_openLists, ar_ h_values c_values 200 f_values] sz)) 0 0 (va_A [ob_Datum h_this h_kinds h_values h_followers i_count h_openLists h_lastParts i_openCount, ar_ h_followers c_followers 200 f_followers, ar_ h_kinds c_kinds 200 f_kinds, ar_ h_lastParts c_lastParts 12 f_lastParts, ar_ h_openLists c_openLists 12 f_openLists, ar_ h_values c_values 200 f_values] sz) := by
  refine Met.ofW (cc := b_Datum_addNode) (maxL := 3) (ret := (some .boolean)) (by decide) rfl ?_
  intro p e s m args below meth c s₁ B hml hv
  obtain ⟨rfl, hsz, hP, hK, hD0, hG⟩ := hv
  have hx := B.exec
  have hb := B.bytes
  have hr := B.returns
  have hts : ∀ w ∈ tb, w.before _ s = true := fun w h => atoms_spec (ws := ws_ _ _ _ _) B.pre w (List.mem_cons_of_mem _ h)
  have hown : s.vm.findClass R_Datum = some m.cls := findClass_of_methodNamed B.named
  have hlocks := B.notSynchronized
  subst hsz
  have hD := hD0.self (sz := s.heap.size)
  generalize hAe : va_A [ob_Datum h_this h_kinds h_values h_followers i_count h_openLists h_lastParts i_openCount, ar_ h_followers c_followers 200 f_followers, ar_ h_kinds c_kinds 200 f_kinds, ar_ h_lastParts c_lastParts 12 f_lastParts, ar_ h_openLists c_openLists 12 f_openLists, ar_ h_values c_values 200 f_values] s.heap.size = A at hD hG ⊢
  have hA : ∀ q : Nat, s.heap.size ≤ q → A q := fun q h => by rw [← hAe]; exact Or.inr h
  have hS : va_S A s.heap s.heap [] := va_S.rf
  have hP : va_P (dC, dI) vwCl [ob_Datum h_this h_kinds h_values h_followers i_count h_openLists h_lastParts i_openCount, ar_ h_followers c_followers 200 f_followers, ar_ h_kinds c_kinds 200 f_kinds, ar_ h_lastParts c_lastParts 12 f_lastParts, ar_ h_openLists c_openLists 12 f_openLists, ar_ h_values c_values 200 f_values] s.heap := hP
  have hl := lv_entry [.ref h_this, .int x1, .int x2] (n := 3) (Nat.le_of_ble_eq_true rfl)
  rw [lg_entry_eq]
  generalize (lg_sl [.ref h_this, .int x1, .int x2] ++ List.replicate (3 - (lg_sl [.ref h_this, .int x1, .int x2]).length) Slot.unset).toArray = ls at hl ⊢
  have hl : lv_has ls 3 [(0, .ref h_this), (1, .int x1), (2, .int x2)] := hl
  obtain ⟨Q, hQ⟩ : ∃ Q : State → Prop, Q = MQ below (va_Qi (fun (r : Int32) (u : Int32 × (Nat → Int32) × (Nat → Int32) × (Nat → Int32) × (Nat → Int32)) => post r u.1 u.2.1 u.2.2.1 u.2.2.2.1 u.2.2.2.2) (fun (u : Int32 × (Nat → Int32) × (Nat → Int32) × (Nat → Int32) × (Nat → Int32)) (t : State) => va_P (dC, dI) vwCl [ob_Datum h_this h_kinds h_values h_followers u.1 h_openLists h_lastParts i_openCount, ar_ h_followers c_followers 200 u.2.1, ar_ h_kinds c_kinds 200 u.2.2.1, ar_ h_lastParts c_lastParts 12 u.2.2.2.1, ar_ h_openLists c_openLists 12 f_openLists, ar_ h_values c_values 200 u.2.2.2.2] t.heap ∧ va_K (dC, dI) vwCl [(c_followers, .int), (c_kinds, .int), (c_lastParts, .int), (c_openLists, .int), (c_values, .int)] t ∧ va_D A [ob_Datum h_this h_kinds h_values h_followers u.1 h_openLists h_lastParts i_openCount, ar_ h_followers c_followers 200 u.2.1, ar_ h_kinds c_kinds 200 u.2.2.1, ar_ h_lastParts c_lastParts 12 u.2.2.2.1, ar_ h_openLists c_openLists 12 f_openLists, ar_ h_values c_values 200 u.2.2.2.2]) A) ([.ref h_this, .int x1, .int x2] : List Value).toArray s 0 0 A := ⟨_, rfl⟩
  rw [← hQ]
  unfold wp_Datum_addNode at hw
  have J26 : ∀ (v1 : Int32) (v2 : Int32) (i_count : Int32) (f_followers : Nat → Int32) (f_kinds : Nat → Int32) (f_lastParts : Nat → Int32) (f_values : Nat → Int32) (H : Heap) (locs : List Loc) (ls : Array Slot), lv_has ls 3 [(0, .ref h_this), (1, .int v1), (2, .int v2)] → va_P (dC, dI) vwCl [ob_Datum h_this h_kinds h_values h_followers i_count h_openLists h_lastParts i_openCount, ar_ h_followers c_followers 200 f_followers, ar_ h_kinds c_kinds 200 f_kinds, ar_ h_lastParts c_lastParts 12 f_lastParts, ar_ h_openLists c_openLists 12 f_openLists, ar_ h_values c_values 200 f_values] H → va_D A [ob_Datum h_this h_kinds h_values h_followers i_count h_openLists h_lastParts i_openCount, ar_ h_followers c_followers 200 f_followers, ar_ h_kinds c_kinds 200 f_kinds, ar_ h_lastParts c_lastParts 12 f_lastParts, ar_ h_openLists c_openLists 12 f_openLists, ar_ h_values c_values 200 f_values] → va_S A s.heap H locs → wp_Datum_addNode_J26 i_openCount f_openLists post v1 v2 i_count f_followers f_kinds f_lastParts f_values → W p l e (headSpec (ws_ y_Datum_addNode b_Datum_addNode 3 (some .boolean)) { frames := 1, cells := 0, slots := 0, locals := 22 }).room s m ([.ref h_this, .int x1, .int x2] : List Value).toArray below meth c H locs 0 0 Q (F0 m 26 ls []) := by
    intro v1 v2 i_count f_followers f_kinds f_lastParts f_values H locs ls hl hP hD hS hw
    unfold wp_Datum_addNode_J26 at hw
    refine lv_aload_n hx hb d_Datum_addNode_26 rfl (lv_at hl 0 rfl) ?_
    refine va_get (D := (dC, dI)) (ci := 1) (v := .ref h_kinds) (C := R_Datum) (T := T_Datum) (N := 7) hx hb hts in_Datum hown hK hP 0 rfl rfl 0 (by decide) (hts _ kt_36) (fun _ h9 => h9) rfl d_Datum_addNode_27 ?_
    refine lv_aload_n hx hb d_Datum_addNode_30 rfl (lv_at hl 0 rfl) ?_
    refine va_get (D := (dC, dI)) (ci := 1) (v := .int i_count) (C := R_Datum) (T := T_Datum) (N := 7) hx hb hts in_Datum hown hK hP 0 rfl rfl 3 (by decide) (hts _ kt_39) (fun _ h9 => h9) rfl d_Datum_addNode_31 ?_
    refine lv_iload_n hx hb d_Datum_addNode_34 rfl (lv_at hl 1 rfl) ?_
    obtain ⟨h_1, hw⟩ := hw
    refine va_iast hx hb hK hP hD hS 2 1 rfl rfl h_1 d_Datum_addNode_35 (fun H locs hP hD hS => ?_)
    have hP : va_P (dC, dI) vwCl [ob_Datum h_this h_kinds h_values h_followers i_count h_openLists h_lastParts i_openCount, ar_ h_followers c_followers 200 f_followers, ar_ h_kinds c_kinds 200 (upd f_kinds i_count.toNatClampNeg v1), ar_ h_lastParts c_lastParts 12 f_lastParts, ar_ h_openLists c_openLists 12 f_openLists, ar_ h_values c_values 200 f_values] H := hP
    have hD : va_D A [ob_Datum h_this h_kinds h_values h_followers i_count h_openLists h_lastParts i_openCount, ar_ h_followers c_followers 200 f_followers, ar_ h_kinds c_kinds 200 (upd f_kinds i_count.toNatClampNeg v1), ar_ h_lastParts c_lastParts 12 f_lastParts, ar_ h_openLists c_openLists 12 f_openLists, ar_ h_values c_values 200 f_values] := hD
    refine lv_aload_n hx hb d_Datum_addNode_36 rfl (lv_at hl 0 rfl) ?_
    refine va_get (D := (dC, dI)) (ci := 1) (v := .ref h_values) (C := R_Datum) (T := T_Datum) (N := 7) hx hb hts in_Datum hown hK hP 0 rfl rfl 1 (by decide) (hts _ kt_37) (fun _ h9 => h9) rfl d_Datum_addNode_37 ?_
    refine lv_aload_n hx hb d_Datum_addNode_40 rfl (lv_at hl 0 rfl) ?_
    refine va_get (D := (dC, dI)) (ci := 1) (v := .int i_count) (C := R_Datum) (T := T_Datum) (N := 7) hx hb hts in_Datum hown hK hP 0 rfl rfl 3 (by decide) (hts _ kt_39) (fun _ h9 => h9) rfl d_Datum_addNode_41 ?_
    refine lv_iload_n hx hb d_Datum_addNode_44 rfl (lv_at hl 2 rfl) ?_
    obtain ⟨h_2, hw⟩ := hw
    refine va_iast hx hb hK hP hD hS 5 4 rfl rfl h_2 d_Datum_addNode_45 (fun H locs hP hD hS => ?_)
    have hP : va_P (dC, dI) vwCl [ob_Datum h_this h_kinds h_values h_followers i_count h_openLists h_lastParts i_openCount, ar_ h_followers c_followers 200 f_followers, ar_ h_kinds c_kinds 200 (upd f_kinds i_count.toNatClampNeg v1), ar_ h_lastParts c_lastParts 12 f_lastParts, ar_ h_openLists c_openLists 12 f_openLists, ar_ h_values c_values 200 (upd f_values i_count.toNatClampNeg v2)] H := hP
    have hD : va_D A [ob_Datum h_this h_kinds h_values h_followers i_count h_openLists h_lastParts i_openCount, ar_ h_followers c_followers 200 f_followers, ar_ h_kinds c_kinds 200 (upd f_kinds i_count.toNatClampNeg v1), ar_ h_lastParts c_lastParts 12 f_lastParts, ar_ h_openLists c_openLists 12 f_openLists, ar_ h_values c_values 200 (upd f_values i_count.toNatClampNeg v2)] := hD
    refine lv_aload_n hx hb d_Datum_addNode_46 rfl (lv_at hl 0 rfl) ?_
    refine va_get (D := (dC, dI)) (ci := 1) (v := .ref h_followers) (C := R_Datum) (T := T_Datum) (N := 7) hx hb hts in_Datum hown hK hP 0 rfl rfl 2 (by decide) (hts _ kt_38) (fun _ h9 => h9) rfl d_Datum_addNode_47 ?_
    refine lv_aload_n hx hb d_Datum_addNode_50 rfl (lv_at hl 0 rfl) ?_
    refine va_get (D := (dC, dI)) (ci := 1) (v := .int i_count) (C := R_Datum) (T := T_Datum) (N := 7) hx hb hts in_Datum hown hK hP 0 rfl rfl 3 (by decide) (hts _ kt_39) (fun _ h9 => h9) rfl d_Datum_addNode_51 ?_
    refine lv_iconst (v := (-1)) hx hb d_Datum_addNode_54 (by decide) ?_
    obtain ⟨h_3, hw⟩ := hw
    refine va_iast hx hb hK hP hD hS 1 0 rfl rfl h_3 d_Datum_addNode_55 (fun H locs hP hD hS => ?_)
    have hP : va_P (dC, dI) vwCl [ob_Datum h_this h_kinds h_values h_followers i_count h_openLists h_lastParts i_openCount, ar_ h_followers c_followers 200 (upd f_followers i_count.toNatClampNeg (-1 : Int32)), ar_ h_kinds c_kinds 200 (upd f_kinds i_count.toNatClampNeg v1), ar_ h_lastParts c_lastParts 12 f_lastParts, ar_ h_openLists c_openLists 12 f_openLists, ar_ h_values c_values 200 (upd f_values i_count.toNatClampNeg v2)] H := hP
    have hD : va_D A [ob_Datum h_this h_kinds h_values h_followers i_count h_openLists h_lastParts i_openCount, ar_ h_followers c_followers 200 (upd f_followers i_count.toNatClampNeg (-1 : Int32)), ar_ h_kinds c_kinds 200 (upd f_kinds i_count.toNatClampNeg v1), ar_ h_lastParts c_lastParts 12 f_lastParts, ar_ h_openLists c_openLists 12 f_openLists, ar_ h_values c_values 200 (upd f_values i_count.toNatClampNeg v2)] := hD
    refine lv_aload_n hx hb d_Datum_addNode_56 rfl (lv_at hl 0 rfl) ?_
    refine va_get (D := (dC, dI)) (ci := 1) (v := .int i_openCount) (C := R_Datum) (T := T_Datum) (N := 7) hx hb hts in_Datum hown hK hP 0 rfl rfl 6 (by decide) (hts _ kt_42) (fun _ h9 => h9) rfl d_Datum_addNode_57 ?_
    refine lv_if_le (tgt := 77) hx hb d_Datum_addNode_60 (by decide) (fun c_4 => ?_) (fun c_4 => ?_)
    · have hw := hw.1 c_4
      refine lv_aload_n hx hb d_Datum_addNode_77 rfl (lv_at hl 0 rfl) ?_
      refine lv_dup hx hb d_Datum_addNode_78 rfl ?_
      refine va_get (D := (dC, dI)) (ci := 1) (v := .int i_count) (C := R_Datum) (T := T_Datum) (N := 7) hx hb hts in_Datum hown hK hP 0 rfl rfl 3 (by decide) (hts _ kt_39) (fun _ h9 => h9) rfl d_Datum_addNode_79 ?_
      refine lv_iconst (v := 1) hx hb d_Datum_addNode_82 (by decide) ?_
      refine lv_iadd hx hb d_Datum_addNode_83 ?_
      refine va_put (D := (dC, dI)) (ci := 1) (v := .int (i_count + (1 : Int32))) (ty := .int) (C := R_Datum) (T := T_Datum) (N := 7) hx hb hts in_Datum t_Datum t_Datum_ok nm_Datum hown hK hP hD hS 0 rfl rfl 3 (by decide) (hts _ kt_39) (fun _ h9 => h9) rfl (by decide +kernel) rfl rfl (Nat.le_of_ble_eq_true rfl) d_Datum_addNode_84 (fun H locs hP hD hS => ?_)
      have hP : va_P (dC, dI) vwCl [ob_Datum h_this h_kinds h_values h_followers (i_count + (1 : Int32)) h_openLists h_lastParts i_openCount, ar_ h_followers c_followers 200 (upd f_followers i_count.toNatClampNeg (-1 : Int32)), ar_ h_kinds c_kinds 200 (upd f_kinds i_count.toNatClampNeg v1), ar_ h_lastParts c_lastParts 12 f_lastParts, ar_ h_openLists c_openLists 12 f_openLists, ar_ h_values c_values 200 (upd f_values i_count.toNatClampNeg v2)] H := hP
      have hD : va_D A [ob_Datum h_this h_kinds h_values h_followers (i_count + (1 : Int32)) h_openLists h_lastParts i_openCount, ar_ h_followers c_followers 200 (upd f_followers i_count.toNatClampNeg (-1 : Int32)), ar_ h_kinds c_kinds 200 (upd f_kinds i_count.toNatClampNeg v1), ar_ h_lastParts c_lastParts 12 f_lastParts, ar_ h_openLists c_openLists 12 f_openLists, ar_ h_values c_values 200 (upd f_values i_count.toNatClampNeg v2)] := hD
      refine lv_iconst (v := 1) hx hb d_Datum_addNode_87 (by decide) ?_
      have hP9 : va_P (dC, dI) vwCl [ob_Datum h_this h_kinds h_values h_followers (i_count + (1 : Int32)) h_openLists h_lastParts i_openCount, ar_ h_followers c_followers 200 (upd f_followers i_count.toNatClampNeg (-1 : Int32)), ar_ h_kinds c_kinds 200 (upd f_kinds i_count.toNatClampNeg v1), ar_ h_lastParts c_lastParts 12 f_lastParts, ar_ h_openLists c_openLists 12 f_openLists, ar_ h_values c_values 200 (upd f_values i_count.toNatClampNeg v2)] _ := hP
      have hD9 : va_D A [ob_Datum h_this h_kinds h_values h_followers (i_count + (1 : Int32)) h_openLists h_lastParts i_openCount, ar_ h_followers c_followers 200 (upd f_followers i_count.toNatClampNeg (-1 : Int32)), ar_ h_kinds c_kinds 200 (upd f_kinds i_count.toNatClampNeg v1), ar_ h_lastParts c_lastParts 12 f_lastParts, ar_ h_openLists c_openLists 12 f_openLists, ar_ h_values c_values 200 (upd f_values i_count.toNatClampNeg v2)] := hD
      rw [hQ]
      exact W.zret (v := (1 : Int32)) hx hb hr rfl (fun t ht hW => ⟨⟨(1 : Int32), (i_count + (1 : Int32), upd f_followers i_count.toNatClampNeg (-1 : Int32), upd f_kinds i_count.toNatClampNeg v1, f_lastParts, upd f_values i_count.toNatClampNeg v2), rfl, hw, by rw [ht]; exact hP9, va_K.moved hW.alike hK, hD9⟩, hS.F ht⟩) hS.2.2 d_Datum_addNode_88
    · have hw := hw.2 c_4
      refine lv_aload_n hx hb d_Datum_addNode_63 rfl (lv_at hl 0 rfl) ?_
      refine lv_aload_n hx hb d_Datum_addNode_64 rfl (lv_at hl 0 rfl) ?_
      refine va_get (D := (dC, dI)) (ci := 1) (v := .int i_openCount) (C := R_Datum) (T := T_Datum) (N := 7) hx hb hts in_Datum hown hK hP 0 rfl rfl 6 (by decide) (hts _ kt_42) (fun _ h9 => h9) rfl d_Datum_addNode_65 ?_
      refine lv_iconst (v := 1) hx hb d_Datum_addNode_68 (by decide) ?_
      refine lv_isub hx hb d_Datum_addNode_69 ?_
      refine lv_aload_n hx hb d_Datum_addNode_70 rfl (lv_at hl 0 rfl) ?_
      refine va_get (D := (dC, dI)) (ci := 1) (v := .int i_count) (C := R_Datum) (T := T_Datum) (N := 7) hx hb hts in_Datum hown hK hP 0 rfl rfl 3 (by decide) (hts _ kt_39) (fun _ h9 => h9) rfl d_Datum_addNode_71 ?_
      have hPc := hP.sub (ws' := [ob_Datum h_this h_kinds h_values h_followers i_count h_openLists h_lastParts i_openCount, ar_ h_followers c_followers 200 (upd f_followers i_count.toNatClampNeg (-1 : Int32)), ar_ h_lastParts c_lastParts 12 f_lastParts, ar_ h_openLists c_openLists 12 f_openLists, ar_ h_values c_values 200 (upd f_values i_count.toNatClampNeg v2)]) [0, 1, 3, 4, 5] rfl
      have hDc := hD.sub (ws' := [ob_Datum h_this h_kinds h_values h_followers i_count h_openLists h_lastParts i_openCount, ar_ h_followers c_followers 200 (upd f_followers i_count.toNatClampNeg (-1 : Int32)), ar_ h_lastParts c_lastParts 12 f_lastParts, ar_ h_openLists c_openLists 12 f_openLists, ar_ h_values c_values 200 (upd f_values i_count.toNatClampNeg v2)]) [0, 1, 3, 4, 5] (by decide) rfl
      have hKc := hK.sub (tys' := [(c_followers, .int), (c_lastParts, .int), (c_openLists, .int), (c_values, .int)]) [0, 2, 3, 4] rfl
      have hFc := va_free (wc := [ob_Datum h_this h_kinds h_values h_followers i_count h_openLists h_lastParts i_openCount, ar_ h_followers c_followers 200 (upd f_followers i_count.toNatClampNeg (-1 : Int32)), ar_ h_lastParts c_lastParts 12 f_lastParts, ar_ h_openLists c_openLists 12 f_openLists, ar_ h_values c_values 200 (upd f_values i_count.toNatClampNeg v2)]) hD hS hA [0, 1, 3, 4, 5] rfl
      refine va_callv (va_runV (As := [.int (i_openCount - (1 : Int32)), .int i_count]) (rest := []) ⟨hx, hb, hml, hown, hts⟩ (c_Datum_addPart l dC dI h_this h_followers h_lastParts h_openLists h_values h_kinds c_followers c_lastParts c_openLists c_values H.size i_count i_openCount (upd f_followers i_count.toNatClampNeg (-1 : Int32)) f_lastParts f_openLists (upd f_values i_count.toNatClampNeg v2) (i_openCount - (1 : Int32)) i_count _ hw) (cwV 2 hts (gd_V kt_371 kt_373 ks_3 kt_2 kt_374) rfl rfl rfl (by decide +kernel) ⟨Nat.le_of_ble_eq_true rfl, Nat.le_of_ble_eq_true rfl⟩) ⟨pre_blind, va_recv hKc hPc (ci := 1) (q0 := 0) rfl rfl, pre_ok hPc hKc hDc hG hS hFc⟩ rfl rfl hl.1 rfl (lv_room (Nat.le_of_ble_eq_true rfl)) d_Datum_addNode_74 ⟨Nat.zero_le _, Nat.zero_le _⟩) hS (fun q _ h => hFc q h) hFc (fun u t H1 locs ht hvm hw hB hz1 hk1 hS => ?_)
      obtain ⟨f_followers_5, f_lastParts_6, f_values_7⟩ := u
      obtain ⟨hP1, hK1, hD1⟩ := hB
      rw [ht] at hP1
      try dsimp only at hw
      obtain ⟨hP, hD⟩ := va_join (wr := [ar_ h_kinds c_kinds 200 (upd f_kinds i_count.toNatClampNeg v1)]) (w1 := [ob_Datum h_this h_kinds h_values h_followers i_count h_openLists h_lastParts i_openCount, ar_ h_followers c_followers 200 f_followers_5, ar_ h_lastParts c_lastParts 12 f_lastParts_6, ar_ h_openLists c_openLists 12 f_openLists, ar_ h_values c_values 200 f_values_7]) hP hD [0, 1, 3, 4, 5] [2] rfl rfl (by decide) (by decide) hk1 hFc hP1 hD1
      generalize H1 = H at hP hS ⊢
      have hP : va_P (dC, dI) vwCl [ar_ h_kinds c_kinds 200 (upd f_kinds i_count.toNatClampNeg v1), ob_Datum h_this h_kinds h_values h_followers i_count h_openLists h_lastParts i_openCount, ar_ h_followers c_followers 200 f_followers_5, ar_ h_lastParts c_lastParts 12 f_lastParts_6, ar_ h_openLists c_openLists 12 f_openLists, ar_ h_values c_values 200 f_values_7] H := hP
      have hD : va_D A [ar_ h_kinds c_kinds 200 (upd f_kinds i_count.toNatClampNeg v1), ob_Datum h_this h_kinds h_values h_followers i_count h_openLists h_lastParts i_openCount, ar_ h_followers c_followers 200 f_followers_5, ar_ h_lastParts c_lastParts 12 f_lastParts_6, ar_ h_openLists c_openLists 12 f_openLists, ar_ h_values c_values 200 f_values_7] := hD
      refine lv_aload_n hx hb d_Datum_addNode_77 rfl (lv_at hl 0 rfl) ?_
      refine lv_dup hx hb d_Datum_addNode_78 rfl ?_
      refine va_get (D := (dC, dI)) (ci := 1) (v := .int i_count) (C := R_Datum) (T := T_Datum) (N := 7) hx hb hts in_Datum hown hK hP 1 rfl rfl 3 (by decide) (hts _ kt_39) (fun _ h9 => h9) rfl d_Datum_addNode_79 ?_
      refine lv_iconst (v := 1) hx hb d_Datum_addNode_82 (by decide) ?_
      refine lv_iadd hx hb d_Datum_addNode_83 ?_
      refine va_put (D := (dC, dI)) (ci := 1) (v := .int (i_count + (1 : Int32))) (ty := .int) (C := R_Datum) (T := T_Datum) (N := 7) hx hb hts in_Datum t_Datum t_Datum_ok nm_Datum hown hK hP hD hS 1 rfl rfl 3 (by decide) (hts _ kt_39) (fun _ h9 => h9) rfl (by decide +kernel) rfl rfl (Nat.le_of_ble_eq_true rfl) d_Datum_addNode_84 (fun H locs hP hD hS => ?_)
      have hP : va_P (dC, dI) vwCl [ar_ h_kinds c_kinds 200 (upd f_kinds i_count.toNatClampNeg v1), ob_Datum h_this h_kinds h_values h_followers (i_count + (1 : Int32)) h_openLists h_lastParts i_openCount, ar_ h_followers c_followers 200 f_followers_5, ar_ h_lastParts c_lastParts 12 f_lastParts_6, ar_ h_openLists c_openLists 12 f_openLists, ar_ h_values c_values 200 f_values_7] H := hP
      have hD : va_D A [ar_ h_kinds c_kinds 200 (upd f_kinds i_count.toNatClampNeg v1), ob_Datum h_this h_kinds h_values h_followers (i_count + (1 : Int32)) h_openLists h_lastParts i_openCount, ar_ h_followers c_followers 200 f_followers_5, ar_ h_lastParts c_lastParts 12 f_lastParts_6, ar_ h_openLists c_openLists 12 f_openLists, ar_ h_values c_values 200 f_values_7] := hD
      refine lv_iconst (v := 1) hx hb d_Datum_addNode_87 (by decide) ?_
      have hP9 : va_P (dC, dI) vwCl [ob_Datum h_this h_kinds h_values h_followers (i_count + (1 : Int32)) h_openLists h_lastParts i_openCount, ar_ h_followers c_followers 200 f_followers_5, ar_ h_kinds c_kinds 200 (upd f_kinds i_count.toNatClampNeg v1), ar_ h_lastParts c_lastParts 12 f_lastParts_6, ar_ h_openLists c_openLists 12 f_openLists, ar_ h_values c_values 200 f_values_7] _ := (hP.sub [1, 2, 0, 3, 4, 5] rfl)
      have hD9 : va_D A [ob_Datum h_this h_kinds h_values h_followers (i_count + (1 : Int32)) h_openLists h_lastParts i_openCount, ar_ h_followers c_followers 200 f_followers_5, ar_ h_kinds c_kinds 200 (upd f_kinds i_count.toNatClampNeg v1), ar_ h_lastParts c_lastParts 12 f_lastParts_6, ar_ h_openLists c_openLists 12 f_openLists, ar_ h_values c_values 200 f_values_7] := (hD.sub [1, 2, 0, 3, 4, 5] (by decide) rfl)
      rw [hQ]
      exact W.zret (v := (1 : Int32)) hx hb hr rfl (fun t ht hW => ⟨⟨(1 : Int32), (i_count + (1 : Int32), f_followers_5, upd f_kinds i_count.toNatClampNeg v1, f_lastParts_6, f_values_7), rfl, hw, by rw [ht]; exact hP9, va_K.moved hW.alike hK, hD9⟩, hS.F ht⟩) hS.2.2 d_Datum_addNode_88
  refine lv_aload_n hx hb d_Datum_addNode_0 rfl (lv_at hl 0 rfl) ?_
  refine va_get (D := (dC, dI)) (ci := 1) (v := .int i_count) (C := R_Datum) (T := T_Datum) (N := 7) hx hb hts in_Datum hown hK hP 0 rfl rfl 3 (by decide) (hts _ kt_39) (fun _ h9 => h9) rfl d_Datum_addNode_1 ?_
  refine lv_sipush (v := 200) hx hb d_Datum_addNode_4 (by decide) ?_
  refine lv_icmp_ge (tgt := 24) hx hb d_Datum_addNode_7 (by decide) (fun c_8 => ?_) (fun c_8 => ?_)
  · have hw := hw.1 c_8
    refine lv_iconst (v := 0) hx hb d_Datum_addNode_24 (by decide) ?_
    have hP9 : va_P (dC, dI) vwCl [ob_Datum h_this h_kinds h_values h_followers i_count h_openLists h_lastParts i_openCount, ar_ h_followers c_followers 200 f_followers, ar_ h_kinds c_kinds 200 f_kinds, ar_ h_lastParts c_lastParts 12 f_lastParts, ar_ h_openLists c_openLists 12 f_openLists, ar_ h_values c_values 200 f_values] _ := hP
    have hD9 : va_D A [ob_Datum h_this h_kinds h_values h_followers i_count h_openLists h_lastParts i_openCount, ar_ h_followers c_followers 200 f_followers, ar_ h_kinds c_kinds 200 f_kinds, ar_ h_lastParts c_lastParts 12 f_lastParts, ar_ h_openLists c_openLists 12 f_openLists, ar_ h_values c_values 200 f_values] := hD
    rw [hQ]
    exact W.zret (v := (0 : Int32)) hx hb hr rfl (fun t ht hW => ⟨⟨(0 : Int32), (i_count, f_followers, f_kinds, f_lastParts, f_values), rfl, hw, by rw [ht]; exact hP9, va_K.moved hW.alike hK, hD9⟩, hS.F ht⟩) hS.2.2 d_Datum_addNode_25
  · have hw := hw.2 c_8
    refine lv_aload_n hx hb d_Datum_addNode_10 rfl (lv_at hl 0 rfl) ?_
    refine va_get (D := (dC, dI)) (ci := 1) (v := .int i_openCount) (C := R_Datum) (T := T_Datum) (N := 7) hx hb hts in_Datum hown hK hP 0 rfl rfl 6 (by decide) (hts _ kt_42) (fun _ h9 => h9) rfl d_Datum_addNode_11 ?_
    refine lv_if_ne (tgt := 26) hx hb d_Datum_addNode_14 (by decide) (fun c_9 => ?_) (fun c_9 => ?_)
    · have hw := hw.2 c_9
      exact J26 x1 x2 i_count f_followers f_kinds f_lastParts f_values _ _ ls (lv_sub hl [0, 1, 2] rfl) hP hD hS hw
    · have hw := hw.1 c_9
      refine lv_aload_n hx hb d_Datum_addNode_17 rfl (lv_at hl 0 rfl) ?_
      refine va_get (D := (dC, dI)) (ci := 1) (v := .int i_count) (C := R_Datum) (T := T_Datum) (N := 7) hx hb hts in_Datum hown hK hP 0 rfl rfl 3 (by decide) (hts _ kt_39) (fun _ h9 => h9) rfl d_Datum_addNode_18 ?_
      refine lv_if_le (tgt := 26) hx hb d_Datum_addNode_21 (by decide) (fun c_10 => ?_) (fun c_10 => ?_)
      · have hw := hw.1 c_10
        exact J26 x1 x2 i_count f_followers f_kinds f_lastParts f_values _ _ ls (lv_sub hl [0, 1, 2] rfl) hP hD hS hw
      · have hw := hw.2 c_10
        refine lv_iconst (v := 0) hx hb d_Datum_addNode_24 (by decide) ?_
        have hP9 : va_P (dC, dI) vwCl [ob_Datum h_this h_kinds h_values h_followers i_count h_openLists h_lastParts i_openCount, ar_ h_followers c_followers 200 f_followers, ar_ h_kinds c_kinds 200 f_kinds, ar_ h_lastParts c_lastParts 12 f_lastParts, ar_ h_openLists c_openLists 12 f_openLists, ar_ h_values c_values 200 f_values] _ := hP
        have hD9 : va_D A [ob_Datum h_this h_kinds h_values h_followers i_count h_openLists h_lastParts i_openCount, ar_ h_followers c_followers 200 f_followers, ar_ h_kinds c_kinds 200 f_kinds, ar_ h_lastParts c_lastParts 12 f_lastParts, ar_ h_openLists c_openLists 12 f_openLists, ar_ h_values c_values 200 f_values] := hD
        rw [hQ]
        exact W.zret (v := (0 : Int32)) hx hb hr rfl (fun t ht hW => ⟨⟨(0 : Int32), (i_count, f_followers, f_kinds, f_lastParts, f_values), rfl, hw, by rw [ht]; exact hP9, va_K.moved hW.alike hK, hD9⟩, hS.F ht⟩) hS.2.2 d_Datum_addNode_25

set_option maxHeartbeats 4000000 in
set_option maxRecDepth 100000 in
theorem c_Datum_readNumber (l : Launch) (dC : Nat → ClassId) (dI : Nat → Nat → Nat) (h_this : Nat) (h_followers : Nat) (h_kinds : Nat) (h_lastParts : Nat) (h_openLists : Nat) (h_values : Nat) (h_p1 : Nat) (c_followers : ClassId) (c_kinds : ClassId) (c_lastParts : ClassId) (c_openLists : ClassId) (c_values : ClassId) (c_p1 : ClassId) (sz : Nat)  (i_count : Int32) (i_openCount : Int32) (f_followers : Nat → Int32) (f_kinds : Nat → Int32) (f_lastParts : Nat → Int32) (f_openLists : Nat → Int32) (f_values : Nat → Int32) (f_p1 : Nat → Int32) (x2 : Int32) (x3 : Int32) (post : Int32 → Int32 → (Nat → Int32) → (Nat → Int32) → (Nat → Int32) → (Nat → Int32) → Prop) (hw : wp_Datum_readNumber i_count i_openCount f_followers f_kinds f_lastParts f_openLists f_values f_p1 x2 x3 post) : Met l y_Datum_readNumber (ws_ y_Datum_readNumber b_Datum_readNumber 9 (some .int)) { frames := 2, cells := 0, slots := 0, locals := 44 } (va_Pc [.ref h_this, .ref h_p1, .int x2, .int x3] (PRE (dC, dI) vwCl [(c_followers, .int), (c_kinds, .int), (c_lastParts, .int), (c_openLists, .int), (c_values, .int), (c_p1, .char)] [ob_Datum h_this h_kinds h_values h_followers i_count h_openLists h_lastParts i_openCount, ar_ h_followers c_followers 200 f_followers, ar_ h_kinds c_kinds 200 f_kinds, ar_ h_lastParts c_lastParts 12 f_lastParts, ar_ h_openLists c_openLists 12 f_openLists, ar_ h_values c_values 200 f_values, ar_ h_p1 c_p1 200 f_p1] sz (va_A [ob_Datum h_this h_kinds h_values h_followers i_count h_openLists h_lastParts i_openCount, ar_ h_followers c_followers 200 f_followers, ar_ h_kinds c_kinds 200 f_kinds, ar_ h_lastParts c_lastParts 12 f_lastParts, ar_ h_openLists c_openLists 12 f_openLists, ar_ h_values c_values 200 f_values, ar_ h_p1 c_p1 200 f_p1] sz))) (va_Qi (fun (r : Int32) (u : Int32 × (Nat → Int32) × (Nat → Int32) × (Nat → Int32) × (Nat → Int32)) => post r u.1 u.2.1 u.2.2.1 u.2.2.2.1 u.2.2.2.2) (fun (u : Int32 × (Nat → Int32) × (Nat → Int32) × (Nat → Int32) × (Nat → Int32)) (t : State) => va_P (dC, dI) vwCl [ob_Datum h_this h_kinds h_values h_followers u.1 h_openLists h_lastParts i_openCount, ar_ h_followers c_followers 200 u.2.1, ar_ h_kinds c_kinds 200 u.2.2.1, ar_ h_lastParts c_lastParts 12 u.2.2.2.1, ar_ h_openLists c_openLists 12 f_openLists, ar_ h_values c_values 200 u.2.2.2.2, ar_ h_p1 c_p1 200 f_p1] t.heap ∧ va_K (dC, dI) vwCl [(c_followers, .int), (c_kinds, .int), (c_lastParts, .int), (c_openLists, .int), (c_values, .int), (c_p1, .char)] t ∧ va_D (va_A [ob_Datum h_this h_kinds h_values h_followers i_count h_openLists h_lastParts i_openCount, ar_ h_followers c_followers 200 f_followers, ar_ h_kinds c_kinds 200 f_kinds, ar_ h_lastParts c_lastParts 12 f_lastParts, ar_ h_openLists c_openLists 12 f_openLists, ar_ h_values c_values 200 f_values, ar_ h_p1 c_p1 200 f_p1] sz) [ob_Datum h_this h_kinds h_values h_followers u.1 h_openLists h_lastParts i_openCount, ar_ h_followers c_followers 200 u.2.1, ar_ h_kinds c_kinds 200 u.2.2.1, ar_ h_lastParts c_lastParts 12 u.2.2.2.1, ar_ h_openLists c_openLists 12 f_openLists, ar_ h_values c_values 200 u.2.2.2.2, ar_ h_p1 c_p1 200 f_p1]) (va_A [ob_Datum h_this h_kinds h_values h_followers i_count h_openLists h_lastParts i_openCount, ar_ h_followers c_followers 200 f_followers, ar_ h_kinds c_kinds 200 f_kinds, ar_ h_lastParts c_lastParts 12 f_lastParts, ar_ h_openLists c_openLists 12 f_openLists, ar_ h_values c_values 200 f_values, ar_ h_p1 c_p1 200 f_p1] sz)) 0 0 (va_A [ob_Datum h_this h_kinds h_values h_followers i_count h_openLists h_lastParts i_openCount, ar_ h_followers c_followers 200 f_followers, ar_ h_kinds c_kinds 200 f_kinds, ar_ h_lastParts c_lastParts 12 f_lastParts, ar_ h_openLists c_openLists 12 f_openLists, ar_ h_values c_values 200 f_values, ar_ h_p1 c_p1 200 f_p1] sz) := by
  refine Met.ofW (cc := b_Datum_readNumber) (maxL := 9) (ret := (some .int)) (by decide) rfl ?_
  intro p e s m args below meth c s₁ B hml hv
  obtain ⟨rfl, hsz, hP, hK, hD0, hG⟩ := hv
  have hx := B.exec
  have hb := B.bytes
  have hr := B.returns
  have hts : ∀ w ∈ tb, w.before _ s = true := fun w h => atoms_spec (ws := ws_ _ _ _ _) B.pre w (List.mem_cons_of_mem _ h)
  have hown : s.vm.findClass R_Datum = some m.cls := findClass_of_methodNamed B.named
  have hlocks := B.notSynchronized
  subst hsz
  have hD := hD0.self (sz := s.heap.size)
  generalize hAe : va_A [ob_Datum h_this h_kinds h_values h_followers i_count h_openLists h_lastParts i_openCount, ar_ h_followers c_followers 200 f_followers, ar_ h_kinds c_kinds 200 f_kinds, ar_ h_lastParts c_lastParts 12 f_lastParts, ar_ h_openLists c_openLists 12 f_openLists, ar_ h_values c_values 200 f_values, ar_ h_p1 c_p1 200 f_p1] s.heap.size = A at hD hG ⊢
  have hA : ∀ q : Nat, s.heap.size ≤ q → A q := fun q h => by rw [← hAe]; exact Or.inr h
  have hS : va_S A s.heap s.heap [] := va_S.rf
  have hP : va_P (dC, dI) vwCl [ob_Datum h_this h_kinds h_values h_followers i_count h_openLists h_lastParts i_openCount, ar_ h_followers c_followers 200 f_followers, ar_ h_kinds c_kinds 200 f_kinds, ar_ h_lastParts c_lastParts 12 f_lastParts, ar_ h_openLists c_openLists 12 f_openLists, ar_ h_values c_values 200 f_values, ar_ h_p1 c_p1 200 f_p1] s.heap := hP
  have hl := lv_entry [.ref h_this, .ref h_p1, .int x2, .int x3] (n := 9) (Nat.le_of_ble_eq_true rfl)
  rw [lg_entry_eq]
  generalize (lg_sl [.ref h_this, .ref h_p1, .int x2, .int x3] ++ List.replicate (9 - (lg_sl [.ref h_this, .ref h_p1, .int x2, .int x3]).length) Slot.unset).toArray = ls at hl ⊢
  have hl : lv_has ls 9 [(0, .ref h_this), (1, .ref h_p1), (2, .int x2), (3, .int x3)] := hl
  obtain ⟨Q, hQ⟩ : ∃ Q : State → Prop, Q = MQ below (va_Qi (fun (r : Int32) (u : Int32 × (Nat → Int32) × (Nat → Int32) × (Nat → Int32) × (Nat → Int32)) => post r u.1 u.2.1 u.2.2.1 u.2.2.2.1 u.2.2.2.2) (fun (u : Int32 × (Nat → Int32) × (Nat → Int32) × (Nat → Int32) × (Nat → Int32)) (t : State) => va_P (dC, dI) vwCl [ob_Datum h_this h_kinds h_values h_followers u.1 h_openLists h_lastParts i_openCount, ar_ h_followers c_followers 200 u.2.1, ar_ h_kinds c_kinds 200 u.2.2.1, ar_ h_lastParts c_lastParts 12 u.2.2.2.1, ar_ h_openLists c_openLists 12 f_openLists, ar_ h_values c_values 200 u.2.2.2.2, ar_ h_p1 c_p1 200 f_p1] t.heap ∧ va_K (dC, dI) vwCl [(c_followers, .int), (c_kinds, .int), (c_lastParts, .int), (c_openLists, .int), (c_values, .int), (c_p1, .char)] t ∧ va_D A [ob_Datum h_this h_kinds h_values h_followers u.1 h_openLists h_lastParts i_openCount, ar_ h_followers c_followers 200 u.2.1, ar_ h_kinds c_kinds 200 u.2.2.1, ar_ h_lastParts c_lastParts 12 u.2.2.2.1, ar_ h_openLists c_openLists 12 f_openLists, ar_ h_values c_values 200 u.2.2.2.2, ar_ h_p1 c_p1 200 f_p1]) A) ([.ref h_this, .ref h_p1, .int x2, .int x3] : List Value).toArray s 0 0 A := ⟨_, rfl⟩
  rw [← hQ]
  unfold wp_Datum_readNumber at hw
  have J95 : ∀ (v4 : Int32) (v6 : Int32) (v7 : Int32) (y0 : Int32) (i_count : Int32) (f_followers : Nat → Int32) (f_kinds : Nat → Int32) (f_lastParts : Nat → Int32) (f_values : Nat → Int32) (H : Heap) (locs : List Loc) (ls : Array Slot), lv_has ls 9 [(0, .ref h_this), (4, .int v4), (6, .int v6), (7, .int v7)] → va_P (dC, dI) vwCl [ob_Datum h_this h_kinds h_values h_followers i_count h_openLists h_lastParts i_openCount, ar_ h_followers c_followers 200 f_followers, ar_ h_kinds c_kinds 200 f_kinds, ar_ h_lastParts c_lastParts 12 f_lastParts, ar_ h_openLists c_openLists 12 f_openLists, ar_ h_values c_values 200 f_values, ar_ h_p1 c_p1 200 f_p1] H → va_D A [ob_Datum h_this h_kinds h_values h_followers i_count h_openLists h_lastParts i_openCount, ar_ h_followers c_followers 200 f_followers, ar_ h_kinds c_kinds 200 f_kinds, ar_ h_lastParts c_lastParts 12 f_lastParts, ar_ h_openLists c_openLists 12 f_openLists, ar_ h_values c_values 200 f_values, ar_ h_p1 c_p1 200 f_p1] → va_S A s.heap H locs → wp_Datum_readNumber_J95 i_openCount f_openLists f_p1 post v4 v6 v7 y0 i_count f_followers f_kinds f_lastParts f_values → W p l e (headSpec (ws_ y_Datum_readNumber b_Datum_readNumber 9 (some .int)) { frames := 2, cells := 0, slots := 0, locals := 44 }).room s m ([.ref h_this, .ref h_p1, .int x2, .int x3] : List Value).toArray below meth c H locs 0 0 Q (F0 m 95 ls [.int y0]) := by
    intro v4 v6 v7 y0 i_count f_followers f_kinds f_lastParts f_values H locs ls hl hP hD hS hw
    unfold wp_Datum_readNumber_J95 at hw
    refine lv_istore (lv' := [(8, .int y0), (0, .ref h_this), (4, .int v4), (6, .int v6), (7, .int v7)]) hx hb d_Datum_readNumber_95 hl (by decide) rfl (fun ls hl => ?_)
    refine lv_iload hx hb d_Datum_readNumber_97 (lv_at hl 0 rfl) ?_
    refine lv_if_eq (tgt := 128) hx hb d_Datum_readNumber_99 (by decide) (fun c_1 => ?_) (fun c_1 => ?_)
    · have hw := hw.1 c_1
      refine lv_iconst (v := (-1)) hx hb d_Datum_readNumber_128 (by decide) ?_
      have hP9 : va_P (dC, dI) vwCl [ob_Datum h_this h_kinds h_values h_followers i_count h_openLists h_lastParts i_openCount, ar_ h_followers c_followers 200 f_followers, ar_ h_kinds c_kinds 200 f_kinds, ar_ h_lastParts c_lastParts 12 f_lastParts, ar_ h_openLists c_openLists 12 f_openLists, ar_ h_values c_values 200 f_values, ar_ h_p1 c_p1 200 f_p1] _ := hP
      have hD9 : va_D A [ob_Datum h_this h_kinds h_values h_followers i_count h_openLists h_lastParts i_openCount, ar_ h_followers c_followers 200 f_followers, ar_ h_kinds c_kinds 200 f_kinds, ar_ h_lastParts c_lastParts 12 f_lastParts, ar_ h_openLists c_openLists 12 f_openLists, ar_ h_values c_values 200 f_values, ar_ h_p1 c_p1 200 f_p1] := hD
      rw [hQ]
      exact W.iret (v := (-1 : Int32)) hx hb hr (fun t ht hW => ⟨⟨(-1 : Int32), (i_count, f_followers, f_kinds, f_lastParts, f_values), rfl, hw, by rw [ht]; exact hP9, va_K.moved hW.alike hK, hD9⟩, hS.F ht⟩) hS.2.2 d_Datum_readNumber_129
    · have hw := hw.2 c_1
      refine lv_aload_n hx hb d_Datum_readNumber_102 rfl (lv_at hl 1 rfl) ?_
      refine lv_iconst (v := 0) hx hb d_Datum_readNumber_103 (by decide) ?_
      refine lv_iload hx hb d_Datum_readNumber_104 (lv_at hl 2 rfl) ?_
      refine lv_if_eq (tgt := 115) hx hb d_Datum_readNumber_106 (by decide) (fun c_2 => ?_) (fun c_2 => ?_)
      · have hw := hw.1 c_2
        refine lv_iload hx hb d_Datum_readNumber_115 (lv_at hl 3 rfl) ?_
        have hPc := hP.sub (ws' := [ob_Datum h_this h_kinds h_values h_followers i_count h_openLists h_lastParts i_openCount, ar_ h_followers c_followers 200 f_followers, ar_ h_kinds c_kinds 200 f_kinds, ar_ h_lastParts c_lastParts 12 f_lastParts, ar_ h_openLists c_openLists 12 f_openLists, ar_ h_values c_values 200 f_values]) [0, 1, 2, 3, 4, 5] rfl
        have hDc := hD.sub (ws' := [ob_Datum h_this h_kinds h_values h_followers i_count h_openLists h_lastParts i_openCount, ar_ h_followers c_followers 200 f_followers, ar_ h_kinds c_kinds 200 f_kinds, ar_ h_lastParts c_lastParts 12 f_lastParts, ar_ h_openLists c_openLists 12 f_openLists, ar_ h_values c_values 200 f_values]) [0, 1, 2, 3, 4, 5] (by decide) rfl
        have hKc := hK.sub (tys' := [(c_followers, .int), (c_kinds, .int), (c_lastParts, .int), (c_openLists, .int), (c_values, .int)]) [0, 1, 2, 3, 4] rfl
        have hFc := va_free (wc := [ob_Datum h_this h_kinds h_values h_followers i_count h_openLists h_lastParts i_openCount, ar_ h_followers c_followers 200 f_followers, ar_ h_kinds c_kinds 200 f_kinds, ar_ h_lastParts c_lastParts 12 f_lastParts, ar_ h_openLists c_openLists 12 f_openLists, ar_ h_values c_values 200 f_values]) hD hS hA [0, 1, 2, 3, 4, 5] rfl
        refine va_calli (va_runV (As := [.int (0 : Int32), .int v6]) (rest := []) ⟨hx, hb, hml, hown, hts⟩ (c_Datum_addNode l dC dI h_this h_followers h_kinds h_lastParts h_openLists h_values c_followers c_kinds c_lastParts c_openLists c_values H.size i_count i_openCount f_followers f_kinds f_lastParts f_openLists f_values (0 : Int32) v6 _ hw) (cwV 2 hts (gd_V kt_367 kt_369 ks_2 kt_2 kt_370) rfl rfl rfl (by decide +kernel) ⟨Nat.le_of_ble_eq_true rfl, Nat.le_of_ble_eq_true rfl⟩) ⟨pre_blind, va_recv hKc hPc (ci := 1) (q0 := 0) rfl rfl, pre_ok hPc hKc hDc hG hS hFc⟩ rfl rfl hl.1 rfl (lv_room (Nat.le_of_ble_eq_true rfl)) d_Datum_readNumber_117 ⟨Nat.zero_le _, Nat.zero_le _⟩) hS (fun q _ h => hFc q h) hFc (fun r_3 u t H1 locs ht hvm hw hB hz1 hk1 hS => ?_)
        obtain ⟨i_count_4, f_followers_5, f_kinds_6, f_lastParts_7, f_values_8⟩ := u
        obtain ⟨hP1, hK1, hD1⟩ := hB
        rw [ht] at hP1
        try dsimp only at hw
        obtain ⟨hP, hD⟩ := va_join (wr := [ar_ h_p1 c_p1 200 f_p1]) (w1 := [ob_Datum h_this h_kinds h_values h_followers i_count_4 h_openLists h_lastParts i_openCount, ar_ h_followers c_followers 200 f_followers_5, ar_ h_kinds c_kinds 200 f_kinds_6, ar_ h_lastParts c_lastParts 12 f_lastParts_7, ar_ h_openLists c_openLists 12 f_openLists, ar_ h_values c_values 200 f_values_8]) hP hD [0, 1, 2, 3, 4, 5] [6] rfl rfl (by decide) (by decide) hk1 hFc hP1 hD1
        generalize H1 = H at hP hS ⊢
        have hP : va_P (dC, dI) vwCl [ar_ h_p1 c_p1 200 f_p1, ob_Datum h_this h_kinds h_values h_followers i_count_4 h_openLists h_lastParts i_openCount, ar_ h_followers c_followers 200 f_followers_5, ar_ h_kinds c_kinds 200 f_kinds_6, ar_ h_lastParts c_lastParts 12 f_lastParts_7, ar_ h_openLists c_openLists 12 f_openLists, ar_ h_values c_values 200 f_values_8] H := hP
        have hD : va_D A [ar_ h_p1 c_p1 200 f_p1, ob_Datum h_this h_kinds h_values h_followers i_count_4 h_openLists h_lastParts i_openCount, ar_ h_followers c_followers 200 f_followers_5, ar_ h_kinds c_kinds 200 f_kinds_6, ar_ h_lastParts c_lastParts 12 f_lastParts_7, ar_ h_openLists c_openLists 12 f_openLists, ar_ h_values c_values 200 f_values_8] := hD
        refine lv_if_eq (tgt := 128) hx hb d_Datum_readNumber_120 (by decide) (fun c_9 => ?_) (fun c_9 => ?_)
        · have hw := hw.1 c_9
          refine lv_iconst (v := (-1)) hx hb d_Datum_readNumber_128 (by decide) ?_
          have hP9 : va_P (dC, dI) vwCl [ob_Datum h_this h_kinds h_values h_followers i_count_4 h_openLists h_lastParts i_openCount, ar_ h_followers c_followers 200 f_followers_5, ar_ h_kinds c_kinds 200 f_kinds_6, ar_ h_lastParts c_lastParts 12 f_lastParts_7, ar_ h_openLists c_openLists 12 f_openLists, ar_ h_values c_values 200 f_values_8, ar_ h_p1 c_p1 200 f_p1] _ := (hP.sub [1, 2, 3, 4, 5, 6, 0] rfl)
          have hD9 : va_D A [ob_Datum h_this h_kinds h_values h_followers i_count_4 h_openLists h_lastParts i_openCount, ar_ h_followers c_followers 200 f_followers_5, ar_ h_kinds c_kinds 200 f_kinds_6, ar_ h_lastParts c_lastParts 12 f_lastParts_7, ar_ h_openLists c_openLists 12 f_openLists, ar_ h_values c_values 200 f_values_8, ar_ h_p1 c_p1 200 f_p1] := (hD.sub [1, 2, 3, 4, 5, 6, 0] (by decide) rfl)
          rw [hQ]
          exact W.iret (v := (-1 : Int32)) hx hb hr (fun t ht hW => ⟨⟨(-1 : Int32), (i_count_4, f_followers_5, f_kinds_6, f_lastParts_7, f_values_8), rfl, hw, by rw [ht]; exact hP9, va_K.moved hW.alike hK, hD9⟩, hS.F ht⟩) hS.2.2 d_Datum_readNumber_129
        · have hw := hw.2 c_9
          refine lv_iload hx hb d_Datum_readNumber_123 (lv_at hl 4 rfl) ?_
          refine lv_goto (tgt := 129) hx hb d_Datum_readNumber_125 (by decide) ?_
          have hP9 : va_P (dC, dI) vwCl [ob_Datum h_this h_kinds h_values h_followers i_count_4 h_openLists h_lastParts i_openCount, ar_ h_followers c_followers 200 f_followers_5, ar_ h_kinds c_kinds 200 f_kinds_6, ar_ h_lastParts c_lastParts 12 f_lastParts_7, ar_ h_openLists c_openLists 12 f_openLists, ar_ h_values c_values 200 f_values_8, ar_ h_p1 c_p1 200 f_p1] _ := (hP.sub [1, 2, 3, 4, 5, 6, 0] rfl)
          have hD9 : va_D A [ob_Datum h_this h_kinds h_values h_followers i_count_4 h_openLists h_lastParts i_openCount, ar_ h_followers c_followers 200 f_followers_5, ar_ h_kinds c_kinds 200 f_kinds_6, ar_ h_lastParts c_lastParts 12 f_lastParts_7, ar_ h_openLists c_openLists 12 f_openLists, ar_ h_values c_values 200 f_values_8, ar_ h_p1 c_p1 200 f_p1] := (hD.sub [1, 2, 3, 4, 5, 6, 0] (by decide) rfl)
          rw [hQ]
          exact W.iret (v := v7) hx hb hr (fun t ht hW => ⟨⟨v7, (i_count_4, f_followers_5, f_kinds_6, f_lastParts_7, f_values_8), rfl, hw, by rw [ht]; exact hP9, va_K.moved hW.alike hK, hD9⟩, hS.F ht⟩) hS.2.2 d_Datum_readNumber_129
      · have hw := hw.2 c_2
        refine lv_iload hx hb d_Datum_readNumber_109 (lv_at hl 3 rfl) ?_
        refine lv_ineg hx hb d_Datum_readNumber_111 ?_
        refine lv_goto (tgt := 117) hx hb d_Datum_readNumber_112 (by decide) ?_
        have hPc := hP.sub (ws' := [ob_Datum h_this h_kinds h_values h_followers i_count h_openLists h_lastParts i_openCount, ar_ h_followers c_followers 200 f_followers, ar_ h_kinds c_kinds 200 f_kinds, ar_ h_lastParts c_lastParts 12 f_lastParts, ar_ h_openLists c_openLists 12 f_openLists, ar_ h_values c_values 200 f_values]) [0, 1, 2, 3, 4, 5] rfl
        have hDc := hD.sub (ws' := [ob_Datum h_this h_kinds h_values h_followers i_count h_openLists h_lastParts i_openCount, ar_ h_followers c_followers 200 f_followers, ar_ h_kinds c_kinds 200 f_kinds, ar_ h_lastParts c_lastParts 12 f_lastParts, ar_ h_openLists c_openLists 12 f_openLists, ar_ h_values c_values 200 f_values]) [0, 1, 2, 3, 4, 5] (by decide) rfl
        have hKc := hK.sub (tys' := [(c_followers, .int), (c_kinds, .int), (c_lastParts, .int), (c_openLists, .int), (c_values, .int)]) [0, 1, 2, 3, 4] rfl
        have hFc := va_free (wc := [ob_Datum h_this h_kinds h_values h_followers i_count h_openLists h_lastParts i_openCount, ar_ h_followers c_followers 200 f_followers, ar_ h_kinds c_kinds 200 f_kinds, ar_ h_lastParts c_lastParts 12 f_lastParts, ar_ h_openLists c_openLists 12 f_openLists, ar_ h_values c_values 200 f_values]) hD hS hA [0, 1, 2, 3, 4, 5] rfl
        refine va_calli (va_runV (As := [.int (0 : Int32), .int (-v6)]) (rest := []) ⟨hx, hb, hml, hown, hts⟩ (c_Datum_addNode l dC dI h_this h_followers h_kinds h_lastParts h_openLists h_values c_followers c_kinds c_lastParts c_openLists c_values H.size i_count i_openCount f_followers f_kinds f_lastParts f_openLists f_values (0 : Int32) (-v6) _ hw) (cwV 2 hts (gd_V kt_367 kt_369 ks_2 kt_2 kt_370) rfl rfl rfl (by decide +kernel) ⟨Nat.le_of_ble_eq_true rfl, Nat.le_of_ble_eq_true rfl⟩) ⟨pre_blind, va_recv hKc hPc (ci := 1) (q0 := 0) rfl rfl, pre_ok hPc hKc hDc hG hS hFc⟩ rfl rfl hl.1 rfl (lv_room (Nat.le_of_ble_eq_true rfl)) d_Datum_readNumber_117 ⟨Nat.zero_le _, Nat.zero_le _⟩) hS (fun q _ h => hFc q h) hFc (fun r_10 u t H1 locs ht hvm hw hB hz1 hk1 hS => ?_)
        obtain ⟨i_count_11, f_followers_12, f_kinds_13, f_lastParts_14, f_values_15⟩ := u
        obtain ⟨hP1, hK1, hD1⟩ := hB
        rw [ht] at hP1
        try dsimp only at hw
        obtain ⟨hP, hD⟩ := va_join (wr := [ar_ h_p1 c_p1 200 f_p1]) (w1 := [ob_Datum h_this h_kinds h_values h_followers i_count_11 h_openLists h_lastParts i_openCount, ar_ h_followers c_followers 200 f_followers_12, ar_ h_kinds c_kinds 200 f_kinds_13, ar_ h_lastParts c_lastParts 12 f_lastParts_14, ar_ h_openLists c_openLists 12 f_openLists, ar_ h_values c_values 200 f_values_15]) hP hD [0, 1, 2, 3, 4, 5] [6] rfl rfl (by decide) (by decide) hk1 hFc hP1 hD1
        generalize H1 = H at hP hS ⊢
        have hP : va_P (dC, dI) vwCl [ar_ h_p1 c_p1 200 f_p1, ob_Datum h_this h_kinds h_values h_followers i_count_11 h_openLists h_lastParts i_openCount, ar_ h_followers c_followers 200 f_followers_12, ar_ h_kinds c_kinds 200 f_kinds_13, ar_ h_lastParts c_lastParts 12 f_lastParts_14, ar_ h_openLists c_openLists 12 f_openLists, ar_ h_values c_values 200 f_values_15] H := hP
        have hD : va_D A [ar_ h_p1 c_p1 200 f_p1, ob_Datum h_this h_kinds h_values h_followers i_count_11 h_openLists h_lastParts i_openCount, ar_ h_followers c_followers 200 f_followers_12, ar_ h_kinds c_kinds 200 f_kinds_13, ar_ h_lastParts c_lastParts 12 f_lastParts_14, ar_ h_openLists c_openLists 12 f_openLists, ar_ h_values c_values 200 f_values_15] := hD
        refine lv_if_eq (tgt := 128) hx hb d_Datum_readNumber_120 (by decide) (fun c_16 => ?_) (fun c_16 => ?_)
        · have hw := hw.1 c_16
          refine lv_iconst (v := (-1)) hx hb d_Datum_readNumber_128 (by decide) ?_
          have hP9 : va_P (dC, dI) vwCl [ob_Datum h_this h_kinds h_values h_followers i_count_11 h_openLists h_lastParts i_openCount, ar_ h_followers c_followers 200 f_followers_12, ar_ h_kinds c_kinds 200 f_kinds_13, ar_ h_lastParts c_lastParts 12 f_lastParts_14, ar_ h_openLists c_openLists 12 f_openLists, ar_ h_values c_values 200 f_values_15, ar_ h_p1 c_p1 200 f_p1] _ := (hP.sub [1, 2, 3, 4, 5, 6, 0] rfl)
          have hD9 : va_D A [ob_Datum h_this h_kinds h_values h_followers i_count_11 h_openLists h_lastParts i_openCount, ar_ h_followers c_followers 200 f_followers_12, ar_ h_kinds c_kinds 200 f_kinds_13, ar_ h_lastParts c_lastParts 12 f_lastParts_14, ar_ h_openLists c_openLists 12 f_openLists, ar_ h_values c_values 200 f_values_15, ar_ h_p1 c_p1 200 f_p1] := (hD.sub [1, 2, 3, 4, 5, 6, 0] (by decide) rfl)
          rw [hQ]
          exact W.iret (v := (-1 : Int32)) hx hb hr (fun t ht hW => ⟨⟨(-1 : Int32), (i_count_11, f_followers_12, f_kinds_13, f_lastParts_14, f_values_15), rfl, hw, by rw [ht]; exact hP9, va_K.moved hW.alike hK, hD9⟩, hS.F ht⟩) hS.2.2 d_Datum_readNumber_129
        · have hw := hw.2 c_16
          refine lv_iload hx hb d_Datum_readNumber_123 (lv_at hl 4 rfl) ?_
          refine lv_goto (tgt := 129) hx hb d_Datum_readNumber_125 (by decide) ?_
          have hP9 : va_P (dC, dI) vwCl [ob_Datum h_this h_kinds h_values h_followers i_count_11 h_openLists h_lastParts i_openCount, ar_ h_followers c_followers 200 f_followers_12, ar_ h_kinds c_kinds 200 f_kinds_13, ar_ h_lastParts c_lastParts 12 f_lastParts_14, ar_ h_openLists c_openLists 12 f_openLists, ar_ h_values c_values 200 f_values_15, ar_ h_p1 c_p1 200 f_p1] _ := (hP.sub [1, 2, 3, 4, 5, 6, 0] rfl)
          have hD9 : va_D A [ob_Datum h_this h_kinds h_values h_followers i_count_11 h_openLists h_lastParts i_openCount, ar_ h_followers c_followers 200 f_followers_12, ar_ h_kinds c_kinds 200 f_kinds_13, ar_ h_lastParts c_lastParts 12 f_lastParts_14, ar_ h_openLists c_openLists 12 f_openLists, ar_ h_values c_values 200 f_values_15, ar_ h_p1 c_p1 200 f_p1] := (hD.sub [1, 2, 3, 4, 5, 6, 0] (by decide) rfl)
          rw [hQ]
          exact W.iret (v := v7) hx hb hr (fun t ht hW => ⟨⟨v7, (i_count_11, f_followers_12, f_kinds_13, f_lastParts_14, f_values_15), rfl, hw, by rw [ht]; exact hP9, va_K.moved hW.alike hK, hD9⟩, hS.F ht⟩) hS.2.2 d_Datum_readNumber_129
  have J94 : ∀ (v4 : Int32) (v6 : Int32) (v7 : Int32) (i_count : Int32) (f_followers : Nat → Int32) (f_kinds : Nat → Int32) (f_lastParts : Nat → Int32) (f_values : Nat → Int32) (H : Heap) (locs : List Loc) (ls : Array Slot), lv_has ls 9 [(0, .ref h_this), (4, .int v4), (6, .int v6), (7, .int v7)] → va_P (dC, dI) vwCl [ob_Datum h_this h_kinds h_values h_followers i_count h_openLists h_lastParts i_openCount, ar_ h_followers c_followers 200 f_followers, ar_ h_kinds c_kinds 200 f_kinds, ar_ h_lastParts c_lastParts 12 f_lastParts, ar_ h_openLists c_openLists 12 f_openLists, ar_ h_values c_values 200 f_values, ar_ h_p1 c_p1 200 f_p1] H → va_D A [ob_Datum h_this h_kinds h_values h_followers i_count h_openLists h_lastParts i_openCount, ar_ h_followers c_followers 200 f_followers, ar_ h_kinds c_kinds 200 f_kinds, ar_ h_lastParts c_lastParts 12 f_lastParts, ar_ h_openLists c_openLists 12 f_openLists, ar_ h_values c_values 200 f_values, ar_ h_p1 c_p1 200 f_p1] → va_S A s.heap H locs → wp_Datum_readNumber_J94 i_openCount f_openLists f_p1 post v4 v6 v7 i_count f_followers f_kinds f_lastParts f_values → W p l e (headSpec (ws_ y_Datum_readNumber b_Datum_readNumber 9 (some .int)) { frames := 2, cells := 0, slots := 0, locals := 44 }).room s m ([.ref h_this, .ref h_p1, .int x2, .int x3] : List Value).toArray below meth c H locs 0 0 Q (F0 m 94 ls []) := by
    intro v4 v6 v7 i_count f_followers f_kinds f_lastParts f_values H locs ls hl hP hD hS hw
    unfold wp_Datum_readNumber_J94 at hw
    refine lv_iconst (v := 0) hx hb d_Datum_readNumber_94 (by decide) ?_
    exact J95 v4 v6 v7 (0 : Int32) i_count f_followers f_kinds f_lastParts f_values _ _ ls (lv_sub hl [0, 1, 2, 3] rfl) hP hD hS hw
  have J73 : ∀ (v4 : Int32) (v5 : Int32) (v6 : Int32) (v7 : Int32) (i_count : Int32) (f_followers : Nat → Int32) (f_kinds : Nat → Int32) (f_lastParts : Nat → Int32) (f_values : Nat → Int32) (H : Heap) (locs : List Loc) (ls : Array Slot), lv_has ls 9 [(0, .ref h_this), (4, .int v4), (5, .int v5), (6, .int v6), (7, .int v7)] → va_P (dC, dI) vwCl [ob_Datum h_this h_kinds h_values h_followers i_count h_openLists h_lastParts i_openCount, ar_ h_followers c_followers 200 f_followers, ar_ h_kinds c_kinds 200 f_kinds, ar_ h_lastParts c_lastParts 12 f_lastParts, ar_ h_openLists c_openLists 12 f_openLists, ar_ h_values c_values 200 f_values, ar_ h_p1 c_p1 200 f_p1] H → va_D A [ob_Datum h_this h_kinds h_values h_followers i_count h_openLists h_lastParts i_openCount, ar_ h_followers c_followers 200 f_followers, ar_ h_kinds c_kinds 200 f_kinds, ar_ h_lastParts c_lastParts 12 f_lastParts, ar_ h_openLists c_openLists 12 f_openLists, ar_ h_values c_values 200 f_values, ar_ h_p1 c_p1 200 f_p1] → va_S A s.heap H locs → wp_Datum_readNumber_J73 i_openCount f_openLists f_p1 post v4 v5 v6 v7 i_count f_followers f_kinds f_lastParts f_values → W p l e (headSpec (ws_ y_Datum_readNumber b_Datum_readNumber 9 (some .int)) { frames := 2, cells := 0, slots := 0, locals := 44 }).room s m ([.ref h_this, .ref h_p1, .int x2, .int x3] : List Value).toArray below meth c H locs 0 0 Q (F0 m 73 ls []) := by
    intro v4 v5 v6 v7 i_count f_followers f_kinds f_lastParts f_values H locs ls hl hP hD hS hw
    unfold wp_Datum_readNumber_J73 at hw
    refine lv_iload hx hb d_Datum_readNumber_73 (lv_at hl 4 rfl) ?_
    refine lv_iload hx hb d_Datum_readNumber_75 (lv_at hl 2 rfl) ?_
    refine lv_icmp_le (tgt := 94) hx hb d_Datum_readNumber_77 (by decide) (fun c_17 => ?_) (fun c_17 => ?_)
    · have hw := hw.1 c_17
      exact J94 v4 v6 v7 i_count f_followers f_kinds f_lastParts f_values _ _ ls (lv_sub hl [0, 1, 3, 4] rfl) hP hD hS hw
    · have hw := hw.2 c_17
      refine lv_iload hx hb d_Datum_readNumber_80 (lv_at hl 4 rfl) ?_
      refine lv_iload hx hb d_Datum_readNumber_82 (lv_at hl 2 rfl) ?_
      refine lv_isub hx hb d_Datum_readNumber_84 ?_
      refine lv_bipush (v := 9) hx hb d_Datum_readNumber_85 (by decide) ?_
      refine lv_icmp_gt (tgt := 94) hx hb d_Datum_readNumber_87 (by decide) (fun c_18 => ?_) (fun c_18 => ?_)
      · have hw := hw.1 c_18
        exact J94 v4 v6 v7 i_count f_followers f_kinds f_lastParts f_values _ _ ls (lv_sub hl [0, 1, 3, 4] rfl) hP hD hS hw
      · have hw := hw.2 c_18
        refine lv_iconst (v := 1) hx hb d_Datum_readNumber_90 (by decide) ?_
        refine lv_goto (tgt := 95) hx hb d_Datum_readNumber_91 (by decide) ?_
        exact J95 v4 v6 v7 (1 : Int32) i_count f_followers f_kinds f_lastParts f_values _ _ ls (lv_sub hl [0, 1, 3, 4] rfl) hP hD hS hw
  have J27 : ∀ (v2 : Int32) (v4 : Int32) (y0 : Int32) (i_count : Int32) (f_followers : Nat → Int32) (f_kinds : Nat → Int32) (f_lastParts : Nat → Int32) (f_values : Nat → Int32) (H : Heap) (locs : List Loc) (ls : Array Slot), lv_has ls 9 [(0, .ref h_this), (1, .ref h_p1), (2, .int v2), (4, .int v4)] → va_P (dC, dI) vwCl [ob_Datum h_this h_kinds h_values h_followers i_count h_openLists h_lastParts i_openCount, ar_ h_followers c_followers 200 f_followers, ar_ h_kinds c_kinds 200 f_kinds, ar_ h_lastParts c_lastParts 12 f_lastParts, ar_ h_openLists c_openLists 12 f_openLists, ar_ h_values c_values 200 f_values, ar_ h_p1 c_p1 200 f_p1] H → va_D A [ob_Datum h_this h_kinds h_values h_followers i_count h_openLists h_lastParts i_openCount, ar_ h_followers c_followers 200 f_followers, ar_ h_kinds c_kinds 200 f_kinds, ar_ h_lastParts c_lastParts 12 f_lastParts, ar_ h_openLists c_openLists 12 f_openLists, ar_ h_values c_values 200 f_values, ar_ h_p1 c_p1 200 f_p1] → va_S A s.heap H locs → wp_Datum_readNumber_J27 i_openCount f_openLists f_p1 post v2 v4 y0 i_count f_followers f_kinds f_lastParts f_values → W p l e (headSpec (ws_ y_Datum_readNumber b_Datum_readNumber 9 (some .int)) { frames := 2, cells := 0, slots := 0, locals := 44 }).room s m ([.ref h_this, .ref h_p1, .int x2, .int x3] : List Value).toArray below meth c H locs 0 0 Q (F0 m 27 ls [.int y0]) := by
    intro v2 v4 y0 i_count f_followers f_kinds f_lastParts f_values H locs ls hl hP hD hS hw
    unfold wp_Datum_readNumber_J27 at hw
    refine lv_istore (lv' := [(5, .int y0), (0, .ref h_this), (1, .ref h_p1), (2, .int v2), (4, .int v4)]) hx hb d_Datum_readNumber_27 hl (by decide) rfl (fun ls hl => ?_)
    refine lv_iconst (v := 0) hx hb d_Datum_readNumber_29 (by decide) ?_
    refine lv_istore (lv' := [(6, .int (0 : Int32)), (5, .int y0), (0, .ref h_this), (1, .ref h_p1), (2, .int v2), (4, .int v4)]) hx hb d_Datum_readNumber_30 hl (by decide) rfl (fun ls hl => ?_)
    refine lv_iload hx hb d_Datum_readNumber_32 (lv_at hl 1 rfl) ?_
    refine lv_istore (lv' := [(7, .int y0), (6, .int (0 : Int32)), (5, .int y0), (0, .ref h_this), (1, .ref h_p1), (2, .int v2), (4, .int v4)]) hx hb d_Datum_readNumber_34 hl (by decide) rfl (fun ls hl => ?_)
    have L36 : ∀ (K73 : Int32 → Int32 → Int32 → Int32 → Int32 → (Nat → Int32) → (Nat → Int32) → (Nat → Int32) → (Nat → Int32) → Prop), (∀ (v4 : Int32) (v5 : Int32) (v6 : Int32) (v7 : Int32) (i_count : Int32) (f_followers : Nat → Int32) (f_kinds : Nat → Int32) (f_lastParts : Nat → Int32) (f_values : Nat → Int32) (H : Heap) (locs : List Loc) (ls : Array Slot), lv_has ls 9 [(0, .ref h_this), (4, .int v4), (5, .int v5), (6, .int v6), (7, .int v7)] → va_P (dC, dI) vwCl [ob_Datum h_this h_kinds h_values h_followers i_count h_openLists h_lastParts i_openCount, ar_ h_followers c_followers 200 f_followers, ar_ h_kinds c_kinds 200 f_kinds, ar_ h_lastParts c_lastParts 12 f_lastParts, ar_ h_openLists c_openLists 12 f_openLists, ar_ h_values c_values 200 f_values, ar_ h_p1 c_p1 200 f_p1] H → va_D A [ob_Datum h_this h_kinds h_values h_followers i_count h_openLists h_lastParts i_openCount, ar_ h_followers c_followers 200 f_followers, ar_ h_kinds c_kinds 200 f_kinds, ar_ h_lastParts c_lastParts 12 f_lastParts, ar_ h_openLists c_openLists 12 f_openLists, ar_ h_values c_values 200 f_values, ar_ h_p1 c_p1 200 f_p1] → va_S A s.heap H locs → K73 v4 v5 v6 v7 i_count f_followers f_kinds f_lastParts f_values → W p l e (headSpec (ws_ y_Datum_readNumber b_Datum_readNumber 9 (some .int)) { frames := 2, cells := 0, slots := 0, locals := 44 }).room s m ([.ref h_this, .ref h_p1, .int x2, .int x3] : List Value).toArray below meth c H locs 0 0 Q (F0 m 73 ls [])) → ∀ fu36 : Nat, ∀ (v2 : Int32) (v4 : Int32) (v5 : Int32) (v6 : Int32) (v7 : Int32) (i_count : Int32) (f_followers : Nat → Int32) (f_kinds : Nat → Int32) (f_lastParts : Nat → Int32) (f_values : Nat → Int32) (H : Heap) (locs : List Loc) (ls : Array Slot), lv_has ls 9 [(0, .ref h_this), (1, .ref h_p1), (2, .int v2), (4, .int v4), (5, .int v5), (6, .int v6), (7, .int v7)] → va_P (dC, dI) vwCl [ob_Datum h_this h_kinds h_values h_followers i_count h_openLists h_lastParts i_openCount, ar_ h_followers c_followers 200 f_followers, ar_ h_kinds c_kinds 200 f_kinds, ar_ h_lastParts c_lastParts 12 f_lastParts, ar_ h_openLists c_openLists 12 f_openLists, ar_ h_values c_values 200 f_values, ar_ h_p1 c_p1 200 f_p1] H → va_D A [ob_Datum h_this h_kinds h_values h_followers i_count h_openLists h_lastParts i_openCount, ar_ h_followers c_followers 200 f_followers, ar_ h_kinds c_kinds 200 f_kinds, ar_ h_lastParts c_lastParts 12 f_lastParts, ar_ h_openLists c_openLists 12 f_openLists, ar_ h_values c_values 200 f_values, ar_ h_p1 c_p1 200 f_p1] → va_S A s.heap H locs → wp_Datum_readNumber_L36 i_openCount f_openLists f_p1 K73 post fu36 v2 v4 v5 v6 v7 i_count f_followers f_kinds f_lastParts f_values → W p l e (headSpec (ws_ y_Datum_readNumber b_Datum_readNumber 9 (some .int)) { frames := 2, cells := 0, slots := 0, locals := 44 }).room s m ([.ref h_this, .ref h_p1, .int x2, .int x3] : List Value).toArray below meth c H locs 0 0 Q (F0 m 36 ls []) := by
      intro K73 hK73 fu36
      induction fu36 with
      | zero => intro v2 v4 v5 v6 v7 i_count f_followers f_kinds f_lastParts f_values H locs ls hl hP hD hS hw; exact False.elim hw
      | succ fu36 ih36 =>
          intro v2 v4 v5 v6 v7 i_count f_followers f_kinds f_lastParts f_values H locs ls hl hP hD hS hw
          unfold wp_Datum_readNumber_L36 at hw
          refine lv_iload hx hb d_Datum_readNumber_36 (lv_at hl 6 rfl) ?_
          refine lv_iload_n hx hb d_Datum_readNumber_38 rfl (lv_at hl 2 rfl) ?_
          refine lv_icmp_ge (tgt := 73) hx hb d_Datum_readNumber_39 (by decide) (fun c_19 => ?_) (fun c_19 => ?_)
          · have hw := hw.1 c_19
            exact hK73 v4 v5 v6 v7 i_count f_followers f_kinds f_lastParts f_values _ _ ls (lv_sub hl [0, 3, 4, 5, 6] rfl) hP hD hS hw
          · have hw := hw.2 c_19
            refine lv_aload_n hx hb d_Datum_readNumber_42 rfl (lv_at hl 1 rfl) ?_
            refine lv_iload hx hb d_Datum_readNumber_43 (lv_at hl 6 rfl) ?_
            obtain ⟨h_20, hw⟩ := hw
            refine va_cald hx hb hK hP 6 5 rfl rfl h_20 d_Datum_readNumber_45 ?_
            have hPc := hP.sub (ws' := []) [] rfl
            have hDc := hD.sub (ws' := []) [] (by decide) rfl
            have hKc := hK.sub (tys' := []) [] rfl
            have hFc := va_free (wc := []) hD hS hA [] rfl
            refine va_calli (va_runSN (As := [.int (f_p1 v7.toNatClampNeg)]) (rest := []) ⟨hx, hb, hml, hown, hts⟩ (c_Secd_isDigit l dC dI H.size (f_p1 v7.toNatClampNeg) _ hw) ⟨va_cnB 1 hts (gd_W kt_343) rfl rfl rfl (gb_nw 4 rfl hG) (hts _ kt_1) (by decide +kernel) ⟨Nat.le_of_ble_eq_true rfl, Nat.le_of_ble_eq_true rfl⟩, hts _ kt_342, trivial⟩ ⟨pre_blind, pre_ok hPc hKc hDc hG hS hFc⟩ rfl rfl hl.1 rfl (lv_room (Nat.le_of_ble_eq_true rfl)) d_Datum_readNumber_46 ⟨Nat.zero_le _, Nat.zero_le _⟩) hS (fun q _ h => hFc q h) hFc (fun r_21 u t H1 locs ht hvm hw hB hz1 hk1 hS => ?_)
            obtain ⟨hP1, hK1, hD1⟩ := hB
            rw [ht] at hP1
            try dsimp only at hw
            obtain ⟨hP, hD⟩ := va_join (wr := [ob_Datum h_this h_kinds h_values h_followers i_count h_openLists h_lastParts i_openCount, ar_ h_followers c_followers 200 f_followers, ar_ h_kinds c_kinds 200 f_kinds, ar_ h_lastParts c_lastParts 12 f_lastParts, ar_ h_openLists c_openLists 12 f_openLists, ar_ h_values c_values 200 f_values, ar_ h_p1 c_p1 200 f_p1]) (w1 := []) hP hD [] [0, 1, 2, 3, 4, 5, 6] rfl rfl (by decide) (by decide) hk1 hFc hP1 hD1
            generalize H1 = H at hP hS ⊢
            have hP : va_P (dC, dI) vwCl [ob_Datum h_this h_kinds h_values h_followers i_count h_openLists h_lastParts i_openCount, ar_ h_followers c_followers 200 f_followers, ar_ h_kinds c_kinds 200 f_kinds, ar_ h_lastParts c_lastParts 12 f_lastParts, ar_ h_openLists c_openLists 12 f_openLists, ar_ h_values c_values 200 f_values, ar_ h_p1 c_p1 200 f_p1] H := hP
            have hD : va_D A [ob_Datum h_this h_kinds h_values h_followers i_count h_openLists h_lastParts i_openCount, ar_ h_followers c_followers 200 f_followers, ar_ h_kinds c_kinds 200 f_kinds, ar_ h_lastParts c_lastParts 12 f_lastParts, ar_ h_openLists c_openLists 12 f_openLists, ar_ h_values c_values 200 f_values, ar_ h_p1 c_p1 200 f_p1] := hD
            refine lv_if_eq (tgt := 73) hx hb d_Datum_readNumber_49 (by decide) (fun c_22 => ?_) (fun c_22 => ?_)
            · have hw := hw.1 c_22
              exact hK73 v4 v5 v6 v7 i_count f_followers f_kinds f_lastParts f_values _ _ ls (lv_sub hl [0, 3, 4, 5, 6] rfl) hP hD hS hw
            · have hw := hw.2 c_22
              refine lv_bipush (v := 10) hx hb d_Datum_readNumber_52 (by decide) ?_
              refine lv_iload hx hb d_Datum_readNumber_54 (lv_at hl 5 rfl) ?_
              refine lv_imul hx hb d_Datum_readNumber_56 ?_
              refine lv_aload_n hx hb d_Datum_readNumber_57 rfl (lv_at hl 1 rfl) ?_
              refine lv_iload hx hb d_Datum_readNumber_58 (lv_at hl 6 rfl) ?_
              obtain ⟨h_23, hw⟩ := hw
              refine va_cald hx hb hK hP 6 5 rfl rfl h_23 d_Datum_readNumber_60 ?_
              refine lv_bipush (v := 48) hx hb d_Datum_readNumber_61 (by decide) ?_
              refine lv_isub hx hb d_Datum_readNumber_63 ?_
              refine lv_iadd hx hb d_Datum_readNumber_64 ?_
              refine lv_topi (fun x6_24 ex6_24 => ?_)
              have hw := hw x6_24 ex6_24
              refine lv_istore (lv' := [(6, .int x6_24), (0, .ref h_this), (1, .ref h_p1), (2, .int v2), (4, .int v4), (5, .int v5), (7, .int v7)]) hx hb d_Datum_readNumber_65 hl (by decide) rfl (fun ls hl => ?_)
              refine lv_iinc (v := v7 + (1 : Int32)) (lv' := [(7, .int (v7 + (1 : Int32))), (6, .int x6_24), (0, .ref h_this), (1, .ref h_p1), (2, .int v2), (4, .int v4), (5, .int v5)]) hx hb d_Datum_readNumber_67 hl (k := 6) rfl rfl (by decide) rfl (fun ls hl => ?_)
              refine lv_goto (tgt := 36) hx hb d_Datum_readNumber_70 (by decide) ?_
              exact ih36 v2 v4 v5 x6_24 (v7 + (1 : Int32)) i_count f_followers f_kinds f_lastParts f_values _ _ ls (lv_sub hl [2, 3, 4, 5, 6, 1, 0] rfl) hP hD hS hw
    obtain ⟨fu36, hw⟩ := hw
    exact L36 _ J73 fu36 v2 v4 y0 (0 : Int32) y0 i_count f_followers f_kinds f_lastParts f_values _ _ ls (lv_sub hl [3, 4, 5, 6, 2, 1, 0] rfl) hP hD hS hw
  have J13 : ∀ (v2 : Int32) (v3 : Int32) (y0 : Int32) (i_count : Int32) (f_followers : Nat → Int32) (f_kinds : Nat → Int32) (f_lastParts : Nat → Int32) (f_values : Nat → Int32) (H : Heap) (locs : List Loc) (ls : Array Slot), lv_has ls 9 [(0, .ref h_this), (1, .ref h_p1), (2, .int v2), (3, .int v3)] → va_P (dC, dI) vwCl [ob_Datum h_this h_kinds h_values h_followers i_count h_openLists h_lastParts i_openCount, ar_ h_followers c_followers 200 f_followers, ar_ h_kinds c_kinds 200 f_kinds, ar_ h_lastParts c_lastParts 12 f_lastParts, ar_ h_openLists c_openLists 12 f_openLists, ar_ h_values c_values 200 f_values, ar_ h_p1 c_p1 200 f_p1] H → va_D A [ob_Datum h_this h_kinds h_values h_followers i_count h_openLists h_lastParts i_openCount, ar_ h_followers c_followers 200 f_followers, ar_ h_kinds c_kinds 200 f_kinds, ar_ h_lastParts c_lastParts 12 f_lastParts, ar_ h_openLists c_openLists 12 f_openLists, ar_ h_values c_values 200 f_values, ar_ h_p1 c_p1 200 f_p1] → va_S A s.heap H locs → wp_Datum_readNumber_J13 i_openCount f_openLists f_p1 post v2 v3 y0 i_count f_followers f_kinds f_lastParts f_values → W p l e (headSpec (ws_ y_Datum_readNumber b_Datum_readNumber 9 (some .int)) { frames := 2, cells := 0, slots := 0, locals := 44 }).room s m ([.ref h_this, .ref h_p1, .int x2, .int x3] : List Value).toArray below meth c H locs 0 0 Q (F0 m 13 ls [.int y0]) := by
    intro v2 v3 y0 i_count f_followers f_kinds f_lastParts f_values H locs ls hl hP hD hS hw
    unfold wp_Datum_readNumber_J13 at hw
    refine lv_istore (lv' := [(4, .int y0), (0, .ref h_this), (1, .ref h_p1), (2, .int v2), (3, .int v3)]) hx hb d_Datum_readNumber_13 hl (by decide) rfl (fun ls hl => ?_)
    refine lv_iload hx hb d_Datum_readNumber_15 (lv_at hl 0 rfl) ?_
    refine lv_if_eq (tgt := 26) hx hb d_Datum_readNumber_17 (by decide) (fun c_25 => ?_) (fun c_25 => ?_)
    · have hw := hw.1 c_25
      refine lv_iload_n hx hb d_Datum_readNumber_26 rfl (lv_at hl 4 rfl) ?_
      exact J27 v2 y0 v3 i_count f_followers f_kinds f_lastParts f_values _ _ ls (lv_sub hl [1, 2, 3, 0] rfl) hP hD hS hw
    · have hw := hw.2 c_25
      refine lv_iload_n hx hb d_Datum_readNumber_20 rfl (lv_at hl 4 rfl) ?_
      refine lv_iconst (v := 1) hx hb d_Datum_readNumber_21 (by decide) ?_
      refine lv_iadd hx hb d_Datum_readNumber_22 ?_
      refine lv_goto (tgt := 27) hx hb d_Datum_readNumber_23 (by decide) ?_
      exact J27 v2 y0 (v3 + (1 : Int32)) i_count f_followers f_kinds f_lastParts f_values _ _ ls (lv_sub hl [1, 2, 3, 0] rfl) hP hD hS hw
  refine lv_aload_n hx hb d_Datum_readNumber_0 rfl (lv_at hl 1 rfl) ?_
  refine lv_iload_n hx hb d_Datum_readNumber_1 rfl (lv_at hl 3 rfl) ?_
  obtain ⟨h_26, hw⟩ := hw
  refine va_cald hx hb hK hP 6 5 rfl rfl h_26 d_Datum_readNumber_2 ?_
  refine lv_bipush (v := 45) hx hb d_Datum_readNumber_3 (by decide) ?_
  refine lv_icmp_ne (tgt := 12) hx hb d_Datum_readNumber_5 (by decide) (fun c_27 => ?_) (fun c_27 => ?_)
  · have hw := hw.2 c_27
    refine lv_iconst (v := 0) hx hb d_Datum_readNumber_12 (by decide) ?_
    exact J13 x2 x3 (0 : Int32) i_count f_followers f_kinds f_lastParts f_values _ _ ls (lv_sub hl [0, 1, 2, 3] rfl) hP hD hS hw
  · have hw := hw.1 c_27
    refine lv_iconst (v := 1) hx hb d_Datum_readNumber_8 (by decide) ?_
    refine lv_goto (tgt := 13) hx hb d_Datum_readNumber_9 (by decide) ?_
    exact J13 x2 x3 (1 : Int32) i_count f_followers f_kinds f_lastParts f_values _ _ ls (lv_sub hl [0, 1, 2, 3] rfl) hP hD hS hw

set_option maxHeartbeats 4000000 in
set_option maxRecDepth 100000 in
theorem c_Names_withLetter (l : Launch) (dC : Nat → ClassId) (dI : Nat → Nat → Nat)   (sz : Nat)   (x0 : Int32) (x1 : Int32) (post : Int32 → Prop) (hw : wp_Names_withLetter  x0 x1 post) : Met l y_Names_withLetter (ws_ y_Names_withLetter b_Names_withLetter 2 (some .int)) { frames := 0, cells := 0, slots := 0, locals := 0 } (va_Pc [.int x0, .int x1] (PRE (dC, dI) vwCl [] [] sz (va_A [] sz))) (va_Qi (fun (r : Int32) (u : Unit) => post r ) (fun (u : Unit) (t : State) => va_P (dC, dI) vwCl [] t.heap ∧ va_K (dC, dI) vwCl [] t ∧ va_D (va_A [] sz) []) (va_A [] sz)) 0 0 (va_A [] sz) := by
  refine Met.ofW (cc := b_Names_withLetter) (maxL := 2) (ret := (some .int)) (by decide) rfl ?_
  intro p e s m args below meth c s₁ B hml hv
  obtain ⟨rfl, hsz, hP, hK, hD0, hG⟩ := hv
  have hx := B.exec
  have hb := B.bytes
  have hr := B.returns
  have hts : ∀ w ∈ tb, w.before _ s = true := fun w h => atoms_spec (ws := ws_ _ _ _ _) B.pre w (List.mem_cons_of_mem _ h)
  have hown : s.vm.findClass R_Names = some m.cls := findClass_of_methodNamed B.named
  have hlocks := B.notSynchronized
  subst hsz
  have hD := hD0.self (sz := s.heap.size)
  generalize hAe : va_A [] s.heap.size = A at hD hG ⊢
  have hA : ∀ q : Nat, s.heap.size ≤ q → A q := fun q h => by rw [← hAe]; exact Or.inr h
  have hS : va_S A s.heap s.heap [] := va_S.rf
  have hP : va_P (dC, dI) vwCl [] s.heap := hP
  have hl := lv_entry [.int x0, .int x1] (n := 2) (Nat.le_of_ble_eq_true rfl)
  rw [lg_entry_eq]
  generalize (lg_sl [.int x0, .int x1] ++ List.replicate (2 - (lg_sl [.int x0, .int x1]).length) Slot.unset).toArray = ls at hl ⊢
  have hl : lv_has ls 2 [(0, .int x0), (1, .int x1)] := hl
  obtain ⟨Q, hQ⟩ : ∃ Q : State → Prop, Q = MQ below (va_Qi (fun (r : Int32) (u : Unit) => post r ) (fun (u : Unit) (t : State) => va_P (dC, dI) vwCl [] t.heap ∧ va_K (dC, dI) vwCl [] t ∧ va_D A []) A) ([.int x0, .int x1] : List Value).toArray s 0 0 A := ⟨_, rfl⟩
  rw [← hQ]
  unfold wp_Names_withLetter at hw
  refine lv_iload_n hx hb d_Names_withLetter_0 rfl (lv_at hl 0 rfl) ?_
  refine lv_iconst (v := 5) hx hb d_Names_withLetter_1 (by decide) ?_
  refine lv_ishl hx hb d_Names_withLetter_2 ?_
  refine lv_iload_n hx hb d_Names_withLetter_3 rfl (lv_at hl 1 rfl) ?_
  refine lv_bipush (v := 97) hx hb d_Names_withLetter_4 (by decide) ?_
  refine lv_isub hx hb d_Names_withLetter_6 ?_
  refine lv_iconst (v := 1) hx hb d_Names_withLetter_7 (by decide) ?_
  refine lv_iadd hx hb d_Names_withLetter_8 ?_
  refine lv_iadd hx hb d_Names_withLetter_9 ?_
  have hP9 : va_P (dC, dI) vwCl [] _ := hP
  have hD9 : va_D A [] := hD
  rw [hQ]
  exact W.iret (v := (x0 <<< ((5 : Int32) &&& 31)) + ((x1 - (97 : Int32)) + (1 : Int32))) hx hb hr (fun t ht hW => ⟨⟨(x0 <<< ((5 : Int32) &&& 31)) + ((x1 - (97 : Int32)) + (1 : Int32)), (), rfl, hw, by rw [ht]; exact hP9, va_K.moved hW.alike hK, hD9⟩, hS.F ht⟩) hS.2.2 d_Names_withLetter_10

set_option maxHeartbeats 4000000 in
set_option maxRecDepth 100000 in
theorem c_Datum_readName (l : Launch) (dC : Nat → ClassId) (dI : Nat → Nat → Nat) (h_this : Nat) (h_followers : Nat) (h_kinds : Nat) (h_lastParts : Nat) (h_openLists : Nat) (h_values : Nat) (h_p1 : Nat) (c_followers : ClassId) (c_kinds : ClassId) (c_lastParts : ClassId) (c_openLists : ClassId) (c_values : ClassId) (c_p1 : ClassId) (sz : Nat)  (i_count : Int32) (i_openCount : Int32) (f_followers : Nat → Int32) (f_kinds : Nat → Int32) (f_lastParts : Nat → Int32) (f_openLists : Nat → Int32) (f_values : Nat → Int32) (f_p1 : Nat → Int32) (x2 : Int32) (x3 : Int32) (post : Int32 → Int32 → (Nat → Int32) → (Nat → Int32) → (Nat → Int32) → (Nat → Int32) → Prop) (hw : wp_Datum_readName i_count i_openCount f_followers f_kinds f_lastParts f_openLists f_values f_p1 x2 x3 post) : Met l y_Datum_readName (ws_ y_Datum_readName b_Datum_readName 6 (some .int)) { frames := 2, cells := 0, slots := 0, locals := 44 } (va_Pc [.ref h_this, .ref h_p1, .int x2, .int x3] (PRE (dC, dI) vwCl [(c_followers, .int), (c_kinds, .int), (c_lastParts, .int), (c_openLists, .int), (c_values, .int), (c_p1, .char)] [ob_Datum h_this h_kinds h_values h_followers i_count h_openLists h_lastParts i_openCount, ar_ h_followers c_followers 200 f_followers, ar_ h_kinds c_kinds 200 f_kinds, ar_ h_lastParts c_lastParts 12 f_lastParts, ar_ h_openLists c_openLists 12 f_openLists, ar_ h_values c_values 200 f_values, ar_ h_p1 c_p1 200 f_p1] sz (va_A [ob_Datum h_this h_kinds h_values h_followers i_count h_openLists h_lastParts i_openCount, ar_ h_followers c_followers 200 f_followers, ar_ h_kinds c_kinds 200 f_kinds, ar_ h_lastParts c_lastParts 12 f_lastParts, ar_ h_openLists c_openLists 12 f_openLists, ar_ h_values c_values 200 f_values, ar_ h_p1 c_p1 200 f_p1] sz))) (va_Qi (fun (r : Int32) (u : Int32 × (Nat → Int32) × (Nat → Int32) × (Nat → Int32) × (Nat → Int32)) => post r u.1 u.2.1 u.2.2.1 u.2.2.2.1 u.2.2.2.2) (fun (u : Int32 × (Nat → Int32) × (Nat → Int32) × (Nat → Int32) × (Nat → Int32)) (t : State) => va_P (dC, dI) vwCl [ob_Datum h_this h_kinds h_values h_followers u.1 h_openLists h_lastParts i_openCount, ar_ h_followers c_followers 200 u.2.1, ar_ h_kinds c_kinds 200 u.2.2.1, ar_ h_lastParts c_lastParts 12 u.2.2.2.1, ar_ h_openLists c_openLists 12 f_openLists, ar_ h_values c_values 200 u.2.2.2.2, ar_ h_p1 c_p1 200 f_p1] t.heap ∧ va_K (dC, dI) vwCl [(c_followers, .int), (c_kinds, .int), (c_lastParts, .int), (c_openLists, .int), (c_values, .int), (c_p1, .char)] t ∧ va_D (va_A [ob_Datum h_this h_kinds h_values h_followers i_count h_openLists h_lastParts i_openCount, ar_ h_followers c_followers 200 f_followers, ar_ h_kinds c_kinds 200 f_kinds, ar_ h_lastParts c_lastParts 12 f_lastParts, ar_ h_openLists c_openLists 12 f_openLists, ar_ h_values c_values 200 f_values, ar_ h_p1 c_p1 200 f_p1] sz) [ob_Datum h_this h_kinds h_values h_followers u.1 h_openLists h_lastParts i_openCount, ar_ h_followers c_followers 200 u.2.1, ar_ h_kinds c_kinds 200 u.2.2.1, ar_ h_lastParts c_lastParts 12 u.2.2.2.1, ar_ h_openLists c_openLists 12 f_openLists, ar_ h_values c_values 200 u.2.2.2.2, ar_ h_p1 c_p1 200 f_p1]) (va_A [ob_Datum h_this h_kinds h_values h_followers i_count h_openLists h_lastParts i_openCount, ar_ h_followers c_followers 200 f_followers, ar_ h_kinds c_kinds 200 f_kinds, ar_ h_lastParts c_lastParts 12 f_lastParts, ar_ h_openLists c_openLists 12 f_openLists, ar_ h_values c_values 200 f_values, ar_ h_p1 c_p1 200 f_p1] sz)) 0 0 (va_A [ob_Datum h_this h_kinds h_values h_followers i_count h_openLists h_lastParts i_openCount, ar_ h_followers c_followers 200 f_followers, ar_ h_kinds c_kinds 200 f_kinds, ar_ h_lastParts c_lastParts 12 f_lastParts, ar_ h_openLists c_openLists 12 f_openLists, ar_ h_values c_values 200 f_values, ar_ h_p1 c_p1 200 f_p1] sz) := by
  refine Met.ofW (cc := b_Datum_readName) (maxL := 6) (ret := (some .int)) (by decide) rfl ?_
  intro p e s m args below meth c s₁ B hml hv
  obtain ⟨rfl, hsz, hP, hK, hD0, hG⟩ := hv
  have hx := B.exec
  have hb := B.bytes
  have hr := B.returns
  have hts : ∀ w ∈ tb, w.before _ s = true := fun w h => atoms_spec (ws := ws_ _ _ _ _) B.pre w (List.mem_cons_of_mem _ h)
  have hown : s.vm.findClass R_Datum = some m.cls := findClass_of_methodNamed B.named
  have hlocks := B.notSynchronized
  subst hsz
  have hD := hD0.self (sz := s.heap.size)
  generalize hAe : va_A [ob_Datum h_this h_kinds h_values h_followers i_count h_openLists h_lastParts i_openCount, ar_ h_followers c_followers 200 f_followers, ar_ h_kinds c_kinds 200 f_kinds, ar_ h_lastParts c_lastParts 12 f_lastParts, ar_ h_openLists c_openLists 12 f_openLists, ar_ h_values c_values 200 f_values, ar_ h_p1 c_p1 200 f_p1] s.heap.size = A at hD hG ⊢
  have hA : ∀ q : Nat, s.heap.size ≤ q → A q := fun q h => by rw [← hAe]; exact Or.inr h
  have hS : va_S A s.heap s.heap [] := va_S.rf
  have hP : va_P (dC, dI) vwCl [ob_Datum h_this h_kinds h_values h_followers i_count h_openLists h_lastParts i_openCount, ar_ h_followers c_followers 200 f_followers, ar_ h_kinds c_kinds 200 f_kinds, ar_ h_lastParts c_lastParts 12 f_lastParts, ar_ h_openLists c_openLists 12 f_openLists, ar_ h_values c_values 200 f_values, ar_ h_p1 c_p1 200 f_p1] s.heap := hP
  have hl := lv_entry [.ref h_this, .ref h_p1, .int x2, .int x3] (n := 6) (Nat.le_of_ble_eq_true rfl)
  rw [lg_entry_eq]
  generalize (lg_sl [.ref h_this, .ref h_p1, .int x2, .int x3] ++ List.replicate (6 - (lg_sl [.ref h_this, .ref h_p1, .int x2, .int x3]).length) Slot.unset).toArray = ls at hl ⊢
  have hl : lv_has ls 6 [(0, .ref h_this), (1, .ref h_p1), (2, .int x2), (3, .int x3)] := hl
  obtain ⟨Q, hQ⟩ : ∃ Q : State → Prop, Q = MQ below (va_Qi (fun (r : Int32) (u : Int32 × (Nat → Int32) × (Nat → Int32) × (Nat → Int32) × (Nat → Int32)) => post r u.1 u.2.1 u.2.2.1 u.2.2.2.1 u.2.2.2.2) (fun (u : Int32 × (Nat → Int32) × (Nat → Int32) × (Nat → Int32) × (Nat → Int32)) (t : State) => va_P (dC, dI) vwCl [ob_Datum h_this h_kinds h_values h_followers u.1 h_openLists h_lastParts i_openCount, ar_ h_followers c_followers 200 u.2.1, ar_ h_kinds c_kinds 200 u.2.2.1, ar_ h_lastParts c_lastParts 12 u.2.2.2.1, ar_ h_openLists c_openLists 12 f_openLists, ar_ h_values c_values 200 u.2.2.2.2, ar_ h_p1 c_p1 200 f_p1] t.heap ∧ va_K (dC, dI) vwCl [(c_followers, .int), (c_kinds, .int), (c_lastParts, .int), (c_openLists, .int), (c_values, .int), (c_p1, .char)] t ∧ va_D A [ob_Datum h_this h_kinds h_values h_followers u.1 h_openLists h_lastParts i_openCount, ar_ h_followers c_followers 200 u.2.1, ar_ h_kinds c_kinds 200 u.2.2.1, ar_ h_lastParts c_lastParts 12 u.2.2.2.1, ar_ h_openLists c_openLists 12 f_openLists, ar_ h_values c_values 200 u.2.2.2.2, ar_ h_p1 c_p1 200 f_p1]) A) ([.ref h_this, .ref h_p1, .int x2, .int x3] : List Value).toArray s 0 0 A := ⟨_, rfl⟩
  rw [← hQ]
  unfold wp_Datum_readName at hw
  have J39 : ∀ (v3 : Int32) (v4 : Int32) (v5 : Int32) (i_count : Int32) (f_followers : Nat → Int32) (f_kinds : Nat → Int32) (f_lastParts : Nat → Int32) (f_values : Nat → Int32) (H : Heap) (locs : List Loc) (ls : Array Slot), lv_has ls 6 [(0, .ref h_this), (3, .int v3), (4, .int v4), (5, .int v5)] → va_P (dC, dI) vwCl [ob_Datum h_this h_kinds h_values h_followers i_count h_openLists h_lastParts i_openCount, ar_ h_followers c_followers 200 f_followers, ar_ h_kinds c_kinds 200 f_kinds, ar_ h_lastParts c_lastParts 12 f_lastParts, ar_ h_openLists c_openLists 12 f_openLists, ar_ h_values c_values 200 f_values, ar_ h_p1 c_p1 200 f_p1] H → va_D A [ob_Datum h_this h_kinds h_values h_followers i_count h_openLists h_lastParts i_openCount, ar_ h_followers c_followers 200 f_followers, ar_ h_kinds c_kinds 200 f_kinds, ar_ h_lastParts c_lastParts 12 f_lastParts, ar_ h_openLists c_openLists 12 f_openLists, ar_ h_values c_values 200 f_values, ar_ h_p1 c_p1 200 f_p1] → va_S A s.heap H locs → wp_Datum_readName_J39 i_openCount f_openLists f_p1 post v3 v4 v5 i_count f_followers f_kinds f_lastParts f_values → W p l e (headSpec (ws_ y_Datum_readName b_Datum_readName 6 (some .int)) { frames := 2, cells := 0, slots := 0, locals := 44 }).room s m ([.ref h_this, .ref h_p1, .int x2, .int x3] : List Value).toArray below meth c H locs 0 0 Q (F0 m 39 ls []) := by
    intro v3 v4 v5 i_count f_followers f_kinds f_lastParts f_values H locs ls hl hP hD hS hw
    unfold wp_Datum_readName_J39 at hw
    refine lv_iload hx hb d_Datum_readName_39 (lv_at hl 3 rfl) ?_
    refine lv_iload_n hx hb d_Datum_readName_41 rfl (lv_at hl 1 rfl) ?_
    refine lv_isub hx hb d_Datum_readName_42 ?_
    refine lv_bipush (v := 6) hx hb d_Datum_readName_43 (by decide) ?_
    refine lv_icmp_gt (tgt := 63) hx hb d_Datum_readName_45 (by decide) (fun c_1 => ?_) (fun c_1 => ?_)
    · have hw := hw.1 c_1
      refine lv_iconst (v := (-1)) hx hb d_Datum_readName_63 (by decide) ?_
      have hP9 : va_P (dC, dI) vwCl [ob_Datum h_this h_kinds h_values h_followers i_count h_openLists h_lastParts i_openCount, ar_ h_followers c_followers 200 f_followers, ar_ h_kinds c_kinds 200 f_kinds, ar_ h_lastParts c_lastParts 12 f_lastParts, ar_ h_openLists c_openLists 12 f_openLists, ar_ h_values c_values 200 f_values, ar_ h_p1 c_p1 200 f_p1] _ := hP
      have hD9 : va_D A [ob_Datum h_this h_kinds h_values h_followers i_count h_openLists h_lastParts i_openCount, ar_ h_followers c_followers 200 f_followers, ar_ h_kinds c_kinds 200 f_kinds, ar_ h_lastParts c_lastParts 12 f_lastParts, ar_ h_openLists c_openLists 12 f_openLists, ar_ h_values c_values 200 f_values, ar_ h_p1 c_p1 200 f_p1] := hD
      rw [hQ]
      exact W.iret (v := (-1 : Int32)) hx hb hr (fun t ht hW => ⟨⟨(-1 : Int32), (i_count, f_followers, f_kinds, f_lastParts, f_values), rfl, hw, by rw [ht]; exact hP9, va_K.moved hW.alike hK, hD9⟩, hS.F ht⟩) hS.2.2 d_Datum_readName_64
    · have hw := hw.2 c_1
      refine lv_aload_n hx hb d_Datum_readName_48 rfl (lv_at hl 0 rfl) ?_
      refine lv_iconst (v := 1) hx hb d_Datum_readName_49 (by decide) ?_
      refine lv_iload hx hb d_Datum_readName_50 (lv_at hl 2 rfl) ?_
      have hPc := hP.sub (ws' := [ob_Datum h_this h_kinds h_values h_followers i_count h_openLists h_lastParts i_openCount, ar_ h_followers c_followers 200 f_followers, ar_ h_kinds c_kinds 200 f_kinds, ar_ h_lastParts c_lastParts 12 f_lastParts, ar_ h_openLists c_openLists 12 f_openLists, ar_ h_values c_values 200 f_values]) [0, 1, 2, 3, 4, 5] rfl
      have hDc := hD.sub (ws' := [ob_Datum h_this h_kinds h_values h_followers i_count h_openLists h_lastParts i_openCount, ar_ h_followers c_followers 200 f_followers, ar_ h_kinds c_kinds 200 f_kinds, ar_ h_lastParts c_lastParts 12 f_lastParts, ar_ h_openLists c_openLists 12 f_openLists, ar_ h_values c_values 200 f_values]) [0, 1, 2, 3, 4, 5] (by decide) rfl
      have hKc := hK.sub (tys' := [(c_followers, .int), (c_kinds, .int), (c_lastParts, .int), (c_openLists, .int), (c_values, .int)]) [0, 1, 2, 3, 4] rfl
      have hFc := va_free (wc := [ob_Datum h_this h_kinds h_values h_followers i_count h_openLists h_lastParts i_openCount, ar_ h_followers c_followers 200 f_followers, ar_ h_kinds c_kinds 200 f_kinds, ar_ h_lastParts c_lastParts 12 f_lastParts, ar_ h_openLists c_openLists 12 f_openLists, ar_ h_values c_values 200 f_values]) hD hS hA [0, 1, 2, 3, 4, 5] rfl
      refine va_calli (va_runV (As := [.int (1 : Int32), .int v4]) (rest := []) ⟨hx, hb, hml, hown, hts⟩ (c_Datum_addNode l dC dI h_this h_followers h_kinds h_lastParts h_openLists h_values c_followers c_kinds c_lastParts c_openLists c_values H.size i_count i_openCount f_followers f_kinds f_lastParts f_openLists f_values (1 : Int32) v4 _ hw) (cwV 2 hts (gd_V kt_367 kt_369 ks_2 kt_2 kt_370) rfl rfl rfl (by decide +kernel) ⟨Nat.le_of_ble_eq_true rfl, Nat.le_of_ble_eq_true rfl⟩) ⟨pre_blind, va_recv hKc hPc (ci := 1) (q0 := 0) rfl rfl, pre_ok hPc hKc hDc hG hS hFc⟩ rfl rfl hl.1 rfl (lv_room (Nat.le_of_ble_eq_true rfl)) d_Datum_readName_52 ⟨Nat.zero_le _, Nat.zero_le _⟩) hS (fun q _ h => hFc q h) hFc (fun r_2 u t H1 locs ht hvm hw hB hz1 hk1 hS => ?_)
      obtain ⟨i_count_3, f_followers_4, f_kinds_5, f_lastParts_6, f_values_7⟩ := u
      obtain ⟨hP1, hK1, hD1⟩ := hB
      rw [ht] at hP1
      try dsimp only at hw
      obtain ⟨hP, hD⟩ := va_join (wr := [ar_ h_p1 c_p1 200 f_p1]) (w1 := [ob_Datum h_this h_kinds h_values h_followers i_count_3 h_openLists h_lastParts i_openCount, ar_ h_followers c_followers 200 f_followers_4, ar_ h_kinds c_kinds 200 f_kinds_5, ar_ h_lastParts c_lastParts 12 f_lastParts_6, ar_ h_openLists c_openLists 12 f_openLists, ar_ h_values c_values 200 f_values_7]) hP hD [0, 1, 2, 3, 4, 5] [6] rfl rfl (by decide) (by decide) hk1 hFc hP1 hD1
      generalize H1 = H at hP hS ⊢
      have hP : va_P (dC, dI) vwCl [ar_ h_p1 c_p1 200 f_p1, ob_Datum h_this h_kinds h_values h_followers i_count_3 h_openLists h_lastParts i_openCount, ar_ h_followers c_followers 200 f_followers_4, ar_ h_kinds c_kinds 200 f_kinds_5, ar_ h_lastParts c_lastParts 12 f_lastParts_6, ar_ h_openLists c_openLists 12 f_openLists, ar_ h_values c_values 200 f_values_7] H := hP
      have hD : va_D A [ar_ h_p1 c_p1 200 f_p1, ob_Datum h_this h_kinds h_values h_followers i_count_3 h_openLists h_lastParts i_openCount, ar_ h_followers c_followers 200 f_followers_4, ar_ h_kinds c_kinds 200 f_kinds_5, ar_ h_lastParts c_lastParts 12 f_lastParts_6, ar_ h_openLists c_openLists 12 f_openLists, ar_ h_values c_values 200 f_values_7] := hD
      refine lv_if_eq (tgt := 63) hx hb d_Datum_readName_55 (by decide) (fun c_8 => ?_) (fun c_8 => ?_)
      · have hw := hw.1 c_8
        refine lv_iconst (v := (-1)) hx hb d_Datum_readName_63 (by decide) ?_
        have hP9 : va_P (dC, dI) vwCl [ob_Datum h_this h_kinds h_values h_followers i_count_3 h_openLists h_lastParts i_openCount, ar_ h_followers c_followers 200 f_followers_4, ar_ h_kinds c_kinds 200 f_kinds_5, ar_ h_lastParts c_lastParts 12 f_lastParts_6, ar_ h_openLists c_openLists 12 f_openLists, ar_ h_values c_values 200 f_values_7, ar_ h_p1 c_p1 200 f_p1] _ := (hP.sub [1, 2, 3, 4, 5, 6, 0] rfl)
        have hD9 : va_D A [ob_Datum h_this h_kinds h_values h_followers i_count_3 h_openLists h_lastParts i_openCount, ar_ h_followers c_followers 200 f_followers_4, ar_ h_kinds c_kinds 200 f_kinds_5, ar_ h_lastParts c_lastParts 12 f_lastParts_6, ar_ h_openLists c_openLists 12 f_openLists, ar_ h_values c_values 200 f_values_7, ar_ h_p1 c_p1 200 f_p1] := (hD.sub [1, 2, 3, 4, 5, 6, 0] (by decide) rfl)
        rw [hQ]
        exact W.iret (v := (-1 : Int32)) hx hb hr (fun t ht hW => ⟨⟨(-1 : Int32), (i_count_3, f_followers_4, f_kinds_5, f_lastParts_6, f_values_7), rfl, hw, by rw [ht]; exact hP9, va_K.moved hW.alike hK, hD9⟩, hS.F ht⟩) hS.2.2 d_Datum_readName_64
      · have hw := hw.2 c_8
        refine lv_iload hx hb d_Datum_readName_58 (lv_at hl 3 rfl) ?_
        refine lv_goto (tgt := 64) hx hb d_Datum_readName_60 (by decide) ?_
        have hP9 : va_P (dC, dI) vwCl [ob_Datum h_this h_kinds h_values h_followers i_count_3 h_openLists h_lastParts i_openCount, ar_ h_followers c_followers 200 f_followers_4, ar_ h_kinds c_kinds 200 f_kinds_5, ar_ h_lastParts c_lastParts 12 f_lastParts_6, ar_ h_openLists c_openLists 12 f_openLists, ar_ h_values c_values 200 f_values_7, ar_ h_p1 c_p1 200 f_p1] _ := (hP.sub [1, 2, 3, 4, 5, 6, 0] rfl)
        have hD9 : va_D A [ob_Datum h_this h_kinds h_values h_followers i_count_3 h_openLists h_lastParts i_openCount, ar_ h_followers c_followers 200 f_followers_4, ar_ h_kinds c_kinds 200 f_kinds_5, ar_ h_lastParts c_lastParts 12 f_lastParts_6, ar_ h_openLists c_openLists 12 f_openLists, ar_ h_values c_values 200 f_values_7, ar_ h_p1 c_p1 200 f_p1] := (hD.sub [1, 2, 3, 4, 5, 6, 0] (by decide) rfl)
        rw [hQ]
        exact W.iret (v := v5) hx hb hr (fun t ht hW => ⟨⟨v5, (i_count_3, f_followers_4, f_kinds_5, f_lastParts_6, f_values_7), rfl, hw, by rw [ht]; exact hP9, va_K.moved hW.alike hK, hD9⟩, hS.F ht⟩) hS.2.2 d_Datum_readName_64
  refine lv_iconst (v := 0) hx hb d_Datum_readName_0 (by decide) ?_
  refine lv_istore (lv' := [(4, .int (0 : Int32)), (0, .ref h_this), (1, .ref h_p1), (2, .int x2), (3, .int x3)]) hx hb d_Datum_readName_1 hl (by decide) rfl (fun ls hl => ?_)
  refine lv_iload_n hx hb d_Datum_readName_3 rfl (lv_at hl 4 rfl) ?_
  refine lv_istore (lv' := [(5, .int x3), (4, .int (0 : Int32)), (0, .ref h_this), (1, .ref h_p1), (2, .int x2), (3, .int x3)]) hx hb d_Datum_readName_4 hl (by decide) rfl (fun ls hl => ?_)
  have L6 : ∀ (K39 : Int32 → Int32 → Int32 → Int32 → (Nat → Int32) → (Nat → Int32) → (Nat → Int32) → (Nat → Int32) → Prop), (∀ (v3 : Int32) (v4 : Int32) (v5 : Int32) (i_count : Int32) (f_followers : Nat → Int32) (f_kinds : Nat → Int32) (f_lastParts : Nat → Int32) (f_values : Nat → Int32) (H : Heap) (locs : List Loc) (ls : Array Slot), lv_has ls 6 [(0, .ref h_this), (3, .int v3), (4, .int v4), (5, .int v5)] → va_P (dC, dI) vwCl [ob_Datum h_this h_kinds h_values h_followers i_count h_openLists h_lastParts i_openCount, ar_ h_followers c_followers 200 f_followers, ar_ h_kinds c_kinds 200 f_kinds, ar_ h_lastParts c_lastParts 12 f_lastParts, ar_ h_openLists c_openLists 12 f_openLists, ar_ h_values c_values 200 f_values, ar_ h_p1 c_p1 200 f_p1] H → va_D A [ob_Datum h_this h_kinds h_values h_followers i_count h_openLists h_lastParts i_openCount, ar_ h_followers c_followers 200 f_followers, ar_ h_kinds c_kinds 200 f_kinds, ar_ h_lastParts c_lastParts 12 f_lastParts, ar_ h_openLists c_openLists 12 f_openLists, ar_ h_values c_values 200 f_values, ar_ h_p1 c_p1 200 f_p1] → va_S A s.heap H locs → K39 v3 v4 v5 i_count f_followers f_kinds f_lastParts f_values → W p l e (headSpec (ws_ y_Datum_readName b_Datum_readName 6 (some .int)) { frames := 2, cells := 0, slots := 0, locals := 44 }).room s m ([.ref h_this, .ref h_p1, .int x2, .int x3] : List Value).toArray below meth c H locs 0 0 Q (F0 m 39 ls [])) → ∀ fu6 : Nat, ∀ (v2 : Int32) (v3 : Int32) (v4 : Int32) (v5 : Int32) (i_count : Int32) (f_followers : Nat → Int32) (f_kinds : Nat → Int32) (f_lastParts : Nat → Int32) (f_values : Nat → Int32) (H : Heap) (locs : List Loc) (ls : Array Slot), lv_has ls 6 [(0, .ref h_this), (1, .ref h_p1), (2, .int v2), (3, .int v3), (4, .int v4), (5, .int v5)] → va_P (dC, dI) vwCl [ob_Datum h_this h_kinds h_values h_followers i_count h_openLists h_lastParts i_openCount, ar_ h_followers c_followers 200 f_followers, ar_ h_kinds c_kinds 200 f_kinds, ar_ h_lastParts c_lastParts 12 f_lastParts, ar_ h_openLists c_openLists 12 f_openLists, ar_ h_values c_values 200 f_values, ar_ h_p1 c_p1 200 f_p1] H → va_D A [ob_Datum h_this h_kinds h_values h_followers i_count h_openLists h_lastParts i_openCount, ar_ h_followers c_followers 200 f_followers, ar_ h_kinds c_kinds 200 f_kinds, ar_ h_lastParts c_lastParts 12 f_lastParts, ar_ h_openLists c_openLists 12 f_openLists, ar_ h_values c_values 200 f_values, ar_ h_p1 c_p1 200 f_p1] → va_S A s.heap H locs → wp_Datum_readName_L6 i_openCount f_openLists f_p1 K39 post fu6 v2 v3 v4 v5 i_count f_followers f_kinds f_lastParts f_values → W p l e (headSpec (ws_ y_Datum_readName b_Datum_readName 6 (some .int)) { frames := 2, cells := 0, slots := 0, locals := 44 }).room s m ([.ref h_this, .ref h_p1, .int x2, .int x3] : List Value).toArray below meth c H locs 0 0 Q (F0 m 6 ls []) := by
    intro K39 hK39 fu6
    induction fu6 with
    | zero => intro v2 v3 v4 v5 i_count f_followers f_kinds f_lastParts f_values H locs ls hl hP hD hS hw; exact False.elim hw
    | succ fu6 ih6 =>
        intro v2 v3 v4 v5 i_count f_followers f_kinds f_lastParts f_values H locs ls hl hP hD hS hw
        unfold wp_Datum_readName_L6 at hw
        refine lv_iload hx hb d_Datum_readName_6 (lv_at hl 5 rfl) ?_
        refine lv_iload_n hx hb d_Datum_readName_8 rfl (lv_at hl 2 rfl) ?_
        refine lv_icmp_ge (tgt := 39) hx hb d_Datum_readName_9 (by decide) (fun c_9 => ?_) (fun c_9 => ?_)
        · have hw := hw.1 c_9
          exact hK39 v3 v4 v5 i_count f_followers f_kinds f_lastParts f_values _ _ ls (lv_sub hl [0, 3, 4, 5] rfl) hP hD hS hw
        · have hw := hw.2 c_9
          refine lv_aload_n hx hb d_Datum_readName_12 rfl (lv_at hl 1 rfl) ?_
          refine lv_iload hx hb d_Datum_readName_13 (lv_at hl 5 rfl) ?_
          obtain ⟨h_10, hw⟩ := hw
          refine va_cald hx hb hK hP 6 5 rfl rfl h_10 d_Datum_readName_15 ?_
          have hPc := hP.sub (ws' := []) [] rfl
          have hDc := hD.sub (ws' := []) [] (by decide) rfl
          have hKc := hK.sub (tys' := []) [] rfl
          have hFc := va_free (wc := []) hD hS hA [] rfl
          refine va_calli (va_runSN (As := [.int (f_p1 v5.toNatClampNeg)]) (rest := []) ⟨hx, hb, hml, hown, hts⟩ (c_Secd_isLetter l dC dI H.size (f_p1 v5.toNatClampNeg) _ hw) ⟨va_cnB 1 hts (gd_W kt_346) rfl rfl rfl (gb_nw 3 rfl hG) (hts _ kt_1) (by decide +kernel) ⟨Nat.le_of_ble_eq_true rfl, Nat.le_of_ble_eq_true rfl⟩, hts _ kt_345, trivial⟩ ⟨pre_blind, pre_ok hPc hKc hDc hG hS hFc⟩ rfl rfl hl.1 rfl (lv_room (Nat.le_of_ble_eq_true rfl)) d_Datum_readName_16 ⟨Nat.zero_le _, Nat.zero_le _⟩) hS (fun q _ h => hFc q h) hFc (fun r_11 u t H1 locs ht hvm hw hB hz1 hk1 hS => ?_)
          obtain ⟨hP1, hK1, hD1⟩ := hB
          rw [ht] at hP1
          try dsimp only at hw
          obtain ⟨hP, hD⟩ := va_join (wr := [ob_Datum h_this h_kinds h_values h_followers i_count h_openLists h_lastParts i_openCount, ar_ h_followers c_followers 200 f_followers, ar_ h_kinds c_kinds 200 f_kinds, ar_ h_lastParts c_lastParts 12 f_lastParts, ar_ h_openLists c_openLists 12 f_openLists, ar_ h_values c_values 200 f_values, ar_ h_p1 c_p1 200 f_p1]) (w1 := []) hP hD [] [0, 1, 2, 3, 4, 5, 6] rfl rfl (by decide) (by decide) hk1 hFc hP1 hD1
          generalize H1 = H at hP hS ⊢
          have hP : va_P (dC, dI) vwCl [ob_Datum h_this h_kinds h_values h_followers i_count h_openLists h_lastParts i_openCount, ar_ h_followers c_followers 200 f_followers, ar_ h_kinds c_kinds 200 f_kinds, ar_ h_lastParts c_lastParts 12 f_lastParts, ar_ h_openLists c_openLists 12 f_openLists, ar_ h_values c_values 200 f_values, ar_ h_p1 c_p1 200 f_p1] H := hP
          have hD : va_D A [ob_Datum h_this h_kinds h_values h_followers i_count h_openLists h_lastParts i_openCount, ar_ h_followers c_followers 200 f_followers, ar_ h_kinds c_kinds 200 f_kinds, ar_ h_lastParts c_lastParts 12 f_lastParts, ar_ h_openLists c_openLists 12 f_openLists, ar_ h_values c_values 200 f_values, ar_ h_p1 c_p1 200 f_p1] := hD
          refine lv_if_eq (tgt := 39) hx hb d_Datum_readName_19 (by decide) (fun c_12 => ?_) (fun c_12 => ?_)
          · have hw := hw.1 c_12
            exact hK39 v3 v4 v5 i_count f_followers f_kinds f_lastParts f_values _ _ ls (lv_sub hl [0, 3, 4, 5] rfl) hP hD hS hw
          · have hw := hw.2 c_12
            refine lv_iload hx hb d_Datum_readName_22 (lv_at hl 4 rfl) ?_
            refine lv_aload_n hx hb d_Datum_readName_24 rfl (lv_at hl 1 rfl) ?_
            refine lv_iload hx hb d_Datum_readName_25 (lv_at hl 5 rfl) ?_
            obtain ⟨h_13, hw⟩ := hw
            refine va_cald hx hb hK hP 6 5 rfl rfl h_13 d_Datum_readName_27 ?_
            have hPc := hP.sub (ws' := []) [] rfl
            have hDc := hD.sub (ws' := []) [] (by decide) rfl
            have hKc := hK.sub (tys' := []) [] rfl
            have hFc := va_free (wc := []) hD hS hA [] rfl
            refine va_calli (va_runS (As := [.int v4, .int (f_p1 v5.toNatClampNeg)]) (rest := []) ⟨hx, hb, hml, hown, hts⟩ (c_Names_withLetter l dC dI H.size v4 (f_p1 v5.toNatClampNeg) _ hw) (va_cwS 2 hts (gd_S kt_384 kt_146 kt_9 kt_147) rfl rfl rfl (by decide +kernel) ⟨Nat.le_of_ble_eq_true rfl, Nat.le_of_ble_eq_true rfl⟩) ⟨pre_blind, pre_ok hPc hKc hDc hG hS hFc⟩ rfl rfl hl.1 rfl (lv_room (Nat.le_of_ble_eq_true rfl)) d_Datum_readName_28 ⟨Nat.zero_le _, Nat.zero_le _⟩) hS (fun q _ h => hFc q h) hFc (fun r_14 u t H1 locs ht hvm hw hB hz1 hk1 hS => ?_)
            obtain ⟨hP1, hK1, hD1⟩ := hB
            rw [ht] at hP1
            try dsimp only at hw
            obtain ⟨hP, hD⟩ := va_join (wr := [ob_Datum h_this h_kinds h_values h_followers i_count h_openLists h_lastParts i_openCount, ar_ h_followers c_followers 200 f_followers, ar_ h_kinds c_kinds 200 f_kinds, ar_ h_lastParts c_lastParts 12 f_lastParts, ar_ h_openLists c_openLists 12 f_openLists, ar_ h_values c_values 200 f_values, ar_ h_p1 c_p1 200 f_p1]) (w1 := []) hP hD [] [0, 1, 2, 3, 4, 5, 6] rfl rfl (by decide) (by decide) hk1 hFc hP1 hD1
            generalize H1 = H at hP hS ⊢
            have hP : va_P (dC, dI) vwCl [ob_Datum h_this h_kinds h_values h_followers i_count h_openLists h_lastParts i_openCount, ar_ h_followers c_followers 200 f_followers, ar_ h_kinds c_kinds 200 f_kinds, ar_ h_lastParts c_lastParts 12 f_lastParts, ar_ h_openLists c_openLists 12 f_openLists, ar_ h_values c_values 200 f_values, ar_ h_p1 c_p1 200 f_p1] H := hP
            have hD : va_D A [ob_Datum h_this h_kinds h_values h_followers i_count h_openLists h_lastParts i_openCount, ar_ h_followers c_followers 200 f_followers, ar_ h_kinds c_kinds 200 f_kinds, ar_ h_lastParts c_lastParts 12 f_lastParts, ar_ h_openLists c_openLists 12 f_openLists, ar_ h_values c_values 200 f_values, ar_ h_p1 c_p1 200 f_p1] := hD
            refine lv_istore (lv' := [(4, .int r_14), (0, .ref h_this), (1, .ref h_p1), (2, .int v2), (3, .int v3), (5, .int v5)]) hx hb d_Datum_readName_31 hl (by decide) rfl (fun ls hl => ?_)
            refine lv_iinc (v := v5 + (1 : Int32)) (lv' := [(5, .int (v5 + (1 : Int32))), (4, .int r_14), (0, .ref h_this), (1, .ref h_p1), (2, .int v2), (3, .int v3)]) hx hb d_Datum_readName_33 hl (k := 5) rfl rfl (by decide) rfl (fun ls hl => ?_)
            refine lv_goto (tgt := 6) hx hb d_Datum_readName_36 (by decide) ?_
            exact ih6 v2 v3 r_14 (v5 + (1 : Int32)) i_count f_followers f_kinds f_lastParts f_values _ _ ls (lv_sub hl [2, 3, 4, 5, 1, 0] rfl) hP hD hS hw
  obtain ⟨fu6, hw⟩ := hw
  exact L6 _ J39 fu6 x2 x3 (0 : Int32) x3 i_count f_followers f_kinds f_lastParts f_values _ _ ls (lv_sub hl [2, 3, 4, 5, 1, 0] rfl) hP hD hS hw

set_option maxHeartbeats 4000000 in
set_option maxRecDepth 100000 in
theorem c_Datum_closeList (l : Launch) (dC : Nat → ClassId) (dI : Nat → Nat → Nat) (h_this : Nat) (h_kinds : Nat) (h_values : Nat) (h_followers : Nat) (h_openLists : Nat) (h_lastParts : Nat)  (sz : Nat)  (i_count : Int32) (i_openCount : Int32)  (post : Int32 → Int32 → Prop) (hw : wp_Datum_closeList i_openCount  post) : Met l y_Datum_closeList (ws_ y_Datum_closeList b_Datum_closeList 1 (some .boolean)) { frames := 0, cells := 0, slots := 0, locals := 0 } (va_Pc [.ref h_this] (PRE (dC, dI) vwCl [] [ob_Datum h_this h_kinds h_values h_followers i_count h_openLists h_lastParts i_openCount] sz (va_A [ob_Datum h_this h_kinds h_values h_followers i_count h_openLists h_lastParts i_openCount] sz))) (va_Qi (fun (r : Int32) (u : Int32) => post r u) (fun (u : Int32) (t : State) => va_P (dC, dI) vwCl [ob_Datum h_this h_kinds h_values h_followers i_count h_openLists h_lastParts u] t.heap ∧ va_K (dC, dI) vwCl [] t ∧ va_D (va_A [ob_Datum h_this h_kinds h_values h_followers i_count h_openLists h_lastParts i_openCount] sz) [ob_Datum h_this h_kinds h_values h_followers i_count h_openLists h_lastParts u]) (va_A [ob_Datum h_this h_kinds h_values h_followers i_count h_openLists h_lastParts i_openCount] sz)) 0 0 (va_A [ob_Datum h_this h_kinds h_values h_followers i_count h_openLists h_lastParts i_openCount] sz) := by
  refine Met.ofW (cc := b_Datum_closeList) (maxL := 1) (ret := (some .boolean)) (by decide) rfl ?_
  intro p e s m args below meth c s₁ B hml hv
  obtain ⟨rfl, hsz, hP, hK, hD0, hG⟩ := hv
  have hx := B.exec
  have hb := B.bytes
  have hr := B.returns
  have hts : ∀ w ∈ tb, w.before _ s = true := fun w h => atoms_spec (ws := ws_ _ _ _ _) B.pre w (List.mem_cons_of_mem _ h)
  have hown : s.vm.findClass R_Datum = some m.cls := findClass_of_methodNamed B.named
  have hlocks := B.notSynchronized
  subst hsz
  have hD := hD0.self (sz := s.heap.size)
  generalize hAe : va_A [ob_Datum h_this h_kinds h_values h_followers i_count h_openLists h_lastParts i_openCount] s.heap.size = A at hD hG ⊢
  have hA : ∀ q : Nat, s.heap.size ≤ q → A q := fun q h => by rw [← hAe]; exact Or.inr h
  have hS : va_S A s.heap s.heap [] := va_S.rf
  have hP : va_P (dC, dI) vwCl [ob_Datum h_this h_kinds h_values h_followers i_count h_openLists h_lastParts i_openCount] s.heap := hP
  have hl := lv_entry [.ref h_this] (n := 1) (Nat.le_of_ble_eq_true rfl)
  rw [lg_entry_eq]
  generalize (lg_sl [.ref h_this] ++ List.replicate (1 - (lg_sl [.ref h_this]).length) Slot.unset).toArray = ls at hl ⊢
  have hl : lv_has ls 1 [(0, .ref h_this)] := hl
  obtain ⟨Q, hQ⟩ : ∃ Q : State → Prop, Q = MQ below (va_Qi (fun (r : Int32) (u : Int32) => post r u) (fun (u : Int32) (t : State) => va_P (dC, dI) vwCl [ob_Datum h_this h_kinds h_values h_followers i_count h_openLists h_lastParts u] t.heap ∧ va_K (dC, dI) vwCl [] t ∧ va_D A [ob_Datum h_this h_kinds h_values h_followers i_count h_openLists h_lastParts u]) A) ([.ref h_this] : List Value).toArray s 0 0 A := ⟨_, rfl⟩
  rw [← hQ]
  unfold wp_Datum_closeList at hw
  refine lv_aload_n hx hb d_Datum_closeList_0 rfl (lv_at hl 0 rfl) ?_
  refine va_get (D := (dC, dI)) (ci := 1) (v := .int i_openCount) (C := R_Datum) (T := T_Datum) (N := 7) hx hb hts in_Datum hown hK hP 0 rfl rfl 6 (by decide) (hts _ kt_42) (fun _ h9 => h9) rfl d_Datum_closeList_1 ?_
  refine lv_if_ne (tgt := 9) hx hb d_Datum_closeList_4 (by decide) (fun c_1 => ?_) (fun c_1 => ?_)
  · have hw := hw.2 c_1
    refine lv_aload_n hx hb d_Datum_closeList_9 rfl (lv_at hl 0 rfl) ?_
    refine lv_dup hx hb d_Datum_closeList_10 rfl ?_
    refine va_get (D := (dC, dI)) (ci := 1) (v := .int i_openCount) (C := R_Datum) (T := T_Datum) (N := 7) hx hb hts in_Datum hown hK hP 0 rfl rfl 6 (by decide) (hts _ kt_42) (fun _ h9 => h9) rfl d_Datum_closeList_11 ?_
    refine lv_iconst (v := 1) hx hb d_Datum_closeList_14 (by decide) ?_
    refine lv_isub hx hb d_Datum_closeList_15 ?_
    refine va_put (D := (dC, dI)) (ci := 1) (v := .int (i_openCount - (1 : Int32))) (ty := .int) (C := R_Datum) (T := T_Datum) (N := 7) hx hb hts in_Datum t_Datum t_Datum_ok nm_Datum hown hK hP hD hS 0 rfl rfl 6 (by decide) (hts _ kt_42) (fun _ h9 => h9) rfl (by decide +kernel) rfl rfl (Nat.le_of_ble_eq_true rfl) d_Datum_closeList_16 (fun H locs hP hD hS => ?_)
    have hP : va_P (dC, dI) vwCl [ob_Datum h_this h_kinds h_values h_followers i_count h_openLists h_lastParts (i_openCount - (1 : Int32))] H := hP
    have hD : va_D A [ob_Datum h_this h_kinds h_values h_followers i_count h_openLists h_lastParts (i_openCount - (1 : Int32))] := hD
    refine lv_iconst (v := 1) hx hb d_Datum_closeList_19 (by decide) ?_
    have hP9 : va_P (dC, dI) vwCl [ob_Datum h_this h_kinds h_values h_followers i_count h_openLists h_lastParts (i_openCount - (1 : Int32))] _ := hP
    have hD9 : va_D A [ob_Datum h_this h_kinds h_values h_followers i_count h_openLists h_lastParts (i_openCount - (1 : Int32))] := hD
    rw [hQ]
    exact W.zret (v := (1 : Int32)) hx hb hr rfl (fun t ht hW => ⟨⟨(1 : Int32), (i_openCount - (1 : Int32)), rfl, hw, by rw [ht]; exact hP9, va_K.moved hW.alike hK, hD9⟩, hS.F ht⟩) hS.2.2 d_Datum_closeList_20
  · have hw := hw.1 c_1
    refine lv_iconst (v := 0) hx hb d_Datum_closeList_7 (by decide) ?_
    have hP9 : va_P (dC, dI) vwCl [ob_Datum h_this h_kinds h_values h_followers i_count h_openLists h_lastParts i_openCount] _ := hP
    have hD9 : va_D A [ob_Datum h_this h_kinds h_values h_followers i_count h_openLists h_lastParts i_openCount] := hD
    rw [hQ]
    exact W.zret (v := (0 : Int32)) hx hb hr rfl (fun t ht hW => ⟨⟨(0 : Int32), (i_openCount), rfl, hw, by rw [ht]; exact hP9, va_K.moved hW.alike hK, hD9⟩, hS.F ht⟩) hS.2.2 d_Datum_closeList_8

set_option maxHeartbeats 4000000 in
set_option maxRecDepth 100000 in
theorem c_Datum_openList (l : Launch) (dC : Nat → ClassId) (dI : Nat → Nat → Nat) (h_this : Nat) (h_followers : Nat) (h_kinds : Nat) (h_lastParts : Nat) (h_openLists : Nat) (h_values : Nat) (c_followers : ClassId) (c_kinds : ClassId) (c_lastParts : ClassId) (c_openLists : ClassId) (c_values : ClassId) (sz : Nat)  (i_count : Int32) (i_openCount : Int32) (f_followers : Nat → Int32) (f_kinds : Nat → Int32) (f_lastParts : Nat → Int32) (f_openLists : Nat → Int32) (f_values : Nat → Int32)  (post : Int32 → Int32 → Int32 → (Nat → Int32) → (Nat → Int32) → (Nat → Int32) → (Nat → Int32) → (Nat → Int32) → Prop) (hw : wp_Datum_openList i_count i_openCount f_followers f_kinds f_lastParts f_openLists f_values  post) : Met l y_Datum_openList (ws_ y_Datum_openList b_Datum_openList 1 (some .boolean)) { frames := 2, cells := 0, slots := 0, locals := 44 } (va_Pc [.ref h_this] (PRE (dC, dI) vwCl [(c_followers, .int), (c_kinds, .int), (c_lastParts, .int), (c_openLists, .int), (c_values, .int)] [ob_Datum h_this h_kinds h_values h_followers i_count h_openLists h_lastParts i_openCount, ar_ h_followers c_followers 200 f_followers, ar_ h_kinds c_kinds 200 f_kinds, ar_ h_lastParts c_lastParts 12 f_lastParts, ar_ h_openLists c_openLists 12 f_openLists, ar_ h_values c_values 200 f_values] sz (va_A [ob_Datum h_this h_kinds h_values h_followers i_count h_openLists h_lastParts i_openCount, ar_ h_followers c_followers 200 f_followers, ar_ h_kinds c_kinds 200 f_kinds, ar_ h_lastParts c_lastParts 12 f_lastParts, ar_ h_openLists c_openLists 12 f_openLists, ar_ h_values c_values 200 f_values] sz))) (va_Qi (fun (r : Int32) (u : Int32 × Int32 × (Nat → Int32) × (Nat → Int32) × (Nat → Int32) × (Nat → Int32) × (Nat → Int32)) => post r u.1 u.2.1 u.2.2.1 u.2.2.2.1 u.2.2.2.2.1 u.2.2.2.2.2.1 u.2.2.2.2.2.2) (fun (u : Int32 × Int32 × (Nat → Int32) × (Nat → Int32) × (Nat → Int32) × (Nat → Int32) × (Nat → Int32)) (t : State) => va_P (dC, dI) vwCl [ob_Datum h_this h_kinds h_values h_followers u.1 h_openLists h_lastParts u.2.1, ar_ h_followers c_followers 200 u.2.2.1, ar_ h_kinds c_kinds 200 u.2.2.2.1, ar_ h_lastParts c_lastParts 12 u.2.2.2.2.1, ar_ h_openLists c_openLists 12 u.2.2.2.2.2.1, ar_ h_values c_values 200 u.2.2.2.2.2.2] t.heap ∧ va_K (dC, dI) vwCl [(c_followers, .int), (c_kinds, .int), (c_lastParts, .int), (c_openLists, .int), (c_values, .int)] t ∧ va_D (va_A [ob_Datum h_this h_kinds h_values h_followers i_count h_openLists h_lastParts i_openCount, ar_ h_followers c_followers 200 f_followers, ar_ h_kinds c_kinds 200 f_kinds, ar_ h_lastParts c_lastParts 12 f_lastParts, ar_ h_openLists c_openLists 12 f_openLists, ar_ h_values c_values 200 f_values] sz) [ob_Datum h_this h_kinds h_values h_followers u.1 h_openLists h_lastParts u.2.1, ar_ h_followers c_followers 200 u.2.2.1, ar_ h_kinds c_kinds 200 u.2.2.2.1, ar_ h_lastParts c_lastParts 12 u.2.2.2.2.1, ar_ h_openLists c_openLists 12 u.2.2.2.2.2.1, ar_ h_values c_values 200 u.2.2.2.2.2.2]) (va_A [ob_Datum h_this h_kinds h_values h_followers i_count h_openLists h_lastParts i_openCount, ar_ h_followers c_followers 200 f_followers, ar_ h_kinds c_kinds 200 f_kinds, ar_ h_lastParts c_lastParts 12 f_lastParts, ar_ h_openLists c_openLists 12 f_openLists, ar_ h_values c_values 200 f_values] sz)) 0 0 (va_A [ob_Datum h_this h_kinds h_values h_followers i_count h_openLists h_lastParts i_openCount, ar_ h_followers c_followers 200 f_followers, ar_ h_kinds c_kinds 200 f_kinds, ar_ h_lastParts c_lastParts 12 f_lastParts, ar_ h_openLists c_openLists 12 f_openLists, ar_ h_values c_values 200 f_values] sz) := by
  refine Met.ofW (cc := b_Datum_openList) (maxL := 1) (ret := (some .boolean)) (by decide) rfl ?_
  intro p e s m args below meth c s₁ B hml hv
  obtain ⟨rfl, hsz, hP, hK, hD0, hG⟩ := hv
  have hx := B.exec
  have hb := B.bytes
  have hr := B.returns
  have hts : ∀ w ∈ tb, w.before _ s = true := fun w h => atoms_spec (ws := ws_ _ _ _ _) B.pre w (List.mem_cons_of_mem _ h)
  have hown : s.vm.findClass R_Datum = some m.cls := findClass_of_methodNamed B.named
  have hlocks := B.notSynchronized
  subst hsz
  have hD := hD0.self (sz := s.heap.size)
  generalize hAe : va_A [ob_Datum h_this h_kinds h_values h_followers i_count h_openLists h_lastParts i_openCount, ar_ h_followers c_followers 200 f_followers, ar_ h_kinds c_kinds 200 f_kinds, ar_ h_lastParts c_lastParts 12 f_lastParts, ar_ h_openLists c_openLists 12 f_openLists, ar_ h_values c_values 200 f_values] s.heap.size = A at hD hG ⊢
  have hA : ∀ q : Nat, s.heap.size ≤ q → A q := fun q h => by rw [← hAe]; exact Or.inr h
  have hS : va_S A s.heap s.heap [] := va_S.rf
  have hP : va_P (dC, dI) vwCl [ob_Datum h_this h_kinds h_values h_followers i_count h_openLists h_lastParts i_openCount, ar_ h_followers c_followers 200 f_followers, ar_ h_kinds c_kinds 200 f_kinds, ar_ h_lastParts c_lastParts 12 f_lastParts, ar_ h_openLists c_openLists 12 f_openLists, ar_ h_values c_values 200 f_values] s.heap := hP
  have hl := lv_entry [.ref h_this] (n := 1) (Nat.le_of_ble_eq_true rfl)
  rw [lg_entry_eq]
  generalize (lg_sl [.ref h_this] ++ List.replicate (1 - (lg_sl [.ref h_this]).length) Slot.unset).toArray = ls at hl ⊢
  have hl : lv_has ls 1 [(0, .ref h_this)] := hl
  obtain ⟨Q, hQ⟩ : ∃ Q : State → Prop, Q = MQ below (va_Qi (fun (r : Int32) (u : Int32 × Int32 × (Nat → Int32) × (Nat → Int32) × (Nat → Int32) × (Nat → Int32) × (Nat → Int32)) => post r u.1 u.2.1 u.2.2.1 u.2.2.2.1 u.2.2.2.2.1 u.2.2.2.2.2.1 u.2.2.2.2.2.2) (fun (u : Int32 × Int32 × (Nat → Int32) × (Nat → Int32) × (Nat → Int32) × (Nat → Int32) × (Nat → Int32)) (t : State) => va_P (dC, dI) vwCl [ob_Datum h_this h_kinds h_values h_followers u.1 h_openLists h_lastParts u.2.1, ar_ h_followers c_followers 200 u.2.2.1, ar_ h_kinds c_kinds 200 u.2.2.2.1, ar_ h_lastParts c_lastParts 12 u.2.2.2.2.1, ar_ h_openLists c_openLists 12 u.2.2.2.2.2.1, ar_ h_values c_values 200 u.2.2.2.2.2.2] t.heap ∧ va_K (dC, dI) vwCl [(c_followers, .int), (c_kinds, .int), (c_lastParts, .int), (c_openLists, .int), (c_values, .int)] t ∧ va_D A [ob_Datum h_this h_kinds h_values h_followers u.1 h_openLists h_lastParts u.2.1, ar_ h_followers c_followers 200 u.2.2.1, ar_ h_kinds c_kinds 200 u.2.2.2.1, ar_ h_lastParts c_lastParts 12 u.2.2.2.2.1, ar_ h_openLists c_openLists 12 u.2.2.2.2.2.1, ar_ h_values c_values 200 u.2.2.2.2.2.2]) A) ([.ref h_this] : List Value).toArray s 0 0 A := ⟨_, rfl⟩
  rw [← hQ]
  unfold wp_Datum_openList at hw
  refine lv_aload_n hx hb d_Datum_openList_0 rfl (lv_at hl 0 rfl) ?_
  refine va_get (D := (dC, dI)) (ci := 1) (v := .int i_openCount) (C := R_Datum) (T := T_Datum) (N := 7) hx hb hts in_Datum hown hK hP 0 rfl rfl 6 (by decide) (hts _ kt_42) (fun _ h9 => h9) rfl d_Datum_openList_1 ?_
  refine lv_bipush (v := 12) hx hb d_Datum_openList_4 (by decide) ?_
  refine lv_icmp_ge (tgt := 18) hx hb d_Datum_openList_6 (by decide) (fun c_1 => ?_) (fun c_1 => ?_)
  · have hw := hw.1 c_1
    refine lv_iconst (v := 0) hx hb d_Datum_openList_18 (by decide) ?_
    have hP9 : va_P (dC, dI) vwCl [ob_Datum h_this h_kinds h_values h_followers i_count h_openLists h_lastParts i_openCount, ar_ h_followers c_followers 200 f_followers, ar_ h_kinds c_kinds 200 f_kinds, ar_ h_lastParts c_lastParts 12 f_lastParts, ar_ h_openLists c_openLists 12 f_openLists, ar_ h_values c_values 200 f_values] _ := hP
    have hD9 : va_D A [ob_Datum h_this h_kinds h_values h_followers i_count h_openLists h_lastParts i_openCount, ar_ h_followers c_followers 200 f_followers, ar_ h_kinds c_kinds 200 f_kinds, ar_ h_lastParts c_lastParts 12 f_lastParts, ar_ h_openLists c_openLists 12 f_openLists, ar_ h_values c_values 200 f_values] := hD
    rw [hQ]
    exact W.zret (v := (0 : Int32)) hx hb hr rfl (fun t ht hW => ⟨⟨(0 : Int32), (i_count, i_openCount, f_followers, f_kinds, f_lastParts, f_openLists, f_values), rfl, hw, by rw [ht]; exact hP9, va_K.moved hW.alike hK, hD9⟩, hS.F ht⟩) hS.2.2 d_Datum_openList_19
  · have hw := hw.2 c_1
    refine lv_aload_n hx hb d_Datum_openList_9 rfl (lv_at hl 0 rfl) ?_
    refine lv_iconst (v := 2) hx hb d_Datum_openList_10 (by decide) ?_
    refine lv_iconst (v := (-1)) hx hb d_Datum_openList_11 (by decide) ?_
    have hPc := hP.sub (ws' := [ob_Datum h_this h_kinds h_values h_followers i_count h_openLists h_lastParts i_openCount, ar_ h_followers c_followers 200 f_followers, ar_ h_kinds c_kinds 200 f_kinds, ar_ h_lastParts c_lastParts 12 f_lastParts, ar_ h_openLists c_openLists 12 f_openLists, ar_ h_values c_values 200 f_values]) [0, 1, 2, 3, 4, 5] rfl
    have hDc := hD.sub (ws' := [ob_Datum h_this h_kinds h_values h_followers i_count h_openLists h_lastParts i_openCount, ar_ h_followers c_followers 200 f_followers, ar_ h_kinds c_kinds 200 f_kinds, ar_ h_lastParts c_lastParts 12 f_lastParts, ar_ h_openLists c_openLists 12 f_openLists, ar_ h_values c_values 200 f_values]) [0, 1, 2, 3, 4, 5] (by decide) rfl
    have hKc := hK.sub (tys' := [(c_followers, .int), (c_kinds, .int), (c_lastParts, .int), (c_openLists, .int), (c_values, .int)]) [0, 1, 2, 3, 4] rfl
    have hFc := va_free (wc := [ob_Datum h_this h_kinds h_values h_followers i_count h_openLists h_lastParts i_openCount, ar_ h_followers c_followers 200 f_followers, ar_ h_kinds c_kinds 200 f_kinds, ar_ h_lastParts c_lastParts 12 f_lastParts, ar_ h_openLists c_openLists 12 f_openLists, ar_ h_values c_values 200 f_values]) hD hS hA [0, 1, 2, 3, 4, 5] rfl
    refine va_calli (va_runV (As := [.int (2 : Int32), .int (-1 : Int32)]) (rest := []) ⟨hx, hb, hml, hown, hts⟩ (c_Datum_addNode l dC dI h_this h_followers h_kinds h_lastParts h_openLists h_values c_followers c_kinds c_lastParts c_openLists c_values s.heap.size i_count i_openCount f_followers f_kinds f_lastParts f_openLists f_values (2 : Int32) (-1 : Int32) _ hw) (cwV 2 hts (gd_V kt_367 kt_369 ks_2 kt_2 kt_370) rfl rfl rfl (by decide +kernel) ⟨Nat.le_of_ble_eq_true rfl, Nat.le_of_ble_eq_true rfl⟩) ⟨pre_blind, va_recv hKc hPc (ci := 1) (q0 := 0) rfl rfl, pre_ok hPc hKc hDc hG hS hFc⟩ rfl rfl hl.1 rfl (lv_room (Nat.le_of_ble_eq_true rfl)) d_Datum_openList_12 ⟨Nat.zero_le _, Nat.zero_le _⟩) hS (fun q _ h => hFc q h) hFc (fun r_2 u t H1 locs ht hvm hw hB hz1 hk1 hS => ?_)
    obtain ⟨i_count_3, f_followers_4, f_kinds_5, f_lastParts_6, f_values_7⟩ := u
    obtain ⟨hP1, hK1, hD1⟩ := hB
    rw [ht] at hP1
    try dsimp only at hw
    obtain ⟨hP, hD⟩ := va_join (wr := []) (w1 := [ob_Datum h_this h_kinds h_values h_followers i_count_3 h_openLists h_lastParts i_openCount, ar_ h_followers c_followers 200 f_followers_4, ar_ h_kinds c_kinds 200 f_kinds_5, ar_ h_lastParts c_lastParts 12 f_lastParts_6, ar_ h_openLists c_openLists 12 f_openLists, ar_ h_values c_values 200 f_values_7]) hP hD [0, 1, 2, 3, 4, 5] [] rfl rfl (by decide) (by decide) hk1 hFc hP1 hD1
    generalize H1 = H at hP hS ⊢
    have hP : va_P (dC, dI) vwCl [ob_Datum h_this h_kinds h_values h_followers i_count_3 h_openLists h_lastParts i_openCount, ar_ h_followers c_followers 200 f_followers_4, ar_ h_kinds c_kinds 200 f_kinds_5, ar_ h_lastParts c_lastParts 12 f_lastParts_6, ar_ h_openLists c_openLists 12 f_openLists, ar_ h_values c_values 200 f_values_7] H := hP
    have hD : va_D A [ob_Datum h_this h_kinds h_values h_followers i_count_3 h_openLists h_lastParts i_openCount, ar_ h_followers c_followers 200 f_followers_4, ar_ h_kinds c_kinds 200 f_kinds_5, ar_ h_lastParts c_lastParts 12 f_lastParts_6, ar_ h_openLists c_openLists 12 f_openLists, ar_ h_values c_values 200 f_values_7] := hD
    refine lv_if_ne (tgt := 20) hx hb d_Datum_openList_15 (by decide) (fun c_8 => ?_) (fun c_8 => ?_)
    · have hw := hw.2 c_8
      refine lv_aload_n hx hb d_Datum_openList_20 rfl (lv_at hl 0 rfl) ?_
      refine va_get (D := (dC, dI)) (ci := 1) (v := .ref h_openLists) (C := R_Datum) (T := T_Datum) (N := 7) hx hb hts in_Datum hown hK hP 0 rfl rfl 4 (by decide) (hts _ kt_40) (fun _ h9 => h9) rfl d_Datum_openList_21 ?_
      refine lv_aload_n hx hb d_Datum_openList_24 rfl (lv_at hl 0 rfl) ?_
      refine va_get (D := (dC, dI)) (ci := 1) (v := .int i_openCount) (C := R_Datum) (T := T_Datum) (N := 7) hx hb hts in_Datum hown hK hP 0 rfl rfl 6 (by decide) (hts _ kt_42) (fun _ h9 => h9) rfl d_Datum_openList_25 ?_
      refine lv_aload_n hx hb d_Datum_openList_28 rfl (lv_at hl 0 rfl) ?_
      refine va_get (D := (dC, dI)) (ci := 1) (v := .int i_count_3) (C := R_Datum) (T := T_Datum) (N := 7) hx hb hts in_Datum hown hK hP 0 rfl rfl 3 (by decide) (hts _ kt_39) (fun _ h9 => h9) rfl d_Datum_openList_29 ?_
      refine lv_iconst (v := 1) hx hb d_Datum_openList_32 (by decide) ?_
      refine lv_isub hx hb d_Datum_openList_33 ?_
      obtain ⟨h_9, hw⟩ := hw
      refine va_iast hx hb hK hP hD hS 4 3 rfl rfl h_9 d_Datum_openList_34 (fun H locs hP hD hS => ?_)
      have hP : va_P (dC, dI) vwCl [ob_Datum h_this h_kinds h_values h_followers i_count_3 h_openLists h_lastParts i_openCount, ar_ h_followers c_followers 200 f_followers_4, ar_ h_kinds c_kinds 200 f_kinds_5, ar_ h_lastParts c_lastParts 12 f_lastParts_6, ar_ h_openLists c_openLists 12 (upd f_openLists i_openCount.toNatClampNeg (i_count_3 - (1 : Int32))), ar_ h_values c_values 200 f_values_7] H := hP
      have hD : va_D A [ob_Datum h_this h_kinds h_values h_followers i_count_3 h_openLists h_lastParts i_openCount, ar_ h_followers c_followers 200 f_followers_4, ar_ h_kinds c_kinds 200 f_kinds_5, ar_ h_lastParts c_lastParts 12 f_lastParts_6, ar_ h_openLists c_openLists 12 (upd f_openLists i_openCount.toNatClampNeg (i_count_3 - (1 : Int32))), ar_ h_values c_values 200 f_values_7] := hD
      refine lv_aload_n hx hb d_Datum_openList_35 rfl (lv_at hl 0 rfl) ?_
      refine va_get (D := (dC, dI)) (ci := 1) (v := .ref h_lastParts) (C := R_Datum) (T := T_Datum) (N := 7) hx hb hts in_Datum hown hK hP 0 rfl rfl 5 (by decide) (hts _ kt_41) (fun _ h9 => h9) rfl d_Datum_openList_36 ?_
      refine lv_aload_n hx hb d_Datum_openList_39 rfl (lv_at hl 0 rfl) ?_
      refine va_get (D := (dC, dI)) (ci := 1) (v := .int i_openCount) (C := R_Datum) (T := T_Datum) (N := 7) hx hb hts in_Datum hown hK hP 0 rfl rfl 6 (by decide) (hts _ kt_42) (fun _ h9 => h9) rfl d_Datum_openList_40 ?_
      refine lv_iconst (v := (-1)) hx hb d_Datum_openList_43 (by decide) ?_
      obtain ⟨h_10, hw⟩ := hw
      refine va_iast hx hb hK hP hD hS 3 2 rfl rfl h_10 d_Datum_openList_44 (fun H locs hP hD hS => ?_)
      have hP : va_P (dC, dI) vwCl [ob_Datum h_this h_kinds h_values h_followers i_count_3 h_openLists h_lastParts i_openCount, ar_ h_followers c_followers 200 f_followers_4, ar_ h_kinds c_kinds 200 f_kinds_5, ar_ h_lastParts c_lastParts 12 (upd f_lastParts_6 i_openCount.toNatClampNeg (-1 : Int32)), ar_ h_openLists c_openLists 12 (upd f_openLists i_openCount.toNatClampNeg (i_count_3 - (1 : Int32))), ar_ h_values c_values 200 f_values_7] H := hP
      have hD : va_D A [ob_Datum h_this h_kinds h_values h_followers i_count_3 h_openLists h_lastParts i_openCount, ar_ h_followers c_followers 200 f_followers_4, ar_ h_kinds c_kinds 200 f_kinds_5, ar_ h_lastParts c_lastParts 12 (upd f_lastParts_6 i_openCount.toNatClampNeg (-1 : Int32)), ar_ h_openLists c_openLists 12 (upd f_openLists i_openCount.toNatClampNeg (i_count_3 - (1 : Int32))), ar_ h_values c_values 200 f_values_7] := hD
      refine lv_aload_n hx hb d_Datum_openList_45 rfl (lv_at hl 0 rfl) ?_
      refine lv_dup hx hb d_Datum_openList_46 rfl ?_
      refine va_get (D := (dC, dI)) (ci := 1) (v := .int i_openCount) (C := R_Datum) (T := T_Datum) (N := 7) hx hb hts in_Datum hown hK hP 0 rfl rfl 6 (by decide) (hts _ kt_42) (fun _ h9 => h9) rfl d_Datum_openList_47 ?_
      refine lv_iconst (v := 1) hx hb d_Datum_openList_50 (by decide) ?_
      refine lv_iadd hx hb d_Datum_openList_51 ?_
      refine va_put (D := (dC, dI)) (ci := 1) (v := .int (i_openCount + (1 : Int32))) (ty := .int) (C := R_Datum) (T := T_Datum) (N := 7) hx hb hts in_Datum t_Datum t_Datum_ok nm_Datum hown hK hP hD hS 0 rfl rfl 6 (by decide) (hts _ kt_42) (fun _ h9 => h9) rfl (by decide +kernel) rfl rfl (Nat.le_of_ble_eq_true rfl) d_Datum_openList_52 (fun H locs hP hD hS => ?_)
      have hP : va_P (dC, dI) vwCl [ob_Datum h_this h_kinds h_values h_followers i_count_3 h_openLists h_lastParts (i_openCount + (1 : Int32)), ar_ h_followers c_followers 200 f_followers_4, ar_ h_kinds c_kinds 200 f_kinds_5, ar_ h_lastParts c_lastParts 12 (upd f_lastParts_6 i_openCount.toNatClampNeg (-1 : Int32)), ar_ h_openLists c_openLists 12 (upd f_openLists i_openCount.toNatClampNeg (i_count_3 - (1 : Int32))), ar_ h_values c_values 200 f_values_7] H := hP
      have hD : va_D A [ob_Datum h_this h_kinds h_values h_followers i_count_3 h_openLists h_lastParts (i_openCount + (1 : Int32)), ar_ h_followers c_followers 200 f_followers_4, ar_ h_kinds c_kinds 200 f_kinds_5, ar_ h_lastParts c_lastParts 12 (upd f_lastParts_6 i_openCount.toNatClampNeg (-1 : Int32)), ar_ h_openLists c_openLists 12 (upd f_openLists i_openCount.toNatClampNeg (i_count_3 - (1 : Int32))), ar_ h_values c_values 200 f_values_7] := hD
      refine lv_iconst (v := 1) hx hb d_Datum_openList_55 (by decide) ?_
      have hP9 : va_P (dC, dI) vwCl [ob_Datum h_this h_kinds h_values h_followers i_count_3 h_openLists h_lastParts (i_openCount + (1 : Int32)), ar_ h_followers c_followers 200 f_followers_4, ar_ h_kinds c_kinds 200 f_kinds_5, ar_ h_lastParts c_lastParts 12 (upd f_lastParts_6 i_openCount.toNatClampNeg (-1 : Int32)), ar_ h_openLists c_openLists 12 (upd f_openLists i_openCount.toNatClampNeg (i_count_3 - (1 : Int32))), ar_ h_values c_values 200 f_values_7] _ := hP
      have hD9 : va_D A [ob_Datum h_this h_kinds h_values h_followers i_count_3 h_openLists h_lastParts (i_openCount + (1 : Int32)), ar_ h_followers c_followers 200 f_followers_4, ar_ h_kinds c_kinds 200 f_kinds_5, ar_ h_lastParts c_lastParts 12 (upd f_lastParts_6 i_openCount.toNatClampNeg (-1 : Int32)), ar_ h_openLists c_openLists 12 (upd f_openLists i_openCount.toNatClampNeg (i_count_3 - (1 : Int32))), ar_ h_values c_values 200 f_values_7] := hD
      rw [hQ]
      exact W.zret (v := (1 : Int32)) hx hb hr rfl (fun t ht hW => ⟨⟨(1 : Int32), (i_count_3, i_openCount + (1 : Int32), f_followers_4, f_kinds_5, upd f_lastParts_6 i_openCount.toNatClampNeg (-1 : Int32), upd f_openLists i_openCount.toNatClampNeg (i_count_3 - (1 : Int32)), f_values_7), rfl, hw, by rw [ht]; exact hP9, va_K.moved hW.alike hK, hD9⟩, hS.F ht⟩) hS.2.2 d_Datum_openList_56
    · have hw := hw.1 c_8
      refine lv_iconst (v := 0) hx hb d_Datum_openList_18 (by decide) ?_
      have hP9 : va_P (dC, dI) vwCl [ob_Datum h_this h_kinds h_values h_followers i_count_3 h_openLists h_lastParts i_openCount, ar_ h_followers c_followers 200 f_followers_4, ar_ h_kinds c_kinds 200 f_kinds_5, ar_ h_lastParts c_lastParts 12 f_lastParts_6, ar_ h_openLists c_openLists 12 f_openLists, ar_ h_values c_values 200 f_values_7] _ := hP
      have hD9 : va_D A [ob_Datum h_this h_kinds h_values h_followers i_count_3 h_openLists h_lastParts i_openCount, ar_ h_followers c_followers 200 f_followers_4, ar_ h_kinds c_kinds 200 f_kinds_5, ar_ h_lastParts c_lastParts 12 f_lastParts_6, ar_ h_openLists c_openLists 12 f_openLists, ar_ h_values c_values 200 f_values_7] := hD
      rw [hQ]
      exact W.zret (v := (0 : Int32)) hx hb hr rfl (fun t ht hW => ⟨⟨(0 : Int32), (i_count_3, i_openCount, f_followers_4, f_kinds_5, f_lastParts_6, f_openLists, f_values_7), rfl, hw, by rw [ht]; exact hP9, va_K.moved hW.alike hK, hD9⟩, hS.F ht⟩) hS.2.2 d_Datum_openList_19

set_option maxHeartbeats 4000000 in
set_option maxRecDepth 100000 in
theorem c_Datum_readOne (l : Launch) (dC : Nat → ClassId) (dI : Nat → Nat → Nat) (h_this : Nat) (h_followers : Nat) (h_kinds : Nat) (h_lastParts : Nat) (h_openLists : Nat) (h_values : Nat) (h_p1 : Nat) (c_followers : ClassId) (c_kinds : ClassId) (c_lastParts : ClassId) (c_openLists : ClassId) (c_values : ClassId) (c_p1 : ClassId) (sz : Nat)  (i_count : Int32) (i_openCount : Int32) (f_followers : Nat → Int32) (f_kinds : Nat → Int32) (f_lastParts : Nat → Int32) (f_openLists : Nat → Int32) (f_values : Nat → Int32) (f_p1 : Nat → Int32) (x2 : Int32) (x3 : Int32) (post : Int32 → Int32 → Int32 → (Nat → Int32) → (Nat → Int32) → (Nat → Int32) → (Nat → Int32) → (Nat → Int32) → Prop) (hw : wp_Datum_readOne i_count i_openCount f_followers f_kinds f_lastParts f_openLists f_values f_p1 x2 x3 post) : Met l y_Datum_readOne (ws_ y_Datum_readOne b_Datum_readOne 5 (some .int)) { frames := 3, cells := 0, slots := 0, locals := 72 } (va_Pc [.ref h_this, .ref h_p1, .int x2, .int x3] (PRE (dC, dI) vwCl [(c_followers, .int), (c_kinds, .int), (c_lastParts, .int), (c_openLists, .int), (c_values, .int), (c_p1, .char)] [ob_Datum h_this h_kinds h_values h_followers i_count h_openLists h_lastParts i_openCount, ar_ h_followers c_followers 200 f_followers, ar_ h_kinds c_kinds 200 f_kinds, ar_ h_lastParts c_lastParts 12 f_lastParts, ar_ h_openLists c_openLists 12 f_openLists, ar_ h_values c_values 200 f_values, ar_ h_p1 c_p1 200 f_p1] sz (va_A [ob_Datum h_this h_kinds h_values h_followers i_count h_openLists h_lastParts i_openCount, ar_ h_followers c_followers 200 f_followers, ar_ h_kinds c_kinds 200 f_kinds, ar_ h_lastParts c_lastParts 12 f_lastParts, ar_ h_openLists c_openLists 12 f_openLists, ar_ h_values c_values 200 f_values, ar_ h_p1 c_p1 200 f_p1] sz))) (va_Qi (fun (r : Int32) (u : Int32 × Int32 × (Nat → Int32) × (Nat → Int32) × (Nat → Int32) × (Nat → Int32) × (Nat → Int32)) => post r u.1 u.2.1 u.2.2.1 u.2.2.2.1 u.2.2.2.2.1 u.2.2.2.2.2.1 u.2.2.2.2.2.2) (fun (u : Int32 × Int32 × (Nat → Int32) × (Nat → Int32) × (Nat → Int32) × (Nat → Int32) × (Nat → Int32)) (t : State) => va_P (dC, dI) vwCl [ob_Datum h_this h_kinds h_values h_followers u.1 h_openLists h_lastParts u.2.1, ar_ h_followers c_followers 200 u.2.2.1, ar_ h_kinds c_kinds 200 u.2.2.2.1, ar_ h_lastParts c_lastParts 12 u.2.2.2.2.1, ar_ h_openLists c_openLists 12 u.2.2.2.2.2.1, ar_ h_values c_values 200 u.2.2.2.2.2.2, ar_ h_p1 c_p1 200 f_p1] t.heap ∧ va_K (dC, dI) vwCl [(c_followers, .int), (c_kinds, .int), (c_lastParts, .int), (c_openLists, .int), (c_values, .int), (c_p1, .char)] t ∧ va_D (va_A [ob_Datum h_this h_kinds h_values h_followers i_count h_openLists h_lastParts i_openCount, ar_ h_followers c_followers 200 f_followers, ar_ h_kinds c_kinds 200 f_kinds, ar_ h_lastParts c_lastParts 12 f_lastParts, ar_ h_openLists c_openLists 12 f_openLists, ar_ h_values c_values 200 f_values, ar_ h_p1 c_p1 200 f_p1] sz) [ob_Datum h_this h_kinds h_values h_followers u.1 h_openLists h_lastParts u.2.1, ar_ h_followers c_followers 200 u.2.2.1, ar_ h_kinds c_kinds 200 u.2.2.2.1, ar_ h_lastParts c_lastParts 12 u.2.2.2.2.1, ar_ h_openLists c_openLists 12 u.2.2.2.2.2.1, ar_ h_values c_values 200 u.2.2.2.2.2.2, ar_ h_p1 c_p1 200 f_p1]) (va_A [ob_Datum h_this h_kinds h_values h_followers i_count h_openLists h_lastParts i_openCount, ar_ h_followers c_followers 200 f_followers, ar_ h_kinds c_kinds 200 f_kinds, ar_ h_lastParts c_lastParts 12 f_lastParts, ar_ h_openLists c_openLists 12 f_openLists, ar_ h_values c_values 200 f_values, ar_ h_p1 c_p1 200 f_p1] sz)) 0 0 (va_A [ob_Datum h_this h_kinds h_values h_followers i_count h_openLists h_lastParts i_openCount, ar_ h_followers c_followers 200 f_followers, ar_ h_kinds c_kinds 200 f_kinds, ar_ h_lastParts c_lastParts 12 f_lastParts, ar_ h_openLists c_openLists 12 f_openLists, ar_ h_values c_values 200 f_values, ar_ h_p1 c_p1 200 f_p1] sz) := by
  refine Met.ofW (cc := b_Datum_readOne) (maxL := 5) (ret := (some .int)) (by decide) rfl ?_
  intro p e s m args below meth c s₁ B hml hv
  obtain ⟨rfl, hsz, hP, hK, hD0, hG⟩ := hv
  have hx := B.exec
  have hb := B.bytes
  have hr := B.returns
  have hts : ∀ w ∈ tb, w.before _ s = true := fun w h => atoms_spec (ws := ws_ _ _ _ _) B.pre w (List.mem_cons_of_mem _ h)
  have hown : s.vm.findClass R_Datum = some m.cls := findClass_of_methodNamed B.named
  have hlocks := B.notSynchronized
  subst hsz
  have hD := hD0.self (sz := s.heap.size)
  generalize hAe : va_A [ob_Datum h_this h_kinds h_values h_followers i_count h_openLists h_lastParts i_openCount, ar_ h_followers c_followers 200 f_followers, ar_ h_kinds c_kinds 200 f_kinds, ar_ h_lastParts c_lastParts 12 f_lastParts, ar_ h_openLists c_openLists 12 f_openLists, ar_ h_values c_values 200 f_values, ar_ h_p1 c_p1 200 f_p1] s.heap.size = A at hD hG ⊢
  have hA : ∀ q : Nat, s.heap.size ≤ q → A q := fun q h => by rw [← hAe]; exact Or.inr h
  have hS : va_S A s.heap s.heap [] := va_S.rf
  have hP : va_P (dC, dI) vwCl [ob_Datum h_this h_kinds h_values h_followers i_count h_openLists h_lastParts i_openCount, ar_ h_followers c_followers 200 f_followers, ar_ h_kinds c_kinds 200 f_kinds, ar_ h_lastParts c_lastParts 12 f_lastParts, ar_ h_openLists c_openLists 12 f_openLists, ar_ h_values c_values 200 f_values, ar_ h_p1 c_p1 200 f_p1] s.heap := hP
  have hl := lv_entry [.ref h_this, .ref h_p1, .int x2, .int x3] (n := 5) (Nat.le_of_ble_eq_true rfl)
  rw [lg_entry_eq]
  generalize (lg_sl [.ref h_this, .ref h_p1, .int x2, .int x3] ++ List.replicate (5 - (lg_sl [.ref h_this, .ref h_p1, .int x2, .int x3]).length) Slot.unset).toArray = ls at hl ⊢
  have hl : lv_has ls 5 [(0, .ref h_this), (1, .ref h_p1), (2, .int x2), (3, .int x3)] := hl
  obtain ⟨Q, hQ⟩ : ∃ Q : State → Prop, Q = MQ below (va_Qi (fun (r : Int32) (u : Int32 × Int32 × (Nat → Int32) × (Nat → Int32) × (Nat → Int32) × (Nat → Int32) × (Nat → Int32)) => post r u.1 u.2.1 u.2.2.1 u.2.2.2.1 u.2.2.2.2.1 u.2.2.2.2.2.1 u.2.2.2.2.2.2) (fun (u : Int32 × Int32 × (Nat → Int32) × (Nat → Int32) × (Nat → Int32) × (Nat → Int32) × (Nat → Int32)) (t : State) => va_P (dC, dI) vwCl [ob_Datum h_this h_kinds h_values h_followers u.1 h_openLists h_lastParts u.2.1, ar_ h_followers c_followers 200 u.2.2.1, ar_ h_kinds c_kinds 200 u.2.2.2.1, ar_ h_lastParts c_lastParts 12 u.2.2.2.2.1, ar_ h_openLists c_openLists 12 u.2.2.2.2.2.1, ar_ h_values c_values 200 u.2.2.2.2.2.2, ar_ h_p1 c_p1 200 f_p1] t.heap ∧ va_K (dC, dI) vwCl [(c_followers, .int), (c_kinds, .int), (c_lastParts, .int), (c_openLists, .int), (c_values, .int), (c_p1, .char)] t ∧ va_D A [ob_Datum h_this h_kinds h_values h_followers u.1 h_openLists h_lastParts u.2.1, ar_ h_followers c_followers 200 u.2.2.1, ar_ h_kinds c_kinds 200 u.2.2.2.1, ar_ h_lastParts c_lastParts 12 u.2.2.2.2.1, ar_ h_openLists c_openLists 12 u.2.2.2.2.2.1, ar_ h_values c_values 200 u.2.2.2.2.2.2, ar_ h_p1 c_p1 200 f_p1]) A) ([.ref h_this, .ref h_p1, .int x2, .int x3] : List Value).toArray s 0 0 A := ⟨_, rfl⟩
  rw [← hQ]
  unfold wp_Datum_readOne at hw
  refine lv_aload_n hx hb d_Datum_readOne_0 rfl (lv_at hl 1 rfl) ?_
  refine lv_iload_n hx hb d_Datum_readOne_1 rfl (lv_at hl 3 rfl) ?_
  obtain ⟨h_1, hw⟩ := hw
  refine va_cald hx hb hK hP 6 5 rfl rfl h_1 d_Datum_readOne_2 ?_
  refine lv_istore (lv' := [(4, .int (f_p1 x3.toNatClampNeg)), (0, .ref h_this), (1, .ref h_p1), (2, .int x2), (3, .int x3)]) hx hb d_Datum_readOne_3 hl (by decide) rfl (fun ls hl => ?_)
  refine lv_iload hx hb d_Datum_readOne_5 (lv_at hl 0 rfl) ?_
  refine lv_bipush (v := 32) hx hb d_Datum_readOne_7 (by decide) ?_
  refine lv_icmp_ne (tgt := 16) hx hb d_Datum_readOne_9 (by decide) (fun c_2 => ?_) (fun c_2 => ?_)
  · have hw := hw.2 c_2
    refine lv_iload hx hb d_Datum_readOne_16 (lv_at hl 0 rfl) ?_
    refine lv_bipush (v := 40) hx hb d_Datum_readOne_18 (by decide) ?_
    refine lv_icmp_ne (tgt := 38) hx hb d_Datum_readOne_20 (by decide) (fun c_3 => ?_) (fun c_3 => ?_)
    · have hw := hw.2 c_3
      refine lv_iload hx hb d_Datum_readOne_38 (lv_at hl 0 rfl) ?_
      refine lv_bipush (v := 41) hx hb d_Datum_readOne_40 (by decide) ?_
      refine lv_icmp_ne (tgt := 60) hx hb d_Datum_readOne_42 (by decide) (fun c_4 => ?_) (fun c_4 => ?_)
      · have hw := hw.2 c_4
        refine lv_iload hx hb d_Datum_readOne_60 (lv_at hl 0 rfl) ?_
        have hPc := hP.sub (ws' := []) [] rfl
        have hDc := hD.sub (ws' := []) [] (by decide) rfl
        have hKc := hK.sub (tys' := []) [] rfl
        have hFc := va_free (wc := []) hD hS hA [] rfl
        refine va_calli (va_runSN (As := [.int (f_p1 x3.toNatClampNeg)]) (rest := []) ⟨hx, hb, hml, hown, hts⟩ (c_Secd_isLetter l dC dI s.heap.size (f_p1 x3.toNatClampNeg) _ hw) ⟨va_cnB 1 hts (gd_W kt_346) rfl rfl rfl (gb_nw 3 rfl hG) (hts _ kt_1) (by decide +kernel) ⟨Nat.le_of_ble_eq_true rfl, Nat.le_of_ble_eq_true rfl⟩, hts _ kt_345, trivial⟩ ⟨pre_blind, pre_ok hPc hKc hDc hG hS hFc⟩ rfl rfl hl.1 rfl (lv_room (Nat.le_of_ble_eq_true rfl)) d_Datum_readOne_62 ⟨Nat.zero_le _, Nat.zero_le _⟩) hS (fun q _ h => hFc q h) hFc (fun r_5 u t H1 locs ht hvm hw hB hz1 hk1 hS => ?_)
        obtain ⟨hP1, hK1, hD1⟩ := hB
        rw [ht] at hP1
        try dsimp only at hw
        obtain ⟨hP, hD⟩ := va_join (wr := [ob_Datum h_this h_kinds h_values h_followers i_count h_openLists h_lastParts i_openCount, ar_ h_followers c_followers 200 f_followers, ar_ h_kinds c_kinds 200 f_kinds, ar_ h_lastParts c_lastParts 12 f_lastParts, ar_ h_openLists c_openLists 12 f_openLists, ar_ h_values c_values 200 f_values, ar_ h_p1 c_p1 200 f_p1]) (w1 := []) hP hD [] [0, 1, 2, 3, 4, 5, 6] rfl rfl (by decide) (by decide) hk1 hFc hP1 hD1
        generalize H1 = H at hP hS ⊢
        have hP : va_P (dC, dI) vwCl [ob_Datum h_this h_kinds h_values h_followers i_count h_openLists h_lastParts i_openCount, ar_ h_followers c_followers 200 f_followers, ar_ h_kinds c_kinds 200 f_kinds, ar_ h_lastParts c_lastParts 12 f_lastParts, ar_ h_openLists c_openLists 12 f_openLists, ar_ h_values c_values 200 f_values, ar_ h_p1 c_p1 200 f_p1] H := hP
        have hD : va_D A [ob_Datum h_this h_kinds h_values h_followers i_count h_openLists h_lastParts i_openCount, ar_ h_followers c_followers 200 f_followers, ar_ h_kinds c_kinds 200 f_kinds, ar_ h_lastParts c_lastParts 12 f_lastParts, ar_ h_openLists c_openLists 12 f_openLists, ar_ h_values c_values 200 f_values, ar_ h_p1 c_p1 200 f_p1] := hD
        refine lv_if_eq (tgt := 78) hx hb d_Datum_readOne_65 (by decide) (fun c_6 => ?_) (fun c_6 => ?_)
        · have hw := hw.1 c_6
          refine lv_aload_n hx hb d_Datum_readOne_78 rfl (lv_at hl 1 rfl) ?_
          refine lv_aload_n hx hb d_Datum_readOne_79 rfl (lv_at hl 2 rfl) ?_
          refine lv_iload_n hx hb d_Datum_readOne_80 rfl (lv_at hl 3 rfl) ?_
          refine lv_iload_n hx hb d_Datum_readOne_81 rfl (lv_at hl 4 rfl) ?_
          have hPc := hP.sub (ws' := [ob_Datum h_this h_kinds h_values h_followers i_count h_openLists h_lastParts i_openCount, ar_ h_followers c_followers 200 f_followers, ar_ h_kinds c_kinds 200 f_kinds, ar_ h_lastParts c_lastParts 12 f_lastParts, ar_ h_openLists c_openLists 12 f_openLists, ar_ h_values c_values 200 f_values, ar_ h_p1 c_p1 200 f_p1]) [0, 1, 2, 3, 4, 5, 6] rfl
          have hDc := hD.sub (ws' := [ob_Datum h_this h_kinds h_values h_followers i_count h_openLists h_lastParts i_openCount, ar_ h_followers c_followers 200 f_followers, ar_ h_kinds c_kinds 200 f_kinds, ar_ h_lastParts c_lastParts 12 f_lastParts, ar_ h_openLists c_openLists 12 f_openLists, ar_ h_values c_values 200 f_values, ar_ h_p1 c_p1 200 f_p1]) [0, 1, 2, 3, 4, 5, 6] (by decide) rfl
          have hKc := hK.sub (tys' := [(c_followers, .int), (c_kinds, .int), (c_lastParts, .int), (c_openLists, .int), (c_values, .int), (c_p1, .char)]) [0, 1, 2, 3, 4, 5] rfl
          have hFc := va_free (wc := [ob_Datum h_this h_kinds h_values h_followers i_count h_openLists h_lastParts i_openCount, ar_ h_followers c_followers 200 f_followers, ar_ h_kinds c_kinds 200 f_kinds, ar_ h_lastParts c_lastParts 12 f_lastParts, ar_ h_openLists c_openLists 12 f_openLists, ar_ h_values c_values 200 f_values, ar_ h_p1 c_p1 200 f_p1]) hD hS hA [0, 1, 2, 3, 4, 5, 6] rfl
          refine va_calli (va_runV (As := [.ref h_p1, .int x2, .int x3]) (rest := []) ⟨hx, hb, hml, hown, hts⟩ (c_Datum_readNumber l dC dI h_this h_followers h_kinds h_lastParts h_openLists h_values h_p1 c_followers c_kinds c_lastParts c_openLists c_values c_p1 H.size i_count i_openCount f_followers f_kinds f_lastParts f_openLists f_values f_p1 x2 x3 _ hw) (cwV 3 hts (gd_V kt_385 kt_387 ks_6 kt_2 kt_388) rfl rfl rfl (by decide +kernel) ⟨Nat.le_of_ble_eq_true rfl, Nat.le_of_ble_eq_true rfl⟩) ⟨pre_blind, va_recv hKc hPc (ci := 1) (q0 := 0) rfl rfl, pre_ok hPc hKc hDc hG hS hFc⟩ rfl rfl hl.1 rfl (lv_room (Nat.le_of_ble_eq_true rfl)) d_Datum_readOne_82 ⟨Nat.zero_le _, Nat.zero_le _⟩) hS (fun q _ h => hFc q h) hFc (fun r_7 u t H1 locs ht hvm hw hB hz1 hk1 hS => ?_)
          obtain ⟨i_count_8, f_followers_9, f_kinds_10, f_lastParts_11, f_values_12⟩ := u
          obtain ⟨hP1, hK1, hD1⟩ := hB
          rw [ht] at hP1
          try dsimp only at hw
          obtain ⟨hP, hD⟩ := va_join (wr := []) (w1 := [ob_Datum h_this h_kinds h_values h_followers i_count_8 h_openLists h_lastParts i_openCount, ar_ h_followers c_followers 200 f_followers_9, ar_ h_kinds c_kinds 200 f_kinds_10, ar_ h_lastParts c_lastParts 12 f_lastParts_11, ar_ h_openLists c_openLists 12 f_openLists, ar_ h_values c_values 200 f_values_12, ar_ h_p1 c_p1 200 f_p1]) hP hD [0, 1, 2, 3, 4, 5, 6] [] rfl rfl (by decide) (by decide) hk1 hFc hP1 hD1
          generalize H1 = H at hP hS ⊢
          have hP : va_P (dC, dI) vwCl [ob_Datum h_this h_kinds h_values h_followers i_count_8 h_openLists h_lastParts i_openCount, ar_ h_followers c_followers 200 f_followers_9, ar_ h_kinds c_kinds 200 f_kinds_10, ar_ h_lastParts c_lastParts 12 f_lastParts_11, ar_ h_openLists c_openLists 12 f_openLists, ar_ h_values c_values 200 f_values_12, ar_ h_p1 c_p1 200 f_p1] H := hP
          have hD : va_D A [ob_Datum h_this h_kinds h_values h_followers i_count_8 h_openLists h_lastParts i_openCount, ar_ h_followers c_followers 200 f_followers_9, ar_ h_kinds c_kinds 200 f_kinds_10, ar_ h_lastParts c_lastParts 12 f_lastParts_11, ar_ h_openLists c_openLists 12 f_openLists, ar_ h_values c_values 200 f_values_12, ar_ h_p1 c_p1 200 f_p1] := hD
          have hP9 : va_P (dC, dI) vwCl [ob_Datum h_this h_kinds h_values h_followers i_count_8 h_openLists h_lastParts i_openCount, ar_ h_followers c_followers 200 f_followers_9, ar_ h_kinds c_kinds 200 f_kinds_10, ar_ h_lastParts c_lastParts 12 f_lastParts_11, ar_ h_openLists c_openLists 12 f_openLists, ar_ h_values c_values 200 f_values_12, ar_ h_p1 c_p1 200 f_p1] _ := hP
          have hD9 : va_D A [ob_Datum h_this h_kinds h_values h_followers i_count_8 h_openLists h_lastParts i_openCount, ar_ h_followers c_followers 200 f_followers_9, ar_ h_kinds c_kinds 200 f_kinds_10, ar_ h_lastParts c_lastParts 12 f_lastParts_11, ar_ h_openLists c_openLists 12 f_openLists, ar_ h_values c_values 200 f_values_12, ar_ h_p1 c_p1 200 f_p1] := hD
          rw [hQ]
          exact W.iret (v := r_7) hx hb hr (fun t ht hW => ⟨⟨r_7, (i_count_8, i_openCount, f_followers_9, f_kinds_10, f_lastParts_11, f_openLists, f_values_12), rfl, hw, by rw [ht]; exact hP9, va_K.moved hW.alike hK, hD9⟩, hS.F ht⟩) hS.2.2 d_Datum_readOne_85
        · have hw := hw.2 c_6
          refine lv_aload_n hx hb d_Datum_readOne_68 rfl (lv_at hl 1 rfl) ?_
          refine lv_aload_n hx hb d_Datum_readOne_69 rfl (lv_at hl 2 rfl) ?_
          refine lv_iload_n hx hb d_Datum_readOne_70 rfl (lv_at hl 3 rfl) ?_
          refine lv_iload_n hx hb d_Datum_readOne_71 rfl (lv_at hl 4 rfl) ?_
          have hPc := hP.sub (ws' := [ob_Datum h_this h_kinds h_values h_followers i_count h_openLists h_lastParts i_openCount, ar_ h_followers c_followers 200 f_followers, ar_ h_kinds c_kinds 200 f_kinds, ar_ h_lastParts c_lastParts 12 f_lastParts, ar_ h_openLists c_openLists 12 f_openLists, ar_ h_values c_values 200 f_values, ar_ h_p1 c_p1 200 f_p1]) [0, 1, 2, 3, 4, 5, 6] rfl
          have hDc := hD.sub (ws' := [ob_Datum h_this h_kinds h_values h_followers i_count h_openLists h_lastParts i_openCount, ar_ h_followers c_followers 200 f_followers, ar_ h_kinds c_kinds 200 f_kinds, ar_ h_lastParts c_lastParts 12 f_lastParts, ar_ h_openLists c_openLists 12 f_openLists, ar_ h_values c_values 200 f_values, ar_ h_p1 c_p1 200 f_p1]) [0, 1, 2, 3, 4, 5, 6] (by decide) rfl
          have hKc := hK.sub (tys' := [(c_followers, .int), (c_kinds, .int), (c_lastParts, .int), (c_openLists, .int), (c_values, .int), (c_p1, .char)]) [0, 1, 2, 3, 4, 5] rfl
          have hFc := va_free (wc := [ob_Datum h_this h_kinds h_values h_followers i_count h_openLists h_lastParts i_openCount, ar_ h_followers c_followers 200 f_followers, ar_ h_kinds c_kinds 200 f_kinds, ar_ h_lastParts c_lastParts 12 f_lastParts, ar_ h_openLists c_openLists 12 f_openLists, ar_ h_values c_values 200 f_values, ar_ h_p1 c_p1 200 f_p1]) hD hS hA [0, 1, 2, 3, 4, 5, 6] rfl
          refine va_calli (va_runV (As := [.ref h_p1, .int x2, .int x3]) (rest := []) ⟨hx, hb, hml, hown, hts⟩ (c_Datum_readName l dC dI h_this h_followers h_kinds h_lastParts h_openLists h_values h_p1 c_followers c_kinds c_lastParts c_openLists c_values c_p1 H.size i_count i_openCount f_followers f_kinds f_lastParts f_openLists f_values f_p1 x2 x3 _ hw) (cwV 3 hts (gd_V kt_380 kt_382 ks_5 kt_2 kt_383) rfl rfl rfl (by decide +kernel) ⟨Nat.le_of_ble_eq_true rfl, Nat.le_of_ble_eq_true rfl⟩) ⟨pre_blind, va_recv hKc hPc (ci := 1) (q0 := 0) rfl rfl, pre_ok hPc hKc hDc hG hS hFc⟩ rfl rfl hl.1 rfl (lv_room (Nat.le_of_ble_eq_true rfl)) d_Datum_readOne_72 ⟨Nat.zero_le _, Nat.zero_le _⟩) hS (fun q _ h => hFc q h) hFc (fun r_13 u t H1 locs ht hvm hw hB hz1 hk1 hS => ?_)
          obtain ⟨i_count_14, f_followers_15, f_kinds_16, f_lastParts_17, f_values_18⟩ := u
          obtain ⟨hP1, hK1, hD1⟩ := hB
          rw [ht] at hP1
          try dsimp only at hw
          obtain ⟨hP, hD⟩ := va_join (wr := []) (w1 := [ob_Datum h_this h_kinds h_values h_followers i_count_14 h_openLists h_lastParts i_openCount, ar_ h_followers c_followers 200 f_followers_15, ar_ h_kinds c_kinds 200 f_kinds_16, ar_ h_lastParts c_lastParts 12 f_lastParts_17, ar_ h_openLists c_openLists 12 f_openLists, ar_ h_values c_values 200 f_values_18, ar_ h_p1 c_p1 200 f_p1]) hP hD [0, 1, 2, 3, 4, 5, 6] [] rfl rfl (by decide) (by decide) hk1 hFc hP1 hD1
          generalize H1 = H at hP hS ⊢
          have hP : va_P (dC, dI) vwCl [ob_Datum h_this h_kinds h_values h_followers i_count_14 h_openLists h_lastParts i_openCount, ar_ h_followers c_followers 200 f_followers_15, ar_ h_kinds c_kinds 200 f_kinds_16, ar_ h_lastParts c_lastParts 12 f_lastParts_17, ar_ h_openLists c_openLists 12 f_openLists, ar_ h_values c_values 200 f_values_18, ar_ h_p1 c_p1 200 f_p1] H := hP
          have hD : va_D A [ob_Datum h_this h_kinds h_values h_followers i_count_14 h_openLists h_lastParts i_openCount, ar_ h_followers c_followers 200 f_followers_15, ar_ h_kinds c_kinds 200 f_kinds_16, ar_ h_lastParts c_lastParts 12 f_lastParts_17, ar_ h_openLists c_openLists 12 f_openLists, ar_ h_values c_values 200 f_values_18, ar_ h_p1 c_p1 200 f_p1] := hD
          refine lv_goto (tgt := 85) hx hb d_Datum_readOne_75 (by decide) ?_
          have hP9 : va_P (dC, dI) vwCl [ob_Datum h_this h_kinds h_values h_followers i_count_14 h_openLists h_lastParts i_openCount, ar_ h_followers c_followers 200 f_followers_15, ar_ h_kinds c_kinds 200 f_kinds_16, ar_ h_lastParts c_lastParts 12 f_lastParts_17, ar_ h_openLists c_openLists 12 f_openLists, ar_ h_values c_values 200 f_values_18, ar_ h_p1 c_p1 200 f_p1] _ := hP
          have hD9 : va_D A [ob_Datum h_this h_kinds h_values h_followers i_count_14 h_openLists h_lastParts i_openCount, ar_ h_followers c_followers 200 f_followers_15, ar_ h_kinds c_kinds 200 f_kinds_16, ar_ h_lastParts c_lastParts 12 f_lastParts_17, ar_ h_openLists c_openLists 12 f_openLists, ar_ h_values c_values 200 f_values_18, ar_ h_p1 c_p1 200 f_p1] := hD
          rw [hQ]
          exact W.iret (v := r_13) hx hb hr (fun t ht hW => ⟨⟨r_13, (i_count_14, i_openCount, f_followers_15, f_kinds_16, f_lastParts_17, f_openLists, f_values_18), rfl, hw, by rw [ht]; exact hP9, va_K.moved hW.alike hK, hD9⟩, hS.F ht⟩) hS.2.2 d_Datum_readOne_85
      · have hw := hw.1 c_4
        refine lv_aload_n hx hb d_Datum_readOne_45 rfl (lv_at hl 1 rfl) ?_
        have hPc := hP.sub (ws' := [ob_Datum h_this h_kinds h_values h_followers i_count h_openLists h_lastParts i_openCount]) [0] rfl
        have hDc := hD.sub (ws' := [ob_Datum h_this h_kinds h_values h_followers i_count h_openLists h_lastParts i_openCount]) [0] (by decide) rfl
        have hKc := hK.sub (tys' := []) [] rfl
        have hFc := va_free (wc := [ob_Datum h_this h_kinds h_values h_followers i_count h_openLists h_lastParts i_openCount]) hD hS hA [0] rfl
        refine va_calli (va_runV (As := []) (rest := []) ⟨hx, hb, hml, hown, hts⟩ (c_Datum_closeList l dC dI h_this h_kinds h_values h_followers h_openLists h_lastParts s.heap.size i_count i_openCount _ hw) (cwV 0 hts (gd_V kt_375 kt_377 ks_4 kt_2 kt_378) rfl rfl rfl (by decide +kernel) ⟨Nat.le_of_ble_eq_true rfl, Nat.le_of_ble_eq_true rfl⟩) ⟨pre_blind, va_recv hKc hPc (ci := 1) (q0 := 0) rfl rfl, pre_ok hPc hKc hDc hG hS hFc⟩ rfl rfl hl.1 rfl (lv_room (Nat.le_of_ble_eq_true rfl)) d_Datum_readOne_46 ⟨Nat.zero_le _, Nat.zero_le _⟩) hS (fun q _ h => hFc q h) hFc (fun r_19 u t H1 locs ht hvm hw hB hz1 hk1 hS => ?_)
        obtain ⟨i_openCount_20, rfl⟩ : ∃ z, z = u := ⟨_, rfl⟩
        obtain ⟨hP1, hK1, hD1⟩ := hB
        rw [ht] at hP1
        try dsimp only at hw
        obtain ⟨hP, hD⟩ := va_join (wr := [ar_ h_followers c_followers 200 f_followers, ar_ h_kinds c_kinds 200 f_kinds, ar_ h_lastParts c_lastParts 12 f_lastParts, ar_ h_openLists c_openLists 12 f_openLists, ar_ h_values c_values 200 f_values, ar_ h_p1 c_p1 200 f_p1]) (w1 := [ob_Datum h_this h_kinds h_values h_followers i_count h_openLists h_lastParts i_openCount_20]) hP hD [0] [1, 2, 3, 4, 5, 6] rfl rfl (by decide) (by decide) hk1 hFc hP1 hD1
        generalize H1 = H at hP hS ⊢
        have hP : va_P (dC, dI) vwCl [ar_ h_followers c_followers 200 f_followers, ar_ h_kinds c_kinds 200 f_kinds, ar_ h_lastParts c_lastParts 12 f_lastParts, ar_ h_openLists c_openLists 12 f_openLists, ar_ h_values c_values 200 f_values, ar_ h_p1 c_p1 200 f_p1, ob_Datum h_this h_kinds h_values h_followers i_count h_openLists h_lastParts i_openCount_20] H := hP
        have hD : va_D A [ar_ h_followers c_followers 200 f_followers, ar_ h_kinds c_kinds 200 f_kinds, ar_ h_lastParts c_lastParts 12 f_lastParts, ar_ h_openLists c_openLists 12 f_openLists, ar_ h_values c_values 200 f_values, ar_ h_p1 c_p1 200 f_p1, ob_Datum h_this h_kinds h_values h_followers i_count h_openLists h_lastParts i_openCount_20] := hD
        refine lv_if_eq (tgt := 58) hx hb d_Datum_readOne_49 (by decide) (fun c_21 => ?_) (fun c_21 => ?_)
        · have hw := hw.1 c_21
          refine lv_iconst (v := (-1)) hx hb d_Datum_readOne_58 (by decide) ?_
          have hP9 : va_P (dC, dI) vwCl [ob_Datum h_this h_kinds h_values h_followers i_count h_openLists h_lastParts i_openCount_20, ar_ h_followers c_followers 200 f_followers, ar_ h_kinds c_kinds 200 f_kinds, ar_ h_lastParts c_lastParts 12 f_lastParts, ar_ h_openLists c_openLists 12 f_openLists, ar_ h_values c_values 200 f_values, ar_ h_p1 c_p1 200 f_p1] _ := (hP.sub [6, 0, 1, 2, 3, 4, 5] rfl)
          have hD9 : va_D A [ob_Datum h_this h_kinds h_values h_followers i_count h_openLists h_lastParts i_openCount_20, ar_ h_followers c_followers 200 f_followers, ar_ h_kinds c_kinds 200 f_kinds, ar_ h_lastParts c_lastParts 12 f_lastParts, ar_ h_openLists c_openLists 12 f_openLists, ar_ h_values c_values 200 f_values, ar_ h_p1 c_p1 200 f_p1] := (hD.sub [6, 0, 1, 2, 3, 4, 5] (by decide) rfl)
          rw [hQ]
          exact W.iret (v := (-1 : Int32)) hx hb hr (fun t ht hW => ⟨⟨(-1 : Int32), (i_count, i_openCount_20, f_followers, f_kinds, f_lastParts, f_openLists, f_values), rfl, hw, by rw [ht]; exact hP9, va_K.moved hW.alike hK, hD9⟩, hS.F ht⟩) hS.2.2 d_Datum_readOne_59
        · have hw := hw.2 c_21
          refine lv_iload_n hx hb d_Datum_readOne_52 rfl (lv_at hl 4 rfl) ?_
          refine lv_iconst (v := 1) hx hb d_Datum_readOne_53 (by decide) ?_
          refine lv_iadd hx hb d_Datum_readOne_54 ?_
          refine lv_goto (tgt := 59) hx hb d_Datum_readOne_55 (by decide) ?_
          have hP9 : va_P (dC, dI) vwCl [ob_Datum h_this h_kinds h_values h_followers i_count h_openLists h_lastParts i_openCount_20, ar_ h_followers c_followers 200 f_followers, ar_ h_kinds c_kinds 200 f_kinds, ar_ h_lastParts c_lastParts 12 f_lastParts, ar_ h_openLists c_openLists 12 f_openLists, ar_ h_values c_values 200 f_values, ar_ h_p1 c_p1 200 f_p1] _ := (hP.sub [6, 0, 1, 2, 3, 4, 5] rfl)
          have hD9 : va_D A [ob_Datum h_this h_kinds h_values h_followers i_count h_openLists h_lastParts i_openCount_20, ar_ h_followers c_followers 200 f_followers, ar_ h_kinds c_kinds 200 f_kinds, ar_ h_lastParts c_lastParts 12 f_lastParts, ar_ h_openLists c_openLists 12 f_openLists, ar_ h_values c_values 200 f_values, ar_ h_p1 c_p1 200 f_p1] := (hD.sub [6, 0, 1, 2, 3, 4, 5] (by decide) rfl)
          rw [hQ]
          exact W.iret (v := x3 + (1 : Int32)) hx hb hr (fun t ht hW => ⟨⟨x3 + (1 : Int32), (i_count, i_openCount_20, f_followers, f_kinds, f_lastParts, f_openLists, f_values), rfl, hw, by rw [ht]; exact hP9, va_K.moved hW.alike hK, hD9⟩, hS.F ht⟩) hS.2.2 d_Datum_readOne_59
    · have hw := hw.1 c_3
      refine lv_aload_n hx hb d_Datum_readOne_23 rfl (lv_at hl 1 rfl) ?_
      have hPc := hP.sub (ws' := [ob_Datum h_this h_kinds h_values h_followers i_count h_openLists h_lastParts i_openCount, ar_ h_followers c_followers 200 f_followers, ar_ h_kinds c_kinds 200 f_kinds, ar_ h_lastParts c_lastParts 12 f_lastParts, ar_ h_openLists c_openLists 12 f_openLists, ar_ h_values c_values 200 f_values]) [0, 1, 2, 3, 4, 5] rfl
      have hDc := hD.sub (ws' := [ob_Datum h_this h_kinds h_values h_followers i_count h_openLists h_lastParts i_openCount, ar_ h_followers c_followers 200 f_followers, ar_ h_kinds c_kinds 200 f_kinds, ar_ h_lastParts c_lastParts 12 f_lastParts, ar_ h_openLists c_openLists 12 f_openLists, ar_ h_values c_values 200 f_values]) [0, 1, 2, 3, 4, 5] (by decide) rfl
      have hKc := hK.sub (tys' := [(c_followers, .int), (c_kinds, .int), (c_lastParts, .int), (c_openLists, .int), (c_values, .int)]) [0, 1, 2, 3, 4] rfl
      have hFc := va_free (wc := [ob_Datum h_this h_kinds h_values h_followers i_count h_openLists h_lastParts i_openCount, ar_ h_followers c_followers 200 f_followers, ar_ h_kinds c_kinds 200 f_kinds, ar_ h_lastParts c_lastParts 12 f_lastParts, ar_ h_openLists c_openLists 12 f_openLists, ar_ h_values c_values 200 f_values]) hD hS hA [0, 1, 2, 3, 4, 5] rfl
      refine va_calli (va_runV (As := []) (rest := []) ⟨hx, hb, hml, hown, hts⟩ (c_Datum_openList l dC dI h_this h_followers h_kinds h_lastParts h_openLists h_values c_followers c_kinds c_lastParts c_openLists c_values s.heap.size i_count i_openCount f_followers f_kinds f_lastParts f_openLists f_values _ hw) (cwV 0 hts (gd_V kt_363 kt_365 ks_1 kt_2 kt_366) rfl rfl rfl (by decide +kernel) ⟨Nat.le_of_ble_eq_true rfl, Nat.le_of_ble_eq_true rfl⟩) ⟨pre_blind, va_recv hKc hPc (ci := 1) (q0 := 0) rfl rfl, pre_ok hPc hKc hDc hG hS hFc⟩ rfl rfl hl.1 rfl (lv_room (Nat.le_of_ble_eq_true rfl)) d_Datum_readOne_24 ⟨Nat.zero_le _, Nat.zero_le _⟩) hS (fun q _ h => hFc q h) hFc (fun r_22 u t H1 locs ht hvm hw hB hz1 hk1 hS => ?_)
      obtain ⟨i_count_23, i_openCount_24, f_followers_25, f_kinds_26, f_lastParts_27, f_openLists_28, f_values_29⟩ := u
      obtain ⟨hP1, hK1, hD1⟩ := hB
      rw [ht] at hP1
      try dsimp only at hw
      obtain ⟨hP, hD⟩ := va_join (wr := [ar_ h_p1 c_p1 200 f_p1]) (w1 := [ob_Datum h_this h_kinds h_values h_followers i_count_23 h_openLists h_lastParts i_openCount_24, ar_ h_followers c_followers 200 f_followers_25, ar_ h_kinds c_kinds 200 f_kinds_26, ar_ h_lastParts c_lastParts 12 f_lastParts_27, ar_ h_openLists c_openLists 12 f_openLists_28, ar_ h_values c_values 200 f_values_29]) hP hD [0, 1, 2, 3, 4, 5] [6] rfl rfl (by decide) (by decide) hk1 hFc hP1 hD1
      generalize H1 = H at hP hS ⊢
      have hP : va_P (dC, dI) vwCl [ar_ h_p1 c_p1 200 f_p1, ob_Datum h_this h_kinds h_values h_followers i_count_23 h_openLists h_lastParts i_openCount_24, ar_ h_followers c_followers 200 f_followers_25, ar_ h_kinds c_kinds 200 f_kinds_26, ar_ h_lastParts c_lastParts 12 f_lastParts_27, ar_ h_openLists c_openLists 12 f_openLists_28, ar_ h_values c_values 200 f_values_29] H := hP
      have hD : va_D A [ar_ h_p1 c_p1 200 f_p1, ob_Datum h_this h_kinds h_values h_followers i_count_23 h_openLists h_lastParts i_openCount_24, ar_ h_followers c_followers 200 f_followers_25, ar_ h_kinds c_kinds 200 f_kinds_26, ar_ h_lastParts c_lastParts 12 f_lastParts_27, ar_ h_openLists c_openLists 12 f_openLists_28, ar_ h_values c_values 200 f_values_29] := hD
      refine lv_if_eq (tgt := 36) hx hb d_Datum_readOne_27 (by decide) (fun c_30 => ?_) (fun c_30 => ?_)
      · have hw := hw.1 c_30
        refine lv_iconst (v := (-1)) hx hb d_Datum_readOne_36 (by decide) ?_
        have hP9 : va_P (dC, dI) vwCl [ob_Datum h_this h_kinds h_values h_followers i_count_23 h_openLists h_lastParts i_openCount_24, ar_ h_followers c_followers 200 f_followers_25, ar_ h_kinds c_kinds 200 f_kinds_26, ar_ h_lastParts c_lastParts 12 f_lastParts_27, ar_ h_openLists c_openLists 12 f_openLists_28, ar_ h_values c_values 200 f_values_29, ar_ h_p1 c_p1 200 f_p1] _ := (hP.sub [1, 2, 3, 4, 5, 6, 0] rfl)
        have hD9 : va_D A [ob_Datum h_this h_kinds h_values h_followers i_count_23 h_openLists h_lastParts i_openCount_24, ar_ h_followers c_followers 200 f_followers_25, ar_ h_kinds c_kinds 200 f_kinds_26, ar_ h_lastParts c_lastParts 12 f_lastParts_27, ar_ h_openLists c_openLists 12 f_openLists_28, ar_ h_values c_values 200 f_values_29, ar_ h_p1 c_p1 200 f_p1] := (hD.sub [1, 2, 3, 4, 5, 6, 0] (by decide) rfl)
        rw [hQ]
        exact W.iret (v := (-1 : Int32)) hx hb hr (fun t ht hW => ⟨⟨(-1 : Int32), (i_count_23, i_openCount_24, f_followers_25, f_kinds_26, f_lastParts_27, f_openLists_28, f_values_29), rfl, hw, by rw [ht]; exact hP9, va_K.moved hW.alike hK, hD9⟩, hS.F ht⟩) hS.2.2 d_Datum_readOne_37
      · have hw := hw.2 c_30
        refine lv_iload_n hx hb d_Datum_readOne_30 rfl (lv_at hl 4 rfl) ?_
        refine lv_iconst (v := 1) hx hb d_Datum_readOne_31 (by decide) ?_
        refine lv_iadd hx hb d_Datum_readOne_32 ?_
        refine lv_goto (tgt := 37) hx hb d_Datum_readOne_33 (by decide) ?_
        have hP9 : va_P (dC, dI) vwCl [ob_Datum h_this h_kinds h_values h_followers i_count_23 h_openLists h_lastParts i_openCount_24, ar_ h_followers c_followers 200 f_followers_25, ar_ h_kinds c_kinds 200 f_kinds_26, ar_ h_lastParts c_lastParts 12 f_lastParts_27, ar_ h_openLists c_openLists 12 f_openLists_28, ar_ h_values c_values 200 f_values_29, ar_ h_p1 c_p1 200 f_p1] _ := (hP.sub [1, 2, 3, 4, 5, 6, 0] rfl)
        have hD9 : va_D A [ob_Datum h_this h_kinds h_values h_followers i_count_23 h_openLists h_lastParts i_openCount_24, ar_ h_followers c_followers 200 f_followers_25, ar_ h_kinds c_kinds 200 f_kinds_26, ar_ h_lastParts c_lastParts 12 f_lastParts_27, ar_ h_openLists c_openLists 12 f_openLists_28, ar_ h_values c_values 200 f_values_29, ar_ h_p1 c_p1 200 f_p1] := (hD.sub [1, 2, 3, 4, 5, 6, 0] (by decide) rfl)
        rw [hQ]
        exact W.iret (v := x3 + (1 : Int32)) hx hb hr (fun t ht hW => ⟨⟨x3 + (1 : Int32), (i_count_23, i_openCount_24, f_followers_25, f_kinds_26, f_lastParts_27, f_openLists_28, f_values_29), rfl, hw, by rw [ht]; exact hP9, va_K.moved hW.alike hK, hD9⟩, hS.F ht⟩) hS.2.2 d_Datum_readOne_37
  · have hw := hw.1 c_2
    refine lv_iload_n hx hb d_Datum_readOne_12 rfl (lv_at hl 4 rfl) ?_
    refine lv_iconst (v := 1) hx hb d_Datum_readOne_13 (by decide) ?_
    refine lv_iadd hx hb d_Datum_readOne_14 ?_
    have hP9 : va_P (dC, dI) vwCl [ob_Datum h_this h_kinds h_values h_followers i_count h_openLists h_lastParts i_openCount, ar_ h_followers c_followers 200 f_followers, ar_ h_kinds c_kinds 200 f_kinds, ar_ h_lastParts c_lastParts 12 f_lastParts, ar_ h_openLists c_openLists 12 f_openLists, ar_ h_values c_values 200 f_values, ar_ h_p1 c_p1 200 f_p1] _ := hP
    have hD9 : va_D A [ob_Datum h_this h_kinds h_values h_followers i_count h_openLists h_lastParts i_openCount, ar_ h_followers c_followers 200 f_followers, ar_ h_kinds c_kinds 200 f_kinds, ar_ h_lastParts c_lastParts 12 f_lastParts, ar_ h_openLists c_openLists 12 f_openLists, ar_ h_values c_values 200 f_values, ar_ h_p1 c_p1 200 f_p1] := hD
    rw [hQ]
    exact W.iret (v := x3 + (1 : Int32)) hx hb hr (fun t ht hW => ⟨⟨x3 + (1 : Int32), (i_count, i_openCount, f_followers, f_kinds, f_lastParts, f_openLists, f_values), rfl, hw, by rw [ht]; exact hP9, va_K.moved hW.alike hK, hD9⟩, hS.F ht⟩) hS.2.2 d_Datum_readOne_15

set_option maxHeartbeats 4000000 in
set_option maxRecDepth 100000 in
theorem c_Datum_read (l : Launch) (dC : Nat → ClassId) (dI : Nat → Nat → Nat) (h_this : Nat) (h_followers : Nat) (h_kinds : Nat) (h_lastParts : Nat) (h_openLists : Nat) (h_values : Nat) (h_p1 : Nat) (c_followers : ClassId) (c_kinds : ClassId) (c_lastParts : ClassId) (c_openLists : ClassId) (c_values : ClassId) (c_p1 : ClassId) (sz : Nat)  (i_count : Int32) (i_openCount : Int32) (f_followers : Nat → Int32) (f_kinds : Nat → Int32) (f_lastParts : Nat → Int32) (f_openLists : Nat → Int32) (f_values : Nat → Int32) (f_p1 : Nat → Int32) (x2 : Int32) (post : Int32 → Int32 → Int32 → (Nat → Int32) → (Nat → Int32) → (Nat → Int32) → (Nat → Int32) → (Nat → Int32) → Prop) (hw : wp_Datum_read i_count i_openCount f_followers f_kinds f_lastParts f_openLists f_values f_p1 x2 post) : Met l y_Datum_read (ws_ y_Datum_read b_Datum_read 5 (some .boolean)) { frames := 4, cells := 0, slots := 0, locals := 96 } (va_Pc [.ref h_this, .ref h_p1, .int x2] (PRE (dC, dI) vwCl [(c_followers, .int), (c_kinds, .int), (c_lastParts, .int), (c_openLists, .int), (c_values, .int), (c_p1, .char)] [ob_Datum h_this h_kinds h_values h_followers i_count h_openLists h_lastParts i_openCount, ar_ h_followers c_followers 200 f_followers, ar_ h_kinds c_kinds 200 f_kinds, ar_ h_lastParts c_lastParts 12 f_lastParts, ar_ h_openLists c_openLists 12 f_openLists, ar_ h_values c_values 200 f_values, ar_ h_p1 c_p1 200 f_p1] sz (va_A [ob_Datum h_this h_kinds h_values h_followers i_count h_openLists h_lastParts i_openCount, ar_ h_followers c_followers 200 f_followers, ar_ h_kinds c_kinds 200 f_kinds, ar_ h_lastParts c_lastParts 12 f_lastParts, ar_ h_openLists c_openLists 12 f_openLists, ar_ h_values c_values 200 f_values, ar_ h_p1 c_p1 200 f_p1] sz))) (va_Qi (fun (r : Int32) (u : Int32 × Int32 × (Nat → Int32) × (Nat → Int32) × (Nat → Int32) × (Nat → Int32) × (Nat → Int32)) => post r u.1 u.2.1 u.2.2.1 u.2.2.2.1 u.2.2.2.2.1 u.2.2.2.2.2.1 u.2.2.2.2.2.2) (fun (u : Int32 × Int32 × (Nat → Int32) × (Nat → Int32) × (Nat → Int32) × (Nat → Int32) × (Nat → Int32)) (t : State) => va_P (dC, dI) vwCl [ob_Datum h_this h_kinds h_values h_followers u.1 h_openLists h_lastParts u.2.1, ar_ h_followers c_followers 200 u.2.2.1, ar_ h_kinds c_kinds 200 u.2.2.2.1, ar_ h_lastParts c_lastParts 12 u.2.2.2.2.1, ar_ h_openLists c_openLists 12 u.2.2.2.2.2.1, ar_ h_values c_values 200 u.2.2.2.2.2.2, ar_ h_p1 c_p1 200 f_p1] t.heap ∧ va_K (dC, dI) vwCl [(c_followers, .int), (c_kinds, .int), (c_lastParts, .int), (c_openLists, .int), (c_values, .int), (c_p1, .char)] t ∧ va_D (va_A [ob_Datum h_this h_kinds h_values h_followers i_count h_openLists h_lastParts i_openCount, ar_ h_followers c_followers 200 f_followers, ar_ h_kinds c_kinds 200 f_kinds, ar_ h_lastParts c_lastParts 12 f_lastParts, ar_ h_openLists c_openLists 12 f_openLists, ar_ h_values c_values 200 f_values, ar_ h_p1 c_p1 200 f_p1] sz) [ob_Datum h_this h_kinds h_values h_followers u.1 h_openLists h_lastParts u.2.1, ar_ h_followers c_followers 200 u.2.2.1, ar_ h_kinds c_kinds 200 u.2.2.2.1, ar_ h_lastParts c_lastParts 12 u.2.2.2.2.1, ar_ h_openLists c_openLists 12 u.2.2.2.2.2.1, ar_ h_values c_values 200 u.2.2.2.2.2.2, ar_ h_p1 c_p1 200 f_p1]) (va_A [ob_Datum h_this h_kinds h_values h_followers i_count h_openLists h_lastParts i_openCount, ar_ h_followers c_followers 200 f_followers, ar_ h_kinds c_kinds 200 f_kinds, ar_ h_lastParts c_lastParts 12 f_lastParts, ar_ h_openLists c_openLists 12 f_openLists, ar_ h_values c_values 200 f_values, ar_ h_p1 c_p1 200 f_p1] sz)) 0 0 (va_A [ob_Datum h_this h_kinds h_values h_followers i_count h_openLists h_lastParts i_openCount, ar_ h_followers c_followers 200 f_followers, ar_ h_kinds c_kinds 200 f_kinds, ar_ h_lastParts c_lastParts 12 f_lastParts, ar_ h_openLists c_openLists 12 f_openLists, ar_ h_values c_values 200 f_values, ar_ h_p1 c_p1 200 f_p1] sz) := by
  refine Met.ofW (cc := b_Datum_read) (maxL := 5) (ret := (some .boolean)) (by decide) rfl ?_
  intro p e s m args below meth c s₁ B hml hv
  obtain ⟨rfl, hsz, hP, hK, hD0, hG⟩ := hv
  have hx := B.exec
  have hb := B.bytes
  have hr := B.returns
  have hts : ∀ w ∈ tb, w.before _ s = true := fun w h => atoms_spec (ws := ws_ _ _ _ _) B.pre w (List.mem_cons_of_mem _ h)
  have hown : s.vm.findClass R_Datum = some m.cls := findClass_of_methodNamed B.named
  have hlocks := B.notSynchronized
  subst hsz
  have hD := hD0.self (sz := s.heap.size)
  generalize hAe : va_A [ob_Datum h_this h_kinds h_values h_followers i_count h_openLists h_lastParts i_openCount, ar_ h_followers c_followers 200 f_followers, ar_ h_kinds c_kinds 200 f_kinds, ar_ h_lastParts c_lastParts 12 f_lastParts, ar_ h_openLists c_openLists 12 f_openLists, ar_ h_values c_values 200 f_values, ar_ h_p1 c_p1 200 f_p1] s.heap.size = A at hD hG ⊢
  have hA : ∀ q : Nat, s.heap.size ≤ q → A q := fun q h => by rw [← hAe]; exact Or.inr h
  have hS : va_S A s.heap s.heap [] := va_S.rf
  have hP : va_P (dC, dI) vwCl [ob_Datum h_this h_kinds h_values h_followers i_count h_openLists h_lastParts i_openCount, ar_ h_followers c_followers 200 f_followers, ar_ h_kinds c_kinds 200 f_kinds, ar_ h_lastParts c_lastParts 12 f_lastParts, ar_ h_openLists c_openLists 12 f_openLists, ar_ h_values c_values 200 f_values, ar_ h_p1 c_p1 200 f_p1] s.heap := hP
  have hl := lv_entry [.ref h_this, .ref h_p1, .int x2] (n := 5) (Nat.le_of_ble_eq_true rfl)
  rw [lg_entry_eq]
  generalize (lg_sl [.ref h_this, .ref h_p1, .int x2] ++ List.replicate (5 - (lg_sl [.ref h_this, .ref h_p1, .int x2]).length) Slot.unset).toArray = ls at hl ⊢
  have hl : lv_has ls 5 [(0, .ref h_this), (1, .ref h_p1), (2, .int x2)] := hl
  obtain ⟨Q, hQ⟩ : ∃ Q : State → Prop, Q = MQ below (va_Qi (fun (r : Int32) (u : Int32 × Int32 × (Nat → Int32) × (Nat → Int32) × (Nat → Int32) × (Nat → Int32) × (Nat → Int32)) => post r u.1 u.2.1 u.2.2.1 u.2.2.2.1 u.2.2.2.2.1 u.2.2.2.2.2.1 u.2.2.2.2.2.2) (fun (u : Int32 × Int32 × (Nat → Int32) × (Nat → Int32) × (Nat → Int32) × (Nat → Int32) × (Nat → Int32)) (t : State) => va_P (dC, dI) vwCl [ob_Datum h_this h_kinds h_values h_followers u.1 h_openLists h_lastParts u.2.1, ar_ h_followers c_followers 200 u.2.2.1, ar_ h_kinds c_kinds 200 u.2.2.2.1, ar_ h_lastParts c_lastParts 12 u.2.2.2.2.1, ar_ h_openLists c_openLists 12 u.2.2.2.2.2.1, ar_ h_values c_values 200 u.2.2.2.2.2.2, ar_ h_p1 c_p1 200 f_p1] t.heap ∧ va_K (dC, dI) vwCl [(c_followers, .int), (c_kinds, .int), (c_lastParts, .int), (c_openLists, .int), (c_values, .int), (c_p1, .char)] t ∧ va_D A [ob_Datum h_this h_kinds h_values h_followers u.1 h_openLists h_lastParts u.2.1, ar_ h_followers c_followers 200 u.2.2.1, ar_ h_kinds c_kinds 200 u.2.2.2.1, ar_ h_lastParts c_lastParts 12 u.2.2.2.2.1, ar_ h_openLists c_openLists 12 u.2.2.2.2.2.1, ar_ h_values c_values 200 u.2.2.2.2.2.2, ar_ h_p1 c_p1 200 f_p1]) A) ([.ref h_this, .ref h_p1, .int x2] : List Value).toArray s 0 0 A := ⟨_, rfl⟩
  rw [← hQ]
  unfold wp_Datum_read at hw
  refine lv_aload_n hx hb d_Datum_read_0 rfl (lv_at hl 0 rfl) ?_
  refine lv_iconst (v := 0) hx hb d_Datum_read_1 (by decide) ?_
  refine va_put (D := (dC, dI)) (ci := 1) (v := .int (0 : Int32)) (ty := .int) (C := R_Datum) (T := T_Datum) (N := 7) hx hb hts in_Datum t_Datum t_Datum_ok nm_Datum hown hK hP hD hS 0 rfl rfl 3 (by decide) (hts _ kt_39) (fun _ h9 => h9) rfl (by decide +kernel) rfl rfl (Nat.le_of_ble_eq_true rfl) d_Datum_read_2 (fun H locs hP hD hS => ?_)
  have hP : va_P (dC, dI) vwCl [ob_Datum h_this h_kinds h_values h_followers (0 : Int32) h_openLists h_lastParts i_openCount, ar_ h_followers c_followers 200 f_followers, ar_ h_kinds c_kinds 200 f_kinds, ar_ h_lastParts c_lastParts 12 f_lastParts, ar_ h_openLists c_openLists 12 f_openLists, ar_ h_values c_values 200 f_values, ar_ h_p1 c_p1 200 f_p1] H := hP
  have hD : va_D A [ob_Datum h_this h_kinds h_values h_followers (0 : Int32) h_openLists h_lastParts i_openCount, ar_ h_followers c_followers 200 f_followers, ar_ h_kinds c_kinds 200 f_kinds, ar_ h_lastParts c_lastParts 12 f_lastParts, ar_ h_openLists c_openLists 12 f_openLists, ar_ h_values c_values 200 f_values, ar_ h_p1 c_p1 200 f_p1] := hD
  refine lv_aload_n hx hb d_Datum_read_5 rfl (lv_at hl 0 rfl) ?_
  refine lv_iconst (v := 0) hx hb d_Datum_read_6 (by decide) ?_
  refine va_put (D := (dC, dI)) (ci := 1) (v := .int (0 : Int32)) (ty := .int) (C := R_Datum) (T := T_Datum) (N := 7) hx hb hts in_Datum t_Datum t_Datum_ok nm_Datum hown hK hP hD hS 0 rfl rfl 6 (by decide) (hts _ kt_42) (fun _ h9 => h9) rfl (by decide +kernel) rfl rfl (Nat.le_of_ble_eq_true rfl) d_Datum_read_7 (fun H locs hP hD hS => ?_)
  have hP : va_P (dC, dI) vwCl [ob_Datum h_this h_kinds h_values h_followers (0 : Int32) h_openLists h_lastParts (0 : Int32), ar_ h_followers c_followers 200 f_followers, ar_ h_kinds c_kinds 200 f_kinds, ar_ h_lastParts c_lastParts 12 f_lastParts, ar_ h_openLists c_openLists 12 f_openLists, ar_ h_values c_values 200 f_values, ar_ h_p1 c_p1 200 f_p1] H := hP
  have hD : va_D A [ob_Datum h_this h_kinds h_values h_followers (0 : Int32) h_openLists h_lastParts (0 : Int32), ar_ h_followers c_followers 200 f_followers, ar_ h_kinds c_kinds 200 f_kinds, ar_ h_lastParts c_lastParts 12 f_lastParts, ar_ h_openLists c_openLists 12 f_openLists, ar_ h_values c_values 200 f_values, ar_ h_p1 c_p1 200 f_p1] := hD
  refine lv_iconst (v := 0) hx hb d_Datum_read_10 (by decide) ?_
  refine lv_istore_n (lv' := [(3, .int (0 : Int32)), (0, .ref h_this), (1, .ref h_p1), (2, .int x2)]) hx hb d_Datum_read_11 rfl hl (by decide) rfl (fun ls hl => ?_)
  have L12 : ∀ (K40 : Int32 → Int32 → (Nat → Int32) → (Nat → Int32) → (Nat → Int32) → (Nat → Int32) → (Nat → Int32) → Prop), (∀ (i_count : Int32) (i_openCount : Int32) (f_followers : Nat → Int32) (f_kinds : Nat → Int32) (f_lastParts : Nat → Int32) (f_openLists : Nat → Int32) (f_values : Nat → Int32) (H : Heap) (locs : List Loc) (ls : Array Slot), lv_has ls 5 [(0, .ref h_this)] → va_P (dC, dI) vwCl [ob_Datum h_this h_kinds h_values h_followers i_count h_openLists h_lastParts i_openCount, ar_ h_followers c_followers 200 f_followers, ar_ h_kinds c_kinds 200 f_kinds, ar_ h_lastParts c_lastParts 12 f_lastParts, ar_ h_openLists c_openLists 12 f_openLists, ar_ h_values c_values 200 f_values, ar_ h_p1 c_p1 200 f_p1] H → va_D A [ob_Datum h_this h_kinds h_values h_followers i_count h_openLists h_lastParts i_openCount, ar_ h_followers c_followers 200 f_followers, ar_ h_kinds c_kinds 200 f_kinds, ar_ h_lastParts c_lastParts 12 f_lastParts, ar_ h_openLists c_openLists 12 f_openLists, ar_ h_values c_values 200 f_values, ar_ h_p1 c_p1 200 f_p1] → va_S A s.heap H locs → K40 i_count i_openCount f_followers f_kinds f_lastParts f_openLists f_values → W p l e (headSpec (ws_ y_Datum_read b_Datum_read 5 (some .boolean)) { frames := 4, cells := 0, slots := 0, locals := 96 }).room s m ([.ref h_this, .ref h_p1, .int x2] : List Value).toArray below meth c H locs 0 0 Q (F0 m 40 ls [])) → ∀ fu12 : Nat, ∀ (v2 : Int32) (v3 : Int32) (i_count : Int32) (i_openCount : Int32) (f_followers : Nat → Int32) (f_kinds : Nat → Int32) (f_lastParts : Nat → Int32) (f_openLists : Nat → Int32) (f_values : Nat → Int32) (H : Heap) (locs : List Loc) (ls : Array Slot), lv_has ls 5 [(0, .ref h_this), (1, .ref h_p1), (2, .int v2), (3, .int v3)] → va_P (dC, dI) vwCl [ob_Datum h_this h_kinds h_values h_followers i_count h_openLists h_lastParts i_openCount, ar_ h_followers c_followers 200 f_followers, ar_ h_kinds c_kinds 200 f_kinds, ar_ h_lastParts c_lastParts 12 f_lastParts, ar_ h_openLists c_openLists 12 f_openLists, ar_ h_values c_values 200 f_values, ar_ h_p1 c_p1 200 f_p1] H → va_D A [ob_Datum h_this h_kinds h_values h_followers i_count h_openLists h_lastParts i_openCount, ar_ h_followers c_followers 200 f_followers, ar_ h_kinds c_kinds 200 f_kinds, ar_ h_lastParts c_lastParts 12 f_lastParts, ar_ h_openLists c_openLists 12 f_openLists, ar_ h_values c_values 200 f_values, ar_ h_p1 c_p1 200 f_p1] → va_S A s.heap H locs → wp_Datum_read_L12 f_p1 K40 post fu12 v2 v3 i_count i_openCount f_followers f_kinds f_lastParts f_openLists f_values → W p l e (headSpec (ws_ y_Datum_read b_Datum_read 5 (some .boolean)) { frames := 4, cells := 0, slots := 0, locals := 96 }).room s m ([.ref h_this, .ref h_p1, .int x2] : List Value).toArray below meth c H locs 0 0 Q (F0 m 12 ls []) := by
    intro K40 hK40 fu12
    induction fu12 with
    | zero => intro v2 v3 i_count i_openCount f_followers f_kinds f_lastParts f_openLists f_values H locs ls hl hP hD hS hw; exact False.elim hw
    | succ fu12 ih12 =>
        intro v2 v3 i_count i_openCount f_followers f_kinds f_lastParts f_openLists f_values H locs ls hl hP hD hS hw
        unfold wp_Datum_read_L12 at hw
        refine lv_iload_n hx hb d_Datum_read_12 rfl (lv_at hl 3 rfl) ?_
        refine lv_iload_n hx hb d_Datum_read_13 rfl (lv_at hl 2 rfl) ?_
        refine lv_icmp_ge (tgt := 40) hx hb d_Datum_read_14 (by decide) (fun c_1 => ?_) (fun c_1 => ?_)
        · have hw := hw.1 c_1
          exact hK40 i_count i_openCount f_followers f_kinds f_lastParts f_openLists f_values _ _ ls (lv_sub hl [0] rfl) hP hD hS hw
        · have hw := hw.2 c_1
          refine lv_aload_n hx hb d_Datum_read_17 rfl (lv_at hl 0 rfl) ?_
          refine lv_aload_n hx hb d_Datum_read_18 rfl (lv_at hl 1 rfl) ?_
          refine lv_iload_n hx hb d_Datum_read_19 rfl (lv_at hl 2 rfl) ?_
          refine lv_iload_n hx hb d_Datum_read_20 rfl (lv_at hl 3 rfl) ?_
          have hPc := hP.sub (ws' := [ob_Datum h_this h_kinds h_values h_followers i_count h_openLists h_lastParts i_openCount, ar_ h_followers c_followers 200 f_followers, ar_ h_kinds c_kinds 200 f_kinds, ar_ h_lastParts c_lastParts 12 f_lastParts, ar_ h_openLists c_openLists 12 f_openLists, ar_ h_values c_values 200 f_values, ar_ h_p1 c_p1 200 f_p1]) [0, 1, 2, 3, 4, 5, 6] rfl
          have hDc := hD.sub (ws' := [ob_Datum h_this h_kinds h_values h_followers i_count h_openLists h_lastParts i_openCount, ar_ h_followers c_followers 200 f_followers, ar_ h_kinds c_kinds 200 f_kinds, ar_ h_lastParts c_lastParts 12 f_lastParts, ar_ h_openLists c_openLists 12 f_openLists, ar_ h_values c_values 200 f_values, ar_ h_p1 c_p1 200 f_p1]) [0, 1, 2, 3, 4, 5, 6] (by decide) rfl
          have hKc := hK.sub (tys' := [(c_followers, .int), (c_kinds, .int), (c_lastParts, .int), (c_openLists, .int), (c_values, .int), (c_p1, .char)]) [0, 1, 2, 3, 4, 5] rfl
          have hFc := va_free (wc := [ob_Datum h_this h_kinds h_values h_followers i_count h_openLists h_lastParts i_openCount, ar_ h_followers c_followers 200 f_followers, ar_ h_kinds c_kinds 200 f_kinds, ar_ h_lastParts c_lastParts 12 f_lastParts, ar_ h_openLists c_openLists 12 f_openLists, ar_ h_values c_values 200 f_values, ar_ h_p1 c_p1 200 f_p1]) hD hS hA [0, 1, 2, 3, 4, 5, 6] rfl
          refine va_calli (va_runV (As := [.ref h_p1, .int v2, .int v3]) (rest := []) ⟨hx, hb, hml, hown, hts⟩ (c_Datum_readOne l dC dI h_this h_followers h_kinds h_lastParts h_openLists h_values h_p1 c_followers c_kinds c_lastParts c_openLists c_values c_p1 H.size i_count i_openCount f_followers f_kinds f_lastParts f_openLists f_values f_p1 v2 v3 _ hw) (cwV 3 hts (gd_V kt_359 kt_361 ks_0 kt_2 kt_362) rfl rfl rfl (by decide +kernel) ⟨Nat.le_of_ble_eq_true rfl, Nat.le_of_ble_eq_true rfl⟩) ⟨pre_blind, va_recv hKc hPc (ci := 1) (q0 := 0) rfl rfl, pre_ok hPc hKc hDc hG hS hFc⟩ rfl rfl hl.1 rfl (lv_room (Nat.le_of_ble_eq_true rfl)) d_Datum_read_21 ⟨Nat.zero_le _, Nat.zero_le _⟩) hS (fun q _ h => hFc q h) hFc (fun r_2 u t H1 locs ht hvm hw hB hz1 hk1 hS => ?_)
          obtain ⟨i_count_3, i_openCount_4, f_followers_5, f_kinds_6, f_lastParts_7, f_openLists_8, f_values_9⟩ := u
          obtain ⟨hP1, hK1, hD1⟩ := hB
          rw [ht] at hP1
          try dsimp only at hw
          obtain ⟨hP, hD⟩ := va_join (wr := []) (w1 := [ob_Datum h_this h_kinds h_values h_followers i_count_3 h_openLists h_lastParts i_openCount_4, ar_ h_followers c_followers 200 f_followers_5, ar_ h_kinds c_kinds 200 f_kinds_6, ar_ h_lastParts c_lastParts 12 f_lastParts_7, ar_ h_openLists c_openLists 12 f_openLists_8, ar_ h_values c_values 200 f_values_9, ar_ h_p1 c_p1 200 f_p1]) hP hD [0, 1, 2, 3, 4, 5, 6] [] rfl rfl (by decide) (by decide) hk1 hFc hP1 hD1
          generalize H1 = H at hP hS ⊢
          have hP : va_P (dC, dI) vwCl [ob_Datum h_this h_kinds h_values h_followers i_count_3 h_openLists h_lastParts i_openCount_4, ar_ h_followers c_followers 200 f_followers_5, ar_ h_kinds c_kinds 200 f_kinds_6, ar_ h_lastParts c_lastParts 12 f_lastParts_7, ar_ h_openLists c_openLists 12 f_openLists_8, ar_ h_values c_values 200 f_values_9, ar_ h_p1 c_p1 200 f_p1] H := hP
          have hD : va_D A [ob_Datum h_this h_kinds h_values h_followers i_count_3 h_openLists h_lastParts i_openCount_4, ar_ h_followers c_followers 200 f_followers_5, ar_ h_kinds c_kinds 200 f_kinds_6, ar_ h_lastParts c_lastParts 12 f_lastParts_7, ar_ h_openLists c_openLists 12 f_openLists_8, ar_ h_values c_values 200 f_values_9, ar_ h_p1 c_p1 200 f_p1] := hD
          refine lv_istore (lv' := [(4, .int r_2), (0, .ref h_this), (1, .ref h_p1), (2, .int v2), (3, .int v3)]) hx hb d_Datum_read_24 hl (by decide) rfl (fun ls hl => ?_)
          refine lv_iload hx hb d_Datum_read_26 (lv_at hl 0 rfl) ?_
          refine lv_iload_n hx hb d_Datum_read_28 rfl (lv_at hl 4 rfl) ?_
          refine lv_icmp_gt (tgt := 34) hx hb d_Datum_read_29 (by decide) (fun c_10 => ?_) (fun c_10 => ?_)
          · have hw := hw.1 c_10
            refine lv_iload hx hb d_Datum_read_34 (lv_at hl 0 rfl) ?_
            refine lv_istore_n (lv' := [(3, .int r_2), (4, .int r_2), (0, .ref h_this), (1, .ref h_p1), (2, .int v2)]) hx hb d_Datum_read_36 rfl hl (by decide) rfl (fun ls hl => ?_)
            refine lv_goto (tgt := 12) hx hb d_Datum_read_37 (by decide) ?_
            exact ih12 v2 r_2 i_count_3 i_openCount_4 f_followers_5 f_kinds_6 f_lastParts_7 f_openLists_8 f_values_9 _ _ ls (lv_sub hl [2, 3, 4, 0] rfl) hP hD hS hw
          · have hw := hw.2 c_10
            refine lv_iconst (v := 0) hx hb d_Datum_read_32 (by decide) ?_
            have hP9 : va_P (dC, dI) vwCl [ob_Datum h_this h_kinds h_values h_followers i_count_3 h_openLists h_lastParts i_openCount_4, ar_ h_followers c_followers 200 f_followers_5, ar_ h_kinds c_kinds 200 f_kinds_6, ar_ h_lastParts c_lastParts 12 f_lastParts_7, ar_ h_openLists c_openLists 12 f_openLists_8, ar_ h_values c_values 200 f_values_9, ar_ h_p1 c_p1 200 f_p1] _ := hP
            have hD9 : va_D A [ob_Datum h_this h_kinds h_values h_followers i_count_3 h_openLists h_lastParts i_openCount_4, ar_ h_followers c_followers 200 f_followers_5, ar_ h_kinds c_kinds 200 f_kinds_6, ar_ h_lastParts c_lastParts 12 f_lastParts_7, ar_ h_openLists c_openLists 12 f_openLists_8, ar_ h_values c_values 200 f_values_9, ar_ h_p1 c_p1 200 f_p1] := hD
            rw [hQ]
            exact W.zret (v := (0 : Int32)) hx hb hr rfl (fun t ht hW => ⟨⟨(0 : Int32), (i_count_3, i_openCount_4, f_followers_5, f_kinds_6, f_lastParts_7, f_openLists_8, f_values_9), rfl, hw, by rw [ht]; exact hP9, va_K.moved hW.alike hK, hD9⟩, hS.F ht⟩) hS.2.2 d_Datum_read_33
  obtain ⟨fu12, hw⟩ := hw
  refine L12 _ (fun i_count i_openCount f_followers f_kinds f_lastParts f_openLists f_values H locs ls hl hP hD hS hw => ?_) fu12 x2 (0 : Int32) (0 : Int32) (0 : Int32) f_followers f_kinds f_lastParts f_openLists f_values _ _ ls (lv_sub hl [1, 2, 3, 0] rfl) hP hD hS hw
  try dsimp only at hw
  refine lv_aload_n hx hb d_Datum_read_40 rfl (lv_at hl 0 rfl) ?_
  refine va_get (D := (dC, dI)) (ci := 1) (v := .int i_count) (C := R_Datum) (T := T_Datum) (N := 7) hx hb hts in_Datum hown hK hP 0 rfl rfl 3 (by decide) (hts _ kt_39) (fun _ h9 => h9) rfl d_Datum_read_41 ?_
  refine lv_if_le (tgt := 58) hx hb d_Datum_read_44 (by decide) (fun c_11 => ?_) (fun c_11 => ?_)
  · have hw := hw.1 c_11
    refine lv_iconst (v := 0) hx hb d_Datum_read_58 (by decide) ?_
    have hP9 : va_P (dC, dI) vwCl [ob_Datum h_this h_kinds h_values h_followers i_count h_openLists h_lastParts i_openCount, ar_ h_followers c_followers 200 f_followers, ar_ h_kinds c_kinds 200 f_kinds, ar_ h_lastParts c_lastParts 12 f_lastParts, ar_ h_openLists c_openLists 12 f_openLists, ar_ h_values c_values 200 f_values, ar_ h_p1 c_p1 200 f_p1] _ := hP
    have hD9 : va_D A [ob_Datum h_this h_kinds h_values h_followers i_count h_openLists h_lastParts i_openCount, ar_ h_followers c_followers 200 f_followers, ar_ h_kinds c_kinds 200 f_kinds, ar_ h_lastParts c_lastParts 12 f_lastParts, ar_ h_openLists c_openLists 12 f_openLists, ar_ h_values c_values 200 f_values, ar_ h_p1 c_p1 200 f_p1] := hD
    rw [hQ]
    exact W.zret (v := (0 : Int32)) hx hb hr rfl (fun t ht hW => ⟨⟨(0 : Int32), (i_count, i_openCount, f_followers, f_kinds, f_lastParts, f_openLists, f_values), rfl, hw, by rw [ht]; exact hP9, va_K.moved hW.alike hK, hD9⟩, hS.F ht⟩) hS.2.2 d_Datum_read_59
  · have hw := hw.2 c_11
    refine lv_aload_n hx hb d_Datum_read_47 rfl (lv_at hl 0 rfl) ?_
    refine va_get (D := (dC, dI)) (ci := 1) (v := .int i_openCount) (C := R_Datum) (T := T_Datum) (N := 7) hx hb hts in_Datum hown hK hP 0 rfl rfl 6 (by decide) (hts _ kt_42) (fun _ h9 => h9) rfl d_Datum_read_48 ?_
    refine lv_if_ne (tgt := 58) hx hb d_Datum_read_51 (by decide) (fun c_12 => ?_) (fun c_12 => ?_)
    · have hw := hw.2 c_12
      refine lv_iconst (v := 0) hx hb d_Datum_read_58 (by decide) ?_
      have hP9 : va_P (dC, dI) vwCl [ob_Datum h_this h_kinds h_values h_followers i_count h_openLists h_lastParts i_openCount, ar_ h_followers c_followers 200 f_followers, ar_ h_kinds c_kinds 200 f_kinds, ar_ h_lastParts c_lastParts 12 f_lastParts, ar_ h_openLists c_openLists 12 f_openLists, ar_ h_values c_values 200 f_values, ar_ h_p1 c_p1 200 f_p1] _ := hP
      have hD9 : va_D A [ob_Datum h_this h_kinds h_values h_followers i_count h_openLists h_lastParts i_openCount, ar_ h_followers c_followers 200 f_followers, ar_ h_kinds c_kinds 200 f_kinds, ar_ h_lastParts c_lastParts 12 f_lastParts, ar_ h_openLists c_openLists 12 f_openLists, ar_ h_values c_values 200 f_values, ar_ h_p1 c_p1 200 f_p1] := hD
      rw [hQ]
      exact W.zret (v := (0 : Int32)) hx hb hr rfl (fun t ht hW => ⟨⟨(0 : Int32), (i_count, i_openCount, f_followers, f_kinds, f_lastParts, f_openLists, f_values), rfl, hw, by rw [ht]; exact hP9, va_K.moved hW.alike hK, hD9⟩, hS.F ht⟩) hS.2.2 d_Datum_read_59
    · have hw := hw.1 c_12
      refine lv_iconst (v := 1) hx hb d_Datum_read_54 (by decide) ?_
      refine lv_goto (tgt := 59) hx hb d_Datum_read_55 (by decide) ?_
      have hP9 : va_P (dC, dI) vwCl [ob_Datum h_this h_kinds h_values h_followers i_count h_openLists h_lastParts i_openCount, ar_ h_followers c_followers 200 f_followers, ar_ h_kinds c_kinds 200 f_kinds, ar_ h_lastParts c_lastParts 12 f_lastParts, ar_ h_openLists c_openLists 12 f_openLists, ar_ h_values c_values 200 f_values, ar_ h_p1 c_p1 200 f_p1] _ := hP
      have hD9 : va_D A [ob_Datum h_this h_kinds h_values h_followers i_count h_openLists h_lastParts i_openCount, ar_ h_followers c_followers 200 f_followers, ar_ h_kinds c_kinds 200 f_kinds, ar_ h_lastParts c_lastParts 12 f_lastParts, ar_ h_openLists c_openLists 12 f_openLists, ar_ h_values c_values 200 f_values, ar_ h_p1 c_p1 200 f_p1] := hD
      rw [hQ]
      exact W.zret (v := (1 : Int32)) hx hb hr rfl (fun t ht hW => ⟨⟨(1 : Int32), (i_count, i_openCount, f_followers, f_kinds, f_lastParts, f_openLists, f_values), rfl, hw, by rw [ht]; exact hP9, va_K.moved hW.alike hK, hD9⟩, hS.F ht⟩) hS.2.2 d_Datum_read_59

set_option maxHeartbeats 4000000 in
set_option maxRecDepth 100000 in
theorem c_Datum_kindOf (l : Launch) (dC : Nat → ClassId) (dI : Nat → Nat → Nat) (h_this : Nat) (h_kinds : Nat) (h_values : Nat) (h_followers : Nat) (h_openLists : Nat) (h_lastParts : Nat) (c_kinds : ClassId) (sz : Nat)  (i_count : Int32) (i_openCount : Int32) (f_kinds : Nat → Int32) (x1 : Int32) (post : Int32 → Prop) (hw : wp_Datum_kindOf f_kinds x1 post) : Met l y_Datum_kindOf (ws_ y_Datum_kindOf b_Datum_kindOf 2 (some .int)) { frames := 0, cells := 0, slots := 0, locals := 0 } (va_Pc [.ref h_this, .int x1] (PRE (dC, dI) vwCl [(c_kinds, .int)] [ob_Datum h_this h_kinds h_values h_followers i_count h_openLists h_lastParts i_openCount, ar_ h_kinds c_kinds 200 f_kinds] sz (va_A [ob_Datum h_this h_kinds h_values h_followers i_count h_openLists h_lastParts i_openCount, ar_ h_kinds c_kinds 200 f_kinds] sz))) (va_Qi (fun (r : Int32) (u : Unit) => post r ) (fun (u : Unit) (t : State) => va_P (dC, dI) vwCl [ob_Datum h_this h_kinds h_values h_followers i_count h_openLists h_lastParts i_openCount, ar_ h_kinds c_kinds 200 f_kinds] t.heap ∧ va_K (dC, dI) vwCl [(c_kinds, .int)] t ∧ va_D (va_A [ob_Datum h_this h_kinds h_values h_followers i_count h_openLists h_lastParts i_openCount, ar_ h_kinds c_kinds 200 f_kinds] sz) [ob_Datum h_this h_kinds h_values h_followers i_count h_openLists h_lastParts i_openCount, ar_ h_kinds c_kinds 200 f_kinds]) (va_A [ob_Datum h_this h_kinds h_values h_followers i_count h_openLists h_lastParts i_openCount, ar_ h_kinds c_kinds 200 f_kinds] sz)) 0 0 (va_A [ob_Datum h_this h_kinds h_values h_followers i_count h_openLists h_lastParts i_openCount, ar_ h_kinds c_kinds 200 f_kinds] sz) := by
  refine Met.ofW (cc := b_Datum_kindOf) (maxL := 2) (ret := (some .int)) (by decide) rfl ?_
  intro p e s m args below meth c s₁ B hml hv
  obtain ⟨rfl, hsz, hP, hK, hD0, hG⟩ := hv
  have hx := B.exec
  have hb := B.bytes
  have hr := B.returns
  have hts : ∀ w ∈ tb, w.before _ s = true := fun w h => atoms_spec (ws := ws_ _ _ _ _) B.pre w (List.mem_cons_of_mem _ h)
  have hown : s.vm.findClass R_Datum = some m.cls := findClass_of_methodNamed B.named
  have hlocks := B.notSynchronized
  subst hsz
  have hD := hD0.self (sz := s.heap.size)
  generalize hAe : va_A [ob_Datum h_this h_kinds h_values h_followers i_count h_openLists h_lastParts i_openCount, ar_ h_kinds c_kinds 200 f_kinds] s.heap.size = A at hD hG ⊢
  have hA : ∀ q : Nat, s.heap.size ≤ q → A q := fun q h => by rw [← hAe]; exact Or.inr h
  have hS : va_S A s.heap s.heap [] := va_S.rf
  have hP : va_P (dC, dI) vwCl [ob_Datum h_this h_kinds h_values h_followers i_count h_openLists h_lastParts i_openCount, ar_ h_kinds c_kinds 200 f_kinds] s.heap := hP
  have hl := lv_entry [.ref h_this, .int x1] (n := 2) (Nat.le_of_ble_eq_true rfl)
  rw [lg_entry_eq]
  generalize (lg_sl [.ref h_this, .int x1] ++ List.replicate (2 - (lg_sl [.ref h_this, .int x1]).length) Slot.unset).toArray = ls at hl ⊢
  have hl : lv_has ls 2 [(0, .ref h_this), (1, .int x1)] := hl
  obtain ⟨Q, hQ⟩ : ∃ Q : State → Prop, Q = MQ below (va_Qi (fun (r : Int32) (u : Unit) => post r ) (fun (u : Unit) (t : State) => va_P (dC, dI) vwCl [ob_Datum h_this h_kinds h_values h_followers i_count h_openLists h_lastParts i_openCount, ar_ h_kinds c_kinds 200 f_kinds] t.heap ∧ va_K (dC, dI) vwCl [(c_kinds, .int)] t ∧ va_D A [ob_Datum h_this h_kinds h_values h_followers i_count h_openLists h_lastParts i_openCount, ar_ h_kinds c_kinds 200 f_kinds]) A) ([.ref h_this, .int x1] : List Value).toArray s 0 0 A := ⟨_, rfl⟩
  rw [← hQ]
  unfold wp_Datum_kindOf at hw
  refine lv_aload_n hx hb d_Datum_kindOf_0 rfl (lv_at hl 0 rfl) ?_
  refine va_get (D := (dC, dI)) (ci := 1) (v := .ref h_kinds) (C := R_Datum) (T := T_Datum) (N := 7) hx hb hts in_Datum hown hK hP 0 rfl rfl 0 (by decide) (hts _ kt_36) (fun _ h9 => h9) rfl d_Datum_kindOf_1 ?_
  refine lv_iload_n hx hb d_Datum_kindOf_4 rfl (lv_at hl 1 rfl) ?_
  obtain ⟨h_1, hw⟩ := hw
  refine va_iald hx hb hK hP 1 0 rfl rfl h_1 d_Datum_kindOf_5 ?_
  have hP9 : va_P (dC, dI) vwCl [ob_Datum h_this h_kinds h_values h_followers i_count h_openLists h_lastParts i_openCount, ar_ h_kinds c_kinds 200 f_kinds] _ := hP
  have hD9 : va_D A [ob_Datum h_this h_kinds h_values h_followers i_count h_openLists h_lastParts i_openCount, ar_ h_kinds c_kinds 200 f_kinds] := hD
  rw [hQ]
  exact W.iret (v := f_kinds x1.toNatClampNeg) hx hb hr (fun t ht hW => ⟨⟨f_kinds x1.toNatClampNeg, (), rfl, hw, by rw [ht]; exact hP9, va_K.moved hW.alike hK, hD9⟩, hS.F ht⟩) hS.2.2 d_Datum_kindOf_6

set_option maxHeartbeats 4000000 in
set_option maxRecDepth 100000 in
theorem c_Datum_firstPartOf (l : Launch) (dC : Nat → ClassId) (dI : Nat → Nat → Nat) (h_this : Nat) (h_kinds : Nat) (h_values : Nat) (h_followers : Nat) (h_openLists : Nat) (h_lastParts : Nat) (c_kinds : ClassId) (c_values : ClassId) (sz : Nat)  (i_count : Int32) (i_openCount : Int32) (f_kinds : Nat → Int32) (f_values : Nat → Int32) (x1 : Int32) (post : Int32 → Prop) (hw : wp_Datum_firstPartOf f_kinds f_values x1 post) : Met l y_Datum_firstPartOf (ws_ y_Datum_firstPartOf b_Datum_firstPartOf 2 (some .int)) { frames := 0, cells := 0, slots := 0, locals := 0 } (va_Pc [.ref h_this, .int x1] (PRE (dC, dI) vwCl [(c_kinds, .int), (c_values, .int)] [ob_Datum h_this h_kinds h_values h_followers i_count h_openLists h_lastParts i_openCount, ar_ h_kinds c_kinds 200 f_kinds, ar_ h_values c_values 200 f_values] sz (va_A [ob_Datum h_this h_kinds h_values h_followers i_count h_openLists h_lastParts i_openCount, ar_ h_kinds c_kinds 200 f_kinds, ar_ h_values c_values 200 f_values] sz))) (va_Qi (fun (r : Int32) (u : Unit) => post r ) (fun (u : Unit) (t : State) => va_P (dC, dI) vwCl [ob_Datum h_this h_kinds h_values h_followers i_count h_openLists h_lastParts i_openCount, ar_ h_kinds c_kinds 200 f_kinds, ar_ h_values c_values 200 f_values] t.heap ∧ va_K (dC, dI) vwCl [(c_kinds, .int), (c_values, .int)] t ∧ va_D (va_A [ob_Datum h_this h_kinds h_values h_followers i_count h_openLists h_lastParts i_openCount, ar_ h_kinds c_kinds 200 f_kinds, ar_ h_values c_values 200 f_values] sz) [ob_Datum h_this h_kinds h_values h_followers i_count h_openLists h_lastParts i_openCount, ar_ h_kinds c_kinds 200 f_kinds, ar_ h_values c_values 200 f_values]) (va_A [ob_Datum h_this h_kinds h_values h_followers i_count h_openLists h_lastParts i_openCount, ar_ h_kinds c_kinds 200 f_kinds, ar_ h_values c_values 200 f_values] sz)) 0 0 (va_A [ob_Datum h_this h_kinds h_values h_followers i_count h_openLists h_lastParts i_openCount, ar_ h_kinds c_kinds 200 f_kinds, ar_ h_values c_values 200 f_values] sz) := by
  refine Met.ofW (cc := b_Datum_firstPartOf) (maxL := 2) (ret := (some .int)) (by decide) rfl ?_
  intro p e s m args below meth c s₁ B hml hv
  obtain ⟨rfl, hsz, hP, hK, hD0, hG⟩ := hv
  have hx := B.exec
  have hb := B.bytes
  have hr := B.returns
  have hts : ∀ w ∈ tb, w.before _ s = true := fun w h => atoms_spec (ws := ws_ _ _ _ _) B.pre w (List.mem_cons_of_mem _ h)
  have hown : s.vm.findClass R_Datum = some m.cls := findClass_of_methodNamed B.named
  have hlocks := B.notSynchronized
  subst hsz
  have hD := hD0.self (sz := s.heap.size)
  generalize hAe : va_A [ob_Datum h_this h_kinds h_values h_followers i_count h_openLists h_lastParts i_openCount, ar_ h_kinds c_kinds 200 f_kinds, ar_ h_values c_values 200 f_values] s.heap.size = A at hD hG ⊢
  have hA : ∀ q : Nat, s.heap.size ≤ q → A q := fun q h => by rw [← hAe]; exact Or.inr h
  have hS : va_S A s.heap s.heap [] := va_S.rf
  have hP : va_P (dC, dI) vwCl [ob_Datum h_this h_kinds h_values h_followers i_count h_openLists h_lastParts i_openCount, ar_ h_kinds c_kinds 200 f_kinds, ar_ h_values c_values 200 f_values] s.heap := hP
  have hl := lv_entry [.ref h_this, .int x1] (n := 2) (Nat.le_of_ble_eq_true rfl)
  rw [lg_entry_eq]
  generalize (lg_sl [.ref h_this, .int x1] ++ List.replicate (2 - (lg_sl [.ref h_this, .int x1]).length) Slot.unset).toArray = ls at hl ⊢
  have hl : lv_has ls 2 [(0, .ref h_this), (1, .int x1)] := hl
  obtain ⟨Q, hQ⟩ : ∃ Q : State → Prop, Q = MQ below (va_Qi (fun (r : Int32) (u : Unit) => post r ) (fun (u : Unit) (t : State) => va_P (dC, dI) vwCl [ob_Datum h_this h_kinds h_values h_followers i_count h_openLists h_lastParts i_openCount, ar_ h_kinds c_kinds 200 f_kinds, ar_ h_values c_values 200 f_values] t.heap ∧ va_K (dC, dI) vwCl [(c_kinds, .int), (c_values, .int)] t ∧ va_D A [ob_Datum h_this h_kinds h_values h_followers i_count h_openLists h_lastParts i_openCount, ar_ h_kinds c_kinds 200 f_kinds, ar_ h_values c_values 200 f_values]) A) ([.ref h_this, .int x1] : List Value).toArray s 0 0 A := ⟨_, rfl⟩
  rw [← hQ]
  unfold wp_Datum_firstPartOf at hw
  refine lv_aload_n hx hb d_Datum_firstPartOf_0 rfl (lv_at hl 0 rfl) ?_
  refine va_get (D := (dC, dI)) (ci := 1) (v := .ref h_kinds) (C := R_Datum) (T := T_Datum) (N := 7) hx hb hts in_Datum hown hK hP 0 rfl rfl 0 (by decide) (hts _ kt_36) (fun _ h9 => h9) rfl d_Datum_firstPartOf_1 ?_
  refine lv_iload_n hx hb d_Datum_firstPartOf_4 rfl (lv_at hl 1 rfl) ?_
  obtain ⟨h_1, hw⟩ := hw
  refine va_iald hx hb hK hP 1 0 rfl rfl h_1 d_Datum_firstPartOf_5 ?_
  refine lv_iconst (v := 2) hx hb d_Datum_firstPartOf_6 (by decide) ?_
  refine lv_icmp_ne (tgt := 19) hx hb d_Datum_firstPartOf_7 (by decide) (fun c_2 => ?_) (fun c_2 => ?_)
  · have hw := hw.2 c_2
    refine lv_iconst (v := (-1)) hx hb d_Datum_firstPartOf_19 (by decide) ?_
    have hP9 : va_P (dC, dI) vwCl [ob_Datum h_this h_kinds h_values h_followers i_count h_openLists h_lastParts i_openCount, ar_ h_kinds c_kinds 200 f_kinds, ar_ h_values c_values 200 f_values] _ := hP
    have hD9 : va_D A [ob_Datum h_this h_kinds h_values h_followers i_count h_openLists h_lastParts i_openCount, ar_ h_kinds c_kinds 200 f_kinds, ar_ h_values c_values 200 f_values] := hD
    rw [hQ]
    exact W.iret (v := (-1 : Int32)) hx hb hr (fun t ht hW => ⟨⟨(-1 : Int32), (), rfl, hw, by rw [ht]; exact hP9, va_K.moved hW.alike hK, hD9⟩, hS.F ht⟩) hS.2.2 d_Datum_firstPartOf_20
  · have hw := hw.1 c_2
    refine lv_aload_n hx hb d_Datum_firstPartOf_10 rfl (lv_at hl 0 rfl) ?_
    refine va_get (D := (dC, dI)) (ci := 1) (v := .ref h_values) (C := R_Datum) (T := T_Datum) (N := 7) hx hb hts in_Datum hown hK hP 0 rfl rfl 1 (by decide) (hts _ kt_37) (fun _ h9 => h9) rfl d_Datum_firstPartOf_11 ?_
    refine lv_iload_n hx hb d_Datum_firstPartOf_14 rfl (lv_at hl 1 rfl) ?_
    obtain ⟨h_3, hw⟩ := hw
    refine va_iald hx hb hK hP 2 1 rfl rfl h_3 d_Datum_firstPartOf_15 ?_
    refine lv_goto (tgt := 20) hx hb d_Datum_firstPartOf_16 (by decide) ?_
    have hP9 : va_P (dC, dI) vwCl [ob_Datum h_this h_kinds h_values h_followers i_count h_openLists h_lastParts i_openCount, ar_ h_kinds c_kinds 200 f_kinds, ar_ h_values c_values 200 f_values] _ := hP
    have hD9 : va_D A [ob_Datum h_this h_kinds h_values h_followers i_count h_openLists h_lastParts i_openCount, ar_ h_kinds c_kinds 200 f_kinds, ar_ h_values c_values 200 f_values] := hD
    rw [hQ]
    exact W.iret (v := f_values x1.toNatClampNeg) hx hb hr (fun t ht hW => ⟨⟨f_values x1.toNatClampNeg, (), rfl, hw, by rw [ht]; exact hP9, va_K.moved hW.alike hK, hD9⟩, hS.F ht⟩) hS.2.2 d_Datum_firstPartOf_20

set_option maxHeartbeats 4000000 in
set_option maxRecDepth 100000 in
theorem c_Datum_valueOf (l : Launch) (dC : Nat → ClassId) (dI : Nat → Nat → Nat) (h_this : Nat) (h_values : Nat) (h_kinds : Nat) (h_followers : Nat) (h_openLists : Nat) (h_lastParts : Nat) (c_values : ClassId) (sz : Nat)  (i_count : Int32) (i_openCount : Int32) (f_values : Nat → Int32) (x1 : Int32) (post : Int32 → Prop) (hw : wp_Datum_valueOf f_values x1 post) : Met l y_Datum_valueOf (ws_ y_Datum_valueOf b_Datum_valueOf 2 (some .int)) { frames := 0, cells := 0, slots := 0, locals := 0 } (va_Pc [.ref h_this, .int x1] (PRE (dC, dI) vwCl [(c_values, .int)] [ob_Datum h_this h_kinds h_values h_followers i_count h_openLists h_lastParts i_openCount, ar_ h_values c_values 200 f_values] sz (va_A [ob_Datum h_this h_kinds h_values h_followers i_count h_openLists h_lastParts i_openCount, ar_ h_values c_values 200 f_values] sz))) (va_Qi (fun (r : Int32) (u : Unit) => post r ) (fun (u : Unit) (t : State) => va_P (dC, dI) vwCl [ob_Datum h_this h_kinds h_values h_followers i_count h_openLists h_lastParts i_openCount, ar_ h_values c_values 200 f_values] t.heap ∧ va_K (dC, dI) vwCl [(c_values, .int)] t ∧ va_D (va_A [ob_Datum h_this h_kinds h_values h_followers i_count h_openLists h_lastParts i_openCount, ar_ h_values c_values 200 f_values] sz) [ob_Datum h_this h_kinds h_values h_followers i_count h_openLists h_lastParts i_openCount, ar_ h_values c_values 200 f_values]) (va_A [ob_Datum h_this h_kinds h_values h_followers i_count h_openLists h_lastParts i_openCount, ar_ h_values c_values 200 f_values] sz)) 0 0 (va_A [ob_Datum h_this h_kinds h_values h_followers i_count h_openLists h_lastParts i_openCount, ar_ h_values c_values 200 f_values] sz) := by
  refine Met.ofW (cc := b_Datum_valueOf) (maxL := 2) (ret := (some .int)) (by decide) rfl ?_
  intro p e s m args below meth c s₁ B hml hv
  obtain ⟨rfl, hsz, hP, hK, hD0, hG⟩ := hv
  have hx := B.exec
  have hb := B.bytes
  have hr := B.returns
  have hts : ∀ w ∈ tb, w.before _ s = true := fun w h => atoms_spec (ws := ws_ _ _ _ _) B.pre w (List.mem_cons_of_mem _ h)
  have hown : s.vm.findClass R_Datum = some m.cls := findClass_of_methodNamed B.named
  have hlocks := B.notSynchronized
  subst hsz
  have hD := hD0.self (sz := s.heap.size)
  generalize hAe : va_A [ob_Datum h_this h_kinds h_values h_followers i_count h_openLists h_lastParts i_openCount, ar_ h_values c_values 200 f_values] s.heap.size = A at hD hG ⊢
  have hA : ∀ q : Nat, s.heap.size ≤ q → A q := fun q h => by rw [← hAe]; exact Or.inr h
  have hS : va_S A s.heap s.heap [] := va_S.rf
  have hP : va_P (dC, dI) vwCl [ob_Datum h_this h_kinds h_values h_followers i_count h_openLists h_lastParts i_openCount, ar_ h_values c_values 200 f_values] s.heap := hP
  have hl := lv_entry [.ref h_this, .int x1] (n := 2) (Nat.le_of_ble_eq_true rfl)
  rw [lg_entry_eq]
  generalize (lg_sl [.ref h_this, .int x1] ++ List.replicate (2 - (lg_sl [.ref h_this, .int x1]).length) Slot.unset).toArray = ls at hl ⊢
  have hl : lv_has ls 2 [(0, .ref h_this), (1, .int x1)] := hl
  obtain ⟨Q, hQ⟩ : ∃ Q : State → Prop, Q = MQ below (va_Qi (fun (r : Int32) (u : Unit) => post r ) (fun (u : Unit) (t : State) => va_P (dC, dI) vwCl [ob_Datum h_this h_kinds h_values h_followers i_count h_openLists h_lastParts i_openCount, ar_ h_values c_values 200 f_values] t.heap ∧ va_K (dC, dI) vwCl [(c_values, .int)] t ∧ va_D A [ob_Datum h_this h_kinds h_values h_followers i_count h_openLists h_lastParts i_openCount, ar_ h_values c_values 200 f_values]) A) ([.ref h_this, .int x1] : List Value).toArray s 0 0 A := ⟨_, rfl⟩
  rw [← hQ]
  unfold wp_Datum_valueOf at hw
  refine lv_aload_n hx hb d_Datum_valueOf_0 rfl (lv_at hl 0 rfl) ?_
  refine va_get (D := (dC, dI)) (ci := 1) (v := .ref h_values) (C := R_Datum) (T := T_Datum) (N := 7) hx hb hts in_Datum hown hK hP 0 rfl rfl 1 (by decide) (hts _ kt_37) (fun _ h9 => h9) rfl d_Datum_valueOf_1 ?_
  refine lv_iload_n hx hb d_Datum_valueOf_4 rfl (lv_at hl 1 rfl) ?_
  obtain ⟨h_1, hw⟩ := hw
  refine va_iald hx hb hK hP 1 0 rfl rfl h_1 d_Datum_valueOf_5 ?_
  have hP9 : va_P (dC, dI) vwCl [ob_Datum h_this h_kinds h_values h_followers i_count h_openLists h_lastParts i_openCount, ar_ h_values c_values 200 f_values] _ := hP
  have hD9 : va_D A [ob_Datum h_this h_kinds h_values h_followers i_count h_openLists h_lastParts i_openCount, ar_ h_values c_values 200 f_values] := hD
  rw [hQ]
  exact W.iret (v := f_values x1.toNatClampNeg) hx hb hr (fun t ht hW => ⟨⟨f_values x1.toNatClampNeg, (), rfl, hw, by rw [ht]; exact hP9, va_K.moved hW.alike hK, hD9⟩, hS.F ht⟩) hS.2.2 d_Datum_valueOf_6

set_option maxHeartbeats 4000000 in
set_option maxRecDepth 100000 in
theorem c_Datum_followerOf (l : Launch) (dC : Nat → ClassId) (dI : Nat → Nat → Nat) (h_this : Nat) (h_followers : Nat) (h_kinds : Nat) (h_values : Nat) (h_openLists : Nat) (h_lastParts : Nat) (c_followers : ClassId) (sz : Nat)  (i_count : Int32) (i_openCount : Int32) (f_followers : Nat → Int32) (x1 : Int32) (post : Int32 → Prop) (hw : wp_Datum_followerOf f_followers x1 post) : Met l y_Datum_followerOf (ws_ y_Datum_followerOf b_Datum_followerOf 2 (some .int)) { frames := 0, cells := 0, slots := 0, locals := 0 } (va_Pc [.ref h_this, .int x1] (PRE (dC, dI) vwCl [(c_followers, .int)] [ob_Datum h_this h_kinds h_values h_followers i_count h_openLists h_lastParts i_openCount, ar_ h_followers c_followers 200 f_followers] sz (va_A [ob_Datum h_this h_kinds h_values h_followers i_count h_openLists h_lastParts i_openCount, ar_ h_followers c_followers 200 f_followers] sz))) (va_Qi (fun (r : Int32) (u : Unit) => post r ) (fun (u : Unit) (t : State) => va_P (dC, dI) vwCl [ob_Datum h_this h_kinds h_values h_followers i_count h_openLists h_lastParts i_openCount, ar_ h_followers c_followers 200 f_followers] t.heap ∧ va_K (dC, dI) vwCl [(c_followers, .int)] t ∧ va_D (va_A [ob_Datum h_this h_kinds h_values h_followers i_count h_openLists h_lastParts i_openCount, ar_ h_followers c_followers 200 f_followers] sz) [ob_Datum h_this h_kinds h_values h_followers i_count h_openLists h_lastParts i_openCount, ar_ h_followers c_followers 200 f_followers]) (va_A [ob_Datum h_this h_kinds h_values h_followers i_count h_openLists h_lastParts i_openCount, ar_ h_followers c_followers 200 f_followers] sz)) 0 0 (va_A [ob_Datum h_this h_kinds h_values h_followers i_count h_openLists h_lastParts i_openCount, ar_ h_followers c_followers 200 f_followers] sz) := by
  refine Met.ofW (cc := b_Datum_followerOf) (maxL := 2) (ret := (some .int)) (by decide) rfl ?_
  intro p e s m args below meth c s₁ B hml hv
  obtain ⟨rfl, hsz, hP, hK, hD0, hG⟩ := hv
  have hx := B.exec
  have hb := B.bytes
  have hr := B.returns
  have hts : ∀ w ∈ tb, w.before _ s = true := fun w h => atoms_spec (ws := ws_ _ _ _ _) B.pre w (List.mem_cons_of_mem _ h)
  have hown : s.vm.findClass R_Datum = some m.cls := findClass_of_methodNamed B.named
  have hlocks := B.notSynchronized
  subst hsz
  have hD := hD0.self (sz := s.heap.size)
  generalize hAe : va_A [ob_Datum h_this h_kinds h_values h_followers i_count h_openLists h_lastParts i_openCount, ar_ h_followers c_followers 200 f_followers] s.heap.size = A at hD hG ⊢
  have hA : ∀ q : Nat, s.heap.size ≤ q → A q := fun q h => by rw [← hAe]; exact Or.inr h
  have hS : va_S A s.heap s.heap [] := va_S.rf
  have hP : va_P (dC, dI) vwCl [ob_Datum h_this h_kinds h_values h_followers i_count h_openLists h_lastParts i_openCount, ar_ h_followers c_followers 200 f_followers] s.heap := hP
  have hl := lv_entry [.ref h_this, .int x1] (n := 2) (Nat.le_of_ble_eq_true rfl)
  rw [lg_entry_eq]
  generalize (lg_sl [.ref h_this, .int x1] ++ List.replicate (2 - (lg_sl [.ref h_this, .int x1]).length) Slot.unset).toArray = ls at hl ⊢
  have hl : lv_has ls 2 [(0, .ref h_this), (1, .int x1)] := hl
  obtain ⟨Q, hQ⟩ : ∃ Q : State → Prop, Q = MQ below (va_Qi (fun (r : Int32) (u : Unit) => post r ) (fun (u : Unit) (t : State) => va_P (dC, dI) vwCl [ob_Datum h_this h_kinds h_values h_followers i_count h_openLists h_lastParts i_openCount, ar_ h_followers c_followers 200 f_followers] t.heap ∧ va_K (dC, dI) vwCl [(c_followers, .int)] t ∧ va_D A [ob_Datum h_this h_kinds h_values h_followers i_count h_openLists h_lastParts i_openCount, ar_ h_followers c_followers 200 f_followers]) A) ([.ref h_this, .int x1] : List Value).toArray s 0 0 A := ⟨_, rfl⟩
  rw [← hQ]
  unfold wp_Datum_followerOf at hw
  refine lv_aload_n hx hb d_Datum_followerOf_0 rfl (lv_at hl 0 rfl) ?_
  refine va_get (D := (dC, dI)) (ci := 1) (v := .ref h_followers) (C := R_Datum) (T := T_Datum) (N := 7) hx hb hts in_Datum hown hK hP 0 rfl rfl 2 (by decide) (hts _ kt_38) (fun _ h9 => h9) rfl d_Datum_followerOf_1 ?_
  refine lv_iload_n hx hb d_Datum_followerOf_4 rfl (lv_at hl 1 rfl) ?_
  obtain ⟨h_1, hw⟩ := hw
  refine va_iald hx hb hK hP 1 0 rfl rfl h_1 d_Datum_followerOf_5 ?_
  have hP9 : va_P (dC, dI) vwCl [ob_Datum h_this h_kinds h_values h_followers i_count h_openLists h_lastParts i_openCount, ar_ h_followers c_followers 200 f_followers] _ := hP
  have hD9 : va_D A [ob_Datum h_this h_kinds h_values h_followers i_count h_openLists h_lastParts i_openCount, ar_ h_followers c_followers 200 f_followers] := hD
  rw [hQ]
  exact W.iret (v := f_followers x1.toNatClampNeg) hx hb hr (fun t ht hW => ⟨⟨f_followers x1.toNatClampNeg, (), rfl, hw, by rw [ht]; exact hP9, va_K.moved hW.alike hK, hD9⟩, hS.F ht⟩) hS.2.2 d_Datum_followerOf_6

set_option maxHeartbeats 4000000 in
set_option maxRecDepth 100000 in
theorem c_Datum_countFrom (l : Launch) (dC : Nat → ClassId) (dI : Nat → Nat → Nat) (h_this : Nat) (h_followers : Nat) (h_kinds : Nat) (h_values : Nat) (h_openLists : Nat) (h_lastParts : Nat) (c_followers : ClassId) (sz : Nat)  (i_count : Int32) (i_openCount : Int32) (f_followers : Nat → Int32) (x1 : Int32) (post : Int32 → Prop) (hw : wp_Datum_countFrom i_count f_followers x1 post) : Met l y_Datum_countFrom (ws_ y_Datum_countFrom b_Datum_countFrom 4 (some .int)) { frames := 0, cells := 0, slots := 0, locals := 0 } (va_Pc [.ref h_this, .int x1] (PRE (dC, dI) vwCl [(c_followers, .int)] [ob_Datum h_this h_kinds h_values h_followers i_count h_openLists h_lastParts i_openCount, ar_ h_followers c_followers 200 f_followers] sz (va_A [ob_Datum h_this h_kinds h_values h_followers i_count h_openLists h_lastParts i_openCount, ar_ h_followers c_followers 200 f_followers] sz))) (va_Qi (fun (r : Int32) (u : Unit) => post r ) (fun (u : Unit) (t : State) => va_P (dC, dI) vwCl [ob_Datum h_this h_kinds h_values h_followers i_count h_openLists h_lastParts i_openCount, ar_ h_followers c_followers 200 f_followers] t.heap ∧ va_K (dC, dI) vwCl [(c_followers, .int)] t ∧ va_D (va_A [ob_Datum h_this h_kinds h_values h_followers i_count h_openLists h_lastParts i_openCount, ar_ h_followers c_followers 200 f_followers] sz) [ob_Datum h_this h_kinds h_values h_followers i_count h_openLists h_lastParts i_openCount, ar_ h_followers c_followers 200 f_followers]) (va_A [ob_Datum h_this h_kinds h_values h_followers i_count h_openLists h_lastParts i_openCount, ar_ h_followers c_followers 200 f_followers] sz)) 0 0 (va_A [ob_Datum h_this h_kinds h_values h_followers i_count h_openLists h_lastParts i_openCount, ar_ h_followers c_followers 200 f_followers] sz) := by
  refine Met.ofW (cc := b_Datum_countFrom) (maxL := 4) (ret := (some .int)) (by decide) rfl ?_
  intro p e s m args below meth c s₁ B hml hv
  obtain ⟨rfl, hsz, hP, hK, hD0, hG⟩ := hv
  have hx := B.exec
  have hb := B.bytes
  have hr := B.returns
  have hts : ∀ w ∈ tb, w.before _ s = true := fun w h => atoms_spec (ws := ws_ _ _ _ _) B.pre w (List.mem_cons_of_mem _ h)
  have hown : s.vm.findClass R_Datum = some m.cls := findClass_of_methodNamed B.named
  have hlocks := B.notSynchronized
  subst hsz
  have hD := hD0.self (sz := s.heap.size)
  generalize hAe : va_A [ob_Datum h_this h_kinds h_values h_followers i_count h_openLists h_lastParts i_openCount, ar_ h_followers c_followers 200 f_followers] s.heap.size = A at hD hG ⊢
  have hA : ∀ q : Nat, s.heap.size ≤ q → A q := fun q h => by rw [← hAe]; exact Or.inr h
  have hS : va_S A s.heap s.heap [] := va_S.rf
  have hP : va_P (dC, dI) vwCl [ob_Datum h_this h_kinds h_values h_followers i_count h_openLists h_lastParts i_openCount, ar_ h_followers c_followers 200 f_followers] s.heap := hP
  have hl := lv_entry [.ref h_this, .int x1] (n := 4) (Nat.le_of_ble_eq_true rfl)
  rw [lg_entry_eq]
  generalize (lg_sl [.ref h_this, .int x1] ++ List.replicate (4 - (lg_sl [.ref h_this, .int x1]).length) Slot.unset).toArray = ls at hl ⊢
  have hl : lv_has ls 4 [(0, .ref h_this), (1, .int x1)] := hl
  obtain ⟨Q, hQ⟩ : ∃ Q : State → Prop, Q = MQ below (va_Qi (fun (r : Int32) (u : Unit) => post r ) (fun (u : Unit) (t : State) => va_P (dC, dI) vwCl [ob_Datum h_this h_kinds h_values h_followers i_count h_openLists h_lastParts i_openCount, ar_ h_followers c_followers 200 f_followers] t.heap ∧ va_K (dC, dI) vwCl [(c_followers, .int)] t ∧ va_D A [ob_Datum h_this h_kinds h_values h_followers i_count h_openLists h_lastParts i_openCount, ar_ h_followers c_followers 200 f_followers]) A) ([.ref h_this, .int x1] : List Value).toArray s 0 0 A := ⟨_, rfl⟩
  rw [← hQ]
  unfold wp_Datum_countFrom at hw
  refine lv_iconst (v := 0) hx hb d_Datum_countFrom_0 (by decide) ?_
  refine lv_istore_n (lv' := [(2, .int (0 : Int32)), (0, .ref h_this), (1, .int x1)]) hx hb d_Datum_countFrom_1 rfl hl (by decide) rfl (fun ls hl => ?_)
  refine lv_iload_n hx hb d_Datum_countFrom_2 rfl (lv_at hl 2 rfl) ?_
  refine lv_istore_n (lv' := [(3, .int x1), (2, .int (0 : Int32)), (0, .ref h_this), (1, .int x1)]) hx hb d_Datum_countFrom_3 rfl hl (by decide) rfl (fun ls hl => ?_)
  have L4 : ∀ fu4 : Nat, ∀ (v2 : Int32) (v3 : Int32) (H : Heap) (locs : List Loc) (ls : Array Slot), lv_has ls 4 [(0, .ref h_this), (2, .int v2), (3, .int v3)] → va_P (dC, dI) vwCl [ob_Datum h_this h_kinds h_values h_followers i_count h_openLists h_lastParts i_openCount, ar_ h_followers c_followers 200 f_followers] H → va_D A [ob_Datum h_this h_kinds h_values h_followers i_count h_openLists h_lastParts i_openCount, ar_ h_followers c_followers 200 f_followers] → va_S A s.heap H locs → wp_Datum_countFrom_L4 i_count f_followers post fu4 v2 v3 → W p l e (headSpec (ws_ y_Datum_countFrom b_Datum_countFrom 4 (some .int)) { frames := 0, cells := 0, slots := 0, locals := 0 }).room s m ([.ref h_this, .int x1] : List Value).toArray below meth c H locs 0 0 Q (F0 m 4 ls []) := by
    intro fu4
    induction fu4 with
    | zero => intro v2 v3 H locs ls hl hP hD hS hw; exact False.elim hw
    | succ fu4 ih4 =>
        intro v2 v3 H locs ls hl hP hD hS hw
        unfold wp_Datum_countFrom_L4 at hw
        refine lv_iload_n hx hb d_Datum_countFrom_4 rfl (lv_at hl 2 rfl) ?_
        refine lv_iconst (v := (-1)) hx hb d_Datum_countFrom_5 (by decide) ?_
        refine lv_icmp_eq (tgt := 30) hx hb d_Datum_countFrom_6 (by decide) (fun c_1 => ?_) (fun c_1 => ?_)
        · have hw := hw.1 c_1
          refine lv_iload_n hx hb d_Datum_countFrom_30 rfl (lv_at hl 1 rfl) ?_
          have hP9 : va_P (dC, dI) vwCl [ob_Datum h_this h_kinds h_values h_followers i_count h_openLists h_lastParts i_openCount, ar_ h_followers c_followers 200 f_followers] _ := hP
          have hD9 : va_D A [ob_Datum h_this h_kinds h_values h_followers i_count h_openLists h_lastParts i_openCount, ar_ h_followers c_followers 200 f_followers] := hD
          rw [hQ]
          exact W.iret (v := v2) hx hb hr (fun t ht hW => ⟨⟨v2, (), rfl, hw, by rw [ht]; exact hP9, va_K.moved hW.alike hK, hD9⟩, hS.F ht⟩) hS.2.2 d_Datum_countFrom_31
        · have hw := hw.2 c_1
          refine lv_iload_n hx hb d_Datum_countFrom_9 rfl (lv_at hl 1 rfl) ?_
          refine lv_aload_n hx hb d_Datum_countFrom_10 rfl (lv_at hl 0 rfl) ?_
          refine va_get (D := (dC, dI)) (ci := 1) (v := .int i_count) (C := R_Datum) (T := T_Datum) (N := 7) hx hb hts in_Datum hown hK hP 0 rfl rfl 3 (by decide) (hts _ kt_39) (fun _ h9 => h9) rfl d_Datum_countFrom_11 ?_
          refine lv_icmp_ge (tgt := 30) hx hb d_Datum_countFrom_14 (by decide) (fun c_2 => ?_) (fun c_2 => ?_)
          · have hw := hw.1 c_2
            refine lv_iload_n hx hb d_Datum_countFrom_30 rfl (lv_at hl 1 rfl) ?_
            have hP9 : va_P (dC, dI) vwCl [ob_Datum h_this h_kinds h_values h_followers i_count h_openLists h_lastParts i_openCount, ar_ h_followers c_followers 200 f_followers] _ := hP
            have hD9 : va_D A [ob_Datum h_this h_kinds h_values h_followers i_count h_openLists h_lastParts i_openCount, ar_ h_followers c_followers 200 f_followers] := hD
            rw [hQ]
            exact W.iret (v := v2) hx hb hr (fun t ht hW => ⟨⟨v2, (), rfl, hw, by rw [ht]; exact hP9, va_K.moved hW.alike hK, hD9⟩, hS.F ht⟩) hS.2.2 d_Datum_countFrom_31
          · have hw := hw.2 c_2
            refine lv_iinc (v := v2 + (1 : Int32)) (lv' := [(2, .int (v2 + (1 : Int32))), (0, .ref h_this), (3, .int v3)]) hx hb d_Datum_countFrom_17 hl (k := 1) rfl rfl (by decide) rfl (fun ls hl => ?_)
            refine lv_aload_n hx hb d_Datum_countFrom_20 rfl (lv_at hl 1 rfl) ?_
            refine va_get (D := (dC, dI)) (ci := 1) (v := .ref h_followers) (C := R_Datum) (T := T_Datum) (N := 7) hx hb hts in_Datum hown hK hP 0 rfl rfl 2 (by decide) (hts _ kt_38) (fun _ h9 => h9) rfl d_Datum_countFrom_21 ?_
            refine lv_iload_n hx hb d_Datum_countFrom_24 rfl (lv_at hl 2 rfl) ?_
            obtain ⟨h_3, hw⟩ := hw
            refine va_iald hx hb hK hP 1 0 rfl rfl h_3 d_Datum_countFrom_25 ?_
            refine lv_istore_n (lv' := [(3, .int (f_followers v3.toNatClampNeg)), (2, .int (v2 + (1 : Int32))), (0, .ref h_this)]) hx hb d_Datum_countFrom_26 rfl hl (by decide) rfl (fun ls hl => ?_)
            refine lv_goto (tgt := 4) hx hb d_Datum_countFrom_27 (by decide) ?_
            exact ih4 (v2 + (1 : Int32)) (f_followers v3.toNatClampNeg) _ _ ls (lv_sub hl [2, 1, 0] rfl) hP hD hS hw
  obtain ⟨fu4, hw⟩ := hw
  exact L4   fu4 (0 : Int32) x1 _ _ ls (lv_sub hl [2, 1, 0] rfl) hP hD hS hw

set_option maxHeartbeats 4000000 in
set_option maxRecDepth 100000 in
theorem c_Datum_partBehind (l : Launch) (dC : Nat → ClassId) (dI : Nat → Nat → Nat) (h_this : Nat) (h_followers : Nat) (h_kinds : Nat) (h_values : Nat) (h_openLists : Nat) (h_lastParts : Nat) (c_followers : ClassId) (sz : Nat)  (i_count : Int32) (i_openCount : Int32) (f_followers : Nat → Int32) (x1 : Int32) (x2 : Int32) (post : Int32 → Prop) (hw : wp_Datum_partBehind f_followers x1 x2 post) : Met l y_Datum_partBehind (ws_ y_Datum_partBehind b_Datum_partBehind 5 (some .int)) { frames := 0, cells := 0, slots := 0, locals := 0 } (va_Pc [.ref h_this, .int x1, .int x2] (PRE (dC, dI) vwCl [(c_followers, .int)] [ob_Datum h_this h_kinds h_values h_followers i_count h_openLists h_lastParts i_openCount, ar_ h_followers c_followers 200 f_followers] sz (va_A [ob_Datum h_this h_kinds h_values h_followers i_count h_openLists h_lastParts i_openCount, ar_ h_followers c_followers 200 f_followers] sz))) (va_Qi (fun (r : Int32) (u : Unit) => post r ) (fun (u : Unit) (t : State) => va_P (dC, dI) vwCl [ob_Datum h_this h_kinds h_values h_followers i_count h_openLists h_lastParts i_openCount, ar_ h_followers c_followers 200 f_followers] t.heap ∧ va_K (dC, dI) vwCl [(c_followers, .int)] t ∧ va_D (va_A [ob_Datum h_this h_kinds h_values h_followers i_count h_openLists h_lastParts i_openCount, ar_ h_followers c_followers 200 f_followers] sz) [ob_Datum h_this h_kinds h_values h_followers i_count h_openLists h_lastParts i_openCount, ar_ h_followers c_followers 200 f_followers]) (va_A [ob_Datum h_this h_kinds h_values h_followers i_count h_openLists h_lastParts i_openCount, ar_ h_followers c_followers 200 f_followers] sz)) 0 0 (va_A [ob_Datum h_this h_kinds h_values h_followers i_count h_openLists h_lastParts i_openCount, ar_ h_followers c_followers 200 f_followers] sz) := by
  refine Met.ofW (cc := b_Datum_partBehind) (maxL := 5) (ret := (some .int)) (by decide) rfl ?_
  intro p e s m args below meth c s₁ B hml hv
  obtain ⟨rfl, hsz, hP, hK, hD0, hG⟩ := hv
  have hx := B.exec
  have hb := B.bytes
  have hr := B.returns
  have hts : ∀ w ∈ tb, w.before _ s = true := fun w h => atoms_spec (ws := ws_ _ _ _ _) B.pre w (List.mem_cons_of_mem _ h)
  have hown : s.vm.findClass R_Datum = some m.cls := findClass_of_methodNamed B.named
  have hlocks := B.notSynchronized
  subst hsz
  have hD := hD0.self (sz := s.heap.size)
  generalize hAe : va_A [ob_Datum h_this h_kinds h_values h_followers i_count h_openLists h_lastParts i_openCount, ar_ h_followers c_followers 200 f_followers] s.heap.size = A at hD hG ⊢
  have hA : ∀ q : Nat, s.heap.size ≤ q → A q := fun q h => by rw [← hAe]; exact Or.inr h
  have hS : va_S A s.heap s.heap [] := va_S.rf
  have hP : va_P (dC, dI) vwCl [ob_Datum h_this h_kinds h_values h_followers i_count h_openLists h_lastParts i_openCount, ar_ h_followers c_followers 200 f_followers] s.heap := hP
  have hl := lv_entry [.ref h_this, .int x1, .int x2] (n := 5) (Nat.le_of_ble_eq_true rfl)
  rw [lg_entry_eq]
  generalize (lg_sl [.ref h_this, .int x1, .int x2] ++ List.replicate (5 - (lg_sl [.ref h_this, .int x1, .int x2]).length) Slot.unset).toArray = ls at hl ⊢
  have hl : lv_has ls 5 [(0, .ref h_this), (1, .int x1), (2, .int x2)] := hl
  obtain ⟨Q, hQ⟩ : ∃ Q : State → Prop, Q = MQ below (va_Qi (fun (r : Int32) (u : Unit) => post r ) (fun (u : Unit) (t : State) => va_P (dC, dI) vwCl [ob_Datum h_this h_kinds h_values h_followers i_count h_openLists h_lastParts i_openCount, ar_ h_followers c_followers 200 f_followers] t.heap ∧ va_K (dC, dI) vwCl [(c_followers, .int)] t ∧ va_D A [ob_Datum h_this h_kinds h_values h_followers i_count h_openLists h_lastParts i_openCount, ar_ h_followers c_followers 200 f_followers]) A) ([.ref h_this, .int x1, .int x2] : List Value).toArray s 0 0 A := ⟨_, rfl⟩
  rw [← hQ]
  unfold wp_Datum_partBehind at hw
  refine lv_iload_n hx hb d_Datum_partBehind_0 rfl (lv_at hl 1 rfl) ?_
  refine lv_istore_n (lv' := [(3, .int x1), (0, .ref h_this), (1, .int x1), (2, .int x2)]) hx hb d_Datum_partBehind_1 rfl hl (by decide) rfl (fun ls hl => ?_)
  refine lv_iconst (v := 0) hx hb d_Datum_partBehind_2 (by decide) ?_
  refine lv_istore (lv' := [(4, .int (0 : Int32)), (3, .int x1), (0, .ref h_this), (1, .int x1), (2, .int x2)]) hx hb d_Datum_partBehind_3 hl (by decide) rfl (fun ls hl => ?_)
  have L5 : ∀ fu5 : Nat, ∀ (v2 : Int32) (v3 : Int32) (v4 : Int32) (H : Heap) (locs : List Loc) (ls : Array Slot), lv_has ls 5 [(0, .ref h_this), (2, .int v2), (3, .int v3), (4, .int v4)] → va_P (dC, dI) vwCl [ob_Datum h_this h_kinds h_values h_followers i_count h_openLists h_lastParts i_openCount, ar_ h_followers c_followers 200 f_followers] H → va_D A [ob_Datum h_this h_kinds h_values h_followers i_count h_openLists h_lastParts i_openCount, ar_ h_followers c_followers 200 f_followers] → va_S A s.heap H locs → wp_Datum_partBehind_L5 f_followers post fu5 v2 v3 v4 → W p l e (headSpec (ws_ y_Datum_partBehind b_Datum_partBehind 5 (some .int)) { frames := 0, cells := 0, slots := 0, locals := 0 }).room s m ([.ref h_this, .int x1, .int x2] : List Value).toArray below meth c H locs 0 0 Q (F0 m 5 ls []) := by
    intro fu5
    induction fu5 with
    | zero => intro v2 v3 v4 H locs ls hl hP hD hS hw; exact False.elim hw
    | succ fu5 ih5 =>
        intro v2 v3 v4 H locs ls hl hP hD hS hw
        unfold wp_Datum_partBehind_L5 at hw
        refine lv_iload hx hb d_Datum_partBehind_5 (lv_at hl 3 rfl) ?_
        refine lv_iload_n hx hb d_Datum_partBehind_7 rfl (lv_at hl 1 rfl) ?_
        refine lv_icmp_ge (tgt := 29) hx hb d_Datum_partBehind_8 (by decide) (fun c_1 => ?_) (fun c_1 => ?_)
        · have hw := hw.1 c_1
          refine lv_iload_n hx hb d_Datum_partBehind_29 rfl (lv_at hl 2 rfl) ?_
          have hP9 : va_P (dC, dI) vwCl [ob_Datum h_this h_kinds h_values h_followers i_count h_openLists h_lastParts i_openCount, ar_ h_followers c_followers 200 f_followers] _ := hP
          have hD9 : va_D A [ob_Datum h_this h_kinds h_values h_followers i_count h_openLists h_lastParts i_openCount, ar_ h_followers c_followers 200 f_followers] := hD
          rw [hQ]
          exact W.iret (v := v3) hx hb hr (fun t ht hW => ⟨⟨v3, (), rfl, hw, by rw [ht]; exact hP9, va_K.moved hW.alike hK, hD9⟩, hS.F ht⟩) hS.2.2 d_Datum_partBehind_30
        · have hw := hw.2 c_1
          refine lv_iload_n hx hb d_Datum_partBehind_11 rfl (lv_at hl 2 rfl) ?_
          refine lv_iconst (v := (-1)) hx hb d_Datum_partBehind_12 (by decide) ?_
          refine lv_icmp_eq (tgt := 29) hx hb d_Datum_partBehind_13 (by decide) (fun c_2 => ?_) (fun c_2 => ?_)
          · have hw := hw.1 c_2
            refine lv_iload_n hx hb d_Datum_partBehind_29 rfl (lv_at hl 2 rfl) ?_
            have hP9 : va_P (dC, dI) vwCl [ob_Datum h_this h_kinds h_values h_followers i_count h_openLists h_lastParts i_openCount, ar_ h_followers c_followers 200 f_followers] _ := hP
            have hD9 : va_D A [ob_Datum h_this h_kinds h_values h_followers i_count h_openLists h_lastParts i_openCount, ar_ h_followers c_followers 200 f_followers] := hD
            rw [hQ]
            exact W.iret (v := v3) hx hb hr (fun t ht hW => ⟨⟨v3, (), rfl, hw, by rw [ht]; exact hP9, va_K.moved hW.alike hK, hD9⟩, hS.F ht⟩) hS.2.2 d_Datum_partBehind_30
          · have hw := hw.2 c_2
            refine lv_aload_n hx hb d_Datum_partBehind_16 rfl (lv_at hl 0 rfl) ?_
            refine va_get (D := (dC, dI)) (ci := 1) (v := .ref h_followers) (C := R_Datum) (T := T_Datum) (N := 7) hx hb hts in_Datum hown hK hP 0 rfl rfl 2 (by decide) (hts _ kt_38) (fun _ h9 => h9) rfl d_Datum_partBehind_17 ?_
            refine lv_iload_n hx hb d_Datum_partBehind_20 rfl (lv_at hl 2 rfl) ?_
            obtain ⟨h_3, hw⟩ := hw
            refine va_iald hx hb hK hP 1 0 rfl rfl h_3 d_Datum_partBehind_21 ?_
            refine lv_istore_n (lv' := [(3, .int (f_followers v3.toNatClampNeg)), (0, .ref h_this), (2, .int v2), (4, .int v4)]) hx hb d_Datum_partBehind_22 rfl hl (by decide) rfl (fun ls hl => ?_)
            refine lv_iinc (v := v4 + (1 : Int32)) (lv' := [(4, .int (v4 + (1 : Int32))), (3, .int (f_followers v3.toNatClampNeg)), (0, .ref h_this), (2, .int v2)]) hx hb d_Datum_partBehind_23 hl (k := 3) rfl rfl (by decide) rfl (fun ls hl => ?_)
            refine lv_goto (tgt := 5) hx hb d_Datum_partBehind_26 (by decide) ?_
            exact ih5 v2 (f_followers v3.toNatClampNeg) (v4 + (1 : Int32)) _ _ ls (lv_sub hl [2, 3, 1, 0] rfl) hP hD hS hw
  obtain ⟨fu5, hw⟩ := hw
  exact L5   fu5 x2 x1 (0 : Int32) _ _ ls (lv_sub hl [2, 4, 1, 0] rfl) hP hD hS hw

set_option maxHeartbeats 4000000 in
set_option maxRecDepth 100000 in
theorem c_Datum_copyFrom (l : Launch) (dC : Nat → ClassId) (dI : Nat → Nat → Nat) (h_this : Nat) (h_followers : Nat) (h_kinds : Nat) (h_values : Nat) (h_p1 : Nat) (h_p1_followers : Nat) (h_p1_kinds : Nat) (h_p1_values : Nat) (h_openLists : Nat) (h_lastParts : Nat) (h_p1_openLists : Nat) (h_p1_lastParts : Nat) (c_followers : ClassId) (c_kinds : ClassId) (c_values : ClassId) (c_p1_followers : ClassId) (c_p1_kinds : ClassId) (c_p1_values : ClassId) (sz : Nat)  (i_count : Int32) (i_openCount : Int32) (f_followers : Nat → Int32) (f_kinds : Nat → Int32) (f_values : Nat → Int32) (i_p1_count : Int32) (i_p1_openCount : Int32) (f_p1_followers : Nat → Int32) (f_p1_kinds : Nat → Int32) (f_p1_values : Nat → Int32)  (post : Int32 → (Nat → Int32) → (Nat → Int32) → (Nat → Int32) → Prop) (hw : wp_Datum_copyFrom i_count f_followers f_kinds f_values i_p1_count f_p1_followers f_p1_kinds f_p1_values  post) : Met l y_Datum_copyFrom (ws_ y_Datum_copyFrom b_Datum_copyFrom 2 none) { frames := 1, cells := 0, slots := 0, locals := 60 } (va_Pc [.ref h_this, .ref h_p1] (PRE (dC, dI) vwCl [(c_followers, .int), (c_kinds, .int), (c_values, .int), (c_p1_followers, .int), (c_p1_kinds, .int), (c_p1_values, .int)] [ob_Datum h_this h_kinds h_values h_followers i_count h_openLists h_lastParts i_openCount, ar_ h_followers c_followers 200 f_followers, ar_ h_kinds c_kinds 200 f_kinds, ar_ h_values c_values 200 f_values, ob_Datum h_p1 h_p1_kinds h_p1_values h_p1_followers i_p1_count h_p1_openLists h_p1_lastParts i_p1_openCount, ar_ h_p1_followers c_p1_followers 200 f_p1_followers, ar_ h_p1_kinds c_p1_kinds 200 f_p1_kinds, ar_ h_p1_values c_p1_values 200 f_p1_values] sz (va_A [ob_Datum h_this h_kinds h_values h_followers i_count h_openLists h_lastParts i_openCount, ar_ h_followers c_followers 200 f_followers, ar_ h_kinds c_kinds 200 f_kinds, ar_ h_values c_values 200 f_values, ob_Datum h_p1 h_p1_kinds h_p1_values h_p1_followers i_p1_count h_p1_openLists h_p1_lastParts i_p1_openCount, ar_ h_p1_followers c_p1_followers 200 f_p1_followers, ar_ h_p1_kinds c_p1_kinds 200 f_p1_kinds, ar_ h_p1_values c_p1_values 200 f_p1_values] sz))) (va_Qv (fun (u : Int32 × (Nat → Int32) × (Nat → Int32) × (Nat → Int32)) => post u.1 u.2.1 u.2.2.1 u.2.2.2) (fun (u : Int32 × (Nat → Int32) × (Nat → Int32) × (Nat → Int32)) (t : State) => va_P (dC, dI) vwCl [ob_Datum h_this h_kinds h_values h_followers u.1 h_openLists h_lastParts i_openCount, ar_ h_followers c_followers 200 u.2.1, ar_ h_kinds c_kinds 200 u.2.2.1, ar_ h_values c_values 200 u.2.2.2, ob_Datum h_p1 h_p1_kinds h_p1_values h_p1_followers i_p1_count h_p1_openLists h_p1_lastParts i_p1_openCount, ar_ h_p1_followers c_p1_followers 200 f_p1_followers, ar_ h_p1_kinds c_p1_kinds 200 f_p1_kinds, ar_ h_p1_values c_p1_values 200 f_p1_values] t.heap ∧ va_K (dC, dI) vwCl [(c_followers, .int), (c_kinds, .int), (c_values, .int), (c_p1_followers, .int), (c_p1_kinds, .int), (c_p1_values, .int)] t ∧ va_D (va_A [ob_Datum h_this h_kinds h_values h_followers i_count h_openLists h_lastParts i_openCount, ar_ h_followers c_followers 200 f_followers, ar_ h_kinds c_kinds 200 f_kinds, ar_ h_values c_values 200 f_values, ob_Datum h_p1 h_p1_kinds h_p1_values h_p1_followers i_p1_count h_p1_openLists h_p1_lastParts i_p1_openCount, ar_ h_p1_followers c_p1_followers 200 f_p1_followers, ar_ h_p1_kinds c_p1_kinds 200 f_p1_kinds, ar_ h_p1_values c_p1_values 200 f_p1_values] sz) [ob_Datum h_this h_kinds h_values h_followers u.1 h_openLists h_lastParts i_openCount, ar_ h_followers c_followers 200 u.2.1, ar_ h_kinds c_kinds 200 u.2.2.1, ar_ h_values c_values 200 u.2.2.2, ob_Datum h_p1 h_p1_kinds h_p1_values h_p1_followers i_p1_count h_p1_openLists h_p1_lastParts i_p1_openCount, ar_ h_p1_followers c_p1_followers 200 f_p1_followers, ar_ h_p1_kinds c_p1_kinds 200 f_p1_kinds, ar_ h_p1_values c_p1_values 200 f_p1_values]) (va_A [ob_Datum h_this h_kinds h_values h_followers i_count h_openLists h_lastParts i_openCount, ar_ h_followers c_followers 200 f_followers, ar_ h_kinds c_kinds 200 f_kinds, ar_ h_values c_values 200 f_values, ob_Datum h_p1 h_p1_kinds h_p1_values h_p1_followers i_p1_count h_p1_openLists h_p1_lastParts i_p1_openCount, ar_ h_p1_followers c_p1_followers 200 f_p1_followers, ar_ h_p1_kinds c_p1_kinds 200 f_p1_kinds, ar_ h_p1_values c_p1_values 200 f_p1_values] sz)) 0 0 (va_A [ob_Datum h_this h_kinds h_values h_followers i_count h_openLists h_lastParts i_openCount, ar_ h_followers c_followers 200 f_followers, ar_ h_kinds c_kinds 200 f_kinds, ar_ h_values c_values 200 f_values, ob_Datum h_p1 h_p1_kinds h_p1_values h_p1_followers i_p1_count h_p1_openLists h_p1_lastParts i_p1_openCount, ar_ h_p1_followers c_p1_followers 200 f_p1_followers, ar_ h_p1_kinds c_p1_kinds 200 f_p1_kinds, ar_ h_p1_values c_p1_values 200 f_p1_values] sz) := by
  refine Met.ofW (cc := b_Datum_copyFrom) (maxL := 2) (ret := none) (by decide) rfl ?_
  intro p e s m args below meth c s₁ B hml hv
  obtain ⟨rfl, hsz, hP, hK, hD0, hG⟩ := hv
  have hx := B.exec
  have hb := B.bytes
  have hr := B.returns
  have hts : ∀ w ∈ tb, w.before _ s = true := fun w h => atoms_spec (ws := ws_ _ _ _ _) B.pre w (List.mem_cons_of_mem _ h)
  have hown : s.vm.findClass R_Datum = some m.cls := findClass_of_methodNamed B.named
  have hlocks := B.notSynchronized
  subst hsz
  have hD := hD0.self (sz := s.heap.size)
  generalize hAe : va_A [ob_Datum h_this h_kinds h_values h_followers i_count h_openLists h_lastParts i_openCount, ar_ h_followers c_followers 200 f_followers, ar_ h_kinds c_kinds 200 f_kinds, ar_ h_values c_values 200 f_values, ob_Datum h_p1 h_p1_kinds h_p1_values h_p1_followers i_p1_count h_p1_openLists h_p1_lastParts i_p1_openCount, ar_ h_p1_followers c_p1_followers 200 f_p1_followers, ar_ h_p1_kinds c_p1_kinds 200 f_p1_kinds, ar_ h_p1_values c_p1_values 200 f_p1_values] s.heap.size = A at hD hG ⊢
  have hA : ∀ q : Nat, s.heap.size ≤ q → A q := fun q h => by rw [← hAe]; exact Or.inr h
  have hS : va_S A s.heap s.heap [] := va_S.rf
  have hP : va_P (dC, dI) vwCl [ob_Datum h_this h_kinds h_values h_followers i_count h_openLists h_lastParts i_openCount, ar_ h_followers c_followers 200 f_followers, ar_ h_kinds c_kinds 200 f_kinds, ar_ h_values c_values 200 f_values, ob_Datum h_p1 h_p1_kinds h_p1_values h_p1_followers i_p1_count h_p1_openLists h_p1_lastParts i_p1_openCount, ar_ h_p1_followers c_p1_followers 200 f_p1_followers, ar_ h_p1_kinds c_p1_kinds 200 f_p1_kinds, ar_ h_p1_values c_p1_values 200 f_p1_values] s.heap := hP
  have hl := lv_entry [.ref h_this, .ref h_p1] (n := 2) (Nat.le_of_ble_eq_true rfl)
  rw [lg_entry_eq]
  generalize (lg_sl [.ref h_this, .ref h_p1] ++ List.replicate (2 - (lg_sl [.ref h_this, .ref h_p1]).length) Slot.unset).toArray = ls at hl ⊢
  have hl : lv_has ls 2 [(0, .ref h_this), (1, .ref h_p1)] := hl
  obtain ⟨Q, hQ⟩ : ∃ Q : State → Prop, Q = MQ below (va_Qv (fun (u : Int32 × (Nat → Int32) × (Nat → Int32) × (Nat → Int32)) => post u.1 u.2.1 u.2.2.1 u.2.2.2) (fun (u : Int32 × (Nat → Int32) × (Nat → Int32) × (Nat → Int32)) (t : State) => va_P (dC, dI) vwCl [ob_Datum h_this h_kinds h_values h_followers u.1 h_openLists h_lastParts i_openCount, ar_ h_followers c_followers 200 u.2.1, ar_ h_kinds c_kinds 200 u.2.2.1, ar_ h_values c_values 200 u.2.2.2, ob_Datum h_p1 h_p1_kinds h_p1_values h_p1_followers i_p1_count h_p1_openLists h_p1_lastParts i_p1_openCount, ar_ h_p1_followers c_p1_followers 200 f_p1_followers, ar_ h_p1_kinds c_p1_kinds 200 f_p1_kinds, ar_ h_p1_values c_p1_values 200 f_p1_values] t.heap ∧ va_K (dC, dI) vwCl [(c_followers, .int), (c_kinds, .int), (c_values, .int), (c_p1_followers, .int), (c_p1_kinds, .int), (c_p1_values, .int)] t ∧ va_D A [ob_Datum h_this h_kinds h_values h_followers u.1 h_openLists h_lastParts i_openCount, ar_ h_followers c_followers 200 u.2.1, ar_ h_kinds c_kinds 200 u.2.2.1, ar_ h_values c_values 200 u.2.2.2, ob_Datum h_p1 h_p1_kinds h_p1_values h_p1_followers i_p1_count h_p1_openLists h_p1_lastParts i_p1_openCount, ar_ h_p1_followers c_p1_followers 200 f_p1_followers, ar_ h_p1_kinds c_p1_kinds 200 f_p1_kinds, ar_ h_p1_values c_p1_values 200 f_p1_values]) A) ([.ref h_this, .ref h_p1] : List Value).toArray s 0 0 A := ⟨_, rfl⟩
  rw [← hQ]
  unfold wp_Datum_copyFrom at hw
  refine lv_aload_n hx hb d_Datum_copyFrom_0 rfl (lv_at hl 1 rfl) ?_
  refine va_get (D := (dC, dI)) (ci := 1) (v := .ref h_p1_kinds) (C := R_Datum) (T := T_Datum) (N := 7) hx hb hts in_Datum hown hK hP 4 rfl rfl 0 (by decide) (hts _ kt_36) (fun _ h9 => h9) rfl d_Datum_copyFrom_1 ?_
  refine lv_iconst (v := 0) hx hb d_Datum_copyFrom_4 (by decide) ?_
  refine lv_aload_n hx hb d_Datum_copyFrom_5 rfl (lv_at hl 0 rfl) ?_
  refine va_get (D := (dC, dI)) (ci := 1) (v := .ref h_kinds) (C := R_Datum) (T := T_Datum) (N := 7) hx hb hts in_Datum hown hK hP 0 rfl rfl 0 (by decide) (hts _ kt_36) (fun _ h9 => h9) rfl d_Datum_copyFrom_6 ?_
  refine lv_iconst (v := 0) hx hb d_Datum_copyFrom_9 (by decide) ?_
  refine lv_aload_n hx hb d_Datum_copyFrom_10 rfl (lv_at hl 1 rfl) ?_
  refine va_get (D := (dC, dI)) (ci := 1) (v := .int i_p1_count) (C := R_Datum) (T := T_Datum) (N := 7) hx hb hts in_Datum hown hK hP 4 rfl rfl 3 (by decide) (hts _ kt_39) (fun _ h9 => h9) rfl d_Datum_copyFrom_11 ?_
  obtain ⟨h_1, h_2, h_3, h_4, h_5, hw⟩ := hw
  refine va_copyi (ty := .int) (sp := (0 : Int32)) (dp := (0 : Int32)) (n := i_p1_count) (rest := []) hx hb (by rw [hml]; exact hl.1.symm) hown (hts _ kt_514) (hts _ kt_516) (hts _ kt_515) (hts _ kt_17) hK hP hD hS 6 2 4 1 rfl rfl rfl rfl (by decide) h_1 h_2 h_3 h_4 h_5 (fun _ _ => rfl) (Nat.le_of_ble_eq_true rfl) (Nat.le_of_ble_eq_true rfl) d_Datum_copyFrom_14 (fun H locs hP hD hS => ?_)
  have hP : va_P (dC, dI) vwCl [ob_Datum h_this h_kinds h_values h_followers i_count h_openLists h_lastParts i_openCount, ar_ h_followers c_followers 200 f_followers, ar_ h_kinds c_kinds 200 (va_cpy f_p1_kinds f_kinds (0 : Int32).toNatClampNeg (0 : Int32).toNatClampNeg i_p1_count.toNatClampNeg), ar_ h_values c_values 200 f_values, ob_Datum h_p1 h_p1_kinds h_p1_values h_p1_followers i_p1_count h_p1_openLists h_p1_lastParts i_p1_openCount, ar_ h_p1_followers c_p1_followers 200 f_p1_followers, ar_ h_p1_kinds c_p1_kinds 200 f_p1_kinds, ar_ h_p1_values c_p1_values 200 f_p1_values] H := hP
  have hD : va_D A [ob_Datum h_this h_kinds h_values h_followers i_count h_openLists h_lastParts i_openCount, ar_ h_followers c_followers 200 f_followers, ar_ h_kinds c_kinds 200 (va_cpy f_p1_kinds f_kinds (0 : Int32).toNatClampNeg (0 : Int32).toNatClampNeg i_p1_count.toNatClampNeg), ar_ h_values c_values 200 f_values, ob_Datum h_p1 h_p1_kinds h_p1_values h_p1_followers i_p1_count h_p1_openLists h_p1_lastParts i_p1_openCount, ar_ h_p1_followers c_p1_followers 200 f_p1_followers, ar_ h_p1_kinds c_p1_kinds 200 f_p1_kinds, ar_ h_p1_values c_p1_values 200 f_p1_values] := hD
  refine lv_aload_n hx hb d_Datum_copyFrom_17 rfl (lv_at hl 1 rfl) ?_
  refine va_get (D := (dC, dI)) (ci := 1) (v := .ref h_p1_values) (C := R_Datum) (T := T_Datum) (N := 7) hx hb hts in_Datum hown hK hP 4 rfl rfl 1 (by decide) (hts _ kt_37) (fun _ h9 => h9) rfl d_Datum_copyFrom_18 ?_
  refine lv_iconst (v := 0) hx hb d_Datum_copyFrom_21 (by decide) ?_
  refine lv_aload_n hx hb d_Datum_copyFrom_22 rfl (lv_at hl 0 rfl) ?_
  refine va_get (D := (dC, dI)) (ci := 1) (v := .ref h_values) (C := R_Datum) (T := T_Datum) (N := 7) hx hb hts in_Datum hown hK hP 0 rfl rfl 1 (by decide) (hts _ kt_37) (fun _ h9 => h9) rfl d_Datum_copyFrom_23 ?_
  refine lv_iconst (v := 0) hx hb d_Datum_copyFrom_26 (by decide) ?_
  refine lv_aload_n hx hb d_Datum_copyFrom_27 rfl (lv_at hl 1 rfl) ?_
  refine va_get (D := (dC, dI)) (ci := 1) (v := .int i_p1_count) (C := R_Datum) (T := T_Datum) (N := 7) hx hb hts in_Datum hown hK hP 4 rfl rfl 3 (by decide) (hts _ kt_39) (fun _ h9 => h9) rfl d_Datum_copyFrom_28 ?_
  obtain ⟨h_6, h_7, h_8, h_9, h_10, hw⟩ := hw
  refine va_copyi (ty := .int) (sp := (0 : Int32)) (dp := (0 : Int32)) (n := i_p1_count) (rest := []) hx hb (by rw [hml]; exact hl.1.symm) hown (hts _ kt_514) (hts _ kt_516) (hts _ kt_515) (hts _ kt_17) hK hP hD hS 7 3 5 2 rfl rfl rfl rfl (by decide) h_6 h_7 h_8 h_9 h_10 (fun _ _ => rfl) (Nat.le_of_ble_eq_true rfl) (Nat.le_of_ble_eq_true rfl) d_Datum_copyFrom_31 (fun H locs hP hD hS => ?_)
  have hP : va_P (dC, dI) vwCl [ob_Datum h_this h_kinds h_values h_followers i_count h_openLists h_lastParts i_openCount, ar_ h_followers c_followers 200 f_followers, ar_ h_kinds c_kinds 200 (va_cpy f_p1_kinds f_kinds (0 : Int32).toNatClampNeg (0 : Int32).toNatClampNeg i_p1_count.toNatClampNeg), ar_ h_values c_values 200 (va_cpy f_p1_values f_values (0 : Int32).toNatClampNeg (0 : Int32).toNatClampNeg i_p1_count.toNatClampNeg), ob_Datum h_p1 h_p1_kinds h_p1_values h_p1_followers i_p1_count h_p1_openLists h_p1_lastParts i_p1_openCount, ar_ h_p1_followers c_p1_followers 200 f_p1_followers, ar_ h_p1_kinds c_p1_kinds 200 f_p1_kinds, ar_ h_p1_values c_p1_values 200 f_p1_values] H := hP
  have hD : va_D A [ob_Datum h_this h_kinds h_values h_followers i_count h_openLists h_lastParts i_openCount, ar_ h_followers c_followers 200 f_followers, ar_ h_kinds c_kinds 200 (va_cpy f_p1_kinds f_kinds (0 : Int32).toNatClampNeg (0 : Int32).toNatClampNeg i_p1_count.toNatClampNeg), ar_ h_values c_values 200 (va_cpy f_p1_values f_values (0 : Int32).toNatClampNeg (0 : Int32).toNatClampNeg i_p1_count.toNatClampNeg), ob_Datum h_p1 h_p1_kinds h_p1_values h_p1_followers i_p1_count h_p1_openLists h_p1_lastParts i_p1_openCount, ar_ h_p1_followers c_p1_followers 200 f_p1_followers, ar_ h_p1_kinds c_p1_kinds 200 f_p1_kinds, ar_ h_p1_values c_p1_values 200 f_p1_values] := hD
  refine lv_aload_n hx hb d_Datum_copyFrom_34 rfl (lv_at hl 1 rfl) ?_
  refine va_get (D := (dC, dI)) (ci := 1) (v := .ref h_p1_followers) (C := R_Datum) (T := T_Datum) (N := 7) hx hb hts in_Datum hown hK hP 4 rfl rfl 2 (by decide) (hts _ kt_38) (fun _ h9 => h9) rfl d_Datum_copyFrom_35 ?_
  refine lv_iconst (v := 0) hx hb d_Datum_copyFrom_38 (by decide) ?_
  refine lv_aload_n hx hb d_Datum_copyFrom_39 rfl (lv_at hl 0 rfl) ?_
  refine va_get (D := (dC, dI)) (ci := 1) (v := .ref h_followers) (C := R_Datum) (T := T_Datum) (N := 7) hx hb hts in_Datum hown hK hP 0 rfl rfl 2 (by decide) (hts _ kt_38) (fun _ h9 => h9) rfl d_Datum_copyFrom_40 ?_
  refine lv_iconst (v := 0) hx hb d_Datum_copyFrom_43 (by decide) ?_
  refine lv_aload_n hx hb d_Datum_copyFrom_44 rfl (lv_at hl 1 rfl) ?_
  refine va_get (D := (dC, dI)) (ci := 1) (v := .int i_p1_count) (C := R_Datum) (T := T_Datum) (N := 7) hx hb hts in_Datum hown hK hP 4 rfl rfl 3 (by decide) (hts _ kt_39) (fun _ h9 => h9) rfl d_Datum_copyFrom_45 ?_
  obtain ⟨h_11, h_12, h_13, h_14, h_15, hw⟩ := hw
  refine va_copyi (ty := .int) (sp := (0 : Int32)) (dp := (0 : Int32)) (n := i_p1_count) (rest := []) hx hb (by rw [hml]; exact hl.1.symm) hown (hts _ kt_514) (hts _ kt_516) (hts _ kt_515) (hts _ kt_17) hK hP hD hS 5 1 3 0 rfl rfl rfl rfl (by decide) h_11 h_12 h_13 h_14 h_15 (fun _ _ => rfl) (Nat.le_of_ble_eq_true rfl) (Nat.le_of_ble_eq_true rfl) d_Datum_copyFrom_48 (fun H locs hP hD hS => ?_)
  have hP : va_P (dC, dI) vwCl [ob_Datum h_this h_kinds h_values h_followers i_count h_openLists h_lastParts i_openCount, ar_ h_followers c_followers 200 (va_cpy f_p1_followers f_followers (0 : Int32).toNatClampNeg (0 : Int32).toNatClampNeg i_p1_count.toNatClampNeg), ar_ h_kinds c_kinds 200 (va_cpy f_p1_kinds f_kinds (0 : Int32).toNatClampNeg (0 : Int32).toNatClampNeg i_p1_count.toNatClampNeg), ar_ h_values c_values 200 (va_cpy f_p1_values f_values (0 : Int32).toNatClampNeg (0 : Int32).toNatClampNeg i_p1_count.toNatClampNeg), ob_Datum h_p1 h_p1_kinds h_p1_values h_p1_followers i_p1_count h_p1_openLists h_p1_lastParts i_p1_openCount, ar_ h_p1_followers c_p1_followers 200 f_p1_followers, ar_ h_p1_kinds c_p1_kinds 200 f_p1_kinds, ar_ h_p1_values c_p1_values 200 f_p1_values] H := hP
  have hD : va_D A [ob_Datum h_this h_kinds h_values h_followers i_count h_openLists h_lastParts i_openCount, ar_ h_followers c_followers 200 (va_cpy f_p1_followers f_followers (0 : Int32).toNatClampNeg (0 : Int32).toNatClampNeg i_p1_count.toNatClampNeg), ar_ h_kinds c_kinds 200 (va_cpy f_p1_kinds f_kinds (0 : Int32).toNatClampNeg (0 : Int32).toNatClampNeg i_p1_count.toNatClampNeg), ar_ h_values c_values 200 (va_cpy f_p1_values f_values (0 : Int32).toNatClampNeg (0 : Int32).toNatClampNeg i_p1_count.toNatClampNeg), ob_Datum h_p1 h_p1_kinds h_p1_values h_p1_followers i_p1_count h_p1_openLists h_p1_lastParts i_p1_openCount, ar_ h_p1_followers c_p1_followers 200 f_p1_followers, ar_ h_p1_kinds c_p1_kinds 200 f_p1_kinds, ar_ h_p1_values c_p1_values 200 f_p1_values] := hD
  refine lv_aload_n hx hb d_Datum_copyFrom_51 rfl (lv_at hl 0 rfl) ?_
  refine lv_aload_n hx hb d_Datum_copyFrom_52 rfl (lv_at hl 1 rfl) ?_
  refine va_get (D := (dC, dI)) (ci := 1) (v := .int i_p1_count) (C := R_Datum) (T := T_Datum) (N := 7) hx hb hts in_Datum hown hK hP 4 rfl rfl 3 (by decide) (hts _ kt_39) (fun _ h9 => h9) rfl d_Datum_copyFrom_53 ?_
  refine va_put (D := (dC, dI)) (ci := 1) (v := .int i_p1_count) (ty := .int) (C := R_Datum) (T := T_Datum) (N := 7) hx hb hts in_Datum t_Datum t_Datum_ok nm_Datum hown hK hP hD hS 0 rfl rfl 3 (by decide) (hts _ kt_39) (fun _ h9 => h9) rfl (by decide +kernel) rfl rfl (Nat.le_of_ble_eq_true rfl) d_Datum_copyFrom_56 (fun H locs hP hD hS => ?_)
  have hP : va_P (dC, dI) vwCl [ob_Datum h_this h_kinds h_values h_followers i_p1_count h_openLists h_lastParts i_openCount, ar_ h_followers c_followers 200 (va_cpy f_p1_followers f_followers (0 : Int32).toNatClampNeg (0 : Int32).toNatClampNeg i_p1_count.toNatClampNeg), ar_ h_kinds c_kinds 200 (va_cpy f_p1_kinds f_kinds (0 : Int32).toNatClampNeg (0 : Int32).toNatClampNeg i_p1_count.toNatClampNeg), ar_ h_values c_values 200 (va_cpy f_p1_values f_values (0 : Int32).toNatClampNeg (0 : Int32).toNatClampNeg i_p1_count.toNatClampNeg), ob_Datum h_p1 h_p1_kinds h_p1_values h_p1_followers i_p1_count h_p1_openLists h_p1_lastParts i_p1_openCount, ar_ h_p1_followers c_p1_followers 200 f_p1_followers, ar_ h_p1_kinds c_p1_kinds 200 f_p1_kinds, ar_ h_p1_values c_p1_values 200 f_p1_values] H := hP
  have hD : va_D A [ob_Datum h_this h_kinds h_values h_followers i_p1_count h_openLists h_lastParts i_openCount, ar_ h_followers c_followers 200 (va_cpy f_p1_followers f_followers (0 : Int32).toNatClampNeg (0 : Int32).toNatClampNeg i_p1_count.toNatClampNeg), ar_ h_kinds c_kinds 200 (va_cpy f_p1_kinds f_kinds (0 : Int32).toNatClampNeg (0 : Int32).toNatClampNeg i_p1_count.toNatClampNeg), ar_ h_values c_values 200 (va_cpy f_p1_values f_values (0 : Int32).toNatClampNeg (0 : Int32).toNatClampNeg i_p1_count.toNatClampNeg), ob_Datum h_p1 h_p1_kinds h_p1_values h_p1_followers i_p1_count h_p1_openLists h_p1_lastParts i_p1_openCount, ar_ h_p1_followers c_p1_followers 200 f_p1_followers, ar_ h_p1_kinds c_p1_kinds 200 f_p1_kinds, ar_ h_p1_values c_p1_values 200 f_p1_values] := hD
  have hP9 : va_P (dC, dI) vwCl [ob_Datum h_this h_kinds h_values h_followers i_p1_count h_openLists h_lastParts i_openCount, ar_ h_followers c_followers 200 (va_cpy f_p1_followers f_followers (0 : Int32).toNatClampNeg (0 : Int32).toNatClampNeg i_p1_count.toNatClampNeg), ar_ h_kinds c_kinds 200 (va_cpy f_p1_kinds f_kinds (0 : Int32).toNatClampNeg (0 : Int32).toNatClampNeg i_p1_count.toNatClampNeg), ar_ h_values c_values 200 (va_cpy f_p1_values f_values (0 : Int32).toNatClampNeg (0 : Int32).toNatClampNeg i_p1_count.toNatClampNeg), ob_Datum h_p1 h_p1_kinds h_p1_values h_p1_followers i_p1_count h_p1_openLists h_p1_lastParts i_p1_openCount, ar_ h_p1_followers c_p1_followers 200 f_p1_followers, ar_ h_p1_kinds c_p1_kinds 200 f_p1_kinds, ar_ h_p1_values c_p1_values 200 f_p1_values] _ := hP
  have hD9 : va_D A [ob_Datum h_this h_kinds h_values h_followers i_p1_count h_openLists h_lastParts i_openCount, ar_ h_followers c_followers 200 (va_cpy f_p1_followers f_followers (0 : Int32).toNatClampNeg (0 : Int32).toNatClampNeg i_p1_count.toNatClampNeg), ar_ h_kinds c_kinds 200 (va_cpy f_p1_kinds f_kinds (0 : Int32).toNatClampNeg (0 : Int32).toNatClampNeg i_p1_count.toNatClampNeg), ar_ h_values c_values 200 (va_cpy f_p1_values f_values (0 : Int32).toNatClampNeg (0 : Int32).toNatClampNeg i_p1_count.toNatClampNeg), ob_Datum h_p1 h_p1_kinds h_p1_values h_p1_followers i_p1_count h_p1_openLists h_p1_lastParts i_p1_openCount, ar_ h_p1_followers c_p1_followers 200 f_p1_followers, ar_ h_p1_kinds c_p1_kinds 200 f_p1_kinds, ar_ h_p1_values c_p1_values 200 f_p1_values] := hD
  rw [hQ]
  exact W.vret hx hb hr (fun t ht hW => ⟨⟨(i_p1_count, va_cpy f_p1_followers f_followers (0 : Int32).toNatClampNeg (0 : Int32).toNatClampNeg i_p1_count.toNatClampNeg, va_cpy f_p1_kinds f_kinds (0 : Int32).toNatClampNeg (0 : Int32).toNatClampNeg i_p1_count.toNatClampNeg, va_cpy f_p1_values f_values (0 : Int32).toNatClampNeg (0 : Int32).toNatClampNeg i_p1_count.toNatClampNeg), rfl, hw, by rw [ht]; exact hP9, va_K.moved hW.alike hK, hD9⟩, hS.F ht⟩) hS.2.2 d_Datum_copyFrom_59
