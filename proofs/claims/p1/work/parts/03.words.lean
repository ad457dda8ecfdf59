def R_String : String := "java/lang/String"
def R_ASB : String := "java/lang/AbstractStringBuilder"
def R_Latin1 : String := "java/lang/StringLatin1"
def R_Precond : String := "jdk/internal/util/Preconditions"
def R_Integer : String := "java/lang/Integer"
def R_Arrays : String := "java/util/Arrays"
def R_ArrSup : String := "jdk/internal/util/ArraysSupport"
abbrev b_Precond_checkIndex : ByteArray := prog_23_method_11_code
abbrev y_Precond_checkIndex : MethodName := ⟨R_Precond, "checkIndex", "(IILjava/util/function/BiFunction;)I"⟩
abbrev b_Precond_checkIndex_null : ByteArray := prog_23_method_11_code
abbrev y_Precond_checkIndex_null : MethodName := ⟨R_Precond, "checkIndex", "(IILjava/util/function/BiFunction;)I"⟩
abbrev b_String_checkIndex : ByteArray := prog_16_method_155_code
abbrev y_String_checkIndex : MethodName := ⟨R_String, "checkIndex", "(II)V"⟩
abbrev b_String_coder : ByteArray := prog_16_method_152_code
abbrev y_String_coder : MethodName := ⟨R_String, "coder", "()B"⟩
abbrev b_String_length : ByteArray := prog_16_method_54_code
abbrev y_String_length : MethodName := ⟨R_String, "length", "()I"⟩
abbrev b_String_isLatin1 : ByteArray := prog_16_method_154_code
abbrev y_String_isLatin1 : MethodName := ⟨R_String, "isLatin1", "()Z"⟩
abbrev b_Latin1_charAt : ByteArray := prog_18_method_2_code
abbrev y_Latin1_charAt : MethodName := ⟨R_Latin1, "charAt", "([BI)C"⟩
abbrev b_String_charAt : ByteArray := prog_16_method_56_code
abbrev y_String_charAt : MethodName := ⟨R_String, "charAt", "(I)C"⟩
abbrev b_ASB_new : ByteArray := prog_12_method_2_code
abbrev y_ASB_new : MethodName := ⟨R_ASB, "<init>", "(I)V"⟩
abbrev b_SB_new : ByteArray := prog_17_method_1_code
abbrev y_SB_new : MethodName := ⟨R_SB, "<init>", "()V"⟩
abbrev b_Arrays_copyOf : ByteArray := prog_21_method_121_code
abbrev y_Arrays_copyOf : MethodName := ⟨R_Arrays, "copyOf", "([BI)[B"⟩
abbrev b_Integer_stringSize : ByteArray := prog_14_method_13_code
abbrev y_Integer_stringSize : MethodName := ⟨R_Integer, "stringSize", "(I)I"⟩
abbrev b_Integer_getChars : ByteArray := prog_14_method_12_code
abbrev y_Integer_getChars : MethodName := ⟨R_Integer, "getChars", "(II[B)I"⟩
abbrev b_ArrSup_newLength : ByteArray := prog_22_method_27_code
abbrev y_ArrSup_newLength : MethodName := ⟨R_ArrSup, "newLength", "(III)I"⟩
abbrev b_Latin1_canEncode : ByteArray := prog_18_method_3_code
abbrev y_Latin1_canEncode : MethodName := ⟨R_Latin1, "canEncode", "(C)Z"⟩
abbrev b_ASB_isLatin1 : ByteArray := prog_12_method_68_code
abbrev y_ASB_isLatin1 : MethodName := ⟨R_ASB, "isLatin1", "()Z"⟩
abbrev b_ASB_length : ByteArray := prog_12_method_6_code
abbrev y_ASB_length : MethodName := ⟨R_ASB, "length", "()I"⟩
abbrev b_ASB_newCapacity : ByteArray := prog_12_method_10_code
abbrev y_ASB_newCapacity : MethodName := ⟨R_ASB, "newCapacity", "(I)I"⟩
abbrev b_ASB_charAt : ByteArray := prog_12_method_14_code
abbrev y_ASB_charAt : MethodName := ⟨R_ASB, "charAt", "(I)C"⟩
abbrev b_ASB_ensure : ByteArray := prog_12_method_9_code
abbrev y_ASB_ensure : MethodName := ⟨R_ASB, "ensureCapacityInternal", "(I)V"⟩
abbrev b_ASB_append_c : ByteArray := prog_12_method_31_code
abbrev y_ASB_append_c : MethodName := ⟨R_ASB, "append", "(C)Ljava/lang/AbstractStringBuilder;"⟩
abbrev b_ASB_append_i : ByteArray := prog_12_method_32_code
abbrev y_ASB_append_i : MethodName := ⟨R_ASB, "append", "(I)Ljava/lang/AbstractStringBuilder;"⟩
abbrev b_String_getBytes : ByteArray := prog_16_method_147_code
abbrev y_String_getBytes : MethodName := ⟨R_String, "getBytes", "([BIB)V"⟩
abbrev b_ASB_inflateIf : ByteArray := prog_12_method_71_code
abbrev y_ASB_inflateIf : MethodName := ⟨R_ASB, "inflateIfNeededFor", "(Ljava/lang/String;)V"⟩
abbrev b_ASB_putStringAt : ByteArray := prog_12_method_73_code
abbrev y_ASB_putStringAt : MethodName := ⟨R_ASB, "putStringAt", "(ILjava/lang/String;)V"⟩
abbrev b_ASB_append_s : ByteArray := prog_12_method_22_code
abbrev y_ASB_append_s : MethodName := ⟨R_ASB, "append", "(Ljava/lang/String;)Ljava/lang/AbstractStringBuilder;"⟩
abbrev b_ASB_setLength : ByteArray := prog_12_method_13_code
abbrev y_ASB_setLength : MethodName := ⟨R_ASB, "setLength", "(I)V"⟩
abbrev b_SB_length : ByteArray := prog_17_method_93_code
abbrev y_SB_length : MethodName := ⟨R_SB, "length", "()I"⟩
abbrev b_SB_charAt : ByteArray := prog_17_method_88_code
abbrev y_SB_charAt : MethodName := ⟨R_SB, "charAt", "(I)C"⟩
abbrev b_SB_append_c : ByteArray := prog_17_method_14_code
abbrev y_SB_append_c : MethodName := ⟨R_SB, "append", "(C)Ljava/lang/StringBuilder;"⟩
abbrev b_SB_append_i : ByteArray := prog_17_method_15_code
abbrev y_SB_append_i : MethodName := ⟨R_SB, "append", "(I)Ljava/lang/StringBuilder;"⟩
abbrev b_SB_append_s : ByteArray := prog_17_method_7_code
abbrev y_SB_append_s : MethodName := ⟨R_SB, "append", "(Ljava/lang/String;)Ljava/lang/StringBuilder;"⟩
abbrev b_SB_setLength : ByteArray := prog_17_method_89_code
abbrev y_SB_setLength : MethodName := ⟨R_SB, "setLength", "(I)V"⟩
abbrev b_Law_cell : ByteArray := method_2_code
def y_Law_cell : MethodName := ⟨R_Law, "cell", "([II)I"⟩
abbrev b_Law_law : ByteArray := code
def y_Law_law : MethodName := ⟨R_Law, "law", "([I)Z"⟩
theorem kt_341 : Cond.methodLink R_Secd 162 y_Secd_isDigit ∈ tb := mem_t2 (i := 101) rfl rfl
theorem kt_342 : Cond.static y_Secd_isDigit ∈ tb := mem_t2 (i := 102) rfl rfl
theorem kt_1 : Cond.initialized R_Secd ∈ tb := mem_t1 (i := 1) rfl rfl
theorem kt_343 : Cond.code y_Secd_isDigit b_Secd_isDigit 1 (some .boolean) ∈ tb := mem_t2 (i := 103) rfl rfl
theorem kt_344 : Cond.methodLink R_Secd 165 y_Secd_isLetter ∈ tb := mem_t2 (i := 104) rfl rfl
theorem kt_345 : Cond.static y_Secd_isLetter ∈ tb := mem_t2 (i := 105) rfl rfl
theorem kt_346 : Cond.code y_Secd_isLetter b_Secd_isLetter 1 (some .boolean) ∈ tb := mem_t2 (i := 106) rfl rfl
theorem kt_41 : Cond.fieldLink R_Datum 28 R_Datum "lastParts" "[I" ∈ tb := mem_t1 (i := 41) rfl rfl
theorem kt_38 : Cond.fieldLink R_Datum 18 R_Datum "followers" "[I" ∈ tb := mem_t1 (i := 38) rfl rfl
theorem kt_37 : Cond.fieldLink R_Datum 15 R_Datum "values" "[I" ∈ tb := mem_t1 (i := 37) rfl rfl
theorem kt_40 : Cond.fieldLink R_Datum 25 R_Datum "openLists" "[I" ∈ tb := mem_t1 (i := 40) rfl rfl
theorem kt_36 : Cond.fieldLink R_Datum 9 R_Datum "kinds" "[I" ∈ tb := mem_t1 (i := 36) rfl rfl
theorem kt_39 : Cond.fieldLink R_Datum 21 R_Datum "count" "I" ∈ tb := mem_t1 (i := 39) rfl rfl
theorem kt_42 : Cond.fieldLink R_Datum 31 R_Datum "openCount" "I" ∈ tb := mem_t1 (i := 42) rfl rfl
theorem kt_371 : Cond.methodLink R_Datum 74 y_Datum_addPart ∈ tb := mem_t2 (i := 131) rfl rfl
theorem kt_373 : Cond.instanceMethod y_Datum_addPart ∈ tb := mem_t2 (i := 133) rfl rfl
theorem ks_3 : Cond.selects R_Datum y_Datum_addPart y_Datum_addPart ∈ tb := mem_ts (i := 3) (by decide +kernel) rfl
theorem kt_2 : Cond.initialized R_Datum ∈ tb := mem_t1 (i := 2) rfl rfl
theorem kt_374 : Cond.code y_Datum_addPart b_Datum_addPart 3 none ∈ tb := mem_t2 (i := 134) rfl rfl
theorem kt_367 : Cond.methodLink R_Datum 61 y_Datum_addNode ∈ tb := mem_t2 (i := 127) rfl rfl
theorem kt_369 : Cond.instanceMethod y_Datum_addNode ∈ tb := mem_t2 (i := 129) rfl rfl
theorem ks_2 : Cond.selects R_Datum y_Datum_addNode y_Datum_addNode ∈ tb := mem_ts (i := 2) (by decide +kernel) rfl
theorem kt_370 : Cond.code y_Datum_addNode b_Datum_addNode 3 (some .boolean) ∈ tb := mem_t2 (i := 130) rfl rfl
theorem kt_384 : Cond.methodLink R_Datum 65 y_Names_withLetter ∈ tb := mem_t2 (i := 144) rfl rfl
theorem kt_146 : Cond.static y_Names_withLetter ∈ tb := mem_t1 (i := 146) rfl rfl
theorem kt_9 : Cond.initialized R_Names ∈ tb := mem_t1 (i := 9) rfl rfl
theorem kt_147 : Cond.code y_Names_withLetter b_Names_withLetter 2 (some .int) ∈ tb := mem_t1 (i := 147) rfl rfl
theorem kt_385 : Cond.methodLink R_Datum 58 y_Datum_readNumber ∈ tb := mem_t2 (i := 145) rfl rfl
theorem kt_387 : Cond.instanceMethod y_Datum_readNumber ∈ tb := mem_t2 (i := 147) rfl rfl
theorem ks_6 : Cond.selects R_Datum y_Datum_readNumber y_Datum_readNumber ∈ tb := mem_ts (i := 6) (by decide +kernel) rfl
theorem kt_388 : Cond.code y_Datum_readNumber b_Datum_readNumber 9 (some .int) ∈ tb := mem_t2 (i := 148) rfl rfl
theorem kt_380 : Cond.methodLink R_Datum 55 y_Datum_readName ∈ tb := mem_t2 (i := 140) rfl rfl
theorem kt_382 : Cond.instanceMethod y_Datum_readName ∈ tb := mem_t2 (i := 142) rfl rfl
theorem ks_5 : Cond.selects R_Datum y_Datum_readName y_Datum_readName ∈ tb := mem_ts (i := 5) (by decide +kernel) rfl
theorem kt_383 : Cond.code y_Datum_readName b_Datum_readName 6 (some .int) ∈ tb := mem_t2 (i := 143) rfl rfl
theorem kt_375 : Cond.methodLink R_Datum 48 y_Datum_closeList ∈ tb := mem_t2 (i := 135) rfl rfl
theorem kt_377 : Cond.instanceMethod y_Datum_closeList ∈ tb := mem_t2 (i := 137) rfl rfl
theorem ks_4 : Cond.selects R_Datum y_Datum_closeList y_Datum_closeList ∈ tb := mem_ts (i := 4) (by decide +kernel) rfl
theorem kt_378 : Cond.code y_Datum_closeList b_Datum_closeList 1 (some .boolean) ∈ tb := mem_t2 (i := 138) rfl rfl
theorem kt_363 : Cond.methodLink R_Datum 44 y_Datum_openList ∈ tb := mem_t2 (i := 123) rfl rfl
theorem kt_365 : Cond.instanceMethod y_Datum_openList ∈ tb := mem_t2 (i := 125) rfl rfl
theorem ks_1 : Cond.selects R_Datum y_Datum_openList y_Datum_openList ∈ tb := mem_ts (i := 1) (by decide +kernel) rfl
theorem kt_366 : Cond.code y_Datum_openList b_Datum_openList 1 (some .boolean) ∈ tb := mem_t2 (i := 126) rfl rfl
theorem kt_359 : Cond.methodLink R_Datum 34 y_Datum_readOne ∈ tb := mem_t2 (i := 119) rfl rfl
theorem kt_361 : Cond.instanceMethod y_Datum_readOne ∈ tb := mem_t2 (i := 121) rfl rfl
theorem ks_0 : Cond.selects R_Datum y_Datum_readOne y_Datum_readOne ∈ tb := mem_ts (i := 0) (by decide +kernel) rfl
theorem kt_362 : Cond.code y_Datum_readOne b_Datum_readOne 5 (some .int) ∈ tb := mem_t2 (i := 122) rfl rfl
theorem kt_514 : Cond.methodLink R_Datum 38 arraycopyName ∈ tb := mem_t3 (i := 34) rfl rfl
theorem kt_516 : Cond.native arraycopyName ∈ tb := mem_t3 (i := 36) rfl rfl
theorem kt_515 : Cond.static arraycopyName ∈ tb := mem_t3 (i := 35) rfl rfl
theorem kt_17 : Cond.initialized "java/lang/System" ∈ tb := mem_t1 (i := 17) rfl rfl
theorem kt_73 : Cond.fieldLink R_Program 22 R_Program "size" "I" ∈ tb := mem_t1 (i := 73) rfl rfl
theorem kt_77 : Cond.fieldLink R_Program 29 R_Program "lastConstant" "I" ∈ tb := mem_t1 (i := 77) rfl rfl
theorem kt_72 : Cond.fieldLink R_Program 18 R_Program "words" "[I" ∈ tb := mem_t1 (i := 72) rfl rfl
theorem kt_76 : Cond.fieldLink R_Program 26 R_Program "constants" "[I" ∈ tb := mem_t1 (i := 76) rfl rfl
theorem kt_68 : Cond.fieldLink R_Program 12 R_Program "datum" "LSecdProcessor$Datum;" ∈ tb := mem_t1 (i := 68) rfl rfl
theorem kt_510 : Cond.methodLink R_Program 32 y_Datum_copyFrom ∈ tb := mem_t3 (i := 30) rfl rfl
theorem kt_511 : Cond.instanceMethod y_Datum_copyFrom ∈ tb := mem_t3 (i := 31) rfl rfl
theorem kt_512 : Cond.selects R_Datum y_Datum_copyFrom y_Datum_copyFrom ∈ tb := mem_t3 (i := 32) rfl rfl
theorem kt_513 : Cond.code y_Datum_copyFrom b_Datum_copyFrom 2 none ∈ tb := mem_t3 (i := 33) rfl rfl
theorem kt_517 : Cond.methodLink R_Program 36 arraycopyName ∈ tb := mem_t3 (i := 37) rfl rfl
theorem kt_622 : Cond.methodLink R_Op 9 Lib.Math.min.name ∈ tb := mem_t3 (i := 142) rfl rfl
theorem kt_171 : Cond.static Lib.Math.min.name ∈ tb := mem_t1 (i := 171) rfl rfl
theorem kt_11 : Cond.initialized "java/lang/Math" ∈ tb := mem_t1 (i := 11) rfl rfl
theorem kt_172 : Cond.code Lib.Math.min.name Lib.Math.min.code 2 (some .int) ∈ tb := mem_t1 (i := 172) rfl rfl
theorem kt_619 : Cond.methodLink R_Op 15 y_Op_opOf ∈ tb := mem_t3 (i := 139) rfl rfl
theorem kt_620 : Cond.static y_Op_opOf ∈ tb := mem_t3 (i := 140) rfl rfl
theorem kt_18 : Cond.initialized R_Op ∈ tb := mem_t1 (i := 18) rfl rfl
theorem kt_621 : Cond.code y_Op_opOf b_Op_opOf 1 (some .int) ∈ tb := mem_t3 (i := 141) rfl rfl
theorem kt_649 : Cond.fieldLink R_Op 19 R_Op "CYCLES" "[I" ∈ tb := mem_t3 (i := 169) rfl rfl
theorem kt_651 : Cond.methodLink R_Op 23 y_Op_firstOf ∈ tb := mem_t3 (i := 171) rfl rfl
theorem kt_652 : Cond.static y_Op_firstOf ∈ tb := mem_t3 (i := 172) rfl rfl
theorem kt_653 : Cond.code y_Op_firstOf b_Op_firstOf 1 (some .int) ∈ tb := mem_t3 (i := 173) rfl rfl
theorem kt_654 : Cond.methodLink R_Op 26 y_Op_secondOf ∈ tb := mem_t3 (i := 174) rfl rfl
theorem kt_655 : Cond.static y_Op_secondOf ∈ tb := mem_t3 (i := 175) rfl rfl
theorem kt_656 : Cond.code y_Op_secondOf b_Op_secondOf 1 (some .int) ∈ tb := mem_t3 (i := 176) rfl rfl
theorem kt_617 : Cond.fieldLink R_Op 29 R_Op "CELLS" "[I" ∈ tb := mem_t3 (i := 137) rfl rfl
theorem kt_149 : Cond.fieldLink R_Translator 32 R_Translator "datum" "LSecdProcessor$Datum;" ∈ tb := mem_t1 (i := 149) rfl rfl
theorem kt_402 : Cond.methodLink R_Translator 69 y_Datum_kindOf ∈ tb := mem_t2 (i := 162) rfl rfl
theorem kt_403 : Cond.instanceMethod y_Datum_kindOf ∈ tb := mem_t2 (i := 163) rfl rfl
theorem kt_404 : Cond.selects R_Datum y_Datum_kindOf y_Datum_kindOf ∈ tb := mem_t2 (i := 164) rfl rfl
theorem kt_405 : Cond.code y_Datum_kindOf b_Datum_kindOf 2 (some .int) ∈ tb := mem_t2 (i := 165) rfl rfl
theorem kt_150 : Cond.fieldLink R_Translator 33 R_Translator "formNames" "[I" ∈ tb := mem_t1 (i := 150) rfl rfl
theorem kt_418 : Cond.methodLink R_Translator 76 y_Datum_valueOf ∈ tb := mem_t2 (i := 178) rfl rfl
theorem kt_419 : Cond.instanceMethod y_Datum_valueOf ∈ tb := mem_t2 (i := 179) rfl rfl
theorem kt_420 : Cond.selects R_Datum y_Datum_valueOf y_Datum_valueOf ∈ tb := mem_t2 (i := 180) rfl rfl
theorem kt_421 : Cond.code y_Datum_valueOf b_Datum_valueOf 2 (some .int) ∈ tb := mem_t2 (i := 181) rfl rfl
theorem kt_152 : Cond.fieldLink R_Translator 15 R_Translator "frameCount" "I" ∈ tb := mem_t1 (i := 152) rfl rfl
theorem kt_151 : Cond.fieldLink R_Translator 9 R_Translator "frames" "[I" ∈ tb := mem_t1 (i := 151) rfl rfl
theorem kt_148 : Cond.fieldLink R_Translator 22 R_Translator "program" "LSecdProcessor$Program;" ∈ tb := mem_t1 (i := 148) rfl rfl
theorem kt_410 : Cond.methodLink R_Translator 85 y_Program_addConstant ∈ tb := mem_t2 (i := 170) rfl rfl
theorem kt_411 : Cond.instanceMethod y_Program_addConstant ∈ tb := mem_t2 (i := 171) rfl rfl
theorem kt_412 : Cond.selects R_Program y_Program_addConstant y_Program_addConstant ∈ tb := mem_t2 (i := 172) rfl rfl
theorem kt_3 : Cond.initialized R_Program ∈ tb := mem_t1 (i := 3) rfl rfl
theorem kt_413 : Cond.code y_Program_addConstant b_Program_addConstant 2 (some .int) ∈ tb := mem_t2 (i := 173) rfl rfl
theorem kt_414 : Cond.methodLink R_Translator 65 y_Program_emit ∈ tb := mem_t2 (i := 174) rfl rfl
theorem kt_415 : Cond.instanceMethod y_Program_emit ∈ tb := mem_t2 (i := 175) rfl rfl
theorem kt_416 : Cond.selects R_Program y_Program_emit y_Program_emit ∈ tb := mem_t2 (i := 176) rfl rfl
theorem kt_417 : Cond.code y_Program_emit b_Program_emit 5 (some .int) ∈ tb := mem_t2 (i := 177) rfl rfl
theorem kt_430 : Cond.methodLink R_Translator 92 y_Datum_countFrom ∈ tb := mem_t2 (i := 190) rfl rfl
theorem kt_431 : Cond.instanceMethod y_Datum_countFrom ∈ tb := mem_t2 (i := 191) rfl rfl
theorem kt_432 : Cond.selects R_Datum y_Datum_countFrom y_Datum_countFrom ∈ tb := mem_t2 (i := 192) rfl rfl
theorem kt_433 : Cond.code y_Datum_countFrom b_Datum_countFrom 4 (some .int) ∈ tb := mem_t2 (i := 193) rfl rfl
theorem kt_434 : Cond.methodLink R_Translator 95 y_Datum_firstPartOf ∈ tb := mem_t2 (i := 194) rfl rfl
theorem kt_435 : Cond.instanceMethod y_Datum_firstPartOf ∈ tb := mem_t2 (i := 195) rfl rfl
theorem kt_436 : Cond.selects R_Datum y_Datum_firstPartOf y_Datum_firstPartOf ∈ tb := mem_t2 (i := 196) rfl rfl
theorem kt_437 : Cond.code y_Datum_firstPartOf b_Datum_firstPartOf 2 (some .int) ∈ tb := mem_t2 (i := 197) rfl rfl
theorem kt_438 : Cond.methodLink R_Translator 98 y_Datum_followerOf ∈ tb := mem_t2 (i := 198) rfl rfl
theorem kt_439 : Cond.instanceMethod y_Datum_followerOf ∈ tb := mem_t2 (i := 199) rfl rfl
theorem kt_440 : Cond.selects R_Datum y_Datum_followerOf y_Datum_followerOf ∈ tb := mem_t2 (i := 200) rfl rfl
theorem kt_441 : Cond.code y_Datum_followerOf b_Datum_followerOf 2 (some .int) ∈ tb := mem_t2 (i := 201) rfl rfl
theorem kt_454 : Cond.methodLink R_Translator 115 y_Translator_isListOfNames ∈ tb := mem_t2 (i := 214) rfl rfl
theorem kt_456 : Cond.instanceMethod y_Translator_isListOfNames ∈ tb := mem_t2 (i := 216) rfl rfl
theorem ks_14 : Cond.selects R_Translator y_Translator_isListOfNames y_Translator_isListOfNames ∈ tb := mem_ts (i := 14) (by decide +kernel) rfl
theorem kt_4 : Cond.initialized R_Translator ∈ tb := mem_t1 (i := 4) rfl rfl
theorem kt_457 : Cond.code y_Translator_isListOfNames b_Translator_isListOfNames 5 (some .boolean) ∈ tb := mem_t2 (i := 217) rfl rfl
theorem kt_458 : Cond.methodLink R_Translator 119 y_Datum_partBehind ∈ tb := mem_t2 (i := 218) rfl rfl
theorem kt_459 : Cond.instanceMethod y_Datum_partBehind ∈ tb := mem_t2 (i := 219) rfl rfl
theorem kt_460 : Cond.selects R_Datum y_Datum_partBehind y_Datum_partBehind ∈ tb := mem_t2 (i := 220) rfl rfl
theorem kt_461 : Cond.code y_Datum_partBehind b_Datum_partBehind 5 (some .int) ∈ tb := mem_t2 (i := 221) rfl rfl
theorem kt_462 : Cond.methodLink R_Translator 122 y_Translator_areBindings ∈ tb := mem_t2 (i := 222) rfl rfl
theorem kt_464 : Cond.instanceMethod y_Translator_areBindings ∈ tb := mem_t2 (i := 224) rfl rfl
theorem ks_15 : Cond.selects R_Translator y_Translator_areBindings y_Translator_areBindings ∈ tb := mem_ts (i := 15) (by decide +kernel) rfl
theorem kt_465 : Cond.code y_Translator_areBindings b_Translator_areBindings 6 (some .boolean) ∈ tb := mem_t2 (i := 225) rfl rfl
theorem kt_153 : Cond.fieldLink R_Translator 19 R_Translator "error" "I" ∈ tb := mem_t1 (i := 153) rfl rfl
theorem kt_426 : Cond.methodLink R_Translator 88 y_Translator_placeIn ∈ tb := mem_t2 (i := 186) rfl rfl
theorem kt_428 : Cond.instanceMethod y_Translator_placeIn ∈ tb := mem_t2 (i := 188) rfl rfl
theorem ks_10 : Cond.selects R_Translator y_Translator_placeIn y_Translator_placeIn ∈ tb := mem_ts (i := 10) (by decide +kernel) rfl
theorem kt_429 : Cond.code y_Translator_placeIn b_Translator_placeIn 7 (some .int) ∈ tb := mem_t2 (i := 189) rfl rfl
theorem kt_406 : Cond.methodLink R_Translator 73 y_Translator_constant ∈ tb := mem_t2 (i := 166) rfl rfl
theorem kt_408 : Cond.instanceMethod y_Translator_constant ∈ tb := mem_t2 (i := 168) rfl rfl
theorem ks_8 : Cond.selects R_Translator y_Translator_constant y_Translator_constant ∈ tb := mem_ts (i := 8) (by decide +kernel) rfl
theorem kt_409 : Cond.code y_Translator_constant b_Translator_constant 2 none ∈ tb := mem_t2 (i := 169) rfl rfl
theorem kt_422 : Cond.methodLink R_Translator 79 y_Translator_variable ∈ tb := mem_t2 (i := 182) rfl rfl
theorem kt_424 : Cond.instanceMethod y_Translator_variable ∈ tb := mem_t2 (i := 184) rfl rfl
theorem ks_9 : Cond.selects R_Translator y_Translator_variable y_Translator_variable ∈ tb := mem_ts (i := 9) (by decide +kernel) rfl
theorem kt_425 : Cond.code y_Translator_variable b_Translator_variable 4 none ∈ tb := mem_t2 (i := 185) rfl rfl
theorem kt_442 : Cond.methodLink R_Translator 82 y_Translator_list ∈ tb := mem_t2 (i := 202) rfl rfl
theorem kt_444 : Cond.instanceMethod y_Translator_list ∈ tb := mem_t2 (i := 204) rfl rfl
theorem ks_11 : Cond.selects R_Translator y_Translator_list y_Translator_list ∈ tb := mem_ts (i := 11) (by decide +kernel) rfl
theorem kt_445 : Cond.code y_Translator_list b_Translator_list 4 none ∈ tb := mem_t2 (i := 205) rfl rfl
theorem kt_398 : Cond.methodLink R_Translator 59 y_Translator_expression ∈ tb := mem_t2 (i := 158) rfl rfl
theorem kt_400 : Cond.instanceMethod y_Translator_expression ∈ tb := mem_t2 (i := 160) rfl rfl
theorem ks_7 : Cond.selects R_Translator y_Translator_expression y_Translator_expression ∈ tb := mem_ts (i := 7) (by decide +kernel) rfl
theorem kt_401 : Cond.code y_Translator_expression b_Translator_expression 2 none ∈ tb := mem_t2 (i := 161) rfl rfl
theorem kt_75 : Cond.fieldLink R_Translator 140 R_Program "size" "I" ∈ tb := mem_t1 (i := 75) rfl rfl
theorem kt_478 : Cond.methodLink R_Translator 143 y_Program_addAddresses ∈ tb := mem_t2 (i := 238) rfl rfl
theorem kt_479 : Cond.instanceMethod y_Program_addAddresses ∈ tb := mem_t2 (i := 239) rfl rfl
theorem kt_480 : Cond.selects R_Program y_Program_addAddresses y_Program_addAddresses ∈ tb := mem_t3 (i := 0) rfl rfl
theorem kt_481 : Cond.code y_Program_addAddresses b_Program_addAddresses 4 none ∈ tb := mem_t3 (i := 1) rfl rfl
theorem kt_486 : Cond.methodLink R_Translator 147 y_Translator_enterFrame ∈ tb := mem_t3 (i := 6) rfl rfl
theorem kt_488 : Cond.instanceMethod y_Translator_enterFrame ∈ tb := mem_t3 (i := 8) rfl rfl
theorem ks_20 : Cond.selects R_Translator y_Translator_enterFrame y_Translator_enterFrame ∈ tb := mem_ts (i := 20) (by decide +kernel) rfl
theorem kt_489 : Cond.code y_Translator_enterFrame b_Translator_enterFrame 2 none ∈ tb := mem_t3 (i := 9) rfl rfl
theorem kt_490 : Cond.methodLink R_Translator 150 y_Translator_leaveFrame ∈ tb := mem_t3 (i := 10) rfl rfl
theorem kt_492 : Cond.instanceMethod y_Translator_leaveFrame ∈ tb := mem_t3 (i := 12) rfl rfl
theorem ks_21 : Cond.selects R_Translator y_Translator_leaveFrame y_Translator_leaveFrame ∈ tb := mem_ts (i := 21) (by decide +kernel) rfl
theorem kt_493 : Cond.code y_Translator_leaveFrame b_Translator_leaveFrame 1 none ∈ tb := mem_t3 (i := 13) rfl rfl
theorem kt_494 : Cond.methodLink R_Translator 131 y_Translator_bindingValues ∈ tb := mem_t3 (i := 14) rfl rfl
theorem kt_496 : Cond.instanceMethod y_Translator_bindingValues ∈ tb := mem_t3 (i := 16) rfl rfl
theorem ks_22 : Cond.selects R_Translator y_Translator_bindingValues y_Translator_bindingValues ∈ tb := mem_ts (i := 22) (by decide +kernel) rfl
theorem kt_497 : Cond.code y_Translator_bindingValues b_Translator_bindingValues 4 none ∈ tb := mem_t3 (i := 17) rfl rfl
theorem kt_482 : Cond.methodLink R_Translator 128 y_Translator_function ∈ tb := mem_t3 (i := 2) rfl rfl
theorem kt_484 : Cond.instanceMethod y_Translator_function ∈ tb := mem_t3 (i := 4) rfl rfl
theorem ks_19 : Cond.selects R_Translator y_Translator_function y_Translator_function ∈ tb := mem_ts (i := 19) (by decide +kernel) rfl
theorem kt_485 : Cond.code y_Translator_function b_Translator_function 4 none ∈ tb := mem_t3 (i := 5) rfl rfl
theorem kt_474 : Cond.methodLink R_Translator 125 y_Translator_choice ∈ tb := mem_t2 (i := 234) rfl rfl
theorem kt_476 : Cond.instanceMethod y_Translator_choice ∈ tb := mem_t2 (i := 236) rfl rfl
theorem ks_18 : Cond.selects R_Translator y_Translator_choice y_Translator_choice ∈ tb := mem_ts (i := 18) (by decide +kernel) rfl
theorem kt_477 : Cond.code y_Translator_choice b_Translator_choice 5 none ∈ tb := mem_t2 (i := 237) rfl rfl
theorem kt_498 : Cond.methodLink R_Translator 134 y_Translator_recursion ∈ tb := mem_t3 (i := 18) rfl rfl
theorem kt_500 : Cond.instanceMethod y_Translator_recursion ∈ tb := mem_t3 (i := 20) rfl rfl
theorem ks_23 : Cond.selects R_Translator y_Translator_recursion y_Translator_recursion ∈ tb := mem_ts (i := 23) (by decide +kernel) rfl
theorem kt_501 : Cond.code y_Translator_recursion b_Translator_recursion 3 none ∈ tb := mem_t3 (i := 21) rfl rfl
theorem kt_502 : Cond.methodLink R_Translator 137 y_Translator_operation ∈ tb := mem_t3 (i := 22) rfl rfl
theorem kt_504 : Cond.instanceMethod y_Translator_operation ∈ tb := mem_t3 (i := 24) rfl rfl
theorem ks_24 : Cond.selects R_Translator y_Translator_operation y_Translator_operation ∈ tb := mem_ts (i := 24) (by decide +kernel) rfl
theorem kt_505 : Cond.code y_Translator_operation b_Translator_operation 4 none ∈ tb := mem_t3 (i := 25) rfl rfl
theorem kt_470 : Cond.methodLink R_Translator 111 y_Translator_form ∈ tb := mem_t2 (i := 230) rfl rfl
theorem kt_472 : Cond.instanceMethod y_Translator_form ∈ tb := mem_t2 (i := 232) rfl rfl
theorem ks_17 : Cond.selects R_Translator y_Translator_form y_Translator_form ∈ tb := mem_ts (i := 17) (by decide +kernel) rfl
theorem kt_473 : Cond.code y_Translator_form b_Translator_form 4 none ∈ tb := mem_t2 (i := 233) rfl rfl
theorem kt_466 : Cond.methodLink R_Translator 108 y_Translator_arguments ∈ tb := mem_t2 (i := 226) rfl rfl
theorem kt_468 : Cond.instanceMethod y_Translator_arguments ∈ tb := mem_t2 (i := 228) rfl rfl
theorem ks_16 : Cond.selects R_Translator y_Translator_arguments y_Translator_arguments ∈ tb := mem_ts (i := 16) (by decide +kernel) rfl
theorem kt_469 : Cond.code y_Translator_arguments b_Translator_arguments 3 none ∈ tb := mem_t2 (i := 229) rfl rfl
theorem kt_450 : Cond.methodLink R_Translator 104 y_Translator_hasItsParts ∈ tb := mem_t2 (i := 210) rfl rfl
theorem kt_452 : Cond.instanceMethod y_Translator_hasItsParts ∈ tb := mem_t2 (i := 212) rfl rfl
theorem ks_13 : Cond.selects R_Translator y_Translator_hasItsParts y_Translator_hasItsParts ∈ tb := mem_ts (i := 13) (by decide +kernel) rfl
theorem kt_453 : Cond.code y_Translator_hasItsParts b_Translator_hasItsParts 4 (some .boolean) ∈ tb := mem_t2 (i := 213) rfl rfl
theorem kt_446 : Cond.methodLink R_Translator 101 y_Translator_formOf ∈ tb := mem_t2 (i := 206) rfl rfl
theorem kt_448 : Cond.instanceMethod y_Translator_formOf ∈ tb := mem_t2 (i := 208) rfl rfl
theorem ks_12 : Cond.selects R_Translator y_Translator_formOf y_Translator_formOf ∈ tb := mem_ts (i := 12) (by decide +kernel) rfl
theorem kt_449 : Cond.code y_Translator_formOf b_Translator_formOf 3 (some .int) ∈ tb := mem_t2 (i := 209) rfl rfl
theorem kt_394 : Cond.methodLink R_Translator 54 y_Program_clear ∈ tb := mem_t2 (i := 154) rfl rfl
theorem kt_395 : Cond.instanceMethod y_Program_clear ∈ tb := mem_t2 (i := 155) rfl rfl
theorem kt_396 : Cond.selects R_Program y_Program_clear y_Program_clear ∈ tb := mem_t2 (i := 156) rfl rfl
theorem kt_397 : Cond.code y_Program_clear b_Program_clear 1 none ∈ tb := mem_t2 (i := 157) rfl rfl
theorem kt_189 : Cond.fieldLink R_Memory 15 R_Memory "kinds" "[I" ∈ tb := mem_t1 (i := 189) rfl rfl
theorem kt_190 : Cond.fieldLink R_Memory 19 R_Memory "lefts" "[I" ∈ tb := mem_t1 (i := 190) rfl rfl
theorem kt_196 : Cond.fieldLink R_Memory 31 R_Memory "isReached" "[Z" ∈ tb := mem_t1 (i := 196) rfl rfl
theorem kt_197 : Cond.fieldLink R_Memory 35 R_Memory "reached" "[I" ∈ tb := mem_t1 (i := 197) rfl rfl
theorem kt_198 : Cond.fieldLink R_Memory 38 R_Memory "reachedCount" "I" ∈ tb := mem_t1 (i := 198) rfl rfl
theorem kt_186 : Cond.fieldLink R_Memory 9 R_Memory "size" "I" ∈ tb := mem_t1 (i := 186) rfl rfl
theorem kt_569 : Cond.methodLink R_Memory 64 y_Memory_reach ∈ tb := mem_t3 (i := 89) rfl rfl
theorem kt_570 : Cond.instanceMethod y_Memory_reach ∈ tb := mem_t3 (i := 90) rfl rfl
theorem kt_571 : Cond.selects R_Memory y_Memory_reach y_Memory_reach ∈ tb := mem_t3 (i := 91) rfl rfl
theorem kt_12 : Cond.initialized R_Memory ∈ tb := mem_t1 (i := 12) rfl rfl
theorem kt_572 : Cond.code y_Memory_reach b_Memory_reach 2 none ∈ tb := mem_t3 (i := 92) rfl rfl
theorem kt_193 : Cond.fieldLink R_Memory 28 R_Memory "freeCount" "I" ∈ tb := mem_t1 (i := 193) rfl rfl
theorem kt_192 : Cond.fieldLink R_Memory 25 R_Memory "free" "[I" ∈ tb := mem_t1 (i := 192) rfl rfl
theorem kt_561 : Cond.methodLink R_Memory 43 y_Memory_setName ∈ tb := mem_t3 (i := 81) rfl rfl
theorem kt_563 : Cond.instanceMethod y_Memory_setName ∈ tb := mem_t3 (i := 83) rfl rfl
theorem ks_25 : Cond.selects R_Memory y_Memory_setName y_Memory_setName ∈ tb := mem_ts (i := 25) (by decide +kernel) rfl
theorem kt_564 : Cond.code y_Memory_setName b_Memory_setName 3 none ∈ tb := mem_t3 (i := 84) rfl rfl
theorem kt_565 : Cond.methodLink R_Memory 47 y_Memory_beginReach ∈ tb := mem_t3 (i := 85) rfl rfl
theorem kt_566 : Cond.instanceMethod y_Memory_beginReach ∈ tb := mem_t3 (i := 86) rfl rfl
theorem kt_567 : Cond.selects R_Memory y_Memory_beginReach y_Memory_beginReach ∈ tb := mem_t3 (i := 87) rfl rfl
theorem kt_568 : Cond.code y_Memory_beginReach b_Memory_beginReach 2 none ∈ tb := mem_t3 (i := 88) rfl rfl
theorem kt_573 : Cond.methodLink R_Memory 50 y_Memory_freeUnreached ∈ tb := mem_t3 (i := 93) rfl rfl
theorem kt_574 : Cond.instanceMethod y_Memory_freeUnreached ∈ tb := mem_t3 (i := 94) rfl rfl
theorem kt_575 : Cond.selects R_Memory y_Memory_freeUnreached y_Memory_freeUnreached ∈ tb := mem_t3 (i := 95) rfl rfl
theorem kt_576 : Cond.code y_Memory_freeUnreached b_Memory_freeUnreached 2 none ∈ tb := mem_t3 (i := 96) rfl rfl
theorem kt_191 : Cond.fieldLink R_Memory 22 R_Memory "rights" "[I" ∈ tb := mem_t1 (i := 191) rfl rfl
theorem kt_584 : Cond.methodLink R_Memory 53 y_Memory_take ∈ tb := mem_t3 (i := 104) rfl rfl
theorem kt_586 : Cond.instanceMethod y_Memory_take ∈ tb := mem_t3 (i := 106) rfl rfl
theorem ks_26 : Cond.selects R_Memory y_Memory_take y_Memory_take ∈ tb := mem_ts (i := 26) (by decide +kernel) rfl
theorem kt_587 : Cond.code y_Memory_take b_Memory_take 5 (some .int) ∈ tb := mem_t3 (i := 107) rfl rfl
theorem kt_637 : Cond.methodLink R_Memory 57 y_Memory_isPair ∈ tb := mem_t3 (i := 157) rfl rfl
theorem kt_638 : Cond.instanceMethod y_Memory_isPair ∈ tb := mem_t3 (i := 158) rfl rfl
theorem kt_639 : Cond.selects R_Memory y_Memory_isPair y_Memory_isPair ∈ tb := mem_t3 (i := 159) rfl rfl
theorem kt_640 : Cond.code y_Memory_isPair b_Memory_isPair 2 (some .boolean) ∈ tb := mem_t3 (i := 160) rfl rfl
theorem kt_641 : Cond.methodLink R_Memory 61 y_Memory_hasAddress ∈ tb := mem_t3 (i := 161) rfl rfl
theorem kt_643 : Cond.instanceMethod y_Memory_hasAddress ∈ tb := mem_t3 (i := 163) rfl rfl
theorem ks_29 : Cond.selects R_Memory y_Memory_hasAddress y_Memory_hasAddress ∈ tb := mem_ts (i := 29) (by decide +kernel) rfl
theorem kt_644 : Cond.code y_Memory_hasAddress b_Memory_hasAddress 2 (some .boolean) ∈ tb := mem_t3 (i := 164) rfl rfl
theorem kt_278 : Cond.fieldLink R_Machine 33 R_Machine "state" "I" ∈ tb := mem_t2 (i := 38) rfl rfl
theorem kt_541 : Cond.methodLink R_Machine 82 y_Datum_kindOf ∈ tb := mem_t3 (i := 61) rfl rfl
theorem kt_546 : Cond.methodLink R_Machine 94 y_Datum_firstPartOf ∈ tb := mem_t3 (i := 66) rfl rfl
theorem kt_547 : Cond.methodLink R_Machine 97 y_Datum_countFrom ∈ tb := mem_t3 (i := 67) rfl rfl
theorem kt_538 : Cond.methodLink R_Machine 67 y_Machine_cellsOf ∈ tb := mem_t3 (i := 58) rfl rfl
theorem kt_539 : Cond.static y_Machine_cellsOf ∈ tb := mem_t3 (i := 59) rfl rfl
theorem kt_10 : Cond.initialized R_Machine ∈ tb := mem_t1 (i := 10) rfl rfl
theorem kt_540 : Cond.code y_Machine_cellsOf b_Machine_cellsOf 6 (some .int) ∈ tb := mem_t3 (i := 60) rfl rfl
theorem kt_548 : Cond.methodLink R_Machine 100 y_Datum_followerOf ∈ tb := mem_t3 (i := 68) rfl rfl
theorem kt_542 : Cond.methodLink R_Machine 85 y_Datum_valueOf ∈ tb := mem_t3 (i := 62) rfl rfl
theorem kt_543 : Cond.methodLink R_Machine 88 y_Names_isLasting ∈ tb := mem_t3 (i := 63) rfl rfl
theorem kt_544 : Cond.static y_Names_isLasting ∈ tb := mem_t3 (i := 64) rfl rfl
theorem kt_545 : Cond.code y_Names_isLasting b_Names_isLasting 1 (some .boolean) ∈ tb := mem_t3 (i := 65) rfl rfl
theorem kt_263 : Cond.fieldLink R_Machine 45 R_Machine "program" "LSecdProcessor$Program;" ∈ tb := mem_t2 (i := 23) rfl rfl
theorem kt_78 : Cond.fieldLink R_Machine 71 R_Program "lastConstant" "I" ∈ tb := mem_t1 (i := 78) rfl rfl
theorem kt_71 : Cond.fieldLink R_Machine 74 R_Program "datum" "LSecdProcessor$Datum;" ∈ tb := mem_t1 (i := 71) rfl rfl
theorem kt_549 : Cond.methodLink R_Machine 78 y_Program_constantNode ∈ tb := mem_t3 (i := 69) rfl rfl
theorem kt_550 : Cond.instanceMethod y_Program_constantNode ∈ tb := mem_t3 (i := 70) rfl rfl
theorem kt_551 : Cond.selects R_Program y_Program_constantNode y_Program_constantNode ∈ tb := mem_t3 (i := 71) rfl rfl
theorem kt_552 : Cond.code y_Program_constantNode b_Program_constantNode 2 (some .int) ∈ tb := mem_t3 (i := 72) rfl rfl
theorem kt_592 : Cond.methodLink R_Machine 109 y_Datum_partBehind ∈ tb := mem_t3 (i := 112) rfl rfl
theorem kt_577 : Cond.methodLink R_Machine 113 y_Machine_cellFor ∈ tb := mem_t3 (i := 97) rfl rfl
theorem kt_578 : Cond.static y_Machine_cellFor ∈ tb := mem_t3 (i := 98) rfl rfl
theorem kt_579 : Cond.code y_Machine_cellFor b_Machine_cellFor 6 (some .int) ∈ tb := mem_t3 (i := 99) rfl rfl
theorem kt_593 : Cond.methodLink R_Machine 117 y_Memory_newPair ∈ tb := mem_t3 (i := 113) rfl rfl
theorem kt_594 : Cond.instanceMethod y_Memory_newPair ∈ tb := mem_t3 (i := 114) rfl rfl
theorem kt_595 : Cond.selects R_Memory y_Memory_newPair y_Memory_newPair ∈ tb := mem_t3 (i := 115) rfl rfl
theorem kt_596 : Cond.code y_Memory_newPair b_Memory_newPair 3 (some .int) ∈ tb := mem_t3 (i := 116) rfl rfl
theorem kt_588 : Cond.methodLink R_Machine 106 y_Memory_nameCell ∈ tb := mem_t3 (i := 108) rfl rfl
theorem kt_589 : Cond.instanceMethod y_Memory_nameCell ∈ tb := mem_t3 (i := 109) rfl rfl
theorem kt_590 : Cond.selects R_Memory y_Memory_nameCell y_Memory_nameCell ∈ tb := mem_t3 (i := 110) rfl rfl
theorem kt_591 : Cond.code y_Memory_nameCell b_Memory_nameCell 2 (some .int) ∈ tb := mem_t3 (i := 111) rfl rfl
theorem kt_580 : Cond.methodLink R_Machine 103 y_Memory_newNumber ∈ tb := mem_t3 (i := 100) rfl rfl
theorem kt_581 : Cond.instanceMethod y_Memory_newNumber ∈ tb := mem_t3 (i := 101) rfl rfl
theorem kt_582 : Cond.selects R_Memory y_Memory_newNumber y_Memory_newNumber ∈ tb := mem_t3 (i := 102) rfl rfl
theorem kt_583 : Cond.code y_Memory_newNumber b_Memory_newNumber 2 (some .int) ∈ tb := mem_t3 (i := 103) rfl rfl
theorem kt_264 : Cond.fieldLink R_Machine 52 R_Machine "memory" "LSecdProcessor$Memory;" ∈ tb := mem_t2 (i := 24) rfl rfl
theorem kt_557 : Cond.methodLink R_Machine 120 y_Memory_clear ∈ tb := mem_t3 (i := 77) rfl rfl
theorem kt_558 : Cond.instanceMethod y_Memory_clear ∈ tb := mem_t3 (i := 78) rfl rfl
theorem kt_559 : Cond.selects R_Memory y_Memory_clear y_Memory_clear ∈ tb := mem_t3 (i := 79) rfl rfl
theorem kt_560 : Cond.code y_Memory_clear b_Memory_clear 1 none ∈ tb := mem_t3 (i := 80) rfl rfl
theorem kt_269 : Cond.fieldLink R_Machine 15 R_Machine "lastConstant" "I" ∈ tb := mem_t2 (i := 29) rfl rfl
theorem kt_268 : Cond.fieldLink R_Machine 9 R_Machine "constants" "[I" ∈ tb := mem_t2 (i := 28) rfl rfl
theorem kt_270 : Cond.fieldLink R_Machine 21 R_Machine "s" "I" ∈ tb := mem_t2 (i := 30) rfl rfl
theorem kt_272 : Cond.fieldLink R_Machine 24 R_Machine "e" "I" ∈ tb := mem_t2 (i := 32) rfl rfl
theorem kt_274 : Cond.fieldLink R_Machine 27 R_Machine "d" "I" ∈ tb := mem_t2 (i := 34) rfl rfl
theorem kt_276 : Cond.fieldLink R_Machine 30 R_Machine "next" "I" ∈ tb := mem_t2 (i := 36) rfl rfl
theorem kt_280 : Cond.fieldLink R_Machine 36 R_Machine "spent" "I" ∈ tb := mem_t2 (i := 40) rfl rfl
theorem kt_282 : Cond.fieldLink R_Machine 39 R_Machine "fuel" "I" ∈ tb := mem_t2 (i := 42) rfl rfl
theorem kt_283 : Cond.fieldLink R_Machine 42 R_Machine "collected" "I" ∈ tb := mem_t2 (i := 43) rfl rfl
theorem kt_631 : Cond.methodLink R_Machine 162 y_Memory_beginReach ∈ tb := mem_t3 (i := 151) rfl rfl
theorem kt_632 : Cond.methodLink R_Machine 165 y_Memory_reach ∈ tb := mem_t3 (i := 152) rfl rfl
theorem kt_633 : Cond.methodLink R_Machine 168 y_Memory_spreadReach ∈ tb := mem_t3 (i := 153) rfl rfl
theorem kt_634 : Cond.instanceMethod y_Memory_spreadReach ∈ tb := mem_t3 (i := 154) rfl rfl
theorem kt_635 : Cond.selects R_Memory y_Memory_spreadReach y_Memory_spreadReach ∈ tb := mem_t3 (i := 155) rfl rfl
theorem kt_636 : Cond.code y_Memory_spreadReach b_Memory_spreadReach 3 (some .int) ∈ tb := mem_t3 (i := 156) rfl rfl
theorem kt_194 : Cond.fieldLink R_Machine 149 R_Memory "freeCount" "I" ∈ tb := mem_t1 (i := 194) rfl rfl
theorem kt_627 : Cond.methodLink R_Machine 152 y_Machine_reachLive ∈ tb := mem_t3 (i := 147) rfl rfl
theorem kt_628 : Cond.instanceMethod y_Machine_reachLive ∈ tb := mem_t3 (i := 148) rfl rfl
theorem kt_629 : Cond.selects R_Machine y_Machine_reachLive y_Machine_reachLive ∈ tb := mem_t3 (i := 149) rfl rfl
theorem kt_630 : Cond.code y_Machine_reachLive b_Machine_reachLive 2 (some .int) ∈ tb := mem_t3 (i := 150) rfl rfl
theorem kt_645 : Cond.methodLink R_Machine 156 y_Memory_freeUnreached ∈ tb := mem_t3 (i := 165) rfl rfl
theorem kt_188 : Cond.fieldLink R_Machine 159 R_Memory "size" "I" ∈ tb := mem_t1 (i := 188) rfl rfl
theorem kt_689 : Cond.methodLink R_Machine 238 y_Memory_kindOf ∈ tb := mem_t3 (i := 209) rfl rfl
theorem kt_690 : Cond.instanceMethod y_Memory_kindOf ∈ tb := mem_t3 (i := 210) rfl rfl
theorem kt_691 : Cond.selects R_Memory y_Memory_kindOf y_Memory_kindOf ∈ tb := mem_t3 (i := 211) rfl rfl
theorem kt_692 : Cond.code y_Memory_kindOf b_Memory_kindOf 2 (some .int) ∈ tb := mem_t3 (i := 212) rfl rfl
theorem kt_737 : Cond.methodLink R_Machine 239 y_Memory_valueOf ∈ tb := mem_t4 (i := 17) rfl rfl
theorem kt_738 : Cond.instanceMethod y_Memory_valueOf ∈ tb := mem_t4 (i := 18) rfl rfl
theorem kt_739 : Cond.selects R_Memory y_Memory_valueOf y_Memory_valueOf ∈ tb := mem_t4 (i := 19) rfl rfl
theorem kt_740 : Cond.code y_Memory_valueOf b_Memory_valueOf 2 (some .int) ∈ tb := mem_t4 (i := 20) rfl rfl
theorem kt_745 : Cond.methodLink R_Machine 240 y_Machine_calculate ∈ tb := mem_t4 (i := 25) rfl rfl
theorem kt_746 : Cond.static y_Machine_calculate ∈ tb := mem_t4 (i := 26) rfl rfl
theorem kt_747 : Cond.code y_Machine_calculate b_Machine_calculate 3 (some .int) ∈ tb := mem_t4 (i := 27) rfl rfl
theorem kt_730 : Cond.methodLink R_Machine 220 y_Machine_truth ∈ tb := mem_t4 (i := 10) rfl rfl
theorem kt_731 : Cond.static y_Machine_truth ∈ tb := mem_t4 (i := 11) rfl rfl
theorem kt_732 : Cond.code y_Machine_truth b_Machine_truth 1 (some .int) ∈ tb := mem_t4 (i := 12) rfl rfl
theorem kt_726 : Cond.methodLink R_Machine 217 y_Machine_isAtom ∈ tb := mem_t4 (i := 6) rfl rfl
theorem kt_728 : Cond.instanceMethod y_Machine_isAtom ∈ tb := mem_t4 (i := 8) rfl rfl
theorem ks_37 : Cond.selects R_Machine y_Machine_isAtom y_Machine_isAtom ∈ tb := mem_ts (i := 37) (by decide +kernel) rfl
theorem kt_729 : Cond.code y_Machine_isAtom b_Machine_isAtom 3 (some .boolean) ∈ tb := mem_t4 (i := 9) rfl rfl
theorem kt_725 : Cond.methodLink R_Machine 235 y_Memory_isPair ∈ tb := mem_t4 (i := 5) rfl rfl
theorem kt_665 : Cond.methodLink R_Machine 171 y_Memory_tailOf ∈ tb := mem_t3 (i := 185) rfl rfl
theorem kt_666 : Cond.instanceMethod y_Memory_tailOf ∈ tb := mem_t3 (i := 186) rfl rfl
theorem kt_667 : Cond.selects R_Memory y_Memory_tailOf y_Memory_tailOf ∈ tb := mem_t3 (i := 187) rfl rfl
theorem kt_668 : Cond.code y_Memory_tailOf b_Memory_tailOf 2 (some .int) ∈ tb := mem_t3 (i := 188) rfl rfl
theorem kt_661 : Cond.methodLink R_Machine 127 y_Memory_headOf ∈ tb := mem_t3 (i := 181) rfl rfl
theorem kt_662 : Cond.instanceMethod y_Memory_headOf ∈ tb := mem_t3 (i := 182) rfl rfl
theorem kt_663 : Cond.selects R_Memory y_Memory_headOf y_Memory_headOf ∈ tb := mem_t3 (i := 183) rfl rfl
theorem kt_664 : Cond.code y_Memory_headOf b_Memory_headOf 2 (some .int) ∈ tb := mem_t3 (i := 184) rfl rfl
theorem kt_705 : Cond.methodLink R_Machine 208 y_Memory_addressOf ∈ tb := mem_t3 (i := 225) rfl rfl
theorem kt_706 : Cond.instanceMethod y_Memory_addressOf ∈ tb := mem_t3 (i := 226) rfl rfl
theorem kt_707 : Cond.selects R_Memory y_Memory_addressOf y_Memory_addressOf ∈ tb := mem_t3 (i := 227) rfl rfl
theorem kt_708 : Cond.code y_Memory_addressOf b_Memory_addressOf 2 (some .int) ∈ tb := mem_t3 (i := 228) rfl rfl
theorem kt_693 : Cond.methodLink R_Machine 205 y_Memory_newMark ∈ tb := mem_t3 (i := 213) rfl rfl
theorem kt_694 : Cond.instanceMethod y_Memory_newMark ∈ tb := mem_t3 (i := 214) rfl rfl
theorem kt_695 : Cond.selects R_Memory y_Memory_newMark y_Memory_newMark ∈ tb := mem_t3 (i := 215) rfl rfl
theorem kt_696 : Cond.code y_Memory_newMark b_Memory_newMark 3 (some .int) ∈ tb := mem_t3 (i := 216) rfl rfl
theorem kt_697 : Cond.methodLink R_Machine 211 y_Memory_cellOf ∈ tb := mem_t3 (i := 217) rfl rfl
theorem kt_698 : Cond.instanceMethod y_Memory_cellOf ∈ tb := mem_t3 (i := 218) rfl rfl
theorem kt_699 : Cond.selects R_Memory y_Memory_cellOf y_Memory_cellOf ∈ tb := mem_t3 (i := 219) rfl rfl
theorem kt_700 : Cond.code y_Memory_cellOf b_Memory_cellOf 2 (some .int) ∈ tb := mem_t3 (i := 220) rfl rfl
theorem kt_717 : Cond.methodLink R_Machine 247 y_Memory_setHead ∈ tb := mem_t3 (i := 237) rfl rfl
theorem kt_718 : Cond.instanceMethod y_Memory_setHead ∈ tb := mem_t3 (i := 238) rfl rfl
theorem kt_719 : Cond.selects R_Memory y_Memory_setHead y_Memory_setHead ∈ tb := mem_t3 (i := 239) rfl rfl
theorem kt_720 : Cond.code y_Memory_setHead b_Memory_setHead 3 none ∈ tb := mem_t4 (i := 0) rfl rfl
theorem kt_701 : Cond.methodLink R_Machine 244 y_Machine_enter ∈ tb := mem_t3 (i := 221) rfl rfl
theorem kt_703 : Cond.instanceMethod y_Machine_enter ∈ tb := mem_t3 (i := 223) rfl rfl
theorem ks_33 : Cond.selects R_Machine y_Machine_enter y_Machine_enter ∈ tb := mem_ts (i := 33) (by decide +kernel) rfl
theorem kt_704 : Cond.code y_Machine_enter b_Machine_enter 2 none ∈ tb := mem_t3 (i := 224) rfl rfl
theorem kt_676 : Cond.methodLink R_Machine 232 y_Memory_pairBehind ∈ tb := mem_t3 (i := 196) rfl rfl
theorem kt_677 : Cond.instanceMethod y_Memory_pairBehind ∈ tb := mem_t3 (i := 197) rfl rfl
theorem kt_678 : Cond.selects R_Memory y_Memory_pairBehind y_Memory_pairBehind ∈ tb := mem_t3 (i := 198) rfl rfl
theorem kt_679 : Cond.code y_Memory_pairBehind b_Memory_pairBehind 5 (some .int) ∈ tb := mem_t3 (i := 199) rfl rfl
theorem kt_669 : Cond.methodLink R_Machine 174 y_Op_opOf ∈ tb := mem_t3 (i := 189) rfl rfl
theorem kt_670 : Cond.methodLink R_Machine 177 y_Op_firstOf ∈ tb := mem_t3 (i := 190) rfl rfl
theorem kt_671 : Cond.methodLink R_Machine 180 y_Op_secondOf ∈ tb := mem_t3 (i := 191) rfl rfl
theorem kt_672 : Cond.methodLink R_Machine 183 y_Machine_load ∈ tb := mem_t3 (i := 192) rfl rfl
theorem kt_674 : Cond.instanceMethod y_Machine_load ∈ tb := mem_t3 (i := 194) rfl rfl
theorem ks_31 : Cond.selects R_Machine y_Machine_load y_Machine_load ∈ tb := mem_ts (i := 31) (by decide +kernel) rfl
theorem kt_675 : Cond.code y_Machine_load b_Machine_load 5 none ∈ tb := mem_t3 (i := 195) rfl rfl
theorem kt_680 : Cond.methodLink R_Machine 187 Lib.Math.min.name ∈ tb := mem_t3 (i := 200) rfl rfl
theorem kt_681 : Cond.methodLink R_Machine 192 y_Memory_newClosure ∈ tb := mem_t3 (i := 201) rfl rfl
theorem kt_682 : Cond.instanceMethod y_Memory_newClosure ∈ tb := mem_t3 (i := 202) rfl rfl
theorem kt_683 : Cond.selects R_Memory y_Memory_newClosure y_Memory_newClosure ∈ tb := mem_t3 (i := 203) rfl rfl
theorem kt_684 : Cond.code y_Memory_newClosure b_Memory_newClosure 3 (some .int) ∈ tb := mem_t3 (i := 204) rfl rfl
theorem kt_685 : Cond.methodLink R_Machine 195 y_Machine_apply ∈ tb := mem_t3 (i := 205) rfl rfl
theorem kt_687 : Cond.instanceMethod y_Machine_apply ∈ tb := mem_t3 (i := 207) rfl rfl
theorem ks_32 : Cond.selects R_Machine y_Machine_apply y_Machine_apply ∈ tb := mem_ts (i := 32) (by decide +kernel) rfl
theorem kt_688 : Cond.code y_Machine_apply b_Machine_apply 4 none ∈ tb := mem_t3 (i := 208) rfl rfl
theorem kt_709 : Cond.methodLink R_Machine 199 y_Machine_giveBack ∈ tb := mem_t3 (i := 229) rfl rfl
theorem kt_711 : Cond.instanceMethod y_Machine_giveBack ∈ tb := mem_t3 (i := 231) rfl rfl
theorem ks_34 : Cond.selects R_Machine y_Machine_giveBack y_Machine_giveBack ∈ tb := mem_ts (i := 34) (by decide +kernel) rfl
theorem kt_712 : Cond.code y_Machine_giveBack b_Machine_giveBack 4 none ∈ tb := mem_t3 (i := 232) rfl rfl
theorem kt_713 : Cond.methodLink R_Machine 202 y_Machine_applyRecursively ∈ tb := mem_t3 (i := 233) rfl rfl
theorem kt_715 : Cond.instanceMethod y_Machine_applyRecursively ∈ tb := mem_t3 (i := 235) rfl rfl
theorem ks_35 : Cond.selects R_Machine y_Machine_applyRecursively y_Machine_applyRecursively ∈ tb := mem_ts (i := 35) (by decide +kernel) rfl
theorem kt_716 : Cond.code y_Machine_applyRecursively b_Machine_applyRecursively 5 none ∈ tb := mem_t3 (i := 236) rfl rfl
theorem kt_721 : Cond.methodLink R_Machine 214 y_Machine_takeApart ∈ tb := mem_t4 (i := 1) rfl rfl
theorem kt_723 : Cond.instanceMethod y_Machine_takeApart ∈ tb := mem_t4 (i := 3) rfl rfl
theorem ks_36 : Cond.selects R_Machine y_Machine_takeApart y_Machine_takeApart ∈ tb := mem_ts (i := 36) (by decide +kernel) rfl
theorem kt_724 : Cond.code y_Machine_takeApart b_Machine_takeApart 5 none ∈ tb := mem_t4 (i := 4) rfl rfl
theorem kt_733 : Cond.methodLink R_Machine 224 y_Machine_isSameAtom ∈ tb := mem_t4 (i := 13) rfl rfl
theorem kt_735 : Cond.instanceMethod y_Machine_isSameAtom ∈ tb := mem_t4 (i := 15) rfl rfl
theorem ks_38 : Cond.selects R_Machine y_Machine_isSameAtom y_Machine_isSameAtom ∈ tb := mem_ts (i := 38) (by decide +kernel) rfl
theorem kt_736 : Cond.code y_Machine_isSameAtom b_Machine_isSameAtom 3 (some .boolean) ∈ tb := mem_t4 (i := 16) rfl rfl
theorem kt_741 : Cond.methodLink R_Machine 228 y_Machine_count ∈ tb := mem_t4 (i := 21) rfl rfl
theorem kt_743 : Cond.instanceMethod y_Machine_count ∈ tb := mem_t4 (i := 23) rfl rfl
theorem ks_39 : Cond.selects R_Machine y_Machine_count y_Machine_count ∈ tb := mem_ts (i := 39) (by decide +kernel) rfl
theorem kt_744 : Cond.code y_Machine_count b_Machine_count 7 none ∈ tb := mem_t4 (i := 24) rfl rfl
theorem kt_613 : Cond.methodLink R_Machine 133 y_Program_wordAt ∈ tb := mem_t3 (i := 133) rfl rfl
theorem kt_527 : Cond.instanceMethod y_Program_wordAt ∈ tb := mem_t3 (i := 47) rfl rfl
theorem kt_528 : Cond.selects R_Program y_Program_wordAt y_Program_wordAt ∈ tb := mem_t3 (i := 48) rfl rfl
theorem kt_529 : Cond.code y_Program_wordAt b_Program_wordAt 2 (some .int) ∈ tb := mem_t3 (i := 49) rfl rfl
theorem kt_614 : Cond.methodLink R_Machine 136 y_Op_cellsOf ∈ tb := mem_t3 (i := 134) rfl rfl
theorem kt_615 : Cond.static y_Op_cellsOf ∈ tb := mem_t3 (i := 135) rfl rfl
theorem kt_616 : Cond.code y_Op_cellsOf b_Op_cellsOf 1 (some .int) ∈ tb := mem_t3 (i := 136) rfl rfl
theorem kt_623 : Cond.methodLink R_Machine 140 y_Machine_makeRoom ∈ tb := mem_t3 (i := 143) rfl rfl
theorem kt_625 : Cond.instanceMethod y_Machine_makeRoom ∈ tb := mem_t3 (i := 145) rfl rfl
theorem ks_28 : Cond.selects R_Machine y_Machine_makeRoom y_Machine_makeRoom ∈ tb := mem_ts (i := 28) (by decide +kernel) rfl
theorem kt_626 : Cond.code y_Machine_makeRoom b_Machine_makeRoom 3 (some .boolean) ∈ tb := mem_t3 (i := 146) rfl rfl
theorem kt_646 : Cond.methodLink R_Machine 143 y_Op_cyclesOf ∈ tb := mem_t3 (i := 166) rfl rfl
theorem kt_647 : Cond.static y_Op_cyclesOf ∈ tb := mem_t3 (i := 167) rfl rfl
theorem kt_648 : Cond.code y_Op_cyclesOf b_Op_cyclesOf 2 (some .int) ∈ tb := mem_t3 (i := 168) rfl rfl
theorem kt_657 : Cond.methodLink R_Machine 146 y_Machine_execute ∈ tb := mem_t3 (i := 177) rfl rfl
theorem kt_659 : Cond.instanceMethod y_Machine_execute ∈ tb := mem_t3 (i := 179) rfl rfl
theorem ks_30 : Cond.selects R_Machine y_Machine_execute y_Machine_execute ∈ tb := mem_ts (i := 30) (by decide +kernel) rfl
theorem kt_660 : Cond.code y_Machine_execute b_Machine_execute 7 none ∈ tb := mem_t3 (i := 180) rfl rfl
theorem kt_338 : Cond.methodLink R_Secd 61 y_Secd_isTextCharacter ∈ tb := mem_t2 (i := 98) rfl rfl
theorem kt_339 : Cond.static y_Secd_isTextCharacter ∈ tb := mem_t2 (i := 99) rfl rfl
theorem kt_340 : Cond.code y_Secd_isTextCharacter b_Secd_isTextCharacter 1 (some .boolean) ∈ tb := mem_t2 (i := 100) rfl rfl
theorem kt_313 : Cond.fieldLink R_Secd 13 R_Secd "length" "I" ∈ tb := mem_t2 (i := 73) rfl rfl
theorem kt_312 : Cond.fieldLink R_Secd 9 R_Secd "text" "[C" ∈ tb := mem_t2 (i := 72) rfl rfl
theorem kt_316 : Cond.fieldLink R_Secd 31 R_Secd "draft" "LSecdProcessor$Program;" ∈ tb := mem_t2 (i := 76) rfl rfl
theorem kt_70 : Cond.fieldLink R_Secd 65 R_Program "datum" "LSecdProcessor$Datum;" ∈ tb := mem_t1 (i := 70) rfl rfl
theorem kt_355 : Cond.methodLink R_Secd 68 y_Datum_read ∈ tb := mem_t2 (i := 115) rfl rfl
theorem kt_356 : Cond.instanceMethod y_Datum_read ∈ tb := mem_t2 (i := 116) rfl rfl
theorem kt_357 : Cond.selects R_Datum y_Datum_read y_Datum_read ∈ tb := mem_t2 (i := 117) rfl rfl
theorem kt_358 : Cond.code y_Datum_read b_Datum_read 5 (some .boolean) ∈ tb := mem_t2 (i := 118) rfl rfl
theorem kt_317 : Cond.fieldLink R_Secd 39 R_Secd "translator" "LSecdProcessor$Translator;" ∈ tb := mem_t2 (i := 77) rfl rfl
theorem kt_390 : Cond.methodLink R_Secd 72 y_Translator_translate ∈ tb := mem_t2 (i := 150) rfl rfl
theorem kt_391 : Cond.instanceMethod y_Translator_translate ∈ tb := mem_t2 (i := 151) rfl rfl
theorem kt_392 : Cond.selects R_Translator y_Translator_translate y_Translator_translate ∈ tb := mem_t2 (i := 152) rfl rfl
theorem kt_393 : Cond.code y_Translator_translate b_Translator_translate 1 (some .int) ∈ tb := mem_t2 (i := 153) rfl rfl
theorem kt_315 : Cond.fieldLink R_Secd 27 R_Secd "program" "LSecdProcessor$Program;" ∈ tb := mem_t2 (i := 75) rfl rfl
theorem kt_506 : Cond.methodLink R_Secd 76 y_Program_copyFrom ∈ tb := mem_t3 (i := 26) rfl rfl
theorem kt_507 : Cond.instanceMethod y_Program_copyFrom ∈ tb := mem_t3 (i := 27) rfl rfl
theorem kt_508 : Cond.selects R_Program y_Program_copyFrom y_Program_copyFrom ∈ tb := mem_t3 (i := 28) rfl rfl
theorem kt_509 : Cond.code y_Program_copyFrom b_Program_copyFrom 2 none ∈ tb := mem_t3 (i := 29) rfl rfl
theorem kt_318 : Cond.fieldLink R_Secd 57 R_Secd "machine" "LSecdProcessor$Machine;" ∈ tb := mem_t2 (i := 78) rfl rfl
theorem kt_518 : Cond.methodLink R_Secd 79 y_Machine_dropRun ∈ tb := mem_t3 (i := 38) rfl rfl
theorem kt_519 : Cond.instanceMethod y_Machine_dropRun ∈ tb := mem_t3 (i := 39) rfl rfl
theorem kt_520 : Cond.selects R_Machine y_Machine_dropRun y_Machine_dropRun ∈ tb := mem_t3 (i := 40) rfl rfl
theorem kt_521 : Cond.code y_Machine_dropRun b_Machine_dropRun 1 none ∈ tb := mem_t3 (i := 41) rfl rfl
theorem kt_74 : Cond.fieldLink R_Secd 82 R_Program "size" "I" ∈ tb := mem_t1 (i := 74) rfl rfl
theorem kt_526 : Cond.methodLink R_Secd 85 y_Program_wordAt ∈ tb := mem_t3 (i := 46) rfl rfl
theorem kt_314 : Cond.fieldLink R_Secd 20 R_Secd "argument" "LSecdProcessor$Datum;" ∈ tb := mem_t2 (i := 74) rfl rfl
theorem kt_534 : Cond.methodLink R_Secd 89 y_Machine_cellsFor ∈ tb := mem_t3 (i := 54) rfl rfl
theorem kt_535 : Cond.instanceMethod y_Machine_cellsFor ∈ tb := mem_t3 (i := 55) rfl rfl
theorem kt_536 : Cond.selects R_Machine y_Machine_cellsFor y_Machine_cellsFor ∈ tb := mem_t3 (i := 56) rfl rfl
theorem kt_537 : Cond.code y_Machine_cellsFor b_Machine_cellsFor 4 (some .int) ∈ tb := mem_t3 (i := 57) rfl rfl
theorem kt_265 : Cond.fieldLink R_Secd 93 R_Machine "memory" "LSecdProcessor$Memory;" ∈ tb := mem_t2 (i := 25) rfl rfl
theorem kt_187 : Cond.fieldLink R_Secd 97 R_Memory "size" "I" ∈ tb := mem_t1 (i := 187) rfl rfl
theorem kt_553 : Cond.methodLink R_Secd 100 y_Machine_start ∈ tb := mem_t3 (i := 73) rfl rfl
theorem kt_554 : Cond.instanceMethod y_Machine_start ∈ tb := mem_t3 (i := 74) rfl rfl
theorem kt_555 : Cond.selects R_Machine y_Machine_start y_Machine_start ∈ tb := mem_t3 (i := 75) rfl rfl
theorem kt_556 : Cond.code y_Machine_start b_Machine_start 4 none ∈ tb := mem_t3 (i := 76) rfl rfl
theorem kt_279 : Cond.fieldLink R_Secd 111 R_Machine "state" "I" ∈ tb := mem_t2 (i := 39) rfl rfl
theorem kt_601 : Cond.methodLink R_Secd 104 y_Machine_hasNoRun ∈ tb := mem_t3 (i := 121) rfl rfl
theorem kt_602 : Cond.instanceMethod y_Machine_hasNoRun ∈ tb := mem_t3 (i := 122) rfl rfl
theorem kt_603 : Cond.selects R_Machine y_Machine_hasNoRun y_Machine_hasNoRun ∈ tb := mem_t3 (i := 123) rfl rfl
theorem kt_604 : Cond.code y_Machine_hasNoRun b_Machine_hasNoRun 1 (some .boolean) ∈ tb := mem_t3 (i := 124) rfl rfl
theorem kt_281 : Cond.fieldLink R_Secd 114 R_Machine "spent" "I" ∈ tb := mem_t2 (i := 41) rfl rfl
theorem kt_277 : Cond.fieldLink R_Secd 117 R_Machine "next" "I" ∈ tb := mem_t2 (i := 37) rfl rfl
theorem kt_271 : Cond.fieldLink R_Secd 120 R_Machine "s" "I" ∈ tb := mem_t2 (i := 31) rfl rfl
theorem kt_951 : Cond.methodLink R_Secd 123 y_Memory_pairsFrom ∈ tb := mem_t4 (i := 231) rfl rfl
theorem kt_952 : Cond.instanceMethod y_Memory_pairsFrom ∈ tb := mem_t4 (i := 232) rfl rfl
theorem kt_953 : Cond.selects R_Memory y_Memory_pairsFrom y_Memory_pairsFrom ∈ tb := mem_t4 (i := 233) rfl rfl
theorem kt_954 : Cond.code y_Memory_pairsFrom b_Memory_pairsFrom 4 (some .int) ∈ tb := mem_t4 (i := 234) rfl rfl
theorem kt_273 : Cond.fieldLink R_Secd 126 R_Machine "e" "I" ∈ tb := mem_t2 (i := 33) rfl rfl
theorem kt_275 : Cond.fieldLink R_Secd 129 R_Machine "d" "I" ∈ tb := mem_t2 (i := 35) rfl rfl
theorem kt_955 : Cond.methodLink R_Secd 132 y_Memory_marksFrom ∈ tb := mem_t4 (i := 235) rfl rfl
theorem kt_956 : Cond.instanceMethod y_Memory_marksFrom ∈ tb := mem_t4 (i := 236) rfl rfl
theorem kt_957 : Cond.selects R_Memory y_Memory_marksFrom y_Memory_marksFrom ∈ tb := mem_t4 (i := 237) rfl rfl
theorem kt_958 : Cond.code y_Memory_marksFrom b_Memory_marksFrom 5 (some .int) ∈ tb := mem_t4 (i := 238) rfl rfl
theorem kt_963 : Cond.methodLink R_Secd 135 y_Machine_reachLive ∈ tb := mem_t5 (i := 3) rfl rfl
theorem kt_195 : Cond.fieldLink R_Secd 138 R_Memory "freeCount" "I" ∈ tb := mem_t1 (i := 195) rfl rfl
theorem kt_284 : Cond.fieldLink R_Secd 141 R_Machine "collected" "I" ∈ tb := mem_t2 (i := 44) rfl rfl
theorem kt_1009 : Cond.fieldLink R_Model 113 R_Model "size" "I" ∈ tb := mem_t5 (i := 49) rfl rfl
theorem kt_1008 : Cond.fieldLink R_Model 24 R_Model "text" "[I" ∈ tb := mem_t5 (i := 48) rfl rfl
theorem kt_1154 : Cond.methodLink R_Model 116 y_Model_digit ∈ tb := mem_t5 (i := 194) rfl rfl
theorem kt_1155 : Cond.static y_Model_digit ∈ tb := mem_t5 (i := 195) rfl rfl
theorem kt_16 : Cond.initialized R_Model ∈ tb := mem_t1 (i := 16) rfl rfl
theorem kt_1156 : Cond.code y_Model_digit b_Model_digit 1 (some .boolean) ∈ tb := mem_t5 (i := 196) rfl rfl
theorem kt_1157 : Cond.methodLink R_Model 120 y_Model_letter ∈ tb := mem_t5 (i := 197) rfl rfl
theorem kt_1158 : Cond.static y_Model_letter ∈ tb := mem_t5 (i := 198) rfl rfl
theorem kt_1159 : Cond.code y_Model_letter b_Model_letter 1 (some .boolean) ∈ tb := mem_t5 (i := 199) rfl rfl
theorem kt_1016 : Cond.fieldLink R_Model 126 R_Model "nodes" "I" ∈ tb := mem_t5 (i := 56) rfl rfl
theorem kt_1012 : Cond.fieldLink R_Model 27 R_Model "sort" "[I" ∈ tb := mem_t5 (i := 52) rfl rfl
theorem kt_1013 : Cond.fieldLink R_Model 30 R_Model "val" "[I" ∈ tb := mem_t5 (i := 53) rfl rfl
theorem kt_1014 : Cond.fieldLink R_Model 33 R_Model "child" "[I" ∈ tb := mem_t5 (i := 54) rfl rfl
theorem kt_1015 : Cond.fieldLink R_Model 36 R_Model "next" "[I" ∈ tb := mem_t5 (i := 55) rfl rfl
theorem kt_1018 : Cond.fieldLink R_Model 42 R_Model "latest" "[I" ∈ tb := mem_t5 (i := 58) rfl rfl
theorem kt_1017 : Cond.fieldLink R_Model 39 R_Model "open" "[I" ∈ tb := mem_t5 (i := 57) rfl rfl
theorem kt_1010 : Cond.fieldLink R_Model 123 R_Model "bank" "I" ∈ tb := mem_t5 (i := 50) rfl rfl
theorem kt_1180 : Cond.methodLink R_Model 137 y_Model_worth ∈ tb := mem_t5 (i := 220) rfl rfl
theorem kt_1182 : Cond.instanceMethod y_Model_worth ∈ tb := mem_t5 (i := 222) rfl rfl
theorem ks_46 : Cond.selects R_Model y_Model_worth y_Model_worth ∈ tb := mem_ts (i := 46) (by decide +kernel) rfl
theorem kt_1183 : Cond.code y_Model_worth b_Model_worth 7 (some .int) ∈ tb := mem_t5 (i := 223) rfl rfl
theorem kt_1172 : Cond.methodLink R_Model 129 y_Model_node ∈ tb := mem_t5 (i := 212) rfl rfl
theorem kt_1174 : Cond.instanceMethod y_Model_node ∈ tb := mem_t5 (i := 214) rfl rfl
theorem ks_44 : Cond.selects R_Model y_Model_node y_Model_node ∈ tb := mem_ts (i := 44) (by decide +kernel) rfl
theorem kt_1175 : Cond.code y_Model_node b_Model_node 6 (some .int) ∈ tb := mem_t5 (i := 215) rfl rfl
theorem kt_1176 : Cond.methodLink R_Model 133 y_Model_end ∈ tb := mem_t5 (i := 216) rfl rfl
theorem kt_1178 : Cond.instanceMethod y_Model_end ∈ tb := mem_t5 (i := 218) rfl rfl
theorem ks_45 : Cond.selects R_Model y_Model_end y_Model_end ∈ tb := mem_ts (i := 45) (by decide +kernel) rfl
theorem kt_1179 : Cond.code y_Model_end b_Model_end 4 (some .int) ∈ tb := mem_t5 (i := 219) rfl rfl
theorem kt_1025 : Cond.fieldLink R_Model 63 R_Model "what" "[I" ∈ tb := mem_t5 (i := 65) rfl rfl
theorem kt_1028 : Cond.fieldLink R_Model 141 R_Model "tasks" "I" ∈ tb := mem_t5 (i := 68) rfl rfl
theorem kt_1026 : Cond.fieldLink R_Model 66 R_Model "about" "[I" ∈ tb := mem_t5 (i := 66) rfl rfl
theorem kt_1027 : Cond.fieldLink R_Model 69 R_Model "within" "[I" ∈ tb := mem_t5 (i := 67) rfl rfl
theorem kt_1022 : Cond.fieldLink R_Model 54 R_Model "lines" "[I" ∈ tb := mem_t5 (i := 62) rfl rfl
theorem kt_1019 : Cond.fieldLink R_Model 45 R_Model "op" "[I" ∈ tb := mem_t5 (i := 59) rfl rfl
theorem kt_1020 : Cond.fieldLink R_Model 48 R_Model "x1" "[I" ∈ tb := mem_t5 (i := 60) rfl rfl
theorem kt_1021 : Cond.fieldLink R_Model 51 R_Model "x2" "[I" ∈ tb := mem_t5 (i := 61) rfl rfl
theorem kt_1024 : Cond.fieldLink R_Model 60 R_Model "fixeds" "[I" ∈ tb := mem_t5 (i := 64) rfl rfl
theorem kt_1023 : Cond.fieldLink R_Model 57 R_Model "fixed" "[I" ∈ tb := mem_t5 (i := 63) rfl rfl
theorem kt_1200 : Cond.methodLink R_Model 144 y_Model_emit ∈ tb := mem_t6 (i := 0) rfl rfl
theorem kt_1202 : Cond.instanceMethod y_Model_emit ∈ tb := mem_t6 (i := 2) rfl rfl
theorem ks_51 : Cond.selects R_Model y_Model_emit y_Model_emit ∈ tb := mem_ts (i := 51) (by decide +kernel) rfl
theorem kt_1203 : Cond.code y_Model_emit b_Model_emit 6 (some .int) ∈ tb := mem_t6 (i := 3) rfl rfl
theorem kt_1029 : Cond.fieldLink R_Model 72 R_Model "names" "[I" ∈ tb := mem_t5 (i := 69) rfl rfl
theorem kt_1032 : Cond.fieldLink R_Model 147 R_Model "frames" "I" ∈ tb := mem_t5 (i := 72) rfl rfl
theorem kt_1030 : Cond.fieldLink R_Model 75 R_Model "paired" "[Z" ∈ tb := mem_t5 (i := 70) rfl rfl
theorem kt_1031 : Cond.fieldLink R_Model 79 R_Model "around" "[I" ∈ tb := mem_t5 (i := 71) rfl rfl
theorem kt_1005 : Cond.fieldLink R_Model 12 R_Model "forms" "[I" ∈ tb := mem_t5 (i := 45) rfl rfl
theorem kt_1208 : Cond.methodLink R_Model 154 y_Model_part ∈ tb := mem_t6 (i := 8) rfl rfl
theorem kt_1210 : Cond.instanceMethod y_Model_part ∈ tb := mem_t6 (i := 10) rfl rfl
theorem ks_53 : Cond.selects R_Model y_Model_part y_Model_part ∈ tb := mem_ts (i := 53) (by decide +kernel) rfl
theorem kt_1211 : Cond.code y_Model_part b_Model_part 5 (some .int) ∈ tb := mem_t6 (i := 11) rfl rfl
theorem kt_1220 : Cond.methodLink R_Model 150 y_Model_parts ∈ tb := mem_t6 (i := 20) rfl rfl
theorem kt_1222 : Cond.instanceMethod y_Model_parts ∈ tb := mem_t6 (i := 22) rfl rfl
theorem ks_56 : Cond.selects R_Model y_Model_parts y_Model_parts ∈ tb := mem_ts (i := 56) (by decide +kernel) rfl
theorem kt_1223 : Cond.code y_Model_parts b_Model_parts 4 (some .int) ∈ tb := mem_t6 (i := 23) rfl rfl
theorem kt_1188 : Cond.methodLink R_Model 158 y_Model_later ∈ tb := mem_t5 (i := 228) rfl rfl
theorem kt_1190 : Cond.instanceMethod y_Model_later ∈ tb := mem_t5 (i := 230) rfl rfl
theorem ks_48 : Cond.selects R_Model y_Model_later y_Model_later ∈ tb := mem_ts (i := 48) (by decide +kernel) rfl
theorem kt_1191 : Cond.code y_Model_later b_Model_later 4 none ∈ tb := mem_t5 (i := 231) rfl rfl
theorem kt_1224 : Cond.methodLink R_Model 176 y_Model_arguments ∈ tb := mem_t6 (i := 24) rfl rfl
theorem kt_1226 : Cond.instanceMethod y_Model_arguments ∈ tb := mem_t6 (i := 26) rfl rfl
theorem ks_57 : Cond.selects R_Model y_Model_arguments y_Model_arguments ∈ tb := mem_ts (i := 57) (by decide +kernel) rfl
theorem kt_1227 : Cond.code y_Model_arguments b_Model_arguments 8 none ∈ tb := mem_t6 (i := 27) rfl rfl
theorem kt_1236 : Cond.methodLink R_Model 188 y_Model_plain ∈ tb := mem_t6 (i := 36) rfl rfl
theorem kt_1238 : Cond.instanceMethod y_Model_plain ∈ tb := mem_t6 (i := 38) rfl rfl
theorem ks_60 : Cond.selects R_Model y_Model_plain y_Model_plain ∈ tb := mem_ts (i := 60) (by decide +kernel) rfl
theorem kt_1239 : Cond.code y_Model_plain b_Model_plain 5 none ∈ tb := mem_t6 (i := 39) rfl rfl
theorem kt_1228 : Cond.methodLink R_Model 180 y_Model_frame ∈ tb := mem_t6 (i := 28) rfl rfl
theorem kt_1230 : Cond.instanceMethod y_Model_frame ∈ tb := mem_t6 (i := 30) rfl rfl
theorem ks_58 : Cond.selects R_Model y_Model_frame y_Model_frame ∈ tb := mem_ts (i := 58) (by decide +kernel) rfl
theorem kt_1231 : Cond.code y_Model_frame b_Model_frame 4 (some .int) ∈ tb := mem_t6 (i := 31) rfl rfl
theorem kt_1232 : Cond.methodLink R_Model 184 y_Model_body ∈ tb := mem_t6 (i := 32) rfl rfl
theorem kt_1234 : Cond.instanceMethod y_Model_body ∈ tb := mem_t6 (i := 34) rfl rfl
theorem ks_59 : Cond.selects R_Model y_Model_body y_Model_body ∈ tb := mem_ts (i := 59) (by decide +kernel) rfl
theorem kt_1235 : Cond.code y_Model_body b_Model_body 4 none ∈ tb := mem_t6 (i := 35) rfl rfl
theorem kt_1196 : Cond.methodLink R_Model 162 y_Model_constantOf ∈ tb := mem_t5 (i := 236) rfl rfl
theorem kt_1198 : Cond.instanceMethod y_Model_constantOf ∈ tb := mem_t5 (i := 238) rfl rfl
theorem ks_50 : Cond.selects R_Model y_Model_constantOf y_Model_constantOf ∈ tb := mem_ts (i := 50) (by decide +kernel) rfl
theorem kt_1199 : Cond.code y_Model_constantOf b_Model_constantOf 3 none ∈ tb := mem_t5 (i := 239) rfl rfl
theorem kt_1212 : Cond.methodLink R_Model 170 y_Model_form ∈ tb := mem_t6 (i := 12) rfl rfl
theorem kt_1214 : Cond.instanceMethod y_Model_form ∈ tb := mem_t6 (i := 14) rfl rfl
theorem ks_54 : Cond.selects R_Model y_Model_form y_Model_form ∈ tb := mem_ts (i := 54) (by decide +kernel) rfl
theorem kt_1215 : Cond.code y_Model_form b_Model_form 4 (some .int) ∈ tb := mem_t6 (i := 15) rfl rfl
theorem kt_1216 : Cond.methodLink R_Model 173 y_Model_shaped ∈ tb := mem_t6 (i := 16) rfl rfl
theorem kt_1218 : Cond.instanceMethod y_Model_shaped ∈ tb := mem_t6 (i := 18) rfl rfl
theorem ks_55 : Cond.selects R_Model y_Model_shaped y_Model_shaped ∈ tb := mem_ts (i := 55) (by decide +kernel) rfl
theorem kt_1219 : Cond.code y_Model_shaped b_Model_shaped 7 (some .boolean) ∈ tb := mem_t6 (i := 19) rfl rfl
theorem kt_1204 : Cond.methodLink R_Model 166 y_Model_load ∈ tb := mem_t6 (i := 4) rfl rfl
theorem kt_1206 : Cond.instanceMethod y_Model_load ∈ tb := mem_t6 (i := 6) rfl rfl
theorem ks_52 : Cond.selects R_Model y_Model_load y_Model_load ∈ tb := mem_ts (i := 52) (by decide +kernel) rfl
theorem kt_1207 : Cond.code y_Model_load b_Model_load 8 (some .boolean) ∈ tb := mem_t6 (i := 7) rfl rfl
theorem kt_1240 : Cond.methodLink R_Model 194 y_Model_choice ∈ tb := mem_t6 (i := 40) rfl rfl
theorem kt_1242 : Cond.instanceMethod y_Model_choice ∈ tb := mem_t6 (i := 42) rfl rfl
theorem ks_61 : Cond.selects R_Model y_Model_choice y_Model_choice ∈ tb := mem_ts (i := 61) (by decide +kernel) rfl
theorem kt_1243 : Cond.code y_Model_choice b_Model_choice 4 none ∈ tb := mem_t6 (i := 43) rfl rfl
theorem kt_1192 : Cond.methodLink R_Model 191 y_Model_expression ∈ tb := mem_t5 (i := 232) rfl rfl
theorem kt_1194 : Cond.instanceMethod y_Model_expression ∈ tb := mem_t5 (i := 234) rfl rfl
theorem ks_49 : Cond.selects R_Model y_Model_expression y_Model_expression ∈ tb := mem_ts (i := 49) (by decide +kernel) rfl
theorem kt_1195 : Cond.code y_Model_expression b_Model_expression 5 (some .int) ∈ tb := mem_t5 (i := 235) rfl rfl
theorem kt_1168 : Cond.methodLink R_Model 197 y_Model_read ∈ tb := mem_t5 (i := 208) rfl rfl
theorem kt_1170 : Cond.instanceMethod y_Model_read ∈ tb := mem_t5 (i := 210) rfl rfl
theorem ks_43 : Cond.selects R_Model y_Model_read y_Model_read ∈ tb := mem_ts (i := 43) (by decide +kernel) rfl
theorem kt_1171 : Cond.code y_Model_read b_Model_read 8 (some .boolean) ∈ tb := mem_t5 (i := 211) rfl rfl
theorem kt_1184 : Cond.methodLink R_Model 201 y_Model_translate ∈ tb := mem_t5 (i := 224) rfl rfl
theorem kt_1186 : Cond.instanceMethod y_Model_translate ∈ tb := mem_t5 (i := 226) rfl rfl
theorem ks_47 : Cond.selects R_Model y_Model_translate y_Model_translate ∈ tb := mem_ts (i := 47) (by decide +kernel) rfl
theorem kt_1187 : Cond.code y_Model_translate b_Model_translate 7 (some .int) ∈ tb := mem_t5 (i := 227) rfl rfl
theorem kt_1011 : Cond.fieldLink R_Model 205 R_Model "program" "Z" ∈ tb := mem_t5 (i := 51) rfl rfl
theorem kt_1042 : Cond.fieldLink R_Model 209 R_Model "status" "I" ∈ tb := mem_t5 (i := 82) rfl rfl
theorem kt_1037 : Cond.fieldLink R_Model 91 R_Model "taken" "[Z" ∈ tb := mem_t5 (i := 77) rfl rfl
theorem kt_1041 : Cond.fieldLink R_Model 212 R_Model "used" "I" ∈ tb := mem_t5 (i := 81) rfl rfl
theorem kt_1034 : Cond.fieldLink R_Model 82 R_Model "kind" "[I" ∈ tb := mem_t5 (i := 74) rfl rfl
theorem kt_1035 : Cond.fieldLink R_Model 85 R_Model "left" "[I" ∈ tb := mem_t5 (i := 75) rfl rfl
theorem kt_1036 : Cond.fieldLink R_Model 88 R_Model "right" "[I" ∈ tb := mem_t5 (i := 76) rfl rfl
theorem kt_1033 : Cond.fieldLink R_Model 109 R_Model "cells" "I" ∈ tb := mem_t5 (i := 73) rfl rfl
theorem kt_1256 : Cond.methodLink R_Model 215 y_Model_under ∈ tb := mem_t6 (i := 56) rfl rfl
theorem kt_1258 : Cond.instanceMethod y_Model_under ∈ tb := mem_t6 (i := 58) rfl rfl
theorem ks_63 : Cond.selects R_Model y_Model_under y_Model_under ∈ tb := mem_ts (i := 63) (by decide +kernel) rfl
theorem kt_1259 : Cond.code y_Model_under b_Model_under 4 (some .int) ∈ tb := mem_t6 (i := 59) rfl rfl
theorem kt_1040 : Cond.fieldLink R_Model 100 R_Model "made" "[I" ∈ tb := mem_t5 (i := 80) rfl rfl
theorem kt_1260 : Cond.methodLink R_Model 218 y_Model_make ∈ tb := mem_t6 (i := 60) rfl rfl
theorem kt_1262 : Cond.instanceMethod y_Model_make ∈ tb := mem_t6 (i := 62) rfl rfl
theorem ks_64 : Cond.selects R_Model y_Model_make y_Model_make ∈ tb := mem_ts (i := 64) (by decide +kernel) rfl
theorem kt_1263 : Cond.code y_Model_make b_Model_make 5 (some .int) ∈ tb := mem_t6 (i := 63) rfl rfl
theorem kt_1252 : Cond.methodLink R_Model 221 y_Model_bulk ∈ tb := mem_t6 (i := 52) rfl rfl
theorem kt_1254 : Cond.instanceMethod y_Model_bulk ∈ tb := mem_t6 (i := 54) rfl rfl
theorem ks_62 : Cond.selects R_Model y_Model_bulk y_Model_bulk ∈ tb := mem_ts (i := 62) (by decide +kernel) rfl
theorem kt_1255 : Cond.code y_Model_bulk b_Model_bulk 6 (some .int) ∈ tb := mem_t6 (i := 55) rfl rfl
theorem kt_1039 : Cond.fieldLink R_Model 97 R_Model "constant" "[I" ∈ tb := mem_t5 (i := 79) rfl rfl
theorem kt_1264 : Cond.methodLink R_Model 224 y_Model_build ∈ tb := mem_t6 (i := 64) rfl rfl
theorem kt_1266 : Cond.instanceMethod y_Model_build ∈ tb := mem_t6 (i := 66) rfl rfl
theorem ks_65 : Cond.selects R_Model y_Model_build y_Model_build ∈ tb := mem_ts (i := 65) (by decide +kernel) rfl
theorem kt_1267 : Cond.code y_Model_build b_Model_build 5 (some .int) ∈ tb := mem_t6 (i := 67) rfl rfl
theorem kt_1046 : Cond.fieldLink R_Model 227 R_Model "s" "I" ∈ tb := mem_t5 (i := 86) rfl rfl
theorem kt_1047 : Cond.fieldLink R_Model 230 R_Model "e" "I" ∈ tb := mem_t5 (i := 87) rfl rfl
theorem kt_1048 : Cond.fieldLink R_Model 233 R_Model "d" "I" ∈ tb := mem_t5 (i := 88) rfl rfl
theorem kt_1045 : Cond.fieldLink R_Model 236 R_Model "pc" "I" ∈ tb := mem_t5 (i := 85) rfl rfl
theorem kt_1044 : Cond.fieldLink R_Model 239 R_Model "spent" "I" ∈ tb := mem_t5 (i := 84) rfl rfl
theorem kt_1049 : Cond.fieldLink R_Model 242 R_Model "rounds" "I" ∈ tb := mem_t5 (i := 89) rfl rfl
theorem kt_1043 : Cond.fieldLink R_Model 245 R_Model "fuel" "I" ∈ tb := mem_t5 (i := 83) rfl rfl
theorem kt_1038 : Cond.fieldLink R_Model 94 R_Model "reached" "[Z" ∈ tb := mem_t5 (i := 78) rfl rfl
theorem kt_1276 : Cond.methodLink R_Model 248 y_Model_reach ∈ tb := mem_t6 (i := 76) rfl rfl
theorem kt_1278 : Cond.instanceMethod y_Model_reach ∈ tb := mem_t6 (i := 78) rfl rfl
theorem ks_67 : Cond.selects R_Model y_Model_reach y_Model_reach ∈ tb := mem_ts (i := 67) (by decide +kernel) rfl
theorem kt_1279 : Cond.code y_Model_reach b_Model_reach 5 (some .int) ∈ tb := mem_t6 (i := 79) rfl rfl
theorem kt_1292 : Cond.methodLink R_Model 260 y_Model_push ∈ tb := mem_t6 (i := 92) rfl rfl
theorem kt_1294 : Cond.instanceMethod y_Model_push ∈ tb := mem_t6 (i := 94) rfl rfl
theorem ks_71 : Cond.selects R_Model y_Model_push y_Model_push ∈ tb := mem_ts (i := 71) (by decide +kernel) rfl
theorem kt_1295 : Cond.code y_Model_push b_Model_push 3 none ∈ tb := mem_t6 (i := 95) rfl rfl
theorem kt_1288 : Cond.methodLink R_Model 263 y_Model_pair ∈ tb := mem_t6 (i := 88) rfl rfl
theorem kt_1290 : Cond.instanceMethod y_Model_pair ∈ tb := mem_t6 (i := 90) rfl rfl
theorem ks_70 : Cond.selects R_Model y_Model_pair y_Model_pair ∈ tb := mem_ts (i := 70) (by decide +kernel) rfl
theorem kt_1291 : Cond.code y_Model_pair b_Model_pair 2 (some .boolean) ∈ tb := mem_t6 (i := 91) rfl rfl
theorem kt_1300 : Cond.methodLink R_Model 270 y_Model_leap ∈ tb := mem_t6 (i := 100) rfl rfl
theorem kt_1302 : Cond.instanceMethod y_Model_leap ∈ tb := mem_t6 (i := 102) rfl rfl
theorem ks_73 : Cond.selects R_Model y_Model_leap y_Model_leap ∈ tb := mem_ts (i := 73) (by decide +kernel) rfl
theorem kt_1303 : Cond.code y_Model_leap b_Model_leap 9 (some .int) ∈ tb := mem_t6 (i := 103) rfl rfl
theorem kt_1296 : Cond.methodLink R_Model 266 y_Model_reckon ∈ tb := mem_t6 (i := 96) rfl rfl
theorem kt_1298 : Cond.instanceMethod y_Model_reckon ∈ tb := mem_t6 (i := 98) rfl rfl
theorem ks_72 : Cond.selects R_Model y_Model_reckon y_Model_reckon ∈ tb := mem_ts (i := 72) (by decide +kernel) rfl
theorem kt_1299 : Cond.code y_Model_reckon b_Model_reckon 9 (some .int) ∈ tb := mem_t6 (i := 99) rfl rfl
theorem kt_1284 : Cond.methodLink R_Model 257 y_Model_fetch ∈ tb := mem_t6 (i := 84) rfl rfl
theorem kt_1286 : Cond.instanceMethod y_Model_fetch ∈ tb := mem_t6 (i := 86) rfl rfl
theorem ks_69 : Cond.selects R_Model y_Model_fetch y_Model_fetch ∈ tb := mem_ts (i := 69) (by decide +kernel) rfl
theorem kt_1287 : Cond.code y_Model_fetch b_Model_fetch 6 (some .int) ∈ tb := mem_t6 (i := 87) rfl rfl
theorem kt_1280 : Cond.methodLink R_Model 254 y_Model_step ∈ tb := mem_t6 (i := 80) rfl rfl
theorem kt_1282 : Cond.instanceMethod y_Model_step ∈ tb := mem_t6 (i := 82) rfl rfl
theorem ks_68 : Cond.selects R_Model y_Model_step y_Model_step ∈ tb := mem_ts (i := 68) (by decide +kernel) rfl
theorem kt_1283 : Cond.code y_Model_step b_Model_step 7 (some .int) ∈ tb := mem_t6 (i := 83) rfl rfl
theorem kt_1006 : Cond.fieldLink R_Model 18 R_Model "costs" "[I" ∈ tb := mem_t5 (i := 46) rfl rfl
theorem kt_1007 : Cond.fieldLink R_Model 21 R_Model "takes" "[I" ∈ tb := mem_t5 (i := 47) rfl rfl
theorem kt_1272 : Cond.methodLink R_Model 251 y_Model_collect ∈ tb := mem_t6 (i := 72) rfl rfl
theorem kt_1274 : Cond.instanceMethod y_Model_collect ∈ tb := mem_t6 (i := 74) rfl rfl
theorem ks_66 : Cond.selects R_Model y_Model_collect y_Model_collect ∈ tb := mem_ts (i := 66) (by decide +kernel) rfl
theorem kt_1275 : Cond.code y_Model_collect b_Model_collect 3 none ∈ tb := mem_t6 (i := 75) rfl rfl
theorem kt_1051 : Cond.fieldLink R_Model 273 R_Model "outs" "I" ∈ tb := mem_t5 (i := 91) rfl rfl
theorem kt_1050 : Cond.fieldLink R_Model 103 R_Model "out" "[I" ∈ tb := mem_t5 (i := 90) rfl rfl
theorem kt_1344 : Cond.methodLink R_Model 276 y_Model_show ∈ tb := mem_t6 (i := 144) rfl rfl
theorem kt_1346 : Cond.instanceMethod y_Model_show ∈ tb := mem_t6 (i := 146) rfl rfl
theorem ks_76 : Cond.selects R_Model y_Model_show y_Model_show ∈ tb := mem_ts (i := 76) (by decide +kernel) rfl
theorem kt_1347 : Cond.code y_Model_show b_Model_show 2 none ∈ tb := mem_t6 (i := 147) rfl rfl
theorem kt_1348 : Cond.methodLink R_Model 279 y_Model_digits ∈ tb := mem_t6 (i := 148) rfl rfl
theorem kt_1350 : Cond.instanceMethod y_Model_digits ∈ tb := mem_t6 (i := 150) rfl rfl
theorem ks_77 : Cond.selects R_Model y_Model_digits y_Model_digits ∈ tb := mem_ts (i := 77) (by decide +kernel) rfl
theorem kt_1351 : Cond.code y_Model_digits b_Model_digits 8 none ∈ tb := mem_t6 (i := 151) rfl rfl
theorem kt_1340 : Cond.methodLink R_Model 283 y_Model_simple ∈ tb := mem_t6 (i := 140) rfl rfl
theorem kt_1342 : Cond.instanceMethod y_Model_simple ∈ tb := mem_t6 (i := 142) rfl rfl
theorem ks_75 : Cond.selects R_Model y_Model_simple y_Model_simple ∈ tb := mem_ts (i := 75) (by decide +kernel) rfl
theorem kt_1343 : Cond.code y_Model_simple b_Model_simple 4 none ∈ tb := mem_t6 (i := 143) rfl rfl
theorem kt_1352 : Cond.methodLink R_Model 286 y_Model_close ∈ tb := mem_t6 (i := 152) rfl rfl
theorem kt_1354 : Cond.instanceMethod y_Model_close ∈ tb := mem_t6 (i := 154) rfl rfl
theorem ks_78 : Cond.selects R_Model y_Model_close y_Model_close ∈ tb := mem_ts (i := 78) (by decide +kernel) rfl
theorem kt_1355 : Cond.code y_Model_close b_Model_close 2 none ∈ tb := mem_t6 (i := 155) rfl rfl
theorem kt_1052 : Cond.fieldLink R_Model 106 R_Model "tails" "[I" ∈ tb := mem_t5 (i := 92) rfl rfl
theorem kt_1336 : Cond.methodLink R_Model 289 y_Model_print ∈ tb := mem_t6 (i := 136) rfl rfl
theorem kt_1338 : Cond.instanceMethod y_Model_print ∈ tb := mem_t6 (i := 138) rfl rfl
theorem ks_74 : Cond.selects R_Model y_Model_print y_Model_print ∈ tb := mem_ts (i := 74) (by decide +kernel) rfl
theorem kt_1339 : Cond.code y_Model_print b_Model_print 5 none ∈ tb := mem_t6 (i := 139) rfl rfl
theorem kt_35 : Cond.methodLink R_Datum 3 objectInit ∈ tb := mem_t1 (i := 35) rfl rfl
theorem kt_28 : Cond.instanceMethod objectInit ∈ tb := mem_t1 (i := 28) rfl rfl
theorem kt_29 : Cond.code objectInit ⟨#[0xb1]⟩ 1 none ∈ tb := mem_t1 (i := 29) rfl rfl
theorem kt_59 : Cond.arrayClass .int ∈ tb := mem_t1 (i := 59) rfl rfl
theorem kt_65 : Cond.methodLink R_Program 3 objectInit ∈ tb := mem_t1 (i := 65) rfl rfl
theorem kt_66 : Cond.classLink R_Program 9 R_Datum ∈ tb := mem_t1 (i := 66) rfl rfl
theorem kt_31 : Cond.instantiable R_Datum 7 ∈ tb := mem_t1 (i := 31) rfl rfl
theorem kt_34 : Cond.code y_Datum_new b_Datum_new 1 none ∈ tb := mem_t1 (i := 34) rfl rfl
theorem kt_33 : Cond.instanceMethod y_Datum_new ∈ tb := mem_t1 (i := 33) rfl rfl
theorem kt_185 : Cond.methodLink R_Memory 3 objectInit ∈ tb := mem_t1 (i := 185) rfl rfl
theorem kt_218 : Cond.arrayClass .boolean ∈ tb := mem_t1 (i := 218) rfl rfl
theorem kt_999 : Cond.methodLink R_Model 1 objectInit ∈ tb := mem_t5 (i := 39) rfl rfl
theorem kt_1000 : Cond.constant R_Model 7 9459320 ∈ tb := mem_t5 (i := 40) rfl rfl
theorem kt_1001 : Cond.constant R_Model 8 34681 ∈ tb := mem_t5 (i := 41) rfl rfl
theorem kt_1002 : Cond.constant R_Model 9 70381 ∈ tb := mem_t5 (i := 42) rfl rfl
theorem kt_1003 : Cond.constant R_Model 10 172975771 ∈ tb := mem_t5 (i := 43) rfl rfl
theorem kt_1004 : Cond.constant R_Model 11 175251009 ∈ tb := mem_t5 (i := 44) rfl rfl
theorem kt_121 : Cond.fieldLink R_String 1053 R_Precond "SIOOBE_FORMATTER" "Ljava/util/function/BiFunction;" ∈ tb := mem_t1 (i := 121) rfl rfl
theorem kt_123 : Cond.methodLink R_String 1059 y_Precond_checkIndex_null ∈ tb := mem_t1 (i := 123) rfl rfl
theorem kt_124 : Cond.static y_Precond_checkIndex_null ∈ tb := mem_t1 (i := 124) rfl rfl
theorem kt_7 : Cond.initialized R_Precond ∈ tb := mem_t1 (i := 7) rfl rfl
theorem kt_125 : Cond.code y_Precond_checkIndex_null b_Precond_checkIndex_null 3 (some .int) ∈ tb := mem_t1 (i := 125) rfl rfl
theorem kt_105 : Cond.fieldLink R_String 38 R_String "COMPACT_STRINGS" "Z" ∈ tb := mem_t1 (i := 105) rfl rfl
theorem kt_1373 : Cond.fieldLink R_String 15 R_String "coder" "B" ∈ tb := mem_t6 (i := 173) rfl rfl
theorem kt_1372 : Cond.fieldLink R_String 9 R_String "value" "[B" ∈ tb := mem_t6 (i := 172) rfl rfl
theorem kt_101 : Cond.methodLink R_String 335 y_String_coder ∈ tb := mem_t1 (i := 101) rfl rfl
theorem kt_102 : Cond.instanceMethod y_String_coder ∈ tb := mem_t1 (i := 102) rfl rfl
theorem kt_103 : Cond.selects R_String y_String_coder y_String_coder ∈ tb := mem_t1 (i := 103) rfl rfl
theorem kt_5 : Cond.initialized R_String ∈ tb := mem_t1 (i := 5) rfl rfl
theorem kt_104 : Cond.code y_String_coder b_String_coder 1 (some .byte) ∈ tb := mem_t1 (i := 104) rfl rfl
theorem kt_118 : Cond.methodLink R_Latin1 9 y_String_checkIndex ∈ tb := mem_t1 (i := 118) rfl rfl
theorem kt_119 : Cond.static y_String_checkIndex ∈ tb := mem_t1 (i := 119) rfl rfl
theorem kt_120 : Cond.code y_String_checkIndex b_String_checkIndex 2 none ∈ tb := mem_t1 (i := 120) rfl rfl
theorem kt_111 : Cond.methodLink R_String 492 y_String_isLatin1 ∈ tb := mem_t1 (i := 111) rfl rfl
theorem kt_112 : Cond.instanceMethod y_String_isLatin1 ∈ tb := mem_t1 (i := 112) rfl rfl
theorem kt_113 : Cond.selects R_String y_String_isLatin1 y_String_isLatin1 ∈ tb := mem_t1 (i := 113) rfl rfl
theorem kt_114 : Cond.code y_String_isLatin1 b_String_isLatin1 1 (some .boolean) ∈ tb := mem_t1 (i := 114) rfl rfl
theorem kt_115 : Cond.methodLink R_String 495 y_Latin1_charAt ∈ tb := mem_t1 (i := 115) rfl rfl
theorem kt_116 : Cond.static y_Latin1_charAt ∈ tb := mem_t1 (i := 116) rfl rfl
theorem kt_6 : Cond.initialized R_Latin1 ∈ tb := mem_t1 (i := 6) rfl rfl
theorem kt_117 : Cond.code y_Latin1_charAt b_Latin1_charAt 2 (some .char) ∈ tb := mem_t1 (i := 117) rfl rfl
theorem kt_95 : Cond.methodLink R_Translator 3 objectInit ∈ tb := mem_t1 (i := 95) rfl rfl
theorem kt_69 : Cond.fieldLink R_Translator 26 R_Program "datum" "LSecdProcessor$Datum;" ∈ tb := mem_t1 (i := 69) rfl rfl
theorem kt_97 : Cond.methodLink R_Translator 38 y_String_length ∈ tb := mem_t1 (i := 97) rfl rfl
theorem kt_98 : Cond.instanceMethod y_String_length ∈ tb := mem_t1 (i := 98) rfl rfl
theorem kt_99 : Cond.selects R_String y_String_length y_String_length ∈ tb := mem_t1 (i := 99) rfl rfl
theorem kt_100 : Cond.code y_String_length b_String_length 1 (some .int) ∈ tb := mem_t1 (i := 100) rfl rfl
theorem kt_107 : Cond.methodLink R_Translator 44 y_String_charAt ∈ tb := mem_t1 (i := 107) rfl rfl
theorem kt_108 : Cond.instanceMethod y_String_charAt ∈ tb := mem_t1 (i := 108) rfl rfl
theorem kt_109 : Cond.selects R_String y_String_charAt y_String_charAt ∈ tb := mem_t1 (i := 109) rfl rfl
theorem kt_110 : Cond.code y_String_charAt b_String_charAt 2 (some .char) ∈ tb := mem_t1 (i := 110) rfl rfl
theorem kt_145 : Cond.methodLink R_Translator 48 y_Names_withLetter ∈ tb := mem_t1 (i := 145) rfl rfl
theorem kt_233 : Cond.methodLink R_ASB 3 objectInit ∈ tb := mem_t1 (i := 233) rfl rfl
theorem kt_234 : Cond.fieldLink R_ASB 18 R_String "COMPACT_STRINGS" "Z" ∈ tb := mem_t1 (i := 234) rfl rfl
theorem kt_167 : Cond.arrayClass .byte ∈ tb := mem_t1 (i := 167) rfl rfl
theorem kt_242 : Cond.fieldLink R_ASB 15 R_ASB "value" "[B" ∈ tb := mem_t2 (i := 2) rfl rfl
theorem kt_243 : Cond.fieldLink R_ASB 22 R_ASB "coder" "B" ∈ tb := mem_t2 (i := 3) rfl rfl
theorem kt_232 : Cond.code y_ASB_new b_ASB_new 2 none ∈ tb := mem_t1 (i := 232) rfl rfl
theorem kt_14 : Cond.initialized R_ASB ∈ tb := mem_t1 (i := 14) rfl rfl
theorem kt_230 : Cond.methodLink R_SB 1 y_ASB_new ∈ tb := mem_t1 (i := 230) rfl rfl
theorem kt_231 : Cond.instanceMethod y_ASB_new ∈ tb := mem_t1 (i := 231) rfl rfl
theorem kt_224 : Cond.methodLink R_Printer 1 objectInit ∈ tb := mem_t1 (i := 224) rfl rfl
theorem kt_225 : Cond.classLink R_Printer 7 R_SB ∈ tb := mem_t1 (i := 225) rfl rfl
theorem kt_226 : Cond.instantiable R_SB 4 ∈ tb := mem_t1 (i := 226) rfl rfl
theorem kt_15 : Cond.initialized R_SB ∈ tb := mem_t1 (i := 15) rfl rfl
theorem kt_229 : Cond.code y_SB_new b_SB_new 1 none ∈ tb := mem_t1 (i := 229) rfl rfl
theorem kt_227 : Cond.methodLink R_Printer 9 y_SB_new ∈ tb := mem_t1 (i := 227) rfl rfl
theorem kt_228 : Cond.instanceMethod y_SB_new ∈ tb := mem_t1 (i := 228) rfl rfl
theorem kt_256 : Cond.fieldLink R_Printer 10 R_Printer "out" "Ljava/lang/StringBuilder;" ∈ tb := mem_t2 (i := 16) rfl rfl
theorem kt_255 : Cond.fieldLink R_Printer 16 R_Printer "memory" "LSecdProcessor$Memory;" ∈ tb := mem_t2 (i := 15) rfl rfl
theorem kt_179 : Cond.methodLink R_Machine 3 objectInit ∈ tb := mem_t1 (i := 179) rfl rfl
theorem kt_180 : Cond.classLink R_Machine 19 R_Memory ∈ tb := mem_t1 (i := 180) rfl rfl
theorem kt_181 : Cond.instantiable R_Memory 9 ∈ tb := mem_t1 (i := 181) rfl rfl
theorem kt_184 : Cond.code y_Memory_new b_Memory_new 2 none ∈ tb := mem_t1 (i := 184) rfl rfl
theorem kt_182 : Cond.methodLink R_Machine 49 y_Memory_new ∈ tb := mem_t1 (i := 182) rfl rfl
theorem kt_183 : Cond.instanceMethod y_Memory_new ∈ tb := mem_t1 (i := 183) rfl rfl
theorem kt_219 : Cond.classLink R_Machine 56 R_Printer ∈ tb := mem_t1 (i := 219) rfl rfl
theorem kt_220 : Cond.instantiable R_Printer 2 ∈ tb := mem_t1 (i := 220) rfl rfl
theorem kt_13 : Cond.initialized R_Printer ∈ tb := mem_t1 (i := 13) rfl rfl
theorem kt_223 : Cond.code y_Printer_new b_Printer_new 2 none ∈ tb := mem_t1 (i := 223) rfl rfl
theorem kt_221 : Cond.methodLink R_Machine 58 y_Printer_new ∈ tb := mem_t1 (i := 221) rfl rfl
theorem kt_222 : Cond.instanceMethod y_Printer_new ∈ tb := mem_t1 (i := 222) rfl rfl
theorem kt_266 : Cond.fieldLink R_Machine 61 R_Machine "printer" "LSecdProcessor$Printer;" ∈ tb := mem_t2 (i := 26) rfl rfl
theorem kt_27 : Cond.methodLink R_Secd 1 objectInit ∈ tb := mem_t1 (i := 27) rfl rfl
theorem kt_58 : Cond.arrayClass .char ∈ tb := mem_t1 (i := 58) rfl rfl
theorem kt_30 : Cond.classLink R_Secd 17 R_Datum ∈ tb := mem_t1 (i := 30) rfl rfl
theorem kt_60 : Cond.classLink R_Secd 24 R_Program ∈ tb := mem_t1 (i := 60) rfl rfl
theorem kt_61 : Cond.instantiable R_Program 5 ∈ tb := mem_t1 (i := 61) rfl rfl
theorem kt_64 : Cond.code y_Program_new b_Program_new 1 none ∈ tb := mem_t1 (i := 64) rfl rfl
theorem kt_63 : Cond.instanceMethod y_Program_new ∈ tb := mem_t1 (i := 63) rfl rfl
theorem kt_90 : Cond.classLink R_Secd 34 R_Translator ∈ tb := mem_t1 (i := 90) rfl rfl
theorem kt_91 : Cond.instantiable R_Translator 6 ∈ tb := mem_t1 (i := 91) rfl rfl
theorem kt_94 : Cond.code y_Translator_new b_Translator_new 5 none ∈ tb := mem_t1 (i := 94) rfl rfl
theorem kt_92 : Cond.methodLink R_Secd 36 y_Translator_new ∈ tb := mem_t1 (i := 92) rfl rfl
theorem kt_93 : Cond.instanceMethod y_Translator_new ∈ tb := mem_t1 (i := 93) rfl rfl
theorem kt_168 : Cond.classLink R_Secd 43 R_Machine ∈ tb := mem_t1 (i := 168) rfl rfl
theorem kt_169 : Cond.instantiable R_Machine 13 ∈ tb := mem_t1 (i := 169) rfl rfl
theorem kt_170 : Cond.methodLink R_Secd 45 Lib.Math.min.name ∈ tb := mem_t1 (i := 170) rfl rfl
theorem kt_173 : Cond.methodLink R_Secd 51 Lib.Math.max.name ∈ tb := mem_t1 (i := 173) rfl rfl
theorem kt_174 : Cond.static Lib.Math.max.name ∈ tb := mem_t1 (i := 174) rfl rfl
theorem kt_175 : Cond.code Lib.Math.max.name Lib.Math.max.code 2 (some .int) ∈ tb := mem_t1 (i := 175) rfl rfl
theorem kt_178 : Cond.code y_Machine_new b_Machine_new 3 none ∈ tb := mem_t1 (i := 178) rfl rfl
theorem kt_176 : Cond.methodLink R_Secd 54 y_Machine_new ∈ tb := mem_t1 (i := 176) rfl rfl
theorem kt_177 : Cond.instanceMethod y_Machine_new ∈ tb := mem_t1 (i := 177) rfl rfl
theorem kt_786 : Cond.methodLink R_Arrays 304 Lib.Math.min.name ∈ tb := mem_t4 (i := 66) rfl rfl
theorem kt_787 : Cond.methodLink R_Arrays 150 arraycopyName ∈ tb := mem_t4 (i := 67) rfl rfl
theorem kt_836 : Cond.fieldLink R_Integer 83 R_Integer "DigitOnes" "[B" ∈ tb := mem_t4 (i := 116) rfl rfl
theorem kt_838 : Cond.fieldLink R_Integer 87 R_Integer "DigitTens" "[B" ∈ tb := mem_t4 (i := 118) rfl rfl
theorem kt_770 : Cond.methodLink R_ArrSup 194 Lib.Math.max.name ∈ tb := mem_t4 (i := 50) rfl rfl
theorem kt_771 : Cond.constant R_ArrSup 200 2147483639 ∈ tb := mem_t4 (i := 51) rfl rfl
theorem kt_245 : Cond.fieldLink R_ASB 79 R_ASB "count" "I" ∈ tb := mem_t2 (i := 5) rfl rfl
theorem kt_767 : Cond.methodLink R_ASB 114 y_ArrSup_newLength ∈ tb := mem_t4 (i := 47) rfl rfl
theorem kt_768 : Cond.static y_ArrSup_newLength ∈ tb := mem_t4 (i := 48) rfl rfl
theorem kt_19 : Cond.initialized R_ArrSup ∈ tb := mem_t1 (i := 19) rfl rfl
theorem kt_769 : Cond.code y_ArrSup_newLength b_ArrSup_newLength 4 (some .int) ∈ tb := mem_t4 (i := 49) rfl rfl
theorem kt_775 : Cond.constant R_ASB 39 2147483647 ∈ tb := mem_t4 (i := 55) rfl rfl
theorem kt_988 : Cond.methodLink R_ASB 138 Lib.Math.min.name ∈ tb := mem_t5 (i := 28) rfl rfl
theorem kt_989 : Cond.methodLink R_ASB 144 y_String_checkIndex ∈ tb := mem_t5 (i := 29) rfl rfl
theorem kt_1362 : Cond.sameMethod y_ASB_newCapacity.cls y_ASB_newCapacity.cls y_ASB_newCapacity.name y_ASB_newCapacity.desc ∈ tb := mem_t6 (i := 162) rfl rfl
theorem kt_763 : Cond.methodLink R_ASB 104 y_ASB_newCapacity ∈ tb := mem_t4 (i := 43) rfl rfl
theorem kt_765 : Cond.instanceMethod y_ASB_newCapacity ∈ tb := mem_t4 (i := 45) rfl rfl
theorem kt_766 : Cond.code y_ASB_newCapacity b_ASB_newCapacity 6 (some .int) ∈ tb := mem_t4 (i := 46) rfl rfl
theorem kt_776 : Cond.methodLink R_ASB 108 y_Arrays_copyOf ∈ tb := mem_t4 (i := 56) rfl rfl
theorem kt_777 : Cond.static y_Arrays_copyOf ∈ tb := mem_t4 (i := 57) rfl rfl
theorem kt_20 : Cond.initialized R_Arrays ∈ tb := mem_t1 (i := 20) rfl rfl
theorem kt_778 : Cond.code y_Arrays_copyOf b_Arrays_copyOf 3 (some (.array .byte)) ∈ tb := mem_t4 (i := 58) rfl rfl
theorem kt_790 : Cond.sameMethod y_ASB_isLatin1.cls y_ASB_isLatin1.cls y_ASB_isLatin1.name y_ASB_isLatin1.desc ∈ tb := mem_t4 (i := 70) rfl rfl
theorem kt_791 : Cond.selects R_SB y_ASB_isLatin1 y_ASB_isLatin1 ∈ tb := mem_t4 (i := 71) rfl rfl
theorem kt_788 : Cond.methodLink R_ASB 83 y_ASB_isLatin1 ∈ tb := mem_t4 (i := 68) rfl rfl
theorem kt_789 : Cond.instanceMethod y_ASB_isLatin1 ∈ tb := mem_t4 (i := 69) rfl rfl
theorem kt_792 : Cond.code y_ASB_isLatin1 b_ASB_isLatin1 1 (some .boolean) ∈ tb := mem_t4 (i := 72) rfl rfl
theorem kt_1361 : Cond.sameMethod y_ASB_ensure.cls y_ASB_ensure.cls y_ASB_ensure.name y_ASB_ensure.desc ∈ tb := mem_t6 (i := 161) rfl rfl
theorem kt_759 : Cond.methodLink R_ASB 100 y_ASB_ensure ∈ tb := mem_t4 (i := 39) rfl rfl
theorem kt_761 : Cond.instanceMethod y_ASB_ensure ∈ tb := mem_t4 (i := 41) rfl rfl
theorem kt_762 : Cond.code y_ASB_ensure b_ASB_ensure 3 none ∈ tb := mem_t4 (i := 42) rfl rfl
theorem kt_870 : Cond.methodLink R_ASB 191 y_Latin1_canEncode ∈ tb := mem_t4 (i := 150) rfl rfl
theorem kt_871 : Cond.static y_Latin1_canEncode ∈ tb := mem_t4 (i := 151) rfl rfl
theorem kt_872 : Cond.code y_Latin1_canEncode b_Latin1_canEncode 1 (some .boolean) ∈ tb := mem_t4 (i := 152) rfl rfl
theorem kt_830 : Cond.methodLink R_ASB 245 y_Integer_stringSize ∈ tb := mem_t4 (i := 110) rfl rfl
theorem kt_831 : Cond.static y_Integer_stringSize ∈ tb := mem_t4 (i := 111) rfl rfl
theorem kt_21 : Cond.initialized R_Integer ∈ tb := mem_t1 (i := 21) rfl rfl
theorem kt_832 : Cond.code y_Integer_stringSize b_Integer_stringSize 4 (some .int) ∈ tb := mem_t4 (i := 112) rfl rfl
theorem kt_833 : Cond.methodLink R_ASB 248 y_Integer_getChars ∈ tb := mem_t4 (i := 113) rfl rfl
theorem kt_834 : Cond.static y_Integer_getChars ∈ tb := mem_t4 (i := 114) rfl rfl
theorem kt_835 : Cond.code y_Integer_getChars b_Integer_getChars 7 (some .int) ∈ tb := mem_t4 (i := 115) rfl rfl
theorem kt_932 : Cond.methodLink R_String 212 arraycopyName ∈ tb := mem_t4 (i := 212) rfl rfl
theorem kt_927 : Cond.methodLink R_ASB 40 y_String_coder ∈ tb := mem_t4 (i := 207) rfl rfl
theorem kt_1370 : Cond.sameMethod y_ASB_inflateIf.cls y_ASB_inflateIf.cls y_ASB_inflateIf.name y_ASB_inflateIf.desc ∈ tb := mem_t6 (i := 170) rfl rfl
theorem kt_923 : Cond.methodLink R_ASB 397 y_ASB_inflateIf ∈ tb := mem_t4 (i := 203) rfl rfl
theorem kt_925 : Cond.instanceMethod y_ASB_inflateIf ∈ tb := mem_t4 (i := 205) rfl rfl
theorem kt_926 : Cond.code y_ASB_inflateIf b_ASB_inflateIf 2 none ∈ tb := mem_t4 (i := 206) rfl rfl
theorem kt_928 : Cond.methodLink R_ASB 399 y_String_getBytes ∈ tb := mem_t4 (i := 208) rfl rfl
theorem kt_929 : Cond.instanceMethod y_String_getBytes ∈ tb := mem_t4 (i := 209) rfl rfl
theorem kt_930 : Cond.selects R_String y_String_getBytes y_String_getBytes ∈ tb := mem_t4 (i := 210) rfl rfl
theorem kt_931 : Cond.code y_String_getBytes b_String_getBytes 4 none ∈ tb := mem_t4 (i := 211) rfl rfl
theorem kt_918 : Cond.methodLink R_ASB 32 y_String_length ∈ tb := mem_t4 (i := 198) rfl rfl
theorem kt_1369 : Cond.sameMethod y_ASB_putStringAt.cls y_ASB_putStringAt.cls y_ASB_putStringAt.name y_ASB_putStringAt.desc ∈ tb := mem_t6 (i := 169) rfl rfl
theorem kt_919 : Cond.methodLink R_ASB 208 y_ASB_putStringAt ∈ tb := mem_t4 (i := 199) rfl rfl
theorem kt_921 : Cond.instanceMethod y_ASB_putStringAt ∈ tb := mem_t4 (i := 201) rfl rfl
theorem kt_922 : Cond.code y_ASB_putStringAt b_ASB_putStringAt 3 none ∈ tb := mem_t4 (i := 202) rfl rfl
theorem kt_244 : Cond.fieldLink R_ASB 73 R_ASB "maybeLatin1" "Z" ∈ tb := mem_t2 (i := 4) rfl rfl
theorem kt_818 : Cond.methodLink R_SB 343 y_ASB_length ∈ tb := mem_t4 (i := 98) rfl rfl
theorem kt_1363 : Cond.sameMethod y_ASB_length.cls y_ASB_length.cls y_ASB_length.name y_ASB_length.desc ∈ tb := mem_t6 (i := 163) rfl rfl
theorem kt_254 : Cond.superclass R_SB R_ASB ∈ tb := mem_t2 (i := 14) rfl rfl
theorem kt_819 : Cond.instanceMethod y_ASB_length ∈ tb := mem_t4 (i := 99) rfl rfl
theorem kt_820 : Cond.code y_ASB_length b_ASB_length 1 (some .int) ∈ tb := mem_t4 (i := 100) rfl rfl
theorem kt_985 : Cond.methodLink R_SB 329 y_ASB_charAt ∈ tb := mem_t5 (i := 25) rfl rfl
theorem kt_1371 : Cond.sameMethod y_ASB_charAt.cls y_ASB_charAt.cls y_ASB_charAt.name y_ASB_charAt.desc ∈ tb := mem_t6 (i := 171) rfl rfl
theorem kt_986 : Cond.instanceMethod y_ASB_charAt ∈ tb := mem_t5 (i := 26) rfl rfl
theorem kt_987 : Cond.code y_ASB_charAt b_ASB_charAt 5 (some .char) ∈ tb := mem_t5 (i := 27) rfl rfl
theorem kt_867 : Cond.methodLink R_SB 50 y_ASB_append_c ∈ tb := mem_t4 (i := 147) rfl rfl
theorem kt_1365 : Cond.sameMethod y_ASB_append_c.cls y_ASB_append_c.cls y_ASB_append_c.name y_ASB_append_c.desc ∈ tb := mem_t6 (i := 165) rfl rfl
theorem kt_868 : Cond.instanceMethod y_ASB_append_c ∈ tb := mem_t4 (i := 148) rfl rfl
theorem kt_869 : Cond.code y_ASB_append_c b_ASB_append_c 2 (some (.object "java/lang/AbstractStringBuilder")) ∈ tb := mem_t4 (i := 149) rfl rfl
theorem kt_827 : Cond.methodLink R_SB 53 y_ASB_append_i ∈ tb := mem_t4 (i := 107) rfl rfl
theorem kt_1364 : Cond.sameMethod y_ASB_append_i.cls y_ASB_append_i.cls y_ASB_append_i.name y_ASB_append_i.desc ∈ tb := mem_t6 (i := 164) rfl rfl
theorem kt_828 : Cond.instanceMethod y_ASB_append_i ∈ tb := mem_t4 (i := 108) rfl rfl
theorem kt_829 : Cond.code y_ASB_append_i b_ASB_append_i 4 (some (.object "java/lang/AbstractStringBuilder")) ∈ tb := mem_t4 (i := 109) rfl rfl
theorem kt_908 : Cond.methodLink R_SB 29 y_ASB_append_s ∈ tb := mem_t4 (i := 188) rfl rfl
theorem kt_1367 : Cond.sameMethod y_ASB_append_s.cls y_ASB_append_s.cls y_ASB_append_s.name y_ASB_append_s.desc ∈ tb := mem_t6 (i := 167) rfl rfl
theorem kt_909 : Cond.instanceMethod y_ASB_append_s ∈ tb := mem_t4 (i := 189) rfl rfl
theorem kt_910 : Cond.code y_ASB_append_s b_ASB_append_s 3 (some (.object "java/lang/AbstractStringBuilder")) ∈ tb := mem_t4 (i := 190) rfl rfl
theorem kt_756 : Cond.methodLink R_SB 333 y_ASB_setLength ∈ tb := mem_t4 (i := 36) rfl rfl
theorem kt_1360 : Cond.sameMethod y_ASB_setLength.cls y_ASB_setLength.cls y_ASB_setLength.name y_ASB_setLength.desc ∈ tb := mem_t6 (i := 160) rfl rfl
theorem kt_757 : Cond.instanceMethod y_ASB_setLength ∈ tb := mem_t4 (i := 37) rfl rfl
theorem kt_758 : Cond.code y_ASB_setLength b_ASB_setLength 2 none ∈ tb := mem_t4 (i := 38) rfl rfl
theorem kt_863 : Cond.methodLink R_Names 9 y_SB_append_c ∈ tb := mem_t4 (i := 143) rfl rfl
theorem kt_864 : Cond.instanceMethod y_SB_append_c ∈ tb := mem_t4 (i := 144) rfl rfl
theorem kt_865 : Cond.selects R_SB y_SB_append_c y_SB_append_c ∈ tb := mem_t4 (i := 145) rfl rfl
theorem kt_866 : Cond.code y_SB_append_c b_SB_append_c 2 (some (.object "java/lang/StringBuilder")) ∈ tb := mem_t4 (i := 146) rfl rfl
theorem kt_814 : Cond.methodLink R_Printer 28 y_SB_length ∈ tb := mem_t4 (i := 94) rfl rfl
theorem kt_815 : Cond.instanceMethod y_SB_length ∈ tb := mem_t4 (i := 95) rfl rfl
theorem kt_816 : Cond.selects R_SB y_SB_length y_SB_length ∈ tb := mem_t4 (i := 96) rfl rfl
theorem kt_817 : Cond.code y_SB_length b_SB_length 1 (some .int) ∈ tb := mem_t4 (i := 97) rfl rfl
theorem kt_810 : Cond.methodLink R_Printer 32 y_Printer_isFull ∈ tb := mem_t4 (i := 90) rfl rfl
theorem kt_812 : Cond.instanceMethod y_Printer_isFull ∈ tb := mem_t4 (i := 92) rfl rfl
theorem ks_41 : Cond.selects R_Printer y_Printer_isFull y_Printer_isFull ∈ tb := mem_ts (i := 41) (by decide +kernel) rfl
theorem kt_813 : Cond.code y_Printer_isFull b_Printer_isFull 1 (some .boolean) ∈ tb := mem_t4 (i := 93) rfl rfl
theorem kt_821 : Cond.methodLink R_Printer 36 y_Memory_kindOf ∈ tb := mem_t4 (i := 101) rfl rfl
theorem kt_822 : Cond.methodLink R_Printer 42 y_Memory_valueOf ∈ tb := mem_t4 (i := 102) rfl rfl
theorem kt_823 : Cond.methodLink R_Printer 45 y_SB_append_i ∈ tb := mem_t4 (i := 103) rfl rfl
theorem kt_824 : Cond.instanceMethod y_SB_append_i ∈ tb := mem_t4 (i := 104) rfl rfl
theorem kt_825 : Cond.selects R_SB y_SB_append_i y_SB_append_i ∈ tb := mem_t4 (i := 105) rfl rfl
theorem kt_826 : Cond.code y_SB_append_i b_SB_append_i 2 (some (.object "java/lang/StringBuilder")) ∈ tb := mem_t4 (i := 106) rfl rfl
theorem kt_860 : Cond.methodLink R_Printer 49 y_Names_append ∈ tb := mem_t4 (i := 140) rfl rfl
theorem kt_861 : Cond.static y_Names_append ∈ tb := mem_t4 (i := 141) rfl rfl
theorem kt_862 : Cond.code y_Names_append b_Names_append 4 none ∈ tb := mem_t4 (i := 142) rfl rfl
theorem kt_895 : Cond.methodLink R_Printer 54 y_Printer_showPair ∈ tb := mem_t4 (i := 175) rfl rfl
theorem kt_897 : Cond.instanceMethod y_Printer_showPair ∈ tb := mem_t4 (i := 177) rfl rfl
theorem ks_42 : Cond.selects R_Printer y_Printer_showPair y_Printer_showPair ∈ tb := mem_ts (i := 42) (by decide +kernel) rfl
theorem kt_898 : Cond.code y_Printer_showPair b_Printer_showPair 5 none ∈ tb := mem_t4 (i := 178) rfl rfl
theorem kt_904 : Cond.methodLink R_Printer 59 y_SB_append_s ∈ tb := mem_t4 (i := 184) rfl rfl
theorem kt_905 : Cond.instanceMethod y_SB_append_s ∈ tb := mem_t4 (i := 185) rfl rfl
theorem kt_906 : Cond.selects R_SB y_SB_append_s y_SB_append_s ∈ tb := mem_t4 (i := 186) rfl rfl
theorem kt_907 : Cond.code y_SB_append_s b_SB_append_s 2 (some (.object "java/lang/StringBuilder")) ∈ tb := mem_t4 (i := 187) rfl rfl
theorem kt_899 : Cond.methodLink R_Printer 62 y_SB_append_c ∈ tb := mem_t4 (i := 179) rfl rfl
theorem kt_806 : Cond.methodLink R_Printer 24 y_Printer_show ∈ tb := mem_t4 (i := 86) rfl rfl
theorem kt_808 : Cond.instanceMethod y_Printer_show ∈ tb := mem_t4 (i := 88) rfl rfl
theorem ks_40 : Cond.selects R_Printer y_Printer_show y_Printer_show ∈ tb := mem_ts (i := 40) (by decide +kernel) rfl
theorem kt_809 : Cond.code y_Printer_show b_Printer_show 3 none ∈ tb := mem_t4 (i := 89) rfl rfl
theorem kt_900 : Cond.methodLink R_Printer 65 y_Memory_headOf ∈ tb := mem_t4 (i := 180) rfl rfl
theorem kt_901 : Cond.methodLink R_Printer 68 y_Memory_tailOf ∈ tb := mem_t4 (i := 181) rfl rfl
theorem kt_902 : Cond.methodLink R_Printer 71 y_Memory_isPair ∈ tb := mem_t4 (i := 182) rfl rfl
theorem kt_752 : Cond.methodLink R_Printer 20 y_SB_setLength ∈ tb := mem_t4 (i := 32) rfl rfl
theorem kt_753 : Cond.instanceMethod y_SB_setLength ∈ tb := mem_t4 (i := 33) rfl rfl
theorem kt_754 : Cond.selects R_SB y_SB_setLength y_SB_setLength ∈ tb := mem_t4 (i := 34) rfl rfl
theorem kt_755 : Cond.code y_SB_setLength b_SB_setLength 2 none ∈ tb := mem_t4 (i := 35) rfl rfl
theorem kt_748 : Cond.methodLink R_Machine 130 y_Printer_print ∈ tb := mem_t4 (i := 28) rfl rfl
theorem kt_749 : Cond.instanceMethod y_Printer_print ∈ tb := mem_t4 (i := 29) rfl rfl
theorem kt_750 : Cond.selects R_Printer y_Printer_print y_Printer_print ∈ tb := mem_t4 (i := 30) rfl rfl
theorem kt_751 : Cond.code y_Printer_print b_Printer_print 2 none ∈ tb := mem_t4 (i := 31) rfl rfl
theorem kt_609 : Cond.methodLink R_Machine 123 y_Machine_step ∈ tb := mem_t3 (i := 129) rfl rfl
theorem kt_611 : Cond.instanceMethod y_Machine_step ∈ tb := mem_t3 (i := 131) rfl rfl
theorem ks_27 : Cond.selects R_Machine y_Machine_step y_Machine_step ∈ tb := mem_ts (i := 27) (by decide +kernel) rfl
theorem kt_612 : Cond.code y_Machine_step b_Machine_step 3 (some .boolean) ∈ tb := mem_t3 (i := 132) rfl rfl
theorem kt_605 : Cond.methodLink R_Secd 108 y_Machine_advance ∈ tb := mem_t3 (i := 125) rfl rfl
theorem kt_606 : Cond.instanceMethod y_Machine_advance ∈ tb := mem_t3 (i := 126) rfl rfl
theorem kt_607 : Cond.selects R_Machine y_Machine_advance y_Machine_advance ∈ tb := mem_t3 (i := 127) rfl rfl
theorem kt_608 : Cond.code y_Machine_advance b_Machine_advance 4 (some .int) ∈ tb := mem_t3 (i := 128) rfl rfl
theorem kt_267 : Cond.fieldLink R_Secd 144 R_Machine "printer" "LSecdProcessor$Printer;" ∈ tb := mem_t2 (i := 27) rfl rfl
theorem kt_257 : Cond.fieldLink R_Secd 148 R_Printer "out" "Ljava/lang/StringBuilder;" ∈ tb := mem_t2 (i := 17) rfl rfl
theorem kt_976 : Cond.methodLink R_Secd 154 y_SB_length ∈ tb := mem_t5 (i := 16) rfl rfl
theorem kt_981 : Cond.methodLink R_Secd 158 y_SB_charAt ∈ tb := mem_t5 (i := 21) rfl rfl
theorem kt_982 : Cond.instanceMethod y_SB_charAt ∈ tb := mem_t5 (i := 22) rfl rfl
theorem kt_983 : Cond.selects R_SB y_SB_charAt y_SB_charAt ∈ tb := mem_t5 (i := 23) rfl rfl
theorem kt_984 : Cond.code y_SB_charAt b_SB_charAt 2 (some .char) ∈ tb := mem_t5 (i := 24) rfl rfl
theorem kt_22 : Cond.classLink R_Law 7 R_Secd ∈ tb := mem_t1 (i := 22) rfl rfl
theorem kt_23 : Cond.instantiable R_Secd 7 ∈ tb := mem_t1 (i := 23) rfl rfl
theorem kt_991 : Cond.methodLink R_Law 9 y_Law_cell ∈ tb := mem_t5 (i := 31) rfl rfl
theorem kt_992 : Cond.static y_Law_cell ∈ tb := mem_t5 (i := 32) rfl rfl
theorem kt_0 : Cond.initialized R_Law ∈ tb := mem_t1 (i := 0) rfl rfl
theorem kt_993 : Cond.code y_Law_cell b_Law_cell 2 (some .int) ∈ tb := mem_t5 (i := 33) rfl rfl
theorem kt_26 : Cond.code y_Secd_new b_Secd_new 2 none ∈ tb := mem_t1 (i := 26) rfl rfl
theorem kt_24 : Cond.methodLink R_Law 15 y_Secd_new ∈ tb := mem_t1 (i := 24) rfl rfl
theorem kt_25 : Cond.instanceMethod y_Secd_new ∈ tb := mem_t1 (i := 25) rfl rfl
theorem kt_994 : Cond.classLink R_Law 18 R_Model ∈ tb := mem_t5 (i := 34) rfl rfl
theorem kt_995 : Cond.instantiable R_Model 48 ∈ tb := mem_t5 (i := 35) rfl rfl
theorem kt_998 : Cond.code y_Model_new b_Model_new 2 none ∈ tb := mem_t5 (i := 38) rfl rfl
theorem kt_996 : Cond.methodLink R_Law 20 y_Model_new ∈ tb := mem_t5 (i := 36) rfl rfl
theorem kt_997 : Cond.instanceMethod y_Model_new ∈ tb := mem_t5 (i := 37) rfl rfl
theorem kt_334 : Cond.methodLink R_Law 21 y_Secd_put ∈ tb := mem_t2 (i := 94) rfl rfl
theorem kt_335 : Cond.instanceMethod y_Secd_put ∈ tb := mem_t2 (i := 95) rfl rfl
theorem kt_336 : Cond.selects R_Secd y_Secd_put y_Secd_put ∈ tb := mem_t2 (i := 96) rfl rfl
theorem kt_337 : Cond.code y_Secd_put b_Secd_put 2 (some .boolean) ∈ tb := mem_t2 (i := 97) rfl rfl
theorem kt_1150 : Cond.methodLink R_Law 25 y_Model_put ∈ tb := mem_t5 (i := 190) rfl rfl
theorem kt_1151 : Cond.instanceMethod y_Model_put ∈ tb := mem_t5 (i := 191) rfl rfl
theorem kt_1152 : Cond.selects R_Model y_Model_put y_Model_put ∈ tb := mem_t5 (i := 192) rfl rfl
theorem kt_1153 : Cond.code y_Model_put b_Model_put 2 (some .boolean) ∈ tb := mem_t5 (i := 193) rfl rfl
theorem kt_347 : Cond.methodLink R_Law 26 y_Secd_erase ∈ tb := mem_t2 (i := 107) rfl rfl
theorem kt_348 : Cond.instanceMethod y_Secd_erase ∈ tb := mem_t2 (i := 108) rfl rfl
theorem kt_349 : Cond.selects R_Secd y_Secd_erase y_Secd_erase ∈ tb := mem_t2 (i := 109) rfl rfl
theorem kt_350 : Cond.code y_Secd_erase b_Secd_erase 1 none ∈ tb := mem_t2 (i := 110) rfl rfl
theorem kt_1160 : Cond.methodLink R_Law 29 y_Model_erase ∈ tb := mem_t5 (i := 200) rfl rfl
theorem kt_1161 : Cond.instanceMethod y_Model_erase ∈ tb := mem_t5 (i := 201) rfl rfl
theorem kt_1162 : Cond.selects R_Model y_Model_erase y_Model_erase ∈ tb := mem_t5 (i := 202) rfl rfl
theorem kt_1163 : Cond.code y_Model_erase b_Model_erase 1 none ∈ tb := mem_t5 (i := 203) rfl rfl
theorem kt_351 : Cond.methodLink R_Law 30 y_Secd_compile ∈ tb := mem_t2 (i := 111) rfl rfl
theorem kt_352 : Cond.instanceMethod y_Secd_compile ∈ tb := mem_t2 (i := 112) rfl rfl
theorem kt_353 : Cond.selects R_Secd y_Secd_compile y_Secd_compile ∈ tb := mem_t2 (i := 113) rfl rfl
theorem kt_354 : Cond.code y_Secd_compile b_Secd_compile 2 (some .int) ∈ tb := mem_t2 (i := 114) rfl rfl
theorem kt_1164 : Cond.methodLink R_Law 34 y_Model_compile ∈ tb := mem_t5 (i := 204) rfl rfl
theorem kt_1165 : Cond.instanceMethod y_Model_compile ∈ tb := mem_t5 (i := 205) rfl rfl
theorem kt_1166 : Cond.selects R_Model y_Model_compile y_Model_compile ∈ tb := mem_t5 (i := 206) rfl rfl
theorem kt_1167 : Cond.code y_Model_compile b_Model_compile 2 (some .int) ∈ tb := mem_t5 (i := 207) rfl rfl
theorem kt_522 : Cond.methodLink R_Law 35 y_Secd_code ∈ tb := mem_t3 (i := 42) rfl rfl
theorem kt_523 : Cond.instanceMethod y_Secd_code ∈ tb := mem_t3 (i := 43) rfl rfl
theorem kt_524 : Cond.selects R_Secd y_Secd_code y_Secd_code ∈ tb := mem_t3 (i := 44) rfl rfl
theorem kt_525 : Cond.code y_Secd_code b_Secd_code 2 (some .int) ∈ tb := mem_t3 (i := 45) rfl rfl
theorem kt_1244 : Cond.methodLink R_Law 39 y_Model_code ∈ tb := mem_t6 (i := 44) rfl rfl
theorem kt_1245 : Cond.instanceMethod y_Model_code ∈ tb := mem_t6 (i := 45) rfl rfl
theorem kt_1246 : Cond.selects R_Model y_Model_code y_Model_code ∈ tb := mem_t6 (i := 46) rfl rfl
theorem kt_1247 : Cond.code y_Model_code b_Model_code 3 (some .int) ∈ tb := mem_t6 (i := 47) rfl rfl
theorem kt_530 : Cond.methodLink R_Law 40 y_Secd_begin ∈ tb := mem_t3 (i := 50) rfl rfl
theorem kt_531 : Cond.instanceMethod y_Secd_begin ∈ tb := mem_t3 (i := 51) rfl rfl
theorem kt_532 : Cond.selects R_Secd y_Secd_begin y_Secd_begin ∈ tb := mem_t3 (i := 52) rfl rfl
theorem kt_533 : Cond.code y_Secd_begin b_Secd_begin 3 (some .int) ∈ tb := mem_t3 (i := 53) rfl rfl
theorem kt_1248 : Cond.methodLink R_Law 43 y_Model_begin ∈ tb := mem_t6 (i := 48) rfl rfl
theorem kt_1249 : Cond.instanceMethod y_Model_begin ∈ tb := mem_t6 (i := 49) rfl rfl
theorem kt_1250 : Cond.selects R_Model y_Model_begin y_Model_begin ∈ tb := mem_t6 (i := 50) rfl rfl
theorem kt_1251 : Cond.code y_Model_begin b_Model_begin 6 (some .int) ∈ tb := mem_t6 (i := 51) rfl rfl
theorem kt_597 : Cond.methodLink R_Law 44 y_Secd_run ∈ tb := mem_t3 (i := 117) rfl rfl
theorem kt_598 : Cond.instanceMethod y_Secd_run ∈ tb := mem_t3 (i := 118) rfl rfl
theorem kt_599 : Cond.selects R_Secd y_Secd_run y_Secd_run ∈ tb := mem_t3 (i := 119) rfl rfl
theorem kt_600 : Cond.code y_Secd_run b_Secd_run 2 (some .int) ∈ tb := mem_t3 (i := 120) rfl rfl
theorem kt_1268 : Cond.methodLink R_Law 47 y_Model_run ∈ tb := mem_t6 (i := 68) rfl rfl
theorem kt_1269 : Cond.instanceMethod y_Model_run ∈ tb := mem_t6 (i := 69) rfl rfl
theorem kt_1270 : Cond.selects R_Model y_Model_run y_Model_run ∈ tb := mem_t6 (i := 70) rfl rfl
theorem kt_1271 : Cond.code y_Model_run b_Model_run 6 (some .int) ∈ tb := mem_t6 (i := 71) rfl rfl
theorem kt_935 : Cond.methodLink R_Law 48 y_Secd_status ∈ tb := mem_t4 (i := 215) rfl rfl
theorem kt_936 : Cond.instanceMethod y_Secd_status ∈ tb := mem_t4 (i := 216) rfl rfl
theorem kt_937 : Cond.selects R_Secd y_Secd_status y_Secd_status ∈ tb := mem_t4 (i := 217) rfl rfl
theorem kt_938 : Cond.code y_Secd_status b_Secd_status 1 (some .int) ∈ tb := mem_t4 (i := 218) rfl rfl
theorem kt_1304 : Cond.methodLink R_Law 51 y_Model_status ∈ tb := mem_t6 (i := 104) rfl rfl
theorem kt_1305 : Cond.instanceMethod y_Model_status ∈ tb := mem_t6 (i := 105) rfl rfl
theorem kt_1306 : Cond.selects R_Model y_Model_status y_Model_status ∈ tb := mem_t6 (i := 106) rfl rfl
theorem kt_1307 : Cond.code y_Model_status b_Model_status 1 (some .int) ∈ tb := mem_t6 (i := 107) rfl rfl
theorem kt_939 : Cond.methodLink R_Law 52 y_Secd_cycles ∈ tb := mem_t4 (i := 219) rfl rfl
theorem kt_940 : Cond.instanceMethod y_Secd_cycles ∈ tb := mem_t4 (i := 220) rfl rfl
theorem kt_941 : Cond.selects R_Secd y_Secd_cycles y_Secd_cycles ∈ tb := mem_t4 (i := 221) rfl rfl
theorem kt_942 : Cond.code y_Secd_cycles b_Secd_cycles 1 (some .int) ∈ tb := mem_t4 (i := 222) rfl rfl
theorem kt_1308 : Cond.methodLink R_Law 55 y_Model_cycles ∈ tb := mem_t6 (i := 108) rfl rfl
theorem kt_1309 : Cond.instanceMethod y_Model_cycles ∈ tb := mem_t6 (i := 109) rfl rfl
theorem kt_1310 : Cond.selects R_Model y_Model_cycles y_Model_cycles ∈ tb := mem_t6 (i := 110) rfl rfl
theorem kt_1311 : Cond.code y_Model_cycles b_Model_cycles 1 (some .int) ∈ tb := mem_t6 (i := 111) rfl rfl
theorem kt_943 : Cond.methodLink R_Law 56 y_Secd_address ∈ tb := mem_t4 (i := 223) rfl rfl
theorem kt_944 : Cond.instanceMethod y_Secd_address ∈ tb := mem_t4 (i := 224) rfl rfl
theorem kt_945 : Cond.selects R_Secd y_Secd_address y_Secd_address ∈ tb := mem_t4 (i := 225) rfl rfl
theorem kt_946 : Cond.code y_Secd_address b_Secd_address 1 (some .int) ∈ tb := mem_t4 (i := 226) rfl rfl
theorem kt_1312 : Cond.methodLink R_Law 59 y_Model_address ∈ tb := mem_t6 (i := 112) rfl rfl
theorem kt_1313 : Cond.instanceMethod y_Model_address ∈ tb := mem_t6 (i := 113) rfl rfl
theorem kt_1314 : Cond.selects R_Model y_Model_address y_Model_address ∈ tb := mem_t6 (i := 114) rfl rfl
theorem kt_1315 : Cond.code y_Model_address b_Model_address 1 (some .int) ∈ tb := mem_t6 (i := 115) rfl rfl
theorem kt_947 : Cond.methodLink R_Law 60 y_Secd_depth ∈ tb := mem_t4 (i := 227) rfl rfl
theorem kt_948 : Cond.instanceMethod y_Secd_depth ∈ tb := mem_t4 (i := 228) rfl rfl
theorem kt_949 : Cond.selects R_Secd y_Secd_depth y_Secd_depth ∈ tb := mem_t4 (i := 229) rfl rfl
theorem kt_950 : Cond.code y_Secd_depth b_Secd_depth 2 (some .int) ∈ tb := mem_t4 (i := 230) rfl rfl
theorem kt_1316 : Cond.methodLink R_Law 63 y_Model_depth ∈ tb := mem_t6 (i := 116) rfl rfl
theorem kt_1317 : Cond.instanceMethod y_Model_depth ∈ tb := mem_t6 (i := 117) rfl rfl
theorem kt_1318 : Cond.selects R_Model y_Model_depth y_Model_depth ∈ tb := mem_t6 (i := 118) rfl rfl
theorem kt_1319 : Cond.code y_Model_depth b_Model_depth 4 (some .int) ∈ tb := mem_t6 (i := 119) rfl rfl
theorem kt_959 : Cond.methodLink R_Law 64 y_Secd_live ∈ tb := mem_t4 (i := 239) rfl rfl
theorem kt_960 : Cond.instanceMethod y_Secd_live ∈ tb := mem_t5 (i := 0) rfl rfl
theorem kt_961 : Cond.selects R_Secd y_Secd_live y_Secd_live ∈ tb := mem_t5 (i := 1) rfl rfl
theorem kt_962 : Cond.code y_Secd_live b_Secd_live 1 (some .int) ∈ tb := mem_t5 (i := 2) rfl rfl
theorem kt_1320 : Cond.methodLink R_Law 67 y_Model_live ∈ tb := mem_t6 (i := 120) rfl rfl
theorem kt_1321 : Cond.instanceMethod y_Model_live ∈ tb := mem_t6 (i := 121) rfl rfl
theorem kt_1322 : Cond.selects R_Model y_Model_live y_Model_live ∈ tb := mem_t6 (i := 122) rfl rfl
theorem kt_1323 : Cond.code y_Model_live b_Model_live 1 (some .int) ∈ tb := mem_t6 (i := 123) rfl rfl
theorem kt_964 : Cond.methodLink R_Law 68 y_Secd_used ∈ tb := mem_t5 (i := 4) rfl rfl
theorem kt_965 : Cond.instanceMethod y_Secd_used ∈ tb := mem_t5 (i := 5) rfl rfl
theorem kt_966 : Cond.selects R_Secd y_Secd_used y_Secd_used ∈ tb := mem_t5 (i := 6) rfl rfl
theorem kt_967 : Cond.code y_Secd_used b_Secd_used 1 (some .int) ∈ tb := mem_t5 (i := 7) rfl rfl
theorem kt_1324 : Cond.methodLink R_Law 71 y_Model_used ∈ tb := mem_t6 (i := 124) rfl rfl
theorem kt_1325 : Cond.instanceMethod y_Model_used ∈ tb := mem_t6 (i := 125) rfl rfl
theorem kt_1326 : Cond.selects R_Model y_Model_used y_Model_used ∈ tb := mem_t6 (i := 126) rfl rfl
theorem kt_1327 : Cond.code y_Model_used b_Model_used 1 (some .int) ∈ tb := mem_t6 (i := 127) rfl rfl
theorem kt_968 : Cond.methodLink R_Law 72 y_Secd_collections ∈ tb := mem_t5 (i := 8) rfl rfl
theorem kt_969 : Cond.instanceMethod y_Secd_collections ∈ tb := mem_t5 (i := 9) rfl rfl
theorem kt_970 : Cond.selects R_Secd y_Secd_collections y_Secd_collections ∈ tb := mem_t5 (i := 10) rfl rfl
theorem kt_971 : Cond.code y_Secd_collections b_Secd_collections 1 (some .int) ∈ tb := mem_t5 (i := 11) rfl rfl
theorem kt_1328 : Cond.methodLink R_Law 75 y_Model_collections ∈ tb := mem_t6 (i := 128) rfl rfl
theorem kt_1329 : Cond.instanceMethod y_Model_collections ∈ tb := mem_t6 (i := 129) rfl rfl
theorem kt_1330 : Cond.selects R_Model y_Model_collections y_Model_collections ∈ tb := mem_t6 (i := 130) rfl rfl
theorem kt_1331 : Cond.code y_Model_collections b_Model_collections 1 (some .int) ∈ tb := mem_t6 (i := 131) rfl rfl
theorem kt_972 : Cond.methodLink R_Law 76 y_Secd_printed ∈ tb := mem_t5 (i := 12) rfl rfl
theorem kt_973 : Cond.instanceMethod y_Secd_printed ∈ tb := mem_t5 (i := 13) rfl rfl
theorem kt_974 : Cond.selects R_Secd y_Secd_printed y_Secd_printed ∈ tb := mem_t5 (i := 14) rfl rfl
theorem kt_975 : Cond.code y_Secd_printed b_Secd_printed 1 (some .int) ∈ tb := mem_t5 (i := 15) rfl rfl
theorem kt_1332 : Cond.methodLink R_Law 79 y_Model_printed ∈ tb := mem_t6 (i := 132) rfl rfl
theorem kt_1333 : Cond.instanceMethod y_Model_printed ∈ tb := mem_t6 (i := 133) rfl rfl
theorem kt_1334 : Cond.selects R_Model y_Model_printed y_Model_printed ∈ tb := mem_t6 (i := 134) rfl rfl
theorem kt_1335 : Cond.code y_Model_printed b_Model_printed 1 (some .int) ∈ tb := mem_t6 (i := 135) rfl rfl
theorem kt_977 : Cond.methodLink R_Law 80 y_Secd_character ∈ tb := mem_t5 (i := 17) rfl rfl
theorem kt_978 : Cond.instanceMethod y_Secd_character ∈ tb := mem_t5 (i := 18) rfl rfl
theorem kt_979 : Cond.selects R_Secd y_Secd_character y_Secd_character ∈ tb := mem_t5 (i := 19) rfl rfl
theorem kt_980 : Cond.code y_Secd_character b_Secd_character 2 (some .int) ∈ tb := mem_t5 (i := 20) rfl rfl
theorem kt_1356 : Cond.methodLink R_Law 83 y_Model_character ∈ tb := mem_t6 (i := 156) rfl rfl
theorem kt_1357 : Cond.instanceMethod y_Model_character ∈ tb := mem_t6 (i := 157) rfl rfl
theorem kt_1358 : Cond.selects R_Model y_Model_character y_Model_character ∈ tb := mem_t6 (i := 158) rfl rfl
theorem kt_1359 : Cond.code y_Model_character b_Model_character 2 (some .int) ∈ tb := mem_t6 (i := 159) rfl rfl
