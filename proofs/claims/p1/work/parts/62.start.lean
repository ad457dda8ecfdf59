set_option maxRecDepth 100000 in
theorem kn_all {s : State} {args : Array Value} (hts : ∀ w ∈ tb, w.before args s = true) : ∃ (dC : Nat → ClassId) (dI : Nat → Nat → Nat), va_K (dC, dI) vwCl [] s := by
  obtain ⟨c0, i0, h0⟩ := u_known (C := R_Secd) (T := T_Secd) (N := 7) (n := 7) hts in_Secd (hts _ kt_23)
  obtain ⟨c1, i1, h1⟩ := u_known (C := R_Datum) (T := T_Datum) (N := 7) (n := 7) hts in_Datum (hts _ kt_31)
  obtain ⟨c2, i2, h2⟩ := u_known (C := R_Program) (T := T_Program) (N := 5) (n := 5) hts in_Program (hts _ kt_61)
  obtain ⟨c3, i3, h3⟩ := u_known (C := R_Translator) (T := T_Translator) (N := 6) (n := 6) hts in_Translator (hts _ kt_91)
  obtain ⟨c4, i4, h4⟩ := u_known (C := R_Memory) (T := T_Memory) (N := 9) (n := 9) hts in_Memory (hts _ kt_181)
  obtain ⟨c5, i5, h5⟩ := u_known (C := R_Printer) (T := T_Printer) (N := 2) (n := 2) hts in_Printer (hts _ kt_220)
  obtain ⟨c6, i6, h6⟩ := u_known (C := R_Machine) (T := T_Machine) (N := 13) (n := 13) hts in_Machine (hts _ kt_169)
  obtain ⟨c7, i7, h7⟩ := u_known (C := R_Model) (T := T_Model) (N := 48) (n := 48) hts in_Model (hts _ kt_995)
  obtain ⟨c8, i8, h8⟩ := u_known (C := R_SB) (T := T_SB) (N := 4) (n := 4) hts in_SB (hts _ kt_226)
  refine ⟨fun c => match c with | 0 => c0 | 1 => c1 | 2 => c2 | 3 => c3 | 4 => c4 | 5 => c5 | 6 => c6 | 7 => c7 | _ => c8, fun c => match c with | 0 => i0 | 1 => i1 | 2 => i2 | 3 => i3 | 4 => i4 | 5 => i5 | 6 => i6 | 7 => i7 | _ => i8, fun c q hq => ?_, fun k q h => by cases h⟩
  have hc : c < 9 := (List.getElem?_eq_some_iff.mp hq).1
  rcases (show c = 0 ∨ c = 1 ∨ c = 2 ∨ c = 3 ∨ c = 4 ∨ c = 5 ∨ c = 6 ∨ c = 7 ∨ c = 8 by omega) with rfl | rfl | rfl | rfl | rfl | rfl | rfl | rfl | rfl
  · cases hq; exact h0
  · cases hq; exact h1
  · cases hq; exact h2
  · cases hq; exact h3
  · cases hq; exact h4
  · cases hq; exact h5
  · cases hq; exact h6
  · cases hq; exact h7
  · cases hq; exact h8
def tmS (i : Nat) : Term := match i with
  | 0 => .string "SecdProcessor$Translator" 36
  | 1 => .string "SecdProcessor$Printer" 57
  | _ => .string "SecdProcessor$Printer" 75
def flN : List Cond := flatC (Jvm.Cond.and given_1 narrow_1)
set_option maxRecDepth 100000 in
theorem fl_cycA : ∀ j, j < 21 → flN[36 + j]? = some (Cond.eq (.elem (Term.static "SecdProcessor$Op" "CYCLES" "[I") (.int (Int32.ofNat j))) (.int (cycL.getD j 0))) := by decide +kernel
theorem fl_cyc : ∀ j, j < 21 → Cond.eq (.elem (Term.static "SecdProcessor$Op" "CYCLES" "[I") (.int (Int32.ofNat j))) (.int (cycL.getD j 0)) ∈ flN := fun j hj => List.mem_of_getElem? (fl_cycA j hj)
set_option maxRecDepth 100000 in
theorem fl_cyc2 : Cond.arrayOf (Term.static "SecdProcessor$Op" "CYCLES" "[I") .int ∈ flN ∧ Cond.eq (.length (Term.static "SecdProcessor$Op" "CYCLES" "[I")) (.int (Int32.ofNat 21)) ∈ flN := by decide +kernel
set_option maxRecDepth 100000 in
theorem fl_celA : ∀ j, j < 21 → flN[12 + j]? = some (Cond.eq (.elem (Term.static "SecdProcessor$Op" "CELLS" "[I") (.int (Int32.ofNat j))) (.int (celL.getD j 0))) := by decide +kernel
theorem fl_cel : ∀ j, j < 21 → Cond.eq (.elem (Term.static "SecdProcessor$Op" "CELLS" "[I") (.int (Int32.ofNat j))) (.int (celL.getD j 0)) ∈ flN := fun j hj => List.mem_of_getElem? (fl_celA j hj)
set_option maxRecDepth 100000 in
theorem fl_cel2 : Cond.arrayOf (Term.static "SecdProcessor$Op" "CELLS" "[I") .int ∈ flN ∧ Cond.eq (.length (Term.static "SecdProcessor$Op" "CELLS" "[I")) (.int (Int32.ofNat 21)) ∈ flN := by decide +kernel
set_option maxRecDepth 100000 in
theorem fl_dgoA : ∀ j, j < 100 → flN[60 + j]? = some (Cond.eq (.elem (Term.static "java/lang/Integer" "DigitOnes" "[B") (.int (Int32.ofNat j))) (.int (dgO.getD j 0))) := by decide +kernel
theorem fl_dgo : ∀ j, j < 100 → Cond.eq (.elem (Term.static "java/lang/Integer" "DigitOnes" "[B") (.int (Int32.ofNat j))) (.int (dgO.getD j 0)) ∈ flN := fun j hj => List.mem_of_getElem? (fl_dgoA j hj)
set_option maxRecDepth 100000 in
theorem fl_dgo2 : Cond.arrayOf (Term.static "java/lang/Integer" "DigitOnes" "[B") .byte ∈ flN ∧ Cond.eq (.length (Term.static "java/lang/Integer" "DigitOnes" "[B")) (.int (Int32.ofNat 100)) ∈ flN := by decide +kernel
set_option maxRecDepth 100000 in
theorem fl_dgtA : ∀ j, j < 100 → flN[163 + j]? = some (Cond.eq (.elem (Term.static "java/lang/Integer" "DigitTens" "[B") (.int (Int32.ofNat j))) (.int (dgT.getD j 0))) := by decide +kernel
theorem fl_dgt : ∀ j, j < 100 → Cond.eq (.elem (Term.static "java/lang/Integer" "DigitTens" "[B") (.int (Int32.ofNat j))) (.int (dgT.getD j 0)) ∈ flN := fun j hj => List.mem_of_getElem? (fl_dgtA j hj)
set_option maxRecDepth 100000 in
theorem fl_dgt2 : Cond.arrayOf (Term.static "java/lang/Integer" "DigitTens" "[B") .byte ∈ flN ∧ Cond.eq (.length (Term.static "java/lang/Integer" "DigitTens" "[B")) (.int (Int32.ofNat 100)) ∈ flN := by decide +kernel
def bsS : List Nat := [263, 346, 338]
set_option maxRecDepth 100000 in
theorem fl_strA : ∀ i, i < 3 → flN[bsS.getD i 0]? = some (Cond.exactly (tmS i) "java/lang/String") ∧ flN[bsS.getD i 0 + 1]? = some (Cond.eq (.field (tmS i) "java/lang/String" "coder" "B") (.int 0)) ∧ flN[bsS.getD i 0 + 2]? = some (Cond.arrayOf (.field (tmS i) "java/lang/String" "value" "[B") .byte) ∧ flN[bsS.getD i 0 + 3]? = some (Cond.eq (.length (.field (tmS i) "java/lang/String" "value" "[B")) (.int (Int32.ofNat (lenS.getD i 0)))) ∧ ∀ j, j < lenS.getD i 0 → flN[bsS.getD i 0 + 4 + j]? = some (Cond.eq (.elem (.field (tmS i) "java/lang/String" "value" "[B") (.int (Int32.ofNat j))) (.int ((bytS.getD i []).getD j 0))) := by decide +kernel
theorem fl_str : ∀ i, i < 3 → Cond.exactly (tmS i) "java/lang/String" ∈ flN ∧ Cond.eq (.field (tmS i) "java/lang/String" "coder" "B") (.int 0) ∈ flN ∧ Cond.arrayOf (.field (tmS i) "java/lang/String" "value" "[B") .byte ∈ flN ∧ Cond.eq (.length (.field (tmS i) "java/lang/String" "value" "[B")) (.int (Int32.ofNat (lenS.getD i 0))) ∈ flN ∧ ∀ j, j < lenS.getD i 0 → Cond.eq (.elem (.field (tmS i) "java/lang/String" "value" "[B") (.int (Int32.ofNat j))) (.int ((bytS.getD i []).getD j 0)) ∈ flN := fun i hi => ⟨List.mem_of_getElem? (fl_strA i hi).1, List.mem_of_getElem? (fl_strA i hi).2.1, List.mem_of_getElem? (fl_strA i hi).2.2.1, List.mem_of_getElem? (fl_strA i hi).2.2.2.1, fun j hj => List.mem_of_getElem? ((fl_strA i hi).2.2.2.2 j hj)⟩
set_option maxRecDepth 100000 in
theorem fl_ne : ∀ i, i < 3 → ∀ j, j < 3 → i ≠ j → Cond.not (Cond.eq (tmS i) (tmS j)) ∈ flN ∨ Cond.not (Cond.eq (tmS j) (tmS i)) ∈ flN := by decide +kernel
set_option maxRecDepth 100000 in
theorem fl_one : Cond.eq (.static "java/lang/String" "COMPACT_STRINGS" "Z") (.int 1) ∈ flN ∧ Cond.isRef (.static "jdk/internal/util/Preconditions" "SIOOBE_FORMATTER" "Ljava/util/function/BiFunction;") ∈ flN := by decide +kernel
set_option maxHeartbeats 4000000 in
set_option maxRecDepth 100000 in
theorem gb_start {s : State} {b : Nat} (hts0 : ∀ w ∈ lw_tbl, w.before #[Value.ref b] s = true) (hgv : (Jvm.Cond.and given_1 narrow_1).before #[Value.ref b] s = true) : gb (fun q => s.heap.size ≤ q) s s.heap := by
  have hs : ∀ c ∈ flN, c.before #[Value.ref b] s = true := flat_of_before _ hgv
  have hA : ∀ a : Nat, a < s.heap.size → ¬ (fun q => s.heap.size ≤ q) a := fun a h => Nat.not_le.mpr h
  obtain ⟨t_cyc, ht_cyc, hT_cyc⟩ := va_Tof (tm := .static "SecdProcessor$Op" "CYCLES" "[I") (ty := .int) (N := 21) (f := fun j => .int (cycL.getD j 0)) (by decide) (hs _ fl_cyc2.1) (va_eqt (hs _ fl_cyc2.2)) (fun j hj => va_eqt (hs _ (fl_cyc j hj))) hA
  obtain ⟨t_cel, ht_cel, hT_cel⟩ := va_Tof (tm := .static "SecdProcessor$Op" "CELLS" "[I") (ty := .int) (N := 21) (f := fun j => .int (celL.getD j 0)) (by decide) (hs _ fl_cel2.1) (va_eqt (hs _ fl_cel2.2)) (fun j hj => va_eqt (hs _ (fl_cel j hj))) hA
  obtain ⟨t_dgo, ht_dgo, hT_dgo⟩ := va_Tof (tm := .static "java/lang/Integer" "DigitOnes" "[B") (ty := .byte) (N := 100) (f := fun j => .int (dgO.getD j 0)) (by decide) (hs _ fl_dgo2.1) (va_eqt (hs _ fl_dgo2.2)) (fun j hj => va_eqt (hs _ (fl_dgo j hj))) hA
  obtain ⟨t_dgt, ht_dgt, hT_dgt⟩ := va_Tof (tm := .static "java/lang/Integer" "DigitTens" "[B") (ty := .byte) (N := 100) (f := fun j => .int (dgT.getD j 0)) (by decide) (hs _ fl_dgt2.1) (va_eqt (hs _ fl_dgt2.2)) (fun j hj => va_eqt (hs _ (fl_dgt j hj))) hA
  obtain ⟨adK, adV, hk, hr⟩ := vk_Sof (N := 3) (tm := tmS) (len := lenS) (byt := bytS) (by decide) (fun i hi => hs _ (fl_str i hi).1) (fun i hi => hs _ (fl_str i hi).2.1) (fun i hi => hs _ (fl_str i hi).2.2.1) (fun i hi => hs _ (fl_str i hi).2.2.2.1) (fun i hi j hj => hs _ ((fl_str i hi).2.2.2.2 j hj)) (fun i j hi hj hn => (fl_ne i hi j hj hn).imp (hs _) (hs _)) hA
  refine ⟨?_, ⟨t_cyc, va_Zof (hts0 _ (List.mem_append_right _ (List.mem_of_getElem? (i := 650) (by decide +kernel)))) (hts0 _ (List.mem_append_right _ (List.mem_of_getElem? (i := 18) (by decide +kernel)))) ht_cyc hA, hT_cyc⟩, ⟨t_cel, va_Zof (hts0 _ (List.mem_append_right _ (List.mem_of_getElem? (i := 618) (by decide +kernel)))) (hts0 _ (List.mem_append_right _ (List.mem_of_getElem? (i := 18) (by decide +kernel)))) ht_cel hA, hT_cel⟩, va_Zof (hts0 _ (List.mem_append_right _ (List.mem_of_getElem? (i := 106) (by decide +kernel)))) (hts0 _ (List.mem_append_right _ (List.mem_of_getElem? (i := 5) (by decide +kernel)))) (va_eqi (hs _ fl_one.1)) hA, ⟨t_dgo, va_Zof (hts0 _ (List.mem_append_right _ (List.mem_of_getElem? (i := 837) (by decide +kernel)))) (hts0 _ (List.mem_append_right _ (List.mem_of_getElem? (i := 21) (by decide +kernel)))) ht_dgo hA, hT_dgo⟩, ⟨t_dgt, va_Zof (hts0 _ (List.mem_append_right _ (List.mem_of_getElem? (i := 839) (by decide +kernel)))) (hts0 _ (List.mem_append_right _ (List.mem_of_getElem? (i := 21) (by decide +kernel)))) ht_dgt hA, hT_dgt⟩, va_Zqof (hts0 _ (List.mem_append_right _ (List.mem_of_getElem? (i := 122) (by decide +kernel)))) (hts0 _ (List.mem_append_right _ (List.mem_of_getElem? (i := 7) (by decide +kernel)))) (hs _ fl_one.2) hA, adK, adV, hk, ?_, ?_, ?_⟩
  · intro w hw
    rcases List.mem_cons.mp hw with rfl | hw
    · exact va_Nw.of rfl (hts0 _ (List.mem_append_right _ (List.mem_of_getElem? (i := 32) (by decide +kernel))))
    rcases List.mem_cons.mp hw with rfl | hw
    · exact va_Nw.of rfl (hts0 _ (List.mem_append_right _ (List.mem_of_getElem? (i := 62) (by decide +kernel))))
    rcases List.mem_cons.mp hw with rfl | hw
    · exact va_Nw.of rfl (hts0 _ (List.mem_append_right _ (List.mem_of_getElem? (i := 67) (by decide +kernel))))
    rcases List.mem_cons.mp hw with rfl | hw
    · exact va_Nw.of rfl (hts0 _ (List.mem_append_right _ (List.mem_of_getElem? (i := 379) (by decide +kernel))))
    rcases List.mem_cons.mp hw with rfl | hw
    · exact va_Nw.of rfl (hts0 _ (List.mem_append_right _ (List.mem_of_getElem? (i := 389) (by decide +kernel))))
    · cases hw
  · exact vk_R.of (hts0 _ (List.mem_append_right _ (List.mem_of_getElem? (i := 96) (by decide +kernel)))) (hr 0 (by decide))
  · exact vk_R.of (hts0 _ (List.mem_append_right _ (List.mem_of_getElem? (i := 934) (by decide +kernel)))) (hr 1 (by decide))
  · exact vk_R.of (hts0 _ (List.mem_append_right _ (List.mem_of_getElem? (i := 903) (by decide +kernel)))) (hr 2 (by decide))
