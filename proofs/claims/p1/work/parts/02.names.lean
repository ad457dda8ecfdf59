
/-- the private methods of the text builder's superclass, as they are run on a builder -/
def sbP : List MethodName := [⟨"java/lang/AbstractStringBuilder", "ensureCapacityInternal", "(I)V"⟩, ⟨"java/lang/AbstractStringBuilder", "newCapacity", "(I)I"⟩, ⟨"java/lang/AbstractStringBuilder", "putStringAt", "(ILjava/lang/String;)V"⟩, ⟨"java/lang/AbstractStringBuilder", "inflateIfNeededFor", "(Ljava/lang/String;)V"⟩]
def sbS : List Cond := sbP.map (fun y => Cond.selects "java/lang/StringBuilder" y y)
def tb : List Cond := (sbS ++ lw_tbl).filter goodWord
theorem mem_t0 {w : Cond} (h : w ∈ tables_1) (hg : goodWord w = true) : w ∈ tb := List.mem_filter.mpr ⟨List.mem_append_right _ (List.mem_append_right _ h), hg⟩
theorem mem_ts {i : Nat} {w : Cond} (h : (k2_sels lw_privs)[i]? = some w) (hg : goodWord w = true) : w ∈ tb := List.mem_filter.mpr ⟨List.mem_append_right _ (List.mem_append_left _ (List.mem_of_getElem? h)), hg⟩
theorem mem_sb {i : Nat} {w : Cond} (h : sbS[i]? = some w) (hg : goodWord w = true) : w ∈ tb := List.mem_filter.mpr ⟨List.mem_append_left _ (List.mem_of_getElem? h), hg⟩
theorem mem_t1 {i : Nat} {w : Cond} (h : tables_1_1[i]? = some w) (hg : goodWord w = true) : w ∈ tb := mem_t0 (List.mem_append_left _ (List.mem_of_getElem? h)) hg
theorem mem_t2 {i : Nat} {w : Cond} (h : tables_1_2[i]? = some w) (hg : goodWord w = true) : w ∈ tb := mem_t0 (List.mem_append_right _ (List.mem_append_left _ (List.mem_of_getElem? h))) hg
theorem mem_t3 {i : Nat} {w : Cond} (h : tables_1_3[i]? = some w) (hg : goodWord w = true) : w ∈ tb := mem_t0 (List.mem_append_right _ (List.mem_append_right _ (List.mem_append_left _ (List.mem_of_getElem? h)))) hg
theorem mem_t4 {i : Nat} {w : Cond} (h : tables_1_4[i]? = some w) (hg : goodWord w = true) : w ∈ tb := mem_t0 (List.mem_append_right _ (List.mem_append_right _ (List.mem_append_right _ (List.mem_append_left _ (List.mem_of_getElem? h))))) hg
theorem mem_t5 {i : Nat} {w : Cond} (h : tables_1_5[i]? = some w) (hg : goodWord w = true) : w ∈ tb := mem_t0 (List.mem_append_right _ (List.mem_append_right _ (List.mem_append_right _ (List.mem_append_right _ (List.mem_append_left _ (List.mem_of_getElem? h)))))) hg
theorem mem_t6 {i : Nat} {w : Cond} (h : tables_1_6[i]? = some w) (hg : goodWord w = true) : w ∈ tb := mem_t0 (List.mem_append_right _ (List.mem_append_right _ (List.mem_append_right _ (List.mem_append_right _ (List.mem_append_right _ (List.mem_of_getElem? h)))))) hg
abbrev ws_ (y : MethodName) (b : ByteArray) (n : Nat) (r : Option FieldType) : List Cond := .code y b n r :: tb
theorem tb_good {w : Cond} (h : w ∈ tb) : w ∈ tb ∧ ((w.onTables && w.keeps) = true ∨ ∃ ty, w = .arrayClass ty) := ⟨h, good_of_word (List.mem_filter.mp h).2⟩
theorem gd_W {y : MethodName} {b : ByteArray} {n : Nat} {r : Option FieldType} (hc : Cond.code y b n r ∈ tb) : GoodIn tb (ws_ y b n r) := by
  intro w hw
  rcases List.mem_cons.mp hw with rfl | h
  · exact tb_good hc
  · exact tb_good h
theorem gd_V {own C : String} {idx : Nat} {y : MethodName} {b : ByteArray} {n : Nat} {r : Option FieldType} (h1 : Cond.methodLink own idx y ∈ tb) (h2 : Cond.instanceMethod y ∈ tb) (h3 : Cond.selects C y y ∈ tb) (h4 : Cond.initialized C ∈ tb) (hc : Cond.code y b n r ∈ tb) : GoodIn tb (wsV own idx C y (ws_ y b n r)) := by
  intro w hw
  rcases List.mem_append.mp hw with h | h
  · rcases List.mem_cons.mp h with rfl | h
    · exact tb_good h1
    rcases List.mem_cons.mp h with rfl | h
    · exact tb_good h2
    rcases List.mem_cons.mp h with rfl | h
    · exact tb_good h3
    rcases List.mem_cons.mp h with rfl | h
    · exact tb_good h4
    · cases h
  · exact gd_W hc w h
theorem gd_S {own : String} {idx : Nat} {y : MethodName} {b : ByteArray} {n : Nat} {r : Option FieldType} (h1 : Cond.methodLink own idx y ∈ tb) (h2 : Cond.static y ∈ tb) (h4 : Cond.initialized y.cls ∈ tb) (hc : Cond.code y b n r ∈ tb) : GoodIn tb (va_wsS own idx y (ws_ y b n r)) := by
  intro w hw
  rcases List.mem_append.mp hw with h | h
  · rcases List.mem_cons.mp h with rfl | h
    · exact tb_good h1
    rcases List.mem_cons.mp h with rfl | h
    · exact tb_good h2
    rcases List.mem_cons.mp h with rfl | h
    · exact tb_good h4
    · cases h
  · exact gd_W hc w h
abbrev ar_ (q : Nat) (cA : ClassId) (n : Nat) (f : Nat → Int32) : Nat × va_E := (q, .inl (cA, n, .inl f))
def R_Secd : String := "SecdProcessor"
def R_Datum : String := "SecdProcessor$Datum"
def R_Program : String := "SecdProcessor$Program"
def R_Translator : String := "SecdProcessor$Translator"
def R_Memory : String := "SecdProcessor$Memory"
def R_Printer : String := "SecdProcessor$Printer"
def R_Machine : String := "SecdProcessor$Machine"
def R_Names : String := "SecdProcessor$Names"
def R_Op : String := "SecdProcessor$Op"
def R_SB : String := "java/lang/StringBuilder"
def R_Model : String := "SecdProcessorModel"
def R_Law : String := "SecdProcessorLaw"
def T_Secd : u_T := fun k => match k with
  | 0 => ("SecdProcessor", "text", "[C", true)
  | 1 => ("SecdProcessor", "length", "I", false)
  | 2 => ("SecdProcessor", "argument", "LSecdProcessor$Datum;", true)
  | 3 => ("SecdProcessor", "program", "LSecdProcessor$Program;", true)
  | 4 => ("SecdProcessor", "draft", "LSecdProcessor$Program;", true)
  | 5 => ("SecdProcessor", "translator", "LSecdProcessor$Translator;", true)
  | _ => ("SecdProcessor", "machine", "LSecdProcessor$Machine;", true)
def t_Secd : Nat → FieldType := fun k => match k with
  | 0 => (.array .char)
  | 1 => .int
  | 2 => (.object "SecdProcessor$Datum")
  | 3 => (.object "SecdProcessor$Program")
  | 4 => (.object "SecdProcessor$Program")
  | 5 => (.object "SecdProcessor$Translator")
  | _ => (.object "SecdProcessor$Machine")
set_option maxRecDepth 100000 in
theorem nm_Secd : ∀ a, a < 7 → ∀ b, b < 7 → a ≠ b → (T_Secd a).2.1 ≠ (T_Secd b).2.1 := by decide +kernel
theorem t_Secd_ok : ∀ k, k < 7 → parseFieldDescriptor (T_Secd k).2.2.1 = some (t_Secd k) := by decide +kernel
abbrev ob_Secd (h_this : Nat) (h_text : Nat) (i_length : Int32) (h_argument : Nat) (h_program : Nat) (h_draft : Nat) (h_translator : Nat) (h_machine : Nat) : Nat × va_E := (h_this, .inr (0, [.ref h_text, .int i_length, .ref h_argument, .ref h_program, .ref h_draft, .ref h_translator, .ref h_machine]))
set_option maxRecDepth 100000 in
theorem in_Secd : ∀ w ∈ u_ws R_Secd T_Secd 7, w ∈ tb := by
  intro w hw
  obtain ⟨k, hk, rfl⟩ := List.mem_map.mp hw
  have hk := List.mem_range.mp hk
  rcases (show k = 0 ∨ k = 1 ∨ k = 2 ∨ k = 3 ∨ k = 4 ∨ k = 5 ∨ k = 6 by omega) with rfl | rfl | rfl | rfl | rfl | rfl | rfl
  · exact mem_t2 (i := 79) rfl rfl
  · exact mem_t2 (i := 81) rfl rfl
  · exact mem_t2 (i := 83) rfl rfl
  · exact mem_t2 (i := 85) rfl rfl
  · exact mem_t2 (i := 87) rfl rfl
  · exact mem_t2 (i := 89) rfl rfl
  · exact mem_t2 (i := 91) rfl rfl
def T_Datum : u_T := fun k => match k with
  | 0 => ("SecdProcessor$Datum", "kinds", "[I", true)
  | 1 => ("SecdProcessor$Datum", "values", "[I", true)
  | 2 => ("SecdProcessor$Datum", "followers", "[I", true)
  | 3 => ("SecdProcessor$Datum", "count", "I", false)
  | 4 => ("SecdProcessor$Datum", "openLists", "[I", true)
  | 5 => ("SecdProcessor$Datum", "lastParts", "[I", true)
  | _ => ("SecdProcessor$Datum", "openCount", "I", false)
def t_Datum : Nat → FieldType := fun k => match k with
  | 0 => (.array .int)
  | 1 => (.array .int)
  | 2 => (.array .int)
  | 3 => .int
  | 4 => (.array .int)
  | 5 => (.array .int)
  | _ => .int
set_option maxRecDepth 100000 in
theorem nm_Datum : ∀ a, a < 7 → ∀ b, b < 7 → a ≠ b → (T_Datum a).2.1 ≠ (T_Datum b).2.1 := by decide +kernel
theorem t_Datum_ok : ∀ k, k < 7 → parseFieldDescriptor (T_Datum k).2.2.1 = some (t_Datum k) := by decide +kernel
abbrev ob_Datum (h_this : Nat) (h_kinds : Nat) (h_values : Nat) (h_followers : Nat) (i_count : Int32) (h_openLists : Nat) (h_lastParts : Nat) (i_openCount : Int32) : Nat × va_E := (h_this, .inr (1, [.ref h_kinds, .ref h_values, .ref h_followers, .int i_count, .ref h_openLists, .ref h_lastParts, .int i_openCount]))
set_option maxRecDepth 100000 in
theorem in_Datum : ∀ w ∈ u_ws R_Datum T_Datum 7, w ∈ tb := by
  intro w hw
  obtain ⟨k, hk, rfl⟩ := List.mem_map.mp hw
  have hk := List.mem_range.mp hk
  rcases (show k = 0 ∨ k = 1 ∨ k = 2 ∨ k = 3 ∨ k = 4 ∨ k = 5 ∨ k = 6 by omega) with rfl | rfl | rfl | rfl | rfl | rfl | rfl
  · exact mem_t1 (i := 43) rfl rfl
  · exact mem_t1 (i := 45) rfl rfl
  · exact mem_t1 (i := 47) rfl rfl
  · exact mem_t1 (i := 49) rfl rfl
  · exact mem_t1 (i := 51) rfl rfl
  · exact mem_t1 (i := 53) rfl rfl
  · exact mem_t1 (i := 55) rfl rfl
def T_Program : u_T := fun k => match k with
  | 0 => ("SecdProcessor$Program", "datum", "LSecdProcessor$Datum;", true)
  | 1 => ("SecdProcessor$Program", "words", "[I", true)
  | 2 => ("SecdProcessor$Program", "size", "I", false)
  | 3 => ("SecdProcessor$Program", "constants", "[I", true)
  | _ => ("SecdProcessor$Program", "lastConstant", "I", false)
def t_Program : Nat → FieldType := fun k => match k with
  | 0 => (.object "SecdProcessor$Datum")
  | 1 => (.array .int)
  | 2 => .int
  | 3 => (.array .int)
  | _ => .int
set_option maxRecDepth 100000 in
theorem nm_Program : ∀ a, a < 5 → ∀ b, b < 5 → a ≠ b → (T_Program a).2.1 ≠ (T_Program b).2.1 := by decide +kernel
theorem t_Program_ok : ∀ k, k < 5 → parseFieldDescriptor (T_Program k).2.2.1 = some (t_Program k) := by decide +kernel
abbrev ob_Program (h_this : Nat) (h_datum : Nat) (h_words : Nat) (i_size : Int32) (h_constants : Nat) (i_lastConstant : Int32) : Nat × va_E := (h_this, .inr (2, [.ref h_datum, .ref h_words, .int i_size, .ref h_constants, .int i_lastConstant]))
set_option maxRecDepth 100000 in
theorem in_Program : ∀ w ∈ u_ws R_Program T_Program 5, w ∈ tb := by
  intro w hw
  obtain ⟨k, hk, rfl⟩ := List.mem_map.mp hw
  have hk := List.mem_range.mp hk
  rcases (show k = 0 ∨ k = 1 ∨ k = 2 ∨ k = 3 ∨ k = 4 by omega) with rfl | rfl | rfl | rfl | rfl
  · exact mem_t1 (i := 79) rfl rfl
  · exact mem_t1 (i := 81) rfl rfl
  · exact mem_t1 (i := 83) rfl rfl
  · exact mem_t1 (i := 85) rfl rfl
  · exact mem_t1 (i := 87) rfl rfl
def T_Translator : u_T := fun k => match k with
  | 0 => ("SecdProcessor$Translator", "program", "LSecdProcessor$Program;", true)
  | 1 => ("SecdProcessor$Translator", "datum", "LSecdProcessor$Datum;", true)
  | 2 => ("SecdProcessor$Translator", "formNames", "[I", true)
  | 3 => ("SecdProcessor$Translator", "frames", "[I", true)
  | 4 => ("SecdProcessor$Translator", "frameCount", "I", false)
  | _ => ("SecdProcessor$Translator", "error", "I", false)
def t_Translator : Nat → FieldType := fun k => match k with
  | 0 => (.object "SecdProcessor$Program")
  | 1 => (.object "SecdProcessor$Datum")
  | 2 => (.array .int)
  | 3 => (.array .int)
  | 4 => .int
  | _ => .int
set_option maxRecDepth 100000 in
theorem nm_Translator : ∀ a, a < 6 → ∀ b, b < 6 → a ≠ b → (T_Translator a).2.1 ≠ (T_Translator b).2.1 := by decide +kernel
theorem t_Translator_ok : ∀ k, k < 6 → parseFieldDescriptor (T_Translator k).2.2.1 = some (t_Translator k) := by decide +kernel
abbrev ob_Translator (h_this : Nat) (h_program : Nat) (h_datum : Nat) (h_formNames : Nat) (h_frames : Nat) (i_frameCount : Int32) (i_error : Int32) : Nat × va_E := (h_this, .inr (3, [.ref h_program, .ref h_datum, .ref h_formNames, .ref h_frames, .int i_frameCount, .int i_error]))
set_option maxRecDepth 100000 in
theorem in_Translator : ∀ w ∈ u_ws R_Translator T_Translator 6, w ∈ tb := by
  intro w hw
  obtain ⟨k, hk, rfl⟩ := List.mem_map.mp hw
  have hk := List.mem_range.mp hk
  rcases (show k = 0 ∨ k = 1 ∨ k = 2 ∨ k = 3 ∨ k = 4 ∨ k = 5 by omega) with rfl | rfl | rfl | rfl | rfl | rfl
  · exact mem_t1 (i := 154) rfl rfl
  · exact mem_t1 (i := 156) rfl rfl
  · exact mem_t1 (i := 158) rfl rfl
  · exact mem_t1 (i := 160) rfl rfl
  · exact mem_t1 (i := 162) rfl rfl
  · exact mem_t1 (i := 164) rfl rfl
def T_Memory : u_T := fun k => match k with
  | 0 => ("SecdProcessor$Memory", "size", "I", true)
  | 1 => ("SecdProcessor$Memory", "kinds", "[I", true)
  | 2 => ("SecdProcessor$Memory", "lefts", "[I", true)
  | 3 => ("SecdProcessor$Memory", "rights", "[I", true)
  | 4 => ("SecdProcessor$Memory", "free", "[I", true)
  | 5 => ("SecdProcessor$Memory", "freeCount", "I", false)
  | 6 => ("SecdProcessor$Memory", "isReached", "[Z", true)
  | 7 => ("SecdProcessor$Memory", "reached", "[I", true)
  | _ => ("SecdProcessor$Memory", "reachedCount", "I", false)
def t_Memory : Nat → FieldType := fun k => match k with
  | 0 => .int
  | 1 => (.array .int)
  | 2 => (.array .int)
  | 3 => (.array .int)
  | 4 => (.array .int)
  | 5 => .int
  | 6 => (.array .boolean)
  | 7 => (.array .int)
  | _ => .int
set_option maxRecDepth 100000 in
theorem nm_Memory : ∀ a, a < 9 → ∀ b, b < 9 → a ≠ b → (T_Memory a).2.1 ≠ (T_Memory b).2.1 := by decide +kernel
theorem t_Memory_ok : ∀ k, k < 9 → parseFieldDescriptor (T_Memory k).2.2.1 = some (t_Memory k) := by decide +kernel
abbrev ob_Memory (h_this : Nat) (i_size : Int32) (h_kinds : Nat) (h_lefts : Nat) (h_rights : Nat) (h_free : Nat) (i_freeCount : Int32) (h_isReached : Nat) (h_reached : Nat) (i_reachedCount : Int32) : Nat × va_E := (h_this, .inr (4, [.int i_size, .ref h_kinds, .ref h_lefts, .ref h_rights, .ref h_free, .int i_freeCount, .ref h_isReached, .ref h_reached, .int i_reachedCount]))
set_option maxRecDepth 100000 in
theorem in_Memory : ∀ w ∈ u_ws R_Memory T_Memory 9, w ∈ tb := by
  intro w hw
  obtain ⟨k, hk, rfl⟩ := List.mem_map.mp hw
  have hk := List.mem_range.mp hk
  rcases (show k = 0 ∨ k = 1 ∨ k = 2 ∨ k = 3 ∨ k = 4 ∨ k = 5 ∨ k = 6 ∨ k = 7 ∨ k = 8 by omega) with rfl | rfl | rfl | rfl | rfl | rfl | rfl | rfl | rfl
  · exact mem_t1 (i := 199) rfl rfl
  · exact mem_t1 (i := 201) rfl rfl
  · exact mem_t1 (i := 203) rfl rfl
  · exact mem_t1 (i := 205) rfl rfl
  · exact mem_t1 (i := 207) rfl rfl
  · exact mem_t1 (i := 209) rfl rfl
  · exact mem_t1 (i := 211) rfl rfl
  · exact mem_t1 (i := 213) rfl rfl
  · exact mem_t1 (i := 215) rfl rfl
def T_Printer : u_T := fun k => match k with
  | 0 => ("SecdProcessor$Printer", "memory", "LSecdProcessor$Memory;", true)
  | _ => ("SecdProcessor$Printer", "out", "Ljava/lang/StringBuilder;", true)
def t_Printer : Nat → FieldType := fun k => match k with
  | 0 => (.object "SecdProcessor$Memory")
  | _ => (.object "java/lang/StringBuilder")
set_option maxRecDepth 100000 in
theorem nm_Printer : ∀ a, a < 2 → ∀ b, b < 2 → a ≠ b → (T_Printer a).2.1 ≠ (T_Printer b).2.1 := by decide +kernel
theorem t_Printer_ok : ∀ k, k < 2 → parseFieldDescriptor (T_Printer k).2.2.1 = some (t_Printer k) := by decide +kernel
abbrev ob_Printer (h_this : Nat) (h_memory : Nat) (h_out : Nat) : Nat × va_E := (h_this, .inr (5, [.ref h_memory, .ref h_out]))
set_option maxRecDepth 100000 in
theorem in_Printer : ∀ w ∈ u_ws R_Printer T_Printer 2, w ∈ tb := by
  intro w hw
  obtain ⟨k, hk, rfl⟩ := List.mem_map.mp hw
  have hk := List.mem_range.mp hk
  rcases (show k = 0 ∨ k = 1 by omega) with rfl | rfl
  · exact mem_t2 (i := 18) rfl rfl
  · exact mem_t2 (i := 20) rfl rfl
def T_Machine : u_T := fun k => match k with
  | 0 => ("SecdProcessor$Machine", "program", "LSecdProcessor$Program;", true)
  | 1 => ("SecdProcessor$Machine", "memory", "LSecdProcessor$Memory;", true)
  | 2 => ("SecdProcessor$Machine", "printer", "LSecdProcessor$Printer;", true)
  | 3 => ("SecdProcessor$Machine", "constants", "[I", true)
  | 4 => ("SecdProcessor$Machine", "lastConstant", "I", false)
  | 5 => ("SecdProcessor$Machine", "s", "I", false)
  | 6 => ("SecdProcessor$Machine", "e", "I", false)
  | 7 => ("SecdProcessor$Machine", "d", "I", false)
  | 8 => ("SecdProcessor$Machine", "next", "I", false)
  | 9 => ("SecdProcessor$Machine", "state", "I", false)
  | 10 => ("SecdProcessor$Machine", "spent", "I", false)
  | 11 => ("SecdProcessor$Machine", "fuel", "I", false)
  | _ => ("SecdProcessor$Machine", "collected", "I", false)
def t_Machine : Nat → FieldType := fun k => match k with
  | 0 => (.object "SecdProcessor$Program")
  | 1 => (.object "SecdProcessor$Memory")
  | 2 => (.object "SecdProcessor$Printer")
  | 3 => (.array .int)
  | 4 => .int
  | 5 => .int
  | 6 => .int
  | 7 => .int
  | 8 => .int
  | 9 => .int
  | 10 => .int
  | 11 => .int
  | _ => .int
set_option maxRecDepth 100000 in
theorem nm_Machine : ∀ a, a < 13 → ∀ b, b < 13 → a ≠ b → (T_Machine a).2.1 ≠ (T_Machine b).2.1 := by decide +kernel
theorem t_Machine_ok : ∀ k, k < 13 → parseFieldDescriptor (T_Machine k).2.2.1 = some (t_Machine k) := by decide +kernel
abbrev ob_Machine (h_this : Nat) (h_program : Nat) (h_memory : Nat) (h_printer : Nat) (h_constants : Nat) (i_lastConstant : Int32) (i_s : Int32) (i_e : Int32) (i_d : Int32) (i_next : Int32) (i_state : Int32) (i_spent : Int32) (i_fuel : Int32) (i_collected : Int32) : Nat × va_E := (h_this, .inr (6, [.ref h_program, .ref h_memory, .ref h_printer, .ref h_constants, .int i_lastConstant, .int i_s, .int i_e, .int i_d, .int i_next, .int i_state, .int i_spent, .int i_fuel, .int i_collected]))
set_option maxRecDepth 100000 in
theorem in_Machine : ∀ w ∈ u_ws R_Machine T_Machine 13, w ∈ tb := by
  intro w hw
  obtain ⟨k, hk, rfl⟩ := List.mem_map.mp hw
  have hk := List.mem_range.mp hk
  rcases (show k = 0 ∨ k = 1 ∨ k = 2 ∨ k = 3 ∨ k = 4 ∨ k = 5 ∨ k = 6 ∨ k = 7 ∨ k = 8 ∨ k = 9 ∨ k = 10 ∨ k = 11 ∨ k = 12 by omega) with rfl | rfl | rfl | rfl | rfl | rfl | rfl | rfl | rfl | rfl | rfl | rfl | rfl
  · exact mem_t2 (i := 45) rfl rfl
  · exact mem_t2 (i := 47) rfl rfl
  · exact mem_t2 (i := 49) rfl rfl
  · exact mem_t2 (i := 51) rfl rfl
  · exact mem_t2 (i := 53) rfl rfl
  · exact mem_t2 (i := 55) rfl rfl
  · exact mem_t2 (i := 57) rfl rfl
  · exact mem_t2 (i := 59) rfl rfl
  · exact mem_t2 (i := 61) rfl rfl
  · exact mem_t2 (i := 63) rfl rfl
  · exact mem_t2 (i := 65) rfl rfl
  · exact mem_t2 (i := 67) rfl rfl
  · exact mem_t2 (i := 69) rfl rfl
def T_Model : u_T := fun k => match k with
  | 0 => ("SecdProcessorModel", "forms", "[I", false)
  | 1 => ("SecdProcessorModel", "costs", "[I", false)
  | 2 => ("SecdProcessorModel", "takes", "[I", false)
  | 3 => ("SecdProcessorModel", "text", "[I", false)
  | 4 => ("SecdProcessorModel", "size", "I", false)
  | 5 => ("SecdProcessorModel", "bank", "I", false)
  | 6 => ("SecdProcessorModel", "program", "Z", false)
  | 7 => ("SecdProcessorModel", "sort", "[I", false)
  | 8 => ("SecdProcessorModel", "val", "[I", false)
  | 9 => ("SecdProcessorModel", "child", "[I", false)
  | 10 => ("SecdProcessorModel", "next", "[I", false)
  | 11 => ("SecdProcessorModel", "nodes", "I", false)
  | 12 => ("SecdProcessorModel", "open", "[I", false)
  | 13 => ("SecdProcessorModel", "latest", "[I", false)
  | 14 => ("SecdProcessorModel", "op", "[I", false)
  | 15 => ("SecdProcessorModel", "x1", "[I", false)
  | 16 => ("SecdProcessorModel", "x2", "[I", false)
  | 17 => ("SecdProcessorModel", "lines", "[I", false)
  | 18 => ("SecdProcessorModel", "fixed", "[I", false)
  | 19 => ("SecdProcessorModel", "fixeds", "[I", false)
  | 20 => ("SecdProcessorModel", "what", "[I", false)
  | 21 => ("SecdProcessorModel", "about", "[I", false)
  | 22 => ("SecdProcessorModel", "within", "[I", false)
  | 23 => ("SecdProcessorModel", "tasks", "I", false)
  | 24 => ("SecdProcessorModel", "names", "[I", false)
  | 25 => ("SecdProcessorModel", "paired", "[Z", false)
  | 26 => ("SecdProcessorModel", "around", "[I", false)
  | 27 => ("SecdProcessorModel", "frames", "I", false)
  | 28 => ("SecdProcessorModel", "cells", "I", true)
  | 29 => ("SecdProcessorModel", "kind", "[I", false)
  | 30 => ("SecdProcessorModel", "left", "[I", false)
  | 31 => ("SecdProcessorModel", "right", "[I", false)
  | 32 => ("SecdProcessorModel", "taken", "[Z", false)
  | 33 => ("SecdProcessorModel", "reached", "[Z", false)
  | 34 => ("SecdProcessorModel", "constant", "[I", false)
  | 35 => ("SecdProcessorModel", "made", "[I", false)
  | 36 => ("SecdProcessorModel", "used", "I", false)
  | 37 => ("SecdProcessorModel", "status", "I", false)
  | 38 => ("SecdProcessorModel", "fuel", "I", false)
  | 39 => ("SecdProcessorModel", "spent", "I", false)
  | 40 => ("SecdProcessorModel", "pc", "I", false)
  | 41 => ("SecdProcessorModel", "s", "I", false)
  | 42 => ("SecdProcessorModel", "e", "I", false)
  | 43 => ("SecdProcessorModel", "d", "I", false)
  | 44 => ("SecdProcessorModel", "rounds", "I", false)
  | 45 => ("SecdProcessorModel", "out", "[I", false)
  | 46 => ("SecdProcessorModel", "outs", "I", false)
  | _ => ("SecdProcessorModel", "tails", "[I", false)
def t_Model : Nat → FieldType := fun k => match k with
  | 0 => (.array .int)
  | 1 => (.array .int)
  | 2 => (.array .int)
  | 3 => (.array .int)
  | 4 => .int
  | 5 => .int
  | 6 => .boolean
  | 7 => (.array .int)
  | 8 => (.array .int)
  | 9 => (.array .int)
  | 10 => (.array .int)
  | 11 => .int
  | 12 => (.array .int)
  | 13 => (.array .int)
  | 14 => (.array .int)
  | 15 => (.array .int)
  | 16 => (.array .int)
  | 17 => (.array .int)
  | 18 => (.array .int)
  | 19 => (.array .int)
  | 20 => (.array .int)
  | 21 => (.array .int)
  | 22 => (.array .int)
  | 23 => .int
  | 24 => (.array .int)
  | 25 => (.array .boolean)
  | 26 => (.array .int)
  | 27 => .int
  | 28 => .int
  | 29 => (.array .int)
  | 30 => (.array .int)
  | 31 => (.array .int)
  | 32 => (.array .boolean)
  | 33 => (.array .boolean)
  | 34 => (.array .int)
  | 35 => (.array .int)
  | 36 => .int
  | 37 => .int
  | 38 => .int
  | 39 => .int
  | 40 => .int
  | 41 => .int
  | 42 => .int
  | 43 => .int
  | 44 => .int
  | 45 => (.array .int)
  | 46 => .int
  | _ => (.array .int)
set_option maxRecDepth 100000 in
theorem nm_Model : ∀ a, a < 48 → ∀ b, b < 48 → a ≠ b → (T_Model a).2.1 ≠ (T_Model b).2.1 := by decide +kernel
theorem t_Model_ok : ∀ k, k < 48 → parseFieldDescriptor (T_Model k).2.2.1 = some (t_Model k) := by decide +kernel
abbrev ob_Model (h_this : Nat) (h_forms : Nat) (h_costs : Nat) (h_takes : Nat) (h_text : Nat) (i_size : Int32) (i_bank : Int32) (i_program : Int32) (h_sort : Nat) (h_val : Nat) (h_child : Nat) (h_next : Nat) (i_nodes : Int32) (h_open : Nat) (h_latest : Nat) (h_op : Nat) (h_x1 : Nat) (h_x2 : Nat) (h_lines : Nat) (h_fixed : Nat) (h_fixeds : Nat) (h_what : Nat) (h_about : Nat) (h_within : Nat) (i_tasks : Int32) (h_names : Nat) (h_paired : Nat) (h_around : Nat) (i_frames : Int32) (i_cells : Int32) (h_kind : Nat) (h_left : Nat) (h_right : Nat) (h_taken : Nat) (h_reached : Nat) (h_constant : Nat) (h_made : Nat) (i_used : Int32) (i_status : Int32) (i_fuel : Int32) (i_spent : Int32) (i_pc : Int32) (i_s : Int32) (i_e : Int32) (i_d : Int32) (i_rounds : Int32) (h_out : Nat) (i_outs : Int32) (h_tails : Nat) : Nat × va_E := (h_this, .inr (7, [.ref h_forms, .ref h_costs, .ref h_takes, .ref h_text, .int i_size, .int i_bank, .int i_program, .ref h_sort, .ref h_val, .ref h_child, .ref h_next, .int i_nodes, .ref h_open, .ref h_latest, .ref h_op, .ref h_x1, .ref h_x2, .ref h_lines, .ref h_fixed, .ref h_fixeds, .ref h_what, .ref h_about, .ref h_within, .int i_tasks, .ref h_names, .ref h_paired, .ref h_around, .int i_frames, .int i_cells, .ref h_kind, .ref h_left, .ref h_right, .ref h_taken, .ref h_reached, .ref h_constant, .ref h_made, .int i_used, .int i_status, .int i_fuel, .int i_spent, .int i_pc, .int i_s, .int i_e, .int i_d, .int i_rounds, .ref h_out, .int i_outs, .ref h_tails]))
set_option maxRecDepth 100000 in
theorem in_Model : ∀ w ∈ u_ws R_Model T_Model 48, w ∈ tb := by
  intro w hw
  obtain ⟨k, hk, rfl⟩ := List.mem_map.mp hw
  have hk := List.mem_range.mp hk
  rcases (show k = 0 ∨ k = 1 ∨ k = 2 ∨ k = 3 ∨ k = 4 ∨ k = 5 ∨ k = 6 ∨ k = 7 ∨ k = 8 ∨ k = 9 ∨ k = 10 ∨ k = 11 ∨ k = 12 ∨ k = 13 ∨ k = 14 ∨ k = 15 ∨ k = 16 ∨ k = 17 ∨ k = 18 ∨ k = 19 ∨ k = 20 ∨ k = 21 ∨ k = 22 ∨ k = 23 ∨ k = 24 ∨ k = 25 ∨ k = 26 ∨ k = 27 ∨ k = 28 ∨ k = 29 ∨ k = 30 ∨ k = 31 ∨ k = 32 ∨ k = 33 ∨ k = 34 ∨ k = 35 ∨ k = 36 ∨ k = 37 ∨ k = 38 ∨ k = 39 ∨ k = 40 ∨ k = 41 ∨ k = 42 ∨ k = 43 ∨ k = 44 ∨ k = 45 ∨ k = 46 ∨ k = 47 by omega) with rfl | rfl | rfl | rfl | rfl | rfl | rfl | rfl | rfl | rfl | rfl | rfl | rfl | rfl | rfl | rfl | rfl | rfl | rfl | rfl | rfl | rfl | rfl | rfl | rfl | rfl | rfl | rfl | rfl | rfl | rfl | rfl | rfl | rfl | rfl | rfl | rfl | rfl | rfl | rfl | rfl | rfl | rfl | rfl | rfl | rfl | rfl | rfl
  · exact mem_t5 (i := 93) rfl rfl
  · exact mem_t5 (i := 95) rfl rfl
  · exact mem_t5 (i := 97) rfl rfl
  · exact mem_t5 (i := 99) rfl rfl
  · exact mem_t5 (i := 101) rfl rfl
  · exact mem_t5 (i := 103) rfl rfl
  · exact mem_t5 (i := 105) rfl rfl
  · exact mem_t5 (i := 107) rfl rfl
  · exact mem_t5 (i := 109) rfl rfl
  · exact mem_t5 (i := 111) rfl rfl
  · exact mem_t5 (i := 113) rfl rfl
  · exact mem_t5 (i := 115) rfl rfl
  · exact mem_t5 (i := 117) rfl rfl
  · exact mem_t5 (i := 119) rfl rfl
  · exact mem_t5 (i := 121) rfl rfl
  · exact mem_t5 (i := 123) rfl rfl
  · exact mem_t5 (i := 125) rfl rfl
  · exact mem_t5 (i := 127) rfl rfl
  · exact mem_t5 (i := 129) rfl rfl
  · exact mem_t5 (i := 131) rfl rfl
  · exact mem_t5 (i := 133) rfl rfl
  · exact mem_t5 (i := 135) rfl rfl
  · exact mem_t5 (i := 137) rfl rfl
  · exact mem_t5 (i := 139) rfl rfl
  · exact mem_t5 (i := 141) rfl rfl
  · exact mem_t5 (i := 143) rfl rfl
  · exact mem_t5 (i := 145) rfl rfl
  · exact mem_t5 (i := 147) rfl rfl
  · exact mem_t5 (i := 149) rfl rfl
  · exact mem_t5 (i := 151) rfl rfl
  · exact mem_t5 (i := 153) rfl rfl
  · exact mem_t5 (i := 155) rfl rfl
  · exact mem_t5 (i := 157) rfl rfl
  · exact mem_t5 (i := 159) rfl rfl
  · exact mem_t5 (i := 161) rfl rfl
  · exact mem_t5 (i := 163) rfl rfl
  · exact mem_t5 (i := 165) rfl rfl
  · exact mem_t5 (i := 167) rfl rfl
  · exact mem_t5 (i := 169) rfl rfl
  · exact mem_t5 (i := 171) rfl rfl
  · exact mem_t5 (i := 173) rfl rfl
  · exact mem_t5 (i := 175) rfl rfl
  · exact mem_t5 (i := 177) rfl rfl
  · exact mem_t5 (i := 179) rfl rfl
  · exact mem_t5 (i := 181) rfl rfl
  · exact mem_t5 (i := 183) rfl rfl
  · exact mem_t5 (i := 185) rfl rfl
  · exact mem_t5 (i := 187) rfl rfl
def T_SB : u_T := fun k => match k with
  | 0 => ("java/lang/AbstractStringBuilder", "value", "[B", false)
  | 1 => ("java/lang/AbstractStringBuilder", "coder", "B", false)
  | 2 => ("java/lang/AbstractStringBuilder", "maybeLatin1", "Z", false)
  | _ => ("java/lang/AbstractStringBuilder", "count", "I", false)
def t_SB : Nat → FieldType := fun k => match k with
  | 0 => (.array .byte)
  | 1 => .byte
  | 2 => .boolean
  | _ => .int
set_option maxRecDepth 100000 in
theorem nm_SB : ∀ a, a < 4 → ∀ b, b < 4 → a ≠ b → (T_SB a).2.1 ≠ (T_SB b).2.1 := by decide +kernel
theorem t_SB_ok : ∀ k, k < 4 → parseFieldDescriptor (T_SB k).2.2.1 = some (t_SB k) := by decide +kernel
abbrev ob_SB (h_this : Nat) (h_value : Nat) (i_coder : Int32) (i_maybeLatin1 : Int32) (i_count : Int32) : Nat × va_E := (h_this, .inr (8, [.ref h_value, .int i_coder, .int i_maybeLatin1, .int i_count]))
set_option maxRecDepth 100000 in
theorem in_SB : ∀ w ∈ u_ws R_SB T_SB 4, w ∈ tb := by
  intro w hw
  obtain ⟨k, hk, rfl⟩ := List.mem_map.mp hw
  have hk := List.mem_range.mp hk
  rcases (show k = 0 ∨ k = 1 ∨ k = 2 ∨ k = 3 by omega) with rfl | rfl | rfl | rfl
  · exact mem_t2 (i := 6) rfl rfl
  · exact mem_t2 (i := 8) rfl rfl
  · exact mem_t2 (i := 10) rfl rfl
  · exact mem_t2 (i := 12) rfl rfl
abbrev vwCl : List vw_C := [(R_Secd, T_Secd, 7), (R_Datum, T_Datum, 7), (R_Program, T_Program, 5), (R_Translator, T_Translator, 6), (R_Memory, T_Memory, 9), (R_Printer, T_Printer, 2), (R_Machine, T_Machine, 13), (R_Model, T_Model, 48), (R_SB, T_SB, 4)]
abbrev b_Secd_new : ByteArray := prog_1_method_1_code
def y_Secd_new : MethodName := ⟨R_Secd, "<init>", "(I)V"⟩
abbrev b_Secd_put : ByteArray := prog_1_method_2_code
def y_Secd_put : MethodName := ⟨R_Secd, "put", "(I)Z"⟩
abbrev b_Secd_erase : ByteArray := prog_1_method_3_code
def y_Secd_erase : MethodName := ⟨R_Secd, "erase", "()V"⟩
abbrev b_Secd_compile : ByteArray := prog_1_method_4_code
def y_Secd_compile : MethodName := ⟨R_Secd, "compile", "()I"⟩
abbrev b_Secd_code : ByteArray := prog_1_method_5_code
def y_Secd_code : MethodName := ⟨R_Secd, "code", "(I)I"⟩
abbrev b_Secd_begin : ByteArray := prog_1_method_6_code
def y_Secd_begin : MethodName := ⟨R_Secd, "begin", "(I)I"⟩
abbrev b_Secd_run : ByteArray := prog_1_method_7_code
def y_Secd_run : MethodName := ⟨R_Secd, "run", "(I)I"⟩
abbrev b_Secd_status : ByteArray := prog_1_method_8_code
def y_Secd_status : MethodName := ⟨R_Secd, "status", "()I"⟩
abbrev b_Secd_cycles : ByteArray := prog_1_method_9_code
def y_Secd_cycles : MethodName := ⟨R_Secd, "cycles", "()I"⟩
abbrev b_Secd_address : ByteArray := prog_1_method_10_code
def y_Secd_address : MethodName := ⟨R_Secd, "address", "()I"⟩
abbrev b_Secd_depth : ByteArray := prog_1_method_11_code
def y_Secd_depth : MethodName := ⟨R_Secd, "depth", "(I)I"⟩
abbrev b_Secd_live : ByteArray := prog_1_method_12_code
def y_Secd_live : MethodName := ⟨R_Secd, "live", "()I"⟩
abbrev b_Secd_used : ByteArray := prog_1_method_13_code
def y_Secd_used : MethodName := ⟨R_Secd, "used", "()I"⟩
abbrev b_Secd_collections : ByteArray := prog_1_method_14_code
def y_Secd_collections : MethodName := ⟨R_Secd, "collections", "()I"⟩
abbrev b_Secd_printed : ByteArray := prog_1_method_15_code
def y_Secd_printed : MethodName := ⟨R_Secd, "printed", "()I"⟩
abbrev b_Secd_character : ByteArray := prog_1_method_16_code
def y_Secd_character : MethodName := ⟨R_Secd, "character", "(I)I"⟩
abbrev b_Secd_isTextCharacter : ByteArray := prog_1_method_17_code
def y_Secd_isTextCharacter : MethodName := ⟨R_Secd, "isTextCharacter", "(I)Z"⟩
abbrev b_Secd_isDigit : ByteArray := prog_1_method_18_code
def y_Secd_isDigit : MethodName := ⟨R_Secd, "isDigit", "(I)Z"⟩
abbrev b_Secd_isLetter : ByteArray := prog_1_method_19_code
def y_Secd_isLetter : MethodName := ⟨R_Secd, "isLetter", "(I)Z"⟩
abbrev b_Names_withLetter : ByteArray := prog_5_method_2_code
def y_Names_withLetter : MethodName := ⟨R_Names, "withLetter", "(IC)I"⟩
abbrev b_Names_isLasting : ByteArray := prog_5_method_3_code
def y_Names_isLasting : MethodName := ⟨R_Names, "isLasting", "(I)Z"⟩
abbrev b_Names_append : ByteArray := prog_5_method_4_code
def y_Names_append : MethodName := ⟨R_Names, "append", "(Ljava/lang/StringBuilder;I)V"⟩
abbrev b_Op_opOf : ByteArray := prog_6_method_2_code
def y_Op_opOf : MethodName := ⟨R_Op, "opOf", "(I)I"⟩
abbrev b_Op_firstOf : ByteArray := prog_6_method_3_code
def y_Op_firstOf : MethodName := ⟨R_Op, "firstOf", "(I)I"⟩
abbrev b_Op_secondOf : ByteArray := prog_6_method_4_code
def y_Op_secondOf : MethodName := ⟨R_Op, "secondOf", "(I)I"⟩
abbrev b_Op_cyclesOf : ByteArray := prog_6_method_5_code
def y_Op_cyclesOf : MethodName := ⟨R_Op, "cyclesOf", "(I)I"⟩
abbrev b_Op_cellsOf : ByteArray := prog_6_method_6_code
def y_Op_cellsOf : MethodName := ⟨R_Op, "cellsOf", "(I)I"⟩
abbrev b_Datum_new : ByteArray := prog_2_method_1_code
def y_Datum_new : MethodName := ⟨R_Datum, "<init>", "()V"⟩
abbrev b_Datum_read : ByteArray := prog_2_method_2_code
def y_Datum_read : MethodName := ⟨R_Datum, "read", "([CI)Z"⟩
abbrev b_Datum_copyFrom : ByteArray := prog_2_method_3_code
def y_Datum_copyFrom : MethodName := ⟨R_Datum, "copyFrom", "(LSecdProcessor$Datum;)V"⟩
abbrev b_Datum_kindOf : ByteArray := prog_2_method_4_code
def y_Datum_kindOf : MethodName := ⟨R_Datum, "kindOf", "(I)I"⟩
abbrev b_Datum_valueOf : ByteArray := prog_2_method_5_code
def y_Datum_valueOf : MethodName := ⟨R_Datum, "valueOf", "(I)I"⟩
abbrev b_Datum_followerOf : ByteArray := prog_2_method_6_code
def y_Datum_followerOf : MethodName := ⟨R_Datum, "followerOf", "(I)I"⟩
abbrev b_Datum_firstPartOf : ByteArray := prog_2_method_7_code
def y_Datum_firstPartOf : MethodName := ⟨R_Datum, "firstPartOf", "(I)I"⟩
abbrev b_Datum_countFrom : ByteArray := prog_2_method_8_code
def y_Datum_countFrom : MethodName := ⟨R_Datum, "countFrom", "(I)I"⟩
abbrev b_Datum_partBehind : ByteArray := prog_2_method_9_code
def y_Datum_partBehind : MethodName := ⟨R_Datum, "partBehind", "(II)I"⟩
abbrev b_Datum_readOne : ByteArray := prog_2_method_10_code
def y_Datum_readOne : MethodName := ⟨R_Datum, "readOne", "([CII)I"⟩
abbrev b_Datum_openList : ByteArray := prog_2_method_11_code
def y_Datum_openList : MethodName := ⟨R_Datum, "openList", "()Z"⟩
abbrev b_Datum_closeList : ByteArray := prog_2_method_12_code
def y_Datum_closeList : MethodName := ⟨R_Datum, "closeList", "()Z"⟩
abbrev b_Datum_readName : ByteArray := prog_2_method_13_code
def y_Datum_readName : MethodName := ⟨R_Datum, "readName", "([CII)I"⟩
abbrev b_Datum_readNumber : ByteArray := prog_2_method_14_code
def y_Datum_readNumber : MethodName := ⟨R_Datum, "readNumber", "([CII)I"⟩
abbrev b_Datum_addNode : ByteArray := prog_2_method_15_code
def y_Datum_addNode : MethodName := ⟨R_Datum, "addNode", "(II)Z"⟩
abbrev b_Datum_addPart : ByteArray := prog_2_method_16_code
def y_Datum_addPart : MethodName := ⟨R_Datum, "addPart", "(II)V"⟩
abbrev b_Program_new : ByteArray := prog_8_method_1_code
def y_Program_new : MethodName := ⟨R_Program, "<init>", "()V"⟩
abbrev b_Program_clear : ByteArray := prog_8_method_2_code
def y_Program_clear : MethodName := ⟨R_Program, "clear", "()V"⟩
abbrev b_Program_copyFrom : ByteArray := prog_8_method_3_code
def y_Program_copyFrom : MethodName := ⟨R_Program, "copyFrom", "(LSecdProcessor$Program;)V"⟩
abbrev b_Program_wordAt : ByteArray := prog_8_method_4_code
def y_Program_wordAt : MethodName := ⟨R_Program, "wordAt", "(I)I"⟩
abbrev b_Program_constantNode : ByteArray := prog_8_method_5_code
def y_Program_constantNode : MethodName := ⟨R_Program, "constantNode", "(I)I"⟩
abbrev b_Program_addConstant : ByteArray := prog_8_method_6_code
def y_Program_addConstant : MethodName := ⟨R_Program, "addConstant", "(I)I"⟩
abbrev b_Program_emit : ByteArray := prog_8_method_7_code
def y_Program_emit : MethodName := ⟨R_Program, "emit", "(III)I"⟩
abbrev b_Program_addAddresses : ByteArray := prog_8_method_8_code
def y_Program_addAddresses : MethodName := ⟨R_Program, "addAddresses", "(III)V"⟩
abbrev b_Translator_new : ByteArray := prog_9_method_1_code
def y_Translator_new : MethodName := ⟨R_Translator, "<init>", "(LSecdProcessor$Program;)V"⟩
abbrev b_Translator_translate : ByteArray := prog_9_method_2_code
def y_Translator_translate : MethodName := ⟨R_Translator, "translate", "()I"⟩
abbrev b_Translator_expression : ByteArray := prog_9_method_3_code
def y_Translator_expression : MethodName := ⟨R_Translator, "expression", "(I)V"⟩
abbrev b_Translator_constant : ByteArray := prog_9_method_4_code
def y_Translator_constant : MethodName := ⟨R_Translator, "constant", "(I)V"⟩
abbrev b_Translator_variable : ByteArray := prog_9_method_5_code
def y_Translator_variable : MethodName := ⟨R_Translator, "variable", "(I)V"⟩
abbrev b_Translator_placeIn : ByteArray := prog_9_method_6_code
def y_Translator_placeIn : MethodName := ⟨R_Translator, "placeIn", "(II)I"⟩
abbrev b_Translator_list : ByteArray := prog_9_method_7_code
def y_Translator_list : MethodName := ⟨R_Translator, "list", "(I)V"⟩
abbrev b_Translator_formOf : ByteArray := prog_9_method_8_code
def y_Translator_formOf : MethodName := ⟨R_Translator, "formOf", "(I)I"⟩
abbrev b_Translator_hasItsParts : ByteArray := prog_9_method_9_code
def y_Translator_hasItsParts : MethodName := ⟨R_Translator, "hasItsParts", "(II)Z"⟩
abbrev b_Translator_isListOfNames : ByteArray := prog_9_method_10_code
def y_Translator_isListOfNames : MethodName := ⟨R_Translator, "isListOfNames", "(I)Z"⟩
abbrev b_Translator_areBindings : ByteArray := prog_9_method_11_code
def y_Translator_areBindings : MethodName := ⟨R_Translator, "areBindings", "(I)Z"⟩
abbrev b_Translator_form : ByteArray := prog_9_method_12_code
def y_Translator_form : MethodName := ⟨R_Translator, "form", "(II)V"⟩
abbrev b_Translator_operation : ByteArray := prog_9_method_13_code
def y_Translator_operation : MethodName := ⟨R_Translator, "operation", "(II)V"⟩
abbrev b_Translator_choice : ByteArray := prog_9_method_14_code
def y_Translator_choice : MethodName := ⟨R_Translator, "choice", "(I)V"⟩
abbrev b_Translator_function : ByteArray := prog_9_method_15_code
def y_Translator_function : MethodName := ⟨R_Translator, "function", "(II)V"⟩
abbrev b_Translator_recursion : ByteArray := prog_9_method_16_code
def y_Translator_recursion : MethodName := ⟨R_Translator, "recursion", "(II)V"⟩
abbrev b_Translator_arguments : ByteArray := prog_9_method_17_code
def y_Translator_arguments : MethodName := ⟨R_Translator, "arguments", "(I)V"⟩
abbrev b_Translator_bindingValues : ByteArray := prog_9_method_18_code
def y_Translator_bindingValues : MethodName := ⟨R_Translator, "bindingValues", "(I)V"⟩
abbrev b_Translator_enterFrame : ByteArray := prog_9_method_19_code
def y_Translator_enterFrame : MethodName := ⟨R_Translator, "enterFrame", "(I)V"⟩
abbrev b_Translator_leaveFrame : ByteArray := prog_9_method_20_code
def y_Translator_leaveFrame : MethodName := ⟨R_Translator, "leaveFrame", "()V"⟩
abbrev b_Memory_new : ByteArray := prog_4_method_1_code
def y_Memory_new : MethodName := ⟨R_Memory, "<init>", "(I)V"⟩
abbrev b_Memory_clear : ByteArray := prog_4_method_2_code
def y_Memory_clear : MethodName := ⟨R_Memory, "clear", "()V"⟩
abbrev b_Memory_setName : ByteArray := prog_4_method_3_code
def y_Memory_setName : MethodName := ⟨R_Memory, "setName", "(II)V"⟩
abbrev b_Memory_take : ByteArray := prog_4_method_4_code
def y_Memory_take : MethodName := ⟨R_Memory, "take", "(III)I"⟩
abbrev b_Memory_newNumber : ByteArray := prog_4_method_5_code
def y_Memory_newNumber : MethodName := ⟨R_Memory, "newNumber", "(I)I"⟩
abbrev b_Memory_nameCell : ByteArray := prog_4_method_6_code
def y_Memory_nameCell : MethodName := ⟨R_Memory, "nameCell", "(I)I"⟩
abbrev b_Memory_newPair : ByteArray := prog_4_method_7_code
def y_Memory_newPair : MethodName := ⟨R_Memory, "newPair", "(II)I"⟩
abbrev b_Memory_newClosure : ByteArray := prog_4_method_8_code
def y_Memory_newClosure : MethodName := ⟨R_Memory, "newClosure", "(II)I"⟩
abbrev b_Memory_newMark : ByteArray := prog_4_method_9_code
def y_Memory_newMark : MethodName := ⟨R_Memory, "newMark", "(II)I"⟩
abbrev b_Memory_kindOf : ByteArray := prog_4_method_10_code
def y_Memory_kindOf : MethodName := ⟨R_Memory, "kindOf", "(I)I"⟩
abbrev b_Memory_isPair : ByteArray := prog_4_method_11_code
def y_Memory_isPair : MethodName := ⟨R_Memory, "isPair", "(I)Z"⟩
abbrev b_Memory_valueOf : ByteArray := prog_4_method_12_code
def y_Memory_valueOf : MethodName := ⟨R_Memory, "valueOf", "(I)I"⟩
abbrev b_Memory_headOf : ByteArray := prog_4_method_13_code
def y_Memory_headOf : MethodName := ⟨R_Memory, "headOf", "(I)I"⟩
abbrev b_Memory_tailOf : ByteArray := prog_4_method_14_code
def y_Memory_tailOf : MethodName := ⟨R_Memory, "tailOf", "(I)I"⟩
abbrev b_Memory_setHead : ByteArray := prog_4_method_15_code
def y_Memory_setHead : MethodName := ⟨R_Memory, "setHead", "(II)V"⟩
abbrev b_Memory_hasAddress : ByteArray := prog_4_method_16_code
def y_Memory_hasAddress : MethodName := ⟨R_Memory, "hasAddress", "(I)Z"⟩
abbrev b_Memory_addressOf : ByteArray := prog_4_method_17_code
def y_Memory_addressOf : MethodName := ⟨R_Memory, "addressOf", "(I)I"⟩
abbrev b_Memory_cellOf : ByteArray := prog_4_method_18_code
def y_Memory_cellOf : MethodName := ⟨R_Memory, "cellOf", "(I)I"⟩
abbrev b_Memory_pairBehind : ByteArray := prog_4_method_19_code
def y_Memory_pairBehind : MethodName := ⟨R_Memory, "pairBehind", "(II)I"⟩
abbrev b_Memory_pairsFrom : ByteArray := prog_4_method_20_code
def y_Memory_pairsFrom : MethodName := ⟨R_Memory, "pairsFrom", "(I)I"⟩
abbrev b_Memory_marksFrom : ByteArray := prog_4_method_21_code
def y_Memory_marksFrom : MethodName := ⟨R_Memory, "marksFrom", "(I)I"⟩
abbrev b_Memory_beginReach : ByteArray := prog_4_method_22_code
def y_Memory_beginReach : MethodName := ⟨R_Memory, "beginReach", "()V"⟩
abbrev b_Memory_reach : ByteArray := prog_4_method_23_code
def y_Memory_reach : MethodName := ⟨R_Memory, "reach", "(I)V"⟩
abbrev b_Memory_spreadReach : ByteArray := prog_4_method_24_code
def y_Memory_spreadReach : MethodName := ⟨R_Memory, "spreadReach", "()I"⟩
abbrev b_Memory_freeUnreached : ByteArray := prog_4_method_25_code
def y_Memory_freeUnreached : MethodName := ⟨R_Memory, "freeUnreached", "()V"⟩
abbrev b_Machine_new : ByteArray := prog_3_method_1_code
def y_Machine_new : MethodName := ⟨R_Machine, "<init>", "(LSecdProcessor$Program;I)V"⟩
abbrev b_Machine_hasNoRun : ByteArray := prog_3_method_2_code
def y_Machine_hasNoRun : MethodName := ⟨R_Machine, "hasNoRun", "()Z"⟩
abbrev b_Machine_dropRun : ByteArray := prog_3_method_3_code
def y_Machine_dropRun : MethodName := ⟨R_Machine, "dropRun", "()V"⟩
abbrev b_Machine_cellsFor : ByteArray := prog_3_method_4_code
def y_Machine_cellsFor : MethodName := ⟨R_Machine, "cellsFor", "(LSecdProcessor$Datum;)I"⟩
abbrev b_Machine_cellsOf : ByteArray := prog_3_method_5_code
def y_Machine_cellsOf : MethodName := ⟨R_Machine, "cellsOf", "(LSecdProcessor$Datum;I)I"⟩
abbrev b_Machine_cellFor : ByteArray := prog_3_method_6_code
def y_Machine_cellFor : MethodName := ⟨R_Machine, "cellFor", "(LSecdProcessor$Memory;LSecdProcessor$Datum;I)I"⟩
abbrev b_Machine_start : ByteArray := prog_3_method_7_code
def y_Machine_start : MethodName := ⟨R_Machine, "start", "(LSecdProcessor$Datum;I)V"⟩
abbrev b_Machine_advance : ByteArray := prog_3_method_8_code
def y_Machine_advance : MethodName := ⟨R_Machine, "advance", "(I)I"⟩
abbrev b_Machine_step : ByteArray := prog_3_method_9_code
def y_Machine_step : MethodName := ⟨R_Machine, "step", "()Z"⟩
abbrev b_Machine_makeRoom : ByteArray := prog_3_method_10_code
def y_Machine_makeRoom : MethodName := ⟨R_Machine, "makeRoom", "(I)Z"⟩
abbrev b_Machine_reachLive : ByteArray := prog_3_method_11_code
def y_Machine_reachLive : MethodName := ⟨R_Machine, "reachLive", "()I"⟩
abbrev b_Machine_execute : ByteArray := prog_3_method_12_code
def y_Machine_execute : MethodName := ⟨R_Machine, "execute", "(I)V"⟩
abbrev b_Machine_load : ByteArray := prog_3_method_13_code
def y_Machine_load : MethodName := ⟨R_Machine, "load", "(II)V"⟩
abbrev b_Machine_takeApart : ByteArray := prog_3_method_14_code
def y_Machine_takeApart : MethodName := ⟨R_Machine, "takeApart", "(III)V"⟩
abbrev b_Machine_truth : ByteArray := prog_3_method_15_code
def y_Machine_truth : MethodName := ⟨R_Machine, "truth", "(Z)I"⟩
abbrev b_Machine_isAtom : ByteArray := prog_3_method_16_code
def y_Machine_isAtom : MethodName := ⟨R_Machine, "isAtom", "(I)Z"⟩
abbrev b_Machine_isSameAtom : ByteArray := prog_3_method_17_code
def y_Machine_isSameAtom : MethodName := ⟨R_Machine, "isSameAtom", "(II)Z"⟩
abbrev b_Machine_count : ByteArray := prog_3_method_18_code
def y_Machine_count : MethodName := ⟨R_Machine, "count", "(IIII)V"⟩
abbrev b_Machine_calculate : ByteArray := prog_3_method_19_code
def y_Machine_calculate : MethodName := ⟨R_Machine, "calculate", "(III)I"⟩
abbrev b_Machine_apply : ByteArray := prog_3_method_20_code
def y_Machine_apply : MethodName := ⟨R_Machine, "apply", "(III)V"⟩
abbrev b_Machine_applyRecursively : ByteArray := prog_3_method_21_code
def y_Machine_applyRecursively : MethodName := ⟨R_Machine, "applyRecursively", "(III)V"⟩
abbrev b_Machine_enter : ByteArray := prog_3_method_22_code
def y_Machine_enter : MethodName := ⟨R_Machine, "enter", "(I)V"⟩
abbrev b_Machine_giveBack : ByteArray := prog_3_method_23_code
def y_Machine_giveBack : MethodName := ⟨R_Machine, "giveBack", "(I)V"⟩
abbrev b_Printer_new : ByteArray := prog_7_method_1_code
def y_Printer_new : MethodName := ⟨R_Printer, "<init>", "(LSecdProcessor$Memory;)V"⟩
abbrev b_Printer_print : ByteArray := prog_7_method_2_code
def y_Printer_print : MethodName := ⟨R_Printer, "print", "(I)V"⟩
abbrev b_Printer_isFull : ByteArray := prog_7_method_3_code
def y_Printer_isFull : MethodName := ⟨R_Printer, "isFull", "()Z"⟩
abbrev b_Printer_show : ByteArray := prog_7_method_4_code
def y_Printer_show : MethodName := ⟨R_Printer, "show", "(II)V"⟩
abbrev b_Printer_showPair : ByteArray := prog_7_method_5_code
def y_Printer_showPair : MethodName := ⟨R_Printer, "showPair", "(II)V"⟩
abbrev b_Model_new : ByteArray := prog_11_method_1_code
def y_Model_new : MethodName := ⟨R_Model, "<init>", "(I)V"⟩
abbrev b_Model_digit : ByteArray := prog_11_method_2_code
def y_Model_digit : MethodName := ⟨R_Model, "digit", "(I)Z"⟩
abbrev b_Model_letter : ByteArray := prog_11_method_3_code
def y_Model_letter : MethodName := ⟨R_Model, "letter", "(I)Z"⟩
abbrev b_Model_put : ByteArray := prog_11_method_4_code
def y_Model_put : MethodName := ⟨R_Model, "put", "(I)Z"⟩
abbrev b_Model_erase : ByteArray := prog_11_method_5_code
def y_Model_erase : MethodName := ⟨R_Model, "erase", "()V"⟩
abbrev b_Model_node : ByteArray := prog_11_method_6_code
def y_Model_node : MethodName := ⟨R_Model, "node", "(III)I"⟩
abbrev b_Model_end : ByteArray := prog_11_method_7_code
def y_Model_end : MethodName := ⟨R_Model, "end", "(IZ)I"⟩
abbrev b_Model_read : ByteArray := prog_11_method_8_code
def y_Model_read : MethodName := ⟨R_Model, "read", "()Z"⟩
abbrev b_Model_worth : ByteArray := prog_11_method_9_code
def y_Model_worth : MethodName := ⟨R_Model, "worth", "(IIZZ)I"⟩
abbrev b_Model_parts : ByteArray := prog_11_method_10_code
def y_Model_parts : MethodName := ⟨R_Model, "parts", "(I)I"⟩
abbrev b_Model_part : ByteArray := prog_11_method_11_code
def y_Model_part : MethodName := ⟨R_Model, "part", "(II)I"⟩
abbrev b_Model_later : ByteArray := prog_11_method_12_code
def y_Model_later : MethodName := ⟨R_Model, "later", "(III)V"⟩
abbrev b_Model_emit : ByteArray := prog_11_method_13_code
def y_Model_emit : MethodName := ⟨R_Model, "emit", "(III)I"⟩
abbrev b_Model_constantOf : ByteArray := prog_11_method_14_code
def y_Model_constantOf : MethodName := ⟨R_Model, "constantOf", "(I)V"⟩
abbrev b_Model_frame : ByteArray := prog_11_method_15_code
def y_Model_frame : MethodName := ⟨R_Model, "frame", "(IZI)I"⟩
abbrev b_Model_form : ByteArray := prog_11_method_16_code
def y_Model_form : MethodName := ⟨R_Model, "form", "(I)I"⟩
abbrev b_Model_shaped : ByteArray := prog_11_method_17_code
def y_Model_shaped : MethodName := ⟨R_Model, "shaped", "(II)Z"⟩
abbrev b_Model_load : ByteArray := prog_11_method_18_code
def y_Model_load : MethodName := ⟨R_Model, "load", "(II)Z"⟩
abbrev b_Model_arguments : ByteArray := prog_11_method_19_code
def y_Model_arguments : MethodName := ⟨R_Model, "arguments", "(IIZI)V"⟩
abbrev b_Model_body : ByteArray := prog_11_method_20_code
def y_Model_body : MethodName := ⟨R_Model, "body", "(II)V"⟩
abbrev b_Model_choice : ByteArray := prog_11_method_21_code
def y_Model_choice : MethodName := ⟨R_Model, "choice", "(II)V"⟩
abbrev b_Model_expression : ByteArray := prog_11_method_22_code
def y_Model_expression : MethodName := ⟨R_Model, "expression", "(II)I"⟩
abbrev b_Model_plain : ByteArray := prog_11_method_23_code
def y_Model_plain : MethodName := ⟨R_Model, "plain", "(III)V"⟩
abbrev b_Model_translate : ByteArray := prog_11_method_24_code
def y_Model_translate : MethodName := ⟨R_Model, "translate", "()I"⟩
abbrev b_Model_compile : ByteArray := prog_11_method_25_code
def y_Model_compile : MethodName := ⟨R_Model, "compile", "()I"⟩
abbrev b_Model_code : ByteArray := prog_11_method_26_code
def y_Model_code : MethodName := ⟨R_Model, "code", "(I)I"⟩
abbrev b_Model_make : ByteArray := prog_11_method_27_code
def y_Model_make : MethodName := ⟨R_Model, "make", "(III)I"⟩
abbrev b_Model_bulk : ByteArray := prog_11_method_28_code
def y_Model_bulk : MethodName := ⟨R_Model, "bulk", "(I)I"⟩
abbrev b_Model_under : ByteArray := prog_11_method_29_code
def y_Model_under : MethodName := ⟨R_Model, "under", "(I)I"⟩
abbrev b_Model_build : ByteArray := prog_11_method_30_code
def y_Model_build : MethodName := ⟨R_Model, "build", "(I)I"⟩
abbrev b_Model_begin : ByteArray := prog_11_method_31_code
def y_Model_begin : MethodName := ⟨R_Model, "begin", "(I)I"⟩
abbrev b_Model_reach : ByteArray := prog_11_method_32_code
def y_Model_reach : MethodName := ⟨R_Model, "reach", "()I"⟩
abbrev b_Model_collect : ByteArray := prog_11_method_33_code
def y_Model_collect : MethodName := ⟨R_Model, "collect", "()V"⟩
abbrev b_Model_run : ByteArray := prog_11_method_34_code
def y_Model_run : MethodName := ⟨R_Model, "run", "(I)I"⟩
abbrev b_Model_pair : ByteArray := prog_11_method_35_code
def y_Model_pair : MethodName := ⟨R_Model, "pair", "(I)Z"⟩
abbrev b_Model_push : ByteArray := prog_11_method_36_code
def y_Model_push : MethodName := ⟨R_Model, "push", "(II)V"⟩
abbrev b_Model_step : ByteArray := prog_11_method_37_code
def y_Model_step : MethodName := ⟨R_Model, "step", "(III)I"⟩
abbrev b_Model_fetch : ByteArray := prog_11_method_38_code
def y_Model_fetch : MethodName := ⟨R_Model, "fetch", "(II)I"⟩
abbrev b_Model_reckon : ByteArray := prog_11_method_39_code
def y_Model_reckon : MethodName := ⟨R_Model, "reckon", "(IIII)I"⟩
abbrev b_Model_leap : ByteArray := prog_11_method_40_code
def y_Model_leap : MethodName := ⟨R_Model, "leap", "(III)I"⟩
abbrev b_Model_status : ByteArray := prog_11_method_41_code
def y_Model_status : MethodName := ⟨R_Model, "status", "()I"⟩
abbrev b_Model_cycles : ByteArray := prog_11_method_42_code
def y_Model_cycles : MethodName := ⟨R_Model, "cycles", "()I"⟩
abbrev b_Model_address : ByteArray := prog_11_method_43_code
def y_Model_address : MethodName := ⟨R_Model, "address", "()I"⟩
abbrev b_Model_depth : ByteArray := prog_11_method_44_code
def y_Model_depth : MethodName := ⟨R_Model, "depth", "(I)I"⟩
abbrev b_Model_live : ByteArray := prog_11_method_45_code
def y_Model_live : MethodName := ⟨R_Model, "live", "()I"⟩
abbrev b_Model_used : ByteArray := prog_11_method_46_code
def y_Model_used : MethodName := ⟨R_Model, "used", "()I"⟩
abbrev b_Model_collections : ByteArray := prog_11_method_47_code
def y_Model_collections : MethodName := ⟨R_Model, "collections", "()I"⟩
abbrev b_Model_show : ByteArray := prog_11_method_48_code
def y_Model_show : MethodName := ⟨R_Model, "show", "(I)V"⟩
abbrev b_Model_digits : ByteArray := prog_11_method_49_code
def y_Model_digits : MethodName := ⟨R_Model, "digits", "(JII)V"⟩
abbrev b_Model_simple : ByteArray := prog_11_method_50_code
def y_Model_simple : MethodName := ⟨R_Model, "simple", "(I)V"⟩
abbrev b_Model_print : ByteArray := prog_11_method_51_code
def y_Model_print : MethodName := ⟨R_Model, "print", "()V"⟩
abbrev b_Model_close : ByteArray := prog_11_method_52_code
def y_Model_close : MethodName := ⟨R_Model, "close", "(I)V"⟩
abbrev b_Model_printed : ByteArray := prog_11_method_53_code
def y_Model_printed : MethodName := ⟨R_Model, "printed", "()I"⟩
abbrev b_Model_character : ByteArray := prog_11_method_54_code
def y_Model_character : MethodName := ⟨R_Model, "character", "(I)I"⟩
def nw : List Cond := [.methodLinkNest R_Secd 19 y_Datum_new R_Secd, .methodLinkNest R_Secd 26 y_Program_new R_Secd, .methodLinkNest R_Program 11 y_Datum_new R_Secd, .methodLinkNest R_Datum 51 y_Secd_isLetter R_Secd, .methodLinkNest R_Datum 71 y_Secd_isDigit R_Secd]

def nwK (w : Cond) : Bool := match w with
  | .methodLinkNest .. => true
  | _ => false
theorem nw_ok : ∀ w ∈ nw, nwK w = true := by decide +kernel
theorem nw_warm {w : Cond} (h : nwK w = true) {s U : State} (hW : s.WarmedH U.vm) (hz : va_Nw w s) : va_Nw w U := by
  cases w <;> first | exact va_Nw.warmM hW hz | (exact absurd h (by simp [nwK]))
theorem nw_same {w : Cond} (h : nwK w = true) {s U : State} (hv : s.vm = U.vm) (hz : va_Nw w s) : va_Nw w U := by
  cases w <;> first | exact va_Nw.same rfl hv hz | (exact absurd h (by simp [nwK]))
def cycL : List Int32 := [3, 2, 3, 6, 4, 2, 7, 3, 2, 2, 2, 2, 3, 3, 4, 4, 4, 6, 8, 8, 1]
def celL : List Int32 := [1, 1, 2, 4, 1, 1, 3, 1, 0, 1, 1, 1, 2, 1, 1, 2, 2, 2, 2, 2, 0]
/-- a static row of ints that nobody writes -/
def gt (C n : String) (N : Nat) (L : List Int32) (A : Nat → Prop) (U : State) (H : Heap) : Prop := ∃ t : Nat, va_Z C n "[I" (.ref t) A U H ∧ va_T .int t N (fun j => .int (L.getD j 0)) A U H
theorem gt.go {C n : String} {N : Nat} {L : List Int32} {A B : Nat → Prop} {s U : State} {H : Heap} (h : gt C n N L A s s.heap) (hv : s.vm.Alike U.vm) (hq : ∀ a : Nat, a < s.heap.size → ¬ A a → H[a]? = s.heap[a]?) (hAB : ∀ q, B q → A q) : gt C n N L B U H := by
  obtain ⟨t, h1, h2⟩ := h
  exact ⟨t, ((va_Z.moved hv h1).kept hq).narrow hAB, ((va_T.moved hv h2).kept hq).narrow hAB⟩
def gtB (C n : String) (N : Nat) (L : List Int32) (A : Nat → Prop) (U : State) (H : Heap) : Prop := ∃ t : Nat, va_Z C n "[B" (.ref t) A U H ∧ va_T .byte t N (fun j => .int (L.getD j 0)) A U H
theorem gtB.go {C n : String} {N : Nat} {L : List Int32} {A B : Nat → Prop} {s U : State} {H : Heap} (h : gtB C n N L A s s.heap) (hv : s.vm.Alike U.vm) (hq : ∀ a : Nat, a < s.heap.size → ¬ A a → H[a]? = s.heap[a]?) (hAB : ∀ q, B q → A q) : gtB C n N L B U H := by
  obtain ⟨t, h1, h2⟩ := h
  exact ⟨t, ((va_Z.moved hv h1).kept hq).narrow hAB, ((va_T.moved hv h2).kept hq).narrow hAB⟩
def dgO : List Int32 := [48, 49, 50, 51, 52, 53, 54, 55, 56, 57, 48, 49, 50, 51, 52, 53, 54, 55, 56, 57, 48, 49, 50, 51, 52, 53, 54, 55, 56, 57, 48, 49, 50, 51, 52, 53, 54, 55, 56, 57, 48, 49, 50, 51, 52, 53, 54, 55, 56, 57, 48, 49, 50, 51, 52, 53, 54, 55, 56, 57, 48, 49, 50, 51, 52, 53, 54, 55, 56, 57, 48, 49, 50, 51, 52, 53, 54, 55, 56, 57, 48, 49, 50, 51, 52, 53, 54, 55, 56, 57, 48, 49, 50, 51, 52, 53, 54, 55, 56, 57]
def dgT : List Int32 := [48, 48, 48, 48, 48, 48, 48, 48, 48, 48, 49, 49, 49, 49, 49, 49, 49, 49, 49, 49, 50, 50, 50, 50, 50, 50, 50, 50, 50, 50, 51, 51, 51, 51, 51, 51, 51, 51, 51, 51, 52, 52, 52, 52, 52, 52, 52, 52, 52, 52, 53, 53, 53, 53, 53, 53, 53, 53, 53, 53, 54, 54, 54, 54, 54, 54, 54, 54, 54, 54, 55, 55, 55, 55, 55, 55, 55, 55, 55, 55, 56, 56, 56, 56, 56, 56, 56, 56, 56, 56, 57, 57, 57, 57, 57, 57, 57, 57, 57, 57]
def txS : List String := ["car cdr atom cons eq leq add sub mul div rem quote if lambda let letrec", "fn", " . "]
def lenS : List Nat := [71, 2, 3]
def bytS : List (List Int32) := [[99, 97, 114, 32, 99, 100, 114, 32, 97, 116, 111, 109, 32, 99, 111, 110, 115, 32, 101, 113, 32, 108, 101, 113, 32, 97, 100, 100, 32, 115, 117, 98, 32, 109, 117, 108, 32, 100, 105, 118, 32, 114, 101, 109, 32, 113, 117, 111, 116, 101, 32, 105, 102, 32, 108, 97, 109, 98, 100, 97, 32, 108, 101, 116, 32, 108, 101, 116, 114, 101, 99], [102, 110], [32, 46, 32]]
/-- the text constants -/
def gk (adK adV : Nat → Nat) (A : Nat → Prop) (U : State) (H : Heap) : Prop := vk_S 3 lenS bytS adK adV A U H ∧ vk_R R_Translator 36 "car cdr atom cons eq leq add sub mul div rem quote if lambda let letrec" (adK 0) U ∧ vk_R R_Printer 57 "fn" (adK 1) U ∧ vk_R R_Printer 75 " . " (adK 2) U
theorem gk.blind {adK adV : Nat → Nat} {A : Nat → Prop} {U : State} {g : JFrame} {mk : MethodId} {a : Array Value} (h : gk adK adV A U U.heap) : gk adK adV A (U.calling g mk a) (U.calling g mk a).heap :=
  ⟨vk_S.moved (u := U) (U := U.calling g mk a) (Vm.Alike.refl U.vm) h.1, vk_R.same (u := U) rfl h.2.1, vk_R.same (u := U) rfl h.2.2.1, vk_R.same (u := U) rfl h.2.2.2⟩
theorem gk.call {adK adV : Nat → Nat} {A B : Nat → Prop} {s U : State} {H : Heap} {locs : List Loc} (h : gk adK adV A s s.heap) (hW : s.WarmedH U.vm) (hU : U.heap = H) (hS : va_S A s.heap H locs) (hF : ∀ q, B q → A q) : gk adK adV B U U.heap := by
  subst hU
  exact ⟨((vk_S.moved hW.alike h.1).kept hS.2.1).narrow hF, vk_R.warm hW h.2.1, vk_R.warm hW h.2.2.1, vk_R.warm hW h.2.2.2⟩
/-- what the library's own methods use: String.COMPACT_STRINGS, Integer's digits -/
def gj (A : Nat → Prop) (U : State) (H : Heap) : Prop := va_Z "java/lang/String" "COMPACT_STRINGS" "Z" (.int 1) A U H ∧ gtB "java/lang/Integer" "DigitOnes" 100 dgO A U H ∧ gtB "java/lang/Integer" "DigitTens" 100 dgT A U H ∧ va_Zq "jdk/internal/util/Preconditions" "SIOOBE_FORMATTER" "Ljava/util/function/BiFunction;" A U H ∧ ∃ adK adV : Nat → Nat, gk adK adV A U H
theorem gj.blind {A : Nat → Prop} {U : State} {g : JFrame} {mk : MethodId} {a : Array Value} (h : gj A U U.heap) : gj A (U.calling g mk a) (U.calling g mk a).heap := by
  obtain ⟨h1, h2, h3, hq, adK, adV, h4⟩ := h
  exact ⟨va_Z.moved (u := U) (U := U.calling g mk a) (Vm.Alike.refl U.vm) h1, h2.go (U := U.calling g mk a) (Vm.Alike.refl U.vm) (fun _ _ _ => rfl) (fun _ h => h), h3.go (U := U.calling g mk a) (Vm.Alike.refl U.vm) (fun _ _ _ => rfl) (fun _ h => h), va_Zq.moved (u := U) (U := U.calling g mk a) (Vm.Alike.refl U.vm) hq, adK, adV, gk.blind h4⟩
theorem gj.call {A B : Nat → Prop} {s U : State} {H : Heap} {locs : List Loc} (h : gj A s s.heap) (hW : s.WarmedH U.vm) (hU : U.heap = H) (hS : va_S A s.heap H locs) (hF : ∀ q, B q → A q) : gj B U U.heap := by
  obtain ⟨h1, h2, h3, hq, adK, adV, h4⟩ := h
  refine ⟨?_, ?_, ?_, ?_, adK, adV, gk.call h4 hW hU hS hF⟩
  · subst hU
    exact ((va_Z.moved hW.alike h1).kept hS.2.1).narrow hF
  · subst hU
    exact h2.go hW.alike hS.2.1 hF
  · subst hU
    exact h3.go hW.alike hS.2.1 hF
  · subst hU
    exact ((va_Zq.moved hW.alike hq).kept hS.2.1).narrow hF
/-- what every method may use of the tables and of the static rows -/
def gb (A : Nat → Prop) (U : State) (H : Heap) : Prop := (∀ w ∈ nw, va_Nw w U) ∧ gt R_Op "CYCLES" 21 cycL A U H ∧ gt R_Op "CELLS" 21 celL A U H ∧ gj A U H
theorem gb.blind {A : Nat → Prop} {U : State} {g : JFrame} {mk : MethodId} {a : Array Value} (h : gb A U U.heap) : gb A (U.calling g mk a) (U.calling g mk a).heap :=
  ⟨fun w hw => nw_same (s := U) (U := U.calling g mk a) (nw_ok w hw) rfl (h.1 w hw), h.2.1.go (U := U.calling g mk a) (Vm.Alike.refl U.vm) (fun _ _ _ => rfl) (fun _ h => h), h.2.2.1.go (U := U.calling g mk a) (Vm.Alike.refl U.vm) (fun _ _ _ => rfl) (fun _ h => h), gj.blind h.2.2.2⟩
theorem gb.call {A B : Nat → Prop} {s U : State} {H : Heap} {locs : List Loc} (h : gb A s s.heap) (hW : s.WarmedH U.vm) (hU : U.heap = H) (hS : va_S A s.heap H locs) (hF : ∀ q, B q → A q) : gb B U U.heap := by
  refine ⟨fun w hw => nw_warm (nw_ok w hw) hW (h.1 w hw), ?_, ?_, gj.call h.2.2.2 hW hU hS hF⟩
  · subst hU
    exact h.2.1.go hW.alike hS.2.1 hF
  · subst hU
    exact h.2.2.1.go hW.alike hS.2.1 hF
theorem gb_nw {A : Nat → Prop} {U : State} {H : Heap} (i : Nat) {w : Cond} (hi : nw[i]? = some w) (h : gb A U H) : va_Nw w U := h.1 w (List.mem_of_getElem? hi)
abbrev PRE (D : va_G) (cl : List vw_C) (tys : List (ClassId × FieldType)) (ws : va_W) (sz : Nat) (A : Nat → Prop) : State → Prop := fun U => U.heap.size = sz ∧ va_P D cl ws U.heap ∧ va_K D cl tys U ∧ va_D (fun _ => True) ws ∧ gb A U U.heap
theorem pre_blind {av : List Value} {D : va_G} {cl : List vw_C} {tys : List (ClassId × FieldType)} {ws : va_W} {sz : Nat} {A : Nat → Prop} : FrameBlind (va_Pc av (PRE D cl tys ws sz A)) := by
  intro a U g mk q
  obtain ⟨q0, q1, qP, qK, qD, qG⟩ := q
  exact ⟨q0, q1, qP, va_K.moved (u := U) (U := U.calling g mk a) (Vm.Alike.refl U.vm) qK, qD, gb.blind qG⟩
theorem pre_ok {av : List Value} {D : va_G} {cl : List vw_C} {tys : List (ClassId × FieldType)} {ws : va_W} {A A0 B : Nat → Prop} {s : State} {H : Heap} {locs : List Loc} (hP : va_P D cl ws H) (hK : va_K D cl tys s) (hD : va_D A ws) (hG : gb A0 s s.heap) (hS : va_S A0 s.heap H locs) (hF : ∀ q, B q → A0 q) : ∀ U : State, U.heap = H → s.WarmedH U.vm → va_Pc av (PRE D cl tys ws H.size B) av.toArray U :=
  fun U hU hW => ⟨rfl, by rw [hU], by rw [hU]; exact hP, va_K.moved hW.alike hK, hD.weaken (fun _ _ _ _ => trivial), gb.call hG hW hU hS hF⟩
abbrev PREk (adK adV : Nat → Nat) (D : va_G) (cl : List vw_C) (tys : List (ClassId × FieldType)) (ws : va_W) (sz : Nat) (A : Nat → Prop) : State → Prop := fun U => PRE D cl tys ws sz A U ∧ gk adK adV A U U.heap
theorem prek_blind {adK adV : Nat → Nat} {av : List Value} {D : va_G} {cl : List vw_C} {tys : List (ClassId × FieldType)} {ws : va_W} {sz : Nat} {A : Nat → Prop} : FrameBlind (va_Pc av (PREk adK adV D cl tys ws sz A)) := by
  intro a U g mk q
  obtain ⟨q0, q1, q2⟩ := q
  obtain ⟨r0, r1⟩ := pre_blind a U g mk ⟨q0, q1⟩
  exact ⟨r0, r1, gk.blind q2⟩
theorem prek_ok {adK adV : Nat → Nat} {av : List Value} {D : va_G} {cl : List vw_C} {tys : List (ClassId × FieldType)} {ws : va_W} {A A0 B : Nat → Prop} {s : State} {H : Heap} {locs : List Loc} (hP : va_P D cl ws H) (hK : va_K D cl tys s) (hD : va_D A ws) (hG : gb A0 s s.heap) (hg : gk adK adV A0 s s.heap) (hS : va_S A0 s.heap H locs) (hF : ∀ q, B q → A0 q) : ∀ U : State, U.heap = H → s.WarmedH U.vm → va_Pc av (PREk adK adV D cl tys ws H.size B) av.toArray U :=
  fun U hU hW => ⟨rfl, (pre_ok (av := av) hP hK hD hG hS hF U hU hW).2, gk.call hg hW hU hS hF⟩
