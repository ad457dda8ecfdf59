/-! one call on fresh objects -/
theorem p1_J {L : Nat} {xs : Nat → Int32} {r_1 : Int32} {fn : Nat → Int32} {cl : Int32} {co fo ta : Nat → Int32} {post : Int32 → Prop} {i_n0_length : Int32} {i_n0_argument_count : Int32} {i_n0_argument_openCount : Int32} {f_n0_argument_followers : Nat → Int32} {f_n0_argument_kinds : Nat → Int32} {f_n0_argument_lastParts : Nat → Int32} {f_n0_argument_openLists : Nat → Int32} {f_n0_argument_values : Nat → Int32} {i_n0_draft_size : Int32} {i_n0_draft_lastConstant : Int32} {f_n0_draft_constants : Nat → Int32} {i_n0_draft_datum_count : Int32} {i_n0_draft_datum_openCount : Int32} {f_n0_draft_datum_followers : Nat → Int32} {f_n0_draft_datum_kinds : Nat → Int32} {f_n0_draft_datum_lastParts : Nat → Int32} {f_n0_draft_datum_openLists : Nat → Int32} {f_n0_draft_datum_values : Nat → Int32} {f_n0_draft_words : Nat → Int32} {i_n0_machine_lastConstant : Int32} {i_n0_machine_s : Int32} {i_n0_machine_e : Int32} {i_n0_machine_d : Int32} {i_n0_machine_next : Int32} {i_n0_machine_state : Int32} {i_n0_machine_spent : Int32} {i_n0_machine_fuel : Int32} {i_n0_machine_collected : Int32} {f_n0_machine_constants : Nat → Int32} {i_n0_machine_memory_freeCount : Int32} {i_n0_machine_memory_reachedCount : Int32} {f_n0_machine_memory_free : Nat → Int32} {f_n0_machine_memory_isReached : Nat → Int32} {f_n0_machine_memory_kinds : Nat → Int32} {f_n0_machine_memory_lefts : Nat → Int32} {f_n0_machine_memory_reached : Nat → Int32} {f_n0_machine_memory_rights : Nat → Int32} {i_n0_machine_printer_out_maybeLatin1 : Int32} {i_n0_machine_printer_out_count : Int32} {a_n0_machine_printer_out_value : Nat} {n_n0_machine_printer_out_value : Nat} {f_n0_machine_printer_out_value : Nat → Int32} {i_n0_program_size : Int32} {i_n0_program_lastConstant : Int32} {f_n0_program_constants : Nat → Int32} {i_n0_program_datum_count : Int32} {f_n0_program_datum_followers : Nat → Int32} {f_n0_program_datum_kinds : Nat → Int32} {f_n0_program_datum_values : Nat → Int32} {f_n0_program_words : Nat → Int32} {f_n0_text : Nat → Int32} {i_n0_translator_frameCount : Int32} {i_n0_translator_error : Int32} {f_n0_translator_frames : Nat → Int32} {i_n13_size : Int32} {i_n13_bank : Int32} {i_n13_program : Int32} {i_n13_nodes : Int32} {i_n13_tasks : Int32} {i_n13_frames : Int32} {i_n13_used : Int32} {i_n13_status : Int32} {i_n13_fuel : Int32} {i_n13_spent : Int32} {i_n13_pc : Int32} {i_n13_s : Int32} {i_n13_e : Int32} {i_n13_d : Int32} {i_n13_rounds : Int32} {i_n13_outs : Int32} {f_n13_about : Nat → Int32} {f_n13_around : Nat → Int32} {f_n13_child : Nat → Int32} {f_n13_constant : Nat → Int32} {f_n13_fixed : Nat → Int32} {f_n13_fixeds : Nat → Int32} {f_n13_kind : Nat → Int32} {f_n13_latest : Nat → Int32} {f_n13_left : Nat → Int32} {f_n13_lines : Nat → Int32} {f_n13_made : Nat → Int32} {f_n13_names : Nat → Int32} {f_n13_next : Nat → Int32} {f_n13_op : Nat → Int32} {f_n13_open : Nat → Int32} {f_n13_out : Nat → Int32} {f_n13_paired : Nat → Int32} {f_n13_reached : Nat → Int32} {f_n13_right : Nat → Int32} {f_n13_sort : Nat → Int32} {f_n13_tails : Nat → Int32} {f_n13_taken : Nat → Int32} {f_n13_text : Nat → Int32} {f_n13_val : Nat → Int32} {f_n13_what : Nat → Int32} {f_n13_within : Nat → Int32} {f_n13_x1 : Nat → Int32} {f_n13_x2 : Nat → Int32} {kc : Nat} {ks : Nat} (hL : L ≤ 3) : wp_Law_law_J369 L xs r_1 fn cl co fo ta (wp_Law_law_L28 L xs r_1 fn cl co fo ta post 1) post 1 i_n0_length i_n0_argument_count i_n0_argument_openCount f_n0_argument_followers f_n0_argument_kinds f_n0_argument_lastParts f_n0_argument_openLists f_n0_argument_values i_n0_draft_size i_n0_draft_lastConstant f_n0_draft_constants i_n0_draft_datum_count i_n0_draft_datum_openCount f_n0_draft_datum_followers f_n0_draft_datum_kinds f_n0_draft_datum_lastParts f_n0_draft_datum_openLists f_n0_draft_datum_values f_n0_draft_words i_n0_machine_lastConstant i_n0_machine_s i_n0_machine_e i_n0_machine_d i_n0_machine_next i_n0_machine_state i_n0_machine_spent i_n0_machine_fuel i_n0_machine_collected f_n0_machine_constants i_n0_machine_memory_freeCount i_n0_machine_memory_reachedCount f_n0_machine_memory_free f_n0_machine_memory_isReached f_n0_machine_memory_kinds f_n0_machine_memory_lefts f_n0_machine_memory_reached f_n0_machine_memory_rights i_n0_machine_printer_out_maybeLatin1 i_n0_machine_printer_out_count a_n0_machine_printer_out_value n_n0_machine_printer_out_value f_n0_machine_printer_out_value i_n0_program_size i_n0_program_lastConstant f_n0_program_constants i_n0_program_datum_count f_n0_program_datum_followers f_n0_program_datum_kinds f_n0_program_datum_values f_n0_program_words f_n0_text i_n0_translator_frameCount i_n0_translator_error f_n0_translator_frames i_n13_size i_n13_bank i_n13_program i_n13_nodes i_n13_tasks i_n13_frames i_n13_used i_n13_status i_n13_fuel i_n13_spent i_n13_pc i_n13_s i_n13_e i_n13_d i_n13_rounds i_n13_outs f_n13_about f_n13_around f_n13_child f_n13_constant f_n13_fixed f_n13_fixeds f_n13_kind f_n13_latest f_n13_left f_n13_lines f_n13_made f_n13_names f_n13_next f_n13_op f_n13_open f_n13_out f_n13_paired f_n13_reached f_n13_right f_n13_sort f_n13_tails f_n13_taken f_n13_text f_n13_val f_n13_what f_n13_within f_n13_x1 f_n13_x2 kc ks := by
  refine ⟨fun _ => trivial, fun c => absurd ?_ c⟩
  rcases (show L = 0 ∨ L = 1 ∨ L = 2 ∨ L = 3 by omega) with rfl | rfl | rfl | rfl <;> decide
theorem q_cell {L : Nat} {xs : Nat → Int32} {post : Int32 → Prop} (hL : L ≤ 1025) (h : post (if L = 0 then 0 else xs 0)) : wp_Law_cell L xs 0 post := by
  refine ⟨fun c => ?_, fun c => ?_⟩
  · have : L = 0 := by
      rcases Nat.lt_or_ge 0 L with g | g
      · exact absurd c (nI_nle (n := L) g (by omega))
      · omega
    rw [if_pos this] at h
    exact h
  · have : L ≠ 0 := fun e => c (by rw [e]; decide)
    rw [if_neg this] at h
    exact ⟨(vp_in_nI (n := 0) (by omega) (by omega) : vp_in (nI 0) L), h⟩
theorem p1_law {L : Nat} {xs : Nat → Int32} {post : Int32 → Prop} (hL : L ≤ 3) : wp_Law_law L xs post := by
  refine q_cell (by omega) (q_Secd_new (q_cell (by omega) (q_Model_new (fun f g k hf hg hk ad => ⟨2, ?_⟩))))
  by_cases h3 : L = 3
  · subst h3
    have v2 : vp_in ((1 : Int32) + 1) 3 := (vp_in_nI (by decide) (by decide) : vp_in (nI 2) 3)
    have le3 : 3 ≤ 3 := Nat.le_refl 3
    refine ⟨fun _ => trivial, fun _ => ⟨(vp_in_nI (by decide) (by decide) : vp_in (nI 1) 3), ?_⟩⟩
    -- put
    refine ⟨fun _ => ⟨v2, q_put (n := 0) (by omega) rfl (fun t h2 => ⟨v2, q_mput (n := 0) (by omega) rfl (fun _ _ => ⟨fun _ => p1_J le3, fun c => absurd rfl c⟩) (fun q => absurd ⟨t, h2⟩ q)⟩) (fun q => ⟨v2, q_mput (n := 0) (by omega) rfl (fun t h2 => absurd ⟨t, h2⟩ q) (fun _ => ⟨fun _ => p1_J le3, fun c => absurd rfl c⟩)⟩)⟩, fun _ => ?_⟩
    -- erase
    refine ⟨fun _ => p1_J le3, fun _ => ?_⟩
    -- compile
    refine ⟨fun _ => ⟨1, fun _ => ⟨fun _ => ⟨fun _ => ⟨1, fun _ => ⟨fun _ => ⟨fun _ => ⟨fun _ => ⟨fun _ => p1_J le3, fun c => absurd rfl c⟩, fun c => absurd rfl c⟩, fun c => absurd (by decide) c⟩, fun c => absurd rfl c⟩, fun c => absurd (by decide) c⟩, fun c => absurd rfl c⟩, fun c => absurd (by decide) c⟩, fun c => absurd (by decide) c⟩, fun _ => ?_⟩
    -- code
    have word : ∀ (w : Nat → Int32) (x : Int32) (pr : Int32 → Prop), pr (-1) → wp_Program_wordAt 0 w x pr := fun w x pr h => ⟨fun _ => h, fun c => ⟨fun _ => h, fun c2 => absurd (Int32.not_lt.mp c) c2⟩⟩
    refine ⟨fun _ => ⟨v2, word _ _ _ ⟨v2, fun _ => ⟨fun _ => p1_J le3, fun c => absurd rfl c⟩, fun c => absurd rfl c⟩⟩, fun _ => ?_⟩
    -- begin
    refine ⟨fun _ => ⟨v2, fun _ => ⟨v2, fun _ => ⟨fun _ => p1_J le3, fun c => absurd rfl c⟩, fun c => absurd rfl c⟩, fun c => absurd rfl c⟩, fun _ => ?_⟩
    -- run
    refine ⟨fun _ => ⟨v2, 0, 0, by decide, by decide, fun _ => ⟨v2, fun _ => ⟨fun _ => p1_J le3, fun c => absurd rfl c⟩, fun c => absurd rfl c⟩, fun _ => ⟨fun _ => ⟨v2, fun _ => ⟨fun _ => p1_J le3, fun c => absurd rfl c⟩, fun c => absurd rfl c⟩, fun _ => ⟨fun _ => ⟨fun c => absurd c (by decide), fun _ => ⟨v2, fun _ => ⟨fun _ => p1_J le3, fun c => absurd rfl c⟩, fun c => absurd rfl c⟩⟩, fun c => absurd rfl c⟩⟩⟩, fun _ => ?_⟩
    -- status
    refine ⟨fun _ => ⟨fun _ => p1_J le3, fun c => absurd rfl c⟩, fun _ => ?_⟩
    -- cycles
    refine ⟨fun _ => ⟨fun _ => ⟨fun c => absurd c (by decide), fun _ => ⟨fun _ => ⟨fun _ => p1_J le3, fun c => absurd rfl c⟩, fun c => absurd rfl c⟩⟩, fun c => absurd rfl c⟩, fun _ => ?_⟩
    -- address
    refine ⟨fun _ => ⟨fun _ => ⟨fun c => absurd c (by decide), fun _ => ⟨fun _ => ⟨fun _ => p1_J le3, fun c => absurd rfl c⟩, fun c => absurd rfl c⟩⟩, fun c => absurd rfl c⟩, fun _ => ?_⟩
    -- depth
    refine ⟨fun _ => ⟨v2, fun _ => ⟨fun c => absurd c (by decide), fun _ => ⟨v2, fun _ => ⟨fun _ => p1_J le3, fun c => absurd rfl c⟩, fun c => absurd rfl c⟩⟩, fun c => absurd rfl c⟩, fun _ => ?_⟩
    -- live
    refine ⟨fun _ => ⟨fun _ => ⟨fun c => absurd c (by decide), fun _ => ⟨fun _ => ⟨fun _ => p1_J le3, fun c => absurd rfl c⟩, fun c => absurd rfl c⟩⟩, fun c => absurd rfl c⟩, fun _ => ?_⟩
    -- used
    refine ⟨fun _ => ⟨fun _ => ⟨fun c => absurd c (by decide), fun _ => ⟨fun _ => ⟨fun _ => p1_J le3, fun c => absurd rfl c⟩, fun c => absurd rfl c⟩⟩, fun c => absurd rfl c⟩, fun _ => ?_⟩
    -- collections
    refine ⟨fun _ => ⟨fun _ => ⟨fun c => absurd c (by decide), fun _ => ⟨fun _ => ⟨fun _ => p1_J le3, fun c => absurd rfl c⟩, fun c => absurd rfl c⟩⟩, fun c => absurd rfl c⟩, fun _ => ?_⟩
    -- printed
    refine ⟨fun _ => ⟨fun c => absurd c (by decide), fun _ => ⟨fun c => absurd c (by decide), fun _ => ⟨fun _ => p1_J le3, fun c => absurd rfl c⟩⟩⟩, fun _ => ?_⟩
    -- character
    refine ⟨fun _ => ⟨v2, fun c => absurd c (by decide), fun _ => ⟨v2, fun c => absurd c (by decide), fun _ => ⟨fun _ => p1_J le3, fun c => absurd rfl c⟩⟩⟩, fun _ => ?_⟩
    exact p1_J le3
  · refine ⟨fun _ => trivial, fun c => absurd ?_ c⟩
    rcases (show L = 0 ∨ L = 1 ∨ L = 2 by omega) with rfl | rfl | rfl <;> decide
