/-! ===== BEGIN printed: names, fields, word lists, decode rows ===== -/
def RX0 : String := "ForAllGame$BeatenSets"
def TX0 : u_T := fun k => match k with
  | 0 => ("ForAllGame$BeatenSets", "bits", "[J", true)
  | _ => ("ForAllGame$BeatenSets", "stale", "Z", false)
def tyX0 : Nat → FieldType := fun k => match k with
  | 0 => .array .long
  | _ => .boolean
abbrev wsX00 : List Cond := u_ws RX0 TX0 2
theorem nmX0 : ∀ a, a < 2 → ∀ b, b < 2 → a ≠ b → (TX0 a).2.1 ≠ (TX0 b).2.1 := by decide +kernel
theorem tyX0_ok : ∀ k, k < 2 → parseFieldDescriptor (TX0 k).2.2.1 = some (tyX0 k) := by decide +kernel
abbrev cX0_init : ByteArray := prog_2_method_1_code
def yX0_init : MethodName := ⟨RX0, "<init>", "()V"⟩
abbrev cX0_has : ByteArray := prog_2_method_2_code
def yX0_has : MethodName := ⟨RX0, "has", "(III)Z"⟩
abbrev cX0_bringUpToDate : ByteArray := prog_2_method_3_code
def yX0_bringUpToDate : MethodName := ⟨RX0, "bringUpToDate", "(LForAllGame$State;)V"⟩
abbrev cX0_setEnd : ByteArray := prog_2_method_4_code
def yX0_setEnd : MethodName := ⟨RX0, "setEnd", "(LForAllGame$State;I)V"⟩
abbrev cX0_join : ByteArray := prog_2_method_5_code
def yX0_join : MethodName := ⟨RX0, "join", "(IIZ)V"⟩
abbrev cX0_wordOf : ByteArray := prog_2_method_6_code
def yX0_wordOf : MethodName := ⟨RX0, "wordOf", "(II)I"⟩
abbrev cX0_setsWithout : ByteArray := prog_2_method_7_code
def yX0_setsWithout : MethodName := ⟨RX0, "setsWithout", "(II)J"⟩
def RX1 : String := "ForAllGame$OrderText"
def TX1 : u_T := fun k => match k with
  | 0 => ("ForAllGame$OrderText", "bytes", "[I", true)
  | 1 => ("ForAllGame$OrderText", "length", "I", false)
  | 2 => ("ForAllGame$OrderText", "at", "I", false)
  | 3 => ("ForAllGame$OrderText", "error", "I", false)
  | 4 => ("ForAllGame$OrderText", "kind", "I", false)
  | 5 => ("ForAllGame$OrderText", "positive", "I", false)
  | 6 => ("ForAllGame$OrderText", "negative", "I", false)
  | _ => ("ForAllGame$OrderText", "play", "I", false)
def tyX1 : Nat → FieldType := fun k => match k with
  | 0 => .array .int
  | 1 => .int
  | 2 => .int
  | 3 => .int
  | 4 => .int
  | 5 => .int
  | 6 => .int
  | _ => .int
abbrev wsX10 : List Cond := u_ws RX1 TX1 8
theorem nmX1 : ∀ a, a < 8 → ∀ b, b < 8 → a ≠ b → (TX1 a).2.1 ≠ (TX1 b).2.1 := by decide +kernel
theorem tyX1_ok : ∀ k, k < 8 → parseFieldDescriptor (TX1 k).2.2.1 = some (tyX1 k) := by decide +kernel
abbrev cX1_init : ByteArray := prog_3_method_1_code
def yX1_init : MethodName := ⟨RX1, "<init>", "()V"⟩
def RX2 : String := "ForAllGame$SavedStates"
def TX2 : u_T := fun k => match k with
  | 0 => ("ForAllGame$SavedStates", "ring", "[LForAllGame$State;", true)
  | 1 => ("ForAllGame$SavedStates", "oldest", "I", false)
  | _ => ("ForAllGame$SavedStates", "count", "I", false)
def tyX2 : Nat → FieldType := fun k => match k with
  | 0 => .array (.object "ForAllGame$State")
  | 1 => .int
  | _ => .int
abbrev wsX20 : List Cond := u_ws RX2 TX2 3
theorem nmX2 : ∀ a, a < 3 → ∀ b, b < 3 → a ≠ b → (TX2 a).2.1 ≠ (TX2 b).2.1 := by decide +kernel
theorem tyX2_ok : ∀ k, k < 3 → parseFieldDescriptor (TX2 k).2.2.1 = some (tyX2 k) := by decide +kernel
abbrev cX2_init : ByteArray := prog_4_method_1_code
def yX2_init : MethodName := ⟨RX2, "<init>", "()V"⟩
abbrev cX2_push : ByteArray := prog_4_method_2_code
def yX2_push : MethodName := ⟨RX2, "push", "(LForAllGame$State;)V"⟩
abbrev cX2_pop : ByteArray := prog_4_method_3_code
def yX2_pop : MethodName := ⟨RX2, "pop", "(LForAllGame$State;)V"⟩
abbrev cX2_slot : ByteArray := prog_4_method_4_code
def yX2_slot : MethodName := ⟨RX2, "slot", "(I)LForAllGame$State;"⟩
def RX3 : String := "ForAllGame$State"
def TX3 : u_T := fun k => match k with
  | 0 => ("ForAllGame$State", "variables", "I", false)
  | 1 => ("ForAllGame$State", "breakers", "I", false)
  | 2 => ("ForAllGame$State", "clauses", "I", false)
  | 3 => ("ForAllGame$State", "positive", "[I", true)
  | 4 => ("ForAllGame$State", "negative", "[I", true)
  | 5 => ("ForAllGame$State", "learned", "I", false)
  | _ => ("ForAllGame$State", "rounds", "I", false)
def tyX3 : Nat → FieldType := fun k => match k with
  | 0 => .int
  | 1 => .int
  | 2 => .int
  | 3 => .array .int
  | 4 => .array .int
  | 5 => .int
  | _ => .int
abbrev wsX30 : List Cond := u_ws RX3 TX3 7
theorem nmX3 : ∀ a, a < 7 → ∀ b, b < 7 → a ≠ b → (TX3 a).2.1 ≠ (TX3 b).2.1 := by decide +kernel
theorem tyX3_ok : ∀ k, k < 7 → parseFieldDescriptor (TX3 k).2.2.1 = some (tyX3 k) := by decide +kernel
abbrev cX3_init : ByteArray := prog_5_method_1_code
def yX3_init : MethodName := ⟨RX3, "<init>", "()V"⟩
abbrev cX3_clear : ByteArray := prog_5_method_2_code
def yX3_clear : MethodName := ⟨RX3, "clear", "()V"⟩
abbrev cX3_copyFrom : ByteArray := prog_5_method_3_code
def yX3_copyFrom : MethodName := ⟨RX3, "copyFrom", "(LForAllGame$State;)V"⟩
abbrev cX3_ownerOf : ByteArray := prog_5_method_4_code
def yX3_ownerOf : MethodName := ⟨RX3, "ownerOf", "(I)I"⟩
abbrev cX3_plays : ByteArray := prog_5_method_5_code
def yX3_plays : MethodName := ⟨RX3, "plays", "()I"⟩
abbrev cX3_allPlays : ByteArray := prog_5_method_6_code
def yX3_allPlays : MethodName := ⟨RX3, "allPlays", "()I"⟩
abbrev cX3_hasPlay : ByteArray := prog_5_method_7_code
def yX3_hasPlay : MethodName := ⟨RX3, "hasPlay", "(I)Z"⟩
abbrev cX3_hasLearned : ByteArray := prog_5_method_8_code
def yX3_hasLearned : MethodName := ⟨RX3, "hasLearned", "(I)Z"⟩
abbrev cX3_hasVariables : ByteArray := prog_5_method_9_code
def yX3_hasVariables : MethodName := ⟨RX3, "hasVariables", "(I)Z"⟩
abbrev cX3_hasRoomFor : ByteArray := prog_5_method_10_code
def yX3_hasRoomFor : MethodName := ⟨RX3, "hasRoomFor", "(Z)Z"⟩
abbrev cX3_putVariable : ByteArray := prog_5_method_11_code
def yX3_putVariable : MethodName := ⟨RX3, "putVariable", "(Z)V"⟩
abbrev cX3_putClause : ByteArray := prog_5_method_12_code
def yX3_putClause : MethodName := ⟨RX3, "putClause", "(II)V"⟩
abbrev cX3_dropClause : ByteArray := prog_5_method_13_code
def yX3_dropClause : MethodName := ⟨RX3, "dropClause", "(I)V"⟩
abbrev cX3_holds : ByteArray := prog_5_method_14_code
def yX3_holds : MethodName := ⟨RX3, "holds", "(I)Z"⟩
abbrev cX3_playIn : ByteArray := prog_5_method_15_code
def yX3_playIn : MethodName := ⟨RX3, "playIn", "(I)I"⟩
def RX4 : String := "ForAllGame"
def TX4 : u_T := fun k => match k with
  | 0 => ("ForAllGame", "state", "LForAllGame$State;", true)
  | 1 => ("ForAllGame", "saved", "LForAllGame$SavedStates;", true)
  | 2 => ("ForAllGame", "beaten", "LForAllGame$BeatenSets;", true)
  | _ => ("ForAllGame", "text", "LForAllGame$OrderText;", true)
def tyX4 : Nat → FieldType := fun k => match k with
  | 0 => .object "ForAllGame$State"
  | 1 => .object "ForAllGame$SavedStates"
  | 2 => .object "ForAllGame$BeatenSets"
  | _ => .object "ForAllGame$OrderText"
abbrev wsX40 : List Cond := u_ws RX4 TX4 4
theorem nmX4 : ∀ a, a < 4 → ∀ b, b < 4 → a ≠ b → (TX4 a).2.1 ≠ (TX4 b).2.1 := by decide +kernel
theorem tyX4_ok : ∀ k, k < 4 → parseFieldDescriptor (TX4 k).2.2.1 = some (tyX4 k) := by decide +kernel
abbrev cX4_init : ByteArray := prog_1_method_1_code
def yX4_init : MethodName := ⟨RX4, "<init>", "()V"⟩
abbrev cX4_begin : ByteArray := prog_1_method_2_code
def yX4_begin : MethodName := ⟨RX4, "begin", "()I"⟩
abbrev cX4_addVariable : ByteArray := prog_1_method_3_code
def yX4_addVariable : MethodName := ⟨RX4, "addVariable", "(Z)I"⟩
abbrev cX4_addClause : ByteArray := prog_1_method_4_code
def yX4_addClause : MethodName := ⟨RX4, "addClause", "(II)I"⟩
abbrev cX4_removeClause : ByteArray := prog_1_method_5_code
def yX4_removeClause : MethodName := ⟨RX4, "removeClause", "(I)I"⟩
abbrev cX4_round : ByteArray := prog_1_method_8_code
def yX4_round : MethodName := ⟨RX4, "round", "()I"⟩
abbrev cX4_learnAll : ByteArray := prog_1_method_9_code
def yX4_learnAll : MethodName := ⟨RX4, "learnAll", "()I"⟩
abbrev cX4_isBreakers : ByteArray := prog_1_method_10_code
def yX4_isBreakers : MethodName := ⟨RX4, "isBreakers", "(I)Z"⟩
abbrev cX4_value : ByteArray := prog_1_method_13_code
def yX4_value : MethodName := ⟨RX4, "value", "(I)I"⟩
abbrev cX4_winner : ByteArray := prog_1_method_14_code
def yX4_winner : MethodName := ⟨RX4, "winner", "()I"⟩
abbrev cX4_winnerAt : ByteArray := prog_1_method_15_code
def yX4_winnerAt : MethodName := ⟨RX4, "winnerAt", "(II)I"⟩
abbrev cX4_move : ByteArray := prog_1_method_16_code
def yX4_move : MethodName := ⟨RX4, "move", "(II)I"⟩
abbrev cX4_ways : ByteArray := prog_1_method_17_code
def yX4_ways : MethodName := ⟨RX4, "ways", "(I)I"⟩
abbrev cX4_beats : ByteArray := prog_1_method_18_code
def yX4_beats : MethodName := ⟨RX4, "beats", "(I)Z"⟩
abbrev cX4_copies : ByteArray := prog_1_method_20_code
def yX4_copies : MethodName := ⟨RX4, "copies", "()I"⟩
abbrev cX4_leastProof : ByteArray := prog_1_method_21_code
def yX4_leastProof : MethodName := ⟨RX4, "leastProof", "()I"⟩
abbrev cX4_undo : ByteArray := prog_1_method_27_code
def yX4_undo : MethodName := ⟨RX4, "undo", "()I"⟩
abbrev cX4_requireVariable : ByteArray := prog_1_method_29_code
def yX4_requireVariable : MethodName := ⟨RX4, "requireVariable", "(I)V"⟩
abbrev cX4_requireClause : ByteArray := prog_1_method_30_code
def yX4_requireClause : MethodName := ⟨RX4, "requireClause", "(I)V"⟩
abbrev cX4_requirePlay : ByteArray := prog_1_method_31_code
def yX4_requirePlay : MethodName := ⟨RX4, "requirePlay", "(I)V"⟩
abbrev cX4_requireHistory : ByteArray := prog_1_method_32_code
def yX4_requireHistory : MethodName := ⟨RX4, "requireHistory", "(II)V"⟩
abbrev cX4_putVariable : ByteArray := prog_1_method_33_code
def yX4_putVariable : MethodName := ⟨RX4, "putVariable", "(Z)V"⟩
abbrev cX4_putClause : ByteArray := prog_1_method_34_code
def yX4_putClause : MethodName := ⟨RX4, "putClause", "(II)V"⟩
abbrev cX4_formulaChanged : ByteArray := prog_1_method_35_code
def yX4_formulaChanged : MethodName := ⟨RX4, "formulaChanged", "()V"⟩
abbrev cX4_makeRound : ByteArray := prog_1_method_36_code
def yX4_makeRound : MethodName := ⟨RX4, "makeRound", "()I"⟩
abbrev cX4_valuesAgainst : ByteArray := prog_1_method_37_code
def yX4_valuesAgainst : MethodName := ⟨RX4, "valuesAgainst", "(I)I"⟩
abbrev cX4_winnerIn : ByteArray := prog_1_method_38_code
def yX4_winnerIn : MethodName := ⟨RX4, "winnerIn", "(II)I"⟩
abbrev cX4_learnedBeginnings : ByteArray := prog_1_method_39_code
def yX4_learnedBeginnings : MethodName := ⟨RX4, "learnedBeginnings", "(I)I"⟩
abbrev cX4_lowestLeastProof : ByteArray := prog_1_method_40_code
def yX4_lowestLeastProof : MethodName := ⟨RX4, "lowestLeastProof", "()I"⟩
abbrev cX4_bit : ByteArray := prog_1_method_45_code
def yX4_bit : MethodName := ⟨RX4, "bit", "(II)I"⟩
abbrev cX4_read : ByteArray := prog_1_method_46_code
def yX4_read : MethodName := ⟨RX4, "read", "([II)I"⟩
abbrev cX4_write : ByteArray := prog_1_method_47_code
def yX4_write : MethodName := ⟨RX4, "write", "([III)V"⟩
abbrev cX4_readLong : ByteArray := prog_1_method_48_code
def yX4_readLong : MethodName := ⟨RX4, "readLong", "([JI)J"⟩
abbrev cX4_writeLong : ByteArray := prog_1_method_49_code
def yX4_writeLong : MethodName := ⟨RX4, "writeLong", "([JIJ)V"⟩
def RJ6 : String := "java/lang/Integer"
abbrev cJ6_bitCount_0f7a4 : ByteArray := prog_12_method_49_code
def yJ6_bitCount_0f7a4 : MethodName := ⟨RJ6, "bitCount", "(I)I"⟩
def RL : String := "ForAllGameLaw"
abbrev cL_cell : ByteArray := method_2_code
def yL_cell : MethodName := ⟨RL, "cell", "([II)I"⟩
abbrev cL_adds : ByteArray := method_3_code
def yL_adds : MethodName := ⟨RL, "adds", "(LForAllGame;Z)I"⟩
abbrev cL_clauses : ByteArray := method_4_code
def yL_clauses : MethodName := ⟨RL, "clauses", "(LForAllGame;II)I"⟩
abbrev cL_removes : ByteArray := method_5_code
def yL_removes : MethodName := ⟨RL, "removes", "(LForAllGame;I)I"⟩
abbrev cL_whose : ByteArray := method_6_code
def yL_whose : MethodName := ⟨RL, "whose", "(LForAllGame;I)I"⟩
abbrev cL_value : ByteArray := method_7_code
def yL_value : MethodName := ⟨RL, "value", "(LForAllGame;I)I"⟩
abbrev cL_winnerAt : ByteArray := method_8_code
def yL_winnerAt : MethodName := ⟨RL, "winnerAt", "(LForAllGame;II)I"⟩
abbrev cL_moves : ByteArray := method_9_code
def yL_moves : MethodName := ⟨RL, "moves", "(LForAllGame;II)I"⟩
abbrev cL_ways : ByteArray := method_10_code
def yL_ways : MethodName := ⟨RL, "ways", "(LForAllGame;I)I"⟩
abbrev cL_beats : ByteArray := method_11_code
def yL_beats : MethodName := ⟨RL, "beats", "(LForAllGame;I)I"⟩
abbrev cL_undoes : ByteArray := method_12_code
def yL_undoes : MethodName := ⟨RL, "undoes", "(LForAllGame;)I"⟩
abbrev cL_bits : ByteArray := method_13_code
def yL_bits : MethodName := ⟨RL, "bits", "(I)I"⟩
abbrev cL_follows : ByteArray := method_14_code
def yL_follows : MethodName := ⟨RL, "follows", "(LForAllGame;I)Z"⟩
abbrev cL_holds : ByteArray := method_15_code
def yL_holds : MethodName := ⟨RL, "holds", "(LForAllGame;)Z"⟩
abbrev cL_learns : ByteArray := method_16_code
def yL_learns : MethodName := ⟨RL, "learns", "(LForAllGame;)Z"⟩
abbrev cL_law : ByteArray := code
def yL_law : MethodName := ⟨RL, "law", "([I)Z"⟩
abbrev vwCl : List vw_C := [(RX0, TX0, 2), (RX1, TX1, 8), (RX2, TX2, 3), (RX3, TX3, 7), (RX4, TX4, 4)]
/-- ALL WORDS: the tables' words that keep -/
def wAll : List Cond := lw_tbl.filter goodWord
theorem wAll_tbl : ∀ w ∈ wAll, w ∈ lw_tbl := fun w h => (List.mem_filter.mp h).1
theorem wAll_good : ∀ w ∈ wAll, goodWord w = true := fun w h => (List.mem_filter.mp h).2
theorem wAll_mem {w : Cond} (i : Nat) (h : lw_tbl[i]? = some w) (g : goodWord w = true) : w ∈ wAll := List.mem_filter.mpr ⟨List.mem_of_getElem? h, g⟩
theorem wAll_sub {ws : List Cond} (h : ws.all (fun w => decide (w ∈ lw_tbl) && goodWord w) = true) : ∀ w ∈ ws, w ∈ wAll := fun w hw => by
  have h1 := List.all_eq_true.mp h w hw
  simp only [Bool.and_eq_true, decide_eq_true_eq] at h1
  exact List.mem_filter.mpr ⟨h1.1, h1.2⟩
theorem gC {y : MethodName} {b : ByteArray} {n : Nat} {r : Option FieldType} (h5 : Cond.code y b n r ∈ wAll) : GoodIn wAll (Cond.code y b n r :: wAll) := fun w h => by
  have hw : w ∈ wAll := by
    rcases List.mem_cons.mp h with e | h
    · rw [e]; exact h5
    · exact h
  exact ⟨hw, good_of_word (wAll_good w hw)⟩
theorem gV {own : String} {idx : Nat} {C : String} {y : MethodName} {b : ByteArray} {n : Nat} {r : Option FieldType} (h1 : Cond.methodLink own idx y ∈ wAll) (h2 : Cond.instanceMethod y ∈ wAll) (h3 : Cond.selects C y y ∈ wAll) (h4 : Cond.initialized C ∈ wAll) (h5 : Cond.code y b n r ∈ wAll) : GoodIn wAll (wsV own idx C y (Cond.code y b n r :: wAll)) := fun w h => by
  rcases List.mem_append.mp h with h | h
  · have hw : w ∈ wAll := by
      simp only [List.mem_cons, List.not_mem_nil, or_false] at h
      rcases h with e | e | e | e <;> (rw [e]; assumption)
    exact ⟨hw, good_of_word (wAll_good w hw)⟩
  · exact gC h5 w h
theorem gS {own : String} {idx : Nat} {y : MethodName} {b : ByteArray} {n : Nat} {r : Option FieldType} (h1 : Cond.methodLink own idx y ∈ wAll) (h2 : Cond.static y ∈ wAll) (h4 : Cond.initialized y.cls ∈ wAll) (h5 : Cond.code y b n r ∈ wAll) : GoodIn wAll (va_wsS own idx y (Cond.code y b n r :: wAll)) := fun w h => by
  rcases List.mem_append.mp h with h | h
  · have hw : w ∈ wAll := by
      simp only [List.mem_cons, List.not_mem_nil, or_false] at h
      rcases h with e | e | e <;> (rw [e]; assumption)
    exact ⟨hw, good_of_word (wAll_good w hw)⟩
  · exact gC h5 w h
theorem inX0 : ∀ w ∈ wsX00, w ∈ wAll := wAll_sub (by decide +kernel)
theorem inX1 : ∀ w ∈ wsX10, w ∈ wAll := wAll_sub (by decide +kernel)
theorem inX2 : ∀ w ∈ wsX20, w ∈ wAll := wAll_sub (by decide +kernel)
theorem inX3 : ∀ w ∈ wsX30, w ∈ wAll := wAll_sub (by decide +kernel)
theorem inX4 : ∀ w ∈ wsX40, w ∈ wAll := wAll_sub (by decide +kernel)
