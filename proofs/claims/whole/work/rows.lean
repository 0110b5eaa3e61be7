section
-- ===== PART A: goes FIRST, ahead of the names: the tables' words, and 'selects' of the private methods out of them =====
/-- a private method of a class that the tables say can be made, by its rows of tables_1 -/
def lw_okq (q : MethodName × Nat) : Prop := (q.1.cls ≠ "java/lang/invoke/MethodHandle" ∧ q.1.cls ≠ "java/lang/invoke/VarHandle") ∧ Cond.instantiable q.1.cls q.2 ∈ tables_1 ∧ Cond.privateMethod q.1 ∈ tables_1 ∧ Cond.instanceMethod q.1 ∈ tables_1
theorem lw_p0 : lw_okq (⟨"ForAllGame$SavedStates", "push", "(LForAllGame$State;)V"⟩, 3) := ⟨⟨by decide +kernel, by decide +kernel⟩, List.mem_of_getElem? (i := 60) (by decide +kernel), List.mem_of_getElem? (i := 148) (by decide +kernel), List.mem_of_getElem? (i := 149) (by decide +kernel)⟩
theorem lw_p1 : lw_okq (⟨"ForAllGame$SavedStates", "slot", "(I)LForAllGame$State;"⟩, 3) := ⟨⟨by decide +kernel, by decide +kernel⟩, List.mem_of_getElem? (i := 60) (by decide +kernel), List.mem_of_getElem? (i := 152) (by decide +kernel), List.mem_of_getElem? (i := 153) (by decide +kernel)⟩
theorem lw_p2 : lw_okq (⟨"ForAllGame$State", "copyFrom", "(LForAllGame$State;)V"⟩, 7) := ⟨⟨by decide +kernel, by decide +kernel⟩, List.mem_of_getElem? (i := 23) (by decide +kernel), List.mem_of_getElem? (i := 156) (by decide +kernel), List.mem_of_getElem? (i := 157) (by decide +kernel)⟩
theorem lw_p3 : lw_okq (⟨"ForAllGame$State", "clear", "()V"⟩, 7) := ⟨⟨by decide +kernel, by decide +kernel⟩, List.mem_of_getElem? (i := 23) (by decide +kernel), List.mem_of_getElem? (i := 166) (by decide +kernel), List.mem_of_getElem? (i := 167) (by decide +kernel)⟩
theorem lw_p4 : lw_okq (⟨"ForAllGame", "makeRound", "()I"⟩, 4) := ⟨⟨by decide +kernel, by decide +kernel⟩, List.mem_of_getElem? (i := 15) (by decide +kernel), List.mem_of_getElem? (i := 184) (by decide +kernel), List.mem_of_getElem? (i := 185) (by decide +kernel)⟩
theorem lw_p5 : lw_okq (⟨"ForAllGame$BeatenSets", "bringUpToDate", "(LForAllGame$State;)V"⟩, 2) := ⟨⟨by decide +kernel, by decide +kernel⟩, List.mem_of_getElem? (i := 80) (by decide +kernel), List.mem_of_getElem? (i := 188) (by decide +kernel), List.mem_of_getElem? (i := 189) (by decide +kernel)⟩
theorem lw_p6 : lw_okq (⟨"ForAllGame$BeatenSets", "setEnd", "(LForAllGame$State;I)V"⟩, 2) := ⟨⟨by decide +kernel, by decide +kernel⟩, List.mem_of_getElem? (i := 80) (by decide +kernel), List.mem_of_getElem? (i := 192) (by decide +kernel), List.mem_of_getElem? (i := 193) (by decide +kernel)⟩
theorem lw_p7 : lw_okq (⟨"ForAllGame$State", "holds", "(I)Z"⟩, 7) := ⟨⟨by decide +kernel, by decide +kernel⟩, List.mem_of_getElem? (i := 23) (by decide +kernel), List.mem_of_getElem? (i := 199) (by decide +kernel), List.mem_of_getElem? (i := 200) (by decide +kernel)⟩
theorem lw_p8 : lw_okq (⟨"ForAllGame$State", "playIn", "(I)I"⟩, 7) := ⟨⟨by decide +kernel, by decide +kernel⟩, List.mem_of_getElem? (i := 23) (by decide +kernel), List.mem_of_getElem? (i := 203) (by decide +kernel), List.mem_of_getElem? (i := 204) (by decide +kernel)⟩
theorem lw_p9 : lw_okq (⟨"ForAllGame$State", "ownerOf", "(I)I"⟩, 7) := ⟨⟨by decide +kernel, by decide +kernel⟩, List.mem_of_getElem? (i := 23) (by decide +kernel), List.mem_of_getElem? (i := 207) (by decide +kernel), List.mem_of_getElem? (i := 208) (by decide +kernel)⟩
theorem lw_p10 : lw_okq (⟨"ForAllGame$BeatenSets", "join", "(IIZ)V"⟩, 2) := ⟨⟨by decide +kernel, by decide +kernel⟩, List.mem_of_getElem? (i := 80) (by decide +kernel), List.mem_of_getElem? (i := 228) (by decide +kernel), List.mem_of_getElem? (i := 229) (by decide +kernel)⟩
theorem lw_p11 : lw_okq (⟨"ForAllGame$BeatenSets", "has", "(III)Z"⟩, 2) := ⟨⟨by decide +kernel, by decide +kernel⟩, List.mem_of_getElem? (i := 80) (by decide +kernel), List.mem_of_getElem? (i := 232) (by decide +kernel), List.mem_of_getElem? (i := 233) (by decide +kernel)⟩
theorem lw_p12 : lw_okq (⟨"ForAllGame$State", "plays", "()I"⟩, 7) := ⟨⟨by decide +kernel, by decide +kernel⟩, List.mem_of_getElem? (i := 23) (by decide +kernel), List.mem_of_getElem? (i := 236) (by decide +kernel), List.mem_of_getElem? (i := 237) (by decide +kernel)⟩
theorem lw_p13 : lw_okq (⟨"ForAllGame", "valuesAgainst", "(I)I"⟩, 4) := ⟨⟨by decide +kernel, by decide +kernel⟩, List.mem_of_getElem? (i := 15) (by decide +kernel), List.mem_of_getElem? (i := 241) (by decide +kernel), List.mem_of_getElem? (i := 242) (by decide +kernel)⟩
theorem lw_p14 : lw_okq (⟨"ForAllGame", "winnerIn", "(II)I"⟩, 4) := ⟨⟨by decide +kernel, by decide +kernel⟩, List.mem_of_getElem? (i := 15) (by decide +kernel), List.mem_of_getElem? (i := 256) (by decide +kernel), List.mem_of_getElem? (i := 257) (by decide +kernel)⟩
theorem lw_p15 : lw_okq (⟨"ForAllGame$State", "allPlays", "()I"⟩, 7) := ⟨⟨by decide +kernel, by decide +kernel⟩, List.mem_of_getElem? (i := 23) (by decide +kernel), List.mem_of_getElem? (i := 260) (by decide +kernel), List.mem_of_getElem? (i := 261) (by decide +kernel)⟩
def lw_privs_1 : List (MethodName × Nat) := [(⟨"ForAllGame$SavedStates", "push", "(LForAllGame$State;)V"⟩, 3), (⟨"ForAllGame$SavedStates", "slot", "(I)LForAllGame$State;"⟩, 3), (⟨"ForAllGame$State", "copyFrom", "(LForAllGame$State;)V"⟩, 7), (⟨"ForAllGame$State", "clear", "()V"⟩, 7), (⟨"ForAllGame", "makeRound", "()I"⟩, 4), (⟨"ForAllGame$BeatenSets", "bringUpToDate", "(LForAllGame$State;)V"⟩, 2), (⟨"ForAllGame$BeatenSets", "setEnd", "(LForAllGame$State;I)V"⟩, 2), (⟨"ForAllGame$State", "holds", "(I)Z"⟩, 7), (⟨"ForAllGame$State", "playIn", "(I)I"⟩, 7), (⟨"ForAllGame$State", "ownerOf", "(I)I"⟩, 7), (⟨"ForAllGame$BeatenSets", "join", "(IIZ)V"⟩, 2), (⟨"ForAllGame$BeatenSets", "has", "(III)Z"⟩, 2), (⟨"ForAllGame$State", "plays", "()I"⟩, 7), (⟨"ForAllGame", "valuesAgainst", "(I)I"⟩, 4), (⟨"ForAllGame", "winnerIn", "(II)I"⟩, 4), (⟨"ForAllGame$State", "allPlays", "()I"⟩, 7)]
theorem lw_r1 : ∀ q ∈ lw_privs_1, lw_okq q := List.forall_mem_cons.mpr ⟨lw_p0, List.forall_mem_cons.mpr ⟨lw_p1, List.forall_mem_cons.mpr ⟨lw_p2, List.forall_mem_cons.mpr ⟨lw_p3, List.forall_mem_cons.mpr ⟨lw_p4, List.forall_mem_cons.mpr ⟨lw_p5, List.forall_mem_cons.mpr ⟨lw_p6, List.forall_mem_cons.mpr ⟨lw_p7, List.forall_mem_cons.mpr ⟨lw_p8, List.forall_mem_cons.mpr ⟨lw_p9, List.forall_mem_cons.mpr ⟨lw_p10, List.forall_mem_cons.mpr ⟨lw_p11, List.forall_mem_cons.mpr ⟨lw_p12, List.forall_mem_cons.mpr ⟨lw_p13, List.forall_mem_cons.mpr ⟨lw_p14, List.forall_mem_cons.mpr ⟨lw_p15, fun _ h => absurd h List.not_mem_nil⟩⟩⟩⟩⟩⟩⟩⟩⟩⟩⟩⟩⟩⟩⟩⟩
theorem lw_p16 : lw_okq (⟨"ForAllGame", "learnedBeginnings", "(I)I"⟩, 4) := ⟨⟨by decide +kernel, by decide +kernel⟩, List.mem_of_getElem? (i := 15) (by decide +kernel), List.mem_of_getElem? (i := 269) (by decide +kernel), List.mem_of_getElem? (i := 270) (by decide +kernel)⟩
theorem lw_p17 : lw_okq (⟨"ForAllGame$State", "hasLearned", "(I)Z"⟩, 7) := ⟨⟨by decide +kernel, by decide +kernel⟩, List.mem_of_getElem? (i := 23) (by decide +kernel), List.mem_of_getElem? (i := 273) (by decide +kernel), List.mem_of_getElem? (i := 274) (by decide +kernel)⟩
theorem lw_p18 : lw_okq (⟨"ForAllGame", "lowestLeastProof", "()I"⟩, 4) := ⟨⟨by decide +kernel, by decide +kernel⟩, List.mem_of_getElem? (i := 15) (by decide +kernel), List.mem_of_getElem? (i := 281) (by decide +kernel), List.mem_of_getElem? (i := 282) (by decide +kernel)⟩
theorem lw_p19 : lw_okq (⟨"ForAllGame$OrderText", "syntaxError", "()I"⟩, 8) := ⟨⟨by decide +kernel, by decide +kernel⟩, List.mem_of_getElem? (i := 95) (by decide +kernel), List.mem_of_getElem? (i := 302) (by decide +kernel), List.mem_of_getElem? (i := 303) (by decide +kernel)⟩
theorem lw_p20 : lw_okq (⟨"ForAllGame$OrderText", "rewind", "()V"⟩, 8) := ⟨⟨by decide +kernel, by decide +kernel⟩, List.mem_of_getElem? (i := 95) (by decide +kernel), List.mem_of_getElem? (i := 306) (by decide +kernel), List.mem_of_getElem? (i := 307) (by decide +kernel)⟩
theorem lw_p21 : lw_okq (⟨"ForAllGame$OrderText", "readOrder", "()Z"⟩, 8) := ⟨⟨by decide +kernel, by decide +kernel⟩, List.mem_of_getElem? (i := 95) (by decide +kernel), List.mem_of_getElem? (i := 310) (by decide +kernel), List.mem_of_getElem? (i := 311) (by decide +kernel)⟩
theorem lw_p22 : lw_okq (⟨"ForAllGame$OrderText", "byteAt", "(I)I"⟩, 8) := ⟨⟨by decide +kernel, by decide +kernel⟩, List.mem_of_getElem? (i := 95) (by decide +kernel), List.mem_of_getElem? (i := 314) (by decide +kernel), List.mem_of_getElem? (i := 315) (by decide +kernel)⟩
theorem lw_p23 : lw_okq (⟨"ForAllGame$OrderText", "fail", "(I)Z"⟩, 8) := ⟨⟨by decide +kernel, by decide +kernel⟩, List.mem_of_getElem? (i := 95) (by decide +kernel), List.mem_of_getElem? (i := 319) (by decide +kernel), List.mem_of_getElem? (i := 320) (by decide +kernel)⟩
theorem lw_p24 : lw_okq (⟨"ForAllGame$OrderText", "readLiterals", "()Z"⟩, 8) := ⟨⟨by decide +kernel, by decide +kernel⟩, List.mem_of_getElem? (i := 95) (by decide +kernel), List.mem_of_getElem? (i := 323) (by decide +kernel), List.mem_of_getElem? (i := 324) (by decide +kernel)⟩
theorem lw_p25 : lw_okq (⟨"ForAllGame$OrderText", "readPlay", "()Z"⟩, 8) := ⟨⟨by decide +kernel, by decide +kernel⟩, List.mem_of_getElem? (i := 95) (by decide +kernel), List.mem_of_getElem? (i := 327) (by decide +kernel), List.mem_of_getElem? (i := 328) (by decide +kernel)⟩
theorem lw_p26 : lw_okq (⟨"ForAllGame", "obeyOrder", "()Z"⟩, 4) := ⟨⟨by decide +kernel, by decide +kernel⟩, List.mem_of_getElem? (i := 15) (by decide +kernel), List.mem_of_getElem? (i := 336) (by decide +kernel), List.mem_of_getElem? (i := 337) (by decide +kernel)⟩
theorem lw_p27 : lw_okq (⟨"ForAllGame", "obeyVariable", "(Z)Z"⟩, 4) := ⟨⟨by decide +kernel, by decide +kernel⟩, List.mem_of_getElem? (i := 15) (by decide +kernel), List.mem_of_getElem? (i := 340) (by decide +kernel), List.mem_of_getElem? (i := 341) (by decide +kernel)⟩
theorem lw_p28 : lw_okq (⟨"ForAllGame$State", "hasRoomFor", "(Z)Z"⟩, 7) := ⟨⟨by decide +kernel, by decide +kernel⟩, List.mem_of_getElem? (i := 23) (by decide +kernel), List.mem_of_getElem? (i := 344) (by decide +kernel), List.mem_of_getElem? (i := 345) (by decide +kernel)⟩
theorem lw_p29 : lw_okq (⟨"ForAllGame", "putVariable", "(Z)V"⟩, 4) := ⟨⟨by decide +kernel, by decide +kernel⟩, List.mem_of_getElem? (i := 15) (by decide +kernel), List.mem_of_getElem? (i := 348) (by decide +kernel), List.mem_of_getElem? (i := 349) (by decide +kernel)⟩
theorem lw_p30 : lw_okq (⟨"ForAllGame$State", "putVariable", "(Z)V"⟩, 7) := ⟨⟨by decide +kernel, by decide +kernel⟩, List.mem_of_getElem? (i := 23) (by decide +kernel), List.mem_of_getElem? (i := 352) (by decide +kernel), List.mem_of_getElem? (i := 353) (by decide +kernel)⟩
theorem lw_p31 : lw_okq (⟨"ForAllGame", "formulaChanged", "()V"⟩, 4) := ⟨⟨by decide +kernel, by decide +kernel⟩, List.mem_of_getElem? (i := 15) (by decide +kernel), List.mem_of_getElem? (i := 356) (by decide +kernel), List.mem_of_getElem? (i := 357) (by decide +kernel)⟩
def lw_privs_2 : List (MethodName × Nat) := [(⟨"ForAllGame", "learnedBeginnings", "(I)I"⟩, 4), (⟨"ForAllGame$State", "hasLearned", "(I)Z"⟩, 7), (⟨"ForAllGame", "lowestLeastProof", "()I"⟩, 4), (⟨"ForAllGame$OrderText", "syntaxError", "()I"⟩, 8), (⟨"ForAllGame$OrderText", "rewind", "()V"⟩, 8), (⟨"ForAllGame$OrderText", "readOrder", "()Z"⟩, 8), (⟨"ForAllGame$OrderText", "byteAt", "(I)I"⟩, 8), (⟨"ForAllGame$OrderText", "fail", "(I)Z"⟩, 8), (⟨"ForAllGame$OrderText", "readLiterals", "()Z"⟩, 8), (⟨"ForAllGame$OrderText", "readPlay", "()Z"⟩, 8), (⟨"ForAllGame", "obeyOrder", "()Z"⟩, 4), (⟨"ForAllGame", "obeyVariable", "(Z)Z"⟩, 4), (⟨"ForAllGame$State", "hasRoomFor", "(Z)Z"⟩, 7), (⟨"ForAllGame", "putVariable", "(Z)V"⟩, 4), (⟨"ForAllGame$State", "putVariable", "(Z)V"⟩, 7), (⟨"ForAllGame", "formulaChanged", "()V"⟩, 4)]
theorem lw_r2 : ∀ q ∈ lw_privs_2, lw_okq q := List.forall_mem_cons.mpr ⟨lw_p16, List.forall_mem_cons.mpr ⟨lw_p17, List.forall_mem_cons.mpr ⟨lw_p18, List.forall_mem_cons.mpr ⟨lw_p19, List.forall_mem_cons.mpr ⟨lw_p20, List.forall_mem_cons.mpr ⟨lw_p21, List.forall_mem_cons.mpr ⟨lw_p22, List.forall_mem_cons.mpr ⟨lw_p23, List.forall_mem_cons.mpr ⟨lw_p24, List.forall_mem_cons.mpr ⟨lw_p25, List.forall_mem_cons.mpr ⟨lw_p26, List.forall_mem_cons.mpr ⟨lw_p27, List.forall_mem_cons.mpr ⟨lw_p28, List.forall_mem_cons.mpr ⟨lw_p29, List.forall_mem_cons.mpr ⟨lw_p30, List.forall_mem_cons.mpr ⟨lw_p31, fun _ h => absurd h List.not_mem_nil⟩⟩⟩⟩⟩⟩⟩⟩⟩⟩⟩⟩⟩⟩⟩⟩
theorem lw_p32 : lw_okq (⟨"ForAllGame", "obeyClause", "(II)Z"⟩, 4) := ⟨⟨by decide +kernel, by decide +kernel⟩, List.mem_of_getElem? (i := 15) (by decide +kernel), List.mem_of_getElem? (i := 360) (by decide +kernel), List.mem_of_getElem? (i := 361) (by decide +kernel)⟩
theorem lw_p33 : lw_okq (⟨"ForAllGame$State", "hasVariables", "(I)Z"⟩, 7) := ⟨⟨by decide +kernel, by decide +kernel⟩, List.mem_of_getElem? (i := 23) (by decide +kernel), List.mem_of_getElem? (i := 364) (by decide +kernel), List.mem_of_getElem? (i := 365) (by decide +kernel)⟩
theorem lw_p34 : lw_okq (⟨"ForAllGame", "putClause", "(II)V"⟩, 4) := ⟨⟨by decide +kernel, by decide +kernel⟩, List.mem_of_getElem? (i := 15) (by decide +kernel), List.mem_of_getElem? (i := 368) (by decide +kernel), List.mem_of_getElem? (i := 369) (by decide +kernel)⟩
theorem lw_p35 : lw_okq (⟨"ForAllGame$State", "putClause", "(II)V"⟩, 7) := ⟨⟨by decide +kernel, by decide +kernel⟩, List.mem_of_getElem? (i := 23) (by decide +kernel), List.mem_of_getElem? (i := 372) (by decide +kernel), List.mem_of_getElem? (i := 373) (by decide +kernel)⟩
theorem lw_p36 : lw_okq (⟨"ForAllGame", "obeyLearn", "(I)Z"⟩, 4) := ⟨⟨by decide +kernel, by decide +kernel⟩, List.mem_of_getElem? (i := 15) (by decide +kernel), List.mem_of_getElem? (i := 376) (by decide +kernel), List.mem_of_getElem? (i := 377) (by decide +kernel)⟩
theorem lw_p37 : lw_okq (⟨"ForAllGame$State", "hasPlay", "(I)Z"⟩, 7) := ⟨⟨by decide +kernel, by decide +kernel⟩, List.mem_of_getElem? (i := 23) (by decide +kernel), List.mem_of_getElem? (i := 380) (by decide +kernel), List.mem_of_getElem? (i := 381) (by decide +kernel)⟩
theorem lw_p38 : lw_okq (⟨"java/lang/Throwable", "fillInStackTrace", "(I)Ljava/lang/Throwable;"⟩, 6) := ⟨⟨by decide +kernel, by decide +kernel⟩, List.mem_of_getElem? (i := 432) (by decide +kernel), List.mem_of_getElem? (i := 430) (by decide +kernel), List.mem_of_getElem? (i := 431) (by decide +kernel)⟩
theorem lw_p39 : lw_okq (⟨"ForAllGame", "requireClause", "(I)V"⟩, 4) := ⟨⟨by decide +kernel, by decide +kernel⟩, List.mem_of_getElem? (i := 15) (by decide +kernel), List.mem_of_getElem? (i := 466) (by decide +kernel), List.mem_of_getElem? (i := 467) (by decide +kernel)⟩
theorem lw_p40 : lw_okq (⟨"ForAllGame$State", "dropClause", "(I)V"⟩, 7) := ⟨⟨by decide +kernel, by decide +kernel⟩, List.mem_of_getElem? (i := 23) (by decide +kernel), List.mem_of_getElem? (i := 531) (by decide +kernel), List.mem_of_getElem? (i := 532) (by decide +kernel)⟩
theorem lw_p41 : lw_okq (⟨"ForAllGame", "requirePlay", "(I)V"⟩, 4) := ⟨⟨by decide +kernel, by decide +kernel⟩, List.mem_of_getElem? (i := 15) (by decide +kernel), List.mem_of_getElem? (i := 542) (by decide +kernel), List.mem_of_getElem? (i := 543) (by decide +kernel)⟩
theorem lw_p42 : lw_okq (⟨"ForAllGame", "requireVariable", "(I)V"⟩, 4) := ⟨⟨by decide +kernel, by decide +kernel⟩, List.mem_of_getElem? (i := 15) (by decide +kernel), List.mem_of_getElem? (i := 555) (by decide +kernel), List.mem_of_getElem? (i := 556) (by decide +kernel)⟩
theorem lw_p43 : lw_okq (⟨"ForAllGame", "requireHistory", "(II)V"⟩, 4) := ⟨⟨by decide +kernel, by decide +kernel⟩, List.mem_of_getElem? (i := 15) (by decide +kernel), List.mem_of_getElem? (i := 583) (by decide +kernel), List.mem_of_getElem? (i := 584) (by decide +kernel)⟩
theorem lw_p44 : lw_okq (⟨"ForAllGame$OrderText", "put", "(I)V"⟩, 8) := ⟨⟨by decide +kernel, by decide +kernel⟩, List.mem_of_getElem? (i := 95) (by decide +kernel), List.mem_of_getElem? (i := 627) (by decide +kernel), List.mem_of_getElem? (i := 628) (by decide +kernel)⟩
theorem lw_p45 : lw_okq (⟨"ForAllGame$SavedStates", "pop", "(LForAllGame$State;)V"⟩, 3) := ⟨⟨by decide +kernel, by decide +kernel⟩, List.mem_of_getElem? (i := 60) (by decide +kernel), List.mem_of_getElem? (i := 640) (by decide +kernel), List.mem_of_getElem? (i := 641) (by decide +kernel)⟩
theorem lw_p46 : lw_okq (⟨"ForAllGameModel", "begins", "()V"⟩, 13) := ⟨⟨by decide +kernel, by decide +kernel⟩, List.mem_of_getElem? (i := 644) (by decide +kernel), List.mem_of_getElem? (i := 699) (by decide +kernel), List.mem_of_getElem? (i := 700) (by decide +kernel)⟩
theorem lw_p47 : lw_okq (⟨"ForAllGameModel", "saved", "(I)I"⟩, 13) := ⟨⟨by decide +kernel, by decide +kernel⟩, List.mem_of_getElem? (i := 644) (by decide +kernel), List.mem_of_getElem? (i := 703) (by decide +kernel), List.mem_of_getElem? (i := 704) (by decide +kernel)⟩
def lw_privs_3 : List (MethodName × Nat) := [(⟨"ForAllGame", "obeyClause", "(II)Z"⟩, 4), (⟨"ForAllGame$State", "hasVariables", "(I)Z"⟩, 7), (⟨"ForAllGame", "putClause", "(II)V"⟩, 4), (⟨"ForAllGame$State", "putClause", "(II)V"⟩, 7), (⟨"ForAllGame", "obeyLearn", "(I)Z"⟩, 4), (⟨"ForAllGame$State", "hasPlay", "(I)Z"⟩, 7), (⟨"java/lang/Throwable", "fillInStackTrace", "(I)Ljava/lang/Throwable;"⟩, 6), (⟨"ForAllGame", "requireClause", "(I)V"⟩, 4), (⟨"ForAllGame$State", "dropClause", "(I)V"⟩, 7), (⟨"ForAllGame", "requirePlay", "(I)V"⟩, 4), (⟨"ForAllGame", "requireVariable", "(I)V"⟩, 4), (⟨"ForAllGame", "requireHistory", "(II)V"⟩, 4), (⟨"ForAllGame$OrderText", "put", "(I)V"⟩, 8), (⟨"ForAllGame$SavedStates", "pop", "(LForAllGame$State;)V"⟩, 3), (⟨"ForAllGameModel", "begins", "()V"⟩, 13), (⟨"ForAllGameModel", "saved", "(I)I"⟩, 13)]
theorem lw_r3 : ∀ q ∈ lw_privs_3, lw_okq q := List.forall_mem_cons.mpr ⟨lw_p32, List.forall_mem_cons.mpr ⟨lw_p33, List.forall_mem_cons.mpr ⟨lw_p34, List.forall_mem_cons.mpr ⟨lw_p35, List.forall_mem_cons.mpr ⟨lw_p36, List.forall_mem_cons.mpr ⟨lw_p37, List.forall_mem_cons.mpr ⟨lw_p38, List.forall_mem_cons.mpr ⟨lw_p39, List.forall_mem_cons.mpr ⟨lw_p40, List.forall_mem_cons.mpr ⟨lw_p41, List.forall_mem_cons.mpr ⟨lw_p42, List.forall_mem_cons.mpr ⟨lw_p43, List.forall_mem_cons.mpr ⟨lw_p44, List.forall_mem_cons.mpr ⟨lw_p45, List.forall_mem_cons.mpr ⟨lw_p46, List.forall_mem_cons.mpr ⟨lw_p47, fun _ h => absurd h List.not_mem_nil⟩⟩⟩⟩⟩⟩⟩⟩⟩⟩⟩⟩⟩⟩⟩⟩
theorem lw_p48 : lw_okq (⟨"ForAllGameModel", "tells", "(I)I"⟩, 13) := ⟨⟨by decide +kernel, by decide +kernel⟩, List.mem_of_getElem? (i := 644) (by decide +kernel), List.mem_of_getElem? (i := 707) (by decide +kernel), List.mem_of_getElem? (i := 708) (by decide +kernel)⟩
theorem lw_p49 : lw_okq (⟨"ForAllGameModel", "canAdd", "(Z)Z"⟩, 13) := ⟨⟨by decide +kernel, by decide +kernel⟩, List.mem_of_getElem? (i := 644) (by decide +kernel), List.mem_of_getElem? (i := 715) (by decide +kernel), List.mem_of_getElem? (i := 716) (by decide +kernel)⟩
theorem lw_p50 : lw_okq (⟨"ForAllGameModel", "fails", "(I)I"⟩, 13) := ⟨⟨by decide +kernel, by decide +kernel⟩, List.mem_of_getElem? (i := 644) (by decide +kernel), List.mem_of_getElem? (i := 722) (by decide +kernel), List.mem_of_getElem? (i := 723) (by decide +kernel)⟩
theorem lw_p51 : lw_okq (⟨"ForAllGameModel", "adds", "(Z)I"⟩, 13) := ⟨⟨by decide +kernel, by decide +kernel⟩, List.mem_of_getElem? (i := 644) (by decide +kernel), List.mem_of_getElem? (i := 726) (by decide +kernel), List.mem_of_getElem? (i := 727) (by decide +kernel)⟩
theorem lw_p52 : lw_okq (⟨"ForAllGameModel", "whyNotClause", "(II)I"⟩, 13) := ⟨⟨by decide +kernel, by decide +kernel⟩, List.mem_of_getElem? (i := 644) (by decide +kernel), List.mem_of_getElem? (i := 734) (by decide +kernel), List.mem_of_getElem? (i := 735) (by decide +kernel)⟩
theorem lw_p53 : lw_okq (⟨"ForAllGameModel", "isSet", "(I)Z"⟩, 13) := ⟨⟨by decide +kernel, by decide +kernel⟩, List.mem_of_getElem? (i := 644) (by decide +kernel), List.mem_of_getElem? (i := 738) (by decide +kernel), List.mem_of_getElem? (i := 739) (by decide +kernel)⟩
theorem lw_p54 : lw_okq (⟨"ForAllGameModel", "addsClause", "(II)I"⟩, 13) := ⟨⟨by decide +kernel, by decide +kernel⟩, List.mem_of_getElem? (i := 644) (by decide +kernel), List.mem_of_getElem? (i := 745) (by decide +kernel), List.mem_of_getElem? (i := 746) (by decide +kernel)⟩
theorem lw_p55 : lw_okq (⟨"ForAllGameModel", "isClause", "(I)Z"⟩, 13) := ⟨⟨by decide +kernel, by decide +kernel⟩, List.mem_of_getElem? (i := 644) (by decide +kernel), List.mem_of_getElem? (i := 753) (by decide +kernel), List.mem_of_getElem? (i := 754) (by decide +kernel)⟩
theorem lw_p56 : lw_okq (⟨"ForAllGameModel", "whyNotLearn", "(I)I"⟩, 13) := ⟨⟨by decide +kernel, by decide +kernel⟩, List.mem_of_getElem? (i := 644) (by decide +kernel), List.mem_of_getElem? (i := 761) (by decide +kernel), List.mem_of_getElem? (i := 762) (by decide +kernel)⟩
theorem lw_p57 : lw_okq (⟨"ForAllGameModel", "isPlay", "(I)Z"⟩, 13) := ⟨⟨by decide +kernel, by decide +kernel⟩, List.mem_of_getElem? (i := 644) (by decide +kernel), List.mem_of_getElem? (i := 765) (by decide +kernel), List.mem_of_getElem? (i := 766) (by decide +kernel)⟩
theorem lw_p58 : lw_okq (⟨"ForAllGameModel", "plays", "()I"⟩, 13) := ⟨⟨by decide +kernel, by decide +kernel⟩, List.mem_of_getElem? (i := 644) (by decide +kernel), List.mem_of_getElem? (i := 769) (by decide +kernel), List.mem_of_getElem? (i := 770) (by decide +kernel)⟩
theorem lw_p59 : lw_okq (⟨"ForAllGameModel", "rounds", "()I"⟩, 13) := ⟨⟨by decide +kernel, by decide +kernel⟩, List.mem_of_getElem? (i := 644) (by decide +kernel), List.mem_of_getElem? (i := 781) (by decide +kernel), List.mem_of_getElem? (i := 782) (by decide +kernel)⟩
theorem lw_p60 : lw_okq (⟨"ForAllGameModel", "finds", "()V"⟩, 13) := ⟨⟨by decide +kernel, by decide +kernel⟩, List.mem_of_getElem? (i := 644) (by decide +kernel), List.mem_of_getElem? (i := 785) (by decide +kernel), List.mem_of_getElem? (i := 786) (by decide +kernel)⟩
theorem lw_p61 : lw_okq (⟨"ForAllGameModel", "isAs", "(III)Z"⟩, 13) := ⟨⟨by decide +kernel, by decide +kernel⟩, List.mem_of_getElem? (i := 644) (by decide +kernel), List.mem_of_getElem? (i := 789) (by decide +kernel), List.mem_of_getElem? (i := 790) (by decide +kernel)⟩
theorem lw_p62 : lw_okq (⟨"ForAllGameModel", "isBreakersOwn", "(I)Z"⟩, 13) := ⟨⟨by decide +kernel, by decide +kernel⟩, List.mem_of_getElem? (i := 644) (by decide +kernel), List.mem_of_getElem? (i := 793) (by decide +kernel), List.mem_of_getElem? (i := 794) (by decide +kernel)⟩
theorem lw_p63 : lw_okq (⟨"ForAllGameModel", "against", "(I)Z"⟩, 13) := ⟨⟨by decide +kernel, by decide +kernel⟩, List.mem_of_getElem? (i := 644) (by decide +kernel), List.mem_of_getElem? (i := 797) (by decide +kernel), List.mem_of_getElem? (i := 798) (by decide +kernel)⟩
def lw_privs_4 : List (MethodName × Nat) := [(⟨"ForAllGameModel", "tells", "(I)I"⟩, 13), (⟨"ForAllGameModel", "canAdd", "(Z)Z"⟩, 13), (⟨"ForAllGameModel", "fails", "(I)I"⟩, 13), (⟨"ForAllGameModel", "adds", "(Z)I"⟩, 13), (⟨"ForAllGameModel", "whyNotClause", "(II)I"⟩, 13), (⟨"ForAllGameModel", "isSet", "(I)Z"⟩, 13), (⟨"ForAllGameModel", "addsClause", "(II)I"⟩, 13), (⟨"ForAllGameModel", "isClause", "(I)Z"⟩, 13), (⟨"ForAllGameModel", "whyNotLearn", "(I)I"⟩, 13), (⟨"ForAllGameModel", "isPlay", "(I)Z"⟩, 13), (⟨"ForAllGameModel", "plays", "()I"⟩, 13), (⟨"ForAllGameModel", "rounds", "()I"⟩, 13), (⟨"ForAllGameModel", "finds", "()V"⟩, 13), (⟨"ForAllGameModel", "isAs", "(III)Z"⟩, 13), (⟨"ForAllGameModel", "isBreakersOwn", "(I)Z"⟩, 13), (⟨"ForAllGameModel", "against", "(I)Z"⟩, 13)]
theorem lw_r4 : ∀ q ∈ lw_privs_4, lw_okq q := List.forall_mem_cons.mpr ⟨lw_p48, List.forall_mem_cons.mpr ⟨lw_p49, List.forall_mem_cons.mpr ⟨lw_p50, List.forall_mem_cons.mpr ⟨lw_p51, List.forall_mem_cons.mpr ⟨lw_p52, List.forall_mem_cons.mpr ⟨lw_p53, List.forall_mem_cons.mpr ⟨lw_p54, List.forall_mem_cons.mpr ⟨lw_p55, List.forall_mem_cons.mpr ⟨lw_p56, List.forall_mem_cons.mpr ⟨lw_p57, List.forall_mem_cons.mpr ⟨lw_p58, List.forall_mem_cons.mpr ⟨lw_p59, List.forall_mem_cons.mpr ⟨lw_p60, List.forall_mem_cons.mpr ⟨lw_p61, List.forall_mem_cons.mpr ⟨lw_p62, List.forall_mem_cons.mpr ⟨lw_p63, fun _ h => absurd h List.not_mem_nil⟩⟩⟩⟩⟩⟩⟩⟩⟩⟩⟩⟩⟩⟩⟩⟩
theorem lw_p64 : lw_okq (⟨"ForAllGameModel", "isMade", "(I)Z"⟩, 13) := ⟨⟨by decide +kernel, by decide +kernel⟩, List.mem_of_getElem? (i := 644) (by decide +kernel), List.mem_of_getElem? (i := 801) (by decide +kernel), List.mem_of_getElem? (i := 802) (by decide +kernel)⟩
theorem lw_p65 : lw_okq (⟨"ForAllGameModel", "answers", "(I)I"⟩, 13) := ⟨⟨by decide +kernel, by decide +kernel⟩, List.mem_of_getElem? (i := 644) (by decide +kernel), List.mem_of_getElem? (i := 805) (by decide +kernel), List.mem_of_getElem? (i := 806) (by decide +kernel)⟩
theorem lw_p66 : lw_okq (⟨"ForAllGameModel", "isVariable", "(I)Z"⟩, 13) := ⟨⟨by decide +kernel, by decide +kernel⟩, List.mem_of_getElem? (i := 644) (by decide +kernel), List.mem_of_getElem? (i := 817) (by decide +kernel), List.mem_of_getElem? (i := 818) (by decide +kernel)⟩
theorem lw_p67 : lw_okq (⟨"ForAllGameModel", "ofClause", "(II)I"⟩, 13) := ⟨⟨by decide +kernel, by decide +kernel⟩, List.mem_of_getElem? (i := 644) (by decide +kernel), List.mem_of_getElem? (i := 825) (by decide +kernel), List.mem_of_getElem? (i := 826) (by decide +kernel)⟩
theorem lw_p68 : lw_okq (⟨"ForAllGameModel", "number", "(I)I"⟩, 13) := ⟨⟨by decide +kernel, by decide +kernel⟩, List.mem_of_getElem? (i := 644) (by decide +kernel), List.mem_of_getElem? (i := 837) (by decide +kernel), List.mem_of_getElem? (i := 838) (by decide +kernel)⟩
theorem lw_p69 : lw_okq (⟨"ForAllGameModel", "winnerOfAll", "()I"⟩, 13) := ⟨⟨by decide +kernel, by decide +kernel⟩, List.mem_of_getElem? (i := 644) (by decide +kernel), List.mem_of_getElem? (i := 845) (by decide +kernel), List.mem_of_getElem? (i := 846) (by decide +kernel)⟩
theorem lw_p70 : lw_okq (⟨"ForAllGameModel", "lays", "(I)V"⟩, 13) := ⟨⟨by decide +kernel, by decide +kernel⟩, List.mem_of_getElem? (i := 644) (by decide +kernel), List.mem_of_getElem? (i := 849) (by decide +kernel), List.mem_of_getElem? (i := 850) (by decide +kernel)⟩
theorem lw_p71 : lw_okq (⟨"ForAllGameModel", "whyNotAt", "(II)I"⟩, 13) := ⟨⟨by decide +kernel, by decide +kernel⟩, List.mem_of_getElem? (i := 644) (by decide +kernel), List.mem_of_getElem? (i := 857) (by decide +kernel), List.mem_of_getElem? (i := 858) (by decide +kernel)⟩
theorem lw_p72 : lw_okq (⟨"ForAllGameModel", "waysOf", "(I)I"⟩, 13) := ⟨⟨by decide +kernel, by decide +kernel⟩, List.mem_of_getElem? (i := 644) (by decide +kernel), List.mem_of_getElem? (i := 869) (by decide +kernel), List.mem_of_getElem? (i := 870) (by decide +kernel)⟩
theorem lw_p73 : lw_okq (⟨"ForAllGameModel", "is", "(Z)Z"⟩, 13) := ⟨⟨by decide +kernel, by decide +kernel⟩, List.mem_of_getElem? (i := 644) (by decide +kernel), List.mem_of_getElem? (i := 877) (by decide +kernel), List.mem_of_getElem? (i := 878) (by decide +kernel)⟩
theorem lw_p74 : lw_okq (⟨"ForAllGameModel", "copiesOfAll", "()I"⟩, 13) := ⟨⟨by decide +kernel, by decide +kernel⟩, List.mem_of_getElem? (i := 644) (by decide +kernel), List.mem_of_getElem? (i := 889) (by decide +kernel), List.mem_of_getElem? (i := 890) (by decide +kernel)⟩
theorem lw_p75 : lw_okq (⟨"ForAllGameModel", "least", "()I"⟩, 13) := ⟨⟨by decide +kernel, by decide +kernel⟩, List.mem_of_getElem? (i := 644) (by decide +kernel), List.mem_of_getElem? (i := 897) (by decide +kernel), List.mem_of_getElem? (i := 898) (by decide +kernel)⟩
theorem lw_p76 : lw_okq (⟨"ForAllGameModel", "wrong", "()I"⟩, 13) := ⟨⟨by decide +kernel, by decide +kernel⟩, List.mem_of_getElem? (i := 644) (by decide +kernel), List.mem_of_getElem? (i := 921) (by decide +kernel), List.mem_of_getElem? (i := 922) (by decide +kernel)⟩
theorem lw_p77 : lw_okq (⟨"ForAllGameModel", "reads", "()Z"⟩, 13) := ⟨⟨by decide +kernel, by decide +kernel⟩, List.mem_of_getElem? (i := 644) (by decide +kernel), List.mem_of_getElem? (i := 925) (by decide +kernel), List.mem_of_getElem? (i := 926) (by decide +kernel)⟩
theorem lw_p78 : lw_okq (⟨"ForAllGameModel", "sign", "()I"⟩, 13) := ⟨⟨by decide +kernel, by decide +kernel⟩, List.mem_of_getElem? (i := 644) (by decide +kernel), List.mem_of_getElem? (i := 929) (by decide +kernel), List.mem_of_getElem? (i := 930) (by decide +kernel)⟩
theorem lw_p79 : lw_okq (⟨"ForAllGameModel", "literals", "()Z"⟩, 13) := ⟨⟨by decide +kernel, by decide +kernel⟩, List.mem_of_getElem? (i := 644) (by decide +kernel), List.mem_of_getElem? (i := 933) (by decide +kernel), List.mem_of_getElem? (i := 934) (by decide +kernel)⟩
def lw_privs_5 : List (MethodName × Nat) := [(⟨"ForAllGameModel", "isMade", "(I)Z"⟩, 13), (⟨"ForAllGameModel", "answers", "(I)I"⟩, 13), (⟨"ForAllGameModel", "isVariable", "(I)Z"⟩, 13), (⟨"ForAllGameModel", "ofClause", "(II)I"⟩, 13), (⟨"ForAllGameModel", "number", "(I)I"⟩, 13), (⟨"ForAllGameModel", "winnerOfAll", "()I"⟩, 13), (⟨"ForAllGameModel", "lays", "(I)V"⟩, 13), (⟨"ForAllGameModel", "whyNotAt", "(II)I"⟩, 13), (⟨"ForAllGameModel", "waysOf", "(I)I"⟩, 13), (⟨"ForAllGameModel", "is", "(Z)Z"⟩, 13), (⟨"ForAllGameModel", "copiesOfAll", "()I"⟩, 13), (⟨"ForAllGameModel", "least", "()I"⟩, 13), (⟨"ForAllGameModel", "wrong", "()I"⟩, 13), (⟨"ForAllGameModel", "reads", "()Z"⟩, 13), (⟨"ForAllGameModel", "sign", "()I"⟩, 13), (⟨"ForAllGameModel", "literals", "()Z"⟩, 13)]
theorem lw_r5 : ∀ q ∈ lw_privs_5, lw_okq q := List.forall_mem_cons.mpr ⟨lw_p64, List.forall_mem_cons.mpr ⟨lw_p65, List.forall_mem_cons.mpr ⟨lw_p66, List.forall_mem_cons.mpr ⟨lw_p67, List.forall_mem_cons.mpr ⟨lw_p68, List.forall_mem_cons.mpr ⟨lw_p69, List.forall_mem_cons.mpr ⟨lw_p70, List.forall_mem_cons.mpr ⟨lw_p71, List.forall_mem_cons.mpr ⟨lw_p72, List.forall_mem_cons.mpr ⟨lw_p73, List.forall_mem_cons.mpr ⟨lw_p74, List.forall_mem_cons.mpr ⟨lw_p75, List.forall_mem_cons.mpr ⟨lw_p76, List.forall_mem_cons.mpr ⟨lw_p77, List.forall_mem_cons.mpr ⟨lw_p78, List.forall_mem_cons.mpr ⟨lw_p79, fun _ h => absurd h List.not_mem_nil⟩⟩⟩⟩⟩⟩⟩⟩⟩⟩⟩⟩⟩⟩⟩⟩
theorem lw_p80 : lw_okq (⟨"ForAllGameModel", "number", "()Z"⟩, 13) := ⟨⟨by decide +kernel, by decide +kernel⟩, List.mem_of_getElem? (i := 644) (by decide +kernel), List.mem_of_getElem? (i := 937) (by decide +kernel), List.mem_of_getElem? (i := 938) (by decide +kernel)⟩
theorem lw_p81 : lw_okq (⟨"ForAllGameModel", "does", "()Z"⟩, 13) := ⟨⟨by decide +kernel, by decide +kernel⟩, List.mem_of_getElem? (i := 644) (by decide +kernel), List.mem_of_getElem? (i := 941) (by decide +kernel), List.mem_of_getElem? (i := 942) (by decide +kernel)⟩
def lw_privs_6 : List (MethodName × Nat) := [(⟨"ForAllGameModel", "number", "()Z"⟩, 13), (⟨"ForAllGameModel", "does", "()Z"⟩, 13)]
theorem lw_r6 : ∀ q ∈ lw_privs_6, lw_okq q := List.forall_mem_cons.mpr ⟨lw_p80, List.forall_mem_cons.mpr ⟨lw_p81, fun _ h => absurd h List.not_mem_nil⟩⟩
def lw_privs : List (MethodName × Nat) := lw_privs_1 ++ (lw_privs_2 ++ (lw_privs_3 ++ (lw_privs_4 ++ (lw_privs_5 ++ (lw_privs_6)))))
def lw_tbl : List Cond := k2_sels lw_privs ++ tables_1
theorem lw_privs_ok : ∀ q ∈ lw_privs, lw_okq q := by
  show ∀ q ∈ lw_privs_1 ++ (lw_privs_2 ++ (lw_privs_3 ++ (lw_privs_4 ++ (lw_privs_5 ++ (lw_privs_6))))), lw_okq q
  exact List.forall_mem_append.mpr ⟨lw_r1, List.forall_mem_append.mpr ⟨lw_r2, List.forall_mem_append.mpr ⟨lw_r3, List.forall_mem_append.mpr ⟨lw_r4, List.forall_mem_append.mpr ⟨lw_r5, lw_r6⟩⟩⟩⟩⟩
/-- the streams that the claim lets the run draw from -/
abbrev lw_cs : List Choice := [Jvm.Choice.named "NaN.bits"]
theorem lw_bits : nanBits ∈ lw_cs := by first | decide | exact List.mem_cons_self | simp [lw_cs, nanBits]
-- ===== end of PART A; then your names; then what follows =====
/-! ===== BEGIN words of one list among another's, by their places ===== -/
theorem goodIn_r {big : List Cond} (ws : List Cond) (ps : List Nat) (hp : ws = ps.filterMap (fun i => big[i]?)) (h : ws.all goodWord = true) : GoodIn big ws := by
  intro w hw
  have h1 := List.all_eq_true.mp h w hw
  rw [hp] at hw
  obtain ⟨i, -, hi⟩ := List.mem_filterMap.mp hw
  have hm : w ∈ big := by first | exact List.mem_of_getElem? hi | exact List.getElem?_mem hi
  exact ⟨hm, good_of_word h1⟩
theorem goodIn_app {big a b : List Cond} (ha : GoodIn big a) (hb : GoodIn big b) : GoodIn big (a ++ b) := fun w h => (List.mem_append.mp h).elim (ha w) (hb w)
theorem goodIn_ca {big a b : List Cond} {c : Cond} (ha : GoodIn big (c :: a)) (hb : GoodIn big b) : GoodIn big (c :: (a ++ b)) := fun w h => (List.mem_cons.mp h).elim (fun e => ha w (List.mem_cons.mpr (Or.inl e))) (fun h => (List.mem_append.mp h).elim (fun h => ha w (List.mem_cons.mpr (Or.inr h))) (hb w))
theorem goodIn_sub {big ws : List Cond} (hm : ∀ w ∈ ws, w ∈ big) (h : ws.all goodWord = true) : GoodIn big ws := fun w hw => ⟨hm w hw, good_of_word (List.all_eq_true.mp h w hw)⟩
/-! ===== END ===== -/

/-! ===== BEGIN exceptions that leave a method, and their catching by the caller (launches without stack traces) ===== -/
section VXA
/-! The laws vx_back, vx_callV, vx_callS, vx_callSW, vx_throw0, vx_throwS follow proofs of the library, with one case more: JvmDerived/Free/Laws.lean (Back.of_free), Shelf42/LK1.lean (callV, callS), Shelf/KitTraced.lean (throwNew0V, throwNewS). -/
/-- where a method has thrown q: the class by its name, the cell, what was written, the world -/
def vx_T (XC : String → State → State → Prop) (st : State) (q : Addr) (t : State) (mc ms : Nat) (free : Addr → Prop) : Prop :=
  ∃ (E : String) (ce : Cell) (L : List Loc), XC E st t ∧ t.heap[q]? = some ce ∧ ce.vm = .none ∧ st.vm.findClass E = some ce.cls ∧ st.WarmedH t.vm ∧ st.sameButNew ({ t with vm := st.vm } : State) L mc ms ∧ ∀ z ∈ L, free z.base
def vx_Q (Qc : Array Value → State → Outcome → State → Prop) (XC : String → State → State → Prop) (mc ms : Nat) (free : Addr → Prop) : Array Value → State → Outcome → State → Prop := fun a st o t =>
  (Qc a st o t ∧ ∃ L, FrameEnd st o t L mc ms ∧ ∀ q ∈ L, free q.base) ∨ ∃ q, o = .threw q ∧ vx_T XC st q t mc ms free
/-- a callee that returns or throws -/
def vx_Met (l : Launch) (y : MethodName) (ws : List Cond) (rm : Room) (Pc : Array Value → State → Prop) (Qc : Array Value → State → Outcome → State → Prop) (XC : String → State → State → Prop) (mc ms : Nat) (free : Addr → Prop) : Prop :=
  MetFree l y (headSpec ws rm) Pc (fun _ _ _ _ _ => True) (vx_Q Qc XC mc ms free)
def vx_Post (XC : String → State → State → Prop) (mc ms : Nat) (free : Addr → Prop) : Pt → Array Value → Addr → Pt → Prop := fun A a q B =>
  ∃ (g : JFrame) (mk : MethodId) (t : State) (L : List Loc) (E : String) (ce : Cell), B.U.heap = t.heap ∧ B.U.vm = t.vm ∧ XC E (A.U.calling g mk a) t ∧ t.heap[q]? = some ce ∧ ce.vm = .none ∧ A.U.vm.findClass E = some ce.cls ∧ B.locs = A.locs ++ L ∧ (∀ z ∈ L, free z.base) ∧ B.cells = A.cells + mc ∧ B.slots = A.slots + ms
def vx_Back (l : Launch) (R : Room) (p : Program) (e : Env) (below : List Frame) (s : State) (sargs : Array Value) (y : MethodName) (len W9 : Nat)
    (Pre : Pt → Array Value → Prop) (Post : Pt → Array Value → Option Value → Pt → Prop) (PostX : Pt → Array Value → Addr → Pt → Prop) : Prop :=
  ∀ (m : MethodId) (meth : Method) (c : Code) (A : Pt) (g : JFrame) (ig : Instr) (mk : MethodId) (a : Array Value),
    Stand p l e R s m sargs below meth c A.U A.locs A.cells A.slots → g.method = m → g.locals.size = c.maxLocals → decode c.code g.pc = .ok (ig, len) →
    2 * g.monitorRoom + (g.stack.map fun v => v.category).sum ≤ W9 → A.U.methodNamed? y = some mk → Pre A a →
    (∃ (v : Option Value) (B : Pt), Stand p l e R s m sargs below meth c B.U B.locs B.cells B.slots ∧ Post A a v B ∧
      Steps p.tables e below (doInvoke e (A.U.setTop g) [] mk a).1 (B.U.setTop { g with pc := g.pc + len, stack := v.toList ++ g.stack })) ∨
    (∃ (q : Addr) (B : Pt), Stand p l e R s m sargs below meth c B.U B.locs B.cells B.slots ∧ PostX A a q B ∧
      Steps p.tables e below (doInvoke e (A.U.setTop g) [] mk a).1 ((B.U.setTop g).pushFrame (.throwing q)))
section Payer
variable {l : Launch} {R : Room} {p : Program} {e : Env} {below : List Frame} {s : State} {sargs : Array Value} {y : MethodName} {len W9 : Nat}
theorem vx_back {ws : List Cond} {rm : Room} {Pc : Array Value → State → Prop} {Qc : Array Value → State → Outcome → State → Prop} {XC : String → State → State → Prop} {mc ms : Nat} {free : Addr → Prop} {bytes : ByteArray} {maxL : Nat} {ret : Option FieldType}
    (hM : vx_Met l y ws rm Pc Qc XC mc ms free) (hblind : FrameBlind Pc) (hrc : rm.cells = mc) (hrs : rm.slots = ms)
    (hframes : rm.frames + 1 ≤ R.frames) (hlocals : W9 + (maxL + 11) + rm.locals ≤ R.locals)
    (hws : ∀ w ∈ ws, ∀ a' U, s.WarmedH U.vm → w.before a' U = true) (hcode : Cond.code y bytes maxL ret ∈ ws) (hinit : ∀ a' U, s.WarmedH U.vm → (Cond.initialized y.cls).before a' U = true) :
    vx_Back l R p e below s sargs y len W9 (PreOf R mc ms Pc) (PostOf Qc mc ms free) (vx_Post XC mc ms free) := by
  intro m meth c A g ig mk a X hg hsize hdg hW hn hp
  have h1 : (headSpec ws rm).pre.before a A.U = true := atoms_intro fun w hw => hws w hw _ _ X.warmed
  have h2 : (Cond.code y bytes maxL ret).before a A.U = true := hws _ hcode _ _ X.warmed
  have h3 : (Cond.initialized y.cls).before a A.U = true := hinit _ _ X.warmed
  have h4 : A.cells + (headSpec ws rm).room.cells ≤ R.cells := by rw [show (headSpec ws rm).room.cells = mc from hrc]; exact hp.1
  have h5 : A.slots + (headSpec ws rm).room.slots ≤ R.slots := by rw [show (headSpec ws rm).room.slots = ms from hrs]; exact hp.2.1
  have hPc : Pc a (A.U.calling g mk a) := hblind _ _ _ _ hp.2.2
  obtain ⟨U, Ls, c0, s0⟩ := A
  dsimp only [Pt.U, Pt.locs, Pt.cells, Pt.slots] at h1 h2 h3 h4 h5 X hn hPc ⊢
  obtain ⟨methY, cY, hmY, hcY, -, hlY, -, -, -, -⟩ := Cond.code_spec hn h2
  obtain ⟨kY, hkY, -⟩ := className_of_methodNamed hn
  have hinitY : kY.init = .initialized := Cond.initialized_spec (findClass_of_methodNamed hn) hkY h3
  have h : At U g.method c below := by rw [hg]; exact X.here
  have hlocals9 : W9 + (maxL + 11) + (headSpec ws rm).room.locals ≤ R.locals := hlocals
  have happ : (headSpec ws rm).appliesLoose y e.platform (U.calling g mk a) = true :=
    Spec.appliesLoose_calling (g := g) h hdg hn hkY hinitY
      (X.room_calling (g := g) (R' := (headSpec ws rm).room) hsize hmY hcY hframes (by rw [hlY]; omega) h4 h5) h1
  obtain ⟨mid, hmid⟩ := h.above
  have hfr : (U.setTop g).frames = (.java g :: mid) ++ below := by rw [State.frames_setTop' g h.top, hmid]; rfl
  obtain ⟨o, s₂, hsteps, -, hend, hq⟩ := Steps.callFree hM p X.admits X.cas X.clock (acts := []) hfr happ hPc trivial
  have hq' : vx_Q Qc XC mc ms free a (U.calling g mk a) o s₂ := hq
  rw [State.frames_setTop' g h.top] at hend
  obtain ⟨g₀, hg0⟩ := Option.isSome_iff_exists.mp h.top
  obtain ⟨r, hr⟩ := State.topJava?_eq_some.mp hg0
  have hr' : (({ U with heap := s₂.heap, slotsUsed := s₂.slotsUsed } : State).setVm s₂.vm).frames = .java g₀ :: r := hr
  rcases hq' with ⟨hqc, L, hfe, hL⟩ | ⟨q, rfl, E, ce, L, hx, hce, hcv, hcl, hW₂, hsm, hL⟩
  · obtain ⟨⟨v, rfl⟩, hW₂, e2, q2, q3, q4, q5, q6⟩ := id hfe
    have e3 : s₂ = ({ (U.calling g mk a).setFrames s₂.frames with heap := s₂.heap, slotsUsed := s₂.slotsUsed } : State).setVm s₂.vm := by
      have : s₂ = ({ s₂ with vm := (U.calling g mk a).vm } : State).setVm s₂.vm := rfl
      rw [e2] at this
      exact this
    obtain ⟨c₂, i₂, len₂, hc₂, hd₂, hf₂⟩ := hend
    have hW' : U.WarmedH s₂.vm := hW₂
    have hcc : c₂ = c := by
      have h1 : s₂.code? g.method = U.code? g.method := by
        rw [State.code?_eq, State.code?_eq, hW'.alike.method?]
      exact Option.some.inj (hc₂.symm.trans (h1.trans h.code))
    subst hcc
    have hlen : len₂ = len := by rw [hdg] at hd₂; cases hd₂; rfl
    subst hlen
    have hs₂ : s₂ = (({ U with heap := s₂.heap, slotsUsed := s₂.slotsUsed } : State).setVm s₂.vm).setTop { g with pc := g.pc + len₂, stack := v.toList ++ g.stack } := by
      refine e3.trans ?_
      rw [hf₂, State.calling_eq h.top, State.setFrames_setFrames, State.setTop_of_frames _ hr', hr]
      rfl
    have hsame : U.sameButNew ({ U with heap := s₂.heap, slotsUsed := s₂.slotsUsed } : State) L mc ms := by
      refine ⟨?_, q2, q3, q4, q5, q6⟩
      obtain ⟨t, ht, -⟩ := State.frames_cons hr
      show ({ U with heap := s₂.heap, slotsUsed := s₂.slotsUsed } : State) = { U.setFrames U.frames with heap := s₂.heap, slotsUsed := s₂.slotsUsed }
      rw [State.setFrames_self ht]
    subst hg
    refine Or.inl ⟨v, ⟨(({ U with heap := s₂.heap, slotsUsed := s₂.slotsUsed } : State).setVm s₂.vm), Ls ++ L, c0 + mc, s0 + ms⟩,
      ⟨X.admits, X.cas, X.clock, X.frames, X.room, X.hears, X.method, X.code, (X.here.setHeapUsed s₂.heap s₂.slotsUsed).setVm hW'.alike, X.tail, State.WarmedH.trans X.warmed hW', X.limits, X.bytes, X.same.trans (hsame.setVm s.vm)⟩,
      ⟨g, mk, s₂, L, rfl, rfl, hqc, rfl, hL, rfl, rfl⟩, ?_⟩
    show Steps p.tables e below _ ((({ U with heap := s₂.heap, slotsUsed := s₂.slotsUsed } : State).setVm s₂.vm).setTop { g with pc := g.pc + len₂, stack := v.toList ++ g.stack })
    rw [← hs₂]
    exact hsteps
  · obtain ⟨e2, q2, q3, q4, q5, q6⟩ := id hsm
    have e3 : s₂ = ({ (U.calling g mk a).setFrames s₂.frames with heap := s₂.heap, slotsUsed := s₂.slotsUsed } : State).setVm s₂.vm := by
      have : s₂ = ({ s₂ with vm := (U.calling g mk a).vm } : State).setVm s₂.vm := rfl
      rw [e2] at this
      exact this
    have hf₂ : s₂.frames = .throwing q :: .java g :: U.frames.tail := hend
    have hW' : U.WarmedH s₂.vm := hW₂
    have hs₂ : s₂ = ((({ U with heap := s₂.heap, slotsUsed := s₂.slotsUsed } : State).setVm s₂.vm).setTop g).pushFrame (.throwing q) := by
      refine e3.trans ?_
      rw [hf₂, State.calling_eq h.top, State.setFrames_setFrames, State.pushFrame, State.frames_setTop _ hr', State.setTop_of_frames _ hr', State.setFrames_setFrames, hr]
      rfl
    have hsame : U.sameButNew ({ U with heap := s₂.heap, slotsUsed := s₂.slotsUsed } : State) L mc ms := by
      refine ⟨?_, q2, q3, q4, q5, q6⟩
      obtain ⟨t, ht, -⟩ := State.frames_cons hr
      show ({ U with heap := s₂.heap, slotsUsed := s₂.slotsUsed } : State) = { U.setFrames U.frames with heap := s₂.heap, slotsUsed := s₂.slotsUsed }
      rw [State.setFrames_self ht]
    subst hg
    refine Or.inr ⟨q, ⟨(({ U with heap := s₂.heap, slotsUsed := s₂.slotsUsed } : State).setVm s₂.vm), Ls ++ L, c0 + mc, s0 + ms⟩,
      ⟨X.admits, X.cas, X.clock, X.frames, X.room, X.hears, X.method, X.code, (X.here.setHeapUsed s₂.heap s₂.slotsUsed).setVm hW'.alike, X.tail, State.WarmedH.trans X.warmed hW', X.limits, X.bytes, X.same.trans (hsame.setVm s.vm)⟩,
      ⟨g, mk, s₂, L, E, ce, rfl, rfl, hx, hce, hcv, hcl, rfl, hL, rfl, rfl⟩, ?_⟩
    show Steps p.tables e below _ (((({ U with heap := s₂.heap, slotsUsed := s₂.slotsUsed } : State).setVm s₂.vm).setTop g).pushFrame (.throwing q))
    rw [← hs₂]
    exact hsteps
end Payer
section Calls
variable {p : Program} {l : Launch} {e : Env} {R : Room} {s : State} {m : MethodId} {args : Array Value} {below : List Frame} {meth : Method} {c : Code} {T : State} {locs : List Loc} {cells slots : Nat}
theorem vx_callV (X : Stand p l e R s m args below meth c T locs cells slots) (hexec : p.tables.exec = Jvm.exec) {own C : String} {index : Nat} {y : MethodName} {bytes : ByteArray} {maxL : Nat} {ret : Option FieldType}
    (hown : s.vm.findClass own = some m.cls) (hlink : (Cond.methodLink own index y).before args s = true) (hinst : (Cond.instanceMethod y).before args s = true) (hsel : (Cond.selects C y y).before args s = true)
    (hcode : (Cond.code y bytes maxL ret).before args s = true) (hy : y.cls ≠ "java/lang/invoke/MethodHandle" ∧ y.cls ≠ "java/lang/invoke/VarHandle")
    {W9 : Nat} {Pre : Pt → Array Value → Prop} {Post : Pt → Array Value → Option Value → Pt → Prop} {PostX : Pt → Array Value → Addr → Pt → Prop} (hK : vx_Back l R p e below s args y 3 W9 Pre Post PostX)
    {b : Addr} {cellB : Cell} (hcell : T.heap[b]? = some cellB) (hobj : cellB.vm.isStatics = false) (hcls : s.vm.findClass C = some cellB.cls)
    {g : JFrame} (hg : g.method = m) (hsize : g.locals.size = c.maxLocals) {argsL rest : List Value} (hlen : ∀ sig, parseMethodDescriptor y.desc = some sig → argsL.length = sig.parameters.length)
    (hstack : g.stack = argsL.reverse ++ .ref b :: rest) (hW : 2 * g.monitorRoom + (rest.map fun v => v.category).sum ≤ W9) (hdg : decode c.code g.pc = .ok (.invokevirtual index, 3))
    (hpre : ∀ vm₁, s.WarmedH vm₁ → Pre ⟨T.setVm vm₁, locs, cells, slots⟩ (Value.ref b :: argsL).toArray) :
    (∃ (v : Option Value) (vm₁ : Vm) (B : Pt), s.WarmedH vm₁ ∧ Stand p l e R s m args below meth c B.U B.locs B.cells B.slots ∧ Post ⟨T.setVm vm₁, locs, cells, slots⟩ (Value.ref b :: argsL).toArray v B ∧
      ∀ target, Steps p.tables e below (B.U.setTop { g with pc := g.pc + 3, stack := v.toList ++ rest }) target → Steps p.tables e below (T.setTop g) target) ∨
    (∃ (q : Addr) (vm₁ : Vm) (B : Pt), s.WarmedH vm₁ ∧ Stand p l e R s m args below meth c B.U B.locs B.cells B.slots ∧ PostX ⟨T.setVm vm₁, locs, cells, slots⟩ (Value.ref b :: argsL).toArray q B ∧
      Steps p.tables e below (T.setTop g) ((B.U.setTop { g with stack := rest }).pushFrame (.throwing q))) := by
  obtain ⟨mk, methM, hnamed, hmethM, hstM, habM⟩ := Cond.instanceMethod_spec hinst
  obtain ⟨methM', cM, hmethM', -, -, -, -, -, -, hsigM⟩ := Cond.code_spec hnamed hcode
  cases hmethM.symm.trans hmethM'
  obtain ⟨c2, r2, m2, q1, q2, q3, q4, kP, hkP, hkPi⟩ := Cond.selects_spec hsel
  cases hcls.symm.trans q1
  cases (State.methodFound?_of_named hnamed hy).symm.trans q2
  cases hnamed.symm.trans q3
  have hselP : selectMethod e.platform s.vm cellB.cls mk = .method mk := by rw [Launch.admits_selectMethod X.admits]; exact q4
  obtain ⟨vm₁, X₁, hstep₁⟩ := X.invokevirtual hexec hown hlink hnamed hmethM hstM hkP hkPi hy (a := b) (cell := cellB) hcell
    (fun z h => by rw [h] at hobj; cases hobj) hselP hmethM habM hkP hkPi (g := g) hg (argsL := argsL) (rest := rest) (hlen _ hsigM) hstack hdg
  rcases hK m meth c ⟨T.setVm vm₁, locs, cells, slots⟩ { g with stack := rest } (.invokevirtual index) mk (Value.ref b :: argsL).toArray X₁ hg hsize hdg hW (X₁.named hnamed) (hpre vm₁ X₁.warmed) with ⟨v, B, X', hpost, hsteps⟩ | ⟨q, B, X', hpost, hsteps⟩
  · exact Or.inl ⟨v, vm₁, B, X₁.warmed, X', hpost, fun target h => hstep₁ _ fun acts => by rw [doInvoke_state]; exact hsteps.trans h⟩
  · exact Or.inr ⟨q, vm₁, B, X₁.warmed, X', hpost, hstep₁ _ fun acts => by rw [doInvoke_state]; exact hsteps⟩
theorem vx_callS (X : Stand p l e R s m args below meth c T locs cells slots) (hexec : p.tables.exec = Jvm.exec) {own : String} {index : Nat} {y : MethodName} {bytes : ByteArray} {maxL : Nat} {ret : Option FieldType}
    (hown : s.vm.findClass own = some m.cls) (hlink : (Cond.methodLink own index y).before args s = true) (hstat : (Cond.static y).before args s = true) (hinit : (Cond.initialized y.cls).before args s = true)
    (hcode : (Cond.code y bytes maxL ret).before args s = true) (hy : y.cls ≠ "java/lang/invoke/MethodHandle" ∧ y.cls ≠ "java/lang/invoke/VarHandle")
    {W9 : Nat} {Pre : Pt → Array Value → Prop} {Post : Pt → Array Value → Option Value → Pt → Prop} {PostX : Pt → Array Value → Addr → Pt → Prop} (hK : vx_Back l R p e below s args y 3 W9 Pre Post PostX)
    {g : JFrame} (hg : g.method = m) (hsize : g.locals.size = c.maxLocals) {argsL rest : List Value} (hlen : ∀ sig, parseMethodDescriptor y.desc = some sig → argsL.length = sig.parameters.length)
    (hstack : g.stack = argsL.reverse ++ rest) (hW : 2 * g.monitorRoom + (rest.map fun v => v.category).sum ≤ W9) (hdg : decode c.code g.pc = .ok (.invokestatic index, 3))
    (hpre : ∀ vm₁, s.WarmedH vm₁ → Pre ⟨T.setVm vm₁, locs, cells, slots⟩ argsL.toArray) :
    (∃ (v : Option Value) (vm₁ : Vm) (B : Pt), s.WarmedH vm₁ ∧ Stand p l e R s m args below meth c B.U B.locs B.cells B.slots ∧ Post ⟨T.setVm vm₁, locs, cells, slots⟩ argsL.toArray v B ∧
      ∀ target, Steps p.tables e below (B.U.setTop { g with pc := g.pc + 3, stack := v.toList ++ rest }) target → Steps p.tables e below (T.setTop g) target) ∨
    (∃ (q : Addr) (vm₁ : Vm) (B : Pt), s.WarmedH vm₁ ∧ Stand p l e R s m args below meth c B.U B.locs B.cells B.slots ∧ PostX ⟨T.setVm vm₁, locs, cells, slots⟩ argsL.toArray q B ∧
      Steps p.tables e below (T.setTop g) ((B.U.setTop { g with stack := rest }).pushFrame (.throwing q))) := by
  obtain ⟨mk, hnamed⟩ := Cond.code_named hcode
  obtain ⟨methM, cM, hmethM, -, -, -, -, -, -, hsigM⟩ := Cond.code_spec hnamed hcode
  have hstatic : methM.isStatic = true := Cond.static_spec hnamed hmethM hstat
  obtain ⟨kP, hkP, -⟩ := className_of_methodNamed hnamed
  have hinitP : kP.init = .initialized := Cond.initialized_spec (findClass_of_methodNamed hnamed) hkP hinit
  obtain ⟨vm₁, X₁, hstep₁⟩ := X.invokestatic hexec hown hlink hnamed hmethM hstatic hkP hinitP hy (g := g) hg (argsL := argsL) (rest := rest) (hlen _ hsigM) hstack hdg
  rcases hK m meth c ⟨T.setVm vm₁, locs, cells, slots⟩ { g with stack := rest } (.invokestatic index) mk argsL.toArray X₁ hg hsize hdg hW (X₁.named hnamed) (hpre vm₁ X₁.warmed) with ⟨v, B, X', hpost, hsteps⟩ | ⟨q, B, X', hpost, hsteps⟩
  · exact Or.inl ⟨v, vm₁, B, X₁.warmed, X', hpost, fun target h => hstep₁ _ fun acts => by rw [doInvoke_state]; exact hsteps.trans h⟩
  · exact Or.inr ⟨q, vm₁, B, X₁.warmed, X', hpost, hstep₁ _ fun acts => by rw [doInvoke_state]; exact hsteps⟩
end Calls
theorem vx_cls {s : State} {T : State} {vm₁ : Vm} {E : String} {k : ClassId} (hW : s.WarmedH vm₁) (h : (T.setVm vm₁).vm.findClass E = some k) : s.vm.findClass E = some k := by
  have h1 : vm₁.findClass E = some k := h
  rw [hW.alike.findClass] at h1
  exact h1
/-- the method's frame g, with q thrown over it -/
def vx_W (p : Program) (l : Launch) (e : Env) (R : Room) (s : State) (m : MethodId) (args : Array Value) (below : List Frame) (meth : Method) (c : Code) (H : Heap) (locs : List Loc) (cells slots : Nat) (Q : State → Prop) (g : JFrame) (q : Addr) : Prop :=
  ∀ T : State, T.heap = H → Stand p l e R s m args below meth c T locs cells slots → ∃ t, Steps p.tables e below ((T.setTop g).pushFrame (.throwing q)) t ∧ Q t
def vx_Run (p : Program) (l : Launch) (e : Env) (R : Room) (s : State) (m : MethodId) (args : Array Value) (below : List Frame) (meth : Method) (c : Code) (H : Heap) (locs : List Loc) (cells slots mc ms : Nat) (g : JFrame) (rest : List Value) (Qa : State → Outcome → State → Prop) (XC : String → State → State → Prop) (free : Addr → Prop) : Prop :=
  ∀ T : State, T.heap = H → Stand p l e R s m args below meth c T locs cells slots →
    (∃ (v : Option Value) (st₀ t T' : State) (L : List Loc), st₀.heap = H ∧ Stand p l e R s m args below meth c T' (locs ++ L) (cells + mc) (slots + ms) ∧ (∀ q ∈ L, free q.base) ∧ T'.heap = t.heap ∧ T'.vm = t.vm ∧ Qa st₀ (.returned v) t ∧
      Goes p e below T g T' { g with pc := g.pc + 3, stack := v.toList ++ rest }) ∨
    (∃ (q : Addr) (st₀ t T' : State) (L : List Loc) (E : String) (ce : Cell), st₀.heap = H ∧ Stand p l e R s m args below meth c T' (locs ++ L) (cells + mc) (slots + ms) ∧ (∀ z ∈ L, free z.base) ∧ T'.heap = t.heap ∧ T'.vm = t.vm ∧ XC E st₀ t ∧ t.heap[q]? = some ce ∧ ce.vm = .none ∧ s.vm.findClass E = some ce.cls ∧
      Steps p.tables e below (T.setTop g) ((T'.setTop { g with stack := rest }).pushFrame (.throwing q)))
def vx_X {S : Type} (px : S → Prop) (B : String → S → State → Prop) (A : Nat → Prop) : String → State → State → Prop := fun E st t => ∃ u : S, px u ∧ B E u t ∧ va_F A st t
section Runs
variable {p : Program} {l : Launch} {e : Env} {R : Room} {s : State} {m : MethodId} {args : Array Value} {below : List Frame} {meth : Method} {c : Code} {H : Heap} {locs : List Loc} {cells slots : Nat}
variable {y : MethodName} {bytes cc : ByteArray} {maxL nL mc ms n index : Nat} {ret : Option FieldType} {ws : List Cond} {rm : Room} {Pc : Array Value → State → Prop} {Qc : Array Value → State → Outcome → State → Prop} {XC : String → State → State → Prop} {free : Addr → Prop} {Ts : List Cond} {own C : String} {b : Addr} {As rest : List Value} {g : JFrame}
theorem vx_callBack (cb : CallB R s args own index y bytes maxL ret ws rm mc ms n) (hM : vx_Met l y ws rm Pc Qc XC mc ms free) (hbl : FrameBlind Pc) : vx_Back l R p e below s args y 3 8 (PreOf R mc ms Pc) (PostOf Qc mc ms free) (vx_Post XC mc ms free) := by
  obtain ⟨hrc, hrs, hfr, hlo, hws, hcw, -, hini, -⟩ := cb
  exact vx_back (bytes := bytes) (maxL := maxL) (ret := ret) hM hbl hrc hrs hfr hlo hws hcw (fun a' U hW => word_at hW (Or.inl (by first | rfl | simp [Cond.onTables, Cond.keeps, Cond.steady])) hini)
theorem vx_runV (S : CallFix p m c cc nL s args Ts own) (hM : vx_Met l y ws rm Pc Qc XC mc ms free) (cw : CallW R s args own C index y bytes maxL ret ws rm mc ms n) (hp : PreV s H C b Pc As)
    (hg : g.method = m) (hn : As.length = n) (hsize : g.locals.size = nL) (hstack : g.stack = As.reverse ++ .ref b :: rest) (hW : 2 * g.monitorRoom + (rest.map fun v => v.category).sum ≤ 8) (hdg : decode cc g.pc = .ok (.invokevirtual index, 3)) (hf : cells + mc ≤ R.cells ∧ slots + ms ≤ R.slots) :
    vx_Run p l e R s m args below meth c H locs cells slots mc ms g rest (Qc (Value.ref b :: As).toArray) XC free := by
  have hK : vx_Back l R p e below s args y 3 8 (PreOf R mc ms Pc) (PostOf Qc mc ms free) (vx_Post XC mc ms free) := vx_callBack cw.1 hM hp.1
  obtain ⟨⟨-, -, -, -, -, -, hcode, -, hy, hlen, hl⟩, hin, hse⟩ := cw
  obtain ⟨hx, hb, hml, ho, -⟩ := S
  obtain ⟨-, ⟨cellB, hcB, hoB, hclB⟩, hPc⟩ := hp
  intro T hT X
  rcases vx_callV X hx (C := C) (bytes := bytes) (maxL := maxL) (ret := ret) ho hl hin hse hcode hy hK (by rw [hT]; exact hcB) hoB hclB hg (hsize.trans hml.symm) (argsL := As) (rest := rest) (fun sig h => hn.trans (hlen sig h)) hstack hW (by rw [hb]; exact hdg)
    (fun vm₁ hW₁ => ⟨hf.1, hf.2, hPc (T.setVm vm₁) hT hW₁⟩) with ⟨v, vm₁, ⟨U', l2, c2, s2⟩, hW₁, X', ⟨g', mk, t, L, e1, e2, hq, h1, hL, h2, h3⟩, st⟩ | ⟨q, vm₁, ⟨U', l2, c2, s2⟩, hW₁, X', ⟨g', mk, t, L, E, ce, e1, e2, hq, hce, hcv, hcl, h1, hL, h2, h3⟩, st⟩
  · dsimp only [Pt.U, Pt.locs, Pt.cells, Pt.slots] at X' e1 e2 h1 h2 h3 st
    subst h1; subst h2; subst h3
    exact Or.inl ⟨v, (T.setVm vm₁).calling g' mk (Value.ref b :: As).toArray, t, U', L, hT, X', hL, e1, e2, hq, st⟩
  · dsimp only [Pt.U, Pt.locs, Pt.cells, Pt.slots] at X' e1 e2 h1 h2 h3 st hcl
    subst h1; subst h2; subst h3
    exact Or.inr ⟨q, (T.setVm vm₁).calling g' mk (Value.ref b :: As).toArray, t, U', L, E, ce, hT, X', hL, e1, e2, hq, hce, hcv, vx_cls hW₁ hcl, st⟩
theorem vx_runS (S : CallFix p m c cc nL s args Ts own) (hM : vx_Met l y ws rm Pc Qc XC mc ms free) (cw : CallB R s args own index y bytes maxL ret ws rm mc ms n ∧ (Cond.static y).before args s = true) (hp : PreS s H Pc As)
    (hg : g.method = m) (hn : As.length = n) (hsize : g.locals.size = nL) (hstack : g.stack = As.reverse ++ rest) (hW : 2 * g.monitorRoom + (rest.map fun v => v.category).sum ≤ 8) (hdg : decode cc g.pc = .ok (.invokestatic index, 3)) (hf : cells + mc ≤ R.cells ∧ slots + ms ≤ R.slots) :
    vx_Run p l e R s m args below meth c H locs cells slots mc ms g rest (Qc As.toArray) XC free := by
  have hK : vx_Back l R p e below s args y 3 8 (PreOf R mc ms Pc) (PostOf Qc mc ms free) (vx_Post XC mc ms free) := vx_callBack cw.1 hM hp.1
  obtain ⟨⟨-, -, -, -, -, -, hcode, hini, hy, hlen, hl⟩, hstt⟩ := cw
  obtain ⟨hx, hb, hml, ho, -⟩ := S
  intro T hT X
  rcases vx_callS X hx (bytes := bytes) (maxL := maxL) (ret := ret) ho hl hstt hini hcode hy hK hg (hsize.trans hml.symm) (argsL := As) (rest := rest) (fun sig h => hn.trans (hlen sig h)) hstack hW (by rw [hb]; exact hdg)
    (fun vm₁ hW₁ => ⟨hf.1, hf.2, hp.2 (T.setVm vm₁) hT hW₁⟩) with ⟨v, vm₁, ⟨U', l2, c2, s2⟩, hW₁, X', ⟨g', mk, t, L, e1, e2, hq, h1, hL, h2, h3⟩, st⟩ | ⟨q, vm₁, ⟨U', l2, c2, s2⟩, hW₁, X', ⟨g', mk, t, L, E, ce, e1, e2, hq, hce, hcv, hcl, h1, hL, h2, h3⟩, st⟩
  · dsimp only [Pt.U, Pt.locs, Pt.cells, Pt.slots] at X' e1 e2 h1 h2 h3 st
    subst h1; subst h2; subst h3
    exact Or.inl ⟨v, (T.setVm vm₁).calling g' mk As.toArray, t, U', L, hT, X', hL, e1, e2, hq, st⟩
  · dsimp only [Pt.U, Pt.locs, Pt.cells, Pt.slots] at X' e1 e2 h1 h2 h3 st hcl
    subst h1; subst h2; subst h3
    exact Or.inr ⟨q, (T.setVm vm₁).calling g' mk As.toArray, t, U', L, E, ce, hT, X', hL, e1, e2, hq, hce, hcv, vx_cls hW₁ hcl, st⟩
end Runs
section Rows
variable {p : Program} {l : Launch} {e : Env} {R : Room} {s : State} {m : MethodId} {args : Array Value} {below : List Frame} {meth : Method} {c : Code} {H : Heap} {locs : List Loc} {cells slots : Nat} {Q : State → Prop}
variable {mc ms : Nat} {free : Addr → Prop} {A0 A1 : Nat → Prop} {H0 : Heap} {a : Array Value} {pc : Nat} {ls : Array Slot} {st0 rest : List Value}
theorem vx_keep {st₀ t T' : State} {L : List Loc} (h0 : st₀.heap = H) (e1 : T'.heap = t.heap) (hS : va_S A0 H0 H locs) (hA : ∀ q, q < H.size → A1 q → A0 q) (hf : ∀ q, free q → A0 q) (hL : ∀ q ∈ L, free q.base) (hF : va_F A1 st₀ t) :
    H.size ≤ T'.heap.size ∧ (∀ q : Nat, q < H.size → ¬ A1 q → T'.heap[q]? = H[q]?) ∧ va_S A0 H0 T'.heap (locs ++ L) := by
  obtain ⟨hz, hk⟩ := hF
  rw [h0] at hz hk
  exact ⟨by rw [e1]; exact hz, fun q h1 h2 => by rw [e1]; exact hk q h1 h2,
    ⟨Nat.le_trans hS.1 (by rw [e1]; exact hz), fun q h1 h2 => by rw [e1, hk q (Nat.lt_of_lt_of_le h1 hS.1) (fun z => h2 (hA q (Nat.lt_of_lt_of_le h1 hS.1) z))]; exact hS.2.1 q h1 h2, fun q hq => by
      rcases List.mem_append.mp hq with h | h
      · exact hS.2.2 q h
      · exact hf _ (hL q h)⟩⟩
theorem vx_calli {S SX : Type} {post : Int32 → S → Prop} {px : SX → Prop} {B : S → State → Prop} {BX : String → SX → State → Prop} {AX : Nat → Prop} (hr : vx_Run p l e R s m args below meth c H locs cells slots mc ms (F0 m pc ls st0) rest (va_Qi post B A1 a) (vx_X px BX AX) free) (hS : va_S A0 H0 H locs) (hA : ∀ q, q < H.size → A1 q → A0 q) (hf : ∀ q, free q → A0 q) (hAX : ∀ q, q < H.size → AX q → A0 q)
    (kx : ∀ (E : String) (ce : Cell) (q9 : Addr) (u : SX) (t : State) (H1 : Heap) (locs1 : List Loc), t.heap = H1 → s.vm.Alike t.vm → px u → BX E u t → H.size ≤ H1.size → (∀ q : Nat, q < H.size → ¬ AX q → H1[q]? = H[q]?) → va_S A0 H0 H1 locs1 → H1[q9]? = some ce → ce.vm = .none → s.vm.findClass E = some ce.cls → vx_W p l e R s m args below meth c H1 locs1 (cells + mc) (slots + ms) Q (F0 m pc ls rest) q9)
    (kk : ∀ (r : Int32) (u : S) (t : State) (H1 : Heap) (locs1 : List Loc), t.heap = H1 → s.vm.Alike t.vm → post r u → B u t → H.size ≤ H1.size → (∀ q : Nat, q < H.size → ¬ A1 q → H1[q]? = H[q]?) → va_S A0 H0 H1 locs1 → W p l e R s m args below meth c H1 locs1 (cells + mc) (slots + ms) Q (F0 m (pc + 3) ls (.int r :: rest))) : W p l e R s m args below meth c H locs cells slots Q (F0 m pc ls st0) := by
  intro T hT X
  rcases hr T hT X with ⟨v, st₀, t, T', L, h0, X', hL, e1, e2, ⟨⟨r, u, hv, hp, hb⟩, hF⟩, st⟩ | ⟨q, st₀, t, T', L, E, ce, h0, X', hL, e1, e2, ⟨u, hp, hb, hF⟩, hce, hcv, hcl, st⟩
  · cases hv
    obtain ⟨k1, k2, k3⟩ := vx_keep h0 e1 hS hA hf hL hF
    obtain ⟨t2, a1, b1⟩ := kk r u t T'.heap (locs ++ L) e1.symm (by rw [← e2]; exact X'.warmed.alike) hp hb k1 k2 k3 T' rfl X'
    exact ⟨t2, st t2 a1, b1⟩
  · obtain ⟨k1, k2, k3⟩ := vx_keep h0 e1 hS hAX hf hL hF
    obtain ⟨t2, a1, b1⟩ := kx E ce q u t T'.heap (locs ++ L) e1.symm (by rw [← e2]; exact X'.warmed.alike) hp hb k1 k2 k3 (by rw [e1]; exact hce) hcv hcl T' rfl X'
    exact ⟨t2, st.trans a1, b1⟩
theorem vx_calll {S SX : Type} {post : Int64 → S → Prop} {px : SX → Prop} {B : S → State → Prop} {BX : String → SX → State → Prop} {AX : Nat → Prop} (hr : vx_Run p l e R s m args below meth c H locs cells slots mc ms (F0 m pc ls st0) rest (va_Ql post B A1 a) (vx_X px BX AX) free) (hS : va_S A0 H0 H locs) (hA : ∀ q, q < H.size → A1 q → A0 q) (hf : ∀ q, free q → A0 q) (hAX : ∀ q, q < H.size → AX q → A0 q)
    (kx : ∀ (E : String) (ce : Cell) (q9 : Addr) (u : SX) (t : State) (H1 : Heap) (locs1 : List Loc), t.heap = H1 → s.vm.Alike t.vm → px u → BX E u t → H.size ≤ H1.size → (∀ q : Nat, q < H.size → ¬ AX q → H1[q]? = H[q]?) → va_S A0 H0 H1 locs1 → H1[q9]? = some ce → ce.vm = .none → s.vm.findClass E = some ce.cls → vx_W p l e R s m args below meth c H1 locs1 (cells + mc) (slots + ms) Q (F0 m pc ls rest) q9)
    (kk : ∀ (r : Int64) (u : S) (t : State) (H1 : Heap) (locs1 : List Loc), t.heap = H1 → s.vm.Alike t.vm → post r u → B u t → H.size ≤ H1.size → (∀ q : Nat, q < H.size → ¬ A1 q → H1[q]? = H[q]?) → va_S A0 H0 H1 locs1 → W p l e R s m args below meth c H1 locs1 (cells + mc) (slots + ms) Q (F0 m (pc + 3) ls (.long r :: rest))) : W p l e R s m args below meth c H locs cells slots Q (F0 m pc ls st0) := by
  intro T hT X
  rcases hr T hT X with ⟨v, st₀, t, T', L, h0, X', hL, e1, e2, ⟨⟨r, u, hv, hp, hb⟩, hF⟩, st⟩ | ⟨q, st₀, t, T', L, E, ce, h0, X', hL, e1, e2, ⟨u, hp, hb, hF⟩, hce, hcv, hcl, st⟩
  · cases hv
    obtain ⟨k1, k2, k3⟩ := vx_keep h0 e1 hS hA hf hL hF
    obtain ⟨t2, a1, b1⟩ := kk r u t T'.heap (locs ++ L) e1.symm (by rw [← e2]; exact X'.warmed.alike) hp hb k1 k2 k3 T' rfl X'
    exact ⟨t2, st t2 a1, b1⟩
  · obtain ⟨k1, k2, k3⟩ := vx_keep h0 e1 hS hAX hf hL hF
    obtain ⟨t2, a1, b1⟩ := kx E ce q u t T'.heap (locs ++ L) e1.symm (by rw [← e2]; exact X'.warmed.alike) hp hb k1 k2 k3 (by rw [e1]; exact hce) hcv hcl T' rfl X'
    exact ⟨t2, st.trans a1, b1⟩
theorem vx_callf {S SX : Type} {post : UInt32 → S → Prop} {px : SX → Prop} {B : S → State → Prop} {BX : String → SX → State → Prop} {AX : Nat → Prop} (hr : vx_Run p l e R s m args below meth c H locs cells slots mc ms (F0 m pc ls st0) rest (va_Qf post B A1 a) (vx_X px BX AX) free) (hS : va_S A0 H0 H locs) (hA : ∀ q, q < H.size → A1 q → A0 q) (hf : ∀ q, free q → A0 q) (hAX : ∀ q, q < H.size → AX q → A0 q)
    (kx : ∀ (E : String) (ce : Cell) (q9 : Addr) (u : SX) (t : State) (H1 : Heap) (locs1 : List Loc), t.heap = H1 → s.vm.Alike t.vm → px u → BX E u t → H.size ≤ H1.size → (∀ q : Nat, q < H.size → ¬ AX q → H1[q]? = H[q]?) → va_S A0 H0 H1 locs1 → H1[q9]? = some ce → ce.vm = .none → s.vm.findClass E = some ce.cls → vx_W p l e R s m args below meth c H1 locs1 (cells + mc) (slots + ms) Q (F0 m pc ls rest) q9)
    (kk : ∀ (r : UInt32) (u : S) (t : State) (H1 : Heap) (locs1 : List Loc), t.heap = H1 → s.vm.Alike t.vm → post r u → B u t → H.size ≤ H1.size → (∀ q : Nat, q < H.size → ¬ A1 q → H1[q]? = H[q]?) → va_S A0 H0 H1 locs1 → W p l e R s m args below meth c H1 locs1 (cells + mc) (slots + ms) Q (F0 m (pc + 3) ls (.float r :: rest))) : W p l e R s m args below meth c H locs cells slots Q (F0 m pc ls st0) := by
  intro T hT X
  rcases hr T hT X with ⟨v, st₀, t, T', L, h0, X', hL, e1, e2, ⟨⟨r, u, hv, hp, hb⟩, hF⟩, st⟩ | ⟨q, st₀, t, T', L, E, ce, h0, X', hL, e1, e2, ⟨u, hp, hb, hF⟩, hce, hcv, hcl, st⟩
  · cases hv
    obtain ⟨k1, k2, k3⟩ := vx_keep h0 e1 hS hA hf hL hF
    obtain ⟨t2, a1, b1⟩ := kk r u t T'.heap (locs ++ L) e1.symm (by rw [← e2]; exact X'.warmed.alike) hp hb k1 k2 k3 T' rfl X'
    exact ⟨t2, st t2 a1, b1⟩
  · obtain ⟨k1, k2, k3⟩ := vx_keep h0 e1 hS hAX hf hL hF
    obtain ⟨t2, a1, b1⟩ := kx E ce q u t T'.heap (locs ++ L) e1.symm (by rw [← e2]; exact X'.warmed.alike) hp hb k1 k2 k3 (by rw [e1]; exact hce) hcv hcl T' rfl X'
    exact ⟨t2, st.trans a1, b1⟩
theorem vx_calld {S SX : Type} {post : UInt64 → S → Prop} {px : SX → Prop} {B : S → State → Prop} {BX : String → SX → State → Prop} {AX : Nat → Prop} (hr : vx_Run p l e R s m args below meth c H locs cells slots mc ms (F0 m pc ls st0) rest (va_Qd post B A1 a) (vx_X px BX AX) free) (hS : va_S A0 H0 H locs) (hA : ∀ q, q < H.size → A1 q → A0 q) (hf : ∀ q, free q → A0 q) (hAX : ∀ q, q < H.size → AX q → A0 q)
    (kx : ∀ (E : String) (ce : Cell) (q9 : Addr) (u : SX) (t : State) (H1 : Heap) (locs1 : List Loc), t.heap = H1 → s.vm.Alike t.vm → px u → BX E u t → H.size ≤ H1.size → (∀ q : Nat, q < H.size → ¬ AX q → H1[q]? = H[q]?) → va_S A0 H0 H1 locs1 → H1[q9]? = some ce → ce.vm = .none → s.vm.findClass E = some ce.cls → vx_W p l e R s m args below meth c H1 locs1 (cells + mc) (slots + ms) Q (F0 m pc ls rest) q9)
    (kk : ∀ (r : UInt64) (u : S) (t : State) (H1 : Heap) (locs1 : List Loc), t.heap = H1 → s.vm.Alike t.vm → post r u → B u t → H.size ≤ H1.size → (∀ q : Nat, q < H.size → ¬ A1 q → H1[q]? = H[q]?) → va_S A0 H0 H1 locs1 → W p l e R s m args below meth c H1 locs1 (cells + mc) (slots + ms) Q (F0 m (pc + 3) ls (.double r :: rest))) : W p l e R s m args below meth c H locs cells slots Q (F0 m pc ls st0) := by
  intro T hT X
  rcases hr T hT X with ⟨v, st₀, t, T', L, h0, X', hL, e1, e2, ⟨⟨r, u, hv, hp, hb⟩, hF⟩, st⟩ | ⟨q, st₀, t, T', L, E, ce, h0, X', hL, e1, e2, ⟨u, hp, hb, hF⟩, hce, hcv, hcl, st⟩
  · cases hv
    obtain ⟨k1, k2, k3⟩ := vx_keep h0 e1 hS hA hf hL hF
    obtain ⟨t2, a1, b1⟩ := kk r u t T'.heap (locs ++ L) e1.symm (by rw [← e2]; exact X'.warmed.alike) hp hb k1 k2 k3 T' rfl X'
    exact ⟨t2, st t2 a1, b1⟩
  · obtain ⟨k1, k2, k3⟩ := vx_keep h0 e1 hS hAX hf hL hF
    obtain ⟨t2, a1, b1⟩ := kx E ce q u t T'.heap (locs ++ L) e1.symm (by rw [← e2]; exact X'.warmed.alike) hp hb k1 k2 k3 (by rw [e1]; exact hce) hcv hcl T' rfl X'
    exact ⟨t2, st.trans a1, b1⟩
theorem vx_callv {S SX : Type} {post : S → Prop} {px : SX → Prop} {B : S → State → Prop} {BX : String → SX → State → Prop} {AX : Nat → Prop} (hr : vx_Run p l e R s m args below meth c H locs cells slots mc ms (F0 m pc ls st0) rest (va_Qv post B A1 a) (vx_X px BX AX) free) (hS : va_S A0 H0 H locs) (hA : ∀ q, q < H.size → A1 q → A0 q) (hf : ∀ q, free q → A0 q) (hAX : ∀ q, q < H.size → AX q → A0 q)
    (kx : ∀ (E : String) (ce : Cell) (q9 : Addr) (u : SX) (t : State) (H1 : Heap) (locs1 : List Loc), t.heap = H1 → s.vm.Alike t.vm → px u → BX E u t → H.size ≤ H1.size → (∀ q : Nat, q < H.size → ¬ AX q → H1[q]? = H[q]?) → va_S A0 H0 H1 locs1 → H1[q9]? = some ce → ce.vm = .none → s.vm.findClass E = some ce.cls → vx_W p l e R s m args below meth c H1 locs1 (cells + mc) (slots + ms) Q (F0 m pc ls rest) q9)
    (kk : ∀ (u : S) (t : State) (H1 : Heap) (locs1 : List Loc), t.heap = H1 → s.vm.Alike t.vm → post u → B u t → H.size ≤ H1.size → (∀ q : Nat, q < H.size → ¬ A1 q → H1[q]? = H[q]?) → va_S A0 H0 H1 locs1 → W p l e R s m args below meth c H1 locs1 (cells + mc) (slots + ms) Q (F0 m (pc + 3) ls (rest))) : W p l e R s m args below meth c H locs cells slots Q (F0 m pc ls st0) := by
  intro T hT X
  rcases hr T hT X with ⟨v, st₀, t, T', L, h0, X', hL, e1, e2, ⟨⟨u, hv, hp, hb⟩, hF⟩, st⟩ | ⟨q, st₀, t, T', L, E, ce, h0, X', hL, e1, e2, ⟨u, hp, hb, hF⟩, hce, hcv, hcl, st⟩
  · cases hv
    obtain ⟨k1, k2, k3⟩ := vx_keep h0 e1 hS hA hf hL hF
    obtain ⟨t2, a1, b1⟩ := kk u t T'.heap (locs ++ L) e1.symm (by rw [← e2]; exact X'.warmed.alike) hp hb k1 k2 k3 T' rfl X'
    exact ⟨t2, st t2 a1, b1⟩
  · obtain ⟨k1, k2, k3⟩ := vx_keep h0 e1 hS hAX hf hL hF
    obtain ⟨t2, a1, b1⟩ := kx E ce q u t T'.heap (locs ++ L) e1.symm (by rw [← e2]; exact X'.warmed.alike) hp hb k1 k2 k3 (by rw [e1]; exact hce) hcv hcl T' rfl X'
    exact ⟨t2, st.trans a1, b1⟩
/-- caught by the row x of this method's table; the rows ahead don't take it -/
theorem vx_catch {own name : String} {E : String} {ce : Cell} {q : Addr} (hown : s.vm.findClass own = some m.cls) (pre : List ExceptionTableEntry) (x : ExceptionTableEntry) (suf : List ExceptionTableEntry) (hsplit : c.exceptionTable.toList = pre ++ x :: suf)
    (hpass : ∀ z ∈ pre, covers z pc = false ∨ (z.catchType ≠ 0 ∧ ∃ nm : String, (Cond.classLink own z.catchType nm).before args s = true ∧ va_Nc E nm s)) (hx : covers x pc = true) (h0 : x.catchType ≠ 0)
    (hlink : (Cond.classLink own x.catchType name).before args s = true) (hcast : (Cond.castable E name).before args s = true) (hcell : H[q]? = some ce) (hv : ce.vm = .none) (hcl : s.vm.findClass E = some ce.cls)
    (kk : W p l e R s m args below meth c H locs cells slots Q (F0 m x.handlerPc ls [.ref q])) : vx_W p l e R s m args below meth c H locs cells slots Q (F0 m pc ls rest) q := by
  intro T hT X
  have hpl : e.platform.magicAccessors = ({} : Platform).magicAccessors := by rw [X.admits.platform]
  obtain ⟨c3, c4, hc3, hc4, hasg⟩ := Cond.castable_spec hcast
  cases Option.some.inj (hc3.symm.trans hcl)
  obtain ⟨c5, hc5, hcl5⟩ := Cond.classLink_spec hown hlink e.platform hpl
  cases Option.some.inj (hc4.symm.trans hc5)
  obtain ⟨vm', X', st⟩ := X.thenCaughtThrough q (g := F0 m pc ls rest) rfl (Steps.refl _) (by rw [hT]; exact hcell) (by rw [hv]; rfl) (by obtain ⟨k9, h9, -⟩ := Vm.findClass_spec hcl; exact ⟨k9, h9⟩) pre x suf hsplit
    (fun z hz => by
      rcases hpass z hz with h | ⟨hz0, nm, hl1, hn1⟩
      · exact Or.inl h
      · obtain ⟨c6, hc6, hcl6⟩ := Cond.classLink_spec hown hl1 e.platform hpl
        obtain ⟨a8, b8, h1, h2, h3⟩ := hn1
        cases Option.some.inj (h1.symm.trans hcl)
        cases Option.some.inj (h2.symm.trans hc6)
        exact Or.inr ⟨hz0, _, hcl6, h3⟩) hx (Or.inr ⟨h0, c4, hcl5, hasg⟩)
  obtain ⟨t, a1, b1⟩ := kk (T.setVm vm') hT X'
  exact ⟨t, st.trans a1, b1⟩
end Rows
section Ends
variable {p : Program} {l : Launch} {e : Env} {R : Room} {s : State} {m : MethodId} {args : Array Value} {below : List Frame} {meth : Method} {c : Code} {H : Heap} {locs : List Loc} {cells slots : Nat} {Q : State → Prop}
variable {mc ms : Nat} {free : Addr → Prop} {A0 A1 : Nat → Prop} {H0 : Heap} {a : Array Value} {ls : Array Slot} {st0 rest : List Value}
variable {Qc : Array Value → State → Outcome → State → Prop} {XC : String → State → State → Prop}
/-- what a body that may throw owes at its end -/
def vx_MQ (below : List Frame) (Qc : Array Value → State → Outcome → State → Prop) (XC : String → State → State → Prop) (a : Array Value) (s : State) (mc ms : Nat) (free : Addr → Prop) : State → Prop := fun t =>
  ∃ o, t.status = .running ∧ Ended t below o ∧ vx_Q Qc XC mc ms free a s o t
theorem vx_ret {g : JFrame} {mc ms : Nat} (k : W p l e R s m args below meth c H locs cells slots (MQ below Qc args s mc ms free) g) : W p l e R s m args below meth c H locs cells slots (vx_MQ below Qc XC args s mc ms free) g := by
  intro T hT X
  obtain ⟨t, a1, o, b1, b2, b3, b4⟩ := k T hT X
  exact ⟨t, a1, o, b1, b2, Or.inl ⟨b3, b4⟩⟩
/-- not caught here: it goes on to the caller -/
theorem vx_widen {g : JFrame} {q : Addr} {k n : Nat} (h1 : cells ≤ k) (h2 : slots ≤ n) (kk : vx_W p l e R s m args below meth c H locs k n Q g q) : vx_W p l e R s m args below meth c H locs cells slots Q g q := fun T hT X => kk T hT (stand_widen X h1 h2)
theorem vx_out {pc : Nat} {E : String} {ce : Cell} {q : Addr} {mc ms : Nat} (hout : ∀ x ∈ c.exceptionTable.toList, covers x pc = false) (hlocks : meth.locks = false) (hcell : H[q]? = some ce) (hv : ce.vm = .none) (hcl : s.vm.findClass E = some ce.cls)
    (hx : ∀ t : State, t.heap = H → s.vm.Alike t.vm → XC E s t) (hf : ∀ z ∈ locs, free z.base) (hc : cells ≤ mc) (hs : slots ≤ ms) :
    vx_W p l e R s m args below meth c H locs cells slots (vx_MQ below Qc XC args s mc ms free) (F0 m pc ls rest) q := by
  intro T hT X
  obtain ⟨st1, hrun, hend, hW, hsm⟩ := X.leaveThrown q (g := F0 m pc ls rest) rfl rfl rfl hout hlocks
  have hcell9 : (T.setFrames (.throwing q :: below)).heap[q]? = some ce := by
    show T.heap[q]? = some ce
    rw [hT]; exact hcell
  exact ⟨_, st1, .threw q, hrun, hend, Or.inr ⟨q, rfl, E, ce, locs, hx _ hT hW.alike, hcell9, hv, hcl, hW, hsm.mono hc hs, hf⟩⟩
theorem vx_frame {U : State} {k n : Nat} (h : s.sameButNew ({ U with vm := s.vm } : State) locs k n) : s.heap.size ≤ U.heap.size ∧ ∀ q : Nat, q < s.heap.size → (∀ z ∈ locs, z.base ≠ q) → U.heap[q]? = s.heap[q]? := by
  obtain ⟨-, h2, -, -, -, h6⟩ := h
  refine ⟨h2, fun q hq hz => ?_⟩
  obtain ⟨c9, e1, e2, e3, e4⟩ := h6 q _ (Array.getElem?_eq_getElem hq)
  have hs : c9.slots = (s.heap[q]).slots := Array.ext_getElem? fun i => e4 i fun hm => hz _ hm rfl
  have h9 : c9 = s.heap[q] := by
    rw [hs] at e2
    exact e2
  have e5 : U.heap[q]? = some c9 := e1
  rw [e5, h9, Array.getElem?_eq_getElem hq]
/-- the words of a throw but the four that speak of the heap -/
def vx_no (w : Cond) : Bool := decide (w ≠ .isRef (.static Bundle.tN "UNASSIGNED_STACK" Bundle.steD)) && decide (w ≠ .isRef (.static Bundle.tN "SUPPRESSED_SENTINEL" Bundle.listD)) && decide (w ≠ .laysStatic Bundle.tN "UNASSIGNED_STACK" Bundle.steD) && decide (w ≠ .laysStatic Bundle.tN "SUPPRESSED_SENTINEL" Bundle.listD)
def vx_at0 (own : String) (ic : Nat) (X : String) (names : List String) : List Cond := (Bundle.ownAtoms0 own ic X names).filter vx_no
def vx_atS (own : String) (ic : Nat) (X : String) (names : List String) : List Cond := (Bundle.ownAtoms own ic X names).filter vx_no
/-- a word that the tables alone decide, or a good one -/
def vx_ot (w : Cond) : Bool := w.onTables || goodWord w
theorem vx_ot_at {args a' : Array Value} {s U : State} {w : Cond} (hW : s.WarmedH U.vm) (hvm : s.vm = U.vm) (hg : vx_ot w = true) (h : w.before args s = true) : w.before a' U = true := by
  simp only [vx_ot, Bool.or_eq_true] at hg
  rcases hg with hg | hg
  · exact va_tabs hg hvm h
  · exact word_at hW (good_of_word hg) h
/-- a list's words: the good ones out of the method's own list, the others by premises of their own -/
theorem vx_hat {args : Array Value} {s : State} {L B : List Cond} (h1 : ∀ w ∈ L.filter goodWord, w.before args s = true) (h2 : ∀ w ∈ L.filter (fun w => !goodWord w), w ∈ B) (h3 : ∀ w ∈ B, w.before args s = true) : ∀ w ∈ L, w.before args s = true := by
  intro w hw
  by_cases g : goodWord w = true
  · exact h1 w (List.mem_filter.mpr ⟨hw, g⟩)
  · refine h3 w (h2 w (List.mem_filter.mpr ⟨hw, ?_⟩))
    show (!goodWord w) = true
    cases hgw : goodWord w
    · rfl
    · exact absurd hgw g
theorem vx_c {args : Array Value} {s : State} {w : Cond} {B : List Cond} (h : w.before args s = true) (t : ∀ w ∈ B, w.before args s = true) : ∀ w' ∈ w :: B, w'.before args s = true := fun w' h' => (List.mem_cons.mp h').elim (fun e => by rw [e]; exact h) (t w')
theorem vx_n {args : Array Value} {s : State} : ∀ w ∈ ([] : List Cond), w.before args s = true := fun _ h => nomatch h
theorem vx_own {args : Array Value} {s : State} {L : List Cond} (h1 : ∀ w ∈ L.filter vx_no, w.before args s = true)
    (hU : (Cond.isRef (.static Bundle.tN "UNASSIGNED_STACK" Bundle.steD)).before args s = true) (hN : (Cond.isRef (.static Bundle.tN "SUPPRESSED_SENTINEL" Bundle.listD)).before args s = true)
    (lU : (Cond.laysStatic Bundle.tN "UNASSIGNED_STACK" Bundle.steD).before args s = true) (lN : (Cond.laysStatic Bundle.tN "SUPPRESSED_SENTINEL" Bundle.listD).before args s = true) : ∀ w ∈ L, w.before args s = true := by
  intro w hw
  by_cases e1 : w = .isRef (.static Bundle.tN "UNASSIGNED_STACK" Bundle.steD)
  · rw [e1]; exact hU
  · by_cases e2 : w = .isRef (.static Bundle.tN "SUPPRESSED_SENTINEL" Bundle.listD)
    · rw [e2]; exact hN
    · by_cases e3 : w = .laysStatic Bundle.tN "UNASSIGNED_STACK" Bundle.steD
      · rw [e3]; exact lU
      · by_cases e4 : w = .laysStatic Bundle.tN "SUPPRESSED_SENTINEL" Bundle.listD
        · rw [e4]; exact lN
        · exact h1 w (List.mem_filter.mpr ⟨hw, by unfold vx_no; rw [decide_eq_true e1, decide_eq_true e2, decide_eq_true e3, decide_eq_true e4]; rfl⟩)
/-- where a static field lies, its class's statics cell in H -/
def vx_L (C n d : String) (A : Nat → Prop) (U : State) (H : Heap) : Prop := ∃ (c : ClassId) (k : Class) (i : Nat) (f : Field) (a : Nat) (cell : Cell), U.vm.findClass C = some c ∧ U.fieldFound? C n d = some (c, k, i, f) ∧ f.isStatic = true ∧ k.statics = some a ∧ H[a]? = some cell ∧ cell.vm.isStatics = true ∧ cell.cls = c ∧ f.slot < cell.slots.size ∧ k.staticTypes[f.slot]? = some f.type ∧ ¬ A a
theorem vx_L.moved {C n d : String} {A : Nat → Prop} {u U : State} {H : Heap} (hvm : u.vm.Alike U.vm) (h : vx_L C n d A u H) : vx_L C n d A U H := by
  obtain ⟨c, k, i, f, a, cell, h1, h2, h3, h4, h5, h6, h7, h8, h9, h10⟩ := h
  obtain ⟨k', hi', he⟩ := State.fieldFound?_setVm hvm h2
  exact ⟨c, k', i, f, a, cell, by rw [hvm.findClass]; exact h1, hi', h3, by rw [he]; exact h4, h5, h6, h7, h8, by rw [he]; exact h9, h10⟩
theorem vx_L.kept {C n d : String} {A : Nat → Prop} {U : State} {H H1 : Heap} (h : vx_L C n d A U H) (hq : ∀ a : Nat, a < H.size → ¬ A a → H1[a]? = H[a]?) : vx_L C n d A U H1 := by
  obtain ⟨c, k, i, f, a, cell, h1, h2, h3, h4, h5, h6, h7, h8, h9, h10⟩ := h
  exact ⟨c, k, i, f, a, cell, h1, h2, h3, h4, by rw [hq a (Array.getElem?_eq_some_iff.mp h5).1 h10]; exact h5, h6, h7, h8, h9, h10⟩
theorem vx_L.narrow {C n d : String} {A B : Nat → Prop} {U : State} {H : Heap} (h : vx_L C n d A U H) (hAB : ∀ q, B q → A q) : vx_L C n d B U H := by
  obtain ⟨c, k, i, f, a, cell, h1, h2, h3, h4, h5, h6, h7, h8, h9, h10⟩ := h
  exact ⟨c, k, i, f, a, cell, h1, h2, h3, h4, h5, h6, h7, h8, h9, fun z => h10 (hAB _ z)⟩
theorem vx_L.word {C n d : String} {A : Nat → Prop} {s : State} {args : Array Value} (h : vx_L C n d A s s.heap) : (Cond.laysStatic C n d).before args s = true := by
  obtain ⟨c, k, i, f, a, cell, h1, h2, h3, h4, h5, h6, h7, h8, h9, -⟩ := h
  show (Cond.laysStatic C n d).holds args s none s [] = true
  exact Cond.laysStatic_of h1 h2 h3 h4 h5 h6 h7 h8 h9
/-- .. and what it holds: null or some reference -/
def vx_Zq (C n d : String) (A : Nat → Prop) (U : State) (H : Heap) : Prop := va_Zq C n d A U H ∧ vx_L C n d A U H
theorem vx_Zq.moved {C n d : String} {A : Nat → Prop} {u U : State} {H : Heap} (hvm : u.vm.Alike U.vm) (h : vx_Zq C n d A u H) : vx_Zq C n d A U H := ⟨va_Zq.moved hvm h.1, vx_L.moved hvm h.2⟩
theorem vx_Zq.kept {C n d : String} {A : Nat → Prop} {U : State} {H H1 : Heap} (h : vx_Zq C n d A U H) (hq : ∀ a : Nat, a < H.size → ¬ A a → H1[a]? = H[a]?) : vx_Zq C n d A U H1 := ⟨va_Zq.kept h.1 hq, vx_L.kept h.2 hq⟩
theorem vx_Zq.narrow {C n d : String} {A B : Nat → Prop} {U : State} {H : Heap} (h : vx_Zq C n d A U H) (hAB : ∀ q, B q → A q) : vx_Zq C n d B U H := ⟨va_Zq.narrow h.1 hAB, vx_L.narrow h.2 hAB⟩
theorem vx_Zqof {args : Array Value} {s : State} {C n d : String} {A : Nat → Prop} (hl : (Cond.laysStatic C n d).before args s = true) (hini : (Cond.initialized C).before args s = true) (h : (Cond.isRef (.static C n d)).before args s = true) (hA : ∀ a : Nat, a < s.heap.size → ¬ A a) : vx_Zq C n d A s s.heap := by
  refine ⟨va_Zqof hl hini h hA, ?_⟩
  obtain ⟨c, k, i, f, a, cell, h1, h2, h3, h4, h5, h6, h7, h8, h9⟩ := Cond.laysStatic_spec hl
  exact ⟨c, k, i, f, a, cell, h1, h2, h3, h4, h5, h6, h7, h8, h9, hA a (Array.getElem?_eq_some_iff.mp h5).1⟩
theorem vx_isRef {C n d : String} {v : Value} {A : Nat → Prop} {s : State} {args : Array Value} (h : va_Z C n d v A s s.heap) (hv : v.isRef = true) : (Cond.isRef (.static C n d)).before args s = true := by
  obtain ⟨cf, kf, fi, f, a, cell, h1, h2, h3, h4, h5, h6, h7, -⟩ := h
  have he : (Term.static C n d).eval args s none [] s = some v := by
    simp [Term.eval, State.fieldNamed?, h1, h2, h4, h5, h6, h7]
  simp only [Cond.before, Cond.holds, Cond.value, he]
  cases v <;> simp_all [Value.isRef]
theorem vx_isRefq {C n d : String} {A : Nat → Prop} {s : State} {args : Array Value} (h : va_Zq C n d A s s.heap) : (Cond.isRef (.static C n d)).before args s = true := by
  rcases h with h | ⟨t, h⟩
  · exact vx_isRef h rfl
  · exact vx_isRef h rfl
/-- the same frame, seen from here: as if the method were called anew in this heap -/
theorem vx_rebase {T : State} (X : Stand p l e R s m args below meth c T locs cells slots) {R' : Room} (hf : R'.frames ≤ R.frames) (hl : R'.locals ≤ R.locals) (hc : cells + R'.cells ≤ R.cells) (hs : slots + R'.slots ≤ R.slots) :
    Stand p l e R' ((T.setVm s.vm).setFrames (.invoking m args :: below)) m args below meth c T [] 0 0 := by
  have htop : (T.setVm s.vm).topJava?.isSome := X.here.top
  have hF : ((T.setVm s.vm).setFrames (.invoking m args :: below)).frames = .invoking m args :: below := State.frames_setFrames _ (State.cur_lt_of_top htop)
  obtain ⟨g₀, hg0⟩ := Option.isSome_iff_exists.mp htop
  obtain ⟨r, hr⟩ := State.topJava?_eq_some.mp hg0
  have hl9 : e.platform.stackLimits (T.setVm s.vm).me = e.platform.stackLimits s.me := X.limits
  have hb9 : (T.setVm s.vm).me.stackBytes = s.me.stackBytes := X.bytes
  refine ⟨X.admits, X.cas, X.clock, hF, ?_, X.hears, X.method, X.code, X.here, X.tail, X.warmed, ?_, ?_, ?_⟩
  · have h := X.room
    have hU : ((T.setVm s.vm).setFrames (.invoking m args :: below)).localsInUse = s.localsInUse := by
      rw [State.localsInUse_invoking hF (meth := meth) (c := c) X.method X.code, State.localsInUse_invoking X.frames X.method X.code]
    simp only [State.hasRoom, Bool.and_eq_true, decide_eq_true_eq] at h ⊢
    obtain ⟨⟨⟨⟨h1, h2, h3, h4, h5, h6⟩, h7⟩, h8⟩, h9⟩ := h
    rw [X.frames, List.length_cons] at h2 h3
    have q1 := X.heapSize
    have q2 := X.used
    simp only [hF, hU, List.length_cons, State.stackLimits_setFrames, State.stackBytes_setFrames, hl9, hb9]
    refine ⟨⟨⟨⟨by omega, by omega, by omega, by omega, by omega, h6⟩, ?_⟩, ?_⟩, X.book⟩
    · show T.heap.size + R'.cells ≤ e.platform.maxCells
      omega
    · show T.slotsUsed + R'.slots ≤ e.platform.maxSlots
      omega
  · rw [State.stackLimits_setFrames]; rfl
  · rw [State.stackBytes_setFrames]; rfl
  · refine ⟨?_, Nat.le_refl _, Nat.le_refl _, ?_, ?_, fun a c9 h9 => ⟨c9, h9, rfl, rfl, fun _ _ => rfl⟩⟩
    · obtain ⟨t, ht, -⟩ := State.frames_cons hr
      show T.setVm s.vm = { ((T.setVm s.vm).setFrames (.invoking m args :: below)).setFrames (T.setVm s.vm).frames with heap := T.heap, slotsUsed := T.slotsUsed }
      rw [State.setFrames_setFrames, State.setFrames_self ht]
      rfl
    · show T.slotsUsed = T.slotsUsed + ((T.heap.toList.drop T.heap.size).map (·.slots.size)).sum
      rw [List.drop_eq_nil_of_le (Nat.le_of_eq Array.length_toList)]
      rfl
    · show ((T.heap.toList.drop T.heap.size).map (·.slots.size)).sum ≤ 0
      rw [List.drop_eq_nil_of_le (Nat.le_of_eq Array.length_toList)]
      exact Nat.le_refl _
/-- 'throw new E()': new; dup; invokespecial; athrow -/
theorem vx_throw0 {cc : ByteArray} {pc : Nat} (hexec : p.tables.exec = Jvm.exec) (hb : c.code = cc) (hl : l.stackTraces = false) {own cls : String} {names : List String} {ik ic mc ms : Nat} {A : Nat → Prop}
    (hown : s.vm.findClass own = some m.cls) (hcls : Bundle.fit cls = true) (hnames : ∀ n ∈ names, Bundle.fit n = true)
    (hk : (Cond.classLink own ik cls).before args s = true) (hini : (Cond.initialized cls).before args s = true) (hat : ∀ w ∈ vx_at0 own ic cls names, w.before args s = true)
    (hgood : ∀ w ∈ Cond.classLink own ik cls :: Cond.initialized cls :: vx_at0 own ic cls names, vx_ot w = true)
    (hU : vx_Zq Bundle.tN "UNASSIGNED_STACK" Bundle.steD A s s.heap) (hN : vx_Zq Bundle.tN "SUPPRESSED_SENTINEL" Bundle.listD A s s.heap) (hS : va_S A s.heap H locs) (hsize : ls.size = c.maxLocals)
    (d0 : decode cc pc = .ok (.new ik, 3)) (d3 : decode cc (pc + 3) = .ok (.dup, 1)) (d4 : decode cc (pc + 4) = .ok (.invokespecial ic, 3)) (d7 : decode cc (pc + 7) = .ok (.athrow, 1))
    (hout : ∀ x ∈ c.exceptionTable.toList, covers x (pc + 7) = false)
    (hRframes : names.length + 3 < R.frames) (hRlocals : (rest.map fun v => v.category).sum + (13 * (names.length + 1) + 42) ≤ R.locals) (hRcells : cells + 1 ≤ R.cells) (hRslots : slots + 6 ≤ R.slots) (hlocks : meth.locks = false)
    (hx : ∀ t : State, s.vm.Alike t.vm → H.size ≤ t.heap.size → (∀ q : Nat, q < H.size → t.heap[q]? = H[q]?) → XC cls s t)
    (hf : ∀ z ∈ locs, free z.base) (hc : cells + 1 ≤ mc) (hs : slots + 6 ≤ ms) :
    W p l e R s m args below meth c H locs cells slots (vx_MQ below Qc XC args s mc ms free) (F0 m pc ls rest) := by
  intro T hT X
  have htr : e.platform.stackTraces = false := (show e.platform.stackTraces = l.stackTraces by rw [X.admits.platform]).trans hl
  have Y := vx_rebase X (R' := { frames := R.frames, locals := R.locals, cells := 1, slots := 6 }) (Nat.le_refl _) (Nat.le_refl _) hRcells hRslots
  obtain ⟨s', hA⟩ : ∃ z, z = (T.setVm s.vm).setFrames (.invoking m args :: below) := ⟨_, rfl⟩
  rw [← hA] at Y
  have hvm : s'.vm = s.vm := by rw [hA]; rfl
  have hhp : s'.heap = H := by rw [hA]; exact hT
  have hW0 : s.WarmedH s'.vm := by rw [hvm]; exact State.WarmedH.refl s
  have hat' : ∀ w ∈ vx_at0 own ic cls names, w.before args s' = true := fun w hw => vx_ot_at hW0 hvm.symm (hgood w (List.mem_cons_of_mem _ (List.mem_cons_of_mem _ hw))) (hat w hw)
  have hk' : (Cond.classLink own ik cls).before args s' = true := vx_ot_at hW0 hvm.symm (hgood _ List.mem_cons_self) hk
  have hini' : (Cond.initialized cls).before args s' = true := vx_ot_at hW0 hvm.symm (hgood _ (List.mem_cons_of_mem _ List.mem_cons_self)) hini
  have hU' : vx_Zq Bundle.tN "UNASSIGNED_STACK" Bundle.steD A s' s'.heap := by rw [hhp]; exact vx_Zq.moved hW0.alike (hU.kept hS.2.1)
  have hN' : vx_Zq Bundle.tN "SUPPRESSED_SENTINEL" Bundle.listD A s' s'.heap := by rw [hhp]; exact vx_Zq.moved hW0.alike (hN.kept hS.2.1)
  have h : ∀ w ∈ Bundle.ownAtoms0 own ic cls names, w.before args s' = true := vx_own hat' (vx_isRefq hU'.1) (vx_isRefq hN'.1) hU'.2.word hN'.2.word
  have hown' : s'.vm.findClass own = some m.cls := by rw [hvm]; exact hown
  have hins : (Cond.instantiable cls 6).before args s' = true := h _ (by simp [Bundle.ownAtoms0])
  obtain ⟨vm₁, cX, kX, hfX, hkX, -, -, X₁, st1⟩ := Y.newCold hexec (own := own) (C := cls) (index := ik) (n := 6) hown' hk' hins hini'
    (g := F0 m pc ls rest) rfl (by rw [hb]; exact d0) (Nat.le_refl _) (Nat.le_refl _)
  generalize hT1 : (T.setVm vm₁).pushCell { cls := cX, slots := kX.instanceTypes.map defaultValue, vm := .none } = T1 at X₁ st1
  have hcat : (Value.ref T.heap.size).category = 1 := rfl
  have hcellA : T1.heap[T.heap.size]? = some (freshCell cX kX) := by rw [← hT1]; exact State.heap_pushCell_size _ _
  have d3' : decode c.code (pc + 3) = .ok (.dup, 1) := by rw [hb]; exact d3
  obtain ⟨U, hsteps, hrun, hend, hW, hsame, ce, hce, hO⟩ := X₁.ctorThrow0 hexec htr (own := own) (cls := cls) (names := names) (ic := ic) hown' hcls hnames h (fun x hx => nomatch hx) hfX hkX hcellA (by rw [hhp, hT]; exact Nat.le_refl _)
    (g := { method := m, pc := pc + 4, locals := ls, stack := .ref T.heap.size :: .ref T.heap.size :: rest, locked := none }) rfl hsize rfl rfl (rest := rest) rfl
    (by rw [hb]; exact d4) (by rw [hb]; exact d7) hout hRframes (by simp only [List.map_cons, List.sum_cons, hcat]; omega) hlocks
  obtain ⟨f1, f2⟩ := vx_frame hsame
  rw [hhp] at f1 f2
  have hWs : s.WarmedH U.vm := State.WarmedH.trans hW0 hW
  have hcl : s.vm.findClass cls = some ce.cls := by
    have h9 := hO.cls
    rw [hvm] at h9
    exact h9
  have hall : s.sameButNew ({ U with vm := s.vm } : State) locs mc ms := by
    subst hA
    obtain ⟨e1, e2⟩ := hsame
    rw [State.setFrames_setFrames] at e1
    have h2 : (T.setVm s.vm).sameButNew ({ U with vm := s.vm } : State) [] (0 + 1) (0 + 6) := ⟨e1, e2⟩
    have h3 := X.same.trans h2
    rw [List.append_nil] at h3
    exact h3.mono hc hs
  refine ⟨U, ?_, .threw T.heap.size, hrun, hend, Or.inr ⟨T.heap.size, rfl, cls, ce, locs, hx U hWs.alike f1 (fun q hq => f2 q hq (fun z hz => nomatch hz)), hce, hO.vm, hcl, hWs, hall, hf⟩⟩
  refine st1 _ ?_
  show Steps p.tables e below (T1.setTop { method := m, pc := pc + 3, locals := ls, stack := .ref T.heap.size :: rest, locked := none }) _
  jvm_step X₁.here [X₁.here.top, hexec, d3', Value.category]
  exact hsteps
/-- 'throw new E("text")': new; dup; ldc; invokespecial; athrow -/
theorem vx_throwS {cc : ByteArray} {pc : Nat} (hexec : p.tables.exec = Jvm.exec) (hb : c.code = cc) (hl : l.stackTraces = false) {own cls text : String} {names : List String} {ik is ic mc ms sa : Nat} {A : Nat → Prop}
    (hown : s.vm.findClass own = some m.cls) (hcls : Bundle.fit cls = true) (hnames : ∀ n ∈ names, Bundle.fit n = true)
    (hk : (Cond.classLink own ik cls).before args s = true) (hini : (Cond.initialized cls).before args s = true) (hstr : vk_R own is text sa s) (hat : ∀ w ∈ vx_atS own ic cls names, w.before args s = true)
    (hgood : ∀ w ∈ Cond.classLink own ik cls :: Cond.initialized cls :: vx_atS own ic cls names, vx_ot w = true)
    (hU : vx_Zq Bundle.tN "UNASSIGNED_STACK" Bundle.steD A s s.heap) (hN : vx_Zq Bundle.tN "SUPPRESSED_SENTINEL" Bundle.listD A s s.heap) (hS : va_S A s.heap H locs) (hsize : ls.size = c.maxLocals)
    (d0 : decode cc pc = .ok (.new ik, 3)) (d3 : decode cc (pc + 3) = .ok (.dup, 1)) (d4 : decode cc (pc + 4) = .ok (.ldc is, 2)) (d6 : decode cc (pc + 6) = .ok (.invokespecial ic, 3)) (d9 : decode cc (pc + 9) = .ok (.athrow, 1))
    (hout : ∀ x ∈ c.exceptionTable.toList, covers x (pc + 9) = false)
    (hRframes : names.length + 3 < R.frames) (hRlocals : (rest.map fun v => v.category).sum + (13 * (names.length + 1) + 43) ≤ R.locals) (hRcells : cells + 1 ≤ R.cells) (hRslots : slots + 6 ≤ R.slots) (hlocks : meth.locks = false)
    (hx : ∀ t : State, s.vm.Alike t.vm → H.size ≤ t.heap.size → (∀ q : Nat, q < H.size → t.heap[q]? = H[q]?) → XC cls s t)
    (hf : ∀ z ∈ locs, free z.base) (hc : cells + 1 ≤ mc) (hs : slots + 6 ≤ ms) :
    W p l e R s m args below meth c H locs cells slots (vx_MQ below Qc XC args s mc ms free) (F0 m pc ls rest) := by
  intro T hT X
  have htr : e.platform.stackTraces = false := (show e.platform.stackTraces = l.stackTraces by rw [X.admits.platform]).trans hl
  have Y := vx_rebase X (R' := { frames := R.frames, locals := R.locals, cells := 1, slots := 6 }) (Nat.le_refl _) (Nat.le_refl _) hRcells hRslots
  obtain ⟨s', hA⟩ : ∃ z, z = (T.setVm s.vm).setFrames (.invoking m args :: below) := ⟨_, rfl⟩
  rw [← hA] at Y
  have hvm : s'.vm = s.vm := by rw [hA]; rfl
  have hhp : s'.heap = H := by rw [hA]; exact hT
  have hW0 : s.WarmedH s'.vm := by rw [hvm]; exact State.WarmedH.refl s
  have hat' : ∀ w ∈ vx_atS own ic cls names, w.before args s' = true := fun w hw => vx_ot_at hW0 hvm.symm (hgood w (List.mem_cons_of_mem _ (List.mem_cons_of_mem _ hw))) (hat w hw)
  have hk' : (Cond.classLink own ik cls).before args s' = true := vx_ot_at hW0 hvm.symm (hgood _ List.mem_cons_self) hk
  have hini' : (Cond.initialized cls).before args s' = true := vx_ot_at hW0 hvm.symm (hgood _ (List.mem_cons_of_mem _ List.mem_cons_self)) hini
  have hU' : vx_Zq Bundle.tN "UNASSIGNED_STACK" Bundle.steD A s' s'.heap := by rw [hhp]; exact vx_Zq.moved hW0.alike (hU.kept hS.2.1)
  have hN' : vx_Zq Bundle.tN "SUPPRESSED_SENTINEL" Bundle.listD A s' s'.heap := by rw [hhp]; exact vx_Zq.moved hW0.alike (hN.kept hS.2.1)
  have h : ∀ w ∈ Bundle.ownAtoms own ic cls names, w.before args s' = true := vx_own hat' (vx_isRefq hU'.1) (vx_isRefq hN'.1) hU'.2.word hN'.2.word
  have hown' : s'.vm.findClass own = some m.cls := by rw [hvm]; exact hown
  have hins : (Cond.instantiable cls 6).before args s' = true := h _ (by simp [Bundle.ownAtoms])
  obtain ⟨vm₁, cX, kX, hfX, hkX, -, -, X₁, st1⟩ := Y.newCold hexec (own := own) (C := cls) (index := ik) (n := 6) hown' hk' hins hini'
    (g := F0 m pc ls rest) rfl (by rw [hb]; exact d0) (Nat.le_refl _) (Nat.le_refl _)
  generalize hT1 : (T.setVm vm₁).pushCell { cls := cX, slots := kX.instanceTypes.map defaultValue, vm := .none } = T1 at X₁ st1
  have hcat : (Value.ref T.heap.size).category = 1 := rfl
  have hcellA : T1.heap[T.heap.size]? = some (freshCell cX kX) := by rw [← hT1]; exact State.heap_pushCell_size _ _
  have d3' : decode c.code (pc + 3) = .ok (.dup, 1) := by rw [hb]; exact d3
  have d4' : decode c.code (pc + 4) = .ok (.ldc is, 2) := by rw [hb]; exact d4
  have hstr' : vk_R own is text sa s' := vk_R.warm hW0 hstr
  obtain ⟨U, hsteps, hrun, hend, hW, hsame, ce, hce, hO⟩ := X₁.ctorThrowS hexec htr (own := own) (cls := cls) (names := names) (ic := ic) hown' hcls hnames h (fun x hx => nomatch hx) hfX hkX hcellA (by rw [hhp, hT]; exact Nat.le_refl _) (msg := .ref sa) rfl
    (g := { method := m, pc := pc + 6, locals := ls, stack := .ref sa :: .ref T.heap.size :: .ref T.heap.size :: rest, locked := none }) rfl hsize rfl rfl (rest := rest) rfl
    (by rw [hb]; exact d6) (by rw [hb]; exact d9) hout hRframes (by simp only [List.map_cons, List.sum_cons, hcat]; omega) hlocks
  obtain ⟨f1, f2⟩ := vx_frame hsame
  rw [hhp] at f1 f2
  have hWs : s.WarmedH U.vm := State.WarmedH.trans hW0 hW
  have hcl : s.vm.findClass cls = some ce.cls := by
    have h9 := hO.cls
    rw [hvm] at h9
    exact h9
  have hall : s.sameButNew ({ U with vm := s.vm } : State) locs mc ms := by
    subst hA
    obtain ⟨e1, e2⟩ := hsame
    rw [State.setFrames_setFrames] at e1
    have h2 : (T.setVm s.vm).sameButNew ({ U with vm := s.vm } : State) [] (0 + 1) (0 + 6) := ⟨e1, e2⟩
    have h3 := X.same.trans h2
    rw [List.append_nil] at h3
    exact h3.mono hc hs
  refine ⟨U, ?_, .threw T.heap.size, hrun, hend, Or.inr ⟨T.heap.size, rfl, cls, ce, locs, hx U hWs.alike f1 (fun q hq => f2 q hq (fun z hz => nomatch hz)), hce, hO.vm, hcl, hWs, hall, hf⟩⟩
  refine st1 _ ?_
  show Steps p.tables e below (T1.setTop { method := m, pc := pc + 3, locals := ls, stack := .ref T.heap.size :: rest, locked := none }) _
  jvm_step X₁.here [X₁.here.top, hexec, d3', Value.category]
  exact X₁.ldcString hexec (own := own) (text := text) (index := is) (a := sa) hown' hstr'.1 hstr'.2
    (g := { method := m, pc := pc + 4, locals := ls, stack := .ref T.heap.size :: .ref T.heap.size :: rest, locked := none }) rfl d4' _ hsteps
/-- 'throw new E("text")', the text by a wide index -/
theorem vx_throwSW {cc : ByteArray} {pc : Nat} (hexec : p.tables.exec = Jvm.exec) (hb : c.code = cc) (hl : l.stackTraces = false) {own cls text : String} {names : List String} {ik is ic mc ms sa : Nat} {A : Nat → Prop}
    (hown : s.vm.findClass own = some m.cls) (hcls : Bundle.fit cls = true) (hnames : ∀ n ∈ names, Bundle.fit n = true)
    (hk : (Cond.classLink own ik cls).before args s = true) (hini : (Cond.initialized cls).before args s = true) (hstr : vk_R own is text sa s) (hat : ∀ w ∈ vx_atS own ic cls names, w.before args s = true)
    (hgood : ∀ w ∈ Cond.classLink own ik cls :: Cond.initialized cls :: vx_atS own ic cls names, vx_ot w = true)
    (hU : vx_Zq Bundle.tN "UNASSIGNED_STACK" Bundle.steD A s s.heap) (hN : vx_Zq Bundle.tN "SUPPRESSED_SENTINEL" Bundle.listD A s s.heap) (hS : va_S A s.heap H locs) (hsize : ls.size = c.maxLocals)
    (d0 : decode cc pc = .ok (.new ik, 3)) (d3 : decode cc (pc + 3) = .ok (.dup, 1)) (d4 : decode cc (pc + 4) = .ok (.ldc_w is, 3)) (d7 : decode cc (pc + 7) = .ok (.invokespecial ic, 3)) (d10 : decode cc (pc + 10) = .ok (.athrow, 1))
    (hout : ∀ x ∈ c.exceptionTable.toList, covers x (pc + 10) = false)
    (hRframes : names.length + 3 < R.frames) (hRlocals : (rest.map fun v => v.category).sum + (13 * (names.length + 1) + 43) ≤ R.locals) (hRcells : cells + 1 ≤ R.cells) (hRslots : slots + 6 ≤ R.slots) (hlocks : meth.locks = false)
    (hx : ∀ t : State, s.vm.Alike t.vm → H.size ≤ t.heap.size → (∀ q : Nat, q < H.size → t.heap[q]? = H[q]?) → XC cls s t)
    (hf : ∀ z ∈ locs, free z.base) (hc : cells + 1 ≤ mc) (hs : slots + 6 ≤ ms) :
    W p l e R s m args below meth c H locs cells slots (vx_MQ below Qc XC args s mc ms free) (F0 m pc ls rest) := by
  intro T hT X
  have htr : e.platform.stackTraces = false := (show e.platform.stackTraces = l.stackTraces by rw [X.admits.platform]).trans hl
  have Y := vx_rebase X (R' := { frames := R.frames, locals := R.locals, cells := 1, slots := 6 }) (Nat.le_refl _) (Nat.le_refl _) hRcells hRslots
  obtain ⟨s', hA⟩ : ∃ z, z = (T.setVm s.vm).setFrames (.invoking m args :: below) := ⟨_, rfl⟩
  rw [← hA] at Y
  have hvm : s'.vm = s.vm := by rw [hA]; rfl
  have hhp : s'.heap = H := by rw [hA]; exact hT
  have hW0 : s.WarmedH s'.vm := by rw [hvm]; exact State.WarmedH.refl s
  have hat' : ∀ w ∈ vx_atS own ic cls names, w.before args s' = true := fun w hw => vx_ot_at hW0 hvm.symm (hgood w (List.mem_cons_of_mem _ (List.mem_cons_of_mem _ hw))) (hat w hw)
  have hk' : (Cond.classLink own ik cls).before args s' = true := vx_ot_at hW0 hvm.symm (hgood _ List.mem_cons_self) hk
  have hini' : (Cond.initialized cls).before args s' = true := vx_ot_at hW0 hvm.symm (hgood _ (List.mem_cons_of_mem _ List.mem_cons_self)) hini
  have hU' : vx_Zq Bundle.tN "UNASSIGNED_STACK" Bundle.steD A s' s'.heap := by rw [hhp]; exact vx_Zq.moved hW0.alike (hU.kept hS.2.1)
  have hN' : vx_Zq Bundle.tN "SUPPRESSED_SENTINEL" Bundle.listD A s' s'.heap := by rw [hhp]; exact vx_Zq.moved hW0.alike (hN.kept hS.2.1)
  have h : ∀ w ∈ Bundle.ownAtoms own ic cls names, w.before args s' = true := vx_own hat' (vx_isRefq hU'.1) (vx_isRefq hN'.1) hU'.2.word hN'.2.word
  have hown' : s'.vm.findClass own = some m.cls := by rw [hvm]; exact hown
  have hins : (Cond.instantiable cls 6).before args s' = true := h _ (by simp [Bundle.ownAtoms])
  obtain ⟨vm₁, cX, kX, hfX, hkX, -, -, X₁, st1⟩ := Y.newCold hexec (own := own) (C := cls) (index := ik) (n := 6) hown' hk' hins hini'
    (g := F0 m pc ls rest) rfl (by rw [hb]; exact d0) (Nat.le_refl _) (Nat.le_refl _)
  generalize hT1 : (T.setVm vm₁).pushCell { cls := cX, slots := kX.instanceTypes.map defaultValue, vm := .none } = T1 at X₁ st1
  have hcat : (Value.ref T.heap.size).category = 1 := rfl
  have hcellA : T1.heap[T.heap.size]? = some (freshCell cX kX) := by rw [← hT1]; exact State.heap_pushCell_size _ _
  have d3' : decode c.code (pc + 3) = .ok (.dup, 1) := by rw [hb]; exact d3
  have d4' : decode c.code (pc + 4) = .ok (.ldc_w is, 3) := by rw [hb]; exact d4
  have hstr' : vk_R own is text sa s' := vk_R.warm hW0 hstr
  obtain ⟨U, hsteps, hrun, hend, hW, hsame, ce, hce, hO⟩ := X₁.ctorThrowS hexec htr (own := own) (cls := cls) (names := names) (ic := ic) hown' hcls hnames h (fun x hx => nomatch hx) hfX hkX hcellA (by rw [hhp, hT]; exact Nat.le_refl _) (msg := .ref sa) rfl
    (g := { method := m, pc := pc + 7, locals := ls, stack := .ref sa :: .ref T.heap.size :: .ref T.heap.size :: rest, locked := none }) rfl hsize rfl rfl (rest := rest) rfl
    (by rw [hb]; exact d7) (by rw [hb]; exact d10) hout hRframes (by simp only [List.map_cons, List.sum_cons, hcat]; omega) hlocks
  obtain ⟨f1, f2⟩ := vx_frame hsame
  rw [hhp] at f1 f2
  have hWs : s.WarmedH U.vm := State.WarmedH.trans hW0 hW
  have hcl : s.vm.findClass cls = some ce.cls := by
    have h9 := hO.cls
    rw [hvm] at h9
    exact h9
  have hall : s.sameButNew ({ U with vm := s.vm } : State) locs mc ms := by
    subst hA
    obtain ⟨e1, e2⟩ := hsame
    rw [State.setFrames_setFrames] at e1
    have h2 : (T.setVm s.vm).sameButNew ({ U with vm := s.vm } : State) [] (0 + 1) (0 + 6) := ⟨e1, e2⟩
    have h3 := X.same.trans h2
    rw [List.append_nil] at h3
    exact h3.mono hc hs
  refine ⟨U, ?_, .threw T.heap.size, hrun, hend, Or.inr ⟨T.heap.size, rfl, cls, ce, locs, hx U hWs.alike f1 (fun q hq => f2 q hq (fun z hz => nomatch hz)), hce, hO.vm, hcl, hWs, hall, hf⟩⟩
  refine st1 _ ?_
  show Steps p.tables e below (T1.setTop { method := m, pc := pc + 3, locals := ls, stack := .ref T.heap.size :: rest, locked := none }) _
  jvm_step X₁.here [X₁.here.top, hexec, d3', Value.category]
  exact X₁.ldcStringW hexec (own := own) (text := text) (index := is) (a := sa) hown' hstr'.1 hstr'.2
    (g := { method := m, pc := pc + 4, locals := ls, stack := .ref T.heap.size :: .ref T.heap.size :: rest, locked := none }) rfl d4' _ hsteps
end Ends
section Bodies
variable {l : Launch}
theorem vx_ofW {y : MethodName} {ws ws' : List Cond} {rm : Room} {Pc : Array Value → State → Prop} {Qc : Array Value → State → Outcome → State → Prop} {XC : String → State → State → Prop} {mc ms : Nat} {free : Addr → Prop} {cc : ByteArray} {maxL : Nat} {ret : Option FieldType}
    (hy : plainName y.cls = true) (hw : ws = Cond.code y cc maxL ret :: ws')
    (body : ∀ p e s m args below meth c s₁, BodyLoose p l y (headSpec ws rm) cc maxL ret e s m args below meth c s₁ → c.maxLocals = maxL → (∀ x ∈ c.exceptionTable.toList, False) → Pc args s →
      W p l e (headSpec ws rm).room s m args below meth c s.heap [] 0 0 (vx_MQ below Qc XC args s mc ms free) (entryFrame m args maxL)) : vx_Met l y ws rm Pc Qc XC mc ms free := by
  refine MetFree.of_bodyS (code := cc) (maxLocals := maxL) (ret := ret) hy ?_ ?_
  · intro args s m h hn
    obtain ⟨meth, c, h1, h2, h3, h4, h5, h6, -, -⟩ := Cond.code_spec hn (atoms_spec (ws := ws) h _ (by rw [hw]; exact List.mem_cons_self))
    exact ⟨meth, c, h1, h2, h3, h4, h5, h6⟩
  · intro p e s m args below meth c s₁ B hml hP _
    have hh0 : s₁.heap = s.heap := by rw [B.state]; rfl
    have ht : ∀ x ∈ c.exceptionTable.toList, False := by
      obtain ⟨meth9, c9, h1, h2, -, -, -, -, h7, -⟩ := Cond.code_spec B.named (atoms_spec (ws := ws) B.pre _ (by rw [hw]; exact List.mem_cons_self))
      cases Option.some.inj (h1.symm.trans B.method)
      cases Option.some.inj (h2.symm.trans (Stand.of_body B).code)
      intro x hx
      rw [Array.isEmpty_iff.mp h7] at hx
      cases hx
    obtain ⟨t, a1, o, b1, b2, b3⟩ := body p e s m args below meth c s₁ B hml ht hP s₁ hh0 (Stand.of_body B)
    exact ⟨t, o, a1, b1, b2, b3⟩
/-- the table of a body with handlers -/
theorem vx_table {p : Program} {x y : MethodName} {S : Spec} {cc bytes : ByteArray} {maxL maxL' : Nat} {ret ret' : Option FieldType} {e : Env} {s s₁ : State} {m : MethodId} {args : Array Value} {below : List Frame} {meth : Method} {c : Code} {hh : List (Nat × Nat × Nat × Nat)}
    (B : BodyLoose p l y S cc maxL ret e s m args below meth c s₁) (h : (Cond.codeWith y bytes maxL' ret' hh).before args s = true) : c.exceptionTable.toList = tableOf hh := by
  obtain ⟨m9, meth9, c9, hn9, h1, h2, -, -, h6, -⟩ := Cond.codeWith_spec h
  cases Option.some.inj (hn9.symm.trans B.named)
  cases Option.some.inj (h1.symm.trans B.method)
  cases Option.some.inj (h2.symm.trans (Stand.of_body B).code)
  rw [← h6, table_eq]
end Bodies
end VXA
/-! ===== END ===== -/
/-! ===== BEGIN a static call of a method with an exception table ===== -/
section VXS
variable {p : Program} {l : Launch} {e : Env} {R : Room} {s : State} {m : MethodId} {args : Array Value} {below : List Frame} {meth : Method} {c : Code} {T : State} {H : Heap} {locs : List Loc} {cells slots : Nat}
abbrev vx_CSW (R : Room) (s : State) (args : Array Value) (own : String) (index : Nat) (y : MethodName) (bytes : ByteArray) (maxL : Nat) (ret : Option FieldType) (hh : List (Nat × Nat × Nat × Nat)) (ws : List Cond) (rm : Room) (mc ms n : Nat) : Prop :=
  (rm.cells = mc ∧ rm.slots = ms ∧ rm.frames + 1 ≤ R.frames ∧ 8 + (maxL + 11) + rm.locals ≤ R.locals ∧ (∀ w ∈ ws, ∀ (a' : Array Value) (U : State), s.WarmedH U.vm → w.before a' U = true) ∧ Cond.codeWith y bytes maxL ret hh ∈ ws) ∧
  (Cond.codeWith y bytes maxL ret hh).before args s = true ∧ (Cond.initialized y.cls).before args s = true ∧ (y.cls ≠ "java/lang/invoke/MethodHandle" ∧ y.cls ≠ "java/lang/invoke/VarHandle") ∧
  (∀ sig, parseMethodDescriptor y.desc = some sig → n = sig.parameters.length) ∧ (Cond.methodLink own index y).before args s = true ∧ (Cond.static y).before args s = true
theorem vx_cwSW {own : String} {index maxL mc ms : Nat} {y : MethodName} {bytes : ByteArray} {ret : Option FieldType} {hh : List (Nat × Nat × Nat × Nat)} {Ts ws ws' : List Cond} {rm : Room} (n : Nat) (ht : ∀ w ∈ Ts, w.before args s = true) (hT : GoodIn Ts (va_wsS own index y ws)) (hw : ws = Cond.codeWith y bytes maxL ret hh :: ws') (hrc : rm.cells = mc) (hrs : rm.slots = ms)
    (hd : y.cls ≠ "java/lang/invoke/MethodHandle" ∧ y.cls ≠ "java/lang/invoke/VarHandle" ∧ (parseMethodDescriptor y.desc).map (fun d => d.parameters.length) = some n) (hR : rm.frames + 1 ≤ R.frames ∧ 8 + (maxL + 11) + rm.locals ≤ R.locals) :
    vx_CSW R s args own index y bytes maxL ret hh ws rm mc ms n := by
  have ok : ∀ w ∈ va_wsS own index y ws, w.before args s = true := fun w h => ht w (hT w h).1
  have hG : GoodIn Ts ws := fun w h => hT w (by unfold va_wsS; exact List.mem_append_right _ h)
  have hc : Cond.codeWith y bytes maxL ret hh ∈ ws := by rw [hw]; exact List.mem_cons_self
  refine ⟨⟨hrc, hrs, hR.1, hR.2, pay_in ht hG, hc⟩, ht _ (hG _ hc).1, ok _ (by simp [va_wsS]), ⟨hd.1, hd.2.1⟩, fun sig h => ?_, ok _ (by simp [va_wsS]), ok _ (by simp [va_wsS])⟩
  have h2 := hd.2.2
  rw [h] at h2
  exact (Option.some.inj h2).symm
theorem vx_callSW (X : Stand p l e R s m args below meth c T locs cells slots) (hexec : p.tables.exec = Jvm.exec) {own : String} {index : Nat} {y : MethodName} {bytes : ByteArray} {maxL : Nat} {ret : Option FieldType} {hh : List (Nat × Nat × Nat × Nat)}
    (hown : s.vm.findClass own = some m.cls) (hlink : (Cond.methodLink own index y).before args s = true) (hstat : (Cond.static y).before args s = true) (hinit : (Cond.initialized y.cls).before args s = true)
    (hcode : (Cond.codeWith y bytes maxL ret hh).before args s = true) (hy : y.cls ≠ "java/lang/invoke/MethodHandle" ∧ y.cls ≠ "java/lang/invoke/VarHandle")
    {W9 : Nat} {Pre : Pt → Array Value → Prop} {Post : Pt → Array Value → Option Value → Pt → Prop} (hK : Back l R p e below s args y 3 W9 Pre Post)
    {g : JFrame} (hg : g.method = m) (hsize : g.locals.size = c.maxLocals) {argsL rest : List Value} (hlen : ∀ sig, parseMethodDescriptor y.desc = some sig → argsL.length = sig.parameters.length)
    (hstack : g.stack = argsL.reverse ++ rest) (hW : 2 * g.monitorRoom + (rest.map fun v => v.category).sum ≤ W9) (hdg : decode c.code g.pc = .ok (.invokestatic index, 3))
    (hpre : ∀ vm₁, s.WarmedH vm₁ → Pre ⟨T.setVm vm₁, locs, cells, slots⟩ argsL.toArray) :
    ∃ (v : Option Value) (vm₁ : Vm) (B : Pt), s.WarmedH vm₁ ∧ Stand p l e R s m args below meth c B.U B.locs B.cells B.slots ∧ Post ⟨T.setVm vm₁, locs, cells, slots⟩ argsL.toArray v B ∧
      ∀ target, Steps p.tables e below (B.U.setTop { g with pc := g.pc + 3, stack := v.toList ++ rest }) target → Steps p.tables e below (T.setTop g) target := by
  obtain ⟨mk, methM, cM, hnamed, hmethM, -, -, -, -, -, -, hsigM⟩ := Cond.codeWith_spec hcode
  have hstatic : methM.isStatic = true := Cond.static_spec hnamed hmethM hstat
  obtain ⟨kP, hkP, -⟩ := className_of_methodNamed hnamed
  have hinitP : kP.init = .initialized := Cond.initialized_spec (findClass_of_methodNamed hnamed) hkP hinit
  obtain ⟨vm₁, X₁, hstep₁⟩ := X.invokestatic hexec hown hlink hnamed hmethM hstatic hkP hinitP hy (g := g) hg (argsL := argsL) (rest := rest) (hlen _ hsigM) hstack hdg
  obtain ⟨v, B, X', hpost, hsteps⟩ := hK m meth c ⟨T.setVm vm₁, locs, cells, slots⟩ { g with stack := rest } (.invokestatic index) mk argsL.toArray X₁ hg hsize hdg hW (X₁.named hnamed) (hpre vm₁ X₁.warmed)
  exact ⟨v, vm₁, B, X₁.warmed, X', hpost, fun target h => hstep₁ _ fun acts => by rw [doInvoke_state]; exact hsteps.trans h⟩
theorem vx_runSW {y : MethodName} {bytes cc : ByteArray} {maxL nL mc ms n index : Nat} {ret : Option FieldType} {hh : List (Nat × Nat × Nat × Nat)} {ws : List Cond} {rm : Room} {Pc : Array Value → State → Prop} {Qc : Array Value → State → Outcome → State → Prop} {free : Addr → Prop} {Ts : List Cond} {own : String} {As rest : List Value} {g : JFrame}
    (S : CallFix p m c cc nL s args Ts own) (hM : Met l y ws rm Pc Qc mc ms free) (cw : vx_CSW R s args own index y bytes maxL ret hh ws rm mc ms n) (hp : PreS s H Pc As)
    (hg : g.method = m) (hn : As.length = n) (hsize : g.locals.size = nL) (hstack : g.stack = As.reverse ++ rest) (hW : 2 * g.monitorRoom + (rest.map fun v => v.category).sum ≤ 8) (hdg : decode cc g.pc = .ok (.invokestatic index, 3)) (hf : cells + mc ≤ R.cells ∧ slots + ms ≤ R.slots) :
    va_Run p l e R s m args below meth c H locs cells slots mc ms g rest (Qc As.toArray) (free) := by
  obtain ⟨⟨hrc, hrs, hfr, hlo, hws, hcw⟩, hcode, hini, hy, hlen, hl, hstt⟩ := cw
  have hK : Back l R p e below s args y 3 8 (PreOf R mc ms Pc) (PostOf Qc mc ms free) := va_backW (hh := hh) (bytes := bytes) (maxL := maxL) (ret := ret) hM hp.1 hrc hrs hfr hlo hws hcw (fun a' U hW => word_at hW (Or.inl (by first | rfl | simp [Cond.onTables, Cond.keeps, Cond.steady])) hini)
  obtain ⟨hx, hb, hml, ho, -⟩ := S
  intro T hT X
  obtain ⟨v, vm₁, ⟨U', l2, c2, s2⟩, hW₁, X', ⟨g', mk, t, L, e1, e2, hq, h1, hL, h2, h3⟩, st⟩ := vx_callSW X hx (hh := hh) (bytes := bytes) (maxL := maxL) (ret := ret) ho hl hstt hini hcode hy hK hg (hsize.trans hml.symm) (argsL := As) (rest := rest) (fun sig h => hn.trans (hlen sig h)) hstack hW (by rw [hb]; exact hdg)
    (fun vm₁ hW₁ => ⟨hf.1, hf.2, hp.2 (T.setVm vm₁) hT hW₁⟩)
  dsimp only [Pt.U, Pt.locs, Pt.cells, Pt.slots] at X' e1 e2 h1 h2 h3 st
  subst h1; subst h2; subst h3
  exact ⟨v, (T.setVm vm₁).calling g' mk As.toArray, t, U', L, hT, X', hL, e1, e2, hq, st⟩
/-- not caught here, past rows that name other classes: it goes on to the caller -/
theorem vx_outP {p : Program} {l : Launch} {e : Env} {R : Room} {s : State} {m : MethodId} {args : Array Value} {below : List Frame} {meth : Method} {c : Code} {H : Heap} {locs : List Loc} {cells slots : Nat} {free : Addr → Prop} {ls : Array Slot} {rest : List Value} {Qc : Array Value → State → Outcome → State → Prop} {XC : String → State → State → Prop}
    {pc : Nat} {own E : String} {ce : Cell} {q : Addr} {mc ms : Nat} (hown : s.vm.findClass own = some m.cls) (hlocks : meth.locks = false)
    (hpass : ∀ z ∈ c.exceptionTable.toList, covers z pc = false ∨ (z.catchType ≠ 0 ∧ ∃ nm : String, (Cond.classLink own z.catchType nm).before args s = true ∧ va_Nc E nm s)) (hcell : H[q]? = some ce) (hv : ce.vm = .none) (hcl : s.vm.findClass E = some ce.cls)
    (hx : ∀ t : State, t.heap = H → s.vm.Alike t.vm → XC E s t) (hf : ∀ z ∈ locs, free z.base) (hc : cells ≤ mc) (hs : slots ≤ ms) :
    vx_W p l e R s m args below meth c H locs cells slots (vx_MQ below Qc XC args s mc ms free) (F0 m pc ls rest) q := by
  intro T hT X
  have hpl : e.platform.magicAccessors = ({} : Platform).magicAccessors := by rw [X.admits.platform]
  obtain ⟨vm', hW', X', st⟩ := X.outThrough hlocks q (g := F0 m pc ls rest) rfl rfl rfl (cell := ce) (by rw [hT]; exact hcell) (by rw [hv]; rfl)
    (by obtain ⟨k9, h9, -⟩ := Vm.findClass_spec hcl; exact ⟨k9, h9⟩) (fun z hz => by
      rcases hpass z hz with h | ⟨hz0, nm, hl1, hn1⟩
      · exact Or.inl h
      · obtain ⟨c6, hc6, hcl6⟩ := Cond.classLink_spec hown hl1 e.platform hpl
        obtain ⟨a8, b8, h1, h2, h3⟩ := hn1
        cases Option.some.inj (h1.symm.trans hcl)
        cases Option.some.inj (h2.symm.trans hc6)
        exact Or.inr ⟨hz0, _, hcl6, h3⟩)
  obtain ⟨g₀, hfr⟩ := X'.frames_eq
  have hcell9 : ((T.setVm vm').setFrames (.throwing q :: below)).heap[q]? = some ce := by
    show T.heap[q]? = some ce
    rw [hT]; exact hcell
  have hend : Ended ((T.setVm vm').setFrames (.throwing q :: below)) below (.threw q) := State.frames_setFrames _ (State.cur_lt_of_frames hfr)
  refine ⟨(T.setVm vm').setFrames (.throwing q :: below), ?_, .threw q, X'.here.running, hend, Or.inr ⟨q, rfl, E, ce, locs, hx _ hT (X'.ends _).1.alike, hcell9, hv, hcl, (X'.ends _).1, (X'.ends _).2.mono hc hs, hf⟩⟩
  rw [X.pushThrowing_eq]
  exact st
/-- a thing of a world lies in the heap -/
theorem vx_lt {D : va_G} {cl : List vw_C} {ws : va_W} {H1 : Heap} (h : va_P D cl ws H1) {k : Nat} {q : Nat × va_E} (hk : ws[k]? = some q) : q.1 < H1.size := (h k q hk).lt
end VXS
/-! ===== END ===== -/
/-! ===== BEGIN methods with a table of their own: called by a name, returning or throwing ===== -/
section VXH
/-! vx_backW, vx_callVX, vx_callSX, vx_callVW, vx_runVW, vx_runVX, vx_runSX, vx_ofWH follow the same proofs as their sisters above (Free/Laws.lean, Shelf42/LK1.lean); vx_outP calls Shelf42/NT130.lean (outThrough). -/
section
variable {l : Launch} {R : Room} {p : Program} {e : Env} {below : List Frame} {s : State} {sargs : Array Value} {y : MethodName} {len W9 : Nat}
theorem vx_backW {ws : List Cond} {rm : Room} {Pc : Array Value → State → Prop} {Qc : Array Value → State → Outcome → State → Prop} {XC : String → State → State → Prop} {mc ms : Nat} {free : Addr → Prop} {bytes : ByteArray} {maxL : Nat} {ret : Option FieldType} {hh : List (Nat × Nat × Nat × Nat)}
    (hM : vx_Met l y ws rm Pc Qc XC mc ms free) (hblind : FrameBlind Pc) (hrc : rm.cells = mc) (hrs : rm.slots = ms)
    (hframes : rm.frames + 1 ≤ R.frames) (hlocals : W9 + (maxL + 11) + rm.locals ≤ R.locals)
    (hws : ∀ w ∈ ws, ∀ a' U, s.WarmedH U.vm → w.before a' U = true) (hcode : Cond.codeWith y bytes maxL ret hh ∈ ws) (hinit : ∀ a' U, s.WarmedH U.vm → (Cond.initialized y.cls).before a' U = true) :
    vx_Back l R p e below s sargs y len W9 (PreOf R mc ms Pc) (PostOf Qc mc ms free) (vx_Post XC mc ms free) := by
  intro m meth c A g ig mk a X hg hsize hdg hW hn hp
  have h1 : (headSpec ws rm).pre.before a A.U = true := atoms_intro fun w hw => hws w hw _ _ X.warmed
  have h2 : (Cond.codeWith y bytes maxL ret hh).before a A.U = true := hws _ hcode _ _ X.warmed
  have h3 : (Cond.initialized y.cls).before a A.U = true := hinit _ _ X.warmed
  have h4 : A.cells + (headSpec ws rm).room.cells ≤ R.cells := by rw [show (headSpec ws rm).room.cells = mc from hrc]; exact hp.1
  have h5 : A.slots + (headSpec ws rm).room.slots ≤ R.slots := by rw [show (headSpec ws rm).room.slots = ms from hrs]; exact hp.2.1
  have hPc : Pc a (A.U.calling g mk a) := hblind _ _ _ _ hp.2.2
  obtain ⟨U, Ls, c0, s0⟩ := A
  dsimp only [Pt.U, Pt.locs, Pt.cells, Pt.slots] at h1 h2 h3 h4 h5 X hn hPc ⊢
  obtain ⟨m9, methY, cY, hn9, hmY, hcY, -, hlY, -⟩ := Cond.codeWith_spec h2
  cases Option.some.inj (hn9.symm.trans hn)
  obtain ⟨kY, hkY, -⟩ := className_of_methodNamed hn
  have hinitY : kY.init = .initialized := Cond.initialized_spec (findClass_of_methodNamed hn) hkY h3
  have h : At U g.method c below := by rw [hg]; exact X.here
  have hlocals9 : W9 + (maxL + 11) + (headSpec ws rm).room.locals ≤ R.locals := hlocals
  have happ : (headSpec ws rm).appliesLoose y e.platform (U.calling g mk a) = true :=
    Spec.appliesLoose_calling (g := g) h hdg hn hkY hinitY
      (X.room_calling (g := g) (R' := (headSpec ws rm).room) hsize hmY hcY hframes (by rw [hlY]; omega) h4 h5) h1
  obtain ⟨mid, hmid⟩ := h.above
  have hfr : (U.setTop g).frames = (.java g :: mid) ++ below := by rw [State.frames_setTop' g h.top, hmid]; rfl
  obtain ⟨o, s₂, hsteps, -, hend, hq⟩ := Steps.callFree hM p X.admits X.cas X.clock (acts := []) hfr happ hPc trivial
  have hq' : vx_Q Qc XC mc ms free a (U.calling g mk a) o s₂ := hq
  rw [State.frames_setTop' g h.top] at hend
  obtain ⟨g₀, hg0⟩ := Option.isSome_iff_exists.mp h.top
  obtain ⟨r, hr⟩ := State.topJava?_eq_some.mp hg0
  have hr' : (({ U with heap := s₂.heap, slotsUsed := s₂.slotsUsed } : State).setVm s₂.vm).frames = .java g₀ :: r := hr
  rcases hq' with ⟨hqc, L, hfe, hL⟩ | ⟨q, rfl, E, ce, L, hx, hce, hcv, hcl, hW₂, hsm, hL⟩
  · obtain ⟨⟨v, rfl⟩, hW₂, e2, q2, q3, q4, q5, q6⟩ := id hfe
    have e3 : s₂ = ({ (U.calling g mk a).setFrames s₂.frames with heap := s₂.heap, slotsUsed := s₂.slotsUsed } : State).setVm s₂.vm := by
      have : s₂ = ({ s₂ with vm := (U.calling g mk a).vm } : State).setVm s₂.vm := rfl
      rw [e2] at this
      exact this
    obtain ⟨c₂, i₂, len₂, hc₂, hd₂, hf₂⟩ := hend
    have hW' : U.WarmedH s₂.vm := hW₂
    have hcc : c₂ = c := by
      have h1 : s₂.code? g.method = U.code? g.method := by
        rw [State.code?_eq, State.code?_eq, hW'.alike.method?]
      exact Option.some.inj (hc₂.symm.trans (h1.trans h.code))
    subst hcc
    have hlen : len₂ = len := by rw [hdg] at hd₂; cases hd₂; rfl
    subst hlen
    have hs₂ : s₂ = (({ U with heap := s₂.heap, slotsUsed := s₂.slotsUsed } : State).setVm s₂.vm).setTop { g with pc := g.pc + len₂, stack := v.toList ++ g.stack } := by
      refine e3.trans ?_
      rw [hf₂, State.calling_eq h.top, State.setFrames_setFrames, State.setTop_of_frames _ hr', hr]
      rfl
    have hsame : U.sameButNew ({ U with heap := s₂.heap, slotsUsed := s₂.slotsUsed } : State) L mc ms := by
      refine ⟨?_, q2, q3, q4, q5, q6⟩
      obtain ⟨t, ht, -⟩ := State.frames_cons hr
      show ({ U with heap := s₂.heap, slotsUsed := s₂.slotsUsed } : State) = { U.setFrames U.frames with heap := s₂.heap, slotsUsed := s₂.slotsUsed }
      rw [State.setFrames_self ht]
    subst hg
    refine Or.inl ⟨v, ⟨(({ U with heap := s₂.heap, slotsUsed := s₂.slotsUsed } : State).setVm s₂.vm), Ls ++ L, c0 + mc, s0 + ms⟩,
      ⟨X.admits, X.cas, X.clock, X.frames, X.room, X.hears, X.method, X.code, (X.here.setHeapUsed s₂.heap s₂.slotsUsed).setVm hW'.alike, X.tail, State.WarmedH.trans X.warmed hW', X.limits, X.bytes, X.same.trans (hsame.setVm s.vm)⟩,
      ⟨g, mk, s₂, L, rfl, rfl, hqc, rfl, hL, rfl, rfl⟩, ?_⟩
    show Steps p.tables e below _ ((({ U with heap := s₂.heap, slotsUsed := s₂.slotsUsed } : State).setVm s₂.vm).setTop { g with pc := g.pc + len₂, stack := v.toList ++ g.stack })
    rw [← hs₂]
    exact hsteps
  · obtain ⟨e2, q2, q3, q4, q5, q6⟩ := id hsm
    have e3 : s₂ = ({ (U.calling g mk a).setFrames s₂.frames with heap := s₂.heap, slotsUsed := s₂.slotsUsed } : State).setVm s₂.vm := by
      have : s₂ = ({ s₂ with vm := (U.calling g mk a).vm } : State).setVm s₂.vm := rfl
      rw [e2] at this
      exact this
    have hf₂ : s₂.frames = .throwing q :: .java g :: U.frames.tail := hend
    have hW' : U.WarmedH s₂.vm := hW₂
    have hs₂ : s₂ = ((({ U with heap := s₂.heap, slotsUsed := s₂.slotsUsed } : State).setVm s₂.vm).setTop g).pushFrame (.throwing q) := by
      refine e3.trans ?_
      rw [hf₂, State.calling_eq h.top, State.setFrames_setFrames, State.pushFrame, State.frames_setTop _ hr', State.setTop_of_frames _ hr', State.setFrames_setFrames, hr]
      rfl
    have hsame : U.sameButNew ({ U with heap := s₂.heap, slotsUsed := s₂.slotsUsed } : State) L mc ms := by
      refine ⟨?_, q2, q3, q4, q5, q6⟩
      obtain ⟨t, ht, -⟩ := State.frames_cons hr
      show ({ U with heap := s₂.heap, slotsUsed := s₂.slotsUsed } : State) = { U.setFrames U.frames with heap := s₂.heap, slotsUsed := s₂.slotsUsed }
      rw [State.setFrames_self ht]
    subst hg
    refine Or.inr ⟨q, ⟨(({ U with heap := s₂.heap, slotsUsed := s₂.slotsUsed } : State).setVm s₂.vm), Ls ++ L, c0 + mc, s0 + ms⟩,
      ⟨X.admits, X.cas, X.clock, X.frames, X.room, X.hears, X.method, X.code, (X.here.setHeapUsed s₂.heap s₂.slotsUsed).setVm hW'.alike, X.tail, State.WarmedH.trans X.warmed hW', X.limits, X.bytes, X.same.trans (hsame.setVm s.vm)⟩,
      ⟨g, mk, s₂, L, E, ce, rfl, rfl, hx, hce, hcv, hcl, rfl, hL, rfl, rfl⟩, ?_⟩
    show Steps p.tables e below _ (((({ U with heap := s₂.heap, slotsUsed := s₂.slotsUsed } : State).setVm s₂.vm).setTop g).pushFrame (.throwing q))
    rw [← hs₂]
    exact hsteps
end
variable {p : Program} {l : Launch} {e : Env} {R : Room} {s : State} {m : MethodId} {args : Array Value} {below : List Frame} {meth : Method} {c : Code} {T : State} {H : Heap} {locs : List Loc} {cells slots : Nat}
theorem vx_callVX (X : Stand p l e R s m args below meth c T locs cells slots) (hexec : p.tables.exec = Jvm.exec) {own C : String} {index : Nat} {y : MethodName} {bytes : ByteArray} {maxL : Nat} {ret : Option FieldType} {hh : List (Nat × Nat × Nat × Nat)}
    (hown : s.vm.findClass own = some m.cls) (hlink : (Cond.methodLink own index y).before args s = true) (hinst : (Cond.instanceMethod y).before args s = true) (hsel : (Cond.selects C y y).before args s = true)
    (hcode : (Cond.codeWith y bytes maxL ret hh).before args s = true) (hy : y.cls ≠ "java/lang/invoke/MethodHandle" ∧ y.cls ≠ "java/lang/invoke/VarHandle")
    {W9 : Nat} {Pre : Pt → Array Value → Prop} {Post : Pt → Array Value → Option Value → Pt → Prop} {PostX : Pt → Array Value → Addr → Pt → Prop} (hK : vx_Back l R p e below s args y 3 W9 Pre Post PostX)
    {b : Addr} {cellB : Cell} (hcell : T.heap[b]? = some cellB) (hobj : cellB.vm.isStatics = false) (hcls : s.vm.findClass C = some cellB.cls)
    {g : JFrame} (hg : g.method = m) (hsize : g.locals.size = c.maxLocals) {argsL rest : List Value} (hlen : ∀ sig, parseMethodDescriptor y.desc = some sig → argsL.length = sig.parameters.length)
    (hstack : g.stack = argsL.reverse ++ .ref b :: rest) (hW : 2 * g.monitorRoom + (rest.map fun v => v.category).sum ≤ W9) (hdg : decode c.code g.pc = .ok (.invokevirtual index, 3))
    (hpre : ∀ vm₁, s.WarmedH vm₁ → Pre ⟨T.setVm vm₁, locs, cells, slots⟩ (Value.ref b :: argsL).toArray) :
    (∃ (v : Option Value) (vm₁ : Vm) (B : Pt), s.WarmedH vm₁ ∧ Stand p l e R s m args below meth c B.U B.locs B.cells B.slots ∧ Post ⟨T.setVm vm₁, locs, cells, slots⟩ (Value.ref b :: argsL).toArray v B ∧
      ∀ target, Steps p.tables e below (B.U.setTop { g with pc := g.pc + 3, stack := v.toList ++ rest }) target → Steps p.tables e below (T.setTop g) target) ∨
    (∃ (q : Addr) (vm₁ : Vm) (B : Pt), s.WarmedH vm₁ ∧ Stand p l e R s m args below meth c B.U B.locs B.cells B.slots ∧ PostX ⟨T.setVm vm₁, locs, cells, slots⟩ (Value.ref b :: argsL).toArray q B ∧
      Steps p.tables e below (T.setTop g) ((B.U.setTop { g with stack := rest }).pushFrame (.throwing q))) := by
  obtain ⟨mk, methM, hnamed, hmethM, hstM, habM⟩ := Cond.instanceMethod_spec hinst
  obtain ⟨m8, methM', cM, hn8, hmethM', -, -, -, -, -, -, hsigM⟩ := Cond.codeWith_spec hcode
  cases Option.some.inj (hn8.symm.trans hnamed)
  cases hmethM.symm.trans hmethM'
  obtain ⟨c2, r2, m2, q1, q2, q3, q4, kP, hkP, hkPi⟩ := Cond.selects_spec hsel
  cases hcls.symm.trans q1
  cases (State.methodFound?_of_named hnamed hy).symm.trans q2
  cases hnamed.symm.trans q3
  have hselP : selectMethod e.platform s.vm cellB.cls mk = .method mk := by rw [Launch.admits_selectMethod X.admits]; exact q4
  obtain ⟨vm₁, X₁, hstep₁⟩ := X.invokevirtual hexec hown hlink hnamed hmethM hstM hkP hkPi hy (a := b) (cell := cellB) hcell
    (fun z h => by rw [h] at hobj; cases hobj) hselP hmethM habM hkP hkPi (g := g) hg (argsL := argsL) (rest := rest) (hlen _ hsigM) hstack hdg
  rcases hK m meth c ⟨T.setVm vm₁, locs, cells, slots⟩ { g with stack := rest } (.invokevirtual index) mk (Value.ref b :: argsL).toArray X₁ hg hsize hdg hW (X₁.named hnamed) (hpre vm₁ X₁.warmed) with ⟨v, B, X', hpost, hsteps⟩ | ⟨q, B, X', hpost, hsteps⟩
  · exact Or.inl ⟨v, vm₁, B, X₁.warmed, X', hpost, fun target h => hstep₁ _ fun acts => by rw [doInvoke_state]; exact hsteps.trans h⟩
  · exact Or.inr ⟨q, vm₁, B, X₁.warmed, X', hpost, hstep₁ _ fun acts => by rw [doInvoke_state]; exact hsteps⟩
theorem vx_callSX (X : Stand p l e R s m args below meth c T locs cells slots) (hexec : p.tables.exec = Jvm.exec) {own : String} {index : Nat} {y : MethodName} {bytes : ByteArray} {maxL : Nat} {ret : Option FieldType} {hh : List (Nat × Nat × Nat × Nat)}
    (hown : s.vm.findClass own = some m.cls) (hlink : (Cond.methodLink own index y).before args s = true) (hstat : (Cond.static y).before args s = true) (hinit : (Cond.initialized y.cls).before args s = true)
    (hcode : (Cond.codeWith y bytes maxL ret hh).before args s = true) (hy : y.cls ≠ "java/lang/invoke/MethodHandle" ∧ y.cls ≠ "java/lang/invoke/VarHandle")
    {W9 : Nat} {Pre : Pt → Array Value → Prop} {Post : Pt → Array Value → Option Value → Pt → Prop} {PostX : Pt → Array Value → Addr → Pt → Prop} (hK : vx_Back l R p e below s args y 3 W9 Pre Post PostX)
    {g : JFrame} (hg : g.method = m) (hsize : g.locals.size = c.maxLocals) {argsL rest : List Value} (hlen : ∀ sig, parseMethodDescriptor y.desc = some sig → argsL.length = sig.parameters.length)
    (hstack : g.stack = argsL.reverse ++ rest) (hW : 2 * g.monitorRoom + (rest.map fun v => v.category).sum ≤ W9) (hdg : decode c.code g.pc = .ok (.invokestatic index, 3))
    (hpre : ∀ vm₁, s.WarmedH vm₁ → Pre ⟨T.setVm vm₁, locs, cells, slots⟩ argsL.toArray) :
    (∃ (v : Option Value) (vm₁ : Vm) (B : Pt), s.WarmedH vm₁ ∧ Stand p l e R s m args below meth c B.U B.locs B.cells B.slots ∧ Post ⟨T.setVm vm₁, locs, cells, slots⟩ argsL.toArray v B ∧
      ∀ target, Steps p.tables e below (B.U.setTop { g with pc := g.pc + 3, stack := v.toList ++ rest }) target → Steps p.tables e below (T.setTop g) target) ∨
    (∃ (q : Addr) (vm₁ : Vm) (B : Pt), s.WarmedH vm₁ ∧ Stand p l e R s m args below meth c B.U B.locs B.cells B.slots ∧ PostX ⟨T.setVm vm₁, locs, cells, slots⟩ argsL.toArray q B ∧
      Steps p.tables e below (T.setTop g) ((B.U.setTop { g with stack := rest }).pushFrame (.throwing q))) := by
  obtain ⟨mk, methM, cM, hnamed, hmethM, -, -, -, -, -, -, hsigM⟩ := Cond.codeWith_spec hcode
  have hstatic : methM.isStatic = true := Cond.static_spec hnamed hmethM hstat
  obtain ⟨kP, hkP, -⟩ := className_of_methodNamed hnamed
  have hinitP : kP.init = .initialized := Cond.initialized_spec (findClass_of_methodNamed hnamed) hkP hinit
  obtain ⟨vm₁, X₁, hstep₁⟩ := X.invokestatic hexec hown hlink hnamed hmethM hstatic hkP hinitP hy (g := g) hg (argsL := argsL) (rest := rest) (hlen _ hsigM) hstack hdg
  rcases hK m meth c ⟨T.setVm vm₁, locs, cells, slots⟩ { g with stack := rest } (.invokestatic index) mk argsL.toArray X₁ hg hsize hdg hW (X₁.named hnamed) (hpre vm₁ X₁.warmed) with ⟨v, B, X', hpost, hsteps⟩ | ⟨q, B, X', hpost, hsteps⟩
  · exact Or.inl ⟨v, vm₁, B, X₁.warmed, X', hpost, fun target h => hstep₁ _ fun acts => by rw [doInvoke_state]; exact hsteps.trans h⟩
  · exact Or.inr ⟨q, vm₁, B, X₁.warmed, X', hpost, hstep₁ _ fun acts => by rw [doInvoke_state]; exact hsteps⟩
theorem vx_callVW (X : Stand p l e R s m args below meth c T locs cells slots) (hexec : p.tables.exec = Jvm.exec) {own C : String} {index : Nat} {y : MethodName} {bytes : ByteArray} {maxL : Nat} {ret : Option FieldType} {hh : List (Nat × Nat × Nat × Nat)}
    (hown : s.vm.findClass own = some m.cls) (hlink : (Cond.methodLink own index y).before args s = true) (hinst : (Cond.instanceMethod y).before args s = true) (hsel : (Cond.selects C y y).before args s = true)
    (hcode : (Cond.codeWith y bytes maxL ret hh).before args s = true) (hy : y.cls ≠ "java/lang/invoke/MethodHandle" ∧ y.cls ≠ "java/lang/invoke/VarHandle")
    {W9 : Nat} {Pre : Pt → Array Value → Prop} {Post : Pt → Array Value → Option Value → Pt → Prop} (hK : Back l R p e below s args y 3 W9 Pre Post)
    {b : Addr} {cellB : Cell} (hcell : T.heap[b]? = some cellB) (hobj : cellB.vm.isStatics = false) (hcls : s.vm.findClass C = some cellB.cls)
    {g : JFrame} (hg : g.method = m) (hsize : g.locals.size = c.maxLocals) {argsL rest : List Value} (hlen : ∀ sig, parseMethodDescriptor y.desc = some sig → argsL.length = sig.parameters.length)
    (hstack : g.stack = argsL.reverse ++ .ref b :: rest) (hW : 2 * g.monitorRoom + (rest.map fun v => v.category).sum ≤ W9) (hdg : decode c.code g.pc = .ok (.invokevirtual index, 3))
    (hpre : ∀ vm₁, s.WarmedH vm₁ → Pre ⟨T.setVm vm₁, locs, cells, slots⟩ (Value.ref b :: argsL).toArray) :
    ∃ (v : Option Value) (vm₁ : Vm) (B : Pt), s.WarmedH vm₁ ∧ Stand p l e R s m args below meth c B.U B.locs B.cells B.slots ∧ Post ⟨T.setVm vm₁, locs, cells, slots⟩ (Value.ref b :: argsL).toArray v B ∧
      ∀ target, Steps p.tables e below (B.U.setTop { g with pc := g.pc + 3, stack := v.toList ++ rest }) target → Steps p.tables e below (T.setTop g) target := by
  obtain ⟨mk, methM, hnamed, hmethM, hstM, habM⟩ := Cond.instanceMethod_spec hinst
  obtain ⟨m8, methM', cM, hn8, hmethM', -, -, -, -, -, -, hsigM⟩ := Cond.codeWith_spec hcode
  cases Option.some.inj (hn8.symm.trans hnamed)
  cases hmethM.symm.trans hmethM'
  obtain ⟨c2, r2, m2, q1, q2, q3, q4, kP, hkP, hkPi⟩ := Cond.selects_spec hsel
  cases hcls.symm.trans q1
  cases (State.methodFound?_of_named hnamed hy).symm.trans q2
  cases hnamed.symm.trans q3
  have hselP : selectMethod e.platform s.vm cellB.cls mk = .method mk := by rw [Launch.admits_selectMethod X.admits]; exact q4
  obtain ⟨vm₁, X₁, hstep₁⟩ := X.invokevirtual hexec hown hlink hnamed hmethM hstM hkP hkPi hy (a := b) (cell := cellB) hcell
    (fun z h => by rw [h] at hobj; cases hobj) hselP hmethM habM hkP hkPi (g := g) hg (argsL := argsL) (rest := rest) (hlen _ hsigM) hstack hdg
  obtain ⟨v, B, X', hpost, hsteps⟩ := hK m meth c ⟨T.setVm vm₁, locs, cells, slots⟩ { g with stack := rest } (.invokevirtual index) mk (Value.ref b :: argsL).toArray X₁ hg hsize hdg hW (X₁.named hnamed) (hpre vm₁ X₁.warmed)
  exact ⟨v, vm₁, B, X₁.warmed, X', hpost, fun target h => hstep₁ _ fun acts => by rw [doInvoke_state]; exact hsteps.trans h⟩
abbrev vx_CVW (R : Room) (s : State) (args : Array Value) (own C : String) (index : Nat) (y : MethodName) (bytes : ByteArray) (maxL : Nat) (ret : Option FieldType) (hh : List (Nat × Nat × Nat × Nat)) (ws : List Cond) (rm : Room) (mc ms n : Nat) : Prop :=
  (rm.cells = mc ∧ rm.slots = ms ∧ rm.frames + 1 ≤ R.frames ∧ 8 + (maxL + 11) + rm.locals ≤ R.locals ∧ (∀ w ∈ ws, ∀ (a' : Array Value) (U : State), s.WarmedH U.vm → w.before a' U = true) ∧ Cond.codeWith y bytes maxL ret hh ∈ ws) ∧
  (Cond.codeWith y bytes maxL ret hh).before args s = true ∧ (Cond.initialized y.cls).before args s = true ∧ (y.cls ≠ "java/lang/invoke/MethodHandle" ∧ y.cls ≠ "java/lang/invoke/VarHandle") ∧
  (∀ sig, parseMethodDescriptor y.desc = some sig → n = sig.parameters.length) ∧ (Cond.methodLink own index y).before args s = true ∧ (Cond.instanceMethod y).before args s = true ∧ (Cond.selects C y y).before args s = true
theorem vx_cwVW {own C : String} {index maxL mc ms : Nat} {y : MethodName} {bytes : ByteArray} {ret : Option FieldType} {hh : List (Nat × Nat × Nat × Nat)} {Ts ws ws' : List Cond} {rm : Room} (n : Nat) (ht : ∀ w ∈ Ts, w.before args s = true) (hT : GoodIn Ts (wsV own index C y ws)) (hw : ws = Cond.codeWith y bytes maxL ret hh :: ws') (hrc : rm.cells = mc) (hrs : rm.slots = ms)
    (hd : y.cls = C ∧ y.cls ≠ "java/lang/invoke/MethodHandle" ∧ y.cls ≠ "java/lang/invoke/VarHandle" ∧ (parseMethodDescriptor y.desc).map (fun d => d.parameters.length) = some n) (hR : rm.frames + 1 ≤ R.frames ∧ 8 + (maxL + 11) + rm.locals ≤ R.locals) :
    vx_CVW R s args own C index y bytes maxL ret hh ws rm mc ms n := by
  obtain ⟨hC, hd⟩ := hd
  subst hC
  have ok : ∀ w ∈ wsV own index y.cls y ws, w.before args s = true := fun w h => ht w (hT w h).1
  have hG : GoodIn Ts ws := fun w h => hT w (by unfold wsV; exact List.mem_append_right _ h)
  have hc : Cond.codeWith y bytes maxL ret hh ∈ ws := by rw [hw]; exact List.mem_cons_self
  refine ⟨⟨hrc, hrs, hR.1, hR.2, pay_in ht hG, hc⟩, ht _ (hG _ hc).1, ok _ (by simp [wsV]), ⟨hd.1, hd.2.1⟩, fun sig h => ?_, ok _ (by simp [wsV]), ok _ (by simp [wsV]), ok _ (by simp [wsV])⟩
  have h2 := hd.2.2
  rw [h] at h2
  exact (Option.some.inj h2).symm
theorem vx_runVW {y : MethodName} {bytes cc : ByteArray} {maxL nL mc ms n index : Nat} {ret : Option FieldType} {hh : List (Nat × Nat × Nat × Nat)} {ws : List Cond} {rm : Room} {Pc : Array Value → State → Prop} {Qc : Array Value → State → Outcome → State → Prop} {free : Addr → Prop} {Ts : List Cond} {own C : String} {b : Addr} {As rest : List Value} {g : JFrame}
    (S : CallFix p m c cc nL s args Ts own) (hM : Met l y ws rm Pc Qc mc ms free) (cw : vx_CVW R s args own C index y bytes maxL ret hh ws rm mc ms n) (hp : PreV s H C b Pc As)
    (hg : g.method = m) (hn : As.length = n) (hsize : g.locals.size = nL) (hstack : g.stack = As.reverse ++ .ref b :: rest) (hW : 2 * g.monitorRoom + (rest.map fun v => v.category).sum ≤ 8) (hdg : decode cc g.pc = .ok (.invokevirtual index, 3)) (hf : cells + mc ≤ R.cells ∧ slots + ms ≤ R.slots) :
    va_Run p l e R s m args below meth c H locs cells slots mc ms g rest (Qc (Value.ref b :: As).toArray) free := by
  obtain ⟨⟨hrc, hrs, hfr, hlo, hws, hcw⟩, hcode, hini, hy, hlen, hl, hin, hse⟩ := cw
  have hK : Back l R p e below s args y 3 8 (PreOf R mc ms Pc) (PostOf Qc mc ms free) := va_backW (hh := hh) (bytes := bytes) (maxL := maxL) (ret := ret) hM hp.1 hrc hrs hfr hlo hws hcw (fun a' U hW => word_at hW (Or.inl (by first | rfl | simp [Cond.onTables, Cond.keeps, Cond.steady])) hini)
  obtain ⟨hx, hb, hml, ho, -⟩ := S
  obtain ⟨-, ⟨cellB, hcB, hoB, hclB⟩, hPc⟩ := hp
  intro T hT X
  obtain ⟨v, vm₁, ⟨U', l2, c2, s2⟩, hW₁, X', ⟨g', mk, t, L, e1, e2, hq, h1, hL, h2, h3⟩, st⟩ := vx_callVW X hx (C := C) (hh := hh) (bytes := bytes) (maxL := maxL) (ret := ret) ho hl hin hse hcode hy hK (by rw [hT]; exact hcB) hoB hclB hg (hsize.trans hml.symm) (argsL := As) (rest := rest) (fun sig h => hn.trans (hlen sig h)) hstack hW (by rw [hb]; exact hdg)
    (fun vm₁ hW₁ => ⟨hf.1, hf.2, hPc (T.setVm vm₁) hT hW₁⟩)
  dsimp only [Pt.U, Pt.locs, Pt.cells, Pt.slots] at X' e1 e2 h1 h2 h3 st
  subst h1; subst h2; subst h3
  exact ⟨v, (T.setVm vm₁).calling g' mk (Value.ref b :: As).toArray, t, U', L, hT, X', hL, e1, e2, hq, st⟩
section
variable {y : MethodName} {bytes cc : ByteArray} {maxL nL mc ms n index : Nat} {ret : Option FieldType} {ws : List Cond} {rm : Room} {Pc : Array Value → State → Prop} {Qc : Array Value → State → Outcome → State → Prop} {XC : String → State → State → Prop} {free : Addr → Prop} {Ts : List Cond} {own C : String} {b : Addr} {As rest : List Value} {g : JFrame}
theorem vx_runVX {hh : List (Nat × Nat × Nat × Nat)} (S : CallFix p m c cc nL s args Ts own) (hM : vx_Met l y ws rm Pc Qc XC mc ms free) (cw : vx_CVW R s args own C index y bytes maxL ret hh ws rm mc ms n) (hp : PreV s H C b Pc As)
    (hg : g.method = m) (hn : As.length = n) (hsize : g.locals.size = nL) (hstack : g.stack = As.reverse ++ .ref b :: rest) (hW : 2 * g.monitorRoom + (rest.map fun v => v.category).sum ≤ 8) (hdg : decode cc g.pc = .ok (.invokevirtual index, 3)) (hf : cells + mc ≤ R.cells ∧ slots + ms ≤ R.slots) :
    vx_Run p l e R s m args below meth c H locs cells slots mc ms g rest (Qc (Value.ref b :: As).toArray) XC free := by
  obtain ⟨⟨hrc, hrs, hfr, hlo, hws, hcw⟩, hcode, hini, hy, hlen, hl, hin, hse⟩ := cw
  have hK : vx_Back l R p e below s args y 3 8 (PreOf R mc ms Pc) (PostOf Qc mc ms free) (vx_Post XC mc ms free) := vx_backW (hh := hh) (bytes := bytes) (maxL := maxL) (ret := ret) hM hp.1 hrc hrs hfr hlo hws hcw (fun a' U hW => word_at hW (Or.inl (by first | rfl | simp [Cond.onTables, Cond.keeps, Cond.steady])) hini)
  obtain ⟨hx, hb, hml, ho, -⟩ := S
  obtain ⟨-, ⟨cellB, hcB, hoB, hclB⟩, hPc⟩ := hp
  intro T hT X
  rcases vx_callVX X hx (C := C) (hh := hh) (bytes := bytes) (maxL := maxL) (ret := ret) ho hl hin hse hcode hy hK (by rw [hT]; exact hcB) hoB hclB hg (hsize.trans hml.symm) (argsL := As) (rest := rest) (fun sig h => hn.trans (hlen sig h)) hstack hW (by rw [hb]; exact hdg)
    (fun vm₁ hW₁ => ⟨hf.1, hf.2, hPc (T.setVm vm₁) hT hW₁⟩) with ⟨v, vm₁, ⟨U', l2, c2, s2⟩, hW₁, X', ⟨g', mk, t, L, e1, e2, hq, h1, hL, h2, h3⟩, st⟩ | ⟨q, vm₁, ⟨U', l2, c2, s2⟩, hW₁, X', ⟨g', mk, t, L, E, ce, e1, e2, hq, hce, hcv, hcl, h1, hL, h2, h3⟩, st⟩
  · dsimp only [Pt.U, Pt.locs, Pt.cells, Pt.slots] at X' e1 e2 h1 h2 h3 st
    subst h1; subst h2; subst h3
    exact Or.inl ⟨v, (T.setVm vm₁).calling g' mk (Value.ref b :: As).toArray, t, U', L, hT, X', hL, e1, e2, hq, st⟩
  · dsimp only [Pt.U, Pt.locs, Pt.cells, Pt.slots] at X' e1 e2 h1 h2 h3 st hcl
    subst h1; subst h2; subst h3
    exact Or.inr ⟨q, (T.setVm vm₁).calling g' mk (Value.ref b :: As).toArray, t, U', L, E, ce, hT, X', hL, e1, e2, hq, hce, hcv, vx_cls hW₁ hcl, st⟩
theorem vx_runSX {hh : List (Nat × Nat × Nat × Nat)} (S : CallFix p m c cc nL s args Ts own) (hM : vx_Met l y ws rm Pc Qc XC mc ms free) (cw : vx_CSW R s args own index y bytes maxL ret hh ws rm mc ms n) (hp : PreS s H Pc As)
    (hg : g.method = m) (hn : As.length = n) (hsize : g.locals.size = nL) (hstack : g.stack = As.reverse ++ rest) (hW : 2 * g.monitorRoom + (rest.map fun v => v.category).sum ≤ 8) (hdg : decode cc g.pc = .ok (.invokestatic index, 3)) (hf : cells + mc ≤ R.cells ∧ slots + ms ≤ R.slots) :
    vx_Run p l e R s m args below meth c H locs cells slots mc ms g rest (Qc As.toArray) XC free := by
  obtain ⟨⟨hrc, hrs, hfr, hlo, hws, hcw⟩, hcode, hini, hy, hlen, hl, hstt⟩ := cw
  have hK : vx_Back l R p e below s args y 3 8 (PreOf R mc ms Pc) (PostOf Qc mc ms free) (vx_Post XC mc ms free) := vx_backW (hh := hh) (bytes := bytes) (maxL := maxL) (ret := ret) hM hp.1 hrc hrs hfr hlo hws hcw (fun a' U hW => word_at hW (Or.inl (by first | rfl | simp [Cond.onTables, Cond.keeps, Cond.steady])) hini)
  obtain ⟨hx, hb, hml, ho, -⟩ := S
  intro T hT X
  rcases vx_callSX X hx (hh := hh) (bytes := bytes) (maxL := maxL) (ret := ret) ho hl hstt hini hcode hy hK hg (hsize.trans hml.symm) (argsL := As) (rest := rest) (fun sig h => hn.trans (hlen sig h)) hstack hW (by rw [hb]; exact hdg)
    (fun vm₁ hW₁ => ⟨hf.1, hf.2, hp.2 (T.setVm vm₁) hT hW₁⟩) with ⟨v, vm₁, ⟨U', l2, c2, s2⟩, hW₁, X', ⟨g', mk, t, L, e1, e2, hq, h1, hL, h2, h3⟩, st⟩ | ⟨q, vm₁, ⟨U', l2, c2, s2⟩, hW₁, X', ⟨g', mk, t, L, E, ce, e1, e2, hq, hce, hcv, hcl, h1, hL, h2, h3⟩, st⟩
  · dsimp only [Pt.U, Pt.locs, Pt.cells, Pt.slots] at X' e1 e2 h1 h2 h3 st
    subst h1; subst h2; subst h3
    exact Or.inl ⟨v, (T.setVm vm₁).calling g' mk As.toArray, t, U', L, hT, X', hL, e1, e2, hq, st⟩
  · dsimp only [Pt.U, Pt.locs, Pt.cells, Pt.slots] at X' e1 e2 h1 h2 h3 st hcl
    subst h1; subst h2; subst h3
    exact Or.inr ⟨q, (T.setVm vm₁).calling g' mk As.toArray, t, U', L, E, ce, hT, X', hL, e1, e2, hq, hce, hcv, vx_cls hW₁ hcl, st⟩
end
end VXH
theorem vx_ofWH {l : Launch} {y : MethodName} {ws ws' : List Cond} {rm : Room} {Pc : Array Value → State → Prop} {Qc : Array Value → State → Outcome → State → Prop} {XC : String → State → State → Prop} {mc ms : Nat} {free : Addr → Prop} {cc : ByteArray} {maxL : Nat} {ret : Option FieldType} {hh : List (Nat × Nat × Nat × Nat)}
    (hy : plainName y.cls = true) (hw : ws = Cond.codeWith y cc maxL ret hh :: ws')
    (body : ∀ p e s m args below meth c s₁, BodyLoose p l y (headSpec ws rm) cc maxL ret e s m args below meth c s₁ → c.maxLocals = maxL → Pc args s →
      W p l e (headSpec ws rm).room s m args below meth c s.heap [] 0 0 (vx_MQ below Qc XC args s mc ms free) (entryFrame m args maxL)) : vx_Met l y ws rm Pc Qc XC mc ms free := by
  refine MetFree.of_bodyS (code := cc) (maxLocals := maxL) (ret := ret) hy ?_ ?_
  · intro args s m h hn
    obtain ⟨m9, meth, c, hn9, h1, h2, h3, h4, -, h5, h6, -⟩ := Cond.codeWith_spec (atoms_spec (ws := ws) h _ (by rw [hw]; exact List.mem_cons_self))
    cases hn.symm.trans hn9
    exact ⟨meth, c, h1, h2, h3, h4, h5, h6⟩
  · intro p e s m args below meth c s₁ B hml hP _
    have hh0 : s₁.heap = s.heap := by rw [B.state]; rfl
    obtain ⟨t, a1, o, b1, b2, b3⟩ := body p e s m args below meth c s₁ B hml hP s₁ hh0 (Stand.of_body B)
    exact ⟨t, o, a1, b1, b2, b3⟩
/-! ===== END ===== -/
end
section
/-! ===== BEGIN printed: names, fields, word lists, decode rows ===== -/
def RX0 : String := "ForAllGame$BeatenSets"
def TX0 : u_T := fun k => match k with
  | 0 => ("ForAllGame$BeatenSets", "bits", "[J", true)
  | _ => ("ForAllGame$BeatenSets", "stale", "Z", false)
def tyX0 : Nat → FieldType := fun k => match k with
  | 0 => .array .long
  | _ => .boolean
abbrev wsX00 : List Cond := u_ws RX0 TX0 2
theorem nmX0 : ∀ a, a < 2 → ∀ b, b < 2 → a ≠ b → (TX0 a).2.1 ≠ (TX0 b).2.1 := by decide +kernel
theorem tyX0_ok : ∀ k, k < 2 → parseFieldDescriptor (TX0 k).2.2.1 = some (tyX0 k) := by decide +kernel
abbrev cX0_init : ByteArray := prog_2_method_1_code
def yX0_init : MethodName := ⟨RX0, "<init>", "()V"⟩
abbrev cX0_has : ByteArray := prog_2_method_2_code
def yX0_has : MethodName := ⟨RX0, "has", "(III)Z"⟩
abbrev cX0_bringUpToDate : ByteArray := prog_2_method_3_code
def yX0_bringUpToDate : MethodName := ⟨RX0, "bringUpToDate", "(LForAllGame$State;)V"⟩
abbrev cX0_setEnd : ByteArray := prog_2_method_4_code
def yX0_setEnd : MethodName := ⟨RX0, "setEnd", "(LForAllGame$State;I)V"⟩
abbrev cX0_join : ByteArray := prog_2_method_5_code
def yX0_join : MethodName := ⟨RX0, "join", "(IIZ)V"⟩
abbrev cX0_wordOf : ByteArray := prog_2_method_6_code
def yX0_wordOf : MethodName := ⟨RX0, "wordOf", "(II)I"⟩
abbrev cX0_setsWithout : ByteArray := prog_2_method_7_code
def yX0_setsWithout : MethodName := ⟨RX0, "setsWithout", "(II)J"⟩
def RX1 : String := "ForAllGame$OrderText"
def TX1 : u_T := fun k => match k with
  | 0 => ("ForAllGame$OrderText", "bytes", "[I", true)
  | 1 => ("ForAllGame$OrderText", "length", "I", false)
  | 2 => ("ForAllGame$OrderText", "at", "I", false)
  | 3 => ("ForAllGame$OrderText", "error", "I", false)
  | 4 => ("ForAllGame$OrderText", "kind", "I", false)
  | 5 => ("ForAllGame$OrderText", "positive", "I", false)
  | 6 => ("ForAllGame$OrderText", "negative", "I", false)
  | _ => ("ForAllGame$OrderText", "play", "I", false)
def tyX1 : Nat → FieldType := fun k => match k with
  | 0 => .array .int
  | 1 => .int
  | 2 => .int
  | 3 => .int
  | 4 => .int
  | 5 => .int
  | 6 => .int
  | _ => .int
abbrev wsX10 : List Cond := u_ws RX1 TX1 8
theorem nmX1 : ∀ a, a < 8 → ∀ b, b < 8 → a ≠ b → (TX1 a).2.1 ≠ (TX1 b).2.1 := by decide +kernel
theorem tyX1_ok : ∀ k, k < 8 → parseFieldDescriptor (TX1 k).2.2.1 = some (tyX1 k) := by decide +kernel
abbrev cX1_init : ByteArray := prog_3_method_1_code
def yX1_init : MethodName := ⟨RX1, "<init>", "()V"⟩
abbrev cX1_put : ByteArray := prog_3_method_2_code
def yX1_put : MethodName := ⟨RX1, "put", "(I)V"⟩
abbrev cX1_rewind : ByteArray := prog_3_method_3_code
def yX1_rewind : MethodName := ⟨RX1, "rewind", "()V"⟩
abbrev cX1_syntaxError : ByteArray := prog_3_method_4_code
def yX1_syntaxError : MethodName := ⟨RX1, "syntaxError", "()I"⟩
abbrev cX1_readOrder : ByteArray := prog_3_method_5_code
def yX1_readOrder : MethodName := ⟨RX1, "readOrder", "()Z"⟩
abbrev cX1_readLiterals : ByteArray := prog_3_method_6_code
def yX1_readLiterals : MethodName := ⟨RX1, "readLiterals", "()Z"⟩
abbrev cX1_readPlay : ByteArray := prog_3_method_7_code
def yX1_readPlay : MethodName := ⟨RX1, "readPlay", "()Z"⟩
abbrev cX1_fail : ByteArray := prog_3_method_8_code
def yX1_fail : MethodName := ⟨RX1, "fail", "(I)Z"⟩
abbrev cX1_byteAt : ByteArray := prog_3_method_9_code
def yX1_byteAt : MethodName := ⟨RX1, "byteAt", "(I)I"⟩
abbrev cX1_isDigit : ByteArray := prog_3_method_10_code
def yX1_isDigit : MethodName := ⟨RX1, "isDigit", "(I)Z"⟩
def RX2 : String := "ForAllGame$SavedStates"
def TX2 : u_T := fun k => match k with
  | 0 => ("ForAllGame$SavedStates", "ring", "[LForAllGame$State;", true)
  | 1 => ("ForAllGame$SavedStates", "oldest", "I", false)
  | _ => ("ForAllGame$SavedStates", "count", "I", false)
def tyX2 : Nat → FieldType := fun k => match k with
  | 0 => .array (.object "ForAllGame$State")
  | 1 => .int
  | _ => .int
abbrev wsX20 : List Cond := u_ws RX2 TX2 3
theorem nmX2 : ∀ a, a < 3 → ∀ b, b < 3 → a ≠ b → (TX2 a).2.1 ≠ (TX2 b).2.1 := by decide +kernel
theorem tyX2_ok : ∀ k, k < 3 → parseFieldDescriptor (TX2 k).2.2.1 = some (tyX2 k) := by decide +kernel
abbrev cX2_init : ByteArray := prog_4_method_1_code
def yX2_init : MethodName := ⟨RX2, "<init>", "()V"⟩
abbrev cX2_push : ByteArray := prog_4_method_2_code
def yX2_push : MethodName := ⟨RX2, "push", "(LForAllGame$State;)V"⟩
abbrev cX2_pop : ByteArray := prog_4_method_3_code
def yX2_pop : MethodName := ⟨RX2, "pop", "(LForAllGame$State;)V"⟩
abbrev cX2_slot : ByteArray := prog_4_method_4_code
def yX2_slot : MethodName := ⟨RX2, "slot", "(I)LForAllGame$State;"⟩
def RX3 : String := "ForAllGame$State"
def TX3 : u_T := fun k => match k with
  | 0 => ("ForAllGame$State", "variables", "I", false)
  | 1 => ("ForAllGame$State", "breakers", "I", false)
  | 2 => ("ForAllGame$State", "clauses", "I", false)
  | 3 => ("ForAllGame$State", "positive", "[I", true)
  | 4 => ("ForAllGame$State", "negative", "[I", true)
  | 5 => ("ForAllGame$State", "learned", "I", false)
  | _ => ("ForAllGame$State", "rounds", "I", false)
def tyX3 : Nat → FieldType := fun k => match k with
  | 0 => .int
  | 1 => .int
  | 2 => .int
  | 3 => .array .int
  | 4 => .array .int
  | 5 => .int
  | _ => .int
abbrev wsX30 : List Cond := u_ws RX3 TX3 7
theorem nmX3 : ∀ a, a < 7 → ∀ b, b < 7 → a ≠ b → (TX3 a).2.1 ≠ (TX3 b).2.1 := by decide +kernel
theorem tyX3_ok : ∀ k, k < 7 → parseFieldDescriptor (TX3 k).2.2.1 = some (tyX3 k) := by decide +kernel
abbrev cX3_init : ByteArray := prog_5_method_1_code
def yX3_init : MethodName := ⟨RX3, "<init>", "()V"⟩
abbrev cX3_clear : ByteArray := prog_5_method_2_code
def yX3_clear : MethodName := ⟨RX3, "clear", "()V"⟩
abbrev cX3_copyFrom : ByteArray := prog_5_method_3_code
def yX3_copyFrom : MethodName := ⟨RX3, "copyFrom", "(LForAllGame$State;)V"⟩
abbrev cX3_ownerOf : ByteArray := prog_5_method_4_code
def yX3_ownerOf : MethodName := ⟨RX3, "ownerOf", "(I)I"⟩
abbrev cX3_plays : ByteArray := prog_5_method_5_code
def yX3_plays : MethodName := ⟨RX3, "plays", "()I"⟩
abbrev cX3_allPlays : ByteArray := prog_5_method_6_code
def yX3_allPlays : MethodName := ⟨RX3, "allPlays", "()I"⟩
abbrev cX3_hasPlay : ByteArray := prog_5_method_7_code
def yX3_hasPlay : MethodName := ⟨RX3, "hasPlay", "(I)Z"⟩
abbrev cX3_hasLearned : ByteArray := prog_5_method_8_code
def yX3_hasLearned : MethodName := ⟨RX3, "hasLearned", "(I)Z"⟩
abbrev cX3_hasVariables : ByteArray := prog_5_method_9_code
def yX3_hasVariables : MethodName := ⟨RX3, "hasVariables", "(I)Z"⟩
abbrev cX3_hasRoomFor : ByteArray := prog_5_method_10_code
def yX3_hasRoomFor : MethodName := ⟨RX3, "hasRoomFor", "(Z)Z"⟩
abbrev cX3_putVariable : ByteArray := prog_5_method_11_code
def yX3_putVariable : MethodName := ⟨RX3, "putVariable", "(Z)V"⟩
abbrev cX3_putClause : ByteArray := prog_5_method_12_code
def yX3_putClause : MethodName := ⟨RX3, "putClause", "(II)V"⟩
abbrev cX3_dropClause : ByteArray := prog_5_method_13_code
def yX3_dropClause : MethodName := ⟨RX3, "dropClause", "(I)V"⟩
abbrev cX3_holds : ByteArray := prog_5_method_14_code
def yX3_holds : MethodName := ⟨RX3, "holds", "(I)Z"⟩
abbrev cX3_playIn : ByteArray := prog_5_method_15_code
def yX3_playIn : MethodName := ⟨RX3, "playIn", "(I)I"⟩
def RX4 : String := "ForAllGame"
def TX4 : u_T := fun k => match k with
  | 0 => ("ForAllGame", "state", "LForAllGame$State;", true)
  | 1 => ("ForAllGame", "saved", "LForAllGame$SavedStates;", true)
  | 2 => ("ForAllGame", "beaten", "LForAllGame$BeatenSets;", true)
  | _ => ("ForAllGame", "text", "LForAllGame$OrderText;", true)
def tyX4 : Nat → FieldType := fun k => match k with
  | 0 => .object "ForAllGame$State"
  | 1 => .object "ForAllGame$SavedStates"
  | 2 => .object "ForAllGame$BeatenSets"
  | _ => .object "ForAllGame$OrderText"
abbrev wsX40 : List Cond := u_ws RX4 TX4 4
theorem nmX4 : ∀ a, a < 4 → ∀ b, b < 4 → a ≠ b → (TX4 a).2.1 ≠ (TX4 b).2.1 := by decide +kernel
theorem tyX4_ok : ∀ k, k < 4 → parseFieldDescriptor (TX4 k).2.2.1 = some (tyX4 k) := by decide +kernel
abbrev cX4_init : ByteArray := prog_1_method_1_code
def yX4_init : MethodName := ⟨RX4, "<init>", "()V"⟩
abbrev cX4_begin : ByteArray := prog_1_method_2_code
def yX4_begin : MethodName := ⟨RX4, "begin", "()I"⟩
abbrev cX4_addVariable : ByteArray := prog_1_method_3_code
def yX4_addVariable : MethodName := ⟨RX4, "addVariable", "(Z)I"⟩
abbrev cX4_addClause : ByteArray := prog_1_method_4_code
def yX4_addClause : MethodName := ⟨RX4, "addClause", "(II)I"⟩
abbrev cX4_removeClause : ByteArray := prog_1_method_5_code
def yX4_removeClause : MethodName := ⟨RX4, "removeClause", "(I)I"⟩
abbrev cX4_learn : ByteArray := prog_1_method_6_code
def yX4_learn : MethodName := ⟨RX4, "learn", "(I)I"⟩
abbrev cX4_forget : ByteArray := prog_1_method_7_code
def yX4_forget : MethodName := ⟨RX4, "forget", "()I"⟩
abbrev cX4_round : ByteArray := prog_1_method_8_code
def yX4_round : MethodName := ⟨RX4, "round", "()I"⟩
abbrev cX4_learnAll : ByteArray := prog_1_method_9_code
def yX4_learnAll : MethodName := ⟨RX4, "learnAll", "()I"⟩
abbrev cX4_isBreakers : ByteArray := prog_1_method_10_code
def yX4_isBreakers : MethodName := ⟨RX4, "isBreakers", "(I)Z"⟩
abbrev cX4_clause : ByteArray := prog_1_method_11_code
def yX4_clause : MethodName := ⟨RX4, "clause", "(II)I"⟩
abbrev cX4_isTrue : ByteArray := prog_1_method_12_code
def yX4_isTrue : MethodName := ⟨RX4, "isTrue", "(I)Z"⟩
abbrev cX4_value : ByteArray := prog_1_method_13_code
def yX4_value : MethodName := ⟨RX4, "value", "(I)I"⟩
abbrev cX4_winner : ByteArray := prog_1_method_14_code
def yX4_winner : MethodName := ⟨RX4, "winner", "()I"⟩
abbrev cX4_winnerAt : ByteArray := prog_1_method_15_code
def yX4_winnerAt : MethodName := ⟨RX4, "winnerAt", "(II)I"⟩
abbrev cX4_move : ByteArray := prog_1_method_16_code
def yX4_move : MethodName := ⟨RX4, "move", "(II)I"⟩
abbrev cX4_ways : ByteArray := prog_1_method_17_code
def yX4_ways : MethodName := ⟨RX4, "ways", "(I)I"⟩
abbrev cX4_beats : ByteArray := prog_1_method_18_code
def yX4_beats : MethodName := ⟨RX4, "beats", "(I)Z"⟩
abbrev cX4_answer : ByteArray := prog_1_method_19_code
def yX4_answer : MethodName := ⟨RX4, "answer", "(II)I"⟩
abbrev cX4_copies : ByteArray := prog_1_method_20_code
def yX4_copies : MethodName := ⟨RX4, "copies", "()I"⟩
abbrev cX4_leastProof : ByteArray := prog_1_method_21_code
def yX4_leastProof : MethodName := ⟨RX4, "leastProof", "()I"⟩
abbrev cX4_proof : ByteArray := prog_1_method_22_code
def yX4_proof : MethodName := ⟨RX4, "proof", "()I"⟩
abbrev cX4_hope : ByteArray := prog_1_method_23_code
def yX4_hope : MethodName := ⟨RX4, "hope", "()D"⟩
abbrev cX4_append : ByteArray := prog_1_method_24_code
def yX4_append : MethodName := ⟨RX4, "append", "(I)I"⟩
abbrev cX4_clearText : ByteArray := prog_1_method_25_code
def yX4_clearText : MethodName := ⟨RX4, "clearText", "()I"⟩
abbrev cX4_carryOut : ByteArray := prog_1_method_26_code
def yX4_carryOut : MethodName := ⟨RX4, "carryOut", "()I"⟩
abbrev cX4_undo : ByteArray := prog_1_method_27_code
def yX4_undo : MethodName := ⟨RX4, "undo", "()I"⟩
abbrev cX4_digest : ByteArray := prog_1_method_28_code
def yX4_digest : MethodName := ⟨RX4, "digest", "()J"⟩
abbrev cX4_requireVariable : ByteArray := prog_1_method_29_code
def yX4_requireVariable : MethodName := ⟨RX4, "requireVariable", "(I)V"⟩
abbrev cX4_requireClause : ByteArray := prog_1_method_30_code
def yX4_requireClause : MethodName := ⟨RX4, "requireClause", "(I)V"⟩
abbrev cX4_requirePlay : ByteArray := prog_1_method_31_code
def yX4_requirePlay : MethodName := ⟨RX4, "requirePlay", "(I)V"⟩
abbrev cX4_requireHistory : ByteArray := prog_1_method_32_code
def yX4_requireHistory : MethodName := ⟨RX4, "requireHistory", "(II)V"⟩
abbrev cX4_putVariable : ByteArray := prog_1_method_33_code
def yX4_putVariable : MethodName := ⟨RX4, "putVariable", "(Z)V"⟩
abbrev cX4_putClause : ByteArray := prog_1_method_34_code
def yX4_putClause : MethodName := ⟨RX4, "putClause", "(II)V"⟩
abbrev cX4_formulaChanged : ByteArray := prog_1_method_35_code
def yX4_formulaChanged : MethodName := ⟨RX4, "formulaChanged", "()V"⟩
abbrev cX4_makeRound : ByteArray := prog_1_method_36_code
def yX4_makeRound : MethodName := ⟨RX4, "makeRound", "()I"⟩
abbrev cX4_valuesAgainst : ByteArray := prog_1_method_37_code
def yX4_valuesAgainst : MethodName := ⟨RX4, "valuesAgainst", "(I)I"⟩
abbrev cX4_winnerIn : ByteArray := prog_1_method_38_code
def yX4_winnerIn : MethodName := ⟨RX4, "winnerIn", "(II)I"⟩
abbrev cX4_learnedBeginnings : ByteArray := prog_1_method_39_code
def yX4_learnedBeginnings : MethodName := ⟨RX4, "learnedBeginnings", "(I)I"⟩
abbrev cX4_lowestLeastProof : ByteArray := prog_1_method_40_code
def yX4_lowestLeastProof : MethodName := ⟨RX4, "lowestLeastProof", "()I"⟩
abbrev cX4_obeyOrder : ByteArray := prog_1_method_41_code
def yX4_obeyOrder : MethodName := ⟨RX4, "obeyOrder", "()Z"⟩
abbrev cX4_obeyVariable : ByteArray := prog_1_method_42_code
def yX4_obeyVariable : MethodName := ⟨RX4, "obeyVariable", "(Z)Z"⟩
abbrev cX4_obeyClause : ByteArray := prog_1_method_43_code
def yX4_obeyClause : MethodName := ⟨RX4, "obeyClause", "(II)Z"⟩
abbrev cX4_obeyLearn : ByteArray := prog_1_method_44_code
def yX4_obeyLearn : MethodName := ⟨RX4, "obeyLearn", "(I)Z"⟩
abbrev cX4_bit : ByteArray := prog_1_method_45_code
def yX4_bit : MethodName := ⟨RX4, "bit", "(II)I"⟩
abbrev cX4_read : ByteArray := prog_1_method_46_code
def yX4_read : MethodName := ⟨RX4, "read", "([II)I"⟩
abbrev cX4_write : ByteArray := prog_1_method_47_code
def yX4_write : MethodName := ⟨RX4, "write", "([III)V"⟩
abbrev cX4_readLong : ByteArray := prog_1_method_48_code
def yX4_readLong : MethodName := ⟨RX4, "readLong", "([JI)J"⟩
abbrev cX4_writeLong : ByteArray := prog_1_method_49_code
def yX4_writeLong : MethodName := ⟨RX4, "writeLong", "([JIJ)V"⟩
def RX5 : String := "ForAllGameModel"
def TX5 : u_T := fun k => match k with
  | 0 => ("ForAllGameModel", "s", "[I", true)
  | 1 => ("ForAllGameModel", "past", "[I", true)
  | 2 => ("ForAllGameModel", "begun", "[I", true)
  | 3 => ("ForAllGameModel", "pasts", "I", false)
  | 4 => ("ForAllGameModel", "thrown", "I", false)
  | 5 => ("ForAllGameModel", "text", "[B", true)
  | 6 => ("ForAllGameModel", "typed", "I", false)
  | 7 => ("ForAllGameModel", "at", "I", false)
  | 8 => ("ForAllGameModel", "letter", "I", false)
  | 9 => ("ForAllGameModel", "one", "I", false)
  | 10 => ("ForAllGameModel", "other", "I", false)
  | 11 => ("ForAllGameModel", "wins", "[Z", true)
  | _ => ("ForAllGameModel", "fits", "[I", true)
def tyX5 : Nat → FieldType := fun k => match k with
  | 0 => .array .int
  | 1 => .array .int
  | 2 => .array .int
  | 3 => .int
  | 4 => .int
  | 5 => .array .byte
  | 6 => .int
  | 7 => .int
  | 8 => .int
  | 9 => .int
  | 10 => .int
  | 11 => .array .boolean
  | _ => .array .int
abbrev wsX50 : List Cond := u_ws RX5 TX5 13
theorem nmX5 : ∀ a, a < 13 → ∀ b, b < 13 → a ≠ b → (TX5 a).2.1 ≠ (TX5 b).2.1 := by decide +kernel
theorem tyX5_ok : ∀ k, k < 13 → parseFieldDescriptor (TX5 k).2.2.1 = some (tyX5 k) := by decide +kernel
abbrev cX5_init : ByteArray := prog_7_method_1_code
def yX5_init : MethodName := ⟨RX5, "<init>", "()V"⟩
abbrev cX5_thrown : ByteArray := prog_7_method_2_code
def yX5_thrown : MethodName := ⟨RX5, "thrown", "()I"⟩
abbrev cX5_in : ByteArray := prog_7_method_3_code
def yX5_in : MethodName := ⟨RX5, "in", "(III)Z"⟩
abbrev cX5_fails : ByteArray := prog_7_method_4_code
def yX5_fails : MethodName := ⟨RX5, "fails", "(I)I"⟩
abbrev cX5_tells : ByteArray := prog_7_method_5_code
def yX5_tells : MethodName := ⟨RX5, "tells", "(I)I"⟩
abbrev cX5_is : ByteArray := prog_7_method_6_code
def yX5_is : MethodName := ⟨RX5, "is", "(Z)Z"⟩
abbrev cX5_begins : ByteArray := prog_7_method_7_code
def yX5_begins : MethodName := ⟨RX5, "begins", "()V"⟩
abbrev cX5_saved : ByteArray := prog_7_method_8_code
def yX5_saved : MethodName := ⟨RX5, "saved", "(I)I"⟩
abbrev cX5_ones : ByteArray := prog_7_method_9_code
def yX5_ones : MethodName := ⟨RX5, "ones", "(I)I"⟩
abbrev cX5_plays : ByteArray := prog_7_method_10_code
def yX5_plays : MethodName := ⟨RX5, "plays", "()I"⟩
abbrev cX5_isPlay : ByteArray := prog_7_method_11_code
def yX5_isPlay : MethodName := ⟨RX5, "isPlay", "(I)Z"⟩
abbrev cX5_isBreakersOwn : ByteArray := prog_7_method_12_code
def yX5_isBreakersOwn : MethodName := ⟨RX5, "isBreakersOwn", "(I)Z"⟩
abbrev cX5_isSet : ByteArray := prog_7_method_13_code
def yX5_isSet : MethodName := ⟨RX5, "isSet", "(I)Z"⟩
abbrev cX5_begin : ByteArray := prog_7_method_14_code
def yX5_begin : MethodName := ⟨RX5, "begin", "()I"⟩
abbrev cX5_canAdd : ByteArray := prog_7_method_15_code
def yX5_canAdd : MethodName := ⟨RX5, "canAdd", "(Z)Z"⟩
abbrev cX5_adds : ByteArray := prog_7_method_16_code
def yX5_adds : MethodName := ⟨RX5, "adds", "(Z)I"⟩
abbrev cX5_addVariable : ByteArray := prog_7_method_17_code
def yX5_addVariable : MethodName := ⟨RX5, "addVariable", "(Z)I"⟩
abbrev cX5_whyNotClause : ByteArray := prog_7_method_18_code
def yX5_whyNotClause : MethodName := ⟨RX5, "whyNotClause", "(II)I"⟩
abbrev cX5_addsClause : ByteArray := prog_7_method_19_code
def yX5_addsClause : MethodName := ⟨RX5, "addsClause", "(II)I"⟩
abbrev cX5_addClause : ByteArray := prog_7_method_20_code
def yX5_addClause : MethodName := ⟨RX5, "addClause", "(II)I"⟩
abbrev cX5_isClause : ByteArray := prog_7_method_21_code
def yX5_isClause : MethodName := ⟨RX5, "isClause", "(I)Z"⟩
abbrev cX5_removeClause : ByteArray := prog_7_method_22_code
def yX5_removeClause : MethodName := ⟨RX5, "removeClause", "(I)I"⟩
abbrev cX5_isMade : ByteArray := prog_7_method_23_code
def yX5_isMade : MethodName := ⟨RX5, "isMade", "(I)Z"⟩
abbrev cX5_lays : ByteArray := prog_7_method_24_code
def yX5_lays : MethodName := ⟨RX5, "lays", "(I)V"⟩
abbrev cX5_isAs : ByteArray := prog_7_method_25_code
def yX5_isAs : MethodName := ⟨RX5, "isAs", "(III)Z"⟩
abbrev cX5_finds : ByteArray := prog_7_method_26_code
def yX5_finds : MethodName := ⟨RX5, "finds", "()V"⟩
abbrev cX5_against : ByteArray := prog_7_method_27_code
def yX5_against : MethodName := ⟨RX5, "against", "(I)Z"⟩
abbrev cX5_answers : ByteArray := prog_7_method_28_code
def yX5_answers : MethodName := ⟨RX5, "answers", "(I)I"⟩
abbrev cX5_whyNotLearn : ByteArray := prog_7_method_29_code
def yX5_whyNotLearn : MethodName := ⟨RX5, "whyNotLearn", "(I)I"⟩
abbrev cX5_learn : ByteArray := prog_7_method_30_code
def yX5_learn : MethodName := ⟨RX5, "learn", "(I)I"⟩
abbrev cX5_forget : ByteArray := prog_7_method_31_code
def yX5_forget : MethodName := ⟨RX5, "forget", "()I"⟩
abbrev cX5_rounds : ByteArray := prog_7_method_32_code
def yX5_rounds : MethodName := ⟨RX5, "rounds", "()I"⟩
abbrev cX5_round : ByteArray := prog_7_method_33_code
def yX5_round : MethodName := ⟨RX5, "round", "()I"⟩
abbrev cX5_learnAll : ByteArray := prog_7_method_34_code
def yX5_learnAll : MethodName := ⟨RX5, "learnAll", "()I"⟩
abbrev cX5_isVariable : ByteArray := prog_7_method_35_code
def yX5_isVariable : MethodName := ⟨RX5, "isVariable", "(I)Z"⟩
abbrev cX5_isBreakers : ByteArray := prog_7_method_36_code
def yX5_isBreakers : MethodName := ⟨RX5, "isBreakers", "(I)Z"⟩
abbrev cX5_ofClause : ByteArray := prog_7_method_37_code
def yX5_ofClause : MethodName := ⟨RX5, "ofClause", "(II)I"⟩
abbrev cX5_clause : ByteArray := prog_7_method_38_code
def yX5_clause : MethodName := ⟨RX5, "clause", "(II)I"⟩
abbrev cX5_isTrue : ByteArray := prog_7_method_39_code
def yX5_isTrue : MethodName := ⟨RX5, "isTrue", "(I)Z"⟩
abbrev cX5_number : ByteArray := prog_7_method_40_code
def yX5_number : MethodName := ⟨RX5, "number", "(I)I"⟩
abbrev cX5_value : ByteArray := prog_7_method_41_code
def yX5_value : MethodName := ⟨RX5, "value", "(I)I"⟩
abbrev cX5_winnerOfAll : ByteArray := prog_7_method_42_code
def yX5_winnerOfAll : MethodName := ⟨RX5, "winnerOfAll", "()I"⟩
abbrev cX5_winner : ByteArray := prog_7_method_43_code
def yX5_winner : MethodName := ⟨RX5, "winner", "()I"⟩
abbrev cX5_whyNotAt : ByteArray := prog_7_method_44_code
def yX5_whyNotAt : MethodName := ⟨RX5, "whyNotAt", "(II)I"⟩
abbrev cX5_winnerAt : ByteArray := prog_7_method_45_code
def yX5_winnerAt : MethodName := ⟨RX5, "winnerAt", "(II)I"⟩
abbrev cX5_move : ByteArray := prog_7_method_46_code
def yX5_move : MethodName := ⟨RX5, "move", "(II)I"⟩
abbrev cX5_waysOf : ByteArray := prog_7_method_47_code
def yX5_waysOf : MethodName := ⟨RX5, "waysOf", "(I)I"⟩
abbrev cX5_ways : ByteArray := prog_7_method_48_code
def yX5_ways : MethodName := ⟨RX5, "ways", "(I)I"⟩
abbrev cX5_beats : ByteArray := prog_7_method_49_code
def yX5_beats : MethodName := ⟨RX5, "beats", "(I)Z"⟩
abbrev cX5_answer : ByteArray := prog_7_method_50_code
def yX5_answer : MethodName := ⟨RX5, "answer", "(II)I"⟩
abbrev cX5_copiesOfAll : ByteArray := prog_7_method_51_code
def yX5_copiesOfAll : MethodName := ⟨RX5, "copiesOfAll", "()I"⟩
abbrev cX5_copies : ByteArray := prog_7_method_52_code
def yX5_copies : MethodName := ⟨RX5, "copies", "()I"⟩
abbrev cX5_least : ByteArray := prog_7_method_53_code
def yX5_least : MethodName := ⟨RX5, "least", "()I"⟩
abbrev cX5_leastProof : ByteArray := prog_7_method_54_code
def yX5_leastProof : MethodName := ⟨RX5, "leastProof", "()I"⟩
abbrev cX5_proof : ByteArray := prog_7_method_55_code
def yX5_proof : MethodName := ⟨RX5, "proof", "()I"⟩
abbrev cX5_hope : ByteArray := prog_7_method_56_code
def yX5_hope : MethodName := ⟨RX5, "hope", "()D"⟩
abbrev cX5_append : ByteArray := prog_7_method_57_code
def yX5_append : MethodName := ⟨RX5, "append", "(I)I"⟩
abbrev cX5_clearText : ByteArray := prog_7_method_58_code
def yX5_clearText : MethodName := ⟨RX5, "clearText", "()I"⟩
abbrev cX5_sign : ByteArray := prog_7_method_59_code
def yX5_sign : MethodName := ⟨RX5, "sign", "()I"⟩
abbrev cX5_literals : ByteArray := prog_7_method_60_code
def yX5_literals : MethodName := ⟨RX5, "literals", "()Z"⟩
abbrev cX5_number_ : ByteArray := prog_7_method_61_code
def yX5_number_ : MethodName := ⟨RX5, "number", "()Z"⟩
abbrev cX5_reads : ByteArray := prog_7_method_62_code
def yX5_reads : MethodName := ⟨RX5, "reads", "()Z"⟩
abbrev cX5_wrong : ByteArray := prog_7_method_63_code
def yX5_wrong : MethodName := ⟨RX5, "wrong", "()I"⟩
abbrev cX5_does : ByteArray := prog_7_method_64_code
def yX5_does : MethodName := ⟨RX5, "does", "()Z"⟩
abbrev cX5_carryOut : ByteArray := prog_7_method_65_code
def yX5_carryOut : MethodName := ⟨RX5, "carryOut", "()I"⟩
abbrev cX5_undo : ByteArray := prog_7_method_66_code
def yX5_undo : MethodName := ⟨RX5, "undo", "()I"⟩
abbrev cX5_digest : ByteArray := prog_7_method_67_code
def yX5_digest : MethodName := ⟨RX5, "digest", "()J"⟩
def RJ6 : String := "java/lang/Integer"
def TJ6 : u_T := fun k => match k with
  | _ => ("", "", "", false)
def tyJ6 : Nat → FieldType := fun k => match k with
  | _ => .int
abbrev wsJ60 : List Cond := u_ws RJ6 TJ6 0
theorem nmJ6 : ∀ a, a < 0 → ∀ b, b < 0 → a ≠ b → (TJ6 a).2.1 ≠ (TJ6 b).2.1 := by decide +kernel
theorem tyJ6_ok : ∀ k, k < 0 → parseFieldDescriptor (TJ6 k).2.2.1 = some (tyJ6 k) := by decide +kernel
abbrev cJ6_bitCount_0f7a4 : ByteArray := prog_12_method_49_code
def yJ6_bitCount_0f7a4 : MethodName := ⟨RJ6, "bitCount", "(I)I"⟩
def RJ0 : String := "java/lang/String"
def TJ0 : u_T := fun k => match k with
  | _ => ("", "", "", false)
def tyJ0 : Nat → FieldType := fun k => match k with
  | _ => .int
abbrev wsJ00 : List Cond := u_ws RJ0 TJ0 0
theorem nmJ0 : ∀ a, a < 0 → ∀ b, b < 0 → a ≠ b → (TJ0 a).2.1 ≠ (TJ0 b).2.1 := by decide +kernel
theorem tyJ0_ok : ∀ k, k < 0 → parseFieldDescriptor (TJ0 k).2.2.1 = some (tyJ0 k) := by decide +kernel
def RL : String := "ForAllGameLaw"
abbrev cL_addVariable : ByteArray := method_3_code
def yL_addVariable : MethodName := ⟨RL, "addVariable", "(LForAllGame;Z[J)I"⟩
abbrev cL_addClause : ByteArray := method_4_code
def yL_addClause : MethodName := ⟨RL, "addClause", "(LForAllGame;II[J)I"⟩
abbrev cL_removeClause : ByteArray := method_5_code
def yL_removeClause : MethodName := ⟨RL, "removeClause", "(LForAllGame;I[J)I"⟩
abbrev cL_learn : ByteArray := method_6_code
def yL_learn : MethodName := ⟨RL, "learn", "(LForAllGame;I[J)I"⟩
abbrev cL_isBreakers : ByteArray := method_7_code
def yL_isBreakers : MethodName := ⟨RL, "isBreakers", "(LForAllGame;I[J)I"⟩
abbrev cL_clause : ByteArray := method_8_code
def yL_clause : MethodName := ⟨RL, "clause", "(LForAllGame;II[J)I"⟩
abbrev cL_isTrue : ByteArray := method_9_code
def yL_isTrue : MethodName := ⟨RL, "isTrue", "(LForAllGame;I[J)I"⟩
abbrev cL_value : ByteArray := method_10_code
def yL_value : MethodName := ⟨RL, "value", "(LForAllGame;I[J)I"⟩
abbrev cL_winnerAt : ByteArray := method_11_code
def yL_winnerAt : MethodName := ⟨RL, "winnerAt", "(LForAllGame;II[J)I"⟩
abbrev cL_move : ByteArray := method_12_code
def yL_move : MethodName := ⟨RL, "move", "(LForAllGame;II[J)I"⟩
abbrev cL_ways : ByteArray := method_13_code
def yL_ways : MethodName := ⟨RL, "ways", "(LForAllGame;I[J)I"⟩
abbrev cL_beats : ByteArray := method_14_code
def yL_beats : MethodName := ⟨RL, "beats", "(LForAllGame;I[J)I"⟩
abbrev cL_answer : ByteArray := method_15_code
def yL_answer : MethodName := ⟨RL, "answer", "(LForAllGame;II[J)I"⟩
abbrev cL_append : ByteArray := method_16_code
def yL_append : MethodName := ⟨RL, "append", "(LForAllGame;I[J)I"⟩
abbrev cL_undo : ByteArray := method_17_code
def yL_undo : MethodName := ⟨RL, "undo", "(LForAllGame;[J)I"⟩
abbrev cL_law : ByteArray := code
def yL_law : MethodName := ⟨RL, "law", "([I)Z"⟩
abbrev vwCl : List vw_C := [(RX0, TX0, 2), (RX1, TX1, 8), (RX2, TX2, 3), (RX3, TX3, 7), (RX4, TX4, 4), (RX5, TX5, 13)]
/-- ALL WORDS: the tables' words that keep -/
def wAll : List Cond := lw_tbl.filter goodWord
theorem wAll_tbl : ∀ w ∈ wAll, w ∈ lw_tbl := fun w h => (List.mem_filter.mp h).1
theorem wAll_good : ∀ w ∈ wAll, goodWord w = true := fun w h => (List.mem_filter.mp h).2
theorem wAll_mem {w : Cond} (i : Nat) (h : lw_tbl[i]? = some w) (g : goodWord w = true) : w ∈ wAll := List.mem_filter.mpr ⟨List.mem_of_getElem? h, g⟩
theorem wAll_sub {ws : List Cond} (h : ws.all (fun w => decide (w ∈ lw_tbl) && goodWord w) = true) : ∀ w ∈ ws, w ∈ wAll := fun w hw => by
  have h1 := List.all_eq_true.mp h w hw
  simp only [Bool.and_eq_true, decide_eq_true_eq] at h1
  exact List.mem_filter.mpr ⟨h1.1, h1.2⟩
theorem gC {y : MethodName} {b : ByteArray} {n : Nat} {r : Option FieldType} (h5 : Cond.code y b n r ∈ wAll) : GoodIn wAll (Cond.code y b n r :: wAll) := fun w h => by
  have hw : w ∈ wAll := by
    rcases List.mem_cons.mp h with e | h
    · rw [e]; exact h5
    · exact h
  exact ⟨hw, good_of_word (wAll_good w hw)⟩
theorem gV {own : String} {idx : Nat} {C : String} {y : MethodName} {b : ByteArray} {n : Nat} {r : Option FieldType} (h1 : Cond.methodLink own idx y ∈ wAll) (h2 : Cond.instanceMethod y ∈ wAll) (h3 : Cond.selects C y y ∈ wAll) (h4 : Cond.initialized C ∈ wAll) (h5 : Cond.code y b n r ∈ wAll) : GoodIn wAll (wsV own idx C y (Cond.code y b n r :: wAll)) := fun w h => by
  rcases List.mem_append.mp h with h | h
  · have hw : w ∈ wAll := by
      simp only [List.mem_cons, List.not_mem_nil, or_false] at h
      rcases h with e | e | e | e <;> (rw [e]; assumption)
    exact ⟨hw, good_of_word (wAll_good w hw)⟩
  · exact gC h5 w h
theorem gS {own : String} {idx : Nat} {y : MethodName} {b : ByteArray} {n : Nat} {r : Option FieldType} (h1 : Cond.methodLink own idx y ∈ wAll) (h2 : Cond.static y ∈ wAll) (h4 : Cond.initialized y.cls ∈ wAll) (h5 : Cond.code y b n r ∈ wAll) : GoodIn wAll (va_wsS own idx y (Cond.code y b n r :: wAll)) := fun w h => by
  rcases List.mem_append.mp h with h | h
  · have hw : w ∈ wAll := by
      simp only [List.mem_cons, List.not_mem_nil, or_false] at h
      rcases h with e | e | e <;> (rw [e]; assumption)
    exact ⟨hw, good_of_word (wAll_good w hw)⟩
  · exact gC h5 w h
theorem inX0 : ∀ w ∈ wsX00, w ∈ wAll := wAll_sub (by decide +kernel)
theorem inX1 : ∀ w ∈ wsX10, w ∈ wAll := wAll_sub (by decide +kernel)
theorem inX2 : ∀ w ∈ wsX20, w ∈ wAll := wAll_sub (by decide +kernel)
theorem inX3 : ∀ w ∈ wsX30, w ∈ wAll := wAll_sub (by decide +kernel)
theorem inX4 : ∀ w ∈ wsX40, w ∈ wAll := wAll_sub (by decide +kernel)
theorem inX5 : ∀ w ∈ wsX50, w ∈ wAll := wAll_sub (by decide +kernel)
end
section
theorem dX0_init_0 : decode cX0_init 0 = .ok (.aload_n 0, 1) := by decide +kernel
theorem dX0_init_1 : decode cX0_init 1 = .ok (.invokespecial 3, 3) := by decide +kernel
theorem dX0_init_4 : decode cX0_init 4 = .ok (.aload_n 0, 1) := by decide +kernel
theorem dX0_init_5 : decode cX0_init 5 = .ok (.sipush 4096, 3) := by decide +kernel
theorem dX0_init_8 : decode cX0_init 8 = .ok (.newarray .long, 2) := by decide +kernel
theorem dX0_init_10 : decode cX0_init 10 = .ok (.putfield 11, 3) := by decide +kernel
theorem dX0_init_13 : decode cX0_init 13 = .ok (.aload_n 0, 1) := by decide +kernel
theorem dX0_init_14 : decode cX0_init 14 = .ok (.iconst 1, 1) := by decide +kernel
theorem dX0_init_15 : decode cX0_init 15 = .ok (.putfield 15, 3) := by decide +kernel
theorem dX0_init_18 : decode cX0_init 18 = .ok (.return_, 1) := by decide +kernel
theorem dX0_has_0 : decode cX0_has 0 = .ok (.aload_n 0, 1) := by decide +kernel
theorem dX0_has_1 : decode cX0_has 1 = .ok (.getfield 11, 3) := by decide +kernel
theorem dX0_has_4 : decode cX0_has 4 = .ok (.iload_n 1, 1) := by decide +kernel
theorem dX0_has_5 : decode cX0_has 5 = .ok (.iload_n 2, 1) := by decide +kernel
theorem dX0_has_6 : decode cX0_has 6 = .ok (.invokestatic 19, 3) := by decide +kernel
theorem dX0_has_9 : decode cX0_has 9 = .ok (.iload_n 3, 1) := by decide +kernel
theorem dX0_has_10 : decode cX0_has 10 = .ok (.bipush 6, 2) := by decide +kernel
theorem dX0_has_12 : decode cX0_has 12 = .ok (.ishr, 1) := by decide +kernel
theorem dX0_has_13 : decode cX0_has 13 = .ok (.iadd, 1) := by decide +kernel
theorem dX0_has_14 : decode cX0_has 14 = .ok (.invokestatic 23, 3) := by decide +kernel
theorem dX0_has_17 : decode cX0_has 17 = .ok (.lstore 4, 2) := by decide +kernel
theorem dX0_has_19 : decode cX0_has 19 = .ok (.lload 4, 2) := by decide +kernel
theorem dX0_has_21 : decode cX0_has 21 = .ok (.iload_n 3, 1) := by decide +kernel
theorem dX0_has_22 : decode cX0_has 22 = .ok (.bipush 63, 2) := by decide +kernel
theorem dX0_has_24 : decode cX0_has 24 = .ok (.iand, 1) := by decide +kernel
theorem dX0_has_25 : decode cX0_has 25 = .ok (.lshr, 1) := by decide +kernel
theorem dX0_has_26 : decode cX0_has 26 = .ok (.lconst 1, 1) := by decide +kernel
theorem dX0_has_27 : decode cX0_has 27 = .ok (.land, 1) := by decide +kernel
theorem dX0_has_28 : decode cX0_has 28 = .ok (.lconst 1, 1) := by decide +kernel
theorem dX0_has_29 : decode cX0_has 29 = .ok (.lcmp, 1) := by decide +kernel
theorem dX0_has_30 : decode cX0_has 30 = .ok (.ifCond .ne 7, 3) := by decide +kernel
theorem dX0_has_33 : decode cX0_has 33 = .ok (.iconst 1, 1) := by decide +kernel
theorem dX0_has_34 : decode cX0_has 34 = .ok (.goto 4, 3) := by decide +kernel
theorem dX0_has_37 : decode cX0_has 37 = .ok (.iconst 0, 1) := by decide +kernel
theorem dX0_has_38 : decode cX0_has 38 = .ok (.ireturn, 1) := by decide +kernel
theorem dX0_bringUpToDate_0 : decode cX0_bringUpToDate 0 = .ok (.aload_n 0, 1) := by decide +kernel
theorem dX0_bringUpToDate_1 : decode cX0_bringUpToDate 1 = .ok (.getfield 15, 3) := by decide +kernel
theorem dX0_bringUpToDate_4 : decode cX0_bringUpToDate 4 = .ok (.ifCond .ne 4, 3) := by decide +kernel
theorem dX0_bringUpToDate_7 : decode cX0_bringUpToDate 7 = .ok (.return_, 1) := by decide +kernel
theorem dX0_bringUpToDate_8 : decode cX0_bringUpToDate 8 = .ok (.aload_n 0, 1) := by decide +kernel
theorem dX0_bringUpToDate_9 : decode cX0_bringUpToDate 9 = .ok (.iconst 0, 1) := by decide +kernel
theorem dX0_bringUpToDate_10 : decode cX0_bringUpToDate 10 = .ok (.putfield 15, 3) := by decide +kernel
theorem dX0_bringUpToDate_13 : decode cX0_bringUpToDate 13 = .ok (.iconst 1, 1) := by decide +kernel
theorem dX0_bringUpToDate_14 : decode cX0_bringUpToDate 14 = .ok (.aload_n 1, 1) := by decide +kernel
theorem dX0_bringUpToDate_15 : decode cX0_bringUpToDate 15 = .ok (.getfield 27, 3) := by decide +kernel
theorem dX0_bringUpToDate_18 : decode cX0_bringUpToDate 18 = .ok (.ishl, 1) := by decide +kernel
theorem dX0_bringUpToDate_19 : decode cX0_bringUpToDate 19 = .ok (.istore_n 2, 1) := by decide +kernel
theorem dX0_bringUpToDate_20 : decode cX0_bringUpToDate 20 = .ok (.iconst 0, 1) := by decide +kernel
theorem dX0_bringUpToDate_21 : decode cX0_bringUpToDate 21 = .ok (.istore_n 3, 1) := by decide +kernel
theorem dX0_bringUpToDate_22 : decode cX0_bringUpToDate 22 = .ok (.iload_n 3, 1) := by decide +kernel
theorem dX0_bringUpToDate_23 : decode cX0_bringUpToDate 23 = .ok (.iload_n 2, 1) := by decide +kernel
theorem dX0_bringUpToDate_24 : decode cX0_bringUpToDate 24 = .ok (.if_icmp .ge 15, 3) := by decide +kernel
theorem dX0_bringUpToDate_27 : decode cX0_bringUpToDate 27 = .ok (.aload_n 0, 1) := by decide +kernel
theorem dX0_bringUpToDate_28 : decode cX0_bringUpToDate 28 = .ok (.aload_n 1, 1) := by decide +kernel
theorem dX0_bringUpToDate_29 : decode cX0_bringUpToDate 29 = .ok (.iload_n 3, 1) := by decide +kernel
theorem dX0_bringUpToDate_30 : decode cX0_bringUpToDate 30 = .ok (.invokevirtual 33, 3) := by decide +kernel
theorem dX0_bringUpToDate_33 : decode cX0_bringUpToDate 33 = .ok (.iinc 3 1, 3) := by decide +kernel
theorem dX0_bringUpToDate_36 : decode cX0_bringUpToDate 36 = .ok (.goto (-14), 3) := by decide +kernel
theorem dX0_bringUpToDate_39 : decode cX0_bringUpToDate 39 = .ok (.aload_n 1, 1) := by decide +kernel
theorem dX0_bringUpToDate_40 : decode cX0_bringUpToDate 40 = .ok (.getfield 27, 3) := by decide +kernel
theorem dX0_bringUpToDate_43 : decode cX0_bringUpToDate 43 = .ok (.iconst 1, 1) := by decide +kernel
theorem dX0_bringUpToDate_44 : decode cX0_bringUpToDate 44 = .ok (.isub, 1) := by decide +kernel
theorem dX0_bringUpToDate_45 : decode cX0_bringUpToDate 45 = .ok (.istore_n 3, 1) := by decide +kernel
theorem dX0_bringUpToDate_46 : decode cX0_bringUpToDate 46 = .ok (.iload_n 3, 1) := by decide +kernel
theorem dX0_bringUpToDate_47 : decode cX0_bringUpToDate 47 = .ok (.ifCond .lt 51, 3) := by decide +kernel
theorem dX0_bringUpToDate_50 : decode cX0_bringUpToDate 50 = .ok (.aload_n 1, 1) := by decide +kernel
theorem dX0_bringUpToDate_51 : decode cX0_bringUpToDate 51 = .ok (.iload_n 3, 1) := by decide +kernel
theorem dX0_bringUpToDate_52 : decode cX0_bringUpToDate 52 = .ok (.invokevirtual 37, 3) := by decide +kernel
theorem dX0_bringUpToDate_55 : decode cX0_bringUpToDate 55 = .ok (.iconst 1, 1) := by decide +kernel
theorem dX0_bringUpToDate_56 : decode cX0_bringUpToDate 56 = .ok (.if_icmp .ne 7, 3) := by decide +kernel
theorem dX0_bringUpToDate_59 : decode cX0_bringUpToDate 59 = .ok (.iconst 1, 1) := by decide +kernel
theorem dX0_bringUpToDate_60 : decode cX0_bringUpToDate 60 = .ok (.goto 4, 3) := by decide +kernel
theorem dX0_bringUpToDate_63 : decode cX0_bringUpToDate 63 = .ok (.iconst 0, 1) := by decide +kernel
theorem dX0_bringUpToDate_64 : decode cX0_bringUpToDate 64 = .ok (.istore 4, 2) := by decide +kernel
theorem dX0_bringUpToDate_66 : decode cX0_bringUpToDate 66 = .ok (.iconst 0, 1) := by decide +kernel
theorem dX0_bringUpToDate_67 : decode cX0_bringUpToDate 67 = .ok (.istore 5, 2) := by decide +kernel
theorem dX0_bringUpToDate_69 : decode cX0_bringUpToDate 69 = .ok (.iload 5, 2) := by decide +kernel
theorem dX0_bringUpToDate_71 : decode cX0_bringUpToDate 71 = .ok (.iconst 1, 1) := by decide +kernel
theorem dX0_bringUpToDate_72 : decode cX0_bringUpToDate 72 = .ok (.iload_n 3, 1) := by decide +kernel
theorem dX0_bringUpToDate_73 : decode cX0_bringUpToDate 73 = .ok (.ishl, 1) := by decide +kernel
theorem dX0_bringUpToDate_74 : decode cX0_bringUpToDate 74 = .ok (.if_icmp .ge 18, 3) := by decide +kernel
theorem dX0_bringUpToDate_77 : decode cX0_bringUpToDate 77 = .ok (.aload_n 0, 1) := by decide +kernel
theorem dX0_bringUpToDate_78 : decode cX0_bringUpToDate 78 = .ok (.iload_n 3, 1) := by decide +kernel
theorem dX0_bringUpToDate_79 : decode cX0_bringUpToDate 79 = .ok (.iload 5, 2) := by decide +kernel
theorem dX0_bringUpToDate_81 : decode cX0_bringUpToDate 81 = .ok (.iload 4, 2) := by decide +kernel
theorem dX0_bringUpToDate_83 : decode cX0_bringUpToDate 83 = .ok (.invokevirtual 41, 3) := by decide +kernel
theorem dX0_bringUpToDate_86 : decode cX0_bringUpToDate 86 = .ok (.iinc 5 1, 3) := by decide +kernel
theorem dX0_bringUpToDate_89 : decode cX0_bringUpToDate 89 = .ok (.goto (-20), 3) := by decide +kernel
theorem dX0_bringUpToDate_92 : decode cX0_bringUpToDate 92 = .ok (.iinc 3 (-1), 3) := by decide +kernel
theorem dX0_bringUpToDate_95 : decode cX0_bringUpToDate 95 = .ok (.goto (-49), 3) := by decide +kernel
theorem dX0_bringUpToDate_98 : decode cX0_bringUpToDate 98 = .ok (.return_, 1) := by decide +kernel
theorem dX0_setEnd_0 : decode cX0_setEnd 0 = .ok (.aload_n 1, 1) := by decide +kernel
theorem dX0_setEnd_1 : decode cX0_setEnd 1 = .ok (.getfield 27, 3) := by decide +kernel
theorem dX0_setEnd_4 : decode cX0_setEnd 4 = .ok (.iload_n 2, 1) := by decide +kernel
theorem dX0_setEnd_5 : decode cX0_setEnd 5 = .ok (.invokestatic 19, 3) := by decide +kernel
theorem dX0_setEnd_8 : decode cX0_setEnd 8 = .ok (.istore_n 3, 1) := by decide +kernel
theorem dX0_setEnd_9 : decode cX0_setEnd 9 = .ok (.aload_n 1, 1) := by decide +kernel
theorem dX0_setEnd_10 : decode cX0_setEnd 10 = .ok (.iload_n 2, 1) := by decide +kernel
theorem dX0_setEnd_11 : decode cX0_setEnd 11 = .ok (.invokevirtual 45, 3) := by decide +kernel
theorem dX0_setEnd_14 : decode cX0_setEnd 14 = .ok (.istore 4, 2) := by decide +kernel
theorem dX0_setEnd_16 : decode cX0_setEnd 16 = .ok (.aload_n 1, 1) := by decide +kernel
theorem dX0_setEnd_17 : decode cX0_setEnd 17 = .ok (.iload_n 2, 1) := by decide +kernel
theorem dX0_setEnd_18 : decode cX0_setEnd 18 = .ok (.invokevirtual 49, 3) := by decide +kernel
theorem dX0_setEnd_21 : decode cX0_setEnd 21 = .ok (.istore 5, 2) := by decide +kernel
theorem dX0_setEnd_23 : decode cX0_setEnd 23 = .ok (.iconst 0, 1) := by decide +kernel
theorem dX0_setEnd_24 : decode cX0_setEnd 24 = .ok (.istore 6, 2) := by decide +kernel
theorem dX0_setEnd_26 : decode cX0_setEnd 26 = .ok (.iload 6, 2) := by decide +kernel
theorem dX0_setEnd_28 : decode cX0_setEnd 28 = .ok (.iconst 4, 1) := by decide +kernel
theorem dX0_setEnd_29 : decode cX0_setEnd 29 = .ok (.if_icmp .ge 38, 3) := by decide +kernel
theorem dX0_setEnd_32 : decode cX0_setEnd 32 = .ok (.aload_n 0, 1) := by decide +kernel
theorem dX0_setEnd_33 : decode cX0_setEnd 33 = .ok (.getfield 11, 3) := by decide +kernel
theorem dX0_setEnd_36 : decode cX0_setEnd 36 = .ok (.iload_n 3, 1) := by decide +kernel
theorem dX0_setEnd_37 : decode cX0_setEnd 37 = .ok (.iload 6, 2) := by decide +kernel
theorem dX0_setEnd_39 : decode cX0_setEnd 39 = .ok (.iadd, 1) := by decide +kernel
theorem dX0_setEnd_40 : decode cX0_setEnd 40 = .ok (.iload 4, 2) := by decide +kernel
theorem dX0_setEnd_42 : decode cX0_setEnd 42 = .ok (.ifCond .eq 9, 3) := by decide +kernel
theorem dX0_setEnd_45 : decode cX0_setEnd 45 = .ok (.ldc2_w 52, 3) := by decide +kernel
theorem dX0_setEnd_48 : decode cX0_setEnd 48 = .ok (.goto 10, 3) := by decide +kernel
theorem dX0_setEnd_51 : decode cX0_setEnd 51 = .ok (.iload 5, 2) := by decide +kernel
theorem dX0_setEnd_53 : decode cX0_setEnd 53 = .ok (.iload 6, 2) := by decide +kernel
theorem dX0_setEnd_55 : decode cX0_setEnd 55 = .ok (.invokestatic 54, 3) := by decide +kernel
theorem dX0_setEnd_58 : decode cX0_setEnd 58 = .ok (.invokestatic 58, 3) := by decide +kernel
theorem dX0_setEnd_61 : decode cX0_setEnd 61 = .ok (.iinc 6 1, 3) := by decide +kernel
theorem dX0_setEnd_64 : decode cX0_setEnd 64 = .ok (.goto (-38), 3) := by decide +kernel
theorem dX0_setEnd_67 : decode cX0_setEnd 67 = .ok (.return_, 1) := by decide +kernel
theorem dX0_join_0 : decode cX0_join 0 = .ok (.iload_n 1, 1) := by decide +kernel
theorem dX0_join_1 : decode cX0_join 1 = .ok (.iload_n 2, 1) := by decide +kernel
theorem dX0_join_2 : decode cX0_join 2 = .ok (.invokestatic 19, 3) := by decide +kernel
theorem dX0_join_5 : decode cX0_join 5 = .ok (.istore 4, 2) := by decide +kernel
theorem dX0_join_7 : decode cX0_join 7 = .ok (.iload_n 1, 1) := by decide +kernel
theorem dX0_join_8 : decode cX0_join 8 = .ok (.iconst 1, 1) := by decide +kernel
theorem dX0_join_9 : decode cX0_join 9 = .ok (.iadd, 1) := by decide +kernel
theorem dX0_join_10 : decode cX0_join 10 = .ok (.iload_n 2, 1) := by decide +kernel
theorem dX0_join_11 : decode cX0_join 11 = .ok (.invokestatic 19, 3) := by decide +kernel
theorem dX0_join_14 : decode cX0_join 14 = .ok (.istore 5, 2) := by decide +kernel
theorem dX0_join_16 : decode cX0_join 16 = .ok (.iload_n 1, 1) := by decide +kernel
theorem dX0_join_17 : decode cX0_join 17 = .ok (.iconst 1, 1) := by decide +kernel
theorem dX0_join_18 : decode cX0_join 18 = .ok (.iadd, 1) := by decide +kernel
theorem dX0_join_19 : decode cX0_join 19 = .ok (.iload_n 2, 1) := by decide +kernel
theorem dX0_join_20 : decode cX0_join 20 = .ok (.iconst 1, 1) := by decide +kernel
theorem dX0_join_21 : decode cX0_join 21 = .ok (.iload_n 1, 1) := by decide +kernel
theorem dX0_join_22 : decode cX0_join 22 = .ok (.ishl, 1) := by decide +kernel
theorem dX0_join_23 : decode cX0_join 23 = .ok (.ior, 1) := by decide +kernel
theorem dX0_join_24 : decode cX0_join 24 = .ok (.invokestatic 19, 3) := by decide +kernel
theorem dX0_join_27 : decode cX0_join 27 = .ok (.istore 6, 2) := by decide +kernel
theorem dX0_join_29 : decode cX0_join 29 = .ok (.iconst 0, 1) := by decide +kernel
theorem dX0_join_30 : decode cX0_join 30 = .ok (.istore 7, 2) := by decide +kernel
theorem dX0_join_32 : decode cX0_join 32 = .ok (.iload 7, 2) := by decide +kernel
theorem dX0_join_34 : decode cX0_join 34 = .ok (.iconst 4, 1) := by decide +kernel
theorem dX0_join_35 : decode cX0_join 35 = .ok (.if_icmp .ge 66, 3) := by decide +kernel
theorem dX0_join_38 : decode cX0_join 38 = .ok (.aload_n 0, 1) := by decide +kernel
theorem dX0_join_39 : decode cX0_join 39 = .ok (.getfield 11, 3) := by decide +kernel
theorem dX0_join_42 : decode cX0_join 42 = .ok (.iload 5, 2) := by decide +kernel
theorem dX0_join_44 : decode cX0_join 44 = .ok (.iload 7, 2) := by decide +kernel
theorem dX0_join_46 : decode cX0_join 46 = .ok (.iadd, 1) := by decide +kernel
theorem dX0_join_47 : decode cX0_join 47 = .ok (.invokestatic 23, 3) := by decide +kernel
theorem dX0_join_50 : decode cX0_join 50 = .ok (.lstore 8, 2) := by decide +kernel
theorem dX0_join_52 : decode cX0_join 52 = .ok (.aload_n 0, 1) := by decide +kernel
theorem dX0_join_53 : decode cX0_join 53 = .ok (.getfield 11, 3) := by decide +kernel
theorem dX0_join_56 : decode cX0_join 56 = .ok (.iload 6, 2) := by decide +kernel
theorem dX0_join_58 : decode cX0_join 58 = .ok (.iload 7, 2) := by decide +kernel
theorem dX0_join_60 : decode cX0_join 60 = .ok (.iadd, 1) := by decide +kernel
theorem dX0_join_61 : decode cX0_join 61 = .ok (.invokestatic 23, 3) := by decide +kernel
theorem dX0_join_64 : decode cX0_join 64 = .ok (.lstore 10, 2) := by decide +kernel
theorem dX0_join_66 : decode cX0_join 66 = .ok (.aload_n 0, 1) := by decide +kernel
theorem dX0_join_67 : decode cX0_join 67 = .ok (.getfield 11, 3) := by decide +kernel
theorem dX0_join_70 : decode cX0_join 70 = .ok (.iload 4, 2) := by decide +kernel
theorem dX0_join_72 : decode cX0_join 72 = .ok (.iload 7, 2) := by decide +kernel
theorem dX0_join_74 : decode cX0_join 74 = .ok (.iadd, 1) := by decide +kernel
theorem dX0_join_75 : decode cX0_join 75 = .ok (.iload_n 3, 1) := by decide +kernel
theorem dX0_join_76 : decode cX0_join 76 = .ok (.ifCond .eq 11, 3) := by decide +kernel
theorem dX0_join_79 : decode cX0_join 79 = .ok (.lload 8, 2) := by decide +kernel
theorem dX0_join_81 : decode cX0_join 81 = .ok (.lload 10, 2) := by decide +kernel
theorem dX0_join_83 : decode cX0_join 83 = .ok (.land, 1) := by decide +kernel
theorem dX0_join_84 : decode cX0_join 84 = .ok (.goto 8, 3) := by decide +kernel
theorem dX0_join_87 : decode cX0_join 87 = .ok (.lload 8, 2) := by decide +kernel
theorem dX0_join_89 : decode cX0_join 89 = .ok (.lload 10, 2) := by decide +kernel
theorem dX0_join_91 : decode cX0_join 91 = .ok (.lor, 1) := by decide +kernel
theorem dX0_join_92 : decode cX0_join 92 = .ok (.invokestatic 58, 3) := by decide +kernel
theorem dX0_join_95 : decode cX0_join 95 = .ok (.iinc 7 1, 3) := by decide +kernel
theorem dX0_join_98 : decode cX0_join 98 = .ok (.goto (-66), 3) := by decide +kernel
theorem dX0_join_101 : decode cX0_join 101 = .ok (.return_, 1) := by decide +kernel
theorem dX0_wordOf_0 : decode cX0_wordOf 0 = .ok (.iconst 1, 1) := by decide +kernel
theorem dX0_wordOf_1 : decode cX0_wordOf 1 = .ok (.iload_n 0, 1) := by decide +kernel
theorem dX0_wordOf_2 : decode cX0_wordOf 2 = .ok (.ishl, 1) := by decide +kernel
theorem dX0_wordOf_3 : decode cX0_wordOf 3 = .ok (.iload_n 1, 1) := by decide +kernel
theorem dX0_wordOf_4 : decode cX0_wordOf 4 = .ok (.iadd, 1) := by decide +kernel
theorem dX0_wordOf_5 : decode cX0_wordOf 5 = .ok (.iconst 4, 1) := by decide +kernel
theorem dX0_wordOf_6 : decode cX0_wordOf 6 = .ok (.imul, 1) := by decide +kernel
theorem dX0_wordOf_7 : decode cX0_wordOf 7 = .ok (.ireturn, 1) := by decide +kernel
theorem dX0_setsWithout_0 : decode cX0_setsWithout 0 = .ok (.iload_n 0, 1) := by decide +kernel
theorem dX0_setsWithout_1 : decode cX0_setsWithout 1 = .ok (.getstatic 62, 3) := by decide +kernel
theorem dX0_setsWithout_4 : decode cX0_setsWithout 4 = .ok (.arraylength, 1) := by decide +kernel
theorem dX0_setsWithout_5 : decode cX0_setsWithout 5 = .ok (.if_icmp .ge 11, 3) := by decide +kernel
theorem dX0_setsWithout_8 : decode cX0_setsWithout 8 = .ok (.getstatic 62, 3) := by decide +kernel
theorem dX0_setsWithout_11 : decode cX0_setsWithout 11 = .ok (.iload_n 0, 1) := by decide +kernel
theorem dX0_setsWithout_12 : decode cX0_setsWithout 12 = .ok (.invokestatic 23, 3) := by decide +kernel
theorem dX0_setsWithout_15 : decode cX0_setsWithout 15 = .ok (.lreturn, 1) := by decide +kernel
theorem dX0_setsWithout_16 : decode cX0_setsWithout 16 = .ok (.iload_n 1, 1) := by decide +kernel
theorem dX0_setsWithout_17 : decode cX0_setsWithout 17 = .ok (.iload_n 0, 1) := by decide +kernel
theorem dX0_setsWithout_18 : decode cX0_setsWithout 18 = .ok (.getstatic 62, 3) := by decide +kernel
theorem dX0_setsWithout_21 : decode cX0_setsWithout 21 = .ok (.arraylength, 1) := by decide +kernel
theorem dX0_setsWithout_22 : decode cX0_setsWithout 22 = .ok (.isub, 1) := by decide +kernel
theorem dX0_setsWithout_23 : decode cX0_setsWithout 23 = .ok (.invokestatic 65, 3) := by decide +kernel
theorem dX0_setsWithout_26 : decode cX0_setsWithout 26 = .ok (.ifCond .ne 9, 3) := by decide +kernel
theorem dX0_setsWithout_29 : decode cX0_setsWithout 29 = .ok (.ldc2_w 52, 3) := by decide +kernel
theorem dX0_setsWithout_32 : decode cX0_setsWithout 32 = .ok (.goto 4, 3) := by decide +kernel
theorem dX0_setsWithout_35 : decode cX0_setsWithout 35 = .ok (.lconst 0, 1) := by decide +kernel
theorem dX0_setsWithout_36 : decode cX0_setsWithout 36 = .ok (.lreturn, 1) := by decide +kernel
theorem dX1_init_0 : decode cX1_init 0 = .ok (.aload_n 0, 1) := by decide +kernel
theorem dX1_init_1 : decode cX1_init 1 = .ok (.invokespecial 3, 3) := by decide +kernel
theorem dX1_init_4 : decode cX1_init 4 = .ok (.aload_n 0, 1) := by decide +kernel
theorem dX1_init_5 : decode cX1_init 5 = .ok (.bipush 100, 2) := by decide +kernel
theorem dX1_init_7 : decode cX1_init 7 = .ok (.newarray .int, 2) := by decide +kernel
theorem dX1_init_9 : decode cX1_init 9 = .ok (.putfield 9, 3) := by decide +kernel
theorem dX1_init_12 : decode cX1_init 12 = .ok (.aload_n 0, 1) := by decide +kernel
theorem dX1_init_13 : decode cX1_init 13 = .ok (.iconst (-1), 1) := by decide +kernel
theorem dX1_init_14 : decode cX1_init 14 = .ok (.putfield 15, 3) := by decide +kernel
theorem dX1_init_17 : decode cX1_init 17 = .ok (.return_, 1) := by decide +kernel
theorem dX1_put_0 : decode cX1_put 0 = .ok (.aload_n 0, 1) := by decide +kernel
theorem dX1_put_1 : decode cX1_put 1 = .ok (.getfield 9, 3) := by decide +kernel
theorem dX1_put_4 : decode cX1_put 4 = .ok (.aload_n 0, 1) := by decide +kernel
theorem dX1_put_5 : decode cX1_put 5 = .ok (.getfield 19, 3) := by decide +kernel
theorem dX1_put_8 : decode cX1_put 8 = .ok (.iload_n 1, 1) := by decide +kernel
theorem dX1_put_9 : decode cX1_put 9 = .ok (.invokestatic 22, 3) := by decide +kernel
theorem dX1_put_12 : decode cX1_put 12 = .ok (.aload_n 0, 1) := by decide +kernel
theorem dX1_put_13 : decode cX1_put 13 = .ok (.dup, 1) := by decide +kernel
theorem dX1_put_14 : decode cX1_put 14 = .ok (.getfield 19, 3) := by decide +kernel
theorem dX1_put_17 : decode cX1_put 17 = .ok (.iconst 1, 1) := by decide +kernel
theorem dX1_put_18 : decode cX1_put 18 = .ok (.iadd, 1) := by decide +kernel
theorem dX1_put_19 : decode cX1_put 19 = .ok (.putfield 19, 3) := by decide +kernel
theorem dX1_put_22 : decode cX1_put 22 = .ok (.return_, 1) := by decide +kernel
theorem dX1_rewind_0 : decode cX1_rewind 0 = .ok (.aload_n 0, 1) := by decide +kernel
theorem dX1_rewind_1 : decode cX1_rewind 1 = .ok (.iconst 0, 1) := by decide +kernel
theorem dX1_rewind_2 : decode cX1_rewind 2 = .ok (.putfield 26, 3) := by decide +kernel
theorem dX1_rewind_5 : decode cX1_rewind 5 = .ok (.aload_n 0, 1) := by decide +kernel
theorem dX1_rewind_6 : decode cX1_rewind 6 = .ok (.iconst (-1), 1) := by decide +kernel
theorem dX1_rewind_7 : decode cX1_rewind 7 = .ok (.putfield 15, 3) := by decide +kernel
theorem dX1_rewind_10 : decode cX1_rewind 10 = .ok (.return_, 1) := by decide +kernel
theorem dX1_syntaxError_0 : decode cX1_syntaxError 0 = .ok (.aload_n 0, 1) := by decide +kernel
theorem dX1_syntaxError_1 : decode cX1_syntaxError 1 = .ok (.invokevirtual 29, 3) := by decide +kernel
theorem dX1_syntaxError_4 : decode cX1_syntaxError 4 = .ok (.iconst 0, 1) := by decide +kernel
theorem dX1_syntaxError_5 : decode cX1_syntaxError 5 = .ok (.istore_n 1, 1) := by decide +kernel
theorem dX1_syntaxError_6 : decode cX1_syntaxError 6 = .ok (.iload_n 1, 1) := by decide +kernel
theorem dX1_syntaxError_7 : decode cX1_syntaxError 7 = .ok (.bipush 50, 2) := by decide +kernel
theorem dX1_syntaxError_9 : decode cX1_syntaxError 9 = .ok (.if_icmp .ge 16, 3) := by decide +kernel
theorem dX1_syntaxError_12 : decode cX1_syntaxError 12 = .ok (.aload_n 0, 1) := by decide +kernel
theorem dX1_syntaxError_13 : decode cX1_syntaxError 13 = .ok (.invokevirtual 32, 3) := by decide +kernel
theorem dX1_syntaxError_16 : decode cX1_syntaxError 16 = .ok (.ifCond .eq 9, 3) := by decide +kernel
theorem dX1_syntaxError_19 : decode cX1_syntaxError 19 = .ok (.iinc 1 1, 3) := by decide +kernel
theorem dX1_syntaxError_22 : decode cX1_syntaxError 22 = .ok (.goto (-16), 3) := by decide +kernel
theorem dX1_syntaxError_25 : decode cX1_syntaxError 25 = .ok (.aload_n 0, 1) := by decide +kernel
theorem dX1_syntaxError_26 : decode cX1_syntaxError 26 = .ok (.getfield 15, 3) := by decide +kernel
theorem dX1_syntaxError_29 : decode cX1_syntaxError 29 = .ok (.ireturn, 1) := by decide +kernel
theorem dX1_readOrder_0 : decode cX1_readOrder 0 = .ok (.aload_n 0, 1) := by decide +kernel
theorem dX1_readOrder_1 : decode cX1_readOrder 1 = .ok (.getfield 26, 3) := by decide +kernel
theorem dX1_readOrder_4 : decode cX1_readOrder 4 = .ok (.aload_n 0, 1) := by decide +kernel
theorem dX1_readOrder_5 : decode cX1_readOrder 5 = .ok (.getfield 19, 3) := by decide +kernel
theorem dX1_readOrder_8 : decode cX1_readOrder 8 = .ok (.if_icmp .lt 5, 3) := by decide +kernel
theorem dX1_readOrder_11 : decode cX1_readOrder 11 = .ok (.iconst 0, 1) := by decide +kernel
theorem dX1_readOrder_12 : decode cX1_readOrder 12 = .ok (.ireturn, 1) := by decide +kernel
theorem dX1_readOrder_13 : decode cX1_readOrder 13 = .ok (.aload_n 0, 1) := by decide +kernel
theorem dX1_readOrder_14 : decode cX1_readOrder 14 = .ok (.aload_n 0, 1) := by decide +kernel
theorem dX1_readOrder_15 : decode cX1_readOrder 15 = .ok (.aload_n 0, 1) := by decide +kernel
theorem dX1_readOrder_16 : decode cX1_readOrder 16 = .ok (.getfield 26, 3) := by decide +kernel
theorem dX1_readOrder_19 : decode cX1_readOrder 19 = .ok (.invokevirtual 36, 3) := by decide +kernel
theorem dX1_readOrder_22 : decode cX1_readOrder 22 = .ok (.putfield 40, 3) := by decide +kernel
theorem dX1_readOrder_25 : decode cX1_readOrder 25 = .ok (.aload_n 0, 1) := by decide +kernel
theorem dX1_readOrder_26 : decode cX1_readOrder 26 = .ok (.getfield 40, 3) := by decide +kernel
theorem dX1_readOrder_29 : decode cX1_readOrder 29 = .ok (.bipush 101, 2) := by decide +kernel
theorem dX1_readOrder_31 : decode cX1_readOrder 31 = .ok (.if_icmp .eq 39, 3) := by decide +kernel
theorem dX1_readOrder_34 : decode cX1_readOrder 34 = .ok (.aload_n 0, 1) := by decide +kernel
theorem dX1_readOrder_35 : decode cX1_readOrder 35 = .ok (.getfield 40, 3) := by decide +kernel
theorem dX1_readOrder_38 : decode cX1_readOrder 38 = .ok (.bipush 117, 2) := by decide +kernel
theorem dX1_readOrder_40 : decode cX1_readOrder 40 = .ok (.if_icmp .eq 30, 3) := by decide +kernel
theorem dX1_readOrder_43 : decode cX1_readOrder 43 = .ok (.aload_n 0, 1) := by decide +kernel
theorem dX1_readOrder_44 : decode cX1_readOrder 44 = .ok (.getfield 40, 3) := by decide +kernel
theorem dX1_readOrder_47 : decode cX1_readOrder 47 = .ok (.bipush 99, 2) := by decide +kernel
theorem dX1_readOrder_49 : decode cX1_readOrder 49 = .ok (.if_icmp .eq 21, 3) := by decide +kernel
theorem dX1_readOrder_52 : decode cX1_readOrder 52 = .ok (.aload_n 0, 1) := by decide +kernel
theorem dX1_readOrder_53 : decode cX1_readOrder 53 = .ok (.getfield 40, 3) := by decide +kernel
theorem dX1_readOrder_56 : decode cX1_readOrder 56 = .ok (.bipush 108, 2) := by decide +kernel
theorem dX1_readOrder_58 : decode cX1_readOrder 58 = .ok (.if_icmp .eq 12, 3) := by decide +kernel
theorem dX1_readOrder_61 : decode cX1_readOrder 61 = .ok (.aload_n 0, 1) := by decide +kernel
theorem dX1_readOrder_62 : decode cX1_readOrder 62 = .ok (.getfield 40, 3) := by decide +kernel
theorem dX1_readOrder_65 : decode cX1_readOrder 65 = .ok (.bipush 114, 2) := by decide +kernel
theorem dX1_readOrder_67 : decode cX1_readOrder 67 = .ok (.if_icmp .ne 7, 3) := by decide +kernel
theorem dX1_readOrder_70 : decode cX1_readOrder 70 = .ok (.iconst 1, 1) := by decide +kernel
theorem dX1_readOrder_71 : decode cX1_readOrder 71 = .ok (.goto 4, 3) := by decide +kernel
theorem dX1_readOrder_74 : decode cX1_readOrder 74 = .ok (.iconst 0, 1) := by decide +kernel
theorem dX1_readOrder_75 : decode cX1_readOrder 75 = .ok (.istore_n 1, 1) := by decide +kernel
theorem dX1_readOrder_76 : decode cX1_readOrder 76 = .ok (.iload_n 1, 1) := by decide +kernel
theorem dX1_readOrder_77 : decode cX1_readOrder 77 = .ok (.ifCond .ne 12, 3) := by decide +kernel
theorem dX1_readOrder_80 : decode cX1_readOrder 80 = .ok (.aload_n 0, 1) := by decide +kernel
theorem dX1_readOrder_81 : decode cX1_readOrder 81 = .ok (.aload_n 0, 1) := by decide +kernel
theorem dX1_readOrder_82 : decode cX1_readOrder 82 = .ok (.getfield 26, 3) := by decide +kernel
theorem dX1_readOrder_85 : decode cX1_readOrder 85 = .ok (.invokevirtual 43, 3) := by decide +kernel
theorem dX1_readOrder_88 : decode cX1_readOrder 88 = .ok (.ireturn, 1) := by decide +kernel
theorem dX1_readOrder_89 : decode cX1_readOrder 89 = .ok (.aload_n 0, 1) := by decide +kernel
theorem dX1_readOrder_90 : decode cX1_readOrder 90 = .ok (.dup, 1) := by decide +kernel
theorem dX1_readOrder_91 : decode cX1_readOrder 91 = .ok (.getfield 26, 3) := by decide +kernel
theorem dX1_readOrder_94 : decode cX1_readOrder 94 = .ok (.iconst 1, 1) := by decide +kernel
theorem dX1_readOrder_95 : decode cX1_readOrder 95 = .ok (.iadd, 1) := by decide +kernel
theorem dX1_readOrder_96 : decode cX1_readOrder 96 = .ok (.putfield 26, 3) := by decide +kernel
theorem dX1_readOrder_99 : decode cX1_readOrder 99 = .ok (.aload_n 0, 1) := by decide +kernel
theorem dX1_readOrder_100 : decode cX1_readOrder 100 = .ok (.getfield 40, 3) := by decide +kernel
theorem dX1_readOrder_103 : decode cX1_readOrder 103 = .ok (.bipush 99, 2) := by decide +kernel
theorem dX1_readOrder_105 : decode cX1_readOrder 105 = .ok (.if_icmp .ne 12, 3) := by decide +kernel
theorem dX1_readOrder_108 : decode cX1_readOrder 108 = .ok (.aload_n 0, 1) := by decide +kernel
theorem dX1_readOrder_109 : decode cX1_readOrder 109 = .ok (.invokevirtual 47, 3) := by decide +kernel
theorem dX1_readOrder_112 : decode cX1_readOrder 112 = .ok (.ifCond .ne 5, 3) := by decide +kernel
theorem dX1_readOrder_115 : decode cX1_readOrder 115 = .ok (.iconst 0, 1) := by decide +kernel
theorem dX1_readOrder_116 : decode cX1_readOrder 116 = .ok (.ireturn, 1) := by decide +kernel
theorem dX1_readOrder_117 : decode cX1_readOrder 117 = .ok (.aload_n 0, 1) := by decide +kernel
theorem dX1_readOrder_118 : decode cX1_readOrder 118 = .ok (.getfield 40, 3) := by decide +kernel
theorem dX1_readOrder_121 : decode cX1_readOrder 121 = .ok (.bipush 108, 2) := by decide +kernel
theorem dX1_readOrder_123 : decode cX1_readOrder 123 = .ok (.if_icmp .ne 12, 3) := by decide +kernel
theorem dX1_readOrder_126 : decode cX1_readOrder 126 = .ok (.aload_n 0, 1) := by decide +kernel
theorem dX1_readOrder_127 : decode cX1_readOrder 127 = .ok (.invokevirtual 50, 3) := by decide +kernel
theorem dX1_readOrder_130 : decode cX1_readOrder 130 = .ok (.ifCond .ne 5, 3) := by decide +kernel
theorem dX1_readOrder_133 : decode cX1_readOrder 133 = .ok (.iconst 0, 1) := by decide +kernel
theorem dX1_readOrder_134 : decode cX1_readOrder 134 = .ok (.ireturn, 1) := by decide +kernel
theorem dX1_readOrder_135 : decode cX1_readOrder 135 = .ok (.aload_n 0, 1) := by decide +kernel
theorem dX1_readOrder_136 : decode cX1_readOrder 136 = .ok (.aload_n 0, 1) := by decide +kernel
theorem dX1_readOrder_137 : decode cX1_readOrder 137 = .ok (.getfield 26, 3) := by decide +kernel
theorem dX1_readOrder_140 : decode cX1_readOrder 140 = .ok (.invokevirtual 36, 3) := by decide +kernel
theorem dX1_readOrder_143 : decode cX1_readOrder 143 = .ok (.bipush 59, 2) := by decide +kernel
theorem dX1_readOrder_145 : decode cX1_readOrder 145 = .ok (.if_icmp .eq 12, 3) := by decide +kernel
theorem dX1_readOrder_148 : decode cX1_readOrder 148 = .ok (.aload_n 0, 1) := by decide +kernel
theorem dX1_readOrder_149 : decode cX1_readOrder 149 = .ok (.aload_n 0, 1) := by decide +kernel
theorem dX1_readOrder_150 : decode cX1_readOrder 150 = .ok (.getfield 26, 3) := by decide +kernel
theorem dX1_readOrder_153 : decode cX1_readOrder 153 = .ok (.invokevirtual 43, 3) := by decide +kernel
theorem dX1_readOrder_156 : decode cX1_readOrder 156 = .ok (.ireturn, 1) := by decide +kernel
theorem dX1_readOrder_157 : decode cX1_readOrder 157 = .ok (.aload_n 0, 1) := by decide +kernel
theorem dX1_readOrder_158 : decode cX1_readOrder 158 = .ok (.dup, 1) := by decide +kernel
theorem dX1_readOrder_159 : decode cX1_readOrder 159 = .ok (.getfield 26, 3) := by decide +kernel
theorem dX1_readOrder_162 : decode cX1_readOrder 162 = .ok (.iconst 1, 1) := by decide +kernel
theorem dX1_readOrder_163 : decode cX1_readOrder 163 = .ok (.iadd, 1) := by decide +kernel
theorem dX1_readOrder_164 : decode cX1_readOrder 164 = .ok (.putfield 26, 3) := by decide +kernel
theorem dX1_readOrder_167 : decode cX1_readOrder 167 = .ok (.iconst 1, 1) := by decide +kernel
theorem dX1_readOrder_168 : decode cX1_readOrder 168 = .ok (.ireturn, 1) := by decide +kernel
theorem dX1_readLiterals_0 : decode cX1_readLiterals 0 = .ok (.aload_n 0, 1) := by decide +kernel
theorem dX1_readLiterals_1 : decode cX1_readLiterals 1 = .ok (.iconst 0, 1) := by decide +kernel
theorem dX1_readLiterals_2 : decode cX1_readLiterals 2 = .ok (.putfield 53, 3) := by decide +kernel
theorem dX1_readLiterals_5 : decode cX1_readLiterals 5 = .ok (.aload_n 0, 1) := by decide +kernel
theorem dX1_readLiterals_6 : decode cX1_readLiterals 6 = .ok (.iconst 0, 1) := by decide +kernel
theorem dX1_readLiterals_7 : decode cX1_readLiterals 7 = .ok (.putfield 56, 3) := by decide +kernel
theorem dX1_readLiterals_10 : decode cX1_readLiterals 10 = .ok (.aload_n 0, 1) := by decide +kernel
theorem dX1_readLiterals_11 : decode cX1_readLiterals 11 = .ok (.getfield 26, 3) := by decide +kernel
theorem dX1_readLiterals_14 : decode cX1_readLiterals 14 = .ok (.aload_n 0, 1) := by decide +kernel
theorem dX1_readLiterals_15 : decode cX1_readLiterals 15 = .ok (.getfield 19, 3) := by decide +kernel
theorem dX1_readLiterals_18 : decode cX1_readLiterals 18 = .ok (.if_icmp .ge 129, 3) := by decide +kernel
theorem dX1_readLiterals_21 : decode cX1_readLiterals 21 = .ok (.aload_n 0, 1) := by decide +kernel
theorem dX1_readLiterals_22 : decode cX1_readLiterals 22 = .ok (.aload_n 0, 1) := by decide +kernel
theorem dX1_readLiterals_23 : decode cX1_readLiterals 23 = .ok (.getfield 26, 3) := by decide +kernel
theorem dX1_readLiterals_26 : decode cX1_readLiterals 26 = .ok (.invokevirtual 36, 3) := by decide +kernel
theorem dX1_readLiterals_29 : decode cX1_readLiterals 29 = .ok (.bipush 59, 2) := by decide +kernel
theorem dX1_readLiterals_31 : decode cX1_readLiterals 31 = .ok (.if_icmp .eq 116, 3) := by decide +kernel
theorem dX1_readLiterals_34 : decode cX1_readLiterals 34 = .ok (.aload_n 0, 1) := by decide +kernel
theorem dX1_readLiterals_35 : decode cX1_readLiterals 35 = .ok (.aload_n 0, 1) := by decide +kernel
theorem dX1_readLiterals_36 : decode cX1_readLiterals 36 = .ok (.getfield 26, 3) := by decide +kernel
theorem dX1_readLiterals_39 : decode cX1_readLiterals 39 = .ok (.invokevirtual 36, 3) := by decide +kernel
theorem dX1_readLiterals_42 : decode cX1_readLiterals 42 = .ok (.bipush 45, 2) := by decide +kernel
theorem dX1_readLiterals_44 : decode cX1_readLiterals 44 = .ok (.if_icmp .ne 7, 3) := by decide +kernel
theorem dX1_readLiterals_47 : decode cX1_readLiterals 47 = .ok (.iconst 1, 1) := by decide +kernel
theorem dX1_readLiterals_48 : decode cX1_readLiterals 48 = .ok (.goto 4, 3) := by decide +kernel
theorem dX1_readLiterals_51 : decode cX1_readLiterals 51 = .ok (.iconst 0, 1) := by decide +kernel
theorem dX1_readLiterals_52 : decode cX1_readLiterals 52 = .ok (.istore_n 1, 1) := by decide +kernel
theorem dX1_readLiterals_53 : decode cX1_readLiterals 53 = .ok (.iload_n 1, 1) := by decide +kernel
theorem dX1_readLiterals_54 : decode cX1_readLiterals 54 = .ok (.ifCond .eq 13, 3) := by decide +kernel
theorem dX1_readLiterals_57 : decode cX1_readLiterals 57 = .ok (.aload_n 0, 1) := by decide +kernel
theorem dX1_readLiterals_58 : decode cX1_readLiterals 58 = .ok (.dup, 1) := by decide +kernel
theorem dX1_readLiterals_59 : decode cX1_readLiterals 59 = .ok (.getfield 26, 3) := by decide +kernel
theorem dX1_readLiterals_62 : decode cX1_readLiterals 62 = .ok (.iconst 1, 1) := by decide +kernel
theorem dX1_readLiterals_63 : decode cX1_readLiterals 63 = .ok (.iadd, 1) := by decide +kernel
theorem dX1_readLiterals_64 : decode cX1_readLiterals 64 = .ok (.putfield 26, 3) := by decide +kernel
theorem dX1_readLiterals_67 : decode cX1_readLiterals 67 = .ok (.aload_n 0, 1) := by decide +kernel
theorem dX1_readLiterals_68 : decode cX1_readLiterals 68 = .ok (.aload_n 0, 1) := by decide +kernel
theorem dX1_readLiterals_69 : decode cX1_readLiterals 69 = .ok (.getfield 26, 3) := by decide +kernel
theorem dX1_readLiterals_72 : decode cX1_readLiterals 72 = .ok (.invokevirtual 36, 3) := by decide +kernel
theorem dX1_readLiterals_75 : decode cX1_readLiterals 75 = .ok (.istore_n 2, 1) := by decide +kernel
theorem dX1_readLiterals_76 : decode cX1_readLiterals 76 = .ok (.iload_n 2, 1) := by decide +kernel
theorem dX1_readLiterals_77 : decode cX1_readLiterals 77 = .ok (.bipush 97, 2) := by decide +kernel
theorem dX1_readLiterals_79 : decode cX1_readLiterals 79 = .ok (.if_icmp .lt 9, 3) := by decide +kernel
theorem dX1_readLiterals_82 : decode cX1_readLiterals 82 = .ok (.iload_n 2, 1) := by decide +kernel
theorem dX1_readLiterals_83 : decode cX1_readLiterals 83 = .ok (.bipush 105, 2) := by decide +kernel
theorem dX1_readLiterals_85 : decode cX1_readLiterals 85 = .ok (.if_icmp .le 12, 3) := by decide +kernel
theorem dX1_readLiterals_88 : decode cX1_readLiterals 88 = .ok (.aload_n 0, 1) := by decide +kernel
theorem dX1_readLiterals_89 : decode cX1_readLiterals 89 = .ok (.aload_n 0, 1) := by decide +kernel
theorem dX1_readLiterals_90 : decode cX1_readLiterals 90 = .ok (.getfield 26, 3) := by decide +kernel
theorem dX1_readLiterals_93 : decode cX1_readLiterals 93 = .ok (.invokevirtual 43, 3) := by decide +kernel
theorem dX1_readLiterals_96 : decode cX1_readLiterals 96 = .ok (.ireturn, 1) := by decide +kernel
theorem dX1_readLiterals_97 : decode cX1_readLiterals 97 = .ok (.iload_n 1, 1) := by decide +kernel
theorem dX1_readLiterals_98 : decode cX1_readLiterals 98 = .ok (.ifCond .eq 21, 3) := by decide +kernel
theorem dX1_readLiterals_101 : decode cX1_readLiterals 101 = .ok (.aload_n 0, 1) := by decide +kernel
theorem dX1_readLiterals_102 : decode cX1_readLiterals 102 = .ok (.dup, 1) := by decide +kernel
theorem dX1_readLiterals_103 : decode cX1_readLiterals 103 = .ok (.getfield 56, 3) := by decide +kernel
theorem dX1_readLiterals_106 : decode cX1_readLiterals 106 = .ok (.iconst 1, 1) := by decide +kernel
theorem dX1_readLiterals_107 : decode cX1_readLiterals 107 = .ok (.iload_n 2, 1) := by decide +kernel
theorem dX1_readLiterals_108 : decode cX1_readLiterals 108 = .ok (.bipush 97, 2) := by decide +kernel
theorem dX1_readLiterals_110 : decode cX1_readLiterals 110 = .ok (.isub, 1) := by decide +kernel
theorem dX1_readLiterals_111 : decode cX1_readLiterals 111 = .ok (.ishl, 1) := by decide +kernel
theorem dX1_readLiterals_112 : decode cX1_readLiterals 112 = .ok (.ior, 1) := by decide +kernel
theorem dX1_readLiterals_113 : decode cX1_readLiterals 113 = .ok (.putfield 56, 3) := by decide +kernel
theorem dX1_readLiterals_116 : decode cX1_readLiterals 116 = .ok (.goto 18, 3) := by decide +kernel
theorem dX1_readLiterals_119 : decode cX1_readLiterals 119 = .ok (.aload_n 0, 1) := by decide +kernel
theorem dX1_readLiterals_120 : decode cX1_readLiterals 120 = .ok (.dup, 1) := by decide +kernel
theorem dX1_readLiterals_121 : decode cX1_readLiterals 121 = .ok (.getfield 53, 3) := by decide +kernel
theorem dX1_readLiterals_124 : decode cX1_readLiterals 124 = .ok (.iconst 1, 1) := by decide +kernel
theorem dX1_readLiterals_125 : decode cX1_readLiterals 125 = .ok (.iload_n 2, 1) := by decide +kernel
theorem dX1_readLiterals_126 : decode cX1_readLiterals 126 = .ok (.bipush 97, 2) := by decide +kernel
theorem dX1_readLiterals_128 : decode cX1_readLiterals 128 = .ok (.isub, 1) := by decide +kernel
theorem dX1_readLiterals_129 : decode cX1_readLiterals 129 = .ok (.ishl, 1) := by decide +kernel
theorem dX1_readLiterals_130 : decode cX1_readLiterals 130 = .ok (.ior, 1) := by decide +kernel
theorem dX1_readLiterals_131 : decode cX1_readLiterals 131 = .ok (.putfield 53, 3) := by decide +kernel
theorem dX1_readLiterals_134 : decode cX1_readLiterals 134 = .ok (.aload_n 0, 1) := by decide +kernel
theorem dX1_readLiterals_135 : decode cX1_readLiterals 135 = .ok (.dup, 1) := by decide +kernel
theorem dX1_readLiterals_136 : decode cX1_readLiterals 136 = .ok (.getfield 26, 3) := by decide +kernel
theorem dX1_readLiterals_139 : decode cX1_readLiterals 139 = .ok (.iconst 1, 1) := by decide +kernel
theorem dX1_readLiterals_140 : decode cX1_readLiterals 140 = .ok (.iadd, 1) := by decide +kernel
theorem dX1_readLiterals_141 : decode cX1_readLiterals 141 = .ok (.putfield 26, 3) := by decide +kernel
theorem dX1_readLiterals_144 : decode cX1_readLiterals 144 = .ok (.goto (-134), 3) := by decide +kernel
theorem dX1_readLiterals_147 : decode cX1_readLiterals 147 = .ok (.iconst 1, 1) := by decide +kernel
theorem dX1_readLiterals_148 : decode cX1_readLiterals 148 = .ok (.ireturn, 1) := by decide +kernel
theorem dX1_readPlay_0 : decode cX1_readPlay 0 = .ok (.aload_n 0, 1) := by decide +kernel
theorem dX1_readPlay_1 : decode cX1_readPlay 1 = .ok (.getfield 26, 3) := by decide +kernel
theorem dX1_readPlay_4 : decode cX1_readPlay 4 = .ok (.istore_n 1, 1) := by decide +kernel
theorem dX1_readPlay_5 : decode cX1_readPlay 5 = .ok (.aload_n 0, 1) := by decide +kernel
theorem dX1_readPlay_6 : decode cX1_readPlay 6 = .ok (.iconst 0, 1) := by decide +kernel
theorem dX1_readPlay_7 : decode cX1_readPlay 7 = .ok (.putfield 59, 3) := by decide +kernel
theorem dX1_readPlay_10 : decode cX1_readPlay 10 = .ok (.aload_n 0, 1) := by decide +kernel
theorem dX1_readPlay_11 : decode cX1_readPlay 11 = .ok (.getfield 26, 3) := by decide +kernel
theorem dX1_readPlay_14 : decode cX1_readPlay 14 = .ok (.iload_n 1, 1) := by decide +kernel
theorem dX1_readPlay_15 : decode cX1_readPlay 15 = .ok (.iconst 2, 1) := by decide +kernel
theorem dX1_readPlay_16 : decode cX1_readPlay 16 = .ok (.iadd, 1) := by decide +kernel
theorem dX1_readPlay_17 : decode cX1_readPlay 17 = .ok (.if_icmp .ge 53, 3) := by decide +kernel
theorem dX1_readPlay_20 : decode cX1_readPlay 20 = .ok (.aload_n 0, 1) := by decide +kernel
theorem dX1_readPlay_21 : decode cX1_readPlay 21 = .ok (.aload_n 0, 1) := by decide +kernel
theorem dX1_readPlay_22 : decode cX1_readPlay 22 = .ok (.getfield 26, 3) := by decide +kernel
theorem dX1_readPlay_25 : decode cX1_readPlay 25 = .ok (.invokevirtual 36, 3) := by decide +kernel
theorem dX1_readPlay_28 : decode cX1_readPlay 28 = .ok (.invokestatic 62, 3) := by decide +kernel
theorem dX1_readPlay_31 : decode cX1_readPlay 31 = .ok (.ifCond .eq 39, 3) := by decide +kernel
theorem dX1_readPlay_34 : decode cX1_readPlay 34 = .ok (.aload_n 0, 1) := by decide +kernel
theorem dX1_readPlay_35 : decode cX1_readPlay 35 = .ok (.bipush 10, 2) := by decide +kernel
theorem dX1_readPlay_37 : decode cX1_readPlay 37 = .ok (.aload_n 0, 1) := by decide +kernel
theorem dX1_readPlay_38 : decode cX1_readPlay 38 = .ok (.getfield 59, 3) := by decide +kernel
theorem dX1_readPlay_41 : decode cX1_readPlay 41 = .ok (.imul, 1) := by decide +kernel
theorem dX1_readPlay_42 : decode cX1_readPlay 42 = .ok (.aload_n 0, 1) := by decide +kernel
theorem dX1_readPlay_43 : decode cX1_readPlay 43 = .ok (.aload_n 0, 1) := by decide +kernel
theorem dX1_readPlay_44 : decode cX1_readPlay 44 = .ok (.getfield 26, 3) := by decide +kernel
theorem dX1_readPlay_47 : decode cX1_readPlay 47 = .ok (.invokevirtual 36, 3) := by decide +kernel
theorem dX1_readPlay_50 : decode cX1_readPlay 50 = .ok (.iadd, 1) := by decide +kernel
theorem dX1_readPlay_51 : decode cX1_readPlay 51 = .ok (.bipush 48, 2) := by decide +kernel
theorem dX1_readPlay_53 : decode cX1_readPlay 53 = .ok (.isub, 1) := by decide +kernel
theorem dX1_readPlay_54 : decode cX1_readPlay 54 = .ok (.putfield 59, 3) := by decide +kernel
theorem dX1_readPlay_57 : decode cX1_readPlay 57 = .ok (.aload_n 0, 1) := by decide +kernel
theorem dX1_readPlay_58 : decode cX1_readPlay 58 = .ok (.dup, 1) := by decide +kernel
theorem dX1_readPlay_59 : decode cX1_readPlay 59 = .ok (.getfield 26, 3) := by decide +kernel
theorem dX1_readPlay_62 : decode cX1_readPlay 62 = .ok (.iconst 1, 1) := by decide +kernel
theorem dX1_readPlay_63 : decode cX1_readPlay 63 = .ok (.iadd, 1) := by decide +kernel
theorem dX1_readPlay_64 : decode cX1_readPlay 64 = .ok (.putfield 26, 3) := by decide +kernel
theorem dX1_readPlay_67 : decode cX1_readPlay 67 = .ok (.goto (-57), 3) := by decide +kernel
theorem dX1_readPlay_70 : decode cX1_readPlay 70 = .ok (.aload_n 0, 1) := by decide +kernel
theorem dX1_readPlay_71 : decode cX1_readPlay 71 = .ok (.getfield 26, 3) := by decide +kernel
theorem dX1_readPlay_74 : decode cX1_readPlay 74 = .ok (.iload_n 1, 1) := by decide +kernel
theorem dX1_readPlay_75 : decode cX1_readPlay 75 = .ok (.if_icmp .eq 17, 3) := by decide +kernel
theorem dX1_readPlay_78 : decode cX1_readPlay 78 = .ok (.aload_n 0, 1) := by decide +kernel
theorem dX1_readPlay_79 : decode cX1_readPlay 79 = .ok (.aload_n 0, 1) := by decide +kernel
theorem dX1_readPlay_80 : decode cX1_readPlay 80 = .ok (.getfield 26, 3) := by decide +kernel
theorem dX1_readPlay_83 : decode cX1_readPlay 83 = .ok (.invokevirtual 36, 3) := by decide +kernel
theorem dX1_readPlay_86 : decode cX1_readPlay 86 = .ok (.invokestatic 62, 3) := by decide +kernel
theorem dX1_readPlay_89 : decode cX1_readPlay 89 = .ok (.ifCond .eq 12, 3) := by decide +kernel
theorem dX1_readPlay_92 : decode cX1_readPlay 92 = .ok (.aload_n 0, 1) := by decide +kernel
theorem dX1_readPlay_93 : decode cX1_readPlay 93 = .ok (.aload_n 0, 1) := by decide +kernel
theorem dX1_readPlay_94 : decode cX1_readPlay 94 = .ok (.getfield 26, 3) := by decide +kernel
theorem dX1_readPlay_97 : decode cX1_readPlay 97 = .ok (.invokevirtual 43, 3) := by decide +kernel
theorem dX1_readPlay_100 : decode cX1_readPlay 100 = .ok (.ireturn, 1) := by decide +kernel
theorem dX1_readPlay_101 : decode cX1_readPlay 101 = .ok (.aload_n 0, 1) := by decide +kernel
theorem dX1_readPlay_102 : decode cX1_readPlay 102 = .ok (.getfield 59, 3) := by decide +kernel
theorem dX1_readPlay_105 : decode cX1_readPlay 105 = .ok (.bipush 7, 2) := by decide +kernel
theorem dX1_readPlay_107 : decode cX1_readPlay 107 = .ok (.if_icmp .le 11, 3) := by decide +kernel
theorem dX1_readPlay_110 : decode cX1_readPlay 110 = .ok (.aload_n 0, 1) := by decide +kernel
theorem dX1_readPlay_111 : decode cX1_readPlay 111 = .ok (.iload_n 1, 1) := by decide +kernel
theorem dX1_readPlay_112 : decode cX1_readPlay 112 = .ok (.invokevirtual 43, 3) := by decide +kernel
theorem dX1_readPlay_115 : decode cX1_readPlay 115 = .ok (.ifCond .eq 7, 3) := by decide +kernel
theorem dX1_readPlay_118 : decode cX1_readPlay 118 = .ok (.iconst 1, 1) := by decide +kernel
theorem dX1_readPlay_119 : decode cX1_readPlay 119 = .ok (.goto 4, 3) := by decide +kernel
theorem dX1_readPlay_122 : decode cX1_readPlay 122 = .ok (.iconst 0, 1) := by decide +kernel
theorem dX1_readPlay_123 : decode cX1_readPlay 123 = .ok (.ireturn, 1) := by decide +kernel
theorem dX1_fail_0 : decode cX1_fail 0 = .ok (.aload_n 0, 1) := by decide +kernel
theorem dX1_fail_1 : decode cX1_fail 1 = .ok (.iload_n 1, 1) := by decide +kernel
theorem dX1_fail_2 : decode cX1_fail 2 = .ok (.putfield 15, 3) := by decide +kernel
theorem dX1_fail_5 : decode cX1_fail 5 = .ok (.iconst 0, 1) := by decide +kernel
theorem dX1_fail_6 : decode cX1_fail 6 = .ok (.ireturn, 1) := by decide +kernel
theorem dX1_byteAt_0 : decode cX1_byteAt 0 = .ok (.iload_n 1, 1) := by decide +kernel
theorem dX1_byteAt_1 : decode cX1_byteAt 1 = .ok (.aload_n 0, 1) := by decide +kernel
theorem dX1_byteAt_2 : decode cX1_byteAt 2 = .ok (.getfield 19, 3) := by decide +kernel
theorem dX1_byteAt_5 : decode cX1_byteAt 5 = .ok (.if_icmp .ge 14, 3) := by decide +kernel
theorem dX1_byteAt_8 : decode cX1_byteAt 8 = .ok (.aload_n 0, 1) := by decide +kernel
theorem dX1_byteAt_9 : decode cX1_byteAt 9 = .ok (.getfield 9, 3) := by decide +kernel
theorem dX1_byteAt_12 : decode cX1_byteAt 12 = .ok (.iload_n 1, 1) := by decide +kernel
theorem dX1_byteAt_13 : decode cX1_byteAt 13 = .ok (.invokestatic 65, 3) := by decide +kernel
theorem dX1_byteAt_16 : decode cX1_byteAt 16 = .ok (.goto 4, 3) := by decide +kernel
theorem dX1_byteAt_19 : decode cX1_byteAt 19 = .ok (.iconst (-1), 1) := by decide +kernel
theorem dX1_byteAt_20 : decode cX1_byteAt 20 = .ok (.ireturn, 1) := by decide +kernel
theorem dX1_isDigit_0 : decode cX1_isDigit 0 = .ok (.iload_n 0, 1) := by decide +kernel
theorem dX1_isDigit_1 : decode cX1_isDigit 1 = .ok (.bipush 48, 2) := by decide +kernel
theorem dX1_isDigit_3 : decode cX1_isDigit 3 = .ok (.if_icmp .lt 13, 3) := by decide +kernel
theorem dX1_isDigit_6 : decode cX1_isDigit 6 = .ok (.iload_n 0, 1) := by decide +kernel
theorem dX1_isDigit_7 : decode cX1_isDigit 7 = .ok (.bipush 57, 2) := by decide +kernel
theorem dX1_isDigit_9 : decode cX1_isDigit 9 = .ok (.if_icmp .gt 7, 3) := by decide +kernel
theorem dX1_isDigit_12 : decode cX1_isDigit 12 = .ok (.iconst 1, 1) := by decide +kernel
theorem dX1_isDigit_13 : decode cX1_isDigit 13 = .ok (.goto 4, 3) := by decide +kernel
theorem dX1_isDigit_16 : decode cX1_isDigit 16 = .ok (.iconst 0, 1) := by decide +kernel
theorem dX1_isDigit_17 : decode cX1_isDigit 17 = .ok (.ireturn, 1) := by decide +kernel
theorem dX2_init_0 : decode cX2_init 0 = .ok (.aload_n 0, 1) := by decide +kernel
theorem dX2_init_1 : decode cX2_init 1 = .ok (.invokespecial 3, 3) := by decide +kernel
theorem dX2_init_4 : decode cX2_init 4 = .ok (.aload_n 0, 1) := by decide +kernel
theorem dX2_init_5 : decode cX2_init 5 = .ok (.iconst 4, 1) := by decide +kernel
theorem dX2_init_6 : decode cX2_init 6 = .ok (.anewarray 9, 3) := by decide +kernel
theorem dX2_init_9 : decode cX2_init 9 = .ok (.dup, 1) := by decide +kernel
theorem dX2_init_10 : decode cX2_init 10 = .ok (.iconst 0, 1) := by decide +kernel
theorem dX2_init_11 : decode cX2_init 11 = .ok (.new 9, 3) := by decide +kernel
theorem dX2_init_14 : decode cX2_init 14 = .ok (.dup, 1) := by decide +kernel
theorem dX2_init_15 : decode cX2_init 15 = .ok (.invokespecial 11, 3) := by decide +kernel
theorem dX2_init_18 : decode cX2_init 18 = .ok (.aastore, 1) := by decide +kernel
theorem dX2_init_19 : decode cX2_init 19 = .ok (.dup, 1) := by decide +kernel
theorem dX2_init_20 : decode cX2_init 20 = .ok (.iconst 1, 1) := by decide +kernel
theorem dX2_init_21 : decode cX2_init 21 = .ok (.new 9, 3) := by decide +kernel
theorem dX2_init_24 : decode cX2_init 24 = .ok (.dup, 1) := by decide +kernel
theorem dX2_init_25 : decode cX2_init 25 = .ok (.invokespecial 11, 3) := by decide +kernel
theorem dX2_init_28 : decode cX2_init 28 = .ok (.aastore, 1) := by decide +kernel
theorem dX2_init_29 : decode cX2_init 29 = .ok (.dup, 1) := by decide +kernel
theorem dX2_init_30 : decode cX2_init 30 = .ok (.iconst 2, 1) := by decide +kernel
theorem dX2_init_31 : decode cX2_init 31 = .ok (.new 9, 3) := by decide +kernel
theorem dX2_init_34 : decode cX2_init 34 = .ok (.dup, 1) := by decide +kernel
theorem dX2_init_35 : decode cX2_init 35 = .ok (.invokespecial 11, 3) := by decide +kernel
theorem dX2_init_38 : decode cX2_init 38 = .ok (.aastore, 1) := by decide +kernel
theorem dX2_init_39 : decode cX2_init 39 = .ok (.dup, 1) := by decide +kernel
theorem dX2_init_40 : decode cX2_init 40 = .ok (.iconst 3, 1) := by decide +kernel
theorem dX2_init_41 : decode cX2_init 41 = .ok (.new 9, 3) := by decide +kernel
theorem dX2_init_44 : decode cX2_init 44 = .ok (.dup, 1) := by decide +kernel
theorem dX2_init_45 : decode cX2_init 45 = .ok (.invokespecial 11, 3) := by decide +kernel
theorem dX2_init_48 : decode cX2_init 48 = .ok (.aastore, 1) := by decide +kernel
theorem dX2_init_49 : decode cX2_init 49 = .ok (.putfield 12, 3) := by decide +kernel
theorem dX2_init_52 : decode cX2_init 52 = .ok (.return_, 1) := by decide +kernel
theorem dX2_push_0 : decode cX2_push 0 = .ok (.aload_n 0, 1) := by decide +kernel
theorem dX2_push_1 : decode cX2_push 1 = .ok (.getfield 18, 3) := by decide +kernel
theorem dX2_push_4 : decode cX2_push 4 = .ok (.iconst 4, 1) := by decide +kernel
theorem dX2_push_5 : decode cX2_push 5 = .ok (.if_icmp .ne 25, 3) := by decide +kernel
theorem dX2_push_8 : decode cX2_push 8 = .ok (.aload_n 0, 1) := by decide +kernel
theorem dX2_push_9 : decode cX2_push 9 = .ok (.aload_n 0, 1) := by decide +kernel
theorem dX2_push_10 : decode cX2_push 10 = .ok (.getfield 22, 3) := by decide +kernel
theorem dX2_push_13 : decode cX2_push 13 = .ok (.iconst 1, 1) := by decide +kernel
theorem dX2_push_14 : decode cX2_push 14 = .ok (.iadd, 1) := by decide +kernel
theorem dX2_push_15 : decode cX2_push 15 = .ok (.iconst 4, 1) := by decide +kernel
theorem dX2_push_16 : decode cX2_push 16 = .ok (.irem, 1) := by decide +kernel
theorem dX2_push_17 : decode cX2_push 17 = .ok (.putfield 22, 3) := by decide +kernel
theorem dX2_push_20 : decode cX2_push 20 = .ok (.aload_n 0, 1) := by decide +kernel
theorem dX2_push_21 : decode cX2_push 21 = .ok (.dup, 1) := by decide +kernel
theorem dX2_push_22 : decode cX2_push 22 = .ok (.getfield 18, 3) := by decide +kernel
theorem dX2_push_25 : decode cX2_push 25 = .ok (.iconst 1, 1) := by decide +kernel
theorem dX2_push_26 : decode cX2_push 26 = .ok (.isub, 1) := by decide +kernel
theorem dX2_push_27 : decode cX2_push 27 = .ok (.putfield 18, 3) := by decide +kernel
theorem dX2_push_30 : decode cX2_push 30 = .ok (.aload_n 0, 1) := by decide +kernel
theorem dX2_push_31 : decode cX2_push 31 = .ok (.aload_n 0, 1) := by decide +kernel
theorem dX2_push_32 : decode cX2_push 32 = .ok (.getfield 18, 3) := by decide +kernel
theorem dX2_push_35 : decode cX2_push 35 = .ok (.invokevirtual 25, 3) := by decide +kernel
theorem dX2_push_38 : decode cX2_push 38 = .ok (.astore_n 2, 1) := by decide +kernel
theorem dX2_push_39 : decode cX2_push 39 = .ok (.aload_n 2, 1) := by decide +kernel
theorem dX2_push_40 : decode cX2_push 40 = .ok (.ifnull 8, 3) := by decide +kernel
theorem dX2_push_43 : decode cX2_push 43 = .ok (.aload_n 2, 1) := by decide +kernel
theorem dX2_push_44 : decode cX2_push 44 = .ok (.aload_n 1, 1) := by decide +kernel
theorem dX2_push_45 : decode cX2_push 45 = .ok (.invokevirtual 29, 3) := by decide +kernel
theorem dX2_push_48 : decode cX2_push 48 = .ok (.aload_n 0, 1) := by decide +kernel
theorem dX2_push_49 : decode cX2_push 49 = .ok (.dup, 1) := by decide +kernel
theorem dX2_push_50 : decode cX2_push 50 = .ok (.getfield 18, 3) := by decide +kernel
theorem dX2_push_53 : decode cX2_push 53 = .ok (.iconst 1, 1) := by decide +kernel
theorem dX2_push_54 : decode cX2_push 54 = .ok (.iadd, 1) := by decide +kernel
theorem dX2_push_55 : decode cX2_push 55 = .ok (.putfield 18, 3) := by decide +kernel
theorem dX2_push_58 : decode cX2_push 58 = .ok (.return_, 1) := by decide +kernel
theorem dX2_pop_0 : decode cX2_pop 0 = .ok (.aload_n 0, 1) := by decide +kernel
theorem dX2_pop_1 : decode cX2_pop 1 = .ok (.dup, 1) := by decide +kernel
theorem dX2_pop_2 : decode cX2_pop 2 = .ok (.getfield 18, 3) := by decide +kernel
theorem dX2_pop_5 : decode cX2_pop 5 = .ok (.iconst 1, 1) := by decide +kernel
theorem dX2_pop_6 : decode cX2_pop 6 = .ok (.isub, 1) := by decide +kernel
theorem dX2_pop_7 : decode cX2_pop 7 = .ok (.putfield 18, 3) := by decide +kernel
theorem dX2_pop_10 : decode cX2_pop 10 = .ok (.aload_n 0, 1) := by decide +kernel
theorem dX2_pop_11 : decode cX2_pop 11 = .ok (.aload_n 0, 1) := by decide +kernel
theorem dX2_pop_12 : decode cX2_pop 12 = .ok (.getfield 18, 3) := by decide +kernel
theorem dX2_pop_15 : decode cX2_pop 15 = .ok (.invokevirtual 25, 3) := by decide +kernel
theorem dX2_pop_18 : decode cX2_pop 18 = .ok (.astore_n 2, 1) := by decide +kernel
theorem dX2_pop_19 : decode cX2_pop 19 = .ok (.aload_n 2, 1) := by decide +kernel
theorem dX2_pop_20 : decode cX2_pop 20 = .ok (.ifnull 8, 3) := by decide +kernel
theorem dX2_pop_23 : decode cX2_pop 23 = .ok (.aload_n 1, 1) := by decide +kernel
theorem dX2_pop_24 : decode cX2_pop 24 = .ok (.aload_n 2, 1) := by decide +kernel
theorem dX2_pop_25 : decode cX2_pop 25 = .ok (.invokevirtual 29, 3) := by decide +kernel
theorem dX2_pop_28 : decode cX2_pop 28 = .ok (.return_, 1) := by decide +kernel
theorem dX2_slot_0 : decode cX2_slot 0 = .ok (.aload_n 0, 1) := by decide +kernel
theorem dX2_slot_1 : decode cX2_slot 1 = .ok (.getfield 22, 3) := by decide +kernel
theorem dX2_slot_4 : decode cX2_slot 4 = .ok (.iload_n 1, 1) := by decide +kernel
theorem dX2_slot_5 : decode cX2_slot 5 = .ok (.iadd, 1) := by decide +kernel
theorem dX2_slot_6 : decode cX2_slot 6 = .ok (.iconst 4, 1) := by decide +kernel
theorem dX2_slot_7 : decode cX2_slot 7 = .ok (.irem, 1) := by decide +kernel
theorem dX2_slot_8 : decode cX2_slot 8 = .ok (.istore_n 2, 1) := by decide +kernel
theorem dX2_slot_9 : decode cX2_slot 9 = .ok (.iload_n 2, 1) := by decide +kernel
theorem dX2_slot_10 : decode cX2_slot 10 = .ok (.ifCond .lt 21, 3) := by decide +kernel
theorem dX2_slot_13 : decode cX2_slot 13 = .ok (.iload_n 2, 1) := by decide +kernel
theorem dX2_slot_14 : decode cX2_slot 14 = .ok (.aload_n 0, 1) := by decide +kernel
theorem dX2_slot_15 : decode cX2_slot 15 = .ok (.getfield 12, 3) := by decide +kernel
theorem dX2_slot_18 : decode cX2_slot 18 = .ok (.arraylength, 1) := by decide +kernel
theorem dX2_slot_19 : decode cX2_slot 19 = .ok (.if_icmp .ge 12, 3) := by decide +kernel
theorem dX2_slot_22 : decode cX2_slot 22 = .ok (.aload_n 0, 1) := by decide +kernel
theorem dX2_slot_23 : decode cX2_slot 23 = .ok (.getfield 12, 3) := by decide +kernel
theorem dX2_slot_26 : decode cX2_slot 26 = .ok (.iload_n 2, 1) := by decide +kernel
theorem dX2_slot_27 : decode cX2_slot 27 = .ok (.aaload, 1) := by decide +kernel
theorem dX2_slot_28 : decode cX2_slot 28 = .ok (.goto 4, 3) := by decide +kernel
theorem dX2_slot_31 : decode cX2_slot 31 = .ok (.aconst_null, 1) := by decide +kernel
theorem dX2_slot_32 : decode cX2_slot 32 = .ok (.areturn, 1) := by decide +kernel
theorem dX3_init_0 : decode cX3_init 0 = .ok (.aload_n 0, 1) := by decide +kernel
theorem dX3_init_1 : decode cX3_init 1 = .ok (.invokespecial 3, 3) := by decide +kernel
theorem dX3_init_4 : decode cX3_init 4 = .ok (.aload_n 0, 1) := by decide +kernel
theorem dX3_init_5 : decode cX3_init 5 = .ok (.bipush 20, 2) := by decide +kernel
theorem dX3_init_7 : decode cX3_init 7 = .ok (.newarray .int, 2) := by decide +kernel
theorem dX3_init_9 : decode cX3_init 9 = .ok (.putfield 9, 3) := by decide +kernel
theorem dX3_init_12 : decode cX3_init 12 = .ok (.aload_n 0, 1) := by decide +kernel
theorem dX3_init_13 : decode cX3_init 13 = .ok (.bipush 20, 2) := by decide +kernel
theorem dX3_init_15 : decode cX3_init 15 = .ok (.newarray .int, 2) := by decide +kernel
theorem dX3_init_17 : decode cX3_init 17 = .ok (.putfield 15, 3) := by decide +kernel
theorem dX3_init_20 : decode cX3_init 20 = .ok (.return_, 1) := by decide +kernel
theorem dX3_clear_0 : decode cX3_clear 0 = .ok (.aload_n 0, 1) := by decide +kernel
theorem dX3_clear_1 : decode cX3_clear 1 = .ok (.iconst 0, 1) := by decide +kernel
theorem dX3_clear_2 : decode cX3_clear 2 = .ok (.putfield 18, 3) := by decide +kernel
theorem dX3_clear_5 : decode cX3_clear 5 = .ok (.aload_n 0, 1) := by decide +kernel
theorem dX3_clear_6 : decode cX3_clear 6 = .ok (.iconst 0, 1) := by decide +kernel
theorem dX3_clear_7 : decode cX3_clear 7 = .ok (.putfield 22, 3) := by decide +kernel
theorem dX3_clear_10 : decode cX3_clear 10 = .ok (.aload_n 0, 1) := by decide +kernel
theorem dX3_clear_11 : decode cX3_clear 11 = .ok (.iconst 0, 1) := by decide +kernel
theorem dX3_clear_12 : decode cX3_clear 12 = .ok (.putfield 25, 3) := by decide +kernel
theorem dX3_clear_15 : decode cX3_clear 15 = .ok (.aload_n 0, 1) := by decide +kernel
theorem dX3_clear_16 : decode cX3_clear 16 = .ok (.iconst 0, 1) := by decide +kernel
theorem dX3_clear_17 : decode cX3_clear 17 = .ok (.putfield 28, 3) := by decide +kernel
theorem dX3_clear_20 : decode cX3_clear 20 = .ok (.aload_n 0, 1) := by decide +kernel
theorem dX3_clear_21 : decode cX3_clear 21 = .ok (.iconst 0, 1) := by decide +kernel
theorem dX3_clear_22 : decode cX3_clear 22 = .ok (.putfield 31, 3) := by decide +kernel
theorem dX3_clear_25 : decode cX3_clear 25 = .ok (.return_, 1) := by decide +kernel
theorem dX3_copyFrom_0 : decode cX3_copyFrom 0 = .ok (.aload_n 0, 1) := by decide +kernel
theorem dX3_copyFrom_1 : decode cX3_copyFrom 1 = .ok (.aload_n 1, 1) := by decide +kernel
theorem dX3_copyFrom_2 : decode cX3_copyFrom 2 = .ok (.getfield 18, 3) := by decide +kernel
theorem dX3_copyFrom_5 : decode cX3_copyFrom 5 = .ok (.putfield 18, 3) := by decide +kernel
theorem dX3_copyFrom_8 : decode cX3_copyFrom 8 = .ok (.aload_n 0, 1) := by decide +kernel
theorem dX3_copyFrom_9 : decode cX3_copyFrom 9 = .ok (.aload_n 1, 1) := by decide +kernel
theorem dX3_copyFrom_10 : decode cX3_copyFrom 10 = .ok (.getfield 22, 3) := by decide +kernel
theorem dX3_copyFrom_13 : decode cX3_copyFrom 13 = .ok (.putfield 22, 3) := by decide +kernel
theorem dX3_copyFrom_16 : decode cX3_copyFrom 16 = .ok (.aload_n 0, 1) := by decide +kernel
theorem dX3_copyFrom_17 : decode cX3_copyFrom 17 = .ok (.aload_n 1, 1) := by decide +kernel
theorem dX3_copyFrom_18 : decode cX3_copyFrom 18 = .ok (.getfield 25, 3) := by decide +kernel
theorem dX3_copyFrom_21 : decode cX3_copyFrom 21 = .ok (.putfield 25, 3) := by decide +kernel
theorem dX3_copyFrom_24 : decode cX3_copyFrom 24 = .ok (.iconst 0, 1) := by decide +kernel
theorem dX3_copyFrom_25 : decode cX3_copyFrom 25 = .ok (.istore_n 2, 1) := by decide +kernel
theorem dX3_copyFrom_26 : decode cX3_copyFrom 26 = .ok (.iload_n 2, 1) := by decide +kernel
theorem dX3_copyFrom_27 : decode cX3_copyFrom 27 = .ok (.aload_n 0, 1) := by decide +kernel
theorem dX3_copyFrom_28 : decode cX3_copyFrom 28 = .ok (.getfield 25, 3) := by decide +kernel
theorem dX3_copyFrom_31 : decode cX3_copyFrom 31 = .ok (.if_icmp .ge 41, 3) := by decide +kernel
theorem dX3_copyFrom_34 : decode cX3_copyFrom 34 = .ok (.aload_n 0, 1) := by decide +kernel
theorem dX3_copyFrom_35 : decode cX3_copyFrom 35 = .ok (.getfield 9, 3) := by decide +kernel
theorem dX3_copyFrom_38 : decode cX3_copyFrom 38 = .ok (.iload_n 2, 1) := by decide +kernel
theorem dX3_copyFrom_39 : decode cX3_copyFrom 39 = .ok (.aload_n 1, 1) := by decide +kernel
theorem dX3_copyFrom_40 : decode cX3_copyFrom 40 = .ok (.getfield 9, 3) := by decide +kernel
theorem dX3_copyFrom_43 : decode cX3_copyFrom 43 = .ok (.iload_n 2, 1) := by decide +kernel
theorem dX3_copyFrom_44 : decode cX3_copyFrom 44 = .ok (.invokestatic 34, 3) := by decide +kernel
theorem dX3_copyFrom_47 : decode cX3_copyFrom 47 = .ok (.invokestatic 38, 3) := by decide +kernel
theorem dX3_copyFrom_50 : decode cX3_copyFrom 50 = .ok (.aload_n 0, 1) := by decide +kernel
theorem dX3_copyFrom_51 : decode cX3_copyFrom 51 = .ok (.getfield 15, 3) := by decide +kernel
theorem dX3_copyFrom_54 : decode cX3_copyFrom 54 = .ok (.iload_n 2, 1) := by decide +kernel
theorem dX3_copyFrom_55 : decode cX3_copyFrom 55 = .ok (.aload_n 1, 1) := by decide +kernel
theorem dX3_copyFrom_56 : decode cX3_copyFrom 56 = .ok (.getfield 15, 3) := by decide +kernel
theorem dX3_copyFrom_59 : decode cX3_copyFrom 59 = .ok (.iload_n 2, 1) := by decide +kernel
theorem dX3_copyFrom_60 : decode cX3_copyFrom 60 = .ok (.invokestatic 34, 3) := by decide +kernel
theorem dX3_copyFrom_63 : decode cX3_copyFrom 63 = .ok (.invokestatic 38, 3) := by decide +kernel
theorem dX3_copyFrom_66 : decode cX3_copyFrom 66 = .ok (.iinc 2 1, 3) := by decide +kernel
theorem dX3_copyFrom_69 : decode cX3_copyFrom 69 = .ok (.goto (-43), 3) := by decide +kernel
theorem dX3_copyFrom_72 : decode cX3_copyFrom 72 = .ok (.aload_n 0, 1) := by decide +kernel
theorem dX3_copyFrom_73 : decode cX3_copyFrom 73 = .ok (.aload_n 1, 1) := by decide +kernel
theorem dX3_copyFrom_74 : decode cX3_copyFrom 74 = .ok (.getfield 28, 3) := by decide +kernel
theorem dX3_copyFrom_77 : decode cX3_copyFrom 77 = .ok (.putfield 28, 3) := by decide +kernel
theorem dX3_copyFrom_80 : decode cX3_copyFrom 80 = .ok (.aload_n 0, 1) := by decide +kernel
theorem dX3_copyFrom_81 : decode cX3_copyFrom 81 = .ok (.aload_n 1, 1) := by decide +kernel
theorem dX3_copyFrom_82 : decode cX3_copyFrom 82 = .ok (.getfield 31, 3) := by decide +kernel
theorem dX3_copyFrom_85 : decode cX3_copyFrom 85 = .ok (.putfield 31, 3) := by decide +kernel
theorem dX3_copyFrom_88 : decode cX3_copyFrom 88 = .ok (.return_, 1) := by decide +kernel
theorem dX3_ownerOf_0 : decode cX3_ownerOf 0 = .ok (.aload_n 0, 1) := by decide +kernel
theorem dX3_ownerOf_1 : decode cX3_ownerOf 1 = .ok (.getfield 22, 3) := by decide +kernel
theorem dX3_ownerOf_4 : decode cX3_ownerOf 4 = .ok (.iload_n 1, 1) := by decide +kernel
theorem dX3_ownerOf_5 : decode cX3_ownerOf 5 = .ok (.ishr, 1) := by decide +kernel
theorem dX3_ownerOf_6 : decode cX3_ownerOf 6 = .ok (.iconst 1, 1) := by decide +kernel
theorem dX3_ownerOf_7 : decode cX3_ownerOf 7 = .ok (.iand, 1) := by decide +kernel
theorem dX3_ownerOf_8 : decode cX3_ownerOf 8 = .ok (.ireturn, 1) := by decide +kernel
theorem dX3_plays_0 : decode cX3_plays 0 = .ok (.iconst 1, 1) := by decide +kernel
theorem dX3_plays_1 : decode cX3_plays 1 = .ok (.aload_n 0, 1) := by decide +kernel
theorem dX3_plays_2 : decode cX3_plays 2 = .ok (.getfield 22, 3) := by decide +kernel
theorem dX3_plays_5 : decode cX3_plays 5 = .ok (.invokestatic 42, 3) := by decide +kernel
theorem dX3_plays_8 : decode cX3_plays 8 = .ok (.ishl, 1) := by decide +kernel
theorem dX3_plays_9 : decode cX3_plays 9 = .ok (.ireturn, 1) := by decide +kernel
theorem dX3_allPlays_0 : decode cX3_allPlays 0 = .ok (.iconst 1, 1) := by decide +kernel
theorem dX3_allPlays_1 : decode cX3_allPlays 1 = .ok (.aload_n 0, 1) := by decide +kernel
theorem dX3_allPlays_2 : decode cX3_allPlays 2 = .ok (.invokevirtual 48, 3) := by decide +kernel
theorem dX3_allPlays_5 : decode cX3_allPlays 5 = .ok (.ishl, 1) := by decide +kernel
theorem dX3_allPlays_6 : decode cX3_allPlays 6 = .ok (.iconst 1, 1) := by decide +kernel
theorem dX3_allPlays_7 : decode cX3_allPlays 7 = .ok (.isub, 1) := by decide +kernel
theorem dX3_allPlays_8 : decode cX3_allPlays 8 = .ok (.ireturn, 1) := by decide +kernel
theorem dX3_hasPlay_0 : decode cX3_hasPlay 0 = .ok (.iload_n 1, 1) := by decide +kernel
theorem dX3_hasPlay_1 : decode cX3_hasPlay 1 = .ok (.ifCond .lt 15, 3) := by decide +kernel
theorem dX3_hasPlay_4 : decode cX3_hasPlay 4 = .ok (.iload_n 1, 1) := by decide +kernel
theorem dX3_hasPlay_5 : decode cX3_hasPlay 5 = .ok (.aload_n 0, 1) := by decide +kernel
theorem dX3_hasPlay_6 : decode cX3_hasPlay 6 = .ok (.invokevirtual 48, 3) := by decide +kernel
theorem dX3_hasPlay_9 : decode cX3_hasPlay 9 = .ok (.if_icmp .ge 7, 3) := by decide +kernel
theorem dX3_hasPlay_12 : decode cX3_hasPlay 12 = .ok (.iconst 1, 1) := by decide +kernel
theorem dX3_hasPlay_13 : decode cX3_hasPlay 13 = .ok (.goto 4, 3) := by decide +kernel
theorem dX3_hasPlay_16 : decode cX3_hasPlay 16 = .ok (.iconst 0, 1) := by decide +kernel
theorem dX3_hasPlay_17 : decode cX3_hasPlay 17 = .ok (.ireturn, 1) := by decide +kernel
theorem dX3_hasLearned_0 : decode cX3_hasLearned 0 = .ok (.aload_n 0, 1) := by decide +kernel
theorem dX3_hasLearned_1 : decode cX3_hasLearned 1 = .ok (.getfield 28, 3) := by decide +kernel
theorem dX3_hasLearned_4 : decode cX3_hasLearned 4 = .ok (.iload_n 1, 1) := by decide +kernel
theorem dX3_hasLearned_5 : decode cX3_hasLearned 5 = .ok (.invokestatic 52, 3) := by decide +kernel
theorem dX3_hasLearned_8 : decode cX3_hasLearned 8 = .ok (.iconst 1, 1) := by decide +kernel
theorem dX3_hasLearned_9 : decode cX3_hasLearned 9 = .ok (.if_icmp .ne 7, 3) := by decide +kernel
theorem dX3_hasLearned_12 : decode cX3_hasLearned 12 = .ok (.iconst 1, 1) := by decide +kernel
theorem dX3_hasLearned_13 : decode cX3_hasLearned 13 = .ok (.goto 4, 3) := by decide +kernel
theorem dX3_hasLearned_16 : decode cX3_hasLearned 16 = .ok (.iconst 0, 1) := by decide +kernel
theorem dX3_hasLearned_17 : decode cX3_hasLearned 17 = .ok (.ireturn, 1) := by decide +kernel
theorem dX3_hasVariables_0 : decode cX3_hasVariables 0 = .ok (.iload_n 1, 1) := by decide +kernel
theorem dX3_hasVariables_1 : decode cX3_hasVariables 1 = .ok (.ifCond .lt 16, 3) := by decide +kernel
theorem dX3_hasVariables_4 : decode cX3_hasVariables 4 = .ok (.iload_n 1, 1) := by decide +kernel
theorem dX3_hasVariables_5 : decode cX3_hasVariables 5 = .ok (.aload_n 0, 1) := by decide +kernel
theorem dX3_hasVariables_6 : decode cX3_hasVariables 6 = .ok (.getfield 18, 3) := by decide +kernel
theorem dX3_hasVariables_9 : decode cX3_hasVariables 9 = .ok (.ishr, 1) := by decide +kernel
theorem dX3_hasVariables_10 : decode cX3_hasVariables 10 = .ok (.ifCond .ne 7, 3) := by decide +kernel
theorem dX3_hasVariables_13 : decode cX3_hasVariables 13 = .ok (.iconst 1, 1) := by decide +kernel
theorem dX3_hasVariables_14 : decode cX3_hasVariables 14 = .ok (.goto 4, 3) := by decide +kernel
theorem dX3_hasVariables_17 : decode cX3_hasVariables 17 = .ok (.iconst 0, 1) := by decide +kernel
theorem dX3_hasVariables_18 : decode cX3_hasVariables 18 = .ok (.ireturn, 1) := by decide +kernel
theorem dX3_hasRoomFor_0 : decode cX3_hasRoomFor 0 = .ok (.aload_n 0, 1) := by decide +kernel
theorem dX3_hasRoomFor_1 : decode cX3_hasRoomFor 1 = .ok (.getfield 22, 3) := by decide +kernel
theorem dX3_hasRoomFor_4 : decode cX3_hasRoomFor 4 = .ok (.invokestatic 42, 3) := by decide +kernel
theorem dX3_hasRoomFor_7 : decode cX3_hasRoomFor 7 = .ok (.istore_n 2, 1) := by decide +kernel
theorem dX3_hasRoomFor_8 : decode cX3_hasRoomFor 8 = .ok (.iload_n 1, 1) := by decide +kernel
theorem dX3_hasRoomFor_9 : decode cX3_hasRoomFor 9 = .ok (.ifCond .eq 16, 3) := by decide +kernel
theorem dX3_hasRoomFor_12 : decode cX3_hasRoomFor 12 = .ok (.iload_n 2, 1) := by decide +kernel
theorem dX3_hasRoomFor_13 : decode cX3_hasRoomFor 13 = .ok (.iconst 3, 1) := by decide +kernel
theorem dX3_hasRoomFor_14 : decode cX3_hasRoomFor 14 = .ok (.if_icmp .ge 7, 3) := by decide +kernel
theorem dX3_hasRoomFor_17 : decode cX3_hasRoomFor 17 = .ok (.iconst 1, 1) := by decide +kernel
theorem dX3_hasRoomFor_18 : decode cX3_hasRoomFor 18 = .ok (.goto 23, 3) := by decide +kernel
theorem dX3_hasRoomFor_21 : decode cX3_hasRoomFor 21 = .ok (.iconst 0, 1) := by decide +kernel
theorem dX3_hasRoomFor_22 : decode cX3_hasRoomFor 22 = .ok (.goto 19, 3) := by decide +kernel
theorem dX3_hasRoomFor_25 : decode cX3_hasRoomFor 25 = .ok (.aload_n 0, 1) := by decide +kernel
theorem dX3_hasRoomFor_26 : decode cX3_hasRoomFor 26 = .ok (.getfield 18, 3) := by decide +kernel
theorem dX3_hasRoomFor_29 : decode cX3_hasRoomFor 29 = .ok (.iload_n 2, 1) := by decide +kernel
theorem dX3_hasRoomFor_30 : decode cX3_hasRoomFor 30 = .ok (.isub, 1) := by decide +kernel
theorem dX3_hasRoomFor_31 : decode cX3_hasRoomFor 31 = .ok (.bipush 6, 2) := by decide +kernel
theorem dX3_hasRoomFor_33 : decode cX3_hasRoomFor 33 = .ok (.if_icmp .ge 7, 3) := by decide +kernel
theorem dX3_hasRoomFor_36 : decode cX3_hasRoomFor 36 = .ok (.iconst 1, 1) := by decide +kernel
theorem dX3_hasRoomFor_37 : decode cX3_hasRoomFor 37 = .ok (.goto 4, 3) := by decide +kernel
theorem dX3_hasRoomFor_40 : decode cX3_hasRoomFor 40 = .ok (.iconst 0, 1) := by decide +kernel
theorem dX3_hasRoomFor_41 : decode cX3_hasRoomFor 41 = .ok (.ireturn, 1) := by decide +kernel
theorem dX3_putVariable_0 : decode cX3_putVariable 0 = .ok (.iload_n 1, 1) := by decide +kernel
theorem dX3_putVariable_1 : decode cX3_putVariable 1 = .ok (.ifCond .eq 18, 3) := by decide +kernel
theorem dX3_putVariable_4 : decode cX3_putVariable 4 = .ok (.aload_n 0, 1) := by decide +kernel
theorem dX3_putVariable_5 : decode cX3_putVariable 5 = .ok (.dup, 1) := by decide +kernel
theorem dX3_putVariable_6 : decode cX3_putVariable 6 = .ok (.getfield 22, 3) := by decide +kernel
theorem dX3_putVariable_9 : decode cX3_putVariable 9 = .ok (.iconst 1, 1) := by decide +kernel
theorem dX3_putVariable_10 : decode cX3_putVariable 10 = .ok (.aload_n 0, 1) := by decide +kernel
theorem dX3_putVariable_11 : decode cX3_putVariable 11 = .ok (.getfield 18, 3) := by decide +kernel
theorem dX3_putVariable_14 : decode cX3_putVariable 14 = .ok (.ishl, 1) := by decide +kernel
theorem dX3_putVariable_15 : decode cX3_putVariable 15 = .ok (.ior, 1) := by decide +kernel
theorem dX3_putVariable_16 : decode cX3_putVariable 16 = .ok (.putfield 22, 3) := by decide +kernel
theorem dX3_putVariable_19 : decode cX3_putVariable 19 = .ok (.aload_n 0, 1) := by decide +kernel
theorem dX3_putVariable_20 : decode cX3_putVariable 20 = .ok (.dup, 1) := by decide +kernel
theorem dX3_putVariable_21 : decode cX3_putVariable 21 = .ok (.getfield 18, 3) := by decide +kernel
theorem dX3_putVariable_24 : decode cX3_putVariable 24 = .ok (.iconst 1, 1) := by decide +kernel
theorem dX3_putVariable_25 : decode cX3_putVariable 25 = .ok (.iadd, 1) := by decide +kernel
theorem dX3_putVariable_26 : decode cX3_putVariable 26 = .ok (.putfield 18, 3) := by decide +kernel
theorem dX3_putVariable_29 : decode cX3_putVariable 29 = .ok (.return_, 1) := by decide +kernel
theorem dX3_putClause_0 : decode cX3_putClause 0 = .ok (.aload_n 0, 1) := by decide +kernel
theorem dX3_putClause_1 : decode cX3_putClause 1 = .ok (.getfield 9, 3) := by decide +kernel
theorem dX3_putClause_4 : decode cX3_putClause 4 = .ok (.aload_n 0, 1) := by decide +kernel
theorem dX3_putClause_5 : decode cX3_putClause 5 = .ok (.getfield 25, 3) := by decide +kernel
theorem dX3_putClause_8 : decode cX3_putClause 8 = .ok (.iload_n 1, 1) := by decide +kernel
theorem dX3_putClause_9 : decode cX3_putClause 9 = .ok (.invokestatic 38, 3) := by decide +kernel
theorem dX3_putClause_12 : decode cX3_putClause 12 = .ok (.aload_n 0, 1) := by decide +kernel
theorem dX3_putClause_13 : decode cX3_putClause 13 = .ok (.getfield 15, 3) := by decide +kernel
theorem dX3_putClause_16 : decode cX3_putClause 16 = .ok (.aload_n 0, 1) := by decide +kernel
theorem dX3_putClause_17 : decode cX3_putClause 17 = .ok (.getfield 25, 3) := by decide +kernel
theorem dX3_putClause_20 : decode cX3_putClause 20 = .ok (.iload_n 2, 1) := by decide +kernel
theorem dX3_putClause_21 : decode cX3_putClause 21 = .ok (.invokestatic 38, 3) := by decide +kernel
theorem dX3_putClause_24 : decode cX3_putClause 24 = .ok (.aload_n 0, 1) := by decide +kernel
theorem dX3_putClause_25 : decode cX3_putClause 25 = .ok (.dup, 1) := by decide +kernel
theorem dX3_putClause_26 : decode cX3_putClause 26 = .ok (.getfield 25, 3) := by decide +kernel
theorem dX3_putClause_29 : decode cX3_putClause 29 = .ok (.iconst 1, 1) := by decide +kernel
theorem dX3_putClause_30 : decode cX3_putClause 30 = .ok (.iadd, 1) := by decide +kernel
theorem dX3_putClause_31 : decode cX3_putClause 31 = .ok (.putfield 25, 3) := by decide +kernel
theorem dX3_putClause_34 : decode cX3_putClause 34 = .ok (.return_, 1) := by decide +kernel
theorem dX3_dropClause_0 : decode cX3_dropClause 0 = .ok (.aload_n 0, 1) := by decide +kernel
theorem dX3_dropClause_1 : decode cX3_dropClause 1 = .ok (.dup, 1) := by decide +kernel
theorem dX3_dropClause_2 : decode cX3_dropClause 2 = .ok (.getfield 25, 3) := by decide +kernel
theorem dX3_dropClause_5 : decode cX3_dropClause 5 = .ok (.iconst 1, 1) := by decide +kernel
theorem dX3_dropClause_6 : decode cX3_dropClause 6 = .ok (.isub, 1) := by decide +kernel
theorem dX3_dropClause_7 : decode cX3_dropClause 7 = .ok (.putfield 25, 3) := by decide +kernel
theorem dX3_dropClause_10 : decode cX3_dropClause 10 = .ok (.iload_n 1, 1) := by decide +kernel
theorem dX3_dropClause_11 : decode cX3_dropClause 11 = .ok (.istore_n 2, 1) := by decide +kernel
theorem dX3_dropClause_12 : decode cX3_dropClause 12 = .ok (.iload_n 2, 1) := by decide +kernel
theorem dX3_dropClause_13 : decode cX3_dropClause 13 = .ok (.aload_n 0, 1) := by decide +kernel
theorem dX3_dropClause_14 : decode cX3_dropClause 14 = .ok (.getfield 25, 3) := by decide +kernel
theorem dX3_dropClause_17 : decode cX3_dropClause 17 = .ok (.if_icmp .ge 45, 3) := by decide +kernel
theorem dX3_dropClause_20 : decode cX3_dropClause 20 = .ok (.aload_n 0, 1) := by decide +kernel
theorem dX3_dropClause_21 : decode cX3_dropClause 21 = .ok (.getfield 9, 3) := by decide +kernel
theorem dX3_dropClause_24 : decode cX3_dropClause 24 = .ok (.iload_n 2, 1) := by decide +kernel
theorem dX3_dropClause_25 : decode cX3_dropClause 25 = .ok (.aload_n 0, 1) := by decide +kernel
theorem dX3_dropClause_26 : decode cX3_dropClause 26 = .ok (.getfield 9, 3) := by decide +kernel
theorem dX3_dropClause_29 : decode cX3_dropClause 29 = .ok (.iload_n 2, 1) := by decide +kernel
theorem dX3_dropClause_30 : decode cX3_dropClause 30 = .ok (.iconst 1, 1) := by decide +kernel
theorem dX3_dropClause_31 : decode cX3_dropClause 31 = .ok (.iadd, 1) := by decide +kernel
theorem dX3_dropClause_32 : decode cX3_dropClause 32 = .ok (.invokestatic 34, 3) := by decide +kernel
theorem dX3_dropClause_35 : decode cX3_dropClause 35 = .ok (.invokestatic 38, 3) := by decide +kernel
theorem dX3_dropClause_38 : decode cX3_dropClause 38 = .ok (.aload_n 0, 1) := by decide +kernel
theorem dX3_dropClause_39 : decode cX3_dropClause 39 = .ok (.getfield 15, 3) := by decide +kernel
theorem dX3_dropClause_42 : decode cX3_dropClause 42 = .ok (.iload_n 2, 1) := by decide +kernel
theorem dX3_dropClause_43 : decode cX3_dropClause 43 = .ok (.aload_n 0, 1) := by decide +kernel
theorem dX3_dropClause_44 : decode cX3_dropClause 44 = .ok (.getfield 15, 3) := by decide +kernel
theorem dX3_dropClause_47 : decode cX3_dropClause 47 = .ok (.iload_n 2, 1) := by decide +kernel
theorem dX3_dropClause_48 : decode cX3_dropClause 48 = .ok (.iconst 1, 1) := by decide +kernel
theorem dX3_dropClause_49 : decode cX3_dropClause 49 = .ok (.iadd, 1) := by decide +kernel
theorem dX3_dropClause_50 : decode cX3_dropClause 50 = .ok (.invokestatic 34, 3) := by decide +kernel
theorem dX3_dropClause_53 : decode cX3_dropClause 53 = .ok (.invokestatic 38, 3) := by decide +kernel
theorem dX3_dropClause_56 : decode cX3_dropClause 56 = .ok (.iinc 2 1, 3) := by decide +kernel
theorem dX3_dropClause_59 : decode cX3_dropClause 59 = .ok (.goto (-47), 3) := by decide +kernel
theorem dX3_dropClause_62 : decode cX3_dropClause 62 = .ok (.return_, 1) := by decide +kernel
theorem dX3_holds_0 : decode cX3_holds 0 = .ok (.iconst 0, 1) := by decide +kernel
theorem dX3_holds_1 : decode cX3_holds 1 = .ok (.istore_n 2, 1) := by decide +kernel
theorem dX3_holds_2 : decode cX3_holds 2 = .ok (.iload_n 2, 1) := by decide +kernel
theorem dX3_holds_3 : decode cX3_holds 3 = .ok (.aload_n 0, 1) := by decide +kernel
theorem dX3_holds_4 : decode cX3_holds 4 = .ok (.getfield 25, 3) := by decide +kernel
theorem dX3_holds_7 : decode cX3_holds 7 = .ok (.if_icmp .ge 49, 3) := by decide +kernel
theorem dX3_holds_10 : decode cX3_holds 10 = .ok (.iload_n 1, 1) := by decide +kernel
theorem dX3_holds_11 : decode cX3_holds 11 = .ok (.aload_n 0, 1) := by decide +kernel
theorem dX3_holds_12 : decode cX3_holds 12 = .ok (.getfield 9, 3) := by decide +kernel
theorem dX3_holds_15 : decode cX3_holds 15 = .ok (.iload_n 2, 1) := by decide +kernel
theorem dX3_holds_16 : decode cX3_holds 16 = .ok (.invokestatic 34, 3) := by decide +kernel
theorem dX3_holds_19 : decode cX3_holds 19 = .ok (.iand, 1) := by decide +kernel
theorem dX3_holds_20 : decode cX3_holds 20 = .ok (.ifCond .ne 18, 3) := by decide +kernel
theorem dX3_holds_23 : decode cX3_holds 23 = .ok (.iload_n 1, 1) := by decide +kernel
theorem dX3_holds_24 : decode cX3_holds 24 = .ok (.iconst (-1), 1) := by decide +kernel
theorem dX3_holds_25 : decode cX3_holds 25 = .ok (.ixor, 1) := by decide +kernel
theorem dX3_holds_26 : decode cX3_holds 26 = .ok (.aload_n 0, 1) := by decide +kernel
theorem dX3_holds_27 : decode cX3_holds 27 = .ok (.getfield 15, 3) := by decide +kernel
theorem dX3_holds_30 : decode cX3_holds 30 = .ok (.iload_n 2, 1) := by decide +kernel
theorem dX3_holds_31 : decode cX3_holds 31 = .ok (.invokestatic 34, 3) := by decide +kernel
theorem dX3_holds_34 : decode cX3_holds 34 = .ok (.iand, 1) := by decide +kernel
theorem dX3_holds_35 : decode cX3_holds 35 = .ok (.ifCond .eq 7, 3) := by decide +kernel
theorem dX3_holds_38 : decode cX3_holds 38 = .ok (.iconst 1, 1) := by decide +kernel
theorem dX3_holds_39 : decode cX3_holds 39 = .ok (.goto 4, 3) := by decide +kernel
theorem dX3_holds_42 : decode cX3_holds 42 = .ok (.iconst 0, 1) := by decide +kernel
theorem dX3_holds_43 : decode cX3_holds 43 = .ok (.istore_n 3, 1) := by decide +kernel
theorem dX3_holds_44 : decode cX3_holds 44 = .ok (.iload_n 3, 1) := by decide +kernel
theorem dX3_holds_45 : decode cX3_holds 45 = .ok (.ifCond .ne 5, 3) := by decide +kernel
theorem dX3_holds_48 : decode cX3_holds 48 = .ok (.iconst 0, 1) := by decide +kernel
theorem dX3_holds_49 : decode cX3_holds 49 = .ok (.ireturn, 1) := by decide +kernel
theorem dX3_holds_50 : decode cX3_holds 50 = .ok (.iinc 2 1, 3) := by decide +kernel
theorem dX3_holds_53 : decode cX3_holds 53 = .ok (.goto (-51), 3) := by decide +kernel
theorem dX3_holds_56 : decode cX3_holds 56 = .ok (.iconst 1, 1) := by decide +kernel
theorem dX3_holds_57 : decode cX3_holds 57 = .ok (.ireturn, 1) := by decide +kernel
theorem dX3_playIn_0 : decode cX3_playIn 0 = .ok (.iconst 0, 1) := by decide +kernel
theorem dX3_playIn_1 : decode cX3_playIn 1 = .ok (.istore_n 2, 1) := by decide +kernel
theorem dX3_playIn_2 : decode cX3_playIn 2 = .ok (.iconst 0, 1) := by decide +kernel
theorem dX3_playIn_3 : decode cX3_playIn 3 = .ok (.istore_n 3, 1) := by decide +kernel
theorem dX3_playIn_4 : decode cX3_playIn 4 = .ok (.iconst 0, 1) := by decide +kernel
theorem dX3_playIn_5 : decode cX3_playIn 5 = .ok (.istore 4, 2) := by decide +kernel
theorem dX3_playIn_7 : decode cX3_playIn 7 = .ok (.iload 4, 2) := by decide +kernel
theorem dX3_playIn_9 : decode cX3_playIn 9 = .ok (.aload_n 0, 1) := by decide +kernel
theorem dX3_playIn_10 : decode cX3_playIn 10 = .ok (.getfield 18, 3) := by decide +kernel
theorem dX3_playIn_13 : decode cX3_playIn 13 = .ok (.if_icmp .ge 33, 3) := by decide +kernel
theorem dX3_playIn_16 : decode cX3_playIn 16 = .ok (.aload_n 0, 1) := by decide +kernel
theorem dX3_playIn_17 : decode cX3_playIn 17 = .ok (.iload 4, 2) := by decide +kernel
theorem dX3_playIn_19 : decode cX3_playIn 19 = .ok (.invokevirtual 56, 3) := by decide +kernel
theorem dX3_playIn_22 : decode cX3_playIn 22 = .ok (.iconst 1, 1) := by decide +kernel
theorem dX3_playIn_23 : decode cX3_playIn 23 = .ok (.if_icmp .ne 17, 3) := by decide +kernel
theorem dX3_playIn_26 : decode cX3_playIn 26 = .ok (.iload_n 2, 1) := by decide +kernel
theorem dX3_playIn_27 : decode cX3_playIn 27 = .ok (.iload_n 1, 1) := by decide +kernel
theorem dX3_playIn_28 : decode cX3_playIn 28 = .ok (.iload 4, 2) := by decide +kernel
theorem dX3_playIn_30 : decode cX3_playIn 30 = .ok (.invokestatic 52, 3) := by decide +kernel
theorem dX3_playIn_33 : decode cX3_playIn 33 = .ok (.iload_n 3, 1) := by decide +kernel
theorem dX3_playIn_34 : decode cX3_playIn 34 = .ok (.ishl, 1) := by decide +kernel
theorem dX3_playIn_35 : decode cX3_playIn 35 = .ok (.ior, 1) := by decide +kernel
theorem dX3_playIn_36 : decode cX3_playIn 36 = .ok (.istore_n 2, 1) := by decide +kernel
theorem dX3_playIn_37 : decode cX3_playIn 37 = .ok (.iinc 3 1, 3) := by decide +kernel
theorem dX3_playIn_40 : decode cX3_playIn 40 = .ok (.iinc 4 1, 3) := by decide +kernel
theorem dX3_playIn_43 : decode cX3_playIn 43 = .ok (.goto (-36), 3) := by decide +kernel
theorem dX3_playIn_46 : decode cX3_playIn 46 = .ok (.iload_n 2, 1) := by decide +kernel
theorem dX3_playIn_47 : decode cX3_playIn 47 = .ok (.ireturn, 1) := by decide +kernel
theorem dX4_init_0 : decode cX4_init 0 = .ok (.aload_n 0, 1) := by decide +kernel
theorem dX4_init_1 : decode cX4_init 1 = .ok (.invokespecial 1, 3) := by decide +kernel
theorem dX4_init_4 : decode cX4_init 4 = .ok (.aload_n 0, 1) := by decide +kernel
theorem dX4_init_5 : decode cX4_init 5 = .ok (.new 7, 3) := by decide +kernel
theorem dX4_init_8 : decode cX4_init 8 = .ok (.dup, 1) := by decide +kernel
theorem dX4_init_9 : decode cX4_init 9 = .ok (.invokespecial 9, 3) := by decide +kernel
theorem dX4_init_12 : decode cX4_init 12 = .ok (.putfield 10, 3) := by decide +kernel
theorem dX4_init_15 : decode cX4_init 15 = .ok (.aload_n 0, 1) := by decide +kernel
theorem dX4_init_16 : decode cX4_init 16 = .ok (.new 16, 3) := by decide +kernel
theorem dX4_init_19 : decode cX4_init 19 = .ok (.dup, 1) := by decide +kernel
theorem dX4_init_20 : decode cX4_init 20 = .ok (.invokespecial 18, 3) := by decide +kernel
theorem dX4_init_23 : decode cX4_init 23 = .ok (.putfield 19, 3) := by decide +kernel
theorem dX4_init_26 : decode cX4_init 26 = .ok (.aload_n 0, 1) := by decide +kernel
theorem dX4_init_27 : decode cX4_init 27 = .ok (.new 23, 3) := by decide +kernel
theorem dX4_init_30 : decode cX4_init 30 = .ok (.dup, 1) := by decide +kernel
theorem dX4_init_31 : decode cX4_init 31 = .ok (.invokespecial 25, 3) := by decide +kernel
theorem dX4_init_34 : decode cX4_init 34 = .ok (.putfield 26, 3) := by decide +kernel
theorem dX4_init_37 : decode cX4_init 37 = .ok (.aload_n 0, 1) := by decide +kernel
theorem dX4_init_38 : decode cX4_init 38 = .ok (.new 30, 3) := by decide +kernel
theorem dX4_init_41 : decode cX4_init 41 = .ok (.dup, 1) := by decide +kernel
theorem dX4_init_42 : decode cX4_init 42 = .ok (.invokespecial 32, 3) := by decide +kernel
theorem dX4_init_45 : decode cX4_init 45 = .ok (.putfield 33, 3) := by decide +kernel
theorem dX4_init_48 : decode cX4_init 48 = .ok (.return_, 1) := by decide +kernel
theorem dX4_begin_0 : decode cX4_begin 0 = .ok (.aload_n 0, 1) := by decide +kernel
theorem dX4_begin_1 : decode cX4_begin 1 = .ok (.getfield 10, 3) := by decide +kernel
theorem dX4_begin_4 : decode cX4_begin 4 = .ok (.getfield 37, 3) := by decide +kernel
theorem dX4_begin_7 : decode cX4_begin 7 = .ok (.istore_n 1, 1) := by decide +kernel
theorem dX4_begin_8 : decode cX4_begin 8 = .ok (.aload_n 0, 1) := by decide +kernel
theorem dX4_begin_9 : decode cX4_begin 9 = .ok (.getfield 19, 3) := by decide +kernel
theorem dX4_begin_12 : decode cX4_begin 12 = .ok (.aload_n 0, 1) := by decide +kernel
theorem dX4_begin_13 : decode cX4_begin 13 = .ok (.getfield 10, 3) := by decide +kernel
theorem dX4_begin_16 : decode cX4_begin 16 = .ok (.invokevirtual 41, 3) := by decide +kernel
theorem dX4_begin_19 : decode cX4_begin 19 = .ok (.aload_n 0, 1) := by decide +kernel
theorem dX4_begin_20 : decode cX4_begin 20 = .ok (.getfield 10, 3) := by decide +kernel
theorem dX4_begin_23 : decode cX4_begin 23 = .ok (.invokevirtual 45, 3) := by decide +kernel
theorem dX4_begin_26 : decode cX4_begin 26 = .ok (.aload_n 0, 1) := by decide +kernel
theorem dX4_begin_27 : decode cX4_begin 27 = .ok (.getfield 26, 3) := by decide +kernel
theorem dX4_begin_30 : decode cX4_begin 30 = .ok (.iconst 1, 1) := by decide +kernel
theorem dX4_begin_31 : decode cX4_begin 31 = .ok (.putfield 48, 3) := by decide +kernel
theorem dX4_begin_34 : decode cX4_begin 34 = .ok (.iload_n 1, 1) := by decide +kernel
theorem dX4_begin_35 : decode cX4_begin 35 = .ok (.ireturn, 1) := by decide +kernel
theorem dX4_addVariable_0 : decode cX4_addVariable 0 = .ok (.aload_n 0, 1) := by decide +kernel
theorem dX4_addVariable_1 : decode cX4_addVariable 1 = .ok (.getfield 10, 3) := by decide +kernel
theorem dX4_addVariable_4 : decode cX4_addVariable 4 = .ok (.iload_n 1, 1) := by decide +kernel
theorem dX4_addVariable_5 : decode cX4_addVariable 5 = .ok (.invokevirtual 52, 3) := by decide +kernel
theorem dX4_addVariable_8 : decode cX4_addVariable 8 = .ok (.ifCond .ne 13, 3) := by decide +kernel
theorem dX4_addVariable_11 : decode cX4_addVariable 11 = .ok (.new 56, 3) := by decide +kernel
theorem dX4_addVariable_14 : decode cX4_addVariable 14 = .ok (.dup, 1) := by decide +kernel
theorem dX4_addVariable_15 : decode cX4_addVariable 15 = .ok (.ldc 58, 2) := by decide +kernel
theorem dX4_addVariable_17 : decode cX4_addVariable 17 = .ok (.invokespecial 60, 3) := by decide +kernel
theorem dX4_addVariable_20 : decode cX4_addVariable 20 = .ok (.athrow, 1) := by decide +kernel
theorem dX4_addVariable_21 : decode cX4_addVariable 21 = .ok (.aload_n 0, 1) := by decide +kernel
theorem dX4_addVariable_22 : decode cX4_addVariable 22 = .ok (.getfield 19, 3) := by decide +kernel
theorem dX4_addVariable_25 : decode cX4_addVariable 25 = .ok (.aload_n 0, 1) := by decide +kernel
theorem dX4_addVariable_26 : decode cX4_addVariable 26 = .ok (.getfield 10, 3) := by decide +kernel
theorem dX4_addVariable_29 : decode cX4_addVariable 29 = .ok (.invokevirtual 41, 3) := by decide +kernel
theorem dX4_addVariable_32 : decode cX4_addVariable 32 = .ok (.aload_n 0, 1) := by decide +kernel
theorem dX4_addVariable_33 : decode cX4_addVariable 33 = .ok (.iload_n 1, 1) := by decide +kernel
theorem dX4_addVariable_34 : decode cX4_addVariable 34 = .ok (.invokevirtual 63, 3) := by decide +kernel
theorem dX4_addVariable_37 : decode cX4_addVariable 37 = .ok (.aload_n 0, 1) := by decide +kernel
theorem dX4_addVariable_38 : decode cX4_addVariable 38 = .ok (.getfield 10, 3) := by decide +kernel
theorem dX4_addVariable_41 : decode cX4_addVariable 41 = .ok (.getfield 37, 3) := by decide +kernel
theorem dX4_addVariable_44 : decode cX4_addVariable 44 = .ok (.iconst 1, 1) := by decide +kernel
theorem dX4_addVariable_45 : decode cX4_addVariable 45 = .ok (.isub, 1) := by decide +kernel
theorem dX4_addVariable_46 : decode cX4_addVariable 46 = .ok (.ireturn, 1) := by decide +kernel
theorem dX4_addClause_0 : decode cX4_addClause 0 = .ok (.aload_n 0, 1) := by decide +kernel
theorem dX4_addClause_1 : decode cX4_addClause 1 = .ok (.getfield 10, 3) := by decide +kernel
theorem dX4_addClause_4 : decode cX4_addClause 4 = .ok (.iload_n 1, 1) := by decide +kernel
theorem dX4_addClause_5 : decode cX4_addClause 5 = .ok (.invokevirtual 67, 3) := by decide +kernel
theorem dX4_addClause_8 : decode cX4_addClause 8 = .ok (.ifCond .eq 14, 3) := by decide +kernel
theorem dX4_addClause_11 : decode cX4_addClause 11 = .ok (.aload_n 0, 1) := by decide +kernel
theorem dX4_addClause_12 : decode cX4_addClause 12 = .ok (.getfield 10, 3) := by decide +kernel
theorem dX4_addClause_15 : decode cX4_addClause 15 = .ok (.iload_n 2, 1) := by decide +kernel
theorem dX4_addClause_16 : decode cX4_addClause 16 = .ok (.invokevirtual 67, 3) := by decide +kernel
theorem dX4_addClause_19 : decode cX4_addClause 19 = .ok (.ifCond .ne 13, 3) := by decide +kernel
theorem dX4_addClause_22 : decode cX4_addClause 22 = .ok (.new 71, 3) := by decide +kernel
theorem dX4_addClause_25 : decode cX4_addClause 25 = .ok (.dup, 1) := by decide +kernel
theorem dX4_addClause_26 : decode cX4_addClause 26 = .ok (.ldc 73, 2) := by decide +kernel
theorem dX4_addClause_28 : decode cX4_addClause 28 = .ok (.invokespecial 75, 3) := by decide +kernel
theorem dX4_addClause_31 : decode cX4_addClause 31 = .ok (.athrow, 1) := by decide +kernel
theorem dX4_addClause_32 : decode cX4_addClause 32 = .ok (.aload_n 0, 1) := by decide +kernel
theorem dX4_addClause_33 : decode cX4_addClause 33 = .ok (.getfield 10, 3) := by decide +kernel
theorem dX4_addClause_36 : decode cX4_addClause 36 = .ok (.getfield 76, 3) := by decide +kernel
theorem dX4_addClause_39 : decode cX4_addClause 39 = .ok (.bipush 20, 2) := by decide +kernel
theorem dX4_addClause_41 : decode cX4_addClause 41 = .ok (.if_icmp .lt 13, 3) := by decide +kernel
theorem dX4_addClause_44 : decode cX4_addClause 44 = .ok (.new 56, 3) := by decide +kernel
theorem dX4_addClause_47 : decode cX4_addClause 47 = .ok (.dup, 1) := by decide +kernel
theorem dX4_addClause_48 : decode cX4_addClause 48 = .ok (.ldc 79, 2) := by decide +kernel
theorem dX4_addClause_50 : decode cX4_addClause 50 = .ok (.invokespecial 60, 3) := by decide +kernel
theorem dX4_addClause_53 : decode cX4_addClause 53 = .ok (.athrow, 1) := by decide +kernel
theorem dX4_addClause_54 : decode cX4_addClause 54 = .ok (.aload_n 0, 1) := by decide +kernel
theorem dX4_addClause_55 : decode cX4_addClause 55 = .ok (.getfield 19, 3) := by decide +kernel
theorem dX4_addClause_58 : decode cX4_addClause 58 = .ok (.aload_n 0, 1) := by decide +kernel
theorem dX4_addClause_59 : decode cX4_addClause 59 = .ok (.getfield 10, 3) := by decide +kernel
theorem dX4_addClause_62 : decode cX4_addClause 62 = .ok (.invokevirtual 41, 3) := by decide +kernel
theorem dX4_addClause_65 : decode cX4_addClause 65 = .ok (.aload_n 0, 1) := by decide +kernel
theorem dX4_addClause_66 : decode cX4_addClause 66 = .ok (.iload_n 1, 1) := by decide +kernel
theorem dX4_addClause_67 : decode cX4_addClause 67 = .ok (.iload_n 2, 1) := by decide +kernel
theorem dX4_addClause_68 : decode cX4_addClause 68 = .ok (.invokevirtual 81, 3) := by decide +kernel
theorem dX4_addClause_71 : decode cX4_addClause 71 = .ok (.aload_n 0, 1) := by decide +kernel
theorem dX4_addClause_72 : decode cX4_addClause 72 = .ok (.getfield 10, 3) := by decide +kernel
theorem dX4_addClause_75 : decode cX4_addClause 75 = .ok (.getfield 76, 3) := by decide +kernel
theorem dX4_addClause_78 : decode cX4_addClause 78 = .ok (.iconst 1, 1) := by decide +kernel
theorem dX4_addClause_79 : decode cX4_addClause 79 = .ok (.isub, 1) := by decide +kernel
theorem dX4_addClause_80 : decode cX4_addClause 80 = .ok (.ireturn, 1) := by decide +kernel
theorem dX4_removeClause_0 : decode cX4_removeClause 0 = .ok (.aload_n 0, 1) := by decide +kernel
theorem dX4_removeClause_1 : decode cX4_removeClause 1 = .ok (.iload_n 1, 1) := by decide +kernel
theorem dX4_removeClause_2 : decode cX4_removeClause 2 = .ok (.invokevirtual 85, 3) := by decide +kernel
theorem dX4_removeClause_5 : decode cX4_removeClause 5 = .ok (.aload_n 0, 1) := by decide +kernel
theorem dX4_removeClause_6 : decode cX4_removeClause 6 = .ok (.getfield 19, 3) := by decide +kernel
theorem dX4_removeClause_9 : decode cX4_removeClause 9 = .ok (.aload_n 0, 1) := by decide +kernel
theorem dX4_removeClause_10 : decode cX4_removeClause 10 = .ok (.getfield 10, 3) := by decide +kernel
theorem dX4_removeClause_13 : decode cX4_removeClause 13 = .ok (.invokevirtual 41, 3) := by decide +kernel
theorem dX4_removeClause_16 : decode cX4_removeClause 16 = .ok (.aload_n 0, 1) := by decide +kernel
theorem dX4_removeClause_17 : decode cX4_removeClause 17 = .ok (.getfield 10, 3) := by decide +kernel
theorem dX4_removeClause_20 : decode cX4_removeClause 20 = .ok (.iload_n 1, 1) := by decide +kernel
theorem dX4_removeClause_21 : decode cX4_removeClause 21 = .ok (.invokevirtual 89, 3) := by decide +kernel
theorem dX4_removeClause_24 : decode cX4_removeClause 24 = .ok (.aload_n 0, 1) := by decide +kernel
theorem dX4_removeClause_25 : decode cX4_removeClause 25 = .ok (.invokevirtual 92, 3) := by decide +kernel
theorem dX4_removeClause_28 : decode cX4_removeClause 28 = .ok (.aload_n 0, 1) := by decide +kernel
theorem dX4_removeClause_29 : decode cX4_removeClause 29 = .ok (.getfield 10, 3) := by decide +kernel
theorem dX4_removeClause_32 : decode cX4_removeClause 32 = .ok (.getfield 76, 3) := by decide +kernel
theorem dX4_removeClause_35 : decode cX4_removeClause 35 = .ok (.ireturn, 1) := by decide +kernel
theorem dX4_learn_0 : decode cX4_learn 0 = .ok (.aload_n 0, 1) := by decide +kernel
theorem dX4_learn_1 : decode cX4_learn 1 = .ok (.iload_n 1, 1) := by decide +kernel
theorem dX4_learn_2 : decode cX4_learn 2 = .ok (.invokevirtual 95, 3) := by decide +kernel
theorem dX4_learn_5 : decode cX4_learn 5 = .ok (.aload_n 0, 1) := by decide +kernel
theorem dX4_learn_6 : decode cX4_learn 6 = .ok (.getfield 10, 3) := by decide +kernel
theorem dX4_learn_9 : decode cX4_learn 9 = .ok (.iload_n 1, 1) := by decide +kernel
theorem dX4_learn_10 : decode cX4_learn 10 = .ok (.invokevirtual 98, 3) := by decide +kernel
theorem dX4_learn_13 : decode cX4_learn 13 = .ok (.ifCond .eq 13, 3) := by decide +kernel
theorem dX4_learn_16 : decode cX4_learn 16 = .ok (.new 56, 3) := by decide +kernel
theorem dX4_learn_19 : decode cX4_learn 19 = .ok (.dup, 1) := by decide +kernel
theorem dX4_learn_20 : decode cX4_learn 20 = .ok (.ldc 101, 2) := by decide +kernel
theorem dX4_learn_22 : decode cX4_learn 22 = .ok (.invokespecial 60, 3) := by decide +kernel
theorem dX4_learn_25 : decode cX4_learn 25 = .ok (.athrow, 1) := by decide +kernel
theorem dX4_learn_26 : decode cX4_learn 26 = .ok (.aload_n 0, 1) := by decide +kernel
theorem dX4_learn_27 : decode cX4_learn 27 = .ok (.getfield 19, 3) := by decide +kernel
theorem dX4_learn_30 : decode cX4_learn 30 = .ok (.aload_n 0, 1) := by decide +kernel
theorem dX4_learn_31 : decode cX4_learn 31 = .ok (.getfield 10, 3) := by decide +kernel
theorem dX4_learn_34 : decode cX4_learn 34 = .ok (.invokevirtual 41, 3) := by decide +kernel
theorem dX4_learn_37 : decode cX4_learn 37 = .ok (.aload_n 0, 1) := by decide +kernel
theorem dX4_learn_38 : decode cX4_learn 38 = .ok (.getfield 10, 3) := by decide +kernel
theorem dX4_learn_41 : decode cX4_learn 41 = .ok (.dup, 1) := by decide +kernel
theorem dX4_learn_42 : decode cX4_learn 42 = .ok (.getfield 103, 3) := by decide +kernel
theorem dX4_learn_45 : decode cX4_learn 45 = .ok (.iconst 1, 1) := by decide +kernel
theorem dX4_learn_46 : decode cX4_learn 46 = .ok (.iload_n 1, 1) := by decide +kernel
theorem dX4_learn_47 : decode cX4_learn 47 = .ok (.ishl, 1) := by decide +kernel
theorem dX4_learn_48 : decode cX4_learn 48 = .ok (.ior, 1) := by decide +kernel
theorem dX4_learn_49 : decode cX4_learn 49 = .ok (.putfield 103, 3) := by decide +kernel
theorem dX4_learn_52 : decode cX4_learn 52 = .ok (.aload_n 0, 1) := by decide +kernel
theorem dX4_learn_53 : decode cX4_learn 53 = .ok (.getfield 10, 3) := by decide +kernel
theorem dX4_learn_56 : decode cX4_learn 56 = .ok (.getfield 103, 3) := by decide +kernel
theorem dX4_learn_59 : decode cX4_learn 59 = .ok (.invokestatic 106, 3) := by decide +kernel
theorem dX4_learn_62 : decode cX4_learn 62 = .ok (.ireturn, 1) := by decide +kernel
theorem dX4_forget_0 : decode cX4_forget 0 = .ok (.aload_n 0, 1) := by decide +kernel
theorem dX4_forget_1 : decode cX4_forget 1 = .ok (.getfield 10, 3) := by decide +kernel
theorem dX4_forget_4 : decode cX4_forget 4 = .ok (.getfield 103, 3) := by decide +kernel
theorem dX4_forget_7 : decode cX4_forget 7 = .ok (.invokestatic 106, 3) := by decide +kernel
theorem dX4_forget_10 : decode cX4_forget 10 = .ok (.istore_n 1, 1) := by decide +kernel
theorem dX4_forget_11 : decode cX4_forget 11 = .ok (.aload_n 0, 1) := by decide +kernel
theorem dX4_forget_12 : decode cX4_forget 12 = .ok (.getfield 19, 3) := by decide +kernel
theorem dX4_forget_15 : decode cX4_forget 15 = .ok (.aload_n 0, 1) := by decide +kernel
theorem dX4_forget_16 : decode cX4_forget 16 = .ok (.getfield 10, 3) := by decide +kernel
theorem dX4_forget_19 : decode cX4_forget 19 = .ok (.invokevirtual 41, 3) := by decide +kernel
theorem dX4_forget_22 : decode cX4_forget 22 = .ok (.aload_n 0, 1) := by decide +kernel
theorem dX4_forget_23 : decode cX4_forget 23 = .ok (.getfield 10, 3) := by decide +kernel
theorem dX4_forget_26 : decode cX4_forget 26 = .ok (.iconst 0, 1) := by decide +kernel
theorem dX4_forget_27 : decode cX4_forget 27 = .ok (.putfield 103, 3) := by decide +kernel
theorem dX4_forget_30 : decode cX4_forget 30 = .ok (.iload_n 1, 1) := by decide +kernel
theorem dX4_forget_31 : decode cX4_forget 31 = .ok (.ireturn, 1) := by decide +kernel
theorem dX4_round_0 : decode cX4_round 0 = .ok (.aload_n 0, 1) := by decide +kernel
theorem dX4_round_1 : decode cX4_round 1 = .ok (.getfield 19, 3) := by decide +kernel
theorem dX4_round_4 : decode cX4_round 4 = .ok (.aload_n 0, 1) := by decide +kernel
theorem dX4_round_5 : decode cX4_round 5 = .ok (.getfield 10, 3) := by decide +kernel
theorem dX4_round_8 : decode cX4_round 8 = .ok (.invokevirtual 41, 3) := by decide +kernel
theorem dX4_round_11 : decode cX4_round 11 = .ok (.aload_n 0, 1) := by decide +kernel
theorem dX4_round_12 : decode cX4_round 12 = .ok (.invokevirtual 112, 3) := by decide +kernel
theorem dX4_round_15 : decode cX4_round 15 = .ok (.ireturn, 1) := by decide +kernel
theorem dX4_learnAll_0 : decode cX4_learnAll 0 = .ok (.aload_n 0, 1) := by decide +kernel
theorem dX4_learnAll_1 : decode cX4_learnAll 1 = .ok (.getfield 19, 3) := by decide +kernel
theorem dX4_learnAll_4 : decode cX4_learnAll 4 = .ok (.aload_n 0, 1) := by decide +kernel
theorem dX4_learnAll_5 : decode cX4_learnAll 5 = .ok (.getfield 10, 3) := by decide +kernel
theorem dX4_learnAll_8 : decode cX4_learnAll 8 = .ok (.invokevirtual 41, 3) := by decide +kernel
theorem dX4_learnAll_11 : decode cX4_learnAll 11 = .ok (.aload_n 0, 1) := by decide +kernel
theorem dX4_learnAll_12 : decode cX4_learnAll 12 = .ok (.getfield 10, 3) := by decide +kernel
theorem dX4_learnAll_15 : decode cX4_learnAll 15 = .ok (.invokevirtual 116, 3) := by decide +kernel
theorem dX4_learnAll_18 : decode cX4_learnAll 18 = .ok (.istore_n 1, 1) := by decide +kernel
theorem dX4_learnAll_19 : decode cX4_learnAll 19 = .ok (.iconst 0, 1) := by decide +kernel
theorem dX4_learnAll_20 : decode cX4_learnAll 20 = .ok (.istore_n 2, 1) := by decide +kernel
theorem dX4_learnAll_21 : decode cX4_learnAll 21 = .ok (.iload_n 2, 1) := by decide +kernel
theorem dX4_learnAll_22 : decode cX4_learnAll 22 = .ok (.iload_n 1, 1) := by decide +kernel
theorem dX4_learnAll_23 : decode cX4_learnAll 23 = .ok (.if_icmp .gt 16, 3) := by decide +kernel
theorem dX4_learnAll_26 : decode cX4_learnAll 26 = .ok (.aload_n 0, 1) := by decide +kernel
theorem dX4_learnAll_27 : decode cX4_learnAll 27 = .ok (.invokevirtual 112, 3) := by decide +kernel
theorem dX4_learnAll_30 : decode cX4_learnAll 30 = .ok (.ifCond .lt 9, 3) := by decide +kernel
theorem dX4_learnAll_33 : decode cX4_learnAll 33 = .ok (.iinc 2 1, 3) := by decide +kernel
theorem dX4_learnAll_36 : decode cX4_learnAll 36 = .ok (.goto (-15), 3) := by decide +kernel
theorem dX4_learnAll_39 : decode cX4_learnAll 39 = .ok (.iload_n 2, 1) := by decide +kernel
theorem dX4_learnAll_40 : decode cX4_learnAll 40 = .ok (.ireturn, 1) := by decide +kernel
theorem dX4_isBreakers_0 : decode cX4_isBreakers 0 = .ok (.aload_n 0, 1) := by decide +kernel
theorem dX4_isBreakers_1 : decode cX4_isBreakers 1 = .ok (.iload_n 1, 1) := by decide +kernel
theorem dX4_isBreakers_2 : decode cX4_isBreakers 2 = .ok (.invokevirtual 119, 3) := by decide +kernel
theorem dX4_isBreakers_5 : decode cX4_isBreakers 5 = .ok (.aload_n 0, 1) := by decide +kernel
theorem dX4_isBreakers_6 : decode cX4_isBreakers 6 = .ok (.getfield 10, 3) := by decide +kernel
theorem dX4_isBreakers_9 : decode cX4_isBreakers 9 = .ok (.iload_n 1, 1) := by decide +kernel
theorem dX4_isBreakers_10 : decode cX4_isBreakers 10 = .ok (.invokevirtual 122, 3) := by decide +kernel
theorem dX4_isBreakers_13 : decode cX4_isBreakers 13 = .ok (.iconst 1, 1) := by decide +kernel
theorem dX4_isBreakers_14 : decode cX4_isBreakers 14 = .ok (.if_icmp .ne 7, 3) := by decide +kernel
theorem dX4_isBreakers_17 : decode cX4_isBreakers 17 = .ok (.iconst 1, 1) := by decide +kernel
theorem dX4_isBreakers_18 : decode cX4_isBreakers 18 = .ok (.goto 4, 3) := by decide +kernel
theorem dX4_isBreakers_21 : decode cX4_isBreakers 21 = .ok (.iconst 0, 1) := by decide +kernel
theorem dX4_isBreakers_22 : decode cX4_isBreakers 22 = .ok (.ireturn, 1) := by decide +kernel
theorem dX4_clause_0 : decode cX4_clause 0 = .ok (.aload_n 0, 1) := by decide +kernel
theorem dX4_clause_1 : decode cX4_clause 1 = .ok (.iload_n 1, 1) := by decide +kernel
theorem dX4_clause_2 : decode cX4_clause 2 = .ok (.invokevirtual 85, 3) := by decide +kernel
theorem dX4_clause_5 : decode cX4_clause 5 = .ok (.iload_n 2, 1) := by decide +kernel
theorem dX4_clause_6 : decode cX4_clause 6 = .ok (.ifCond .lt 8, 3) := by decide +kernel
theorem dX4_clause_9 : decode cX4_clause 9 = .ok (.iload_n 2, 1) := by decide +kernel
theorem dX4_clause_10 : decode cX4_clause 10 = .ok (.iconst 2, 1) := by decide +kernel
theorem dX4_clause_11 : decode cX4_clause 11 = .ok (.if_icmp .le 13, 3) := by decide +kernel
theorem dX4_clause_14 : decode cX4_clause 14 = .ok (.new 71, 3) := by decide +kernel
theorem dX4_clause_17 : decode cX4_clause 17 = .ok (.dup, 1) := by decide +kernel
theorem dX4_clause_18 : decode cX4_clause 18 = .ok (.ldc 125, 2) := by decide +kernel
theorem dX4_clause_20 : decode cX4_clause 20 = .ok (.invokespecial 75, 3) := by decide +kernel
theorem dX4_clause_23 : decode cX4_clause 23 = .ok (.athrow, 1) := by decide +kernel
theorem dX4_clause_24 : decode cX4_clause 24 = .ok (.aload_n 0, 1) := by decide +kernel
theorem dX4_clause_25 : decode cX4_clause 25 = .ok (.getfield 10, 3) := by decide +kernel
theorem dX4_clause_28 : decode cX4_clause 28 = .ok (.getfield 127, 3) := by decide +kernel
theorem dX4_clause_31 : decode cX4_clause 31 = .ok (.iload_n 1, 1) := by decide +kernel
theorem dX4_clause_32 : decode cX4_clause 32 = .ok (.invokestatic 131, 3) := by decide +kernel
theorem dX4_clause_35 : decode cX4_clause 35 = .ok (.istore_n 3, 1) := by decide +kernel
theorem dX4_clause_36 : decode cX4_clause 36 = .ok (.aload_n 0, 1) := by decide +kernel
theorem dX4_clause_37 : decode cX4_clause 37 = .ok (.getfield 10, 3) := by decide +kernel
theorem dX4_clause_40 : decode cX4_clause 40 = .ok (.getfield 135, 3) := by decide +kernel
theorem dX4_clause_43 : decode cX4_clause 43 = .ok (.iload_n 1, 1) := by decide +kernel
theorem dX4_clause_44 : decode cX4_clause 44 = .ok (.invokestatic 131, 3) := by decide +kernel
theorem dX4_clause_47 : decode cX4_clause 47 = .ok (.istore 4, 2) := by decide +kernel
theorem dX4_clause_49 : decode cX4_clause 49 = .ok (.iload_n 2, 1) := by decide +kernel
theorem dX4_clause_50 : decode cX4_clause 50 = .ok (.ifCond .ne 5, 3) := by decide +kernel
theorem dX4_clause_53 : decode cX4_clause 53 = .ok (.iload_n 3, 1) := by decide +kernel
theorem dX4_clause_54 : decode cX4_clause 54 = .ok (.ireturn, 1) := by decide +kernel
theorem dX4_clause_55 : decode cX4_clause 55 = .ok (.iload_n 2, 1) := by decide +kernel
theorem dX4_clause_56 : decode cX4_clause 56 = .ok (.iconst 1, 1) := by decide +kernel
theorem dX4_clause_57 : decode cX4_clause 57 = .ok (.if_icmp .ne 6, 3) := by decide +kernel
theorem dX4_clause_60 : decode cX4_clause 60 = .ok (.iload 4, 2) := by decide +kernel
theorem dX4_clause_62 : decode cX4_clause 62 = .ok (.ireturn, 1) := by decide +kernel
theorem dX4_clause_63 : decode cX4_clause 63 = .ok (.iload_n 3, 1) := by decide +kernel
theorem dX4_clause_64 : decode cX4_clause 64 = .ok (.iload 4, 2) := by decide +kernel
theorem dX4_clause_66 : decode cX4_clause 66 = .ok (.iand, 1) := by decide +kernel
theorem dX4_clause_67 : decode cX4_clause 67 = .ok (.ifCond .eq 7, 3) := by decide +kernel
theorem dX4_clause_70 : decode cX4_clause 70 = .ok (.iconst 1, 1) := by decide +kernel
theorem dX4_clause_71 : decode cX4_clause 71 = .ok (.goto 4, 3) := by decide +kernel
theorem dX4_clause_74 : decode cX4_clause 74 = .ok (.iconst 0, 1) := by decide +kernel
theorem dX4_clause_75 : decode cX4_clause 75 = .ok (.ireturn, 1) := by decide +kernel
theorem dX4_isTrue_0 : decode cX4_isTrue 0 = .ok (.aload_n 0, 1) := by decide +kernel
theorem dX4_isTrue_1 : decode cX4_isTrue 1 = .ok (.getfield 10, 3) := by decide +kernel
theorem dX4_isTrue_4 : decode cX4_isTrue 4 = .ok (.iload_n 1, 1) := by decide +kernel
theorem dX4_isTrue_5 : decode cX4_isTrue 5 = .ok (.invokevirtual 67, 3) := by decide +kernel
theorem dX4_isTrue_8 : decode cX4_isTrue 8 = .ok (.ifCond .ne 13, 3) := by decide +kernel
theorem dX4_isTrue_11 : decode cX4_isTrue 11 = .ok (.new 71, 3) := by decide +kernel
theorem dX4_isTrue_14 : decode cX4_isTrue 14 = .ok (.dup, 1) := by decide +kernel
theorem dX4_isTrue_15 : decode cX4_isTrue 15 = .ok (.ldc 138, 2) := by decide +kernel
theorem dX4_isTrue_17 : decode cX4_isTrue 17 = .ok (.invokespecial 75, 3) := by decide +kernel
theorem dX4_isTrue_20 : decode cX4_isTrue 20 = .ok (.athrow, 1) := by decide +kernel
theorem dX4_isTrue_21 : decode cX4_isTrue 21 = .ok (.aload_n 0, 1) := by decide +kernel
theorem dX4_isTrue_22 : decode cX4_isTrue 22 = .ok (.getfield 10, 3) := by decide +kernel
theorem dX4_isTrue_25 : decode cX4_isTrue 25 = .ok (.iload_n 1, 1) := by decide +kernel
theorem dX4_isTrue_26 : decode cX4_isTrue 26 = .ok (.invokevirtual 140, 3) := by decide +kernel
theorem dX4_isTrue_29 : decode cX4_isTrue 29 = .ok (.ireturn, 1) := by decide +kernel
theorem dX4_value_0 : decode cX4_value 0 = .ok (.iload_n 1, 1) := by decide +kernel
theorem dX4_value_1 : decode cX4_value 1 = .ok (.ifCond .lt 9, 3) := by decide +kernel
theorem dX4_value_4 : decode cX4_value 4 = .ok (.iload_n 1, 1) := by decide +kernel
theorem dX4_value_5 : decode cX4_value 5 = .ok (.bipush 6, 2) := by decide +kernel
theorem dX4_value_7 : decode cX4_value 7 = .ok (.if_icmp .le 13, 3) := by decide +kernel
theorem dX4_value_10 : decode cX4_value 10 = .ok (.new 71, 3) := by decide +kernel
theorem dX4_value_13 : decode cX4_value 13 = .ok (.dup, 1) := by decide +kernel
theorem dX4_value_14 : decode cX4_value 14 = .ok (.ldc 125, 2) := by decide +kernel
theorem dX4_value_16 : decode cX4_value 16 = .ok (.invokespecial 75, 3) := by decide +kernel
theorem dX4_value_19 : decode cX4_value 19 = .ok (.athrow, 1) := by decide +kernel
theorem dX4_value_20 : decode cX4_value 20 = .ok (.iload_n 1, 1) := by decide +kernel
theorem dX4_value_21 : decode cX4_value 21 = .ok (.tableswitch 93 0 5 #[39, 47, 58, 66, 77, 85], 39) := by decide +kernel
theorem dX4_value_60 : decode cX4_value 60 = .ok (.aload_n 0, 1) := by decide +kernel
theorem dX4_value_61 : decode cX4_value 61 = .ok (.getfield 10, 3) := by decide +kernel
theorem dX4_value_64 : decode cX4_value 64 = .ok (.getfield 37, 3) := by decide +kernel
theorem dX4_value_67 : decode cX4_value 67 = .ok (.ireturn, 1) := by decide +kernel
theorem dX4_value_68 : decode cX4_value 68 = .ok (.aload_n 0, 1) := by decide +kernel
theorem dX4_value_69 : decode cX4_value 69 = .ok (.getfield 10, 3) := by decide +kernel
theorem dX4_value_72 : decode cX4_value 72 = .ok (.getfield 143, 3) := by decide +kernel
theorem dX4_value_75 : decode cX4_value 75 = .ok (.invokestatic 106, 3) := by decide +kernel
theorem dX4_value_78 : decode cX4_value 78 = .ok (.ireturn, 1) := by decide +kernel
theorem dX4_value_79 : decode cX4_value 79 = .ok (.aload_n 0, 1) := by decide +kernel
theorem dX4_value_80 : decode cX4_value 80 = .ok (.getfield 10, 3) := by decide +kernel
theorem dX4_value_83 : decode cX4_value 83 = .ok (.getfield 76, 3) := by decide +kernel
theorem dX4_value_86 : decode cX4_value 86 = .ok (.ireturn, 1) := by decide +kernel
theorem dX4_value_87 : decode cX4_value 87 = .ok (.aload_n 0, 1) := by decide +kernel
theorem dX4_value_88 : decode cX4_value 88 = .ok (.getfield 10, 3) := by decide +kernel
theorem dX4_value_91 : decode cX4_value 91 = .ok (.getfield 103, 3) := by decide +kernel
theorem dX4_value_94 : decode cX4_value 94 = .ok (.invokestatic 106, 3) := by decide +kernel
theorem dX4_value_97 : decode cX4_value 97 = .ok (.ireturn, 1) := by decide +kernel
theorem dX4_value_98 : decode cX4_value 98 = .ok (.aload_n 0, 1) := by decide +kernel
theorem dX4_value_99 : decode cX4_value 99 = .ok (.getfield 10, 3) := by decide +kernel
theorem dX4_value_102 : decode cX4_value 102 = .ok (.getfield 103, 3) := by decide +kernel
theorem dX4_value_105 : decode cX4_value 105 = .ok (.ireturn, 1) := by decide +kernel
theorem dX4_value_106 : decode cX4_value 106 = .ok (.aload_n 0, 1) := by decide +kernel
theorem dX4_value_107 : decode cX4_value 107 = .ok (.getfield 10, 3) := by decide +kernel
theorem dX4_value_110 : decode cX4_value 110 = .ok (.getfield 146, 3) := by decide +kernel
theorem dX4_value_113 : decode cX4_value 113 = .ok (.ireturn, 1) := by decide +kernel
theorem dX4_value_114 : decode cX4_value 114 = .ok (.aload_n 0, 1) := by decide +kernel
theorem dX4_value_115 : decode cX4_value 115 = .ok (.getfield 10, 3) := by decide +kernel
theorem dX4_value_118 : decode cX4_value 118 = .ok (.invokevirtual 116, 3) := by decide +kernel
theorem dX4_value_121 : decode cX4_value 121 = .ok (.ireturn, 1) := by decide +kernel
theorem dX4_winner_0 : decode cX4_winner 0 = .ok (.aload_n 0, 1) := by decide +kernel
theorem dX4_winner_1 : decode cX4_winner 1 = .ok (.getfield 26, 3) := by decide +kernel
theorem dX4_winner_4 : decode cX4_winner 4 = .ok (.aload_n 0, 1) := by decide +kernel
theorem dX4_winner_5 : decode cX4_winner 5 = .ok (.getfield 10, 3) := by decide +kernel
theorem dX4_winner_8 : decode cX4_winner 8 = .ok (.invokevirtual 149, 3) := by decide +kernel
theorem dX4_winner_11 : decode cX4_winner 11 = .ok (.aload_n 0, 1) := by decide +kernel
theorem dX4_winner_12 : decode cX4_winner 12 = .ok (.iconst 0, 1) := by decide +kernel
theorem dX4_winner_13 : decode cX4_winner 13 = .ok (.iconst 0, 1) := by decide +kernel
theorem dX4_winner_14 : decode cX4_winner 14 = .ok (.invokevirtual 152, 3) := by decide +kernel
theorem dX4_winner_17 : decode cX4_winner 17 = .ok (.ireturn, 1) := by decide +kernel
theorem dX4_winnerAt_0 : decode cX4_winnerAt 0 = .ok (.aload_n 0, 1) := by decide +kernel
theorem dX4_winnerAt_1 : decode cX4_winnerAt 1 = .ok (.iload_n 1, 1) := by decide +kernel
theorem dX4_winnerAt_2 : decode cX4_winnerAt 2 = .ok (.invokevirtual 119, 3) := by decide +kernel
theorem dX4_winnerAt_5 : decode cX4_winnerAt 5 = .ok (.aload_n 0, 1) := by decide +kernel
theorem dX4_winnerAt_6 : decode cX4_winnerAt 6 = .ok (.iload_n 1, 1) := by decide +kernel
theorem dX4_winnerAt_7 : decode cX4_winnerAt 7 = .ok (.iload_n 2, 1) := by decide +kernel
theorem dX4_winnerAt_8 : decode cX4_winnerAt 8 = .ok (.invokevirtual 156, 3) := by decide +kernel
theorem dX4_winnerAt_11 : decode cX4_winnerAt 11 = .ok (.aload_n 0, 1) := by decide +kernel
theorem dX4_winnerAt_12 : decode cX4_winnerAt 12 = .ok (.getfield 26, 3) := by decide +kernel
theorem dX4_winnerAt_15 : decode cX4_winnerAt 15 = .ok (.aload_n 0, 1) := by decide +kernel
theorem dX4_winnerAt_16 : decode cX4_winnerAt 16 = .ok (.getfield 10, 3) := by decide +kernel
theorem dX4_winnerAt_19 : decode cX4_winnerAt 19 = .ok (.invokevirtual 149, 3) := by decide +kernel
theorem dX4_winnerAt_22 : decode cX4_winnerAt 22 = .ok (.aload_n 0, 1) := by decide +kernel
theorem dX4_winnerAt_23 : decode cX4_winnerAt 23 = .ok (.iload_n 1, 1) := by decide +kernel
theorem dX4_winnerAt_24 : decode cX4_winnerAt 24 = .ok (.iload_n 2, 1) := by decide +kernel
theorem dX4_winnerAt_25 : decode cX4_winnerAt 25 = .ok (.invokevirtual 152, 3) := by decide +kernel
theorem dX4_winnerAt_28 : decode cX4_winnerAt 28 = .ok (.ireturn, 1) := by decide +kernel
theorem dX4_move_0 : decode cX4_move 0 = .ok (.aload_n 0, 1) := by decide +kernel
theorem dX4_move_1 : decode cX4_move 1 = .ok (.iload_n 1, 1) := by decide +kernel
theorem dX4_move_2 : decode cX4_move 2 = .ok (.invokevirtual 119, 3) := by decide +kernel
theorem dX4_move_5 : decode cX4_move 5 = .ok (.aload_n 0, 1) := by decide +kernel
theorem dX4_move_6 : decode cX4_move 6 = .ok (.iload_n 1, 1) := by decide +kernel
theorem dX4_move_7 : decode cX4_move 7 = .ok (.iload_n 2, 1) := by decide +kernel
theorem dX4_move_8 : decode cX4_move 8 = .ok (.invokevirtual 156, 3) := by decide +kernel
theorem dX4_move_11 : decode cX4_move 11 = .ok (.aload_n 0, 1) := by decide +kernel
theorem dX4_move_12 : decode cX4_move 12 = .ok (.getfield 26, 3) := by decide +kernel
theorem dX4_move_15 : decode cX4_move 15 = .ok (.aload_n 0, 1) := by decide +kernel
theorem dX4_move_16 : decode cX4_move 16 = .ok (.getfield 10, 3) := by decide +kernel
theorem dX4_move_19 : decode cX4_move 19 = .ok (.invokevirtual 149, 3) := by decide +kernel
theorem dX4_move_22 : decode cX4_move 22 = .ok (.aload_n 0, 1) := by decide +kernel
theorem dX4_move_23 : decode cX4_move 23 = .ok (.getfield 10, 3) := by decide +kernel
theorem dX4_move_26 : decode cX4_move 26 = .ok (.iload_n 1, 1) := by decide +kernel
theorem dX4_move_27 : decode cX4_move 27 = .ok (.invokevirtual 122, 3) := by decide +kernel
theorem dX4_move_30 : decode cX4_move 30 = .ok (.istore_n 3, 1) := by decide +kernel
theorem dX4_move_31 : decode cX4_move 31 = .ok (.aload_n 0, 1) := by decide +kernel
theorem dX4_move_32 : decode cX4_move 32 = .ok (.iload_n 1, 1) := by decide +kernel
theorem dX4_move_33 : decode cX4_move 33 = .ok (.iconst 1, 1) := by decide +kernel
theorem dX4_move_34 : decode cX4_move 34 = .ok (.iadd, 1) := by decide +kernel
theorem dX4_move_35 : decode cX4_move 35 = .ok (.iload_n 2, 1) := by decide +kernel
theorem dX4_move_36 : decode cX4_move 36 = .ok (.invokevirtual 152, 3) := by decide +kernel
theorem dX4_move_39 : decode cX4_move 39 = .ok (.iload_n 3, 1) := by decide +kernel
theorem dX4_move_40 : decode cX4_move 40 = .ok (.if_icmp .ne 5, 3) := by decide +kernel
theorem dX4_move_43 : decode cX4_move 43 = .ok (.iconst 0, 1) := by decide +kernel
theorem dX4_move_44 : decode cX4_move 44 = .ok (.ireturn, 1) := by decide +kernel
theorem dX4_move_45 : decode cX4_move 45 = .ok (.aload_n 0, 1) := by decide +kernel
theorem dX4_move_46 : decode cX4_move 46 = .ok (.iload_n 1, 1) := by decide +kernel
theorem dX4_move_47 : decode cX4_move 47 = .ok (.iconst 1, 1) := by decide +kernel
theorem dX4_move_48 : decode cX4_move 48 = .ok (.iadd, 1) := by decide +kernel
theorem dX4_move_49 : decode cX4_move 49 = .ok (.iload_n 2, 1) := by decide +kernel
theorem dX4_move_50 : decode cX4_move 50 = .ok (.iconst 1, 1) := by decide +kernel
theorem dX4_move_51 : decode cX4_move 51 = .ok (.iload_n 1, 1) := by decide +kernel
theorem dX4_move_52 : decode cX4_move 52 = .ok (.ishl, 1) := by decide +kernel
theorem dX4_move_53 : decode cX4_move 53 = .ok (.ior, 1) := by decide +kernel
theorem dX4_move_54 : decode cX4_move 54 = .ok (.invokevirtual 152, 3) := by decide +kernel
theorem dX4_move_57 : decode cX4_move 57 = .ok (.iload_n 3, 1) := by decide +kernel
theorem dX4_move_58 : decode cX4_move 58 = .ok (.if_icmp .ne 5, 3) := by decide +kernel
theorem dX4_move_61 : decode cX4_move 61 = .ok (.iconst 1, 1) := by decide +kernel
theorem dX4_move_62 : decode cX4_move 62 = .ok (.ireturn, 1) := by decide +kernel
theorem dX4_move_63 : decode cX4_move 63 = .ok (.iconst (-1), 1) := by decide +kernel
theorem dX4_move_64 : decode cX4_move 64 = .ok (.ireturn, 1) := by decide +kernel
theorem dX4_ways_0 : decode cX4_ways 0 = .ok (.aload_n 0, 1) := by decide +kernel
theorem dX4_ways_1 : decode cX4_ways 1 = .ok (.iload_n 1, 1) := by decide +kernel
theorem dX4_ways_2 : decode cX4_ways 2 = .ok (.invokevirtual 95, 3) := by decide +kernel
theorem dX4_ways_5 : decode cX4_ways 5 = .ok (.iconst 0, 1) := by decide +kernel
theorem dX4_ways_6 : decode cX4_ways 6 = .ok (.istore_n 2, 1) := by decide +kernel
theorem dX4_ways_7 : decode cX4_ways 7 = .ok (.iconst 1, 1) := by decide +kernel
theorem dX4_ways_8 : decode cX4_ways 8 = .ok (.aload_n 0, 1) := by decide +kernel
theorem dX4_ways_9 : decode cX4_ways 9 = .ok (.getfield 10, 3) := by decide +kernel
theorem dX4_ways_12 : decode cX4_ways 12 = .ok (.getfield 37, 3) := by decide +kernel
theorem dX4_ways_15 : decode cX4_ways 15 = .ok (.ishl, 1) := by decide +kernel
theorem dX4_ways_16 : decode cX4_ways 16 = .ok (.istore_n 3, 1) := by decide +kernel
theorem dX4_ways_17 : decode cX4_ways 17 = .ok (.iconst 0, 1) := by decide +kernel
theorem dX4_ways_18 : decode cX4_ways 18 = .ok (.istore 4, 2) := by decide +kernel
theorem dX4_ways_20 : decode cX4_ways 20 = .ok (.iload 4, 2) := by decide +kernel
theorem dX4_ways_22 : decode cX4_ways 22 = .ok (.iload_n 3, 1) := by decide +kernel
theorem dX4_ways_23 : decode cX4_ways 23 = .ok (.if_icmp .ge 37, 3) := by decide +kernel
theorem dX4_ways_26 : decode cX4_ways 26 = .ok (.aload_n 0, 1) := by decide +kernel
theorem dX4_ways_27 : decode cX4_ways 27 = .ok (.getfield 10, 3) := by decide +kernel
theorem dX4_ways_30 : decode cX4_ways 30 = .ok (.iload 4, 2) := by decide +kernel
theorem dX4_ways_32 : decode cX4_ways 32 = .ok (.invokevirtual 159, 3) := by decide +kernel
theorem dX4_ways_35 : decode cX4_ways 35 = .ok (.iload_n 1, 1) := by decide +kernel
theorem dX4_ways_36 : decode cX4_ways 36 = .ok (.if_icmp .ne 18, 3) := by decide +kernel
theorem dX4_ways_39 : decode cX4_ways 39 = .ok (.aload_n 0, 1) := by decide +kernel
theorem dX4_ways_40 : decode cX4_ways 40 = .ok (.getfield 10, 3) := by decide +kernel
theorem dX4_ways_43 : decode cX4_ways 43 = .ok (.iload 4, 2) := by decide +kernel
theorem dX4_ways_45 : decode cX4_ways 45 = .ok (.invokevirtual 140, 3) := by decide +kernel
theorem dX4_ways_48 : decode cX4_ways 48 = .ok (.ifCond .eq 6, 3) := by decide +kernel
theorem dX4_ways_51 : decode cX4_ways 51 = .ok (.iinc 2 1, 3) := by decide +kernel
theorem dX4_ways_54 : decode cX4_ways 54 = .ok (.iinc 4 1, 3) := by decide +kernel
theorem dX4_ways_57 : decode cX4_ways 57 = .ok (.goto (-37), 3) := by decide +kernel
theorem dX4_ways_60 : decode cX4_ways 60 = .ok (.iload_n 2, 1) := by decide +kernel
theorem dX4_ways_61 : decode cX4_ways 61 = .ok (.ireturn, 1) := by decide +kernel
theorem dX4_beats_0 : decode cX4_beats 0 = .ok (.iload_n 1, 1) := by decide +kernel
theorem dX4_beats_1 : decode cX4_beats 1 = .ok (.ifCond .lt 14, 3) := by decide +kernel
theorem dX4_beats_4 : decode cX4_beats 4 = .ok (.iload_n 1, 1) := by decide +kernel
theorem dX4_beats_5 : decode cX4_beats 5 = .ok (.aload_n 0, 1) := by decide +kernel
theorem dX4_beats_6 : decode cX4_beats 6 = .ok (.getfield 10, 3) := by decide +kernel
theorem dX4_beats_9 : decode cX4_beats 9 = .ok (.invokevirtual 162, 3) := by decide +kernel
theorem dX4_beats_12 : decode cX4_beats 12 = .ok (.if_icmp .le 13, 3) := by decide +kernel
theorem dX4_beats_15 : decode cX4_beats 15 = .ok (.new 71, 3) := by decide +kernel
theorem dX4_beats_18 : decode cX4_beats 18 = .ok (.dup, 1) := by decide +kernel
theorem dX4_beats_19 : decode cX4_beats 19 = .ok (.ldc 165, 2) := by decide +kernel
theorem dX4_beats_21 : decode cX4_beats 21 = .ok (.invokespecial 75, 3) := by decide +kernel
theorem dX4_beats_24 : decode cX4_beats 24 = .ok (.athrow, 1) := by decide +kernel
theorem dX4_beats_25 : decode cX4_beats 25 = .ok (.aload_n 0, 1) := by decide +kernel
theorem dX4_beats_26 : decode cX4_beats 26 = .ok (.getfield 26, 3) := by decide +kernel
theorem dX4_beats_29 : decode cX4_beats 29 = .ok (.aload_n 0, 1) := by decide +kernel
theorem dX4_beats_30 : decode cX4_beats 30 = .ok (.getfield 10, 3) := by decide +kernel
theorem dX4_beats_33 : decode cX4_beats 33 = .ok (.invokevirtual 149, 3) := by decide +kernel
theorem dX4_beats_36 : decode cX4_beats 36 = .ok (.aload_n 0, 1) := by decide +kernel
theorem dX4_beats_37 : decode cX4_beats 37 = .ok (.getfield 26, 3) := by decide +kernel
theorem dX4_beats_40 : decode cX4_beats 40 = .ok (.iconst 0, 1) := by decide +kernel
theorem dX4_beats_41 : decode cX4_beats 41 = .ok (.iconst 0, 1) := by decide +kernel
theorem dX4_beats_42 : decode cX4_beats 42 = .ok (.iload_n 1, 1) := by decide +kernel
theorem dX4_beats_43 : decode cX4_beats 43 = .ok (.invokevirtual 167, 3) := by decide +kernel
theorem dX4_beats_46 : decode cX4_beats 46 = .ok (.ireturn, 1) := by decide +kernel
theorem dX4_answer_0 : decode cX4_answer 0 = .ok (.aload_n 0, 1) := by decide +kernel
theorem dX4_answer_1 : decode cX4_answer 1 = .ok (.iload_n 1, 1) := by decide +kernel
theorem dX4_answer_2 : decode cX4_answer 2 = .ok (.invokevirtual 119, 3) := by decide +kernel
theorem dX4_answer_5 : decode cX4_answer 5 = .ok (.aload_n 0, 1) := by decide +kernel
theorem dX4_answer_6 : decode cX4_answer 6 = .ok (.getfield 10, 3) := by decide +kernel
theorem dX4_answer_9 : decode cX4_answer 9 = .ok (.iload_n 1, 1) := by decide +kernel
theorem dX4_answer_10 : decode cX4_answer 10 = .ok (.invokevirtual 122, 3) := by decide +kernel
theorem dX4_answer_13 : decode cX4_answer 13 = .ok (.iconst 1, 1) := by decide +kernel
theorem dX4_answer_14 : decode cX4_answer 14 = .ok (.if_icmp .ne 13, 3) := by decide +kernel
theorem dX4_answer_17 : decode cX4_answer 17 = .ok (.new 71, 3) := by decide +kernel
theorem dX4_answer_20 : decode cX4_answer 20 = .ok (.dup, 1) := by decide +kernel
theorem dX4_answer_21 : decode cX4_answer 21 = .ok (.ldc 171, 2) := by decide +kernel
theorem dX4_answer_23 : decode cX4_answer 23 = .ok (.invokespecial 75, 3) := by decide +kernel
theorem dX4_answer_26 : decode cX4_answer 26 = .ok (.athrow, 1) := by decide +kernel
theorem dX4_answer_27 : decode cX4_answer 27 = .ok (.aload_n 0, 1) := by decide +kernel
theorem dX4_answer_28 : decode cX4_answer 28 = .ok (.iload_n 2, 1) := by decide +kernel
theorem dX4_answer_29 : decode cX4_answer 29 = .ok (.invokevirtual 95, 3) := by decide +kernel
theorem dX4_answer_32 : decode cX4_answer 32 = .ok (.aload_n 0, 1) := by decide +kernel
theorem dX4_answer_33 : decode cX4_answer 33 = .ok (.getfield 26, 3) := by decide +kernel
theorem dX4_answer_36 : decode cX4_answer 36 = .ok (.aload_n 0, 1) := by decide +kernel
theorem dX4_answer_37 : decode cX4_answer 37 = .ok (.getfield 10, 3) := by decide +kernel
theorem dX4_answer_40 : decode cX4_answer 40 = .ok (.invokevirtual 149, 3) := by decide +kernel
theorem dX4_answer_43 : decode cX4_answer 43 = .ok (.aload_n 0, 1) := by decide +kernel
theorem dX4_answer_44 : decode cX4_answer 44 = .ok (.getfield 26, 3) := by decide +kernel
theorem dX4_answer_47 : decode cX4_answer 47 = .ok (.iconst 0, 1) := by decide +kernel
theorem dX4_answer_48 : decode cX4_answer 48 = .ok (.iconst 0, 1) := by decide +kernel
theorem dX4_answer_49 : decode cX4_answer 49 = .ok (.aload_n 0, 1) := by decide +kernel
theorem dX4_answer_50 : decode cX4_answer 50 = .ok (.getfield 10, 3) := by decide +kernel
theorem dX4_answer_53 : decode cX4_answer 53 = .ok (.getfield 103, 3) := by decide +kernel
theorem dX4_answer_56 : decode cX4_answer 56 = .ok (.invokevirtual 167, 3) := by decide +kernel
theorem dX4_answer_59 : decode cX4_answer 59 = .ok (.ifCond .ne 5, 3) := by decide +kernel
theorem dX4_answer_62 : decode cX4_answer 62 = .ok (.iconst (-1), 1) := by decide +kernel
theorem dX4_answer_63 : decode cX4_answer 63 = .ok (.ireturn, 1) := by decide +kernel
theorem dX4_answer_64 : decode cX4_answer 64 = .ok (.aload_n 0, 1) := by decide +kernel
theorem dX4_answer_65 : decode cX4_answer 65 = .ok (.iload_n 2, 1) := by decide +kernel
theorem dX4_answer_66 : decode cX4_answer 66 = .ok (.invokevirtual 173, 3) := by decide +kernel
theorem dX4_answer_69 : decode cX4_answer 69 = .ok (.iload_n 1, 1) := by decide +kernel
theorem dX4_answer_70 : decode cX4_answer 70 = .ok (.invokestatic 176, 3) := by decide +kernel
theorem dX4_answer_73 : decode cX4_answer 73 = .ok (.ireturn, 1) := by decide +kernel
theorem dX4_copies_0 : decode cX4_copies 0 = .ok (.iconst 0, 1) := by decide +kernel
theorem dX4_copies_1 : decode cX4_copies 1 = .ok (.istore_n 1, 1) := by decide +kernel
theorem dX4_copies_2 : decode cX4_copies 2 = .ok (.iconst 0, 1) := by decide +kernel
theorem dX4_copies_3 : decode cX4_copies 3 = .ok (.istore_n 2, 1) := by decide +kernel
theorem dX4_copies_4 : decode cX4_copies 4 = .ok (.iconst 0, 1) := by decide +kernel
theorem dX4_copies_5 : decode cX4_copies 5 = .ok (.istore_n 3, 1) := by decide +kernel
theorem dX4_copies_6 : decode cX4_copies 6 = .ok (.iload_n 3, 1) := by decide +kernel
theorem dX4_copies_7 : decode cX4_copies 7 = .ok (.aload_n 0, 1) := by decide +kernel
theorem dX4_copies_8 : decode cX4_copies 8 = .ok (.getfield 10, 3) := by decide +kernel
theorem dX4_copies_11 : decode cX4_copies 11 = .ok (.getfield 37, 3) := by decide +kernel
theorem dX4_copies_14 : decode cX4_copies 14 = .ok (.if_icmp .ge 35, 3) := by decide +kernel
theorem dX4_copies_17 : decode cX4_copies 17 = .ok (.aload_n 0, 1) := by decide +kernel
theorem dX4_copies_18 : decode cX4_copies 18 = .ok (.getfield 10, 3) := by decide +kernel
theorem dX4_copies_21 : decode cX4_copies 21 = .ok (.iload_n 3, 1) := by decide +kernel
theorem dX4_copies_22 : decode cX4_copies 22 = .ok (.invokevirtual 122, 3) := by decide +kernel
theorem dX4_copies_25 : decode cX4_copies 25 = .ok (.iconst 1, 1) := by decide +kernel
theorem dX4_copies_26 : decode cX4_copies 26 = .ok (.if_icmp .ne 9, 3) := by decide +kernel
theorem dX4_copies_29 : decode cX4_copies 29 = .ok (.iinc 2 1, 3) := by decide +kernel
theorem dX4_copies_32 : decode cX4_copies 32 = .ok (.goto 11, 3) := by decide +kernel
theorem dX4_copies_35 : decode cX4_copies 35 = .ok (.iload_n 1, 1) := by decide +kernel
theorem dX4_copies_36 : decode cX4_copies 36 = .ok (.aload_n 0, 1) := by decide +kernel
theorem dX4_copies_37 : decode cX4_copies 37 = .ok (.iload_n 2, 1) := by decide +kernel
theorem dX4_copies_38 : decode cX4_copies 38 = .ok (.invokevirtual 179, 3) := by decide +kernel
theorem dX4_copies_41 : decode cX4_copies 41 = .ok (.iadd, 1) := by decide +kernel
theorem dX4_copies_42 : decode cX4_copies 42 = .ok (.istore_n 1, 1) := by decide +kernel
theorem dX4_copies_43 : decode cX4_copies 43 = .ok (.iinc 3 1, 3) := by decide +kernel
theorem dX4_copies_46 : decode cX4_copies 46 = .ok (.goto (-40), 3) := by decide +kernel
theorem dX4_copies_49 : decode cX4_copies 49 = .ok (.iload_n 1, 1) := by decide +kernel
theorem dX4_copies_50 : decode cX4_copies 50 = .ok (.ireturn, 1) := by decide +kernel
theorem dX4_leastProof_0 : decode cX4_leastProof 0 = .ok (.aload_n 0, 1) := by decide +kernel
theorem dX4_leastProof_1 : decode cX4_leastProof 1 = .ok (.invokevirtual 182, 3) := by decide +kernel
theorem dX4_leastProof_4 : decode cX4_leastProof 4 = .ok (.istore_n 1, 1) := by decide +kernel
theorem dX4_leastProof_5 : decode cX4_leastProof 5 = .ok (.iload_n 1, 1) := by decide +kernel
theorem dX4_leastProof_6 : decode cX4_leastProof 6 = .ok (.iconst (-1), 1) := by decide +kernel
theorem dX4_leastProof_7 : decode cX4_leastProof 7 = .ok (.if_icmp .ne 7, 3) := by decide +kernel
theorem dX4_leastProof_10 : decode cX4_leastProof 10 = .ok (.iconst (-1), 1) := by decide +kernel
theorem dX4_leastProof_11 : decode cX4_leastProof 11 = .ok (.goto 7, 3) := by decide +kernel
theorem dX4_leastProof_14 : decode cX4_leastProof 14 = .ok (.iload_n 1, 1) := by decide +kernel
theorem dX4_leastProof_15 : decode cX4_leastProof 15 = .ok (.invokestatic 106, 3) := by decide +kernel
theorem dX4_leastProof_18 : decode cX4_leastProof 18 = .ok (.ireturn, 1) := by decide +kernel
theorem dX4_proof_0 : decode cX4_proof 0 = .ok (.aload_n 0, 1) := by decide +kernel
theorem dX4_proof_1 : decode cX4_proof 1 = .ok (.invokevirtual 182, 3) := by decide +kernel
theorem dX4_proof_4 : decode cX4_proof 4 = .ok (.ireturn, 1) := by decide +kernel
theorem dX4_hope_0 : decode cX4_hope 0 = .ok (.iconst 0, 1) := by decide +kernel
theorem dX4_hope_1 : decode cX4_hope 1 = .ok (.istore_n 1, 1) := by decide +kernel
theorem dX4_hope_2 : decode cX4_hope 2 = .ok (.iconst 1, 1) := by decide +kernel
theorem dX4_hope_3 : decode cX4_hope 3 = .ok (.aload_n 0, 1) := by decide +kernel
theorem dX4_hope_4 : decode cX4_hope 4 = .ok (.getfield 10, 3) := by decide +kernel
theorem dX4_hope_7 : decode cX4_hope 7 = .ok (.getfield 37, 3) := by decide +kernel
theorem dX4_hope_10 : decode cX4_hope 10 = .ok (.ishl, 1) := by decide +kernel
theorem dX4_hope_11 : decode cX4_hope 11 = .ok (.istore_n 2, 1) := by decide +kernel
theorem dX4_hope_12 : decode cX4_hope 12 = .ok (.iconst 0, 1) := by decide +kernel
theorem dX4_hope_13 : decode cX4_hope 13 = .ok (.istore_n 3, 1) := by decide +kernel
theorem dX4_hope_14 : decode cX4_hope 14 = .ok (.iload_n 3, 1) := by decide +kernel
theorem dX4_hope_15 : decode cX4_hope 15 = .ok (.iload_n 2, 1) := by decide +kernel
theorem dX4_hope_16 : decode cX4_hope 16 = .ok (.if_icmp .ge 33, 3) := by decide +kernel
theorem dX4_hope_19 : decode cX4_hope 19 = .ok (.aload_n 0, 1) := by decide +kernel
theorem dX4_hope_20 : decode cX4_hope 20 = .ok (.getfield 10, 3) := by decide +kernel
theorem dX4_hope_23 : decode cX4_hope 23 = .ok (.iload_n 3, 1) := by decide +kernel
theorem dX4_hope_24 : decode cX4_hope 24 = .ok (.invokevirtual 140, 3) := by decide +kernel
theorem dX4_hope_27 : decode cX4_hope 27 = .ok (.ifCond .eq 16, 3) := by decide +kernel
theorem dX4_hope_30 : decode cX4_hope 30 = .ok (.iload_n 1, 1) := by decide +kernel
theorem dX4_hope_31 : decode cX4_hope 31 = .ok (.iconst 1, 1) := by decide +kernel
theorem dX4_hope_32 : decode cX4_hope 32 = .ok (.aload_n 0, 1) := by decide +kernel
theorem dX4_hope_33 : decode cX4_hope 33 = .ok (.getfield 10, 3) := by decide +kernel
theorem dX4_hope_36 : decode cX4_hope 36 = .ok (.iload_n 3, 1) := by decide +kernel
theorem dX4_hope_37 : decode cX4_hope 37 = .ok (.invokevirtual 159, 3) := by decide +kernel
theorem dX4_hope_40 : decode cX4_hope 40 = .ok (.ishl, 1) := by decide +kernel
theorem dX4_hope_41 : decode cX4_hope 41 = .ok (.ior, 1) := by decide +kernel
theorem dX4_hope_42 : decode cX4_hope 42 = .ok (.istore_n 1, 1) := by decide +kernel
theorem dX4_hope_43 : decode cX4_hope 43 = .ok (.iinc 3 1, 3) := by decide +kernel
theorem dX4_hope_46 : decode cX4_hope 46 = .ok (.goto (-32), 3) := by decide +kernel
theorem dX4_hope_49 : decode cX4_hope 49 = .ok (.iload_n 1, 1) := by decide +kernel
theorem dX4_hope_50 : decode cX4_hope 50 = .ok (.invokestatic 106, 3) := by decide +kernel
theorem dX4_hope_53 : decode cX4_hope 53 = .ok (.i2d, 1) := by decide +kernel
theorem dX4_hope_54 : decode cX4_hope 54 = .ok (.aload_n 0, 1) := by decide +kernel
theorem dX4_hope_55 : decode cX4_hope 55 = .ok (.getfield 10, 3) := by decide +kernel
theorem dX4_hope_58 : decode cX4_hope 58 = .ok (.invokevirtual 116, 3) := by decide +kernel
theorem dX4_hope_61 : decode cX4_hope 61 = .ok (.i2d, 1) := by decide +kernel
theorem dX4_hope_62 : decode cX4_hope 62 = .ok (.ddiv, 1) := by decide +kernel
theorem dX4_hope_63 : decode cX4_hope 63 = .ok (.dreturn, 1) := by decide +kernel
theorem dX4_append_0 : decode cX4_append 0 = .ok (.iload_n 1, 1) := by decide +kernel
theorem dX4_append_1 : decode cX4_append 1 = .ok (.ifCond .lt 9, 3) := by decide +kernel
theorem dX4_append_4 : decode cX4_append 4 = .ok (.iload_n 1, 1) := by decide +kernel
theorem dX4_append_5 : decode cX4_append 5 = .ok (.bipush 127, 2) := by decide +kernel
theorem dX4_append_7 : decode cX4_append 7 = .ok (.if_icmp .le 13, 3) := by decide +kernel
theorem dX4_append_10 : decode cX4_append 10 = .ok (.new 71, 3) := by decide +kernel
theorem dX4_append_13 : decode cX4_append 13 = .ok (.dup, 1) := by decide +kernel
theorem dX4_append_14 : decode cX4_append 14 = .ok (.ldc 185, 2) := by decide +kernel
theorem dX4_append_16 : decode cX4_append 16 = .ok (.invokespecial 75, 3) := by decide +kernel
theorem dX4_append_19 : decode cX4_append 19 = .ok (.athrow, 1) := by decide +kernel
theorem dX4_append_20 : decode cX4_append 20 = .ok (.aload_n 0, 1) := by decide +kernel
theorem dX4_append_21 : decode cX4_append 21 = .ok (.getfield 33, 3) := by decide +kernel
theorem dX4_append_24 : decode cX4_append 24 = .ok (.getfield 187, 3) := by decide +kernel
theorem dX4_append_27 : decode cX4_append 27 = .ok (.bipush 100, 2) := by decide +kernel
theorem dX4_append_29 : decode cX4_append 29 = .ok (.if_icmp .lt 13, 3) := by decide +kernel
theorem dX4_append_32 : decode cX4_append 32 = .ok (.new 56, 3) := by decide +kernel
theorem dX4_append_35 : decode cX4_append 35 = .ok (.dup, 1) := by decide +kernel
theorem dX4_append_36 : decode cX4_append 36 = .ok (.ldc 190, 2) := by decide +kernel
theorem dX4_append_38 : decode cX4_append 38 = .ok (.invokespecial 60, 3) := by decide +kernel
theorem dX4_append_41 : decode cX4_append 41 = .ok (.athrow, 1) := by decide +kernel
theorem dX4_append_42 : decode cX4_append 42 = .ok (.aload_n 0, 1) := by decide +kernel
theorem dX4_append_43 : decode cX4_append 43 = .ok (.getfield 33, 3) := by decide +kernel
theorem dX4_append_46 : decode cX4_append 46 = .ok (.iload_n 1, 1) := by decide +kernel
theorem dX4_append_47 : decode cX4_append 47 = .ok (.invokevirtual 192, 3) := by decide +kernel
theorem dX4_append_50 : decode cX4_append 50 = .ok (.aload_n 0, 1) := by decide +kernel
theorem dX4_append_51 : decode cX4_append 51 = .ok (.getfield 33, 3) := by decide +kernel
theorem dX4_append_54 : decode cX4_append 54 = .ok (.getfield 187, 3) := by decide +kernel
theorem dX4_append_57 : decode cX4_append 57 = .ok (.ireturn, 1) := by decide +kernel
theorem dX4_clearText_0 : decode cX4_clearText 0 = .ok (.aload_n 0, 1) := by decide +kernel
theorem dX4_clearText_1 : decode cX4_clearText 1 = .ok (.getfield 33, 3) := by decide +kernel
theorem dX4_clearText_4 : decode cX4_clearText 4 = .ok (.getfield 187, 3) := by decide +kernel
theorem dX4_clearText_7 : decode cX4_clearText 7 = .ok (.istore_n 1, 1) := by decide +kernel
theorem dX4_clearText_8 : decode cX4_clearText 8 = .ok (.aload_n 0, 1) := by decide +kernel
theorem dX4_clearText_9 : decode cX4_clearText 9 = .ok (.getfield 33, 3) := by decide +kernel
theorem dX4_clearText_12 : decode cX4_clearText 12 = .ok (.iconst 0, 1) := by decide +kernel
theorem dX4_clearText_13 : decode cX4_clearText 13 = .ok (.putfield 187, 3) := by decide +kernel
theorem dX4_clearText_16 : decode cX4_clearText 16 = .ok (.iload_n 1, 1) := by decide +kernel
theorem dX4_clearText_17 : decode cX4_clearText 17 = .ok (.ireturn, 1) := by decide +kernel
theorem dX4_carryOut_0 : decode cX4_carryOut 0 = .ok (.aload_n 0, 1) := by decide +kernel
theorem dX4_carryOut_1 : decode cX4_carryOut 1 = .ok (.getfield 33, 3) := by decide +kernel
theorem dX4_carryOut_4 : decode cX4_carryOut 4 = .ok (.invokevirtual 195, 3) := by decide +kernel
theorem dX4_carryOut_7 : decode cX4_carryOut 7 = .ok (.istore_n 1, 1) := by decide +kernel
theorem dX4_carryOut_8 : decode cX4_carryOut 8 = .ok (.iload_n 1, 1) := by decide +kernel
theorem dX4_carryOut_9 : decode cX4_carryOut 9 = .ok (.iconst (-1), 1) := by decide +kernel
theorem dX4_carryOut_10 : decode cX4_carryOut 10 = .ok (.if_icmp .eq 8, 3) := by decide +kernel
theorem dX4_carryOut_13 : decode cX4_carryOut 13 = .ok (.bipush (-10), 2) := by decide +kernel
theorem dX4_carryOut_15 : decode cX4_carryOut 15 = .ok (.iload_n 1, 1) := by decide +kernel
theorem dX4_carryOut_16 : decode cX4_carryOut 16 = .ok (.isub, 1) := by decide +kernel
theorem dX4_carryOut_17 : decode cX4_carryOut 17 = .ok (.ireturn, 1) := by decide +kernel
theorem dX4_carryOut_18 : decode cX4_carryOut 18 = .ok (.aload_n 0, 1) := by decide +kernel
theorem dX4_carryOut_19 : decode cX4_carryOut 19 = .ok (.getfield 19, 3) := by decide +kernel
theorem dX4_carryOut_22 : decode cX4_carryOut 22 = .ok (.aload_n 0, 1) := by decide +kernel
theorem dX4_carryOut_23 : decode cX4_carryOut 23 = .ok (.getfield 10, 3) := by decide +kernel
theorem dX4_carryOut_26 : decode cX4_carryOut 26 = .ok (.invokevirtual 41, 3) := by decide +kernel
theorem dX4_carryOut_29 : decode cX4_carryOut 29 = .ok (.aload_n 0, 1) := by decide +kernel
theorem dX4_carryOut_30 : decode cX4_carryOut 30 = .ok (.getfield 33, 3) := by decide +kernel
theorem dX4_carryOut_33 : decode cX4_carryOut 33 = .ok (.invokevirtual 198, 3) := by decide +kernel
theorem dX4_carryOut_36 : decode cX4_carryOut 36 = .ok (.iconst 0, 1) := by decide +kernel
theorem dX4_carryOut_37 : decode cX4_carryOut 37 = .ok (.istore_n 2, 1) := by decide +kernel
theorem dX4_carryOut_38 : decode cX4_carryOut 38 = .ok (.iload_n 2, 1) := by decide +kernel
theorem dX4_carryOut_39 : decode cX4_carryOut 39 = .ok (.bipush 50, 2) := by decide +kernel
theorem dX4_carryOut_41 : decode cX4_carryOut 41 = .ok (.if_icmp .ge 26, 3) := by decide +kernel
theorem dX4_carryOut_44 : decode cX4_carryOut 44 = .ok (.aload_n 0, 1) := by decide +kernel
theorem dX4_carryOut_45 : decode cX4_carryOut 45 = .ok (.getfield 33, 3) := by decide +kernel
theorem dX4_carryOut_48 : decode cX4_carryOut 48 = .ok (.invokevirtual 201, 3) := by decide +kernel
theorem dX4_carryOut_51 : decode cX4_carryOut 51 = .ok (.ifCond .eq 16, 3) := by decide +kernel
theorem dX4_carryOut_54 : decode cX4_carryOut 54 = .ok (.aload_n 0, 1) := by decide +kernel
theorem dX4_carryOut_55 : decode cX4_carryOut 55 = .ok (.invokevirtual 205, 3) := by decide +kernel
theorem dX4_carryOut_58 : decode cX4_carryOut 58 = .ok (.ifCond .eq 9, 3) := by decide +kernel
theorem dX4_carryOut_61 : decode cX4_carryOut 61 = .ok (.iinc 2 1, 3) := by decide +kernel
theorem dX4_carryOut_64 : decode cX4_carryOut 64 = .ok (.goto (-26), 3) := by decide +kernel
theorem dX4_carryOut_67 : decode cX4_carryOut 67 = .ok (.iload_n 2, 1) := by decide +kernel
theorem dX4_carryOut_68 : decode cX4_carryOut 68 = .ok (.ireturn, 1) := by decide +kernel
theorem dX4_undo_0 : decode cX4_undo 0 = .ok (.aload_n 0, 1) := by decide +kernel
theorem dX4_undo_1 : decode cX4_undo 1 = .ok (.getfield 19, 3) := by decide +kernel
theorem dX4_undo_4 : decode cX4_undo 4 = .ok (.getfield 208, 3) := by decide +kernel
theorem dX4_undo_7 : decode cX4_undo 7 = .ok (.ifCond .ne 13, 3) := by decide +kernel
theorem dX4_undo_10 : decode cX4_undo 10 = .ok (.new 56, 3) := by decide +kernel
theorem dX4_undo_13 : decode cX4_undo 13 = .ok (.dup, 1) := by decide +kernel
theorem dX4_undo_14 : decode cX4_undo 14 = .ok (.ldc 211, 2) := by decide +kernel
theorem dX4_undo_16 : decode cX4_undo 16 = .ok (.invokespecial 60, 3) := by decide +kernel
theorem dX4_undo_19 : decode cX4_undo 19 = .ok (.athrow, 1) := by decide +kernel
theorem dX4_undo_20 : decode cX4_undo 20 = .ok (.aload_n 0, 1) := by decide +kernel
theorem dX4_undo_21 : decode cX4_undo 21 = .ok (.getfield 19, 3) := by decide +kernel
theorem dX4_undo_24 : decode cX4_undo 24 = .ok (.aload_n 0, 1) := by decide +kernel
theorem dX4_undo_25 : decode cX4_undo 25 = .ok (.getfield 10, 3) := by decide +kernel
theorem dX4_undo_28 : decode cX4_undo 28 = .ok (.invokevirtual 213, 3) := by decide +kernel
theorem dX4_undo_31 : decode cX4_undo 31 = .ok (.aload_n 0, 1) := by decide +kernel
theorem dX4_undo_32 : decode cX4_undo 32 = .ok (.getfield 26, 3) := by decide +kernel
theorem dX4_undo_35 : decode cX4_undo 35 = .ok (.iconst 1, 1) := by decide +kernel
theorem dX4_undo_36 : decode cX4_undo 36 = .ok (.putfield 48, 3) := by decide +kernel
theorem dX4_undo_39 : decode cX4_undo 39 = .ok (.aload_n 0, 1) := by decide +kernel
theorem dX4_undo_40 : decode cX4_undo 40 = .ok (.getfield 19, 3) := by decide +kernel
theorem dX4_undo_43 : decode cX4_undo 43 = .ok (.getfield 208, 3) := by decide +kernel
theorem dX4_undo_46 : decode cX4_undo 46 = .ok (.ireturn, 1) := by decide +kernel
theorem dX4_digest_0 : decode cX4_digest 0 = .ok (.ldc2_w 216, 3) := by decide +kernel
theorem dX4_digest_3 : decode cX4_digest 3 = .ok (.lstore_n 1, 1) := by decide +kernel
theorem dX4_digest_4 : decode cX4_digest 4 = .ok (.ldc2_w 218, 3) := by decide +kernel
theorem dX4_digest_7 : decode cX4_digest 7 = .ok (.lload_n 1, 1) := by decide +kernel
theorem dX4_digest_8 : decode cX4_digest 8 = .ok (.lmul, 1) := by decide +kernel
theorem dX4_digest_9 : decode cX4_digest 9 = .ok (.aload_n 0, 1) := by decide +kernel
theorem dX4_digest_10 : decode cX4_digest 10 = .ok (.getfield 33, 3) := by decide +kernel
theorem dX4_digest_13 : decode cX4_digest 13 = .ok (.getfield 187, 3) := by decide +kernel
theorem dX4_digest_16 : decode cX4_digest 16 = .ok (.i2l, 1) := by decide +kernel
theorem dX4_digest_17 : decode cX4_digest 17 = .ok (.ladd, 1) := by decide +kernel
theorem dX4_digest_18 : decode cX4_digest 18 = .ok (.lstore_n 1, 1) := by decide +kernel
theorem dX4_digest_19 : decode cX4_digest 19 = .ok (.iconst 0, 1) := by decide +kernel
theorem dX4_digest_20 : decode cX4_digest 20 = .ok (.istore_n 3, 1) := by decide +kernel
theorem dX4_digest_21 : decode cX4_digest 21 = .ok (.iload_n 3, 1) := by decide +kernel
theorem dX4_digest_22 : decode cX4_digest 22 = .ok (.bipush 6, 2) := by decide +kernel
theorem dX4_digest_24 : decode cX4_digest 24 = .ok (.if_icmp .gt 22, 3) := by decide +kernel
theorem dX4_digest_27 : decode cX4_digest 27 = .ok (.ldc2_w 218, 3) := by decide +kernel
theorem dX4_digest_30 : decode cX4_digest 30 = .ok (.lload_n 1, 1) := by decide +kernel
theorem dX4_digest_31 : decode cX4_digest 31 = .ok (.lmul, 1) := by decide +kernel
theorem dX4_digest_32 : decode cX4_digest 32 = .ok (.aload_n 0, 1) := by decide +kernel
theorem dX4_digest_33 : decode cX4_digest 33 = .ok (.iload_n 3, 1) := by decide +kernel
theorem dX4_digest_34 : decode cX4_digest 34 = .ok (.invokevirtual 220, 3) := by decide +kernel
theorem dX4_digest_37 : decode cX4_digest 37 = .ok (.i2l, 1) := by decide +kernel
theorem dX4_digest_38 : decode cX4_digest 38 = .ok (.ladd, 1) := by decide +kernel
theorem dX4_digest_39 : decode cX4_digest 39 = .ok (.lstore_n 1, 1) := by decide +kernel
theorem dX4_digest_40 : decode cX4_digest 40 = .ok (.iinc 3 1, 3) := by decide +kernel
theorem dX4_digest_43 : decode cX4_digest 43 = .ok (.goto (-22), 3) := by decide +kernel
theorem dX4_digest_46 : decode cX4_digest 46 = .ok (.iconst 0, 1) := by decide +kernel
theorem dX4_digest_47 : decode cX4_digest 47 = .ok (.istore_n 3, 1) := by decide +kernel
theorem dX4_digest_48 : decode cX4_digest 48 = .ok (.iload_n 3, 1) := by decide +kernel
theorem dX4_digest_49 : decode cX4_digest 49 = .ok (.aload_n 0, 1) := by decide +kernel
theorem dX4_digest_50 : decode cX4_digest 50 = .ok (.getfield 10, 3) := by decide +kernel
theorem dX4_digest_53 : decode cX4_digest 53 = .ok (.getfield 37, 3) := by decide +kernel
theorem dX4_digest_56 : decode cX4_digest 56 = .ok (.if_icmp .ge 25, 3) := by decide +kernel
theorem dX4_digest_59 : decode cX4_digest 59 = .ok (.ldc2_w 218, 3) := by decide +kernel
theorem dX4_digest_62 : decode cX4_digest 62 = .ok (.lload_n 1, 1) := by decide +kernel
theorem dX4_digest_63 : decode cX4_digest 63 = .ok (.lmul, 1) := by decide +kernel
theorem dX4_digest_64 : decode cX4_digest 64 = .ok (.aload_n 0, 1) := by decide +kernel
theorem dX4_digest_65 : decode cX4_digest 65 = .ok (.getfield 10, 3) := by decide +kernel
theorem dX4_digest_68 : decode cX4_digest 68 = .ok (.iload_n 3, 1) := by decide +kernel
theorem dX4_digest_69 : decode cX4_digest 69 = .ok (.invokevirtual 122, 3) := by decide +kernel
theorem dX4_digest_72 : decode cX4_digest 72 = .ok (.i2l, 1) := by decide +kernel
theorem dX4_digest_73 : decode cX4_digest 73 = .ok (.ladd, 1) := by decide +kernel
theorem dX4_digest_74 : decode cX4_digest 74 = .ok (.lstore_n 1, 1) := by decide +kernel
theorem dX4_digest_75 : decode cX4_digest 75 = .ok (.iinc 3 1, 3) := by decide +kernel
theorem dX4_digest_78 : decode cX4_digest 78 = .ok (.goto (-30), 3) := by decide +kernel
theorem dX4_digest_81 : decode cX4_digest 81 = .ok (.iconst 0, 1) := by decide +kernel
theorem dX4_digest_82 : decode cX4_digest 82 = .ok (.istore_n 3, 1) := by decide +kernel
theorem dX4_digest_83 : decode cX4_digest 83 = .ok (.iload_n 3, 1) := by decide +kernel
theorem dX4_digest_84 : decode cX4_digest 84 = .ok (.aload_n 0, 1) := by decide +kernel
theorem dX4_digest_85 : decode cX4_digest 85 = .ok (.getfield 10, 3) := by decide +kernel
theorem dX4_digest_88 : decode cX4_digest 88 = .ok (.getfield 76, 3) := by decide +kernel
theorem dX4_digest_91 : decode cX4_digest 91 = .ok (.if_icmp .ge 39, 3) := by decide +kernel
theorem dX4_digest_94 : decode cX4_digest 94 = .ok (.iconst 0, 1) := by decide +kernel
theorem dX4_digest_95 : decode cX4_digest 95 = .ok (.istore 4, 2) := by decide +kernel
theorem dX4_digest_97 : decode cX4_digest 97 = .ok (.iload 4, 2) := by decide +kernel
theorem dX4_digest_99 : decode cX4_digest 99 = .ok (.iconst 2, 1) := by decide +kernel
theorem dX4_digest_100 : decode cX4_digest 100 = .ok (.if_icmp .gt 24, 3) := by decide +kernel
theorem dX4_digest_103 : decode cX4_digest 103 = .ok (.ldc2_w 218, 3) := by decide +kernel
theorem dX4_digest_106 : decode cX4_digest 106 = .ok (.lload_n 1, 1) := by decide +kernel
theorem dX4_digest_107 : decode cX4_digest 107 = .ok (.lmul, 1) := by decide +kernel
theorem dX4_digest_108 : decode cX4_digest 108 = .ok (.aload_n 0, 1) := by decide +kernel
theorem dX4_digest_109 : decode cX4_digest 109 = .ok (.iload_n 3, 1) := by decide +kernel
theorem dX4_digest_110 : decode cX4_digest 110 = .ok (.iload 4, 2) := by decide +kernel
theorem dX4_digest_112 : decode cX4_digest 112 = .ok (.invokevirtual 223, 3) := by decide +kernel
theorem dX4_digest_115 : decode cX4_digest 115 = .ok (.i2l, 1) := by decide +kernel
theorem dX4_digest_116 : decode cX4_digest 116 = .ok (.ladd, 1) := by decide +kernel
theorem dX4_digest_117 : decode cX4_digest 117 = .ok (.lstore_n 1, 1) := by decide +kernel
theorem dX4_digest_118 : decode cX4_digest 118 = .ok (.iinc 4 1, 3) := by decide +kernel
theorem dX4_digest_121 : decode cX4_digest 121 = .ok (.goto (-24), 3) := by decide +kernel
theorem dX4_digest_124 : decode cX4_digest 124 = .ok (.iinc 3 1, 3) := by decide +kernel
theorem dX4_digest_127 : decode cX4_digest 127 = .ok (.goto (-44), 3) := by decide +kernel
theorem dX4_digest_130 : decode cX4_digest 130 = .ok (.ldc2_w 218, 3) := by decide +kernel
theorem dX4_digest_133 : decode cX4_digest 133 = .ok (.lload_n 1, 1) := by decide +kernel
theorem dX4_digest_134 : decode cX4_digest 134 = .ok (.lmul, 1) := by decide +kernel
theorem dX4_digest_135 : decode cX4_digest 135 = .ok (.aload_n 0, 1) := by decide +kernel
theorem dX4_digest_136 : decode cX4_digest 136 = .ok (.invokevirtual 226, 3) := by decide +kernel
theorem dX4_digest_139 : decode cX4_digest 139 = .ok (.i2l, 1) := by decide +kernel
theorem dX4_digest_140 : decode cX4_digest 140 = .ok (.ladd, 1) := by decide +kernel
theorem dX4_digest_141 : decode cX4_digest 141 = .ok (.lstore_n 1, 1) := by decide +kernel
theorem dX4_digest_142 : decode cX4_digest 142 = .ok (.ldc2_w 218, 3) := by decide +kernel
theorem dX4_digest_145 : decode cX4_digest 145 = .ok (.lload_n 1, 1) := by decide +kernel
theorem dX4_digest_146 : decode cX4_digest 146 = .ok (.lmul, 1) := by decide +kernel
theorem dX4_digest_147 : decode cX4_digest 147 = .ok (.aload_n 0, 1) := by decide +kernel
theorem dX4_digest_148 : decode cX4_digest 148 = .ok (.invokevirtual 229, 3) := by decide +kernel
theorem dX4_digest_151 : decode cX4_digest 151 = .ok (.i2l, 1) := by decide +kernel
theorem dX4_digest_152 : decode cX4_digest 152 = .ok (.ladd, 1) := by decide +kernel
theorem dX4_digest_153 : decode cX4_digest 153 = .ok (.lstore_n 1, 1) := by decide +kernel
theorem dX4_digest_154 : decode cX4_digest 154 = .ok (.ldc2_w 218, 3) := by decide +kernel
theorem dX4_digest_157 : decode cX4_digest 157 = .ok (.lload_n 1, 1) := by decide +kernel
theorem dX4_digest_158 : decode cX4_digest 158 = .ok (.lmul, 1) := by decide +kernel
theorem dX4_digest_159 : decode cX4_digest 159 = .ok (.aload_n 0, 1) := by decide +kernel
theorem dX4_digest_160 : decode cX4_digest 160 = .ok (.invokevirtual 182, 3) := by decide +kernel
theorem dX4_digest_163 : decode cX4_digest 163 = .ok (.i2l, 1) := by decide +kernel
theorem dX4_digest_164 : decode cX4_digest 164 = .ok (.ladd, 1) := by decide +kernel
theorem dX4_digest_165 : decode cX4_digest 165 = .ok (.lstore_n 1, 1) := by decide +kernel
theorem dX4_digest_166 : decode cX4_digest 166 = .ok (.ldc2_w 218, 3) := by decide +kernel
theorem dX4_digest_169 : decode cX4_digest 169 = .ok (.lload_n 1, 1) := by decide +kernel
theorem dX4_digest_170 : decode cX4_digest 170 = .ok (.lmul, 1) := by decide +kernel
theorem dX4_digest_171 : decode cX4_digest 171 = .ok (.aload_n 0, 1) := by decide +kernel
theorem dX4_digest_172 : decode cX4_digest 172 = .ok (.getfield 19, 3) := by decide +kernel
theorem dX4_digest_175 : decode cX4_digest 175 = .ok (.getfield 208, 3) := by decide +kernel
theorem dX4_digest_178 : decode cX4_digest 178 = .ok (.i2l, 1) := by decide +kernel
theorem dX4_digest_179 : decode cX4_digest 179 = .ok (.ladd, 1) := by decide +kernel
theorem dX4_digest_180 : decode cX4_digest 180 = .ok (.lreturn, 1) := by decide +kernel
theorem dX4_requireVariable_0 : decode cX4_requireVariable 0 = .ok (.iload_n 1, 1) := by decide +kernel
theorem dX4_requireVariable_1 : decode cX4_requireVariable 1 = .ok (.ifCond .lt 14, 3) := by decide +kernel
theorem dX4_requireVariable_4 : decode cX4_requireVariable 4 = .ok (.iload_n 1, 1) := by decide +kernel
theorem dX4_requireVariable_5 : decode cX4_requireVariable 5 = .ok (.aload_n 0, 1) := by decide +kernel
theorem dX4_requireVariable_6 : decode cX4_requireVariable 6 = .ok (.getfield 10, 3) := by decide +kernel
theorem dX4_requireVariable_9 : decode cX4_requireVariable 9 = .ok (.getfield 37, 3) := by decide +kernel
theorem dX4_requireVariable_12 : decode cX4_requireVariable 12 = .ok (.if_icmp .lt 13, 3) := by decide +kernel
theorem dX4_requireVariable_15 : decode cX4_requireVariable 15 = .ok (.new 232, 3) := by decide +kernel
theorem dX4_requireVariable_18 : decode cX4_requireVariable 18 = .ok (.dup, 1) := by decide +kernel
theorem dX4_requireVariable_19 : decode cX4_requireVariable 19 = .ok (.ldc 234, 2) := by decide +kernel
theorem dX4_requireVariable_21 : decode cX4_requireVariable 21 = .ok (.invokespecial 236, 3) := by decide +kernel
theorem dX4_requireVariable_24 : decode cX4_requireVariable 24 = .ok (.athrow, 1) := by decide +kernel
theorem dX4_requireVariable_25 : decode cX4_requireVariable 25 = .ok (.return_, 1) := by decide +kernel
theorem dX4_requireClause_0 : decode cX4_requireClause 0 = .ok (.iload_n 1, 1) := by decide +kernel
theorem dX4_requireClause_1 : decode cX4_requireClause 1 = .ok (.ifCond .lt 14, 3) := by decide +kernel
theorem dX4_requireClause_4 : decode cX4_requireClause 4 = .ok (.iload_n 1, 1) := by decide +kernel
theorem dX4_requireClause_5 : decode cX4_requireClause 5 = .ok (.aload_n 0, 1) := by decide +kernel
theorem dX4_requireClause_6 : decode cX4_requireClause 6 = .ok (.getfield 10, 3) := by decide +kernel
theorem dX4_requireClause_9 : decode cX4_requireClause 9 = .ok (.getfield 76, 3) := by decide +kernel
theorem dX4_requireClause_12 : decode cX4_requireClause 12 = .ok (.if_icmp .lt 13, 3) := by decide +kernel
theorem dX4_requireClause_15 : decode cX4_requireClause 15 = .ok (.new 232, 3) := by decide +kernel
theorem dX4_requireClause_18 : decode cX4_requireClause 18 = .ok (.dup, 1) := by decide +kernel
theorem dX4_requireClause_19 : decode cX4_requireClause 19 = .ok (.ldc 237, 2) := by decide +kernel
theorem dX4_requireClause_21 : decode cX4_requireClause 21 = .ok (.invokespecial 236, 3) := by decide +kernel
theorem dX4_requireClause_24 : decode cX4_requireClause 24 = .ok (.athrow, 1) := by decide +kernel
theorem dX4_requireClause_25 : decode cX4_requireClause 25 = .ok (.return_, 1) := by decide +kernel
theorem dX4_requirePlay_0 : decode cX4_requirePlay 0 = .ok (.aload_n 0, 1) := by decide +kernel
theorem dX4_requirePlay_1 : decode cX4_requirePlay 1 = .ok (.getfield 10, 3) := by decide +kernel
theorem dX4_requirePlay_4 : decode cX4_requirePlay 4 = .ok (.iload_n 1, 1) := by decide +kernel
theorem dX4_requirePlay_5 : decode cX4_requirePlay 5 = .ok (.invokevirtual 239, 3) := by decide +kernel
theorem dX4_requirePlay_8 : decode cX4_requirePlay 8 = .ok (.ifCond .ne 13, 3) := by decide +kernel
theorem dX4_requirePlay_11 : decode cX4_requirePlay 11 = .ok (.new 71, 3) := by decide +kernel
theorem dX4_requirePlay_14 : decode cX4_requirePlay 14 = .ok (.dup, 1) := by decide +kernel
theorem dX4_requirePlay_15 : decode cX4_requirePlay 15 = .ok (.ldc 242, 2) := by decide +kernel
theorem dX4_requirePlay_17 : decode cX4_requirePlay 17 = .ok (.invokespecial 75, 3) := by decide +kernel
theorem dX4_requirePlay_20 : decode cX4_requirePlay 20 = .ok (.athrow, 1) := by decide +kernel
theorem dX4_requirePlay_21 : decode cX4_requirePlay 21 = .ok (.return_, 1) := by decide +kernel
theorem dX4_requireHistory_0 : decode cX4_requireHistory 0 = .ok (.iload_n 2, 1) := by decide +kernel
theorem dX4_requireHistory_1 : decode cX4_requireHistory 1 = .ok (.ifCond .lt 9, 3) := by decide +kernel
theorem dX4_requireHistory_4 : decode cX4_requireHistory 4 = .ok (.iload_n 2, 1) := by decide +kernel
theorem dX4_requireHistory_5 : decode cX4_requireHistory 5 = .ok (.iload_n 1, 1) := by decide +kernel
theorem dX4_requireHistory_6 : decode cX4_requireHistory 6 = .ok (.ishr, 1) := by decide +kernel
theorem dX4_requireHistory_7 : decode cX4_requireHistory 7 = .ok (.ifCond .eq 13, 3) := by decide +kernel
theorem dX4_requireHistory_10 : decode cX4_requireHistory 10 = .ok (.new 71, 3) := by decide +kernel
theorem dX4_requireHistory_13 : decode cX4_requireHistory 13 = .ok (.dup, 1) := by decide +kernel
theorem dX4_requireHistory_14 : decode cX4_requireHistory 14 = .ok (.ldc 244, 2) := by decide +kernel
theorem dX4_requireHistory_16 : decode cX4_requireHistory 16 = .ok (.invokespecial 75, 3) := by decide +kernel
theorem dX4_requireHistory_19 : decode cX4_requireHistory 19 = .ok (.athrow, 1) := by decide +kernel
theorem dX4_requireHistory_20 : decode cX4_requireHistory 20 = .ok (.return_, 1) := by decide +kernel
theorem dX4_putVariable_0 : decode cX4_putVariable 0 = .ok (.aload_n 0, 1) := by decide +kernel
theorem dX4_putVariable_1 : decode cX4_putVariable 1 = .ok (.getfield 10, 3) := by decide +kernel
theorem dX4_putVariable_4 : decode cX4_putVariable 4 = .ok (.iload_n 1, 1) := by decide +kernel
theorem dX4_putVariable_5 : decode cX4_putVariable 5 = .ok (.invokevirtual 246, 3) := by decide +kernel
theorem dX4_putVariable_8 : decode cX4_putVariable 8 = .ok (.aload_n 0, 1) := by decide +kernel
theorem dX4_putVariable_9 : decode cX4_putVariable 9 = .ok (.invokevirtual 92, 3) := by decide +kernel
theorem dX4_putVariable_12 : decode cX4_putVariable 12 = .ok (.return_, 1) := by decide +kernel
theorem dX4_putClause_0 : decode cX4_putClause 0 = .ok (.aload_n 0, 1) := by decide +kernel
theorem dX4_putClause_1 : decode cX4_putClause 1 = .ok (.getfield 10, 3) := by decide +kernel
theorem dX4_putClause_4 : decode cX4_putClause 4 = .ok (.iload_n 1, 1) := by decide +kernel
theorem dX4_putClause_5 : decode cX4_putClause 5 = .ok (.iload_n 2, 1) := by decide +kernel
theorem dX4_putClause_6 : decode cX4_putClause 6 = .ok (.invokevirtual 247, 3) := by decide +kernel
theorem dX4_putClause_9 : decode cX4_putClause 9 = .ok (.aload_n 0, 1) := by decide +kernel
theorem dX4_putClause_10 : decode cX4_putClause 10 = .ok (.invokevirtual 92, 3) := by decide +kernel
theorem dX4_putClause_13 : decode cX4_putClause 13 = .ok (.return_, 1) := by decide +kernel
theorem dX4_formulaChanged_0 : decode cX4_formulaChanged 0 = .ok (.aload_n 0, 1) := by decide +kernel
theorem dX4_formulaChanged_1 : decode cX4_formulaChanged 1 = .ok (.getfield 10, 3) := by decide +kernel
theorem dX4_formulaChanged_4 : decode cX4_formulaChanged 4 = .ok (.iconst 0, 1) := by decide +kernel
theorem dX4_formulaChanged_5 : decode cX4_formulaChanged 5 = .ok (.putfield 103, 3) := by decide +kernel
theorem dX4_formulaChanged_8 : decode cX4_formulaChanged 8 = .ok (.aload_n 0, 1) := by decide +kernel
theorem dX4_formulaChanged_9 : decode cX4_formulaChanged 9 = .ok (.getfield 26, 3) := by decide +kernel
theorem dX4_formulaChanged_12 : decode cX4_formulaChanged 12 = .ok (.iconst 1, 1) := by decide +kernel
theorem dX4_formulaChanged_13 : decode cX4_formulaChanged 13 = .ok (.putfield 48, 3) := by decide +kernel
theorem dX4_formulaChanged_16 : decode cX4_formulaChanged 16 = .ok (.return_, 1) := by decide +kernel
theorem dX4_makeRound_0 : decode cX4_makeRound 0 = .ok (.aload_n 0, 1) := by decide +kernel
theorem dX4_makeRound_1 : decode cX4_makeRound 1 = .ok (.getfield 26, 3) := by decide +kernel
theorem dX4_makeRound_4 : decode cX4_makeRound 4 = .ok (.aload_n 0, 1) := by decide +kernel
theorem dX4_makeRound_5 : decode cX4_makeRound 5 = .ok (.getfield 10, 3) := by decide +kernel
theorem dX4_makeRound_8 : decode cX4_makeRound 8 = .ok (.invokevirtual 149, 3) := by decide +kernel
theorem dX4_makeRound_11 : decode cX4_makeRound 11 = .ok (.aload_n 0, 1) := by decide +kernel
theorem dX4_makeRound_12 : decode cX4_makeRound 12 = .ok (.getfield 10, 3) := by decide +kernel
theorem dX4_makeRound_15 : decode cX4_makeRound 15 = .ok (.dup, 1) := by decide +kernel
theorem dX4_makeRound_16 : decode cX4_makeRound 16 = .ok (.getfield 146, 3) := by decide +kernel
theorem dX4_makeRound_19 : decode cX4_makeRound 19 = .ok (.iconst 1, 1) := by decide +kernel
theorem dX4_makeRound_20 : decode cX4_makeRound 20 = .ok (.iadd, 1) := by decide +kernel
theorem dX4_makeRound_21 : decode cX4_makeRound 21 = .ok (.putfield 146, 3) := by decide +kernel
theorem dX4_makeRound_24 : decode cX4_makeRound 24 = .ok (.aload_n 0, 1) := by decide +kernel
theorem dX4_makeRound_25 : decode cX4_makeRound 25 = .ok (.getfield 26, 3) := by decide +kernel
theorem dX4_makeRound_28 : decode cX4_makeRound 28 = .ok (.iconst 0, 1) := by decide +kernel
theorem dX4_makeRound_29 : decode cX4_makeRound 29 = .ok (.iconst 0, 1) := by decide +kernel
theorem dX4_makeRound_30 : decode cX4_makeRound 30 = .ok (.aload_n 0, 1) := by decide +kernel
theorem dX4_makeRound_31 : decode cX4_makeRound 31 = .ok (.getfield 10, 3) := by decide +kernel
theorem dX4_makeRound_34 : decode cX4_makeRound 34 = .ok (.getfield 103, 3) := by decide +kernel
theorem dX4_makeRound_37 : decode cX4_makeRound 37 = .ok (.invokevirtual 167, 3) := by decide +kernel
theorem dX4_makeRound_40 : decode cX4_makeRound 40 = .ok (.ifCond .ne 5, 3) := by decide +kernel
theorem dX4_makeRound_43 : decode cX4_makeRound 43 = .ok (.iconst (-1), 1) := by decide +kernel
theorem dX4_makeRound_44 : decode cX4_makeRound 44 = .ok (.ireturn, 1) := by decide +kernel
theorem dX4_makeRound_45 : decode cX4_makeRound 45 = .ok (.aload_n 0, 1) := by decide +kernel
theorem dX4_makeRound_46 : decode cX4_makeRound 46 = .ok (.getfield 10, 3) := by decide +kernel
theorem dX4_makeRound_49 : decode cX4_makeRound 49 = .ok (.invokevirtual 116, 3) := by decide +kernel
theorem dX4_makeRound_52 : decode cX4_makeRound 52 = .ok (.istore_n 1, 1) := by decide +kernel
theorem dX4_makeRound_53 : decode cX4_makeRound 53 = .ok (.iconst 0, 1) := by decide +kernel
theorem dX4_makeRound_54 : decode cX4_makeRound 54 = .ok (.istore_n 2, 1) := by decide +kernel
theorem dX4_makeRound_55 : decode cX4_makeRound 55 = .ok (.iload_n 2, 1) := by decide +kernel
theorem dX4_makeRound_56 : decode cX4_makeRound 56 = .ok (.iload_n 1, 1) := by decide +kernel
theorem dX4_makeRound_57 : decode cX4_makeRound 57 = .ok (.if_icmp .ge 41, 3) := by decide +kernel
theorem dX4_makeRound_60 : decode cX4_makeRound 60 = .ok (.aload_n 0, 1) := by decide +kernel
theorem dX4_makeRound_61 : decode cX4_makeRound 61 = .ok (.getfield 10, 3) := by decide +kernel
theorem dX4_makeRound_64 : decode cX4_makeRound 64 = .ok (.aload_n 0, 1) := by decide +kernel
theorem dX4_makeRound_65 : decode cX4_makeRound 65 = .ok (.iload_n 2, 1) := by decide +kernel
theorem dX4_makeRound_66 : decode cX4_makeRound 66 = .ok (.invokevirtual 173, 3) := by decide +kernel
theorem dX4_makeRound_69 : decode cX4_makeRound 69 = .ok (.invokevirtual 140, 3) := by decide +kernel
theorem dX4_makeRound_72 : decode cX4_makeRound 72 = .ok (.ifCond .ne 20, 3) := by decide +kernel
theorem dX4_makeRound_75 : decode cX4_makeRound 75 = .ok (.aload_n 0, 1) := by decide +kernel
theorem dX4_makeRound_76 : decode cX4_makeRound 76 = .ok (.getfield 10, 3) := by decide +kernel
theorem dX4_makeRound_79 : decode cX4_makeRound 79 = .ok (.dup, 1) := by decide +kernel
theorem dX4_makeRound_80 : decode cX4_makeRound 80 = .ok (.getfield 103, 3) := by decide +kernel
theorem dX4_makeRound_83 : decode cX4_makeRound 83 = .ok (.iconst 1, 1) := by decide +kernel
theorem dX4_makeRound_84 : decode cX4_makeRound 84 = .ok (.iload_n 2, 1) := by decide +kernel
theorem dX4_makeRound_85 : decode cX4_makeRound 85 = .ok (.ishl, 1) := by decide +kernel
theorem dX4_makeRound_86 : decode cX4_makeRound 86 = .ok (.ior, 1) := by decide +kernel
theorem dX4_makeRound_87 : decode cX4_makeRound 87 = .ok (.putfield 103, 3) := by decide +kernel
theorem dX4_makeRound_90 : decode cX4_makeRound 90 = .ok (.iload_n 2, 1) := by decide +kernel
theorem dX4_makeRound_91 : decode cX4_makeRound 91 = .ok (.ireturn, 1) := by decide +kernel
theorem dX4_makeRound_92 : decode cX4_makeRound 92 = .ok (.iinc 2 1, 3) := by decide +kernel
theorem dX4_makeRound_95 : decode cX4_makeRound 95 = .ok (.goto (-40), 3) := by decide +kernel
theorem dX4_makeRound_98 : decode cX4_makeRound 98 = .ok (.bipush (-2), 2) := by decide +kernel
theorem dX4_makeRound_100 : decode cX4_makeRound 100 = .ok (.ireturn, 1) := by decide +kernel
theorem dX4_valuesAgainst_0 : decode cX4_valuesAgainst 0 = .ok (.iconst 0, 1) := by decide +kernel
theorem dX4_valuesAgainst_1 : decode cX4_valuesAgainst 1 = .ok (.istore_n 2, 1) := by decide +kernel
theorem dX4_valuesAgainst_2 : decode cX4_valuesAgainst 2 = .ok (.iconst 0, 1) := by decide +kernel
theorem dX4_valuesAgainst_3 : decode cX4_valuesAgainst 3 = .ok (.istore_n 3, 1) := by decide +kernel
theorem dX4_valuesAgainst_4 : decode cX4_valuesAgainst 4 = .ok (.iconst 0, 1) := by decide +kernel
theorem dX4_valuesAgainst_5 : decode cX4_valuesAgainst 5 = .ok (.istore 4, 2) := by decide +kernel
theorem dX4_valuesAgainst_7 : decode cX4_valuesAgainst 7 = .ok (.iload 4, 2) := by decide +kernel
theorem dX4_valuesAgainst_9 : decode cX4_valuesAgainst 9 = .ok (.aload_n 0, 1) := by decide +kernel
theorem dX4_valuesAgainst_10 : decode cX4_valuesAgainst 10 = .ok (.getfield 10, 3) := by decide +kernel
theorem dX4_valuesAgainst_13 : decode cX4_valuesAgainst 13 = .ok (.getfield 37, 3) := by decide +kernel
theorem dX4_valuesAgainst_16 : decode cX4_valuesAgainst 16 = .ok (.if_icmp .ge 72, 3) := by decide +kernel
theorem dX4_valuesAgainst_19 : decode cX4_valuesAgainst 19 = .ok (.aload_n 0, 1) := by decide +kernel
theorem dX4_valuesAgainst_20 : decode cX4_valuesAgainst 20 = .ok (.getfield 10, 3) := by decide +kernel
theorem dX4_valuesAgainst_23 : decode cX4_valuesAgainst 23 = .ok (.iload 4, 2) := by decide +kernel
theorem dX4_valuesAgainst_25 : decode cX4_valuesAgainst 25 = .ok (.invokevirtual 122, 3) := by decide +kernel
theorem dX4_valuesAgainst_28 : decode cX4_valuesAgainst 28 = .ok (.iconst 1, 1) := by decide +kernel
theorem dX4_valuesAgainst_29 : decode cX4_valuesAgainst 29 = .ok (.if_icmp .ne 16, 3) := by decide +kernel
theorem dX4_valuesAgainst_32 : decode cX4_valuesAgainst 32 = .ok (.iload_n 1, 1) := by decide +kernel
theorem dX4_valuesAgainst_33 : decode cX4_valuesAgainst 33 = .ok (.iload_n 3, 1) := by decide +kernel
theorem dX4_valuesAgainst_34 : decode cX4_valuesAgainst 34 = .ok (.invokestatic 176, 3) := by decide +kernel
theorem dX4_valuesAgainst_37 : decode cX4_valuesAgainst 37 = .ok (.istore 5, 2) := by decide +kernel
theorem dX4_valuesAgainst_39 : decode cX4_valuesAgainst 39 = .ok (.iinc 3 1, 3) := by decide +kernel
theorem dX4_valuesAgainst_42 : decode cX4_valuesAgainst 42 = .ok (.goto 32, 3) := by decide +kernel
theorem dX4_valuesAgainst_45 : decode cX4_valuesAgainst 45 = .ok (.aload_n 0, 1) := by decide +kernel
theorem dX4_valuesAgainst_46 : decode cX4_valuesAgainst 46 = .ok (.getfield 26, 3) := by decide +kernel
theorem dX4_valuesAgainst_49 : decode cX4_valuesAgainst 49 = .ok (.iload 4, 2) := by decide +kernel
theorem dX4_valuesAgainst_51 : decode cX4_valuesAgainst 51 = .ok (.iconst 1, 1) := by decide +kernel
theorem dX4_valuesAgainst_52 : decode cX4_valuesAgainst 52 = .ok (.iadd, 1) := by decide +kernel
theorem dX4_valuesAgainst_53 : decode cX4_valuesAgainst 53 = .ok (.iload_n 2, 1) := by decide +kernel
theorem dX4_valuesAgainst_54 : decode cX4_valuesAgainst 54 = .ok (.aload_n 0, 1) := by decide +kernel
theorem dX4_valuesAgainst_55 : decode cX4_valuesAgainst 55 = .ok (.getfield 10, 3) := by decide +kernel
theorem dX4_valuesAgainst_58 : decode cX4_valuesAgainst 58 = .ok (.getfield 103, 3) := by decide +kernel
theorem dX4_valuesAgainst_61 : decode cX4_valuesAgainst 61 = .ok (.invokevirtual 167, 3) := by decide +kernel
theorem dX4_valuesAgainst_64 : decode cX4_valuesAgainst 64 = .ok (.ifCond .eq 7, 3) := by decide +kernel
theorem dX4_valuesAgainst_67 : decode cX4_valuesAgainst 67 = .ok (.iconst 0, 1) := by decide +kernel
theorem dX4_valuesAgainst_68 : decode cX4_valuesAgainst 68 = .ok (.goto 4, 3) := by decide +kernel
theorem dX4_valuesAgainst_71 : decode cX4_valuesAgainst 71 = .ok (.iconst 1, 1) := by decide +kernel
theorem dX4_valuesAgainst_72 : decode cX4_valuesAgainst 72 = .ok (.istore 5, 2) := by decide +kernel
theorem dX4_valuesAgainst_74 : decode cX4_valuesAgainst 74 = .ok (.iload_n 2, 1) := by decide +kernel
theorem dX4_valuesAgainst_75 : decode cX4_valuesAgainst 75 = .ok (.iload 5, 2) := by decide +kernel
theorem dX4_valuesAgainst_77 : decode cX4_valuesAgainst 77 = .ok (.iload 4, 2) := by decide +kernel
theorem dX4_valuesAgainst_79 : decode cX4_valuesAgainst 79 = .ok (.ishl, 1) := by decide +kernel
theorem dX4_valuesAgainst_80 : decode cX4_valuesAgainst 80 = .ok (.ior, 1) := by decide +kernel
theorem dX4_valuesAgainst_81 : decode cX4_valuesAgainst 81 = .ok (.istore_n 2, 1) := by decide +kernel
theorem dX4_valuesAgainst_82 : decode cX4_valuesAgainst 82 = .ok (.iinc 4 1, 3) := by decide +kernel
theorem dX4_valuesAgainst_85 : decode cX4_valuesAgainst 85 = .ok (.goto (-78), 3) := by decide +kernel
theorem dX4_valuesAgainst_88 : decode cX4_valuesAgainst 88 = .ok (.iload_n 2, 1) := by decide +kernel
theorem dX4_valuesAgainst_89 : decode cX4_valuesAgainst 89 = .ok (.ireturn, 1) := by decide +kernel
theorem dX4_winnerIn_0 : decode cX4_winnerIn 0 = .ok (.aload_n 0, 1) := by decide +kernel
theorem dX4_winnerIn_1 : decode cX4_winnerIn 1 = .ok (.getfield 26, 3) := by decide +kernel
theorem dX4_winnerIn_4 : decode cX4_winnerIn 4 = .ok (.iload_n 1, 1) := by decide +kernel
theorem dX4_winnerIn_5 : decode cX4_winnerIn 5 = .ok (.iload_n 2, 1) := by decide +kernel
theorem dX4_winnerIn_6 : decode cX4_winnerIn 6 = .ok (.aload_n 0, 1) := by decide +kernel
theorem dX4_winnerIn_7 : decode cX4_winnerIn 7 = .ok (.getfield 10, 3) := by decide +kernel
theorem dX4_winnerIn_10 : decode cX4_winnerIn 10 = .ok (.invokevirtual 162, 3) := by decide +kernel
theorem dX4_winnerIn_13 : decode cX4_winnerIn 13 = .ok (.invokevirtual 167, 3) := by decide +kernel
theorem dX4_winnerIn_16 : decode cX4_winnerIn 16 = .ok (.ifCond .eq 7, 3) := by decide +kernel
theorem dX4_winnerIn_19 : decode cX4_winnerIn 19 = .ok (.iconst 0, 1) := by decide +kernel
theorem dX4_winnerIn_20 : decode cX4_winnerIn 20 = .ok (.goto 4, 3) := by decide +kernel
theorem dX4_winnerIn_23 : decode cX4_winnerIn 23 = .ok (.iconst 1, 1) := by decide +kernel
theorem dX4_winnerIn_24 : decode cX4_winnerIn 24 = .ok (.ireturn, 1) := by decide +kernel
theorem dX4_learnedBeginnings_0 : decode cX4_learnedBeginnings 0 = .ok (.iconst 0, 1) := by decide +kernel
theorem dX4_learnedBeginnings_1 : decode cX4_learnedBeginnings 1 = .ok (.istore_n 2, 1) := by decide +kernel
theorem dX4_learnedBeginnings_2 : decode cX4_learnedBeginnings 2 = .ok (.aload_n 0, 1) := by decide +kernel
theorem dX4_learnedBeginnings_3 : decode cX4_learnedBeginnings 3 = .ok (.getfield 10, 3) := by decide +kernel
theorem dX4_learnedBeginnings_6 : decode cX4_learnedBeginnings 6 = .ok (.invokevirtual 116, 3) := by decide +kernel
theorem dX4_learnedBeginnings_9 : decode cX4_learnedBeginnings 9 = .ok (.istore_n 3, 1) := by decide +kernel
theorem dX4_learnedBeginnings_10 : decode cX4_learnedBeginnings 10 = .ok (.iconst 0, 1) := by decide +kernel
theorem dX4_learnedBeginnings_11 : decode cX4_learnedBeginnings 11 = .ok (.istore 4, 2) := by decide +kernel
theorem dX4_learnedBeginnings_13 : decode cX4_learnedBeginnings 13 = .ok (.iload 4, 2) := by decide +kernel
theorem dX4_learnedBeginnings_15 : decode cX4_learnedBeginnings 15 = .ok (.iload_n 3, 1) := by decide +kernel
theorem dX4_learnedBeginnings_16 : decode cX4_learnedBeginnings 16 = .ok (.if_icmp .ge 34, 3) := by decide +kernel
theorem dX4_learnedBeginnings_19 : decode cX4_learnedBeginnings 19 = .ok (.aload_n 0, 1) := by decide +kernel
theorem dX4_learnedBeginnings_20 : decode cX4_learnedBeginnings 20 = .ok (.getfield 10, 3) := by decide +kernel
theorem dX4_learnedBeginnings_23 : decode cX4_learnedBeginnings 23 = .ok (.iload 4, 2) := by decide +kernel
theorem dX4_learnedBeginnings_25 : decode cX4_learnedBeginnings 25 = .ok (.invokevirtual 98, 3) := by decide +kernel
theorem dX4_learnedBeginnings_28 : decode cX4_learnedBeginnings 28 = .ok (.ifCond .eq 16, 3) := by decide +kernel
theorem dX4_learnedBeginnings_31 : decode cX4_learnedBeginnings 31 = .ok (.iload_n 2, 1) := by decide +kernel
theorem dX4_learnedBeginnings_32 : decode cX4_learnedBeginnings 32 = .ok (.iconst 1, 1) := by decide +kernel
theorem dX4_learnedBeginnings_33 : decode cX4_learnedBeginnings 33 = .ok (.iload 4, 2) := by decide +kernel
theorem dX4_learnedBeginnings_35 : decode cX4_learnedBeginnings 35 = .ok (.iconst 1, 1) := by decide +kernel
theorem dX4_learnedBeginnings_36 : decode cX4_learnedBeginnings 36 = .ok (.iload_n 1, 1) := by decide +kernel
theorem dX4_learnedBeginnings_37 : decode cX4_learnedBeginnings 37 = .ok (.ishl, 1) := by decide +kernel
theorem dX4_learnedBeginnings_38 : decode cX4_learnedBeginnings 38 = .ok (.iconst 1, 1) := by decide +kernel
theorem dX4_learnedBeginnings_39 : decode cX4_learnedBeginnings 39 = .ok (.isub, 1) := by decide +kernel
theorem dX4_learnedBeginnings_40 : decode cX4_learnedBeginnings 40 = .ok (.iand, 1) := by decide +kernel
theorem dX4_learnedBeginnings_41 : decode cX4_learnedBeginnings 41 = .ok (.ishl, 1) := by decide +kernel
theorem dX4_learnedBeginnings_42 : decode cX4_learnedBeginnings 42 = .ok (.ior, 1) := by decide +kernel
theorem dX4_learnedBeginnings_43 : decode cX4_learnedBeginnings 43 = .ok (.istore_n 2, 1) := by decide +kernel
theorem dX4_learnedBeginnings_44 : decode cX4_learnedBeginnings 44 = .ok (.iinc 4 1, 3) := by decide +kernel
theorem dX4_learnedBeginnings_47 : decode cX4_learnedBeginnings 47 = .ok (.goto (-34), 3) := by decide +kernel
theorem dX4_learnedBeginnings_50 : decode cX4_learnedBeginnings 50 = .ok (.iload_n 2, 1) := by decide +kernel
theorem dX4_learnedBeginnings_51 : decode cX4_learnedBeginnings 51 = .ok (.invokestatic 106, 3) := by decide +kernel
theorem dX4_learnedBeginnings_54 : decode cX4_learnedBeginnings 54 = .ok (.ireturn, 1) := by decide +kernel
theorem dX4_lowestLeastProof_0 : decode cX4_lowestLeastProof 0 = .ok (.aload_n 0, 1) := by decide +kernel
theorem dX4_lowestLeastProof_1 : decode cX4_lowestLeastProof 1 = .ok (.getfield 26, 3) := by decide +kernel
theorem dX4_lowestLeastProof_4 : decode cX4_lowestLeastProof 4 = .ok (.aload_n 0, 1) := by decide +kernel
theorem dX4_lowestLeastProof_5 : decode cX4_lowestLeastProof 5 = .ok (.getfield 10, 3) := by decide +kernel
theorem dX4_lowestLeastProof_8 : decode cX4_lowestLeastProof 8 = .ok (.invokevirtual 149, 3) := by decide +kernel
theorem dX4_lowestLeastProof_11 : decode cX4_lowestLeastProof 11 = .ok (.iconst (-1), 1) := by decide +kernel
theorem dX4_lowestLeastProof_12 : decode cX4_lowestLeastProof 12 = .ok (.istore_n 1, 1) := by decide +kernel
theorem dX4_lowestLeastProof_13 : decode cX4_lowestLeastProof 13 = .ok (.aload_n 0, 1) := by decide +kernel
theorem dX4_lowestLeastProof_14 : decode cX4_lowestLeastProof 14 = .ok (.getfield 10, 3) := by decide +kernel
theorem dX4_lowestLeastProof_17 : decode cX4_lowestLeastProof 17 = .ok (.invokevirtual 162, 3) := by decide +kernel
theorem dX4_lowestLeastProof_20 : decode cX4_lowestLeastProof 20 = .ok (.istore_n 2, 1) := by decide +kernel
theorem dX4_lowestLeastProof_21 : decode cX4_lowestLeastProof 21 = .ok (.iconst 1, 1) := by decide +kernel
theorem dX4_lowestLeastProof_22 : decode cX4_lowestLeastProof 22 = .ok (.istore_n 3, 1) := by decide +kernel
theorem dX4_lowestLeastProof_23 : decode cX4_lowestLeastProof 23 = .ok (.iload_n 3, 1) := by decide +kernel
theorem dX4_lowestLeastProof_24 : decode cX4_lowestLeastProof 24 = .ok (.iload_n 2, 1) := by decide +kernel
theorem dX4_lowestLeastProof_25 : decode cX4_lowestLeastProof 25 = .ok (.if_icmp .gt 52, 3) := by decide +kernel
theorem dX4_lowestLeastProof_28 : decode cX4_lowestLeastProof 28 = .ok (.iload_n 1, 1) := by decide +kernel
theorem dX4_lowestLeastProof_29 : decode cX4_lowestLeastProof 29 = .ok (.iconst (-1), 1) := by decide +kernel
theorem dX4_lowestLeastProof_30 : decode cX4_lowestLeastProof 30 = .ok (.if_icmp .eq 14, 3) := by decide +kernel
theorem dX4_lowestLeastProof_33 : decode cX4_lowestLeastProof 33 = .ok (.iload_n 3, 1) := by decide +kernel
theorem dX4_lowestLeastProof_34 : decode cX4_lowestLeastProof 34 = .ok (.invokestatic 106, 3) := by decide +kernel
theorem dX4_lowestLeastProof_37 : decode cX4_lowestLeastProof 37 = .ok (.iload_n 1, 1) := by decide +kernel
theorem dX4_lowestLeastProof_38 : decode cX4_lowestLeastProof 38 = .ok (.invokestatic 106, 3) := by decide +kernel
theorem dX4_lowestLeastProof_41 : decode cX4_lowestLeastProof 41 = .ok (.if_icmp .ge 7, 3) := by decide +kernel
theorem dX4_lowestLeastProof_44 : decode cX4_lowestLeastProof 44 = .ok (.iconst 1, 1) := by decide +kernel
theorem dX4_lowestLeastProof_45 : decode cX4_lowestLeastProof 45 = .ok (.goto 4, 3) := by decide +kernel
theorem dX4_lowestLeastProof_48 : decode cX4_lowestLeastProof 48 = .ok (.iconst 0, 1) := by decide +kernel
theorem dX4_lowestLeastProof_49 : decode cX4_lowestLeastProof 49 = .ok (.istore 4, 2) := by decide +kernel
theorem dX4_lowestLeastProof_51 : decode cX4_lowestLeastProof 51 = .ok (.iload 4, 2) := by decide +kernel
theorem dX4_lowestLeastProof_53 : decode cX4_lowestLeastProof 53 = .ok (.ifCond .eq 18, 3) := by decide +kernel
theorem dX4_lowestLeastProof_56 : decode cX4_lowestLeastProof 56 = .ok (.aload_n 0, 1) := by decide +kernel
theorem dX4_lowestLeastProof_57 : decode cX4_lowestLeastProof 57 = .ok (.getfield 26, 3) := by decide +kernel
theorem dX4_lowestLeastProof_60 : decode cX4_lowestLeastProof 60 = .ok (.iconst 0, 1) := by decide +kernel
theorem dX4_lowestLeastProof_61 : decode cX4_lowestLeastProof 61 = .ok (.iconst 0, 1) := by decide +kernel
theorem dX4_lowestLeastProof_62 : decode cX4_lowestLeastProof 62 = .ok (.iload_n 3, 1) := by decide +kernel
theorem dX4_lowestLeastProof_63 : decode cX4_lowestLeastProof 63 = .ok (.invokevirtual 167, 3) := by decide +kernel
theorem dX4_lowestLeastProof_66 : decode cX4_lowestLeastProof 66 = .ok (.ifCond .ne 5, 3) := by decide +kernel
theorem dX4_lowestLeastProof_69 : decode cX4_lowestLeastProof 69 = .ok (.iload_n 3, 1) := by decide +kernel
theorem dX4_lowestLeastProof_70 : decode cX4_lowestLeastProof 70 = .ok (.istore_n 1, 1) := by decide +kernel
theorem dX4_lowestLeastProof_71 : decode cX4_lowestLeastProof 71 = .ok (.iinc 3 1, 3) := by decide +kernel
theorem dX4_lowestLeastProof_74 : decode cX4_lowestLeastProof 74 = .ok (.goto (-51), 3) := by decide +kernel
theorem dX4_lowestLeastProof_77 : decode cX4_lowestLeastProof 77 = .ok (.iload_n 1, 1) := by decide +kernel
theorem dX4_lowestLeastProof_78 : decode cX4_lowestLeastProof 78 = .ok (.ireturn, 1) := by decide +kernel
theorem dX4_obeyOrder_0 : decode cX4_obeyOrder 0 = .ok (.aload_n 0, 1) := by decide +kernel
theorem dX4_obeyOrder_1 : decode cX4_obeyOrder 1 = .ok (.getfield 33, 3) := by decide +kernel
theorem dX4_obeyOrder_4 : decode cX4_obeyOrder 4 = .ok (.getfield 248, 3) := by decide +kernel
theorem dX4_obeyOrder_7 : decode cX4_obeyOrder 7 = .ok (.lookupswitch 94 #[(99, 63), (101, 41), (108, 82), (117, 41)], 41) := by decide +kernel
theorem dX4_obeyOrder_48 : decode cX4_obeyOrder 48 = .ok (.aload_n 0, 1) := by decide +kernel
theorem dX4_obeyOrder_49 : decode cX4_obeyOrder 49 = .ok (.aload_n 0, 1) := by decide +kernel
theorem dX4_obeyOrder_50 : decode cX4_obeyOrder 50 = .ok (.getfield 33, 3) := by decide +kernel
theorem dX4_obeyOrder_53 : decode cX4_obeyOrder 53 = .ok (.getfield 248, 3) := by decide +kernel
theorem dX4_obeyOrder_56 : decode cX4_obeyOrder 56 = .ok (.bipush 117, 2) := by decide +kernel
theorem dX4_obeyOrder_58 : decode cX4_obeyOrder 58 = .ok (.if_icmp .ne 7, 3) := by decide +kernel
theorem dX4_obeyOrder_61 : decode cX4_obeyOrder 61 = .ok (.iconst 1, 1) := by decide +kernel
theorem dX4_obeyOrder_62 : decode cX4_obeyOrder 62 = .ok (.goto 4, 3) := by decide +kernel
theorem dX4_obeyOrder_65 : decode cX4_obeyOrder 65 = .ok (.iconst 0, 1) := by decide +kernel
theorem dX4_obeyOrder_66 : decode cX4_obeyOrder 66 = .ok (.invokevirtual 251, 3) := by decide +kernel
theorem dX4_obeyOrder_69 : decode cX4_obeyOrder 69 = .ok (.ireturn, 1) := by decide +kernel
theorem dX4_obeyOrder_70 : decode cX4_obeyOrder 70 = .ok (.aload_n 0, 1) := by decide +kernel
theorem dX4_obeyOrder_71 : decode cX4_obeyOrder 71 = .ok (.aload_n 0, 1) := by decide +kernel
theorem dX4_obeyOrder_72 : decode cX4_obeyOrder 72 = .ok (.getfield 33, 3) := by decide +kernel
theorem dX4_obeyOrder_75 : decode cX4_obeyOrder 75 = .ok (.getfield 254, 3) := by decide +kernel
theorem dX4_obeyOrder_78 : decode cX4_obeyOrder 78 = .ok (.aload_n 0, 1) := by decide +kernel
theorem dX4_obeyOrder_79 : decode cX4_obeyOrder 79 = .ok (.getfield 33, 3) := by decide +kernel
theorem dX4_obeyOrder_82 : decode cX4_obeyOrder 82 = .ok (.getfield 256, 3) := by decide +kernel
theorem dX4_obeyOrder_85 : decode cX4_obeyOrder 85 = .ok (.invokevirtual 258, 3) := by decide +kernel
theorem dX4_obeyOrder_88 : decode cX4_obeyOrder 88 = .ok (.ireturn, 1) := by decide +kernel
theorem dX4_obeyOrder_89 : decode cX4_obeyOrder 89 = .ok (.aload_n 0, 1) := by decide +kernel
theorem dX4_obeyOrder_90 : decode cX4_obeyOrder 90 = .ok (.aload_n 0, 1) := by decide +kernel
theorem dX4_obeyOrder_91 : decode cX4_obeyOrder 91 = .ok (.getfield 33, 3) := by decide +kernel
theorem dX4_obeyOrder_94 : decode cX4_obeyOrder 94 = .ok (.getfield 262, 3) := by decide +kernel
theorem dX4_obeyOrder_97 : decode cX4_obeyOrder 97 = .ok (.invokevirtual 265, 3) := by decide +kernel
theorem dX4_obeyOrder_100 : decode cX4_obeyOrder 100 = .ok (.ireturn, 1) := by decide +kernel
theorem dX4_obeyOrder_101 : decode cX4_obeyOrder 101 = .ok (.aload_n 0, 1) := by decide +kernel
theorem dX4_obeyOrder_102 : decode cX4_obeyOrder 102 = .ok (.invokevirtual 112, 3) := by decide +kernel
theorem dX4_obeyOrder_105 : decode cX4_obeyOrder 105 = .ok (.pop, 1) := by decide +kernel
theorem dX4_obeyOrder_106 : decode cX4_obeyOrder 106 = .ok (.iconst 1, 1) := by decide +kernel
theorem dX4_obeyOrder_107 : decode cX4_obeyOrder 107 = .ok (.ireturn, 1) := by decide +kernel
theorem dX4_obeyVariable_0 : decode cX4_obeyVariable 0 = .ok (.aload_n 0, 1) := by decide +kernel
theorem dX4_obeyVariable_1 : decode cX4_obeyVariable 1 = .ok (.getfield 10, 3) := by decide +kernel
theorem dX4_obeyVariable_4 : decode cX4_obeyVariable 4 = .ok (.iload_n 1, 1) := by decide +kernel
theorem dX4_obeyVariable_5 : decode cX4_obeyVariable 5 = .ok (.invokevirtual 52, 3) := by decide +kernel
theorem dX4_obeyVariable_8 : decode cX4_obeyVariable 8 = .ok (.ifCond .ne 5, 3) := by decide +kernel
theorem dX4_obeyVariable_11 : decode cX4_obeyVariable 11 = .ok (.iconst 0, 1) := by decide +kernel
theorem dX4_obeyVariable_12 : decode cX4_obeyVariable 12 = .ok (.ireturn, 1) := by decide +kernel
theorem dX4_obeyVariable_13 : decode cX4_obeyVariable 13 = .ok (.aload_n 0, 1) := by decide +kernel
theorem dX4_obeyVariable_14 : decode cX4_obeyVariable 14 = .ok (.iload_n 1, 1) := by decide +kernel
theorem dX4_obeyVariable_15 : decode cX4_obeyVariable 15 = .ok (.invokevirtual 63, 3) := by decide +kernel
theorem dX4_obeyVariable_18 : decode cX4_obeyVariable 18 = .ok (.iconst 1, 1) := by decide +kernel
theorem dX4_obeyVariable_19 : decode cX4_obeyVariable 19 = .ok (.ireturn, 1) := by decide +kernel
theorem dX4_obeyClause_0 : decode cX4_obeyClause 0 = .ok (.aload_n 0, 1) := by decide +kernel
theorem dX4_obeyClause_1 : decode cX4_obeyClause 1 = .ok (.getfield 10, 3) := by decide +kernel
theorem dX4_obeyClause_4 : decode cX4_obeyClause 4 = .ok (.iload_n 1, 1) := by decide +kernel
theorem dX4_obeyClause_5 : decode cX4_obeyClause 5 = .ok (.iload_n 2, 1) := by decide +kernel
theorem dX4_obeyClause_6 : decode cX4_obeyClause 6 = .ok (.ior, 1) := by decide +kernel
theorem dX4_obeyClause_7 : decode cX4_obeyClause 7 = .ok (.invokevirtual 67, 3) := by decide +kernel
theorem dX4_obeyClause_10 : decode cX4_obeyClause 10 = .ok (.ifCond .eq 15, 3) := by decide +kernel
theorem dX4_obeyClause_13 : decode cX4_obeyClause 13 = .ok (.aload_n 0, 1) := by decide +kernel
theorem dX4_obeyClause_14 : decode cX4_obeyClause 14 = .ok (.getfield 10, 3) := by decide +kernel
theorem dX4_obeyClause_17 : decode cX4_obeyClause 17 = .ok (.getfield 76, 3) := by decide +kernel
theorem dX4_obeyClause_20 : decode cX4_obeyClause 20 = .ok (.bipush 20, 2) := by decide +kernel
theorem dX4_obeyClause_22 : decode cX4_obeyClause 22 = .ok (.if_icmp .lt 5, 3) := by decide +kernel
theorem dX4_obeyClause_25 : decode cX4_obeyClause 25 = .ok (.iconst 0, 1) := by decide +kernel
theorem dX4_obeyClause_26 : decode cX4_obeyClause 26 = .ok (.ireturn, 1) := by decide +kernel
theorem dX4_obeyClause_27 : decode cX4_obeyClause 27 = .ok (.aload_n 0, 1) := by decide +kernel
theorem dX4_obeyClause_28 : decode cX4_obeyClause 28 = .ok (.iload_n 1, 1) := by decide +kernel
theorem dX4_obeyClause_29 : decode cX4_obeyClause 29 = .ok (.iload_n 2, 1) := by decide +kernel
theorem dX4_obeyClause_30 : decode cX4_obeyClause 30 = .ok (.invokevirtual 81, 3) := by decide +kernel
theorem dX4_obeyClause_33 : decode cX4_obeyClause 33 = .ok (.iconst 1, 1) := by decide +kernel
theorem dX4_obeyClause_34 : decode cX4_obeyClause 34 = .ok (.ireturn, 1) := by decide +kernel
theorem dX4_obeyLearn_0 : decode cX4_obeyLearn 0 = .ok (.aload_n 0, 1) := by decide +kernel
theorem dX4_obeyLearn_1 : decode cX4_obeyLearn 1 = .ok (.getfield 10, 3) := by decide +kernel
theorem dX4_obeyLearn_4 : decode cX4_obeyLearn 4 = .ok (.iload_n 1, 1) := by decide +kernel
theorem dX4_obeyLearn_5 : decode cX4_obeyLearn 5 = .ok (.invokevirtual 239, 3) := by decide +kernel
theorem dX4_obeyLearn_8 : decode cX4_obeyLearn 8 = .ok (.ifCond .eq 14, 3) := by decide +kernel
theorem dX4_obeyLearn_11 : decode cX4_obeyLearn 11 = .ok (.aload_n 0, 1) := by decide +kernel
theorem dX4_obeyLearn_12 : decode cX4_obeyLearn 12 = .ok (.getfield 10, 3) := by decide +kernel
theorem dX4_obeyLearn_15 : decode cX4_obeyLearn 15 = .ok (.iload_n 1, 1) := by decide +kernel
theorem dX4_obeyLearn_16 : decode cX4_obeyLearn 16 = .ok (.invokevirtual 98, 3) := by decide +kernel
theorem dX4_obeyLearn_19 : decode cX4_obeyLearn 19 = .ok (.ifCond .eq 5, 3) := by decide +kernel
theorem dX4_obeyLearn_22 : decode cX4_obeyLearn 22 = .ok (.iconst 0, 1) := by decide +kernel
theorem dX4_obeyLearn_23 : decode cX4_obeyLearn 23 = .ok (.ireturn, 1) := by decide +kernel
theorem dX4_obeyLearn_24 : decode cX4_obeyLearn 24 = .ok (.aload_n 0, 1) := by decide +kernel
theorem dX4_obeyLearn_25 : decode cX4_obeyLearn 25 = .ok (.getfield 10, 3) := by decide +kernel
theorem dX4_obeyLearn_28 : decode cX4_obeyLearn 28 = .ok (.dup, 1) := by decide +kernel
theorem dX4_obeyLearn_29 : decode cX4_obeyLearn 29 = .ok (.getfield 103, 3) := by decide +kernel
theorem dX4_obeyLearn_32 : decode cX4_obeyLearn 32 = .ok (.iconst 1, 1) := by decide +kernel
theorem dX4_obeyLearn_33 : decode cX4_obeyLearn 33 = .ok (.iload_n 1, 1) := by decide +kernel
theorem dX4_obeyLearn_34 : decode cX4_obeyLearn 34 = .ok (.ishl, 1) := by decide +kernel
theorem dX4_obeyLearn_35 : decode cX4_obeyLearn 35 = .ok (.ior, 1) := by decide +kernel
theorem dX4_obeyLearn_36 : decode cX4_obeyLearn 36 = .ok (.putfield 103, 3) := by decide +kernel
theorem dX4_obeyLearn_39 : decode cX4_obeyLearn 39 = .ok (.iconst 1, 1) := by decide +kernel
theorem dX4_obeyLearn_40 : decode cX4_obeyLearn 40 = .ok (.ireturn, 1) := by decide +kernel
theorem dX4_bit_0 : decode cX4_bit 0 = .ok (.iload_n 0, 1) := by decide +kernel
theorem dX4_bit_1 : decode cX4_bit 1 = .ok (.iload_n 1, 1) := by decide +kernel
theorem dX4_bit_2 : decode cX4_bit 2 = .ok (.ishr, 1) := by decide +kernel
theorem dX4_bit_3 : decode cX4_bit 3 = .ok (.iconst 1, 1) := by decide +kernel
theorem dX4_bit_4 : decode cX4_bit 4 = .ok (.iand, 1) := by decide +kernel
theorem dX4_bit_5 : decode cX4_bit 5 = .ok (.ireturn, 1) := by decide +kernel
theorem dX4_read_0 : decode cX4_read 0 = .ok (.iload_n 1, 1) := by decide +kernel
theorem dX4_read_1 : decode cX4_read 1 = .ok (.ifCond .lt 15, 3) := by decide +kernel
theorem dX4_read_4 : decode cX4_read 4 = .ok (.iload_n 1, 1) := by decide +kernel
theorem dX4_read_5 : decode cX4_read 5 = .ok (.aload_n 0, 1) := by decide +kernel
theorem dX4_read_6 : decode cX4_read 6 = .ok (.arraylength, 1) := by decide +kernel
theorem dX4_read_7 : decode cX4_read 7 = .ok (.if_icmp .ge 9, 3) := by decide +kernel
theorem dX4_read_10 : decode cX4_read 10 = .ok (.aload_n 0, 1) := by decide +kernel
theorem dX4_read_11 : decode cX4_read 11 = .ok (.iload_n 1, 1) := by decide +kernel
theorem dX4_read_12 : decode cX4_read 12 = .ok (.iaload, 1) := by decide +kernel
theorem dX4_read_13 : decode cX4_read 13 = .ok (.goto 4, 3) := by decide +kernel
theorem dX4_read_16 : decode cX4_read 16 = .ok (.iconst 0, 1) := by decide +kernel
theorem dX4_read_17 : decode cX4_read 17 = .ok (.ireturn, 1) := by decide +kernel
theorem dX4_write_0 : decode cX4_write 0 = .ok (.iload_n 1, 1) := by decide +kernel
theorem dX4_write_1 : decode cX4_write 1 = .ok (.ifCond .lt 13, 3) := by decide +kernel
theorem dX4_write_4 : decode cX4_write 4 = .ok (.iload_n 1, 1) := by decide +kernel
theorem dX4_write_5 : decode cX4_write 5 = .ok (.aload_n 0, 1) := by decide +kernel
theorem dX4_write_6 : decode cX4_write 6 = .ok (.arraylength, 1) := by decide +kernel
theorem dX4_write_7 : decode cX4_write 7 = .ok (.if_icmp .ge 7, 3) := by decide +kernel
theorem dX4_write_10 : decode cX4_write 10 = .ok (.aload_n 0, 1) := by decide +kernel
theorem dX4_write_11 : decode cX4_write 11 = .ok (.iload_n 1, 1) := by decide +kernel
theorem dX4_write_12 : decode cX4_write 12 = .ok (.iload_n 2, 1) := by decide +kernel
theorem dX4_write_13 : decode cX4_write 13 = .ok (.iastore, 1) := by decide +kernel
theorem dX4_write_14 : decode cX4_write 14 = .ok (.return_, 1) := by decide +kernel
theorem dX4_readLong_0 : decode cX4_readLong 0 = .ok (.iload_n 1, 1) := by decide +kernel
theorem dX4_readLong_1 : decode cX4_readLong 1 = .ok (.ifCond .lt 15, 3) := by decide +kernel
theorem dX4_readLong_4 : decode cX4_readLong 4 = .ok (.iload_n 1, 1) := by decide +kernel
theorem dX4_readLong_5 : decode cX4_readLong 5 = .ok (.aload_n 0, 1) := by decide +kernel
theorem dX4_readLong_6 : decode cX4_readLong 6 = .ok (.arraylength, 1) := by decide +kernel
theorem dX4_readLong_7 : decode cX4_readLong 7 = .ok (.if_icmp .ge 9, 3) := by decide +kernel
theorem dX4_readLong_10 : decode cX4_readLong 10 = .ok (.aload_n 0, 1) := by decide +kernel
theorem dX4_readLong_11 : decode cX4_readLong 11 = .ok (.iload_n 1, 1) := by decide +kernel
theorem dX4_readLong_12 : decode cX4_readLong 12 = .ok (.laload, 1) := by decide +kernel
theorem dX4_readLong_13 : decode cX4_readLong 13 = .ok (.goto 4, 3) := by decide +kernel
theorem dX4_readLong_16 : decode cX4_readLong 16 = .ok (.lconst 0, 1) := by decide +kernel
theorem dX4_readLong_17 : decode cX4_readLong 17 = .ok (.lreturn, 1) := by decide +kernel
theorem dX4_writeLong_0 : decode cX4_writeLong 0 = .ok (.iload_n 1, 1) := by decide +kernel
theorem dX4_writeLong_1 : decode cX4_writeLong 1 = .ok (.ifCond .lt 13, 3) := by decide +kernel
theorem dX4_writeLong_4 : decode cX4_writeLong 4 = .ok (.iload_n 1, 1) := by decide +kernel
theorem dX4_writeLong_5 : decode cX4_writeLong 5 = .ok (.aload_n 0, 1) := by decide +kernel
theorem dX4_writeLong_6 : decode cX4_writeLong 6 = .ok (.arraylength, 1) := by decide +kernel
theorem dX4_writeLong_7 : decode cX4_writeLong 7 = .ok (.if_icmp .ge 7, 3) := by decide +kernel
theorem dX4_writeLong_10 : decode cX4_writeLong 10 = .ok (.aload_n 0, 1) := by decide +kernel
theorem dX4_writeLong_11 : decode cX4_writeLong 11 = .ok (.iload_n 1, 1) := by decide +kernel
theorem dX4_writeLong_12 : decode cX4_writeLong 12 = .ok (.lload_n 2, 1) := by decide +kernel
theorem dX4_writeLong_13 : decode cX4_writeLong 13 = .ok (.lastore, 1) := by decide +kernel
theorem dX4_writeLong_14 : decode cX4_writeLong 14 = .ok (.return_, 1) := by decide +kernel
theorem dX5_init_0 : decode cX5_init 0 = .ok (.aload_n 0, 1) := by decide +kernel
theorem dX5_init_1 : decode cX5_init 1 = .ok (.invokespecial 1, 3) := by decide +kernel
theorem dX5_init_4 : decode cX5_init 4 = .ok (.aload_n 0, 1) := by decide +kernel
theorem dX5_init_5 : decode cX5_init 5 = .ok (.bipush 45, 2) := by decide +kernel
theorem dX5_init_7 : decode cX5_init 7 = .ok (.newarray .int, 2) := by decide +kernel
theorem dX5_init_9 : decode cX5_init 9 = .ok (.putfield 7, 3) := by decide +kernel
theorem dX5_init_12 : decode cX5_init 12 = .ok (.aload_n 0, 1) := by decide +kernel
theorem dX5_init_13 : decode cX5_init 13 = .ok (.sipush 180, 3) := by decide +kernel
theorem dX5_init_16 : decode cX5_init 16 = .ok (.newarray .int, 2) := by decide +kernel
theorem dX5_init_18 : decode cX5_init 18 = .ok (.putfield 13, 3) := by decide +kernel
theorem dX5_init_21 : decode cX5_init 21 = .ok (.aload_n 0, 1) := by decide +kernel
theorem dX5_init_22 : decode cX5_init 22 = .ok (.bipush 45, 2) := by decide +kernel
theorem dX5_init_24 : decode cX5_init 24 = .ok (.newarray .int, 2) := by decide +kernel
theorem dX5_init_26 : decode cX5_init 26 = .ok (.putfield 16, 3) := by decide +kernel
theorem dX5_init_29 : decode cX5_init 29 = .ok (.aload_n 0, 1) := by decide +kernel
theorem dX5_init_30 : decode cX5_init 30 = .ok (.bipush 100, 2) := by decide +kernel
theorem dX5_init_32 : decode cX5_init 32 = .ok (.newarray .byte, 2) := by decide +kernel
theorem dX5_init_34 : decode cX5_init 34 = .ok (.putfield 19, 3) := by decide +kernel
theorem dX5_init_37 : decode cX5_init 37 = .ok (.aload_n 0, 1) := by decide +kernel
theorem dX5_init_38 : decode cX5_init 38 = .ok (.sipush 1024, 3) := by decide +kernel
theorem dX5_init_41 : decode cX5_init 41 = .ok (.newarray .boolean, 2) := by decide +kernel
theorem dX5_init_43 : decode cX5_init 43 = .ok (.putfield 23, 3) := by decide +kernel
theorem dX5_init_46 : decode cX5_init 46 = .ok (.aload_n 0, 1) := by decide +kernel
theorem dX5_init_47 : decode cX5_init 47 = .ok (.sipush 1024, 3) := by decide +kernel
theorem dX5_init_50 : decode cX5_init 50 = .ok (.newarray .int, 2) := by decide +kernel
theorem dX5_init_52 : decode cX5_init 52 = .ok (.putfield 27, 3) := by decide +kernel
theorem dX5_init_55 : decode cX5_init 55 = .ok (.return_, 1) := by decide +kernel
theorem dX5_thrown_0 : decode cX5_thrown 0 = .ok (.aload_n 0, 1) := by decide +kernel
theorem dX5_thrown_1 : decode cX5_thrown 1 = .ok (.getfield 30, 3) := by decide +kernel
theorem dX5_thrown_4 : decode cX5_thrown 4 = .ok (.ireturn, 1) := by decide +kernel
theorem dX5_in_0 : decode cX5_in 0 = .ok (.iload_n 0, 1) := by decide +kernel
theorem dX5_in_1 : decode cX5_in 1 = .ok (.iload_n 1, 1) := by decide +kernel
theorem dX5_in_2 : decode cX5_in 2 = .ok (.if_icmp .lt 12, 3) := by decide +kernel
theorem dX5_in_5 : decode cX5_in 5 = .ok (.iload_n 0, 1) := by decide +kernel
theorem dX5_in_6 : decode cX5_in 6 = .ok (.iload_n 2, 1) := by decide +kernel
theorem dX5_in_7 : decode cX5_in 7 = .ok (.if_icmp .gt 7, 3) := by decide +kernel
theorem dX5_in_10 : decode cX5_in 10 = .ok (.iconst 1, 1) := by decide +kernel
theorem dX5_in_11 : decode cX5_in 11 = .ok (.goto 4, 3) := by decide +kernel
theorem dX5_in_14 : decode cX5_in 14 = .ok (.iconst 0, 1) := by decide +kernel
theorem dX5_in_15 : decode cX5_in 15 = .ok (.ireturn, 1) := by decide +kernel
theorem dX5_fails_0 : decode cX5_fails 0 = .ok (.aload_n 0, 1) := by decide +kernel
theorem dX5_fails_1 : decode cX5_fails 1 = .ok (.iload_n 1, 1) := by decide +kernel
theorem dX5_fails_2 : decode cX5_fails 2 = .ok (.putfield 30, 3) := by decide +kernel
theorem dX5_fails_5 : decode cX5_fails 5 = .ok (.iconst 0, 1) := by decide +kernel
theorem dX5_fails_6 : decode cX5_fails 6 = .ok (.ireturn, 1) := by decide +kernel
theorem dX5_tells_0 : decode cX5_tells 0 = .ok (.aload_n 0, 1) := by decide +kernel
theorem dX5_tells_1 : decode cX5_tells 1 = .ok (.iconst 0, 1) := by decide +kernel
theorem dX5_tells_2 : decode cX5_tells 2 = .ok (.putfield 30, 3) := by decide +kernel
theorem dX5_tells_5 : decode cX5_tells 5 = .ok (.iload_n 1, 1) := by decide +kernel
theorem dX5_tells_6 : decode cX5_tells 6 = .ok (.ireturn, 1) := by decide +kernel
theorem dX5_is_0 : decode cX5_is 0 = .ok (.aload_n 0, 1) := by decide +kernel
theorem dX5_is_1 : decode cX5_is 1 = .ok (.iconst 0, 1) := by decide +kernel
theorem dX5_is_2 : decode cX5_is 2 = .ok (.putfield 30, 3) := by decide +kernel
theorem dX5_is_5 : decode cX5_is 5 = .ok (.iload_n 1, 1) := by decide +kernel
theorem dX5_is_6 : decode cX5_is 6 = .ok (.ireturn, 1) := by decide +kernel
theorem dX5_begins_0 : decode cX5_begins 0 = .ok (.iconst 0, 1) := by decide +kernel
theorem dX5_begins_1 : decode cX5_begins 1 = .ok (.istore_n 1, 1) := by decide +kernel
theorem dX5_begins_2 : decode cX5_begins 2 = .ok (.iload_n 1, 1) := by decide +kernel
theorem dX5_begins_3 : decode cX5_begins 3 = .ok (.bipush 45, 2) := by decide +kernel
theorem dX5_begins_5 : decode cX5_begins 5 = .ok (.if_icmp .ge 21, 3) := by decide +kernel
theorem dX5_begins_8 : decode cX5_begins 8 = .ok (.aload_n 0, 1) := by decide +kernel
theorem dX5_begins_9 : decode cX5_begins 9 = .ok (.getfield 16, 3) := by decide +kernel
theorem dX5_begins_12 : decode cX5_begins 12 = .ok (.iload_n 1, 1) := by decide +kernel
theorem dX5_begins_13 : decode cX5_begins 13 = .ok (.aload_n 0, 1) := by decide +kernel
theorem dX5_begins_14 : decode cX5_begins 14 = .ok (.getfield 7, 3) := by decide +kernel
theorem dX5_begins_17 : decode cX5_begins 17 = .ok (.iload_n 1, 1) := by decide +kernel
theorem dX5_begins_18 : decode cX5_begins 18 = .ok (.iaload, 1) := by decide +kernel
theorem dX5_begins_19 : decode cX5_begins 19 = .ok (.iastore, 1) := by decide +kernel
theorem dX5_begins_20 : decode cX5_begins 20 = .ok (.iinc 1 1, 3) := by decide +kernel
theorem dX5_begins_23 : decode cX5_begins 23 = .ok (.goto (-21), 3) := by decide +kernel
theorem dX5_begins_26 : decode cX5_begins 26 = .ok (.return_, 1) := by decide +kernel
theorem dX5_saved_0 : decode cX5_saved 0 = .ok (.aload_n 0, 1) := by decide +kernel
theorem dX5_saved_1 : decode cX5_saved 1 = .ok (.getfield 34, 3) := by decide +kernel
theorem dX5_saved_4 : decode cX5_saved 4 = .ok (.iconst 4, 1) := by decide +kernel
theorem dX5_saved_5 : decode cX5_saved 5 = .ok (.if_icmp .ne 43, 3) := by decide +kernel
theorem dX5_saved_8 : decode cX5_saved 8 = .ok (.iconst 0, 1) := by decide +kernel
theorem dX5_saved_9 : decode cX5_saved 9 = .ok (.istore_n 2, 1) := by decide +kernel
theorem dX5_saved_10 : decode cX5_saved 10 = .ok (.iload_n 2, 1) := by decide +kernel
theorem dX5_saved_11 : decode cX5_saved 11 = .ok (.sipush 135, 3) := by decide +kernel
theorem dX5_saved_14 : decode cX5_saved 14 = .ok (.if_icmp .ge 24, 3) := by decide +kernel
theorem dX5_saved_17 : decode cX5_saved 17 = .ok (.aload_n 0, 1) := by decide +kernel
theorem dX5_saved_18 : decode cX5_saved 18 = .ok (.getfield 13, 3) := by decide +kernel
theorem dX5_saved_21 : decode cX5_saved 21 = .ok (.iload_n 2, 1) := by decide +kernel
theorem dX5_saved_22 : decode cX5_saved 22 = .ok (.aload_n 0, 1) := by decide +kernel
theorem dX5_saved_23 : decode cX5_saved 23 = .ok (.getfield 13, 3) := by decide +kernel
theorem dX5_saved_26 : decode cX5_saved 26 = .ok (.iload_n 2, 1) := by decide +kernel
theorem dX5_saved_27 : decode cX5_saved 27 = .ok (.bipush 45, 2) := by decide +kernel
theorem dX5_saved_29 : decode cX5_saved 29 = .ok (.iadd, 1) := by decide +kernel
theorem dX5_saved_30 : decode cX5_saved 30 = .ok (.iaload, 1) := by decide +kernel
theorem dX5_saved_31 : decode cX5_saved 31 = .ok (.iastore, 1) := by decide +kernel
theorem dX5_saved_32 : decode cX5_saved 32 = .ok (.iinc 2 1, 3) := by decide +kernel
theorem dX5_saved_35 : decode cX5_saved 35 = .ok (.goto (-25), 3) := by decide +kernel
theorem dX5_saved_38 : decode cX5_saved 38 = .ok (.aload_n 0, 1) := by decide +kernel
theorem dX5_saved_39 : decode cX5_saved 39 = .ok (.dup, 1) := by decide +kernel
theorem dX5_saved_40 : decode cX5_saved 40 = .ok (.getfield 34, 3) := by decide +kernel
theorem dX5_saved_43 : decode cX5_saved 43 = .ok (.iconst 1, 1) := by decide +kernel
theorem dX5_saved_44 : decode cX5_saved 44 = .ok (.isub, 1) := by decide +kernel
theorem dX5_saved_45 : decode cX5_saved 45 = .ok (.putfield 34, 3) := by decide +kernel
theorem dX5_saved_48 : decode cX5_saved 48 = .ok (.iconst 0, 1) := by decide +kernel
theorem dX5_saved_49 : decode cX5_saved 49 = .ok (.istore_n 2, 1) := by decide +kernel
theorem dX5_saved_50 : decode cX5_saved 50 = .ok (.iload_n 2, 1) := by decide +kernel
theorem dX5_saved_51 : decode cX5_saved 51 = .ok (.bipush 45, 2) := by decide +kernel
theorem dX5_saved_53 : decode cX5_saved 53 = .ok (.if_icmp .ge 29, 3) := by decide +kernel
theorem dX5_saved_56 : decode cX5_saved 56 = .ok (.aload_n 0, 1) := by decide +kernel
theorem dX5_saved_57 : decode cX5_saved 57 = .ok (.getfield 13, 3) := by decide +kernel
theorem dX5_saved_60 : decode cX5_saved 60 = .ok (.bipush 45, 2) := by decide +kernel
theorem dX5_saved_62 : decode cX5_saved 62 = .ok (.aload_n 0, 1) := by decide +kernel
theorem dX5_saved_63 : decode cX5_saved 63 = .ok (.getfield 34, 3) := by decide +kernel
theorem dX5_saved_66 : decode cX5_saved 66 = .ok (.imul, 1) := by decide +kernel
theorem dX5_saved_67 : decode cX5_saved 67 = .ok (.iload_n 2, 1) := by decide +kernel
theorem dX5_saved_68 : decode cX5_saved 68 = .ok (.iadd, 1) := by decide +kernel
theorem dX5_saved_69 : decode cX5_saved 69 = .ok (.aload_n 0, 1) := by decide +kernel
theorem dX5_saved_70 : decode cX5_saved 70 = .ok (.getfield 16, 3) := by decide +kernel
theorem dX5_saved_73 : decode cX5_saved 73 = .ok (.iload_n 2, 1) := by decide +kernel
theorem dX5_saved_74 : decode cX5_saved 74 = .ok (.iaload, 1) := by decide +kernel
theorem dX5_saved_75 : decode cX5_saved 75 = .ok (.iastore, 1) := by decide +kernel
theorem dX5_saved_76 : decode cX5_saved 76 = .ok (.iinc 2 1, 3) := by decide +kernel
theorem dX5_saved_79 : decode cX5_saved 79 = .ok (.goto (-29), 3) := by decide +kernel
theorem dX5_saved_82 : decode cX5_saved 82 = .ok (.aload_n 0, 1) := by decide +kernel
theorem dX5_saved_83 : decode cX5_saved 83 = .ok (.dup, 1) := by decide +kernel
theorem dX5_saved_84 : decode cX5_saved 84 = .ok (.getfield 34, 3) := by decide +kernel
theorem dX5_saved_87 : decode cX5_saved 87 = .ok (.iconst 1, 1) := by decide +kernel
theorem dX5_saved_88 : decode cX5_saved 88 = .ok (.iadd, 1) := by decide +kernel
theorem dX5_saved_89 : decode cX5_saved 89 = .ok (.putfield 34, 3) := by decide +kernel
theorem dX5_saved_92 : decode cX5_saved 92 = .ok (.aload_n 0, 1) := by decide +kernel
theorem dX5_saved_93 : decode cX5_saved 93 = .ok (.iload_n 1, 1) := by decide +kernel
theorem dX5_saved_94 : decode cX5_saved 94 = .ok (.invokevirtual 37, 3) := by decide +kernel
theorem dX5_saved_97 : decode cX5_saved 97 = .ok (.ireturn, 1) := by decide +kernel
theorem dX5_ones_0 : decode cX5_ones 0 = .ok (.iconst 0, 1) := by decide +kernel
theorem dX5_ones_1 : decode cX5_ones 1 = .ok (.istore_n 1, 1) := by decide +kernel
theorem dX5_ones_2 : decode cX5_ones 2 = .ok (.iconst 0, 1) := by decide +kernel
theorem dX5_ones_3 : decode cX5_ones 3 = .ok (.istore_n 2, 1) := by decide +kernel
theorem dX5_ones_4 : decode cX5_ones 4 = .ok (.iload_n 2, 1) := by decide +kernel
theorem dX5_ones_5 : decode cX5_ones 5 = .ok (.bipush 9, 2) := by decide +kernel
theorem dX5_ones_7 : decode cX5_ones 7 = .ok (.if_icmp .ge 17, 3) := by decide +kernel
theorem dX5_ones_10 : decode cX5_ones 10 = .ok (.iload_n 1, 1) := by decide +kernel
theorem dX5_ones_11 : decode cX5_ones 11 = .ok (.iload_n 0, 1) := by decide +kernel
theorem dX5_ones_12 : decode cX5_ones 12 = .ok (.iload_n 2, 1) := by decide +kernel
theorem dX5_ones_13 : decode cX5_ones 13 = .ok (.ishr, 1) := by decide +kernel
theorem dX5_ones_14 : decode cX5_ones 14 = .ok (.iconst 1, 1) := by decide +kernel
theorem dX5_ones_15 : decode cX5_ones 15 = .ok (.iand, 1) := by decide +kernel
theorem dX5_ones_16 : decode cX5_ones 16 = .ok (.iadd, 1) := by decide +kernel
theorem dX5_ones_17 : decode cX5_ones 17 = .ok (.istore_n 1, 1) := by decide +kernel
theorem dX5_ones_18 : decode cX5_ones 18 = .ok (.iinc 2 1, 3) := by decide +kernel
theorem dX5_ones_21 : decode cX5_ones 21 = .ok (.goto (-17), 3) := by decide +kernel
theorem dX5_ones_24 : decode cX5_ones 24 = .ok (.iload_n 1, 1) := by decide +kernel
theorem dX5_ones_25 : decode cX5_ones 25 = .ok (.ireturn, 1) := by decide +kernel
theorem dX5_plays_0 : decode cX5_plays 0 = .ok (.iconst 1, 1) := by decide +kernel
theorem dX5_plays_1 : decode cX5_plays 1 = .ok (.aload_n 0, 1) := by decide +kernel
theorem dX5_plays_2 : decode cX5_plays 2 = .ok (.getfield 7, 3) := by decide +kernel
theorem dX5_plays_5 : decode cX5_plays 5 = .ok (.iconst 1, 1) := by decide +kernel
theorem dX5_plays_6 : decode cX5_plays 6 = .ok (.iaload, 1) := by decide +kernel
theorem dX5_plays_7 : decode cX5_plays 7 = .ok (.invokestatic 41, 3) := by decide +kernel
theorem dX5_plays_10 : decode cX5_plays 10 = .ok (.ishl, 1) := by decide +kernel
theorem dX5_plays_11 : decode cX5_plays 11 = .ok (.ireturn, 1) := by decide +kernel
theorem dX5_isPlay_0 : decode cX5_isPlay 0 = .ok (.iload_n 1, 1) := by decide +kernel
theorem dX5_isPlay_1 : decode cX5_isPlay 1 = .ok (.iconst 0, 1) := by decide +kernel
theorem dX5_isPlay_2 : decode cX5_isPlay 2 = .ok (.aload_n 0, 1) := by decide +kernel
theorem dX5_isPlay_3 : decode cX5_isPlay 3 = .ok (.invokevirtual 44, 3) := by decide +kernel
theorem dX5_isPlay_6 : decode cX5_isPlay 6 = .ok (.iconst 1, 1) := by decide +kernel
theorem dX5_isPlay_7 : decode cX5_isPlay 7 = .ok (.isub, 1) := by decide +kernel
theorem dX5_isPlay_8 : decode cX5_isPlay 8 = .ok (.invokestatic 48, 3) := by decide +kernel
theorem dX5_isPlay_11 : decode cX5_isPlay 11 = .ok (.ireturn, 1) := by decide +kernel
theorem dX5_isBreakersOwn_0 : decode cX5_isBreakersOwn 0 = .ok (.aload_n 0, 1) := by decide +kernel
theorem dX5_isBreakersOwn_1 : decode cX5_isBreakersOwn 1 = .ok (.getfield 7, 3) := by decide +kernel
theorem dX5_isBreakersOwn_4 : decode cX5_isBreakersOwn 4 = .ok (.iconst 1, 1) := by decide +kernel
theorem dX5_isBreakersOwn_5 : decode cX5_isBreakersOwn 5 = .ok (.iaload, 1) := by decide +kernel
theorem dX5_isBreakersOwn_6 : decode cX5_isBreakersOwn 6 = .ok (.iload_n 1, 1) := by decide +kernel
theorem dX5_isBreakersOwn_7 : decode cX5_isBreakersOwn 7 = .ok (.ishr, 1) := by decide +kernel
theorem dX5_isBreakersOwn_8 : decode cX5_isBreakersOwn 8 = .ok (.iconst 1, 1) := by decide +kernel
theorem dX5_isBreakersOwn_9 : decode cX5_isBreakersOwn 9 = .ok (.iand, 1) := by decide +kernel
theorem dX5_isBreakersOwn_10 : decode cX5_isBreakersOwn 10 = .ok (.iconst 1, 1) := by decide +kernel
theorem dX5_isBreakersOwn_11 : decode cX5_isBreakersOwn 11 = .ok (.if_icmp .ne 7, 3) := by decide +kernel
theorem dX5_isBreakersOwn_14 : decode cX5_isBreakersOwn 14 = .ok (.iconst 1, 1) := by decide +kernel
theorem dX5_isBreakersOwn_15 : decode cX5_isBreakersOwn 15 = .ok (.goto 4, 3) := by decide +kernel
theorem dX5_isBreakersOwn_18 : decode cX5_isBreakersOwn 18 = .ok (.iconst 0, 1) := by decide +kernel
theorem dX5_isBreakersOwn_19 : decode cX5_isBreakersOwn 19 = .ok (.ireturn, 1) := by decide +kernel
theorem dX5_isSet_0 : decode cX5_isSet 0 = .ok (.iload_n 1, 1) := by decide +kernel
theorem dX5_isSet_1 : decode cX5_isSet 1 = .ok (.iconst 0, 1) := by decide +kernel
theorem dX5_isSet_2 : decode cX5_isSet 2 = .ok (.iconst 1, 1) := by decide +kernel
theorem dX5_isSet_3 : decode cX5_isSet 3 = .ok (.aload_n 0, 1) := by decide +kernel
theorem dX5_isSet_4 : decode cX5_isSet 4 = .ok (.getfield 7, 3) := by decide +kernel
theorem dX5_isSet_7 : decode cX5_isSet 7 = .ok (.iconst 0, 1) := by decide +kernel
theorem dX5_isSet_8 : decode cX5_isSet 8 = .ok (.iaload, 1) := by decide +kernel
theorem dX5_isSet_9 : decode cX5_isSet 9 = .ok (.ishl, 1) := by decide +kernel
theorem dX5_isSet_10 : decode cX5_isSet 10 = .ok (.iconst 1, 1) := by decide +kernel
theorem dX5_isSet_11 : decode cX5_isSet 11 = .ok (.isub, 1) := by decide +kernel
theorem dX5_isSet_12 : decode cX5_isSet 12 = .ok (.invokestatic 48, 3) := by decide +kernel
theorem dX5_isSet_15 : decode cX5_isSet 15 = .ok (.ireturn, 1) := by decide +kernel
theorem dX5_begin_0 : decode cX5_begin 0 = .ok (.aload_n 0, 1) := by decide +kernel
theorem dX5_begin_1 : decode cX5_begin 1 = .ok (.invokevirtual 52, 3) := by decide +kernel
theorem dX5_begin_4 : decode cX5_begin 4 = .ok (.aload_n 0, 1) := by decide +kernel
theorem dX5_begin_5 : decode cX5_begin 5 = .ok (.getfield 7, 3) := by decide +kernel
theorem dX5_begin_8 : decode cX5_begin 8 = .ok (.iconst 0, 1) := by decide +kernel
theorem dX5_begin_9 : decode cX5_begin 9 = .ok (.iaload, 1) := by decide +kernel
theorem dX5_begin_10 : decode cX5_begin 10 = .ok (.istore_n 1, 1) := by decide +kernel
theorem dX5_begin_11 : decode cX5_begin 11 = .ok (.iconst 0, 1) := by decide +kernel
theorem dX5_begin_12 : decode cX5_begin 12 = .ok (.istore_n 2, 1) := by decide +kernel
theorem dX5_begin_13 : decode cX5_begin 13 = .ok (.iload_n 2, 1) := by decide +kernel
theorem dX5_begin_14 : decode cX5_begin 14 = .ok (.bipush 45, 2) := by decide +kernel
theorem dX5_begin_16 : decode cX5_begin 16 = .ok (.if_icmp .ge 16, 3) := by decide +kernel
theorem dX5_begin_19 : decode cX5_begin 19 = .ok (.aload_n 0, 1) := by decide +kernel
theorem dX5_begin_20 : decode cX5_begin 20 = .ok (.getfield 7, 3) := by decide +kernel
theorem dX5_begin_23 : decode cX5_begin 23 = .ok (.iload_n 2, 1) := by decide +kernel
theorem dX5_begin_24 : decode cX5_begin 24 = .ok (.iconst 0, 1) := by decide +kernel
theorem dX5_begin_25 : decode cX5_begin 25 = .ok (.iastore, 1) := by decide +kernel
theorem dX5_begin_26 : decode cX5_begin 26 = .ok (.iinc 2 1, 3) := by decide +kernel
theorem dX5_begin_29 : decode cX5_begin 29 = .ok (.goto (-16), 3) := by decide +kernel
theorem dX5_begin_32 : decode cX5_begin 32 = .ok (.aload_n 0, 1) := by decide +kernel
theorem dX5_begin_33 : decode cX5_begin 33 = .ok (.iload_n 1, 1) := by decide +kernel
theorem dX5_begin_34 : decode cX5_begin 34 = .ok (.invokevirtual 55, 3) := by decide +kernel
theorem dX5_begin_37 : decode cX5_begin 37 = .ok (.ireturn, 1) := by decide +kernel
theorem dX5_canAdd_0 : decode cX5_canAdd 0 = .ok (.aload_n 0, 1) := by decide +kernel
theorem dX5_canAdd_1 : decode cX5_canAdd 1 = .ok (.getfield 7, 3) := by decide +kernel
theorem dX5_canAdd_4 : decode cX5_canAdd 4 = .ok (.iconst 1, 1) := by decide +kernel
theorem dX5_canAdd_5 : decode cX5_canAdd 5 = .ok (.iaload, 1) := by decide +kernel
theorem dX5_canAdd_6 : decode cX5_canAdd 6 = .ok (.invokestatic 41, 3) := by decide +kernel
theorem dX5_canAdd_9 : decode cX5_canAdd 9 = .ok (.istore_n 2, 1) := by decide +kernel
theorem dX5_canAdd_10 : decode cX5_canAdd 10 = .ok (.iload_n 1, 1) := by decide +kernel
theorem dX5_canAdd_11 : decode cX5_canAdd 11 = .ok (.ifCond .eq 16, 3) := by decide +kernel
theorem dX5_canAdd_14 : decode cX5_canAdd 14 = .ok (.iload_n 2, 1) := by decide +kernel
theorem dX5_canAdd_15 : decode cX5_canAdd 15 = .ok (.iconst 3, 1) := by decide +kernel
theorem dX5_canAdd_16 : decode cX5_canAdd 16 = .ok (.if_icmp .ge 7, 3) := by decide +kernel
theorem dX5_canAdd_19 : decode cX5_canAdd 19 = .ok (.iconst 1, 1) := by decide +kernel
theorem dX5_canAdd_20 : decode cX5_canAdd 20 = .ok (.goto 25, 3) := by decide +kernel
theorem dX5_canAdd_23 : decode cX5_canAdd 23 = .ok (.iconst 0, 1) := by decide +kernel
theorem dX5_canAdd_24 : decode cX5_canAdd 24 = .ok (.goto 21, 3) := by decide +kernel
theorem dX5_canAdd_27 : decode cX5_canAdd 27 = .ok (.aload_n 0, 1) := by decide +kernel
theorem dX5_canAdd_28 : decode cX5_canAdd 28 = .ok (.getfield 7, 3) := by decide +kernel
theorem dX5_canAdd_31 : decode cX5_canAdd 31 = .ok (.iconst 0, 1) := by decide +kernel
theorem dX5_canAdd_32 : decode cX5_canAdd 32 = .ok (.iaload, 1) := by decide +kernel
theorem dX5_canAdd_33 : decode cX5_canAdd 33 = .ok (.iload_n 2, 1) := by decide +kernel
theorem dX5_canAdd_34 : decode cX5_canAdd 34 = .ok (.isub, 1) := by decide +kernel
theorem dX5_canAdd_35 : decode cX5_canAdd 35 = .ok (.bipush 6, 2) := by decide +kernel
theorem dX5_canAdd_37 : decode cX5_canAdd 37 = .ok (.if_icmp .ge 7, 3) := by decide +kernel
theorem dX5_canAdd_40 : decode cX5_canAdd 40 = .ok (.iconst 1, 1) := by decide +kernel
theorem dX5_canAdd_41 : decode cX5_canAdd 41 = .ok (.goto 4, 3) := by decide +kernel
theorem dX5_canAdd_44 : decode cX5_canAdd 44 = .ok (.iconst 0, 1) := by decide +kernel
theorem dX5_canAdd_45 : decode cX5_canAdd 45 = .ok (.ireturn, 1) := by decide +kernel
theorem dX5_adds_0 : decode cX5_adds 0 = .ok (.aload_n 0, 1) := by decide +kernel
theorem dX5_adds_1 : decode cX5_adds 1 = .ok (.getfield 7, 3) := by decide +kernel
theorem dX5_adds_4 : decode cX5_adds 4 = .ok (.iconst 1, 1) := by decide +kernel
theorem dX5_adds_5 : decode cX5_adds 5 = .ok (.dup2, 1) := by decide +kernel
theorem dX5_adds_6 : decode cX5_adds 6 = .ok (.iaload, 1) := by decide +kernel
theorem dX5_adds_7 : decode cX5_adds 7 = .ok (.iload_n 1, 1) := by decide +kernel
theorem dX5_adds_8 : decode cX5_adds 8 = .ok (.ifCond .eq 14, 3) := by decide +kernel
theorem dX5_adds_11 : decode cX5_adds 11 = .ok (.iconst 1, 1) := by decide +kernel
theorem dX5_adds_12 : decode cX5_adds 12 = .ok (.aload_n 0, 1) := by decide +kernel
theorem dX5_adds_13 : decode cX5_adds 13 = .ok (.getfield 7, 3) := by decide +kernel
theorem dX5_adds_16 : decode cX5_adds 16 = .ok (.iconst 0, 1) := by decide +kernel
theorem dX5_adds_17 : decode cX5_adds 17 = .ok (.iaload, 1) := by decide +kernel
theorem dX5_adds_18 : decode cX5_adds 18 = .ok (.ishl, 1) := by decide +kernel
theorem dX5_adds_19 : decode cX5_adds 19 = .ok (.goto 4, 3) := by decide +kernel
theorem dX5_adds_22 : decode cX5_adds 22 = .ok (.iconst 0, 1) := by decide +kernel
theorem dX5_adds_23 : decode cX5_adds 23 = .ok (.ior, 1) := by decide +kernel
theorem dX5_adds_24 : decode cX5_adds 24 = .ok (.iastore, 1) := by decide +kernel
theorem dX5_adds_25 : decode cX5_adds 25 = .ok (.aload_n 0, 1) := by decide +kernel
theorem dX5_adds_26 : decode cX5_adds 26 = .ok (.getfield 7, 3) := by decide +kernel
theorem dX5_adds_29 : decode cX5_adds 29 = .ok (.iconst 0, 1) := by decide +kernel
theorem dX5_adds_30 : decode cX5_adds 30 = .ok (.dup2, 1) := by decide +kernel
theorem dX5_adds_31 : decode cX5_adds 31 = .ok (.iaload, 1) := by decide +kernel
theorem dX5_adds_32 : decode cX5_adds 32 = .ok (.iconst 1, 1) := by decide +kernel
theorem dX5_adds_33 : decode cX5_adds 33 = .ok (.iadd, 1) := by decide +kernel
theorem dX5_adds_34 : decode cX5_adds 34 = .ok (.iastore, 1) := by decide +kernel
theorem dX5_adds_35 : decode cX5_adds 35 = .ok (.aload_n 0, 1) := by decide +kernel
theorem dX5_adds_36 : decode cX5_adds 36 = .ok (.getfield 7, 3) := by decide +kernel
theorem dX5_adds_39 : decode cX5_adds 39 = .ok (.iconst 3, 1) := by decide +kernel
theorem dX5_adds_40 : decode cX5_adds 40 = .ok (.iconst 0, 1) := by decide +kernel
theorem dX5_adds_41 : decode cX5_adds 41 = .ok (.iastore, 1) := by decide +kernel
theorem dX5_adds_42 : decode cX5_adds 42 = .ok (.aload_n 0, 1) := by decide +kernel
theorem dX5_adds_43 : decode cX5_adds 43 = .ok (.getfield 7, 3) := by decide +kernel
theorem dX5_adds_46 : decode cX5_adds 46 = .ok (.iconst 0, 1) := by decide +kernel
theorem dX5_adds_47 : decode cX5_adds 47 = .ok (.iaload, 1) := by decide +kernel
theorem dX5_adds_48 : decode cX5_adds 48 = .ok (.iconst 1, 1) := by decide +kernel
theorem dX5_adds_49 : decode cX5_adds 49 = .ok (.isub, 1) := by decide +kernel
theorem dX5_adds_50 : decode cX5_adds 50 = .ok (.ireturn, 1) := by decide +kernel
theorem dX5_addVariable_0 : decode cX5_addVariable 0 = .ok (.aload_n 0, 1) := by decide +kernel
theorem dX5_addVariable_1 : decode cX5_addVariable 1 = .ok (.iload_n 1, 1) := by decide +kernel
theorem dX5_addVariable_2 : decode cX5_addVariable 2 = .ok (.invokevirtual 58, 3) := by decide +kernel
theorem dX5_addVariable_5 : decode cX5_addVariable 5 = .ok (.ifCond .ne 9, 3) := by decide +kernel
theorem dX5_addVariable_8 : decode cX5_addVariable 8 = .ok (.aload_n 0, 1) := by decide +kernel
theorem dX5_addVariable_9 : decode cX5_addVariable 9 = .ok (.iconst 1, 1) := by decide +kernel
theorem dX5_addVariable_10 : decode cX5_addVariable 10 = .ok (.invokevirtual 62, 3) := by decide +kernel
theorem dX5_addVariable_13 : decode cX5_addVariable 13 = .ok (.ireturn, 1) := by decide +kernel
theorem dX5_addVariable_14 : decode cX5_addVariable 14 = .ok (.aload_n 0, 1) := by decide +kernel
theorem dX5_addVariable_15 : decode cX5_addVariable 15 = .ok (.invokevirtual 52, 3) := by decide +kernel
theorem dX5_addVariable_18 : decode cX5_addVariable 18 = .ok (.aload_n 0, 1) := by decide +kernel
theorem dX5_addVariable_19 : decode cX5_addVariable 19 = .ok (.aload_n 0, 1) := by decide +kernel
theorem dX5_addVariable_20 : decode cX5_addVariable 20 = .ok (.iload_n 1, 1) := by decide +kernel
theorem dX5_addVariable_21 : decode cX5_addVariable 21 = .ok (.invokevirtual 65, 3) := by decide +kernel
theorem dX5_addVariable_24 : decode cX5_addVariable 24 = .ok (.invokevirtual 55, 3) := by decide +kernel
theorem dX5_addVariable_27 : decode cX5_addVariable 27 = .ok (.ireturn, 1) := by decide +kernel
theorem dX5_whyNotClause_0 : decode cX5_whyNotClause 0 = .ok (.aload_n 0, 1) := by decide +kernel
theorem dX5_whyNotClause_1 : decode cX5_whyNotClause 1 = .ok (.iload_n 1, 1) := by decide +kernel
theorem dX5_whyNotClause_2 : decode cX5_whyNotClause 2 = .ok (.invokevirtual 69, 3) := by decide +kernel
theorem dX5_whyNotClause_5 : decode cX5_whyNotClause 5 = .ok (.ifCond .eq 11, 3) := by decide +kernel
theorem dX5_whyNotClause_8 : decode cX5_whyNotClause 8 = .ok (.aload_n 0, 1) := by decide +kernel
theorem dX5_whyNotClause_9 : decode cX5_whyNotClause 9 = .ok (.iload_n 2, 1) := by decide +kernel
theorem dX5_whyNotClause_10 : decode cX5_whyNotClause 10 = .ok (.invokevirtual 69, 3) := by decide +kernel
theorem dX5_whyNotClause_13 : decode cX5_whyNotClause 13 = .ok (.ifCond .ne 7, 3) := by decide +kernel
theorem dX5_whyNotClause_16 : decode cX5_whyNotClause 16 = .ok (.iconst 1, 1) := by decide +kernel
theorem dX5_whyNotClause_17 : decode cX5_whyNotClause 17 = .ok (.goto 19, 3) := by decide +kernel
theorem dX5_whyNotClause_20 : decode cX5_whyNotClause 20 = .ok (.aload_n 0, 1) := by decide +kernel
theorem dX5_whyNotClause_21 : decode cX5_whyNotClause 21 = .ok (.getfield 7, 3) := by decide +kernel
theorem dX5_whyNotClause_24 : decode cX5_whyNotClause 24 = .ok (.iconst 2, 1) := by decide +kernel
theorem dX5_whyNotClause_25 : decode cX5_whyNotClause 25 = .ok (.iaload, 1) := by decide +kernel
theorem dX5_whyNotClause_26 : decode cX5_whyNotClause 26 = .ok (.bipush 20, 2) := by decide +kernel
theorem dX5_whyNotClause_28 : decode cX5_whyNotClause 28 = .ok (.if_icmp .ne 7, 3) := by decide +kernel
theorem dX5_whyNotClause_31 : decode cX5_whyNotClause 31 = .ok (.iconst 2, 1) := by decide +kernel
theorem dX5_whyNotClause_32 : decode cX5_whyNotClause 32 = .ok (.goto 4, 3) := by decide +kernel
theorem dX5_whyNotClause_35 : decode cX5_whyNotClause 35 = .ok (.iconst 0, 1) := by decide +kernel
theorem dX5_whyNotClause_36 : decode cX5_whyNotClause 36 = .ok (.ireturn, 1) := by decide +kernel
theorem dX5_addsClause_0 : decode cX5_addsClause 0 = .ok (.aload_n 0, 1) := by decide +kernel
theorem dX5_addsClause_1 : decode cX5_addsClause 1 = .ok (.getfield 7, 3) := by decide +kernel
theorem dX5_addsClause_4 : decode cX5_addsClause 4 = .ok (.iconst 5, 1) := by decide +kernel
theorem dX5_addsClause_5 : decode cX5_addsClause 5 = .ok (.aload_n 0, 1) := by decide +kernel
theorem dX5_addsClause_6 : decode cX5_addsClause 6 = .ok (.getfield 7, 3) := by decide +kernel
theorem dX5_addsClause_9 : decode cX5_addsClause 9 = .ok (.iconst 2, 1) := by decide +kernel
theorem dX5_addsClause_10 : decode cX5_addsClause 10 = .ok (.iaload, 1) := by decide +kernel
theorem dX5_addsClause_11 : decode cX5_addsClause 11 = .ok (.iadd, 1) := by decide +kernel
theorem dX5_addsClause_12 : decode cX5_addsClause 12 = .ok (.iload_n 1, 1) := by decide +kernel
theorem dX5_addsClause_13 : decode cX5_addsClause 13 = .ok (.iastore, 1) := by decide +kernel
theorem dX5_addsClause_14 : decode cX5_addsClause 14 = .ok (.aload_n 0, 1) := by decide +kernel
theorem dX5_addsClause_15 : decode cX5_addsClause 15 = .ok (.getfield 7, 3) := by decide +kernel
theorem dX5_addsClause_18 : decode cX5_addsClause 18 = .ok (.bipush 25, 2) := by decide +kernel
theorem dX5_addsClause_20 : decode cX5_addsClause 20 = .ok (.aload_n 0, 1) := by decide +kernel
theorem dX5_addsClause_21 : decode cX5_addsClause 21 = .ok (.getfield 7, 3) := by decide +kernel
theorem dX5_addsClause_24 : decode cX5_addsClause 24 = .ok (.iconst 2, 1) := by decide +kernel
theorem dX5_addsClause_25 : decode cX5_addsClause 25 = .ok (.iaload, 1) := by decide +kernel
theorem dX5_addsClause_26 : decode cX5_addsClause 26 = .ok (.iadd, 1) := by decide +kernel
theorem dX5_addsClause_27 : decode cX5_addsClause 27 = .ok (.iload_n 2, 1) := by decide +kernel
theorem dX5_addsClause_28 : decode cX5_addsClause 28 = .ok (.iastore, 1) := by decide +kernel
theorem dX5_addsClause_29 : decode cX5_addsClause 29 = .ok (.aload_n 0, 1) := by decide +kernel
theorem dX5_addsClause_30 : decode cX5_addsClause 30 = .ok (.getfield 7, 3) := by decide +kernel
theorem dX5_addsClause_33 : decode cX5_addsClause 33 = .ok (.iconst 2, 1) := by decide +kernel
theorem dX5_addsClause_34 : decode cX5_addsClause 34 = .ok (.dup2, 1) := by decide +kernel
theorem dX5_addsClause_35 : decode cX5_addsClause 35 = .ok (.iaload, 1) := by decide +kernel
theorem dX5_addsClause_36 : decode cX5_addsClause 36 = .ok (.iconst 1, 1) := by decide +kernel
theorem dX5_addsClause_37 : decode cX5_addsClause 37 = .ok (.iadd, 1) := by decide +kernel
theorem dX5_addsClause_38 : decode cX5_addsClause 38 = .ok (.iastore, 1) := by decide +kernel
theorem dX5_addsClause_39 : decode cX5_addsClause 39 = .ok (.aload_n 0, 1) := by decide +kernel
theorem dX5_addsClause_40 : decode cX5_addsClause 40 = .ok (.getfield 7, 3) := by decide +kernel
theorem dX5_addsClause_43 : decode cX5_addsClause 43 = .ok (.iconst 3, 1) := by decide +kernel
theorem dX5_addsClause_44 : decode cX5_addsClause 44 = .ok (.iconst 0, 1) := by decide +kernel
theorem dX5_addsClause_45 : decode cX5_addsClause 45 = .ok (.iastore, 1) := by decide +kernel
theorem dX5_addsClause_46 : decode cX5_addsClause 46 = .ok (.aload_n 0, 1) := by decide +kernel
theorem dX5_addsClause_47 : decode cX5_addsClause 47 = .ok (.getfield 7, 3) := by decide +kernel
theorem dX5_addsClause_50 : decode cX5_addsClause 50 = .ok (.iconst 2, 1) := by decide +kernel
theorem dX5_addsClause_51 : decode cX5_addsClause 51 = .ok (.iaload, 1) := by decide +kernel
theorem dX5_addsClause_52 : decode cX5_addsClause 52 = .ok (.iconst 1, 1) := by decide +kernel
theorem dX5_addsClause_53 : decode cX5_addsClause 53 = .ok (.isub, 1) := by decide +kernel
theorem dX5_addsClause_54 : decode cX5_addsClause 54 = .ok (.ireturn, 1) := by decide +kernel
theorem dX5_addClause_0 : decode cX5_addClause 0 = .ok (.aload_n 0, 1) := by decide +kernel
theorem dX5_addClause_1 : decode cX5_addClause 1 = .ok (.iload_n 1, 1) := by decide +kernel
theorem dX5_addClause_2 : decode cX5_addClause 2 = .ok (.iload_n 2, 1) := by decide +kernel
theorem dX5_addClause_3 : decode cX5_addClause 3 = .ok (.invokevirtual 73, 3) := by decide +kernel
theorem dX5_addClause_6 : decode cX5_addClause 6 = .ok (.istore_n 3, 1) := by decide +kernel
theorem dX5_addClause_7 : decode cX5_addClause 7 = .ok (.iload_n 3, 1) := by decide +kernel
theorem dX5_addClause_8 : decode cX5_addClause 8 = .ok (.ifCond .le 9, 3) := by decide +kernel
theorem dX5_addClause_11 : decode cX5_addClause 11 = .ok (.aload_n 0, 1) := by decide +kernel
theorem dX5_addClause_12 : decode cX5_addClause 12 = .ok (.iload_n 3, 1) := by decide +kernel
theorem dX5_addClause_13 : decode cX5_addClause 13 = .ok (.invokevirtual 62, 3) := by decide +kernel
theorem dX5_addClause_16 : decode cX5_addClause 16 = .ok (.ireturn, 1) := by decide +kernel
theorem dX5_addClause_17 : decode cX5_addClause 17 = .ok (.aload_n 0, 1) := by decide +kernel
theorem dX5_addClause_18 : decode cX5_addClause 18 = .ok (.invokevirtual 52, 3) := by decide +kernel
theorem dX5_addClause_21 : decode cX5_addClause 21 = .ok (.aload_n 0, 1) := by decide +kernel
theorem dX5_addClause_22 : decode cX5_addClause 22 = .ok (.aload_n 0, 1) := by decide +kernel
theorem dX5_addClause_23 : decode cX5_addClause 23 = .ok (.iload_n 1, 1) := by decide +kernel
theorem dX5_addClause_24 : decode cX5_addClause 24 = .ok (.iload_n 2, 1) := by decide +kernel
theorem dX5_addClause_25 : decode cX5_addClause 25 = .ok (.invokevirtual 77, 3) := by decide +kernel
theorem dX5_addClause_28 : decode cX5_addClause 28 = .ok (.invokevirtual 55, 3) := by decide +kernel
theorem dX5_addClause_31 : decode cX5_addClause 31 = .ok (.ireturn, 1) := by decide +kernel
theorem dX5_isClause_0 : decode cX5_isClause 0 = .ok (.iload_n 1, 1) := by decide +kernel
theorem dX5_isClause_1 : decode cX5_isClause 1 = .ok (.iconst 0, 1) := by decide +kernel
theorem dX5_isClause_2 : decode cX5_isClause 2 = .ok (.aload_n 0, 1) := by decide +kernel
theorem dX5_isClause_3 : decode cX5_isClause 3 = .ok (.getfield 7, 3) := by decide +kernel
theorem dX5_isClause_6 : decode cX5_isClause 6 = .ok (.iconst 2, 1) := by decide +kernel
theorem dX5_isClause_7 : decode cX5_isClause 7 = .ok (.iaload, 1) := by decide +kernel
theorem dX5_isClause_8 : decode cX5_isClause 8 = .ok (.iconst 1, 1) := by decide +kernel
theorem dX5_isClause_9 : decode cX5_isClause 9 = .ok (.isub, 1) := by decide +kernel
theorem dX5_isClause_10 : decode cX5_isClause 10 = .ok (.invokestatic 48, 3) := by decide +kernel
theorem dX5_isClause_13 : decode cX5_isClause 13 = .ok (.ireturn, 1) := by decide +kernel
theorem dX5_removeClause_0 : decode cX5_removeClause 0 = .ok (.aload_n 0, 1) := by decide +kernel
theorem dX5_removeClause_1 : decode cX5_removeClause 1 = .ok (.iload_n 1, 1) := by decide +kernel
theorem dX5_removeClause_2 : decode cX5_removeClause 2 = .ok (.invokevirtual 80, 3) := by decide +kernel
theorem dX5_removeClause_5 : decode cX5_removeClause 5 = .ok (.ifCond .ne 9, 3) := by decide +kernel
theorem dX5_removeClause_8 : decode cX5_removeClause 8 = .ok (.aload_n 0, 1) := by decide +kernel
theorem dX5_removeClause_9 : decode cX5_removeClause 9 = .ok (.iconst 1, 1) := by decide +kernel
theorem dX5_removeClause_10 : decode cX5_removeClause 10 = .ok (.invokevirtual 62, 3) := by decide +kernel
theorem dX5_removeClause_13 : decode cX5_removeClause 13 = .ok (.ireturn, 1) := by decide +kernel
theorem dX5_removeClause_14 : decode cX5_removeClause 14 = .ok (.aload_n 0, 1) := by decide +kernel
theorem dX5_removeClause_15 : decode cX5_removeClause 15 = .ok (.invokevirtual 52, 3) := by decide +kernel
theorem dX5_removeClause_18 : decode cX5_removeClause 18 = .ok (.iload_n 1, 1) := by decide +kernel
theorem dX5_removeClause_19 : decode cX5_removeClause 19 = .ok (.istore_n 2, 1) := by decide +kernel
theorem dX5_removeClause_20 : decode cX5_removeClause 20 = .ok (.iload_n 2, 1) := by decide +kernel
theorem dX5_removeClause_21 : decode cX5_removeClause 21 = .ok (.aload_n 0, 1) := by decide +kernel
theorem dX5_removeClause_22 : decode cX5_removeClause 22 = .ok (.getfield 7, 3) := by decide +kernel
theorem dX5_removeClause_25 : decode cX5_removeClause 25 = .ok (.iconst 2, 1) := by decide +kernel
theorem dX5_removeClause_26 : decode cX5_removeClause 26 = .ok (.iaload, 1) := by decide +kernel
theorem dX5_removeClause_27 : decode cX5_removeClause 27 = .ok (.iconst 1, 1) := by decide +kernel
theorem dX5_removeClause_28 : decode cX5_removeClause 28 = .ok (.isub, 1) := by decide +kernel
theorem dX5_removeClause_29 : decode cX5_removeClause 29 = .ok (.if_icmp .ge 47, 3) := by decide +kernel
theorem dX5_removeClause_32 : decode cX5_removeClause 32 = .ok (.aload_n 0, 1) := by decide +kernel
theorem dX5_removeClause_33 : decode cX5_removeClause 33 = .ok (.getfield 7, 3) := by decide +kernel
theorem dX5_removeClause_36 : decode cX5_removeClause 36 = .ok (.iconst 5, 1) := by decide +kernel
theorem dX5_removeClause_37 : decode cX5_removeClause 37 = .ok (.iload_n 2, 1) := by decide +kernel
theorem dX5_removeClause_38 : decode cX5_removeClause 38 = .ok (.iadd, 1) := by decide +kernel
theorem dX5_removeClause_39 : decode cX5_removeClause 39 = .ok (.aload_n 0, 1) := by decide +kernel
theorem dX5_removeClause_40 : decode cX5_removeClause 40 = .ok (.getfield 7, 3) := by decide +kernel
theorem dX5_removeClause_43 : decode cX5_removeClause 43 = .ok (.iconst 5, 1) := by decide +kernel
theorem dX5_removeClause_44 : decode cX5_removeClause 44 = .ok (.iload_n 2, 1) := by decide +kernel
theorem dX5_removeClause_45 : decode cX5_removeClause 45 = .ok (.iadd, 1) := by decide +kernel
theorem dX5_removeClause_46 : decode cX5_removeClause 46 = .ok (.iconst 1, 1) := by decide +kernel
theorem dX5_removeClause_47 : decode cX5_removeClause 47 = .ok (.iadd, 1) := by decide +kernel
theorem dX5_removeClause_48 : decode cX5_removeClause 48 = .ok (.iaload, 1) := by decide +kernel
theorem dX5_removeClause_49 : decode cX5_removeClause 49 = .ok (.iastore, 1) := by decide +kernel
theorem dX5_removeClause_50 : decode cX5_removeClause 50 = .ok (.aload_n 0, 1) := by decide +kernel
theorem dX5_removeClause_51 : decode cX5_removeClause 51 = .ok (.getfield 7, 3) := by decide +kernel
theorem dX5_removeClause_54 : decode cX5_removeClause 54 = .ok (.bipush 25, 2) := by decide +kernel
theorem dX5_removeClause_56 : decode cX5_removeClause 56 = .ok (.iload_n 2, 1) := by decide +kernel
theorem dX5_removeClause_57 : decode cX5_removeClause 57 = .ok (.iadd, 1) := by decide +kernel
theorem dX5_removeClause_58 : decode cX5_removeClause 58 = .ok (.aload_n 0, 1) := by decide +kernel
theorem dX5_removeClause_59 : decode cX5_removeClause 59 = .ok (.getfield 7, 3) := by decide +kernel
theorem dX5_removeClause_62 : decode cX5_removeClause 62 = .ok (.bipush 25, 2) := by decide +kernel
theorem dX5_removeClause_64 : decode cX5_removeClause 64 = .ok (.iload_n 2, 1) := by decide +kernel
theorem dX5_removeClause_65 : decode cX5_removeClause 65 = .ok (.iadd, 1) := by decide +kernel
theorem dX5_removeClause_66 : decode cX5_removeClause 66 = .ok (.iconst 1, 1) := by decide +kernel
theorem dX5_removeClause_67 : decode cX5_removeClause 67 = .ok (.iadd, 1) := by decide +kernel
theorem dX5_removeClause_68 : decode cX5_removeClause 68 = .ok (.iaload, 1) := by decide +kernel
theorem dX5_removeClause_69 : decode cX5_removeClause 69 = .ok (.iastore, 1) := by decide +kernel
theorem dX5_removeClause_70 : decode cX5_removeClause 70 = .ok (.iinc 2 1, 3) := by decide +kernel
theorem dX5_removeClause_73 : decode cX5_removeClause 73 = .ok (.goto (-53), 3) := by decide +kernel
theorem dX5_removeClause_76 : decode cX5_removeClause 76 = .ok (.aload_n 0, 1) := by decide +kernel
theorem dX5_removeClause_77 : decode cX5_removeClause 77 = .ok (.getfield 7, 3) := by decide +kernel
theorem dX5_removeClause_80 : decode cX5_removeClause 80 = .ok (.iconst 2, 1) := by decide +kernel
theorem dX5_removeClause_81 : decode cX5_removeClause 81 = .ok (.dup2, 1) := by decide +kernel
theorem dX5_removeClause_82 : decode cX5_removeClause 82 = .ok (.iaload, 1) := by decide +kernel
theorem dX5_removeClause_83 : decode cX5_removeClause 83 = .ok (.iconst 1, 1) := by decide +kernel
theorem dX5_removeClause_84 : decode cX5_removeClause 84 = .ok (.isub, 1) := by decide +kernel
theorem dX5_removeClause_85 : decode cX5_removeClause 85 = .ok (.iastore, 1) := by decide +kernel
theorem dX5_removeClause_86 : decode cX5_removeClause 86 = .ok (.aload_n 0, 1) := by decide +kernel
theorem dX5_removeClause_87 : decode cX5_removeClause 87 = .ok (.getfield 7, 3) := by decide +kernel
theorem dX5_removeClause_90 : decode cX5_removeClause 90 = .ok (.iconst 3, 1) := by decide +kernel
theorem dX5_removeClause_91 : decode cX5_removeClause 91 = .ok (.iconst 0, 1) := by decide +kernel
theorem dX5_removeClause_92 : decode cX5_removeClause 92 = .ok (.iastore, 1) := by decide +kernel
theorem dX5_removeClause_93 : decode cX5_removeClause 93 = .ok (.aload_n 0, 1) := by decide +kernel
theorem dX5_removeClause_94 : decode cX5_removeClause 94 = .ok (.aload_n 0, 1) := by decide +kernel
theorem dX5_removeClause_95 : decode cX5_removeClause 95 = .ok (.getfield 7, 3) := by decide +kernel
theorem dX5_removeClause_98 : decode cX5_removeClause 98 = .ok (.iconst 2, 1) := by decide +kernel
theorem dX5_removeClause_99 : decode cX5_removeClause 99 = .ok (.iaload, 1) := by decide +kernel
theorem dX5_removeClause_100 : decode cX5_removeClause 100 = .ok (.invokevirtual 55, 3) := by decide +kernel
theorem dX5_removeClause_103 : decode cX5_removeClause 103 = .ok (.ireturn, 1) := by decide +kernel
theorem dX5_isMade_0 : decode cX5_isMade 0 = .ok (.iconst 1, 1) := by decide +kernel
theorem dX5_isMade_1 : decode cX5_isMade 1 = .ok (.istore_n 2, 1) := by decide +kernel
theorem dX5_isMade_2 : decode cX5_isMade 2 = .ok (.iconst 0, 1) := by decide +kernel
theorem dX5_isMade_3 : decode cX5_isMade 3 = .ok (.istore_n 3, 1) := by decide +kernel
theorem dX5_isMade_4 : decode cX5_isMade 4 = .ok (.iload_n 3, 1) := by decide +kernel
theorem dX5_isMade_5 : decode cX5_isMade 5 = .ok (.aload_n 0, 1) := by decide +kernel
theorem dX5_isMade_6 : decode cX5_isMade 6 = .ok (.getfield 7, 3) := by decide +kernel
theorem dX5_isMade_9 : decode cX5_isMade 9 = .ok (.iconst 2, 1) := by decide +kernel
theorem dX5_isMade_10 : decode cX5_isMade 10 = .ok (.iaload, 1) := by decide +kernel
theorem dX5_isMade_11 : decode cX5_isMade 11 = .ok (.if_icmp .ge 48, 3) := by decide +kernel
theorem dX5_isMade_14 : decode cX5_isMade 14 = .ok (.iload_n 2, 1) := by decide +kernel
theorem dX5_isMade_15 : decode cX5_isMade 15 = .ok (.ifCond .eq 36, 3) := by decide +kernel
theorem dX5_isMade_18 : decode cX5_isMade 18 = .ok (.aload_n 0, 1) := by decide +kernel
theorem dX5_isMade_19 : decode cX5_isMade 19 = .ok (.getfield 7, 3) := by decide +kernel
theorem dX5_isMade_22 : decode cX5_isMade 22 = .ok (.iconst 5, 1) := by decide +kernel
theorem dX5_isMade_23 : decode cX5_isMade 23 = .ok (.iload_n 3, 1) := by decide +kernel
theorem dX5_isMade_24 : decode cX5_isMade 24 = .ok (.iadd, 1) := by decide +kernel
theorem dX5_isMade_25 : decode cX5_isMade 25 = .ok (.iaload, 1) := by decide +kernel
theorem dX5_isMade_26 : decode cX5_isMade 26 = .ok (.iload_n 1, 1) := by decide +kernel
theorem dX5_isMade_27 : decode cX5_isMade 27 = .ok (.iand, 1) := by decide +kernel
theorem dX5_isMade_28 : decode cX5_isMade 28 = .ok (.ifCond .ne 19, 3) := by decide +kernel
theorem dX5_isMade_31 : decode cX5_isMade 31 = .ok (.aload_n 0, 1) := by decide +kernel
theorem dX5_isMade_32 : decode cX5_isMade 32 = .ok (.getfield 7, 3) := by decide +kernel
theorem dX5_isMade_35 : decode cX5_isMade 35 = .ok (.bipush 25, 2) := by decide +kernel
theorem dX5_isMade_37 : decode cX5_isMade 37 = .ok (.iload_n 3, 1) := by decide +kernel
theorem dX5_isMade_38 : decode cX5_isMade 38 = .ok (.iadd, 1) := by decide +kernel
theorem dX5_isMade_39 : decode cX5_isMade 39 = .ok (.iaload, 1) := by decide +kernel
theorem dX5_isMade_40 : decode cX5_isMade 40 = .ok (.iload_n 1, 1) := by decide +kernel
theorem dX5_isMade_41 : decode cX5_isMade 41 = .ok (.iconst (-1), 1) := by decide +kernel
theorem dX5_isMade_42 : decode cX5_isMade 42 = .ok (.ixor, 1) := by decide +kernel
theorem dX5_isMade_43 : decode cX5_isMade 43 = .ok (.iand, 1) := by decide +kernel
theorem dX5_isMade_44 : decode cX5_isMade 44 = .ok (.ifCond .eq 7, 3) := by decide +kernel
theorem dX5_isMade_47 : decode cX5_isMade 47 = .ok (.iconst 1, 1) := by decide +kernel
theorem dX5_isMade_48 : decode cX5_isMade 48 = .ok (.goto 4, 3) := by decide +kernel
theorem dX5_isMade_51 : decode cX5_isMade 51 = .ok (.iconst 0, 1) := by decide +kernel
theorem dX5_isMade_52 : decode cX5_isMade 52 = .ok (.istore_n 2, 1) := by decide +kernel
theorem dX5_isMade_53 : decode cX5_isMade 53 = .ok (.iinc 3 1, 3) := by decide +kernel
theorem dX5_isMade_56 : decode cX5_isMade 56 = .ok (.goto (-52), 3) := by decide +kernel
theorem dX5_isMade_59 : decode cX5_isMade 59 = .ok (.iload_n 2, 1) := by decide +kernel
theorem dX5_isMade_60 : decode cX5_isMade 60 = .ok (.ireturn, 1) := by decide +kernel
theorem dX5_lays_0 : decode cX5_lays 0 = .ok (.iconst 0, 1) := by decide +kernel
theorem dX5_lays_1 : decode cX5_lays 1 = .ok (.istore_n 2, 1) := by decide +kernel
theorem dX5_lays_2 : decode cX5_lays 2 = .ok (.iload_n 2, 1) := by decide +kernel
theorem dX5_lays_3 : decode cX5_lays 3 = .ok (.iconst 1, 1) := by decide +kernel
theorem dX5_lays_4 : decode cX5_lays 4 = .ok (.iload_n 1, 1) := by decide +kernel
theorem dX5_lays_5 : decode cX5_lays 5 = .ok (.ishl, 1) := by decide +kernel
theorem dX5_lays_6 : decode cX5_lays 6 = .ok (.if_icmp .ge 24, 3) := by decide +kernel
theorem dX5_lays_9 : decode cX5_lays 9 = .ok (.aload_n 0, 1) := by decide +kernel
theorem dX5_lays_10 : decode cX5_lays 10 = .ok (.getfield 23, 3) := by decide +kernel
theorem dX5_lays_13 : decode cX5_lays 13 = .ok (.iconst 1, 1) := by decide +kernel
theorem dX5_lays_14 : decode cX5_lays 14 = .ok (.iload_n 1, 1) := by decide +kernel
theorem dX5_lays_15 : decode cX5_lays 15 = .ok (.ishl, 1) := by decide +kernel
theorem dX5_lays_16 : decode cX5_lays 16 = .ok (.iload_n 2, 1) := by decide +kernel
theorem dX5_lays_17 : decode cX5_lays 17 = .ok (.iadd, 1) := by decide +kernel
theorem dX5_lays_18 : decode cX5_lays 18 = .ok (.aload_n 0, 1) := by decide +kernel
theorem dX5_lays_19 : decode cX5_lays 19 = .ok (.iload_n 2, 1) := by decide +kernel
theorem dX5_lays_20 : decode cX5_lays 20 = .ok (.invokevirtual 83, 3) := by decide +kernel
theorem dX5_lays_23 : decode cX5_lays 23 = .ok (.bastore, 1) := by decide +kernel
theorem dX5_lays_24 : decode cX5_lays 24 = .ok (.iinc 2 1, 3) := by decide +kernel
theorem dX5_lays_27 : decode cX5_lays 27 = .ok (.goto (-25), 3) := by decide +kernel
theorem dX5_lays_30 : decode cX5_lays 30 = .ok (.iload_n 1, 1) := by decide +kernel
theorem dX5_lays_31 : decode cX5_lays 31 = .ok (.iconst 1, 1) := by decide +kernel
theorem dX5_lays_32 : decode cX5_lays 32 = .ok (.isub, 1) := by decide +kernel
theorem dX5_lays_33 : decode cX5_lays 33 = .ok (.istore_n 2, 1) := by decide +kernel
theorem dX5_lays_34 : decode cX5_lays 34 = .ok (.iload_n 2, 1) := by decide +kernel
theorem dX5_lays_35 : decode cX5_lays 35 = .ok (.ifCond .lt 103, 3) := by decide +kernel
theorem dX5_lays_38 : decode cX5_lays 38 = .ok (.iconst 0, 1) := by decide +kernel
theorem dX5_lays_39 : decode cX5_lays 39 = .ok (.istore_n 3, 1) := by decide +kernel
theorem dX5_lays_40 : decode cX5_lays 40 = .ok (.iload_n 3, 1) := by decide +kernel
theorem dX5_lays_41 : decode cX5_lays 41 = .ok (.iconst 1, 1) := by decide +kernel
theorem dX5_lays_42 : decode cX5_lays 42 = .ok (.iload_n 2, 1) := by decide +kernel
theorem dX5_lays_43 : decode cX5_lays 43 = .ok (.ishl, 1) := by decide +kernel
theorem dX5_lays_44 : decode cX5_lays 44 = .ok (.if_icmp .ge 88, 3) := by decide +kernel
theorem dX5_lays_47 : decode cX5_lays 47 = .ok (.aload_n 0, 1) := by decide +kernel
theorem dX5_lays_48 : decode cX5_lays 48 = .ok (.getfield 23, 3) := by decide +kernel
theorem dX5_lays_51 : decode cX5_lays 51 = .ok (.iconst 2, 1) := by decide +kernel
theorem dX5_lays_52 : decode cX5_lays 52 = .ok (.iload_n 2, 1) := by decide +kernel
theorem dX5_lays_53 : decode cX5_lays 53 = .ok (.ishl, 1) := by decide +kernel
theorem dX5_lays_54 : decode cX5_lays 54 = .ok (.iload_n 3, 1) := by decide +kernel
theorem dX5_lays_55 : decode cX5_lays 55 = .ok (.iadd, 1) := by decide +kernel
theorem dX5_lays_56 : decode cX5_lays 56 = .ok (.baload, 1) := by decide +kernel
theorem dX5_lays_57 : decode cX5_lays 57 = .ok (.istore 4, 2) := by decide +kernel
theorem dX5_lays_59 : decode cX5_lays 59 = .ok (.aload_n 0, 1) := by decide +kernel
theorem dX5_lays_60 : decode cX5_lays 60 = .ok (.getfield 23, 3) := by decide +kernel
theorem dX5_lays_63 : decode cX5_lays 63 = .ok (.iconst 2, 1) := by decide +kernel
theorem dX5_lays_64 : decode cX5_lays 64 = .ok (.iload_n 2, 1) := by decide +kernel
theorem dX5_lays_65 : decode cX5_lays 65 = .ok (.ishl, 1) := by decide +kernel
theorem dX5_lays_66 : decode cX5_lays 66 = .ok (.iload_n 3, 1) := by decide +kernel
theorem dX5_lays_67 : decode cX5_lays 67 = .ok (.iadd, 1) := by decide +kernel
theorem dX5_lays_68 : decode cX5_lays 68 = .ok (.iconst 1, 1) := by decide +kernel
theorem dX5_lays_69 : decode cX5_lays 69 = .ok (.iload_n 2, 1) := by decide +kernel
theorem dX5_lays_70 : decode cX5_lays 70 = .ok (.ishl, 1) := by decide +kernel
theorem dX5_lays_71 : decode cX5_lays 71 = .ok (.iadd, 1) := by decide +kernel
theorem dX5_lays_72 : decode cX5_lays 72 = .ok (.baload, 1) := by decide +kernel
theorem dX5_lays_73 : decode cX5_lays 73 = .ok (.istore 5, 2) := by decide +kernel
theorem dX5_lays_75 : decode cX5_lays 75 = .ok (.aload_n 0, 1) := by decide +kernel
theorem dX5_lays_76 : decode cX5_lays 76 = .ok (.getfield 23, 3) := by decide +kernel
theorem dX5_lays_79 : decode cX5_lays 79 = .ok (.iconst 1, 1) := by decide +kernel
theorem dX5_lays_80 : decode cX5_lays 80 = .ok (.iload_n 2, 1) := by decide +kernel
theorem dX5_lays_81 : decode cX5_lays 81 = .ok (.ishl, 1) := by decide +kernel
theorem dX5_lays_82 : decode cX5_lays 82 = .ok (.iload_n 3, 1) := by decide +kernel
theorem dX5_lays_83 : decode cX5_lays 83 = .ok (.iadd, 1) := by decide +kernel
theorem dX5_lays_84 : decode cX5_lays 84 = .ok (.aload_n 0, 1) := by decide +kernel
theorem dX5_lays_85 : decode cX5_lays 85 = .ok (.iload_n 2, 1) := by decide +kernel
theorem dX5_lays_86 : decode cX5_lays 86 = .ok (.invokevirtual 86, 3) := by decide +kernel
theorem dX5_lays_89 : decode cX5_lays 89 = .ok (.ifCond .eq 21, 3) := by decide +kernel
theorem dX5_lays_92 : decode cX5_lays 92 = .ok (.iload 4, 2) := by decide +kernel
theorem dX5_lays_94 : decode cX5_lays 94 = .ok (.ifCond .eq 12, 3) := by decide +kernel
theorem dX5_lays_97 : decode cX5_lays 97 = .ok (.iload 5, 2) := by decide +kernel
theorem dX5_lays_99 : decode cX5_lays 99 = .ok (.ifCond .eq 7, 3) := by decide +kernel
theorem dX5_lays_102 : decode cX5_lays 102 = .ok (.iconst 1, 1) := by decide +kernel
theorem dX5_lays_103 : decode cX5_lays 103 = .ok (.goto 22, 3) := by decide +kernel
theorem dX5_lays_106 : decode cX5_lays 106 = .ok (.iconst 0, 1) := by decide +kernel
theorem dX5_lays_107 : decode cX5_lays 107 = .ok (.goto 18, 3) := by decide +kernel
theorem dX5_lays_110 : decode cX5_lays 110 = .ok (.iload 4, 2) := by decide +kernel
theorem dX5_lays_112 : decode cX5_lays 112 = .ok (.ifCond .ne 8, 3) := by decide +kernel
theorem dX5_lays_115 : decode cX5_lays 115 = .ok (.iload 5, 2) := by decide +kernel
theorem dX5_lays_117 : decode cX5_lays 117 = .ok (.ifCond .eq 7, 3) := by decide +kernel
theorem dX5_lays_120 : decode cX5_lays 120 = .ok (.iconst 1, 1) := by decide +kernel
theorem dX5_lays_121 : decode cX5_lays 121 = .ok (.goto 4, 3) := by decide +kernel
theorem dX5_lays_124 : decode cX5_lays 124 = .ok (.iconst 0, 1) := by decide +kernel
theorem dX5_lays_125 : decode cX5_lays 125 = .ok (.bastore, 1) := by decide +kernel
theorem dX5_lays_126 : decode cX5_lays 126 = .ok (.iinc 3 1, 3) := by decide +kernel
theorem dX5_lays_129 : decode cX5_lays 129 = .ok (.goto (-89), 3) := by decide +kernel
theorem dX5_lays_132 : decode cX5_lays 132 = .ok (.iinc 2 (-1), 3) := by decide +kernel
theorem dX5_lays_135 : decode cX5_lays 135 = .ok (.goto (-101), 3) := by decide +kernel
theorem dX5_lays_138 : decode cX5_lays 138 = .ok (.return_, 1) := by decide +kernel
theorem dX5_isAs_0 : decode cX5_isAs 0 = .ok (.iconst 1, 1) := by decide +kernel
theorem dX5_isAs_1 : decode cX5_isAs 1 = .ok (.istore 4, 2) := by decide +kernel
theorem dX5_isAs_3 : decode cX5_isAs 3 = .ok (.iconst 0, 1) := by decide +kernel
theorem dX5_isAs_4 : decode cX5_isAs 4 = .ok (.istore 5, 2) := by decide +kernel
theorem dX5_isAs_6 : decode cX5_isAs 6 = .ok (.iconst 0, 1) := by decide +kernel
theorem dX5_isAs_7 : decode cX5_isAs 7 = .ok (.istore 6, 2) := by decide +kernel
theorem dX5_isAs_9 : decode cX5_isAs 9 = .ok (.iload 6, 2) := by decide +kernel
theorem dX5_isAs_11 : decode cX5_isAs 11 = .ok (.iload_n 2, 1) := by decide +kernel
theorem dX5_isAs_12 : decode cX5_isAs 12 = .ok (.if_icmp .ge 48, 3) := by decide +kernel
theorem dX5_isAs_15 : decode cX5_isAs 15 = .ok (.aload_n 0, 1) := by decide +kernel
theorem dX5_isAs_16 : decode cX5_isAs 16 = .ok (.iload 6, 2) := by decide +kernel
theorem dX5_isAs_18 : decode cX5_isAs 18 = .ok (.invokevirtual 86, 3) := by decide +kernel
theorem dX5_isAs_21 : decode cX5_isAs 21 = .ok (.ifCond .eq 33, 3) := by decide +kernel
theorem dX5_isAs_24 : decode cX5_isAs 24 = .ok (.iload 4, 2) := by decide +kernel
theorem dX5_isAs_26 : decode cX5_isAs 26 = .ok (.ifCond .eq 22, 3) := by decide +kernel
theorem dX5_isAs_29 : decode cX5_isAs 29 = .ok (.iload_n 1, 1) := by decide +kernel
theorem dX5_isAs_30 : decode cX5_isAs 30 = .ok (.iload 5, 2) := by decide +kernel
theorem dX5_isAs_32 : decode cX5_isAs 32 = .ok (.ishr, 1) := by decide +kernel
theorem dX5_isAs_33 : decode cX5_isAs 33 = .ok (.iconst 1, 1) := by decide +kernel
theorem dX5_isAs_34 : decode cX5_isAs 34 = .ok (.iand, 1) := by decide +kernel
theorem dX5_isAs_35 : decode cX5_isAs 35 = .ok (.iload_n 3, 1) := by decide +kernel
theorem dX5_isAs_36 : decode cX5_isAs 36 = .ok (.iload 6, 2) := by decide +kernel
theorem dX5_isAs_38 : decode cX5_isAs 38 = .ok (.ishr, 1) := by decide +kernel
theorem dX5_isAs_39 : decode cX5_isAs 39 = .ok (.iconst 1, 1) := by decide +kernel
theorem dX5_isAs_40 : decode cX5_isAs 40 = .ok (.iand, 1) := by decide +kernel
theorem dX5_isAs_41 : decode cX5_isAs 41 = .ok (.if_icmp .ne 7, 3) := by decide +kernel
theorem dX5_isAs_44 : decode cX5_isAs 44 = .ok (.iconst 1, 1) := by decide +kernel
theorem dX5_isAs_45 : decode cX5_isAs 45 = .ok (.goto 4, 3) := by decide +kernel
theorem dX5_isAs_48 : decode cX5_isAs 48 = .ok (.iconst 0, 1) := by decide +kernel
theorem dX5_isAs_49 : decode cX5_isAs 49 = .ok (.istore 4, 2) := by decide +kernel
theorem dX5_isAs_51 : decode cX5_isAs 51 = .ok (.iinc 5 1, 3) := by decide +kernel
theorem dX5_isAs_54 : decode cX5_isAs 54 = .ok (.iinc 6 1, 3) := by decide +kernel
theorem dX5_isAs_57 : decode cX5_isAs 57 = .ok (.goto (-48), 3) := by decide +kernel
theorem dX5_isAs_60 : decode cX5_isAs 60 = .ok (.iload 4, 2) := by decide +kernel
theorem dX5_isAs_62 : decode cX5_isAs 62 = .ok (.ireturn, 1) := by decide +kernel
theorem dX5_finds_0 : decode cX5_finds 0 = .ok (.iconst 0, 1) := by decide +kernel
theorem dX5_finds_1 : decode cX5_finds 1 = .ok (.istore_n 1, 1) := by decide +kernel
theorem dX5_finds_2 : decode cX5_finds 2 = .ok (.iload_n 1, 1) := by decide +kernel
theorem dX5_finds_3 : decode cX5_finds 3 = .ok (.aload_n 0, 1) := by decide +kernel
theorem dX5_finds_4 : decode cX5_finds 4 = .ok (.getfield 7, 3) := by decide +kernel
theorem dX5_finds_7 : decode cX5_finds 7 = .ok (.iconst 0, 1) := by decide +kernel
theorem dX5_finds_8 : decode cX5_finds 8 = .ok (.iaload, 1) := by decide +kernel
theorem dX5_finds_9 : decode cX5_finds 9 = .ok (.if_icmp .gt 77, 3) := by decide +kernel
theorem dX5_finds_12 : decode cX5_finds 12 = .ok (.iconst 0, 1) := by decide +kernel
theorem dX5_finds_13 : decode cX5_finds 13 = .ok (.istore_n 2, 1) := by decide +kernel
theorem dX5_finds_14 : decode cX5_finds 14 = .ok (.iload_n 2, 1) := by decide +kernel
theorem dX5_finds_15 : decode cX5_finds 15 = .ok (.iconst 1, 1) := by decide +kernel
theorem dX5_finds_16 : decode cX5_finds 16 = .ok (.iload_n 1, 1) := by decide +kernel
theorem dX5_finds_17 : decode cX5_finds 17 = .ok (.ishl, 1) := by decide +kernel
theorem dX5_finds_18 : decode cX5_finds 18 = .ok (.if_icmp .ge 62, 3) := by decide +kernel
theorem dX5_finds_21 : decode cX5_finds 21 = .ok (.iconst 0, 1) := by decide +kernel
theorem dX5_finds_22 : decode cX5_finds 22 = .ok (.istore_n 3, 1) := by decide +kernel
theorem dX5_finds_23 : decode cX5_finds 23 = .ok (.iconst 0, 1) := by decide +kernel
theorem dX5_finds_24 : decode cX5_finds 24 = .ok (.istore 4, 2) := by decide +kernel
theorem dX5_finds_26 : decode cX5_finds 26 = .ok (.iload 4, 2) := by decide +kernel
theorem dX5_finds_28 : decode cX5_finds 28 = .ok (.aload_n 0, 1) := by decide +kernel
theorem dX5_finds_29 : decode cX5_finds 29 = .ok (.invokevirtual 44, 3) := by decide +kernel
theorem dX5_finds_32 : decode cX5_finds 32 = .ok (.if_icmp .ge 31, 3) := by decide +kernel
theorem dX5_finds_35 : decode cX5_finds 35 = .ok (.iload_n 3, 1) := by decide +kernel
theorem dX5_finds_36 : decode cX5_finds 36 = .ok (.aload_n 0, 1) := by decide +kernel
theorem dX5_finds_37 : decode cX5_finds 37 = .ok (.iload 4, 2) := by decide +kernel
theorem dX5_finds_39 : decode cX5_finds 39 = .ok (.iload_n 1, 1) := by decide +kernel
theorem dX5_finds_40 : decode cX5_finds 40 = .ok (.iload_n 2, 1) := by decide +kernel
theorem dX5_finds_41 : decode cX5_finds 41 = .ok (.invokevirtual 89, 3) := by decide +kernel
theorem dX5_finds_44 : decode cX5_finds 44 = .ok (.ifCond .eq 10, 3) := by decide +kernel
theorem dX5_finds_47 : decode cX5_finds 47 = .ok (.iconst 1, 1) := by decide +kernel
theorem dX5_finds_48 : decode cX5_finds 48 = .ok (.iload 4, 2) := by decide +kernel
theorem dX5_finds_50 : decode cX5_finds 50 = .ok (.ishl, 1) := by decide +kernel
theorem dX5_finds_51 : decode cX5_finds 51 = .ok (.goto 4, 3) := by decide +kernel
theorem dX5_finds_54 : decode cX5_finds 54 = .ok (.iconst 0, 1) := by decide +kernel
theorem dX5_finds_55 : decode cX5_finds 55 = .ok (.ior, 1) := by decide +kernel
theorem dX5_finds_56 : decode cX5_finds 56 = .ok (.istore_n 3, 1) := by decide +kernel
theorem dX5_finds_57 : decode cX5_finds 57 = .ok (.iinc 4 1, 3) := by decide +kernel
theorem dX5_finds_60 : decode cX5_finds 60 = .ok (.goto (-34), 3) := by decide +kernel
theorem dX5_finds_63 : decode cX5_finds 63 = .ok (.aload_n 0, 1) := by decide +kernel
theorem dX5_finds_64 : decode cX5_finds 64 = .ok (.getfield 27, 3) := by decide +kernel
theorem dX5_finds_67 : decode cX5_finds 67 = .ok (.iconst 1, 1) := by decide +kernel
theorem dX5_finds_68 : decode cX5_finds 68 = .ok (.iload_n 1, 1) := by decide +kernel
theorem dX5_finds_69 : decode cX5_finds 69 = .ok (.ishl, 1) := by decide +kernel
theorem dX5_finds_70 : decode cX5_finds 70 = .ok (.iload_n 2, 1) := by decide +kernel
theorem dX5_finds_71 : decode cX5_finds 71 = .ok (.iadd, 1) := by decide +kernel
theorem dX5_finds_72 : decode cX5_finds 72 = .ok (.iload_n 3, 1) := by decide +kernel
theorem dX5_finds_73 : decode cX5_finds 73 = .ok (.iastore, 1) := by decide +kernel
theorem dX5_finds_74 : decode cX5_finds 74 = .ok (.iinc 2 1, 3) := by decide +kernel
theorem dX5_finds_77 : decode cX5_finds 77 = .ok (.goto (-63), 3) := by decide +kernel
theorem dX5_finds_80 : decode cX5_finds 80 = .ok (.iinc 1 1, 3) := by decide +kernel
theorem dX5_finds_83 : decode cX5_finds 83 = .ok (.goto (-81), 3) := by decide +kernel
theorem dX5_finds_86 : decode cX5_finds 86 = .ok (.return_, 1) := by decide +kernel
theorem dX5_against_0 : decode cX5_against 0 = .ok (.aload_n 0, 1) := by decide +kernel
theorem dX5_against_1 : decode cX5_against 1 = .ok (.getfield 7, 3) := by decide +kernel
theorem dX5_against_4 : decode cX5_against 4 = .ok (.iconst 0, 1) := by decide +kernel
theorem dX5_against_5 : decode cX5_against 5 = .ok (.iaload, 1) := by decide +kernel
theorem dX5_against_6 : decode cX5_against 6 = .ok (.istore_n 2, 1) := by decide +kernel
theorem dX5_against_7 : decode cX5_against 7 = .ok (.iconst 0, 1) := by decide +kernel
theorem dX5_against_8 : decode cX5_against 8 = .ok (.istore_n 3, 1) := by decide +kernel
theorem dX5_against_9 : decode cX5_against 9 = .ok (.iload_n 3, 1) := by decide +kernel
theorem dX5_against_10 : decode cX5_against 10 = .ok (.iconst 1, 1) := by decide +kernel
theorem dX5_against_11 : decode cX5_against 11 = .ok (.iload_n 2, 1) := by decide +kernel
theorem dX5_against_12 : decode cX5_against 12 = .ok (.ishl, 1) := by decide +kernel
theorem dX5_against_13 : decode cX5_against 13 = .ok (.if_icmp .ge 47, 3) := by decide +kernel
theorem dX5_against_16 : decode cX5_against 16 = .ok (.aload_n 0, 1) := by decide +kernel
theorem dX5_against_17 : decode cX5_against 17 = .ok (.getfield 23, 3) := by decide +kernel
theorem dX5_against_20 : decode cX5_against 20 = .ok (.iconst 1, 1) := by decide +kernel
theorem dX5_against_21 : decode cX5_against 21 = .ok (.iload_n 2, 1) := by decide +kernel
theorem dX5_against_22 : decode cX5_against 22 = .ok (.ishl, 1) := by decide +kernel
theorem dX5_against_23 : decode cX5_against 23 = .ok (.iload_n 3, 1) := by decide +kernel
theorem dX5_against_24 : decode cX5_against 24 = .ok (.iadd, 1) := by decide +kernel
theorem dX5_against_25 : decode cX5_against 25 = .ok (.aload_n 0, 1) := by decide +kernel
theorem dX5_against_26 : decode cX5_against 26 = .ok (.getfield 27, 3) := by decide +kernel
theorem dX5_against_29 : decode cX5_against 29 = .ok (.iconst 1, 1) := by decide +kernel
theorem dX5_against_30 : decode cX5_against 30 = .ok (.iload_n 2, 1) := by decide +kernel
theorem dX5_against_31 : decode cX5_against 31 = .ok (.ishl, 1) := by decide +kernel
theorem dX5_against_32 : decode cX5_against 32 = .ok (.iload_n 3, 1) := by decide +kernel
theorem dX5_against_33 : decode cX5_against 33 = .ok (.iadd, 1) := by decide +kernel
theorem dX5_against_34 : decode cX5_against 34 = .ok (.iaload, 1) := by decide +kernel
theorem dX5_against_35 : decode cX5_against 35 = .ok (.iload_n 1, 1) := by decide +kernel
theorem dX5_against_36 : decode cX5_against 36 = .ok (.iand, 1) := by decide +kernel
theorem dX5_against_37 : decode cX5_against 37 = .ok (.ifCond .eq 11, 3) := by decide +kernel
theorem dX5_against_40 : decode cX5_against 40 = .ok (.aload_n 0, 1) := by decide +kernel
theorem dX5_against_41 : decode cX5_against 41 = .ok (.iload_n 3, 1) := by decide +kernel
theorem dX5_against_42 : decode cX5_against 42 = .ok (.invokevirtual 83, 3) := by decide +kernel
theorem dX5_against_45 : decode cX5_against 45 = .ok (.ifCond .eq 7, 3) := by decide +kernel
theorem dX5_against_48 : decode cX5_against 48 = .ok (.iconst 1, 1) := by decide +kernel
theorem dX5_against_49 : decode cX5_against 49 = .ok (.goto 4, 3) := by decide +kernel
theorem dX5_against_52 : decode cX5_against 52 = .ok (.iconst 0, 1) := by decide +kernel
theorem dX5_against_53 : decode cX5_against 53 = .ok (.bastore, 1) := by decide +kernel
theorem dX5_against_54 : decode cX5_against 54 = .ok (.iinc 3 1, 3) := by decide +kernel
theorem dX5_against_57 : decode cX5_against 57 = .ok (.goto (-48), 3) := by decide +kernel
theorem dX5_against_60 : decode cX5_against 60 = .ok (.iload_n 2, 1) := by decide +kernel
theorem dX5_against_61 : decode cX5_against 61 = .ok (.iconst 1, 1) := by decide +kernel
theorem dX5_against_62 : decode cX5_against 62 = .ok (.isub, 1) := by decide +kernel
theorem dX5_against_63 : decode cX5_against 63 = .ok (.istore_n 3, 1) := by decide +kernel
theorem dX5_against_64 : decode cX5_against 64 = .ok (.iload_n 3, 1) := by decide +kernel
theorem dX5_against_65 : decode cX5_against 65 = .ok (.ifCond .lt 108, 3) := by decide +kernel
theorem dX5_against_68 : decode cX5_against 68 = .ok (.iconst 0, 1) := by decide +kernel
theorem dX5_against_69 : decode cX5_against 69 = .ok (.istore 4, 2) := by decide +kernel
theorem dX5_against_71 : decode cX5_against 71 = .ok (.iload 4, 2) := by decide +kernel
theorem dX5_against_73 : decode cX5_against 73 = .ok (.iconst 1, 1) := by decide +kernel
theorem dX5_against_74 : decode cX5_against 74 = .ok (.iload_n 3, 1) := by decide +kernel
theorem dX5_against_75 : decode cX5_against 75 = .ok (.ishl, 1) := by decide +kernel
theorem dX5_against_76 : decode cX5_against 76 = .ok (.if_icmp .ge 91, 3) := by decide +kernel
theorem dX5_against_79 : decode cX5_against 79 = .ok (.aload_n 0, 1) := by decide +kernel
theorem dX5_against_80 : decode cX5_against 80 = .ok (.getfield 23, 3) := by decide +kernel
theorem dX5_against_83 : decode cX5_against 83 = .ok (.iconst 2, 1) := by decide +kernel
theorem dX5_against_84 : decode cX5_against 84 = .ok (.iload_n 3, 1) := by decide +kernel
theorem dX5_against_85 : decode cX5_against 85 = .ok (.ishl, 1) := by decide +kernel
theorem dX5_against_86 : decode cX5_against 86 = .ok (.iload 4, 2) := by decide +kernel
theorem dX5_against_88 : decode cX5_against 88 = .ok (.iadd, 1) := by decide +kernel
theorem dX5_against_89 : decode cX5_against 89 = .ok (.baload, 1) := by decide +kernel
theorem dX5_against_90 : decode cX5_against 90 = .ok (.istore 5, 2) := by decide +kernel
theorem dX5_against_92 : decode cX5_against 92 = .ok (.aload_n 0, 1) := by decide +kernel
theorem dX5_against_93 : decode cX5_against 93 = .ok (.getfield 23, 3) := by decide +kernel
theorem dX5_against_96 : decode cX5_against 96 = .ok (.iconst 2, 1) := by decide +kernel
theorem dX5_against_97 : decode cX5_against 97 = .ok (.iload_n 3, 1) := by decide +kernel
theorem dX5_against_98 : decode cX5_against 98 = .ok (.ishl, 1) := by decide +kernel
theorem dX5_against_99 : decode cX5_against 99 = .ok (.iload 4, 2) := by decide +kernel
theorem dX5_against_101 : decode cX5_against 101 = .ok (.iadd, 1) := by decide +kernel
theorem dX5_against_102 : decode cX5_against 102 = .ok (.iconst 1, 1) := by decide +kernel
theorem dX5_against_103 : decode cX5_against 103 = .ok (.iload_n 3, 1) := by decide +kernel
theorem dX5_against_104 : decode cX5_against 104 = .ok (.ishl, 1) := by decide +kernel
theorem dX5_against_105 : decode cX5_against 105 = .ok (.iadd, 1) := by decide +kernel
theorem dX5_against_106 : decode cX5_against 106 = .ok (.baload, 1) := by decide +kernel
theorem dX5_against_107 : decode cX5_against 107 = .ok (.istore 6, 2) := by decide +kernel
theorem dX5_against_109 : decode cX5_against 109 = .ok (.aload_n 0, 1) := by decide +kernel
theorem dX5_against_110 : decode cX5_against 110 = .ok (.getfield 23, 3) := by decide +kernel
theorem dX5_against_113 : decode cX5_against 113 = .ok (.iconst 1, 1) := by decide +kernel
theorem dX5_against_114 : decode cX5_against 114 = .ok (.iload_n 3, 1) := by decide +kernel
theorem dX5_against_115 : decode cX5_against 115 = .ok (.ishl, 1) := by decide +kernel
theorem dX5_against_116 : decode cX5_against 116 = .ok (.iload 4, 2) := by decide +kernel
theorem dX5_against_118 : decode cX5_against 118 = .ok (.iadd, 1) := by decide +kernel
theorem dX5_against_119 : decode cX5_against 119 = .ok (.aload_n 0, 1) := by decide +kernel
theorem dX5_against_120 : decode cX5_against 120 = .ok (.iload_n 3, 1) := by decide +kernel
theorem dX5_against_121 : decode cX5_against 121 = .ok (.invokevirtual 86, 3) := by decide +kernel
theorem dX5_against_124 : decode cX5_against 124 = .ok (.ifCond .eq 21, 3) := by decide +kernel
theorem dX5_against_127 : decode cX5_against 127 = .ok (.iload 5, 2) := by decide +kernel
theorem dX5_against_129 : decode cX5_against 129 = .ok (.ifCond .eq 12, 3) := by decide +kernel
theorem dX5_against_132 : decode cX5_against 132 = .ok (.iload 6, 2) := by decide +kernel
theorem dX5_against_134 : decode cX5_against 134 = .ok (.ifCond .eq 7, 3) := by decide +kernel
theorem dX5_against_137 : decode cX5_against 137 = .ok (.iconst 1, 1) := by decide +kernel
theorem dX5_against_138 : decode cX5_against 138 = .ok (.goto 22, 3) := by decide +kernel
theorem dX5_against_141 : decode cX5_against 141 = .ok (.iconst 0, 1) := by decide +kernel
theorem dX5_against_142 : decode cX5_against 142 = .ok (.goto 18, 3) := by decide +kernel
theorem dX5_against_145 : decode cX5_against 145 = .ok (.iload 5, 2) := by decide +kernel
theorem dX5_against_147 : decode cX5_against 147 = .ok (.ifCond .ne 8, 3) := by decide +kernel
theorem dX5_against_150 : decode cX5_against 150 = .ok (.iload 6, 2) := by decide +kernel
theorem dX5_against_152 : decode cX5_against 152 = .ok (.ifCond .eq 7, 3) := by decide +kernel
theorem dX5_against_155 : decode cX5_against 155 = .ok (.iconst 1, 1) := by decide +kernel
theorem dX5_against_156 : decode cX5_against 156 = .ok (.goto 4, 3) := by decide +kernel
theorem dX5_against_159 : decode cX5_against 159 = .ok (.iconst 0, 1) := by decide +kernel
theorem dX5_against_160 : decode cX5_against 160 = .ok (.bastore, 1) := by decide +kernel
theorem dX5_against_161 : decode cX5_against 161 = .ok (.iinc 4 1, 3) := by decide +kernel
theorem dX5_against_164 : decode cX5_against 164 = .ok (.goto (-93), 3) := by decide +kernel
theorem dX5_against_167 : decode cX5_against 167 = .ok (.iinc 3 (-1), 3) := by decide +kernel
theorem dX5_against_170 : decode cX5_against 170 = .ok (.goto (-106), 3) := by decide +kernel
theorem dX5_against_173 : decode cX5_against 173 = .ok (.aload_n 0, 1) := by decide +kernel
theorem dX5_against_174 : decode cX5_against 174 = .ok (.getfield 23, 3) := by decide +kernel
theorem dX5_against_177 : decode cX5_against 177 = .ok (.iconst 1, 1) := by decide +kernel
theorem dX5_against_178 : decode cX5_against 178 = .ok (.baload, 1) := by decide +kernel
theorem dX5_against_179 : decode cX5_against 179 = .ok (.ireturn, 1) := by decide +kernel
theorem dX5_answers_0 : decode cX5_answers 0 = .ok (.iconst 0, 1) := by decide +kernel
theorem dX5_answers_1 : decode cX5_answers 1 = .ok (.istore_n 2, 1) := by decide +kernel
theorem dX5_answers_2 : decode cX5_answers 2 = .ok (.iconst 0, 1) := by decide +kernel
theorem dX5_answers_3 : decode cX5_answers 3 = .ok (.istore_n 3, 1) := by decide +kernel
theorem dX5_answers_4 : decode cX5_answers 4 = .ok (.iconst 0, 1) := by decide +kernel
theorem dX5_answers_5 : decode cX5_answers 5 = .ok (.istore 4, 2) := by decide +kernel
theorem dX5_answers_7 : decode cX5_answers 7 = .ok (.iload 4, 2) := by decide +kernel
theorem dX5_answers_9 : decode cX5_answers 9 = .ok (.aload_n 0, 1) := by decide +kernel
theorem dX5_answers_10 : decode cX5_answers 10 = .ok (.getfield 7, 3) := by decide +kernel
theorem dX5_answers_13 : decode cX5_answers 13 = .ok (.iconst 0, 1) := by decide +kernel
theorem dX5_answers_14 : decode cX5_answers 14 = .ok (.iaload, 1) := by decide +kernel
theorem dX5_answers_15 : decode cX5_answers 15 = .ok (.if_icmp .ge 57, 3) := by decide +kernel
theorem dX5_answers_18 : decode cX5_answers 18 = .ok (.aload_n 0, 1) := by decide +kernel
theorem dX5_answers_19 : decode cX5_answers 19 = .ok (.getfield 23, 3) := by decide +kernel
theorem dX5_answers_22 : decode cX5_answers 22 = .ok (.iconst 2, 1) := by decide +kernel
theorem dX5_answers_23 : decode cX5_answers 23 = .ok (.iload 4, 2) := by decide +kernel
theorem dX5_answers_25 : decode cX5_answers 25 = .ok (.ishl, 1) := by decide +kernel
theorem dX5_answers_26 : decode cX5_answers 26 = .ok (.iload_n 2, 1) := by decide +kernel
theorem dX5_answers_27 : decode cX5_answers 27 = .ok (.iadd, 1) := by decide +kernel
theorem dX5_answers_28 : decode cX5_answers 28 = .ok (.baload, 1) := by decide +kernel
theorem dX5_answers_29 : decode cX5_answers 29 = .ok (.ifCond .eq 7, 3) := by decide +kernel
theorem dX5_answers_32 : decode cX5_answers 32 = .ok (.iconst 0, 1) := by decide +kernel
theorem dX5_answers_33 : decode cX5_answers 33 = .ok (.goto 4, 3) := by decide +kernel
theorem dX5_answers_36 : decode cX5_answers 36 = .ok (.iconst 1, 1) := by decide +kernel
theorem dX5_answers_37 : decode cX5_answers 37 = .ok (.istore 5, 2) := by decide +kernel
theorem dX5_answers_39 : decode cX5_answers 39 = .ok (.aload_n 0, 1) := by decide +kernel
theorem dX5_answers_40 : decode cX5_answers 40 = .ok (.iload 4, 2) := by decide +kernel
theorem dX5_answers_42 : decode cX5_answers 42 = .ok (.invokevirtual 86, 3) := by decide +kernel
theorem dX5_answers_45 : decode cX5_answers 45 = .ok (.ifCond .eq 13, 3) := by decide +kernel
theorem dX5_answers_48 : decode cX5_answers 48 = .ok (.iload_n 1, 1) := by decide +kernel
theorem dX5_answers_49 : decode cX5_answers 49 = .ok (.iload_n 3, 1) := by decide +kernel
theorem dX5_answers_50 : decode cX5_answers 50 = .ok (.ishr, 1) := by decide +kernel
theorem dX5_answers_51 : decode cX5_answers 51 = .ok (.iconst 1, 1) := by decide +kernel
theorem dX5_answers_52 : decode cX5_answers 52 = .ok (.iand, 1) := by decide +kernel
theorem dX5_answers_53 : decode cX5_answers 53 = .ok (.istore 5, 2) := by decide +kernel
theorem dX5_answers_55 : decode cX5_answers 55 = .ok (.iinc 3 1, 3) := by decide +kernel
theorem dX5_answers_58 : decode cX5_answers 58 = .ok (.iload_n 2, 1) := by decide +kernel
theorem dX5_answers_59 : decode cX5_answers 59 = .ok (.iload 5, 2) := by decide +kernel
theorem dX5_answers_61 : decode cX5_answers 61 = .ok (.iload 4, 2) := by decide +kernel
theorem dX5_answers_63 : decode cX5_answers 63 = .ok (.ishl, 1) := by decide +kernel
theorem dX5_answers_64 : decode cX5_answers 64 = .ok (.ior, 1) := by decide +kernel
theorem dX5_answers_65 : decode cX5_answers 65 = .ok (.istore_n 2, 1) := by decide +kernel
theorem dX5_answers_66 : decode cX5_answers 66 = .ok (.iinc 4 1, 3) := by decide +kernel
theorem dX5_answers_69 : decode cX5_answers 69 = .ok (.goto (-62), 3) := by decide +kernel
theorem dX5_answers_72 : decode cX5_answers 72 = .ok (.iload_n 2, 1) := by decide +kernel
theorem dX5_answers_73 : decode cX5_answers 73 = .ok (.ireturn, 1) := by decide +kernel
theorem dX5_whyNotLearn_0 : decode cX5_whyNotLearn 0 = .ok (.aload_n 0, 1) := by decide +kernel
theorem dX5_whyNotLearn_1 : decode cX5_whyNotLearn 1 = .ok (.iload_n 1, 1) := by decide +kernel
theorem dX5_whyNotLearn_2 : decode cX5_whyNotLearn 2 = .ok (.invokevirtual 92, 3) := by decide +kernel
theorem dX5_whyNotLearn_5 : decode cX5_whyNotLearn 5 = .ok (.ifCond .ne 7, 3) := by decide +kernel
theorem dX5_whyNotLearn_8 : decode cX5_whyNotLearn 8 = .ok (.iconst 1, 1) := by decide +kernel
theorem dX5_whyNotLearn_9 : decode cX5_whyNotLearn 9 = .ok (.goto 22, 3) := by decide +kernel
theorem dX5_whyNotLearn_12 : decode cX5_whyNotLearn 12 = .ok (.aload_n 0, 1) := by decide +kernel
theorem dX5_whyNotLearn_13 : decode cX5_whyNotLearn 13 = .ok (.getfield 7, 3) := by decide +kernel
theorem dX5_whyNotLearn_16 : decode cX5_whyNotLearn 16 = .ok (.iconst 3, 1) := by decide +kernel
theorem dX5_whyNotLearn_17 : decode cX5_whyNotLearn 17 = .ok (.iaload, 1) := by decide +kernel
theorem dX5_whyNotLearn_18 : decode cX5_whyNotLearn 18 = .ok (.iload_n 1, 1) := by decide +kernel
theorem dX5_whyNotLearn_19 : decode cX5_whyNotLearn 19 = .ok (.ishr, 1) := by decide +kernel
theorem dX5_whyNotLearn_20 : decode cX5_whyNotLearn 20 = .ok (.iconst 1, 1) := by decide +kernel
theorem dX5_whyNotLearn_21 : decode cX5_whyNotLearn 21 = .ok (.iand, 1) := by decide +kernel
theorem dX5_whyNotLearn_22 : decode cX5_whyNotLearn 22 = .ok (.iconst 1, 1) := by decide +kernel
theorem dX5_whyNotLearn_23 : decode cX5_whyNotLearn 23 = .ok (.if_icmp .ne 7, 3) := by decide +kernel
theorem dX5_whyNotLearn_26 : decode cX5_whyNotLearn 26 = .ok (.iconst 2, 1) := by decide +kernel
theorem dX5_whyNotLearn_27 : decode cX5_whyNotLearn 27 = .ok (.goto 4, 3) := by decide +kernel
theorem dX5_whyNotLearn_30 : decode cX5_whyNotLearn 30 = .ok (.iconst 0, 1) := by decide +kernel
theorem dX5_whyNotLearn_31 : decode cX5_whyNotLearn 31 = .ok (.ireturn, 1) := by decide +kernel
theorem dX5_learn_0 : decode cX5_learn 0 = .ok (.aload_n 0, 1) := by decide +kernel
theorem dX5_learn_1 : decode cX5_learn 1 = .ok (.iload_n 1, 1) := by decide +kernel
theorem dX5_learn_2 : decode cX5_learn 2 = .ok (.invokevirtual 95, 3) := by decide +kernel
theorem dX5_learn_5 : decode cX5_learn 5 = .ok (.istore_n 2, 1) := by decide +kernel
theorem dX5_learn_6 : decode cX5_learn 6 = .ok (.iload_n 2, 1) := by decide +kernel
theorem dX5_learn_7 : decode cX5_learn 7 = .ok (.ifCond .le 9, 3) := by decide +kernel
theorem dX5_learn_10 : decode cX5_learn 10 = .ok (.aload_n 0, 1) := by decide +kernel
theorem dX5_learn_11 : decode cX5_learn 11 = .ok (.iload_n 2, 1) := by decide +kernel
theorem dX5_learn_12 : decode cX5_learn 12 = .ok (.invokevirtual 62, 3) := by decide +kernel
theorem dX5_learn_15 : decode cX5_learn 15 = .ok (.ireturn, 1) := by decide +kernel
theorem dX5_learn_16 : decode cX5_learn 16 = .ok (.aload_n 0, 1) := by decide +kernel
theorem dX5_learn_17 : decode cX5_learn 17 = .ok (.invokevirtual 52, 3) := by decide +kernel
theorem dX5_learn_20 : decode cX5_learn 20 = .ok (.aload_n 0, 1) := by decide +kernel
theorem dX5_learn_21 : decode cX5_learn 21 = .ok (.getfield 7, 3) := by decide +kernel
theorem dX5_learn_24 : decode cX5_learn 24 = .ok (.iconst 3, 1) := by decide +kernel
theorem dX5_learn_25 : decode cX5_learn 25 = .ok (.dup2, 1) := by decide +kernel
theorem dX5_learn_26 : decode cX5_learn 26 = .ok (.iaload, 1) := by decide +kernel
theorem dX5_learn_27 : decode cX5_learn 27 = .ok (.iconst 1, 1) := by decide +kernel
theorem dX5_learn_28 : decode cX5_learn 28 = .ok (.iload_n 1, 1) := by decide +kernel
theorem dX5_learn_29 : decode cX5_learn 29 = .ok (.ishl, 1) := by decide +kernel
theorem dX5_learn_30 : decode cX5_learn 30 = .ok (.ior, 1) := by decide +kernel
theorem dX5_learn_31 : decode cX5_learn 31 = .ok (.iastore, 1) := by decide +kernel
theorem dX5_learn_32 : decode cX5_learn 32 = .ok (.aload_n 0, 1) := by decide +kernel
theorem dX5_learn_33 : decode cX5_learn 33 = .ok (.aload_n 0, 1) := by decide +kernel
theorem dX5_learn_34 : decode cX5_learn 34 = .ok (.getfield 7, 3) := by decide +kernel
theorem dX5_learn_37 : decode cX5_learn 37 = .ok (.iconst 3, 1) := by decide +kernel
theorem dX5_learn_38 : decode cX5_learn 38 = .ok (.iaload, 1) := by decide +kernel
theorem dX5_learn_39 : decode cX5_learn 39 = .ok (.invokestatic 41, 3) := by decide +kernel
theorem dX5_learn_42 : decode cX5_learn 42 = .ok (.invokevirtual 55, 3) := by decide +kernel
theorem dX5_learn_45 : decode cX5_learn 45 = .ok (.ireturn, 1) := by decide +kernel
theorem dX5_forget_0 : decode cX5_forget 0 = .ok (.aload_n 0, 1) := by decide +kernel
theorem dX5_forget_1 : decode cX5_forget 1 = .ok (.invokevirtual 52, 3) := by decide +kernel
theorem dX5_forget_4 : decode cX5_forget 4 = .ok (.aload_n 0, 1) := by decide +kernel
theorem dX5_forget_5 : decode cX5_forget 5 = .ok (.getfield 7, 3) := by decide +kernel
theorem dX5_forget_8 : decode cX5_forget 8 = .ok (.iconst 3, 1) := by decide +kernel
theorem dX5_forget_9 : decode cX5_forget 9 = .ok (.iaload, 1) := by decide +kernel
theorem dX5_forget_10 : decode cX5_forget 10 = .ok (.invokestatic 41, 3) := by decide +kernel
theorem dX5_forget_13 : decode cX5_forget 13 = .ok (.istore_n 1, 1) := by decide +kernel
theorem dX5_forget_14 : decode cX5_forget 14 = .ok (.aload_n 0, 1) := by decide +kernel
theorem dX5_forget_15 : decode cX5_forget 15 = .ok (.getfield 7, 3) := by decide +kernel
theorem dX5_forget_18 : decode cX5_forget 18 = .ok (.iconst 3, 1) := by decide +kernel
theorem dX5_forget_19 : decode cX5_forget 19 = .ok (.iconst 0, 1) := by decide +kernel
theorem dX5_forget_20 : decode cX5_forget 20 = .ok (.iastore, 1) := by decide +kernel
theorem dX5_forget_21 : decode cX5_forget 21 = .ok (.aload_n 0, 1) := by decide +kernel
theorem dX5_forget_22 : decode cX5_forget 22 = .ok (.iload_n 1, 1) := by decide +kernel
theorem dX5_forget_23 : decode cX5_forget 23 = .ok (.invokevirtual 55, 3) := by decide +kernel
theorem dX5_forget_26 : decode cX5_forget 26 = .ok (.ireturn, 1) := by decide +kernel
theorem dX5_rounds_0 : decode cX5_rounds 0 = .ok (.aload_n 0, 1) := by decide +kernel
theorem dX5_rounds_1 : decode cX5_rounds 1 = .ok (.getfield 7, 3) := by decide +kernel
theorem dX5_rounds_4 : decode cX5_rounds 4 = .ok (.iconst 4, 1) := by decide +kernel
theorem dX5_rounds_5 : decode cX5_rounds 5 = .ok (.dup2, 1) := by decide +kernel
theorem dX5_rounds_6 : decode cX5_rounds 6 = .ok (.iaload, 1) := by decide +kernel
theorem dX5_rounds_7 : decode cX5_rounds 7 = .ok (.iconst 1, 1) := by decide +kernel
theorem dX5_rounds_8 : decode cX5_rounds 8 = .ok (.iadd, 1) := by decide +kernel
theorem dX5_rounds_9 : decode cX5_rounds 9 = .ok (.iastore, 1) := by decide +kernel
theorem dX5_rounds_10 : decode cX5_rounds 10 = .ok (.aload_n 0, 1) := by decide +kernel
theorem dX5_rounds_11 : decode cX5_rounds 11 = .ok (.invokevirtual 98, 3) := by decide +kernel
theorem dX5_rounds_14 : decode cX5_rounds 14 = .ok (.aload_n 0, 1) := by decide +kernel
theorem dX5_rounds_15 : decode cX5_rounds 15 = .ok (.aload_n 0, 1) := by decide +kernel
theorem dX5_rounds_16 : decode cX5_rounds 16 = .ok (.getfield 7, 3) := by decide +kernel
theorem dX5_rounds_19 : decode cX5_rounds 19 = .ok (.iconst 3, 1) := by decide +kernel
theorem dX5_rounds_20 : decode cX5_rounds 20 = .ok (.iaload, 1) := by decide +kernel
theorem dX5_rounds_21 : decode cX5_rounds 21 = .ok (.invokevirtual 101, 3) := by decide +kernel
theorem dX5_rounds_24 : decode cX5_rounds 24 = .ok (.ifCond .ne 5, 3) := by decide +kernel
theorem dX5_rounds_27 : decode cX5_rounds 27 = .ok (.iconst (-1), 1) := by decide +kernel
theorem dX5_rounds_28 : decode cX5_rounds 28 = .ok (.ireturn, 1) := by decide +kernel
theorem dX5_rounds_29 : decode cX5_rounds 29 = .ok (.iconst 0, 1) := by decide +kernel
theorem dX5_rounds_30 : decode cX5_rounds 30 = .ok (.istore_n 1, 1) := by decide +kernel
theorem dX5_rounds_31 : decode cX5_rounds 31 = .ok (.iload_n 1, 1) := by decide +kernel
theorem dX5_rounds_32 : decode cX5_rounds 32 = .ok (.aload_n 0, 1) := by decide +kernel
theorem dX5_rounds_33 : decode cX5_rounds 33 = .ok (.invokevirtual 44, 3) := by decide +kernel
theorem dX5_rounds_36 : decode cX5_rounds 36 = .ok (.if_icmp .ge 35, 3) := by decide +kernel
theorem dX5_rounds_39 : decode cX5_rounds 39 = .ok (.aload_n 0, 1) := by decide +kernel
theorem dX5_rounds_40 : decode cX5_rounds 40 = .ok (.aload_n 0, 1) := by decide +kernel
theorem dX5_rounds_41 : decode cX5_rounds 41 = .ok (.iload_n 1, 1) := by decide +kernel
theorem dX5_rounds_42 : decode cX5_rounds 42 = .ok (.invokevirtual 104, 3) := by decide +kernel
theorem dX5_rounds_45 : decode cX5_rounds 45 = .ok (.invokevirtual 83, 3) := by decide +kernel
theorem dX5_rounds_48 : decode cX5_rounds 48 = .ok (.ifCond .ne 17, 3) := by decide +kernel
theorem dX5_rounds_51 : decode cX5_rounds 51 = .ok (.aload_n 0, 1) := by decide +kernel
theorem dX5_rounds_52 : decode cX5_rounds 52 = .ok (.getfield 7, 3) := by decide +kernel
theorem dX5_rounds_55 : decode cX5_rounds 55 = .ok (.iconst 3, 1) := by decide +kernel
theorem dX5_rounds_56 : decode cX5_rounds 56 = .ok (.dup2, 1) := by decide +kernel
theorem dX5_rounds_57 : decode cX5_rounds 57 = .ok (.iaload, 1) := by decide +kernel
theorem dX5_rounds_58 : decode cX5_rounds 58 = .ok (.iconst 1, 1) := by decide +kernel
theorem dX5_rounds_59 : decode cX5_rounds 59 = .ok (.iload_n 1, 1) := by decide +kernel
theorem dX5_rounds_60 : decode cX5_rounds 60 = .ok (.ishl, 1) := by decide +kernel
theorem dX5_rounds_61 : decode cX5_rounds 61 = .ok (.ior, 1) := by decide +kernel
theorem dX5_rounds_62 : decode cX5_rounds 62 = .ok (.iastore, 1) := by decide +kernel
theorem dX5_rounds_63 : decode cX5_rounds 63 = .ok (.iload_n 1, 1) := by decide +kernel
theorem dX5_rounds_64 : decode cX5_rounds 64 = .ok (.ireturn, 1) := by decide +kernel
theorem dX5_rounds_65 : decode cX5_rounds 65 = .ok (.iinc 1 1, 3) := by decide +kernel
theorem dX5_rounds_68 : decode cX5_rounds 68 = .ok (.goto (-37), 3) := by decide +kernel
theorem dX5_rounds_71 : decode cX5_rounds 71 = .ok (.bipush (-2), 2) := by decide +kernel
theorem dX5_rounds_73 : decode cX5_rounds 73 = .ok (.ireturn, 1) := by decide +kernel
theorem dX5_round_0 : decode cX5_round 0 = .ok (.aload_n 0, 1) := by decide +kernel
theorem dX5_round_1 : decode cX5_round 1 = .ok (.invokevirtual 52, 3) := by decide +kernel
theorem dX5_round_4 : decode cX5_round 4 = .ok (.aload_n 0, 1) := by decide +kernel
theorem dX5_round_5 : decode cX5_round 5 = .ok (.aload_n 0, 1) := by decide +kernel
theorem dX5_round_6 : decode cX5_round 6 = .ok (.invokevirtual 107, 3) := by decide +kernel
theorem dX5_round_9 : decode cX5_round 9 = .ok (.invokevirtual 55, 3) := by decide +kernel
theorem dX5_round_12 : decode cX5_round 12 = .ok (.ireturn, 1) := by decide +kernel
theorem dX5_learnAll_0 : decode cX5_learnAll 0 = .ok (.aload_n 0, 1) := by decide +kernel
theorem dX5_learnAll_1 : decode cX5_learnAll 1 = .ok (.invokevirtual 52, 3) := by decide +kernel
theorem dX5_learnAll_4 : decode cX5_learnAll 4 = .ok (.iconst 0, 1) := by decide +kernel
theorem dX5_learnAll_5 : decode cX5_learnAll 5 = .ok (.istore_n 1, 1) := by decide +kernel
theorem dX5_learnAll_6 : decode cX5_learnAll 6 = .ok (.aload_n 0, 1) := by decide +kernel
theorem dX5_learnAll_7 : decode cX5_learnAll 7 = .ok (.invokevirtual 107, 3) := by decide +kernel
theorem dX5_learnAll_10 : decode cX5_learnAll 10 = .ok (.ifCond .lt 9, 3) := by decide +kernel
theorem dX5_learnAll_13 : decode cX5_learnAll 13 = .ok (.iinc 1 1, 3) := by decide +kernel
theorem dX5_learnAll_16 : decode cX5_learnAll 16 = .ok (.goto (-10), 3) := by decide +kernel
theorem dX5_learnAll_19 : decode cX5_learnAll 19 = .ok (.aload_n 0, 1) := by decide +kernel
theorem dX5_learnAll_20 : decode cX5_learnAll 20 = .ok (.iload_n 1, 1) := by decide +kernel
theorem dX5_learnAll_21 : decode cX5_learnAll 21 = .ok (.invokevirtual 55, 3) := by decide +kernel
theorem dX5_learnAll_24 : decode cX5_learnAll 24 = .ok (.ireturn, 1) := by decide +kernel
theorem dX5_isVariable_0 : decode cX5_isVariable 0 = .ok (.iload_n 1, 1) := by decide +kernel
theorem dX5_isVariable_1 : decode cX5_isVariable 1 = .ok (.iconst 0, 1) := by decide +kernel
theorem dX5_isVariable_2 : decode cX5_isVariable 2 = .ok (.aload_n 0, 1) := by decide +kernel
theorem dX5_isVariable_3 : decode cX5_isVariable 3 = .ok (.getfield 7, 3) := by decide +kernel
theorem dX5_isVariable_6 : decode cX5_isVariable 6 = .ok (.iconst 0, 1) := by decide +kernel
theorem dX5_isVariable_7 : decode cX5_isVariable 7 = .ok (.iaload, 1) := by decide +kernel
theorem dX5_isVariable_8 : decode cX5_isVariable 8 = .ok (.iconst 1, 1) := by decide +kernel
theorem dX5_isVariable_9 : decode cX5_isVariable 9 = .ok (.isub, 1) := by decide +kernel
theorem dX5_isVariable_10 : decode cX5_isVariable 10 = .ok (.invokestatic 48, 3) := by decide +kernel
theorem dX5_isVariable_13 : decode cX5_isVariable 13 = .ok (.ireturn, 1) := by decide +kernel
theorem dX5_isBreakers_0 : decode cX5_isBreakers 0 = .ok (.aload_n 0, 1) := by decide +kernel
theorem dX5_isBreakers_1 : decode cX5_isBreakers 1 = .ok (.aload_n 0, 1) := by decide +kernel
theorem dX5_isBreakers_2 : decode cX5_isBreakers 2 = .ok (.iload_n 1, 1) := by decide +kernel
theorem dX5_isBreakers_3 : decode cX5_isBreakers 3 = .ok (.invokevirtual 110, 3) := by decide +kernel
theorem dX5_isBreakers_6 : decode cX5_isBreakers 6 = .ok (.ifCond .eq 7, 3) := by decide +kernel
theorem dX5_isBreakers_9 : decode cX5_isBreakers 9 = .ok (.iconst 0, 1) := by decide +kernel
theorem dX5_isBreakers_10 : decode cX5_isBreakers 10 = .ok (.goto 4, 3) := by decide +kernel
theorem dX5_isBreakers_13 : decode cX5_isBreakers 13 = .ok (.iconst 1, 1) := by decide +kernel
theorem dX5_isBreakers_14 : decode cX5_isBreakers 14 = .ok (.putfield 30, 3) := by decide +kernel
theorem dX5_isBreakers_17 : decode cX5_isBreakers 17 = .ok (.aload_n 0, 1) := by decide +kernel
theorem dX5_isBreakers_18 : decode cX5_isBreakers 18 = .ok (.getfield 30, 3) := by decide +kernel
theorem dX5_isBreakers_21 : decode cX5_isBreakers 21 = .ok (.ifCond .ne 15, 3) := by decide +kernel
theorem dX5_isBreakers_24 : decode cX5_isBreakers 24 = .ok (.aload_n 0, 1) := by decide +kernel
theorem dX5_isBreakers_25 : decode cX5_isBreakers 25 = .ok (.iload_n 1, 1) := by decide +kernel
theorem dX5_isBreakers_26 : decode cX5_isBreakers 26 = .ok (.invokevirtual 86, 3) := by decide +kernel
theorem dX5_isBreakers_29 : decode cX5_isBreakers 29 = .ok (.ifCond .eq 7, 3) := by decide +kernel
theorem dX5_isBreakers_32 : decode cX5_isBreakers 32 = .ok (.iconst 1, 1) := by decide +kernel
theorem dX5_isBreakers_33 : decode cX5_isBreakers 33 = .ok (.goto 4, 3) := by decide +kernel
theorem dX5_isBreakers_36 : decode cX5_isBreakers 36 = .ok (.iconst 0, 1) := by decide +kernel
theorem dX5_isBreakers_37 : decode cX5_isBreakers 37 = .ok (.ireturn, 1) := by decide +kernel
theorem dX5_ofClause_0 : decode cX5_ofClause 0 = .ok (.aload_n 0, 1) := by decide +kernel
theorem dX5_ofClause_1 : decode cX5_ofClause 1 = .ok (.getfield 7, 3) := by decide +kernel
theorem dX5_ofClause_4 : decode cX5_ofClause 4 = .ok (.iconst 5, 1) := by decide +kernel
theorem dX5_ofClause_5 : decode cX5_ofClause 5 = .ok (.iload_n 1, 1) := by decide +kernel
theorem dX5_ofClause_6 : decode cX5_ofClause 6 = .ok (.iadd, 1) := by decide +kernel
theorem dX5_ofClause_7 : decode cX5_ofClause 7 = .ok (.iaload, 1) := by decide +kernel
theorem dX5_ofClause_8 : decode cX5_ofClause 8 = .ok (.istore_n 3, 1) := by decide +kernel
theorem dX5_ofClause_9 : decode cX5_ofClause 9 = .ok (.aload_n 0, 1) := by decide +kernel
theorem dX5_ofClause_10 : decode cX5_ofClause 10 = .ok (.getfield 7, 3) := by decide +kernel
theorem dX5_ofClause_13 : decode cX5_ofClause 13 = .ok (.bipush 25, 2) := by decide +kernel
theorem dX5_ofClause_15 : decode cX5_ofClause 15 = .ok (.iload_n 1, 1) := by decide +kernel
theorem dX5_ofClause_16 : decode cX5_ofClause 16 = .ok (.iadd, 1) := by decide +kernel
theorem dX5_ofClause_17 : decode cX5_ofClause 17 = .ok (.iaload, 1) := by decide +kernel
theorem dX5_ofClause_18 : decode cX5_ofClause 18 = .ok (.istore 4, 2) := by decide +kernel
theorem dX5_ofClause_20 : decode cX5_ofClause 20 = .ok (.iload_n 2, 1) := by decide +kernel
theorem dX5_ofClause_21 : decode cX5_ofClause 21 = .ok (.ifCond .ne 7, 3) := by decide +kernel
theorem dX5_ofClause_24 : decode cX5_ofClause 24 = .ok (.iload_n 3, 1) := by decide +kernel
theorem dX5_ofClause_25 : decode cX5_ofClause 25 = .ok (.goto 25, 3) := by decide +kernel
theorem dX5_ofClause_28 : decode cX5_ofClause 28 = .ok (.iload_n 2, 1) := by decide +kernel
theorem dX5_ofClause_29 : decode cX5_ofClause 29 = .ok (.iconst 1, 1) := by decide +kernel
theorem dX5_ofClause_30 : decode cX5_ofClause 30 = .ok (.if_icmp .ne 8, 3) := by decide +kernel
theorem dX5_ofClause_33 : decode cX5_ofClause 33 = .ok (.iload 4, 2) := by decide +kernel
theorem dX5_ofClause_35 : decode cX5_ofClause 35 = .ok (.goto 15, 3) := by decide +kernel
theorem dX5_ofClause_38 : decode cX5_ofClause 38 = .ok (.iload_n 3, 1) := by decide +kernel
theorem dX5_ofClause_39 : decode cX5_ofClause 39 = .ok (.iload 4, 2) := by decide +kernel
theorem dX5_ofClause_41 : decode cX5_ofClause 41 = .ok (.iand, 1) := by decide +kernel
theorem dX5_ofClause_42 : decode cX5_ofClause 42 = .ok (.ifCond .eq 7, 3) := by decide +kernel
theorem dX5_ofClause_45 : decode cX5_ofClause 45 = .ok (.iconst 1, 1) := by decide +kernel
theorem dX5_ofClause_46 : decode cX5_ofClause 46 = .ok (.goto 4, 3) := by decide +kernel
theorem dX5_ofClause_49 : decode cX5_ofClause 49 = .ok (.iconst 0, 1) := by decide +kernel
theorem dX5_ofClause_50 : decode cX5_ofClause 50 = .ok (.ireturn, 1) := by decide +kernel
theorem dX5_clause_0 : decode cX5_clause 0 = .ok (.aload_n 0, 1) := by decide +kernel
theorem dX5_clause_1 : decode cX5_clause 1 = .ok (.iload_n 1, 1) := by decide +kernel
theorem dX5_clause_2 : decode cX5_clause 2 = .ok (.invokevirtual 80, 3) := by decide +kernel
theorem dX5_clause_5 : decode cX5_clause 5 = .ok (.ifCond .ne 9, 3) := by decide +kernel
theorem dX5_clause_8 : decode cX5_clause 8 = .ok (.aload_n 0, 1) := by decide +kernel
theorem dX5_clause_9 : decode cX5_clause 9 = .ok (.iconst 1, 1) := by decide +kernel
theorem dX5_clause_10 : decode cX5_clause 10 = .ok (.invokevirtual 62, 3) := by decide +kernel
theorem dX5_clause_13 : decode cX5_clause 13 = .ok (.ireturn, 1) := by decide +kernel
theorem dX5_clause_14 : decode cX5_clause 14 = .ok (.iload_n 2, 1) := by decide +kernel
theorem dX5_clause_15 : decode cX5_clause 15 = .ok (.iconst 0, 1) := by decide +kernel
theorem dX5_clause_16 : decode cX5_clause 16 = .ok (.iconst 2, 1) := by decide +kernel
theorem dX5_clause_17 : decode cX5_clause 17 = .ok (.invokestatic 48, 3) := by decide +kernel
theorem dX5_clause_20 : decode cX5_clause 20 = .ok (.ifCond .eq 16, 3) := by decide +kernel
theorem dX5_clause_23 : decode cX5_clause 23 = .ok (.aload_n 0, 1) := by decide +kernel
theorem dX5_clause_24 : decode cX5_clause 24 = .ok (.aload_n 0, 1) := by decide +kernel
theorem dX5_clause_25 : decode cX5_clause 25 = .ok (.iload_n 1, 1) := by decide +kernel
theorem dX5_clause_26 : decode cX5_clause 26 = .ok (.iload_n 2, 1) := by decide +kernel
theorem dX5_clause_27 : decode cX5_clause 27 = .ok (.invokevirtual 113, 3) := by decide +kernel
theorem dX5_clause_30 : decode cX5_clause 30 = .ok (.invokevirtual 37, 3) := by decide +kernel
theorem dX5_clause_33 : decode cX5_clause 33 = .ok (.goto 8, 3) := by decide +kernel
theorem dX5_clause_36 : decode cX5_clause 36 = .ok (.aload_n 0, 1) := by decide +kernel
theorem dX5_clause_37 : decode cX5_clause 37 = .ok (.iconst 2, 1) := by decide +kernel
theorem dX5_clause_38 : decode cX5_clause 38 = .ok (.invokevirtual 62, 3) := by decide +kernel
theorem dX5_clause_41 : decode cX5_clause 41 = .ok (.ireturn, 1) := by decide +kernel
theorem dX5_isTrue_0 : decode cX5_isTrue 0 = .ok (.aload_n 0, 1) := by decide +kernel
theorem dX5_isTrue_1 : decode cX5_isTrue 1 = .ok (.aload_n 0, 1) := by decide +kernel
theorem dX5_isTrue_2 : decode cX5_isTrue 2 = .ok (.iload_n 1, 1) := by decide +kernel
theorem dX5_isTrue_3 : decode cX5_isTrue 3 = .ok (.invokevirtual 69, 3) := by decide +kernel
theorem dX5_isTrue_6 : decode cX5_isTrue 6 = .ok (.ifCond .eq 7, 3) := by decide +kernel
theorem dX5_isTrue_9 : decode cX5_isTrue 9 = .ok (.iconst 0, 1) := by decide +kernel
theorem dX5_isTrue_10 : decode cX5_isTrue 10 = .ok (.goto 4, 3) := by decide +kernel
theorem dX5_isTrue_13 : decode cX5_isTrue 13 = .ok (.iconst 1, 1) := by decide +kernel
theorem dX5_isTrue_14 : decode cX5_isTrue 14 = .ok (.putfield 30, 3) := by decide +kernel
theorem dX5_isTrue_17 : decode cX5_isTrue 17 = .ok (.aload_n 0, 1) := by decide +kernel
theorem dX5_isTrue_18 : decode cX5_isTrue 18 = .ok (.getfield 30, 3) := by decide +kernel
theorem dX5_isTrue_21 : decode cX5_isTrue 21 = .ok (.ifCond .ne 15, 3) := by decide +kernel
theorem dX5_isTrue_24 : decode cX5_isTrue 24 = .ok (.aload_n 0, 1) := by decide +kernel
theorem dX5_isTrue_25 : decode cX5_isTrue 25 = .ok (.iload_n 1, 1) := by decide +kernel
theorem dX5_isTrue_26 : decode cX5_isTrue 26 = .ok (.invokevirtual 83, 3) := by decide +kernel
theorem dX5_isTrue_29 : decode cX5_isTrue 29 = .ok (.ifCond .eq 7, 3) := by decide +kernel
theorem dX5_isTrue_32 : decode cX5_isTrue 32 = .ok (.iconst 1, 1) := by decide +kernel
theorem dX5_isTrue_33 : decode cX5_isTrue 33 = .ok (.goto 4, 3) := by decide +kernel
theorem dX5_isTrue_36 : decode cX5_isTrue 36 = .ok (.iconst 0, 1) := by decide +kernel
theorem dX5_isTrue_37 : decode cX5_isTrue 37 = .ok (.ireturn, 1) := by decide +kernel
theorem dX5_number_0 : decode cX5_number 0 = .ok (.iload_n 1, 1) := by decide +kernel
theorem dX5_number_1 : decode cX5_number 1 = .ok (.tableswitch 87 0 5 #[39, 46, 56, 63, 73, 80], 39) := by decide +kernel
theorem dX5_number_40 : decode cX5_number 40 = .ok (.aload_n 0, 1) := by decide +kernel
theorem dX5_number_41 : decode cX5_number 41 = .ok (.getfield 7, 3) := by decide +kernel
theorem dX5_number_44 : decode cX5_number 44 = .ok (.iconst 0, 1) := by decide +kernel
theorem dX5_number_45 : decode cX5_number 45 = .ok (.iaload, 1) := by decide +kernel
theorem dX5_number_46 : decode cX5_number 46 = .ok (.ireturn, 1) := by decide +kernel
theorem dX5_number_47 : decode cX5_number 47 = .ok (.aload_n 0, 1) := by decide +kernel
theorem dX5_number_48 : decode cX5_number 48 = .ok (.getfield 7, 3) := by decide +kernel
theorem dX5_number_51 : decode cX5_number 51 = .ok (.iconst 1, 1) := by decide +kernel
theorem dX5_number_52 : decode cX5_number 52 = .ok (.iaload, 1) := by decide +kernel
theorem dX5_number_53 : decode cX5_number 53 = .ok (.invokestatic 41, 3) := by decide +kernel
theorem dX5_number_56 : decode cX5_number 56 = .ok (.ireturn, 1) := by decide +kernel
theorem dX5_number_57 : decode cX5_number 57 = .ok (.aload_n 0, 1) := by decide +kernel
theorem dX5_number_58 : decode cX5_number 58 = .ok (.getfield 7, 3) := by decide +kernel
theorem dX5_number_61 : decode cX5_number 61 = .ok (.iconst 2, 1) := by decide +kernel
theorem dX5_number_62 : decode cX5_number 62 = .ok (.iaload, 1) := by decide +kernel
theorem dX5_number_63 : decode cX5_number 63 = .ok (.ireturn, 1) := by decide +kernel
theorem dX5_number_64 : decode cX5_number 64 = .ok (.aload_n 0, 1) := by decide +kernel
theorem dX5_number_65 : decode cX5_number 65 = .ok (.getfield 7, 3) := by decide +kernel
theorem dX5_number_68 : decode cX5_number 68 = .ok (.iconst 3, 1) := by decide +kernel
theorem dX5_number_69 : decode cX5_number 69 = .ok (.iaload, 1) := by decide +kernel
theorem dX5_number_70 : decode cX5_number 70 = .ok (.invokestatic 41, 3) := by decide +kernel
theorem dX5_number_73 : decode cX5_number 73 = .ok (.ireturn, 1) := by decide +kernel
theorem dX5_number_74 : decode cX5_number 74 = .ok (.aload_n 0, 1) := by decide +kernel
theorem dX5_number_75 : decode cX5_number 75 = .ok (.getfield 7, 3) := by decide +kernel
theorem dX5_number_78 : decode cX5_number 78 = .ok (.iconst 3, 1) := by decide +kernel
theorem dX5_number_79 : decode cX5_number 79 = .ok (.iaload, 1) := by decide +kernel
theorem dX5_number_80 : decode cX5_number 80 = .ok (.ireturn, 1) := by decide +kernel
theorem dX5_number_81 : decode cX5_number 81 = .ok (.aload_n 0, 1) := by decide +kernel
theorem dX5_number_82 : decode cX5_number 82 = .ok (.getfield 7, 3) := by decide +kernel
theorem dX5_number_85 : decode cX5_number 85 = .ok (.iconst 4, 1) := by decide +kernel
theorem dX5_number_86 : decode cX5_number 86 = .ok (.iaload, 1) := by decide +kernel
theorem dX5_number_87 : decode cX5_number 87 = .ok (.ireturn, 1) := by decide +kernel
theorem dX5_number_88 : decode cX5_number 88 = .ok (.aload_n 0, 1) := by decide +kernel
theorem dX5_number_89 : decode cX5_number 89 = .ok (.invokevirtual 44, 3) := by decide +kernel
theorem dX5_number_92 : decode cX5_number 92 = .ok (.ireturn, 1) := by decide +kernel
theorem dX5_value_0 : decode cX5_value 0 = .ok (.iload_n 1, 1) := by decide +kernel
theorem dX5_value_1 : decode cX5_value 1 = .ok (.iconst 0, 1) := by decide +kernel
theorem dX5_value_2 : decode cX5_value 2 = .ok (.bipush 6, 2) := by decide +kernel
theorem dX5_value_4 : decode cX5_value 4 = .ok (.invokestatic 48, 3) := by decide +kernel
theorem dX5_value_7 : decode cX5_value 7 = .ok (.ifCond .eq 15, 3) := by decide +kernel
theorem dX5_value_10 : decode cX5_value 10 = .ok (.aload_n 0, 1) := by decide +kernel
theorem dX5_value_11 : decode cX5_value 11 = .ok (.aload_n 0, 1) := by decide +kernel
theorem dX5_value_12 : decode cX5_value 12 = .ok (.iload_n 1, 1) := by decide +kernel
theorem dX5_value_13 : decode cX5_value 13 = .ok (.invokevirtual 116, 3) := by decide +kernel
theorem dX5_value_16 : decode cX5_value 16 = .ok (.invokevirtual 37, 3) := by decide +kernel
theorem dX5_value_19 : decode cX5_value 19 = .ok (.goto 8, 3) := by decide +kernel
theorem dX5_value_22 : decode cX5_value 22 = .ok (.aload_n 0, 1) := by decide +kernel
theorem dX5_value_23 : decode cX5_value 23 = .ok (.iconst 1, 1) := by decide +kernel
theorem dX5_value_24 : decode cX5_value 24 = .ok (.invokevirtual 62, 3) := by decide +kernel
theorem dX5_value_27 : decode cX5_value 27 = .ok (.ireturn, 1) := by decide +kernel
theorem dX5_winnerOfAll_0 : decode cX5_winnerOfAll 0 = .ok (.aload_n 0, 1) := by decide +kernel
theorem dX5_winnerOfAll_1 : decode cX5_winnerOfAll 1 = .ok (.aload_n 0, 1) := by decide +kernel
theorem dX5_winnerOfAll_2 : decode cX5_winnerOfAll 2 = .ok (.getfield 7, 3) := by decide +kernel
theorem dX5_winnerOfAll_5 : decode cX5_winnerOfAll 5 = .ok (.iconst 0, 1) := by decide +kernel
theorem dX5_winnerOfAll_6 : decode cX5_winnerOfAll 6 = .ok (.iaload, 1) := by decide +kernel
theorem dX5_winnerOfAll_7 : decode cX5_winnerOfAll 7 = .ok (.invokevirtual 119, 3) := by decide +kernel
theorem dX5_winnerOfAll_10 : decode cX5_winnerOfAll 10 = .ok (.aload_n 0, 1) := by decide +kernel
theorem dX5_winnerOfAll_11 : decode cX5_winnerOfAll 11 = .ok (.getfield 23, 3) := by decide +kernel
theorem dX5_winnerOfAll_14 : decode cX5_winnerOfAll 14 = .ok (.iconst 1, 1) := by decide +kernel
theorem dX5_winnerOfAll_15 : decode cX5_winnerOfAll 15 = .ok (.baload, 1) := by decide +kernel
theorem dX5_winnerOfAll_16 : decode cX5_winnerOfAll 16 = .ok (.ifCond .eq 7, 3) := by decide +kernel
theorem dX5_winnerOfAll_19 : decode cX5_winnerOfAll 19 = .ok (.iconst 0, 1) := by decide +kernel
theorem dX5_winnerOfAll_20 : decode cX5_winnerOfAll 20 = .ok (.goto 4, 3) := by decide +kernel
theorem dX5_winnerOfAll_23 : decode cX5_winnerOfAll 23 = .ok (.iconst 1, 1) := by decide +kernel
theorem dX5_winnerOfAll_24 : decode cX5_winnerOfAll 24 = .ok (.ireturn, 1) := by decide +kernel
theorem dX5_winner_0 : decode cX5_winner 0 = .ok (.aload_n 0, 1) := by decide +kernel
theorem dX5_winner_1 : decode cX5_winner 1 = .ok (.aload_n 0, 1) := by decide +kernel
theorem dX5_winner_2 : decode cX5_winner 2 = .ok (.invokevirtual 123, 3) := by decide +kernel
theorem dX5_winner_5 : decode cX5_winner 5 = .ok (.invokevirtual 37, 3) := by decide +kernel
theorem dX5_winner_8 : decode cX5_winner 8 = .ok (.ireturn, 1) := by decide +kernel
theorem dX5_whyNotAt_0 : decode cX5_whyNotAt 0 = .ok (.aload_n 0, 1) := by decide +kernel
theorem dX5_whyNotAt_1 : decode cX5_whyNotAt 1 = .ok (.iload_n 1, 1) := by decide +kernel
theorem dX5_whyNotAt_2 : decode cX5_whyNotAt 2 = .ok (.invokevirtual 110, 3) := by decide +kernel
theorem dX5_whyNotAt_5 : decode cX5_whyNotAt 5 = .ok (.ifCond .ne 7, 3) := by decide +kernel
theorem dX5_whyNotAt_8 : decode cX5_whyNotAt 8 = .ok (.iconst 1, 1) := by decide +kernel
theorem dX5_whyNotAt_9 : decode cX5_whyNotAt 9 = .ok (.goto 21, 3) := by decide +kernel
theorem dX5_whyNotAt_12 : decode cX5_whyNotAt 12 = .ok (.iload_n 2, 1) := by decide +kernel
theorem dX5_whyNotAt_13 : decode cX5_whyNotAt 13 = .ok (.iconst 0, 1) := by decide +kernel
theorem dX5_whyNotAt_14 : decode cX5_whyNotAt 14 = .ok (.iconst 1, 1) := by decide +kernel
theorem dX5_whyNotAt_15 : decode cX5_whyNotAt 15 = .ok (.iload_n 1, 1) := by decide +kernel
theorem dX5_whyNotAt_16 : decode cX5_whyNotAt 16 = .ok (.ishl, 1) := by decide +kernel
theorem dX5_whyNotAt_17 : decode cX5_whyNotAt 17 = .ok (.iconst 1, 1) := by decide +kernel
theorem dX5_whyNotAt_18 : decode cX5_whyNotAt 18 = .ok (.isub, 1) := by decide +kernel
theorem dX5_whyNotAt_19 : decode cX5_whyNotAt 19 = .ok (.invokestatic 48, 3) := by decide +kernel
theorem dX5_whyNotAt_22 : decode cX5_whyNotAt 22 = .ok (.ifCond .eq 7, 3) := by decide +kernel
theorem dX5_whyNotAt_25 : decode cX5_whyNotAt 25 = .ok (.iconst 0, 1) := by decide +kernel
theorem dX5_whyNotAt_26 : decode cX5_whyNotAt 26 = .ok (.goto 4, 3) := by decide +kernel
theorem dX5_whyNotAt_29 : decode cX5_whyNotAt 29 = .ok (.iconst 2, 1) := by decide +kernel
theorem dX5_whyNotAt_30 : decode cX5_whyNotAt 30 = .ok (.ireturn, 1) := by decide +kernel
theorem dX5_winnerAt_0 : decode cX5_winnerAt 0 = .ok (.aload_n 0, 1) := by decide +kernel
theorem dX5_winnerAt_1 : decode cX5_winnerAt 1 = .ok (.iload_n 1, 1) := by decide +kernel
theorem dX5_winnerAt_2 : decode cX5_winnerAt 2 = .ok (.iload_n 2, 1) := by decide +kernel
theorem dX5_winnerAt_3 : decode cX5_winnerAt 3 = .ok (.invokevirtual 126, 3) := by decide +kernel
theorem dX5_winnerAt_6 : decode cX5_winnerAt 6 = .ok (.istore_n 3, 1) := by decide +kernel
theorem dX5_winnerAt_7 : decode cX5_winnerAt 7 = .ok (.iload_n 3, 1) := by decide +kernel
theorem dX5_winnerAt_8 : decode cX5_winnerAt 8 = .ok (.ifCond .le 9, 3) := by decide +kernel
theorem dX5_winnerAt_11 : decode cX5_winnerAt 11 = .ok (.aload_n 0, 1) := by decide +kernel
theorem dX5_winnerAt_12 : decode cX5_winnerAt 12 = .ok (.iload_n 3, 1) := by decide +kernel
theorem dX5_winnerAt_13 : decode cX5_winnerAt 13 = .ok (.invokevirtual 62, 3) := by decide +kernel
theorem dX5_winnerAt_16 : decode cX5_winnerAt 16 = .ok (.ireturn, 1) := by decide +kernel
theorem dX5_winnerAt_17 : decode cX5_winnerAt 17 = .ok (.aload_n 0, 1) := by decide +kernel
theorem dX5_winnerAt_18 : decode cX5_winnerAt 18 = .ok (.aload_n 0, 1) := by decide +kernel
theorem dX5_winnerAt_19 : decode cX5_winnerAt 19 = .ok (.getfield 7, 3) := by decide +kernel
theorem dX5_winnerAt_22 : decode cX5_winnerAt 22 = .ok (.iconst 0, 1) := by decide +kernel
theorem dX5_winnerAt_23 : decode cX5_winnerAt 23 = .ok (.iaload, 1) := by decide +kernel
theorem dX5_winnerAt_24 : decode cX5_winnerAt 24 = .ok (.invokevirtual 119, 3) := by decide +kernel
theorem dX5_winnerAt_27 : decode cX5_winnerAt 27 = .ok (.aload_n 0, 1) := by decide +kernel
theorem dX5_winnerAt_28 : decode cX5_winnerAt 28 = .ok (.aload_n 0, 1) := by decide +kernel
theorem dX5_winnerAt_29 : decode cX5_winnerAt 29 = .ok (.getfield 23, 3) := by decide +kernel
theorem dX5_winnerAt_32 : decode cX5_winnerAt 32 = .ok (.iconst 1, 1) := by decide +kernel
theorem dX5_winnerAt_33 : decode cX5_winnerAt 33 = .ok (.iload_n 1, 1) := by decide +kernel
theorem dX5_winnerAt_34 : decode cX5_winnerAt 34 = .ok (.ishl, 1) := by decide +kernel
theorem dX5_winnerAt_35 : decode cX5_winnerAt 35 = .ok (.iload_n 2, 1) := by decide +kernel
theorem dX5_winnerAt_36 : decode cX5_winnerAt 36 = .ok (.iadd, 1) := by decide +kernel
theorem dX5_winnerAt_37 : decode cX5_winnerAt 37 = .ok (.baload, 1) := by decide +kernel
theorem dX5_winnerAt_38 : decode cX5_winnerAt 38 = .ok (.ifCond .eq 7, 3) := by decide +kernel
theorem dX5_winnerAt_41 : decode cX5_winnerAt 41 = .ok (.iconst 0, 1) := by decide +kernel
theorem dX5_winnerAt_42 : decode cX5_winnerAt 42 = .ok (.goto 4, 3) := by decide +kernel
theorem dX5_winnerAt_45 : decode cX5_winnerAt 45 = .ok (.iconst 1, 1) := by decide +kernel
theorem dX5_winnerAt_46 : decode cX5_winnerAt 46 = .ok (.invokevirtual 37, 3) := by decide +kernel
theorem dX5_winnerAt_49 : decode cX5_winnerAt 49 = .ok (.ireturn, 1) := by decide +kernel
theorem dX5_move_0 : decode cX5_move 0 = .ok (.aload_n 0, 1) := by decide +kernel
theorem dX5_move_1 : decode cX5_move 1 = .ok (.iload_n 1, 1) := by decide +kernel
theorem dX5_move_2 : decode cX5_move 2 = .ok (.iload_n 2, 1) := by decide +kernel
theorem dX5_move_3 : decode cX5_move 3 = .ok (.invokevirtual 126, 3) := by decide +kernel
theorem dX5_move_6 : decode cX5_move 6 = .ok (.istore_n 3, 1) := by decide +kernel
theorem dX5_move_7 : decode cX5_move 7 = .ok (.iload_n 3, 1) := by decide +kernel
theorem dX5_move_8 : decode cX5_move 8 = .ok (.ifCond .le 9, 3) := by decide +kernel
theorem dX5_move_11 : decode cX5_move 11 = .ok (.aload_n 0, 1) := by decide +kernel
theorem dX5_move_12 : decode cX5_move 12 = .ok (.iload_n 3, 1) := by decide +kernel
theorem dX5_move_13 : decode cX5_move 13 = .ok (.invokevirtual 62, 3) := by decide +kernel
theorem dX5_move_16 : decode cX5_move 16 = .ok (.ireturn, 1) := by decide +kernel
theorem dX5_move_17 : decode cX5_move 17 = .ok (.aload_n 0, 1) := by decide +kernel
theorem dX5_move_18 : decode cX5_move 18 = .ok (.aload_n 0, 1) := by decide +kernel
theorem dX5_move_19 : decode cX5_move 19 = .ok (.getfield 7, 3) := by decide +kernel
theorem dX5_move_22 : decode cX5_move 22 = .ok (.iconst 0, 1) := by decide +kernel
theorem dX5_move_23 : decode cX5_move 23 = .ok (.iaload, 1) := by decide +kernel
theorem dX5_move_24 : decode cX5_move 24 = .ok (.invokevirtual 119, 3) := by decide +kernel
theorem dX5_move_27 : decode cX5_move 27 = .ok (.iconst (-1), 1) := by decide +kernel
theorem dX5_move_28 : decode cX5_move 28 = .ok (.istore 4, 2) := by decide +kernel
theorem dX5_move_30 : decode cX5_move 30 = .ok (.iconst 1, 1) := by decide +kernel
theorem dX5_move_31 : decode cX5_move 31 = .ok (.istore 5, 2) := by decide +kernel
theorem dX5_move_33 : decode cX5_move 33 = .ok (.iload 5, 2) := by decide +kernel
theorem dX5_move_35 : decode cX5_move 35 = .ok (.ifCond .lt 45, 3) := by decide +kernel
theorem dX5_move_38 : decode cX5_move 38 = .ok (.aload_n 0, 1) := by decide +kernel
theorem dX5_move_39 : decode cX5_move 39 = .ok (.getfield 23, 3) := by decide +kernel
theorem dX5_move_42 : decode cX5_move 42 = .ok (.iconst 2, 1) := by decide +kernel
theorem dX5_move_43 : decode cX5_move 43 = .ok (.iload_n 1, 1) := by decide +kernel
theorem dX5_move_44 : decode cX5_move 44 = .ok (.ishl, 1) := by decide +kernel
theorem dX5_move_45 : decode cX5_move 45 = .ok (.iload_n 2, 1) := by decide +kernel
theorem dX5_move_46 : decode cX5_move 46 = .ok (.iadd, 1) := by decide +kernel
theorem dX5_move_47 : decode cX5_move 47 = .ok (.iload 5, 2) := by decide +kernel
theorem dX5_move_49 : decode cX5_move 49 = .ok (.iload_n 1, 1) := by decide +kernel
theorem dX5_move_50 : decode cX5_move 50 = .ok (.ishl, 1) := by decide +kernel
theorem dX5_move_51 : decode cX5_move 51 = .ok (.iadd, 1) := by decide +kernel
theorem dX5_move_52 : decode cX5_move 52 = .ok (.baload, 1) := by decide +kernel
theorem dX5_move_53 : decode cX5_move 53 = .ok (.istore 6, 2) := by decide +kernel
theorem dX5_move_55 : decode cX5_move 55 = .ok (.iload 6, 2) := by decide +kernel
theorem dX5_move_57 : decode cX5_move 57 = .ok (.aload_n 0, 1) := by decide +kernel
theorem dX5_move_58 : decode cX5_move 58 = .ok (.iload_n 1, 1) := by decide +kernel
theorem dX5_move_59 : decode cX5_move 59 = .ok (.invokevirtual 86, 3) := by decide +kernel
theorem dX5_move_62 : decode cX5_move 62 = .ok (.if_icmp .eq 8, 3) := by decide +kernel
theorem dX5_move_65 : decode cX5_move 65 = .ok (.iload 5, 2) := by decide +kernel
theorem dX5_move_67 : decode cX5_move 67 = .ok (.goto 5, 3) := by decide +kernel
theorem dX5_move_70 : decode cX5_move 70 = .ok (.iload 4, 2) := by decide +kernel
theorem dX5_move_72 : decode cX5_move 72 = .ok (.istore 4, 2) := by decide +kernel
theorem dX5_move_74 : decode cX5_move 74 = .ok (.iinc 5 (-1), 3) := by decide +kernel
theorem dX5_move_77 : decode cX5_move 77 = .ok (.goto (-44), 3) := by decide +kernel
theorem dX5_move_80 : decode cX5_move 80 = .ok (.aload_n 0, 1) := by decide +kernel
theorem dX5_move_81 : decode cX5_move 81 = .ok (.iload 4, 2) := by decide +kernel
theorem dX5_move_83 : decode cX5_move 83 = .ok (.invokevirtual 37, 3) := by decide +kernel
theorem dX5_move_86 : decode cX5_move 86 = .ok (.ireturn, 1) := by decide +kernel
theorem dX5_waysOf_0 : decode cX5_waysOf 0 = .ok (.iconst 0, 1) := by decide +kernel
theorem dX5_waysOf_1 : decode cX5_waysOf 1 = .ok (.istore_n 2, 1) := by decide +kernel
theorem dX5_waysOf_2 : decode cX5_waysOf 2 = .ok (.iconst 0, 1) := by decide +kernel
theorem dX5_waysOf_3 : decode cX5_waysOf 3 = .ok (.istore_n 3, 1) := by decide +kernel
theorem dX5_waysOf_4 : decode cX5_waysOf 4 = .ok (.iload_n 3, 1) := by decide +kernel
theorem dX5_waysOf_5 : decode cX5_waysOf 5 = .ok (.iconst 1, 1) := by decide +kernel
theorem dX5_waysOf_6 : decode cX5_waysOf 6 = .ok (.aload_n 0, 1) := by decide +kernel
theorem dX5_waysOf_7 : decode cX5_waysOf 7 = .ok (.getfield 7, 3) := by decide +kernel
theorem dX5_waysOf_10 : decode cX5_waysOf 10 = .ok (.iconst 0, 1) := by decide +kernel
theorem dX5_waysOf_11 : decode cX5_waysOf 11 = .ok (.iaload, 1) := by decide +kernel
theorem dX5_waysOf_12 : decode cX5_waysOf 12 = .ok (.ishl, 1) := by decide +kernel
theorem dX5_waysOf_13 : decode cX5_waysOf 13 = .ok (.if_icmp .ge 40, 3) := by decide +kernel
theorem dX5_waysOf_16 : decode cX5_waysOf 16 = .ok (.iload_n 2, 1) := by decide +kernel
theorem dX5_waysOf_17 : decode cX5_waysOf 17 = .ok (.aload_n 0, 1) := by decide +kernel
theorem dX5_waysOf_18 : decode cX5_waysOf 18 = .ok (.iload_n 1, 1) := by decide +kernel
theorem dX5_waysOf_19 : decode cX5_waysOf 19 = .ok (.aload_n 0, 1) := by decide +kernel
theorem dX5_waysOf_20 : decode cX5_waysOf 20 = .ok (.getfield 7, 3) := by decide +kernel
theorem dX5_waysOf_23 : decode cX5_waysOf 23 = .ok (.iconst 0, 1) := by decide +kernel
theorem dX5_waysOf_24 : decode cX5_waysOf 24 = .ok (.iaload, 1) := by decide +kernel
theorem dX5_waysOf_25 : decode cX5_waysOf 25 = .ok (.iload_n 3, 1) := by decide +kernel
theorem dX5_waysOf_26 : decode cX5_waysOf 26 = .ok (.invokevirtual 89, 3) := by decide +kernel
theorem dX5_waysOf_29 : decode cX5_waysOf 29 = .ok (.ifCond .eq 15, 3) := by decide +kernel
theorem dX5_waysOf_32 : decode cX5_waysOf 32 = .ok (.aload_n 0, 1) := by decide +kernel
theorem dX5_waysOf_33 : decode cX5_waysOf 33 = .ok (.iload_n 3, 1) := by decide +kernel
theorem dX5_waysOf_34 : decode cX5_waysOf 34 = .ok (.invokevirtual 83, 3) := by decide +kernel
theorem dX5_waysOf_37 : decode cX5_waysOf 37 = .ok (.ifCond .eq 7, 3) := by decide +kernel
theorem dX5_waysOf_40 : decode cX5_waysOf 40 = .ok (.iconst 1, 1) := by decide +kernel
theorem dX5_waysOf_41 : decode cX5_waysOf 41 = .ok (.goto 4, 3) := by decide +kernel
theorem dX5_waysOf_44 : decode cX5_waysOf 44 = .ok (.iconst 0, 1) := by decide +kernel
theorem dX5_waysOf_45 : decode cX5_waysOf 45 = .ok (.iadd, 1) := by decide +kernel
theorem dX5_waysOf_46 : decode cX5_waysOf 46 = .ok (.istore_n 2, 1) := by decide +kernel
theorem dX5_waysOf_47 : decode cX5_waysOf 47 = .ok (.iinc 3 1, 3) := by decide +kernel
theorem dX5_waysOf_50 : decode cX5_waysOf 50 = .ok (.goto (-46), 3) := by decide +kernel
theorem dX5_waysOf_53 : decode cX5_waysOf 53 = .ok (.iload_n 2, 1) := by decide +kernel
theorem dX5_waysOf_54 : decode cX5_waysOf 54 = .ok (.ireturn, 1) := by decide +kernel
theorem dX5_ways_0 : decode cX5_ways 0 = .ok (.aload_n 0, 1) := by decide +kernel
theorem dX5_ways_1 : decode cX5_ways 1 = .ok (.iload_n 1, 1) := by decide +kernel
theorem dX5_ways_2 : decode cX5_ways 2 = .ok (.invokevirtual 92, 3) := by decide +kernel
theorem dX5_ways_5 : decode cX5_ways 5 = .ok (.ifCond .eq 15, 3) := by decide +kernel
theorem dX5_ways_8 : decode cX5_ways 8 = .ok (.aload_n 0, 1) := by decide +kernel
theorem dX5_ways_9 : decode cX5_ways 9 = .ok (.aload_n 0, 1) := by decide +kernel
theorem dX5_ways_10 : decode cX5_ways 10 = .ok (.iload_n 1, 1) := by decide +kernel
theorem dX5_ways_11 : decode cX5_ways 11 = .ok (.invokevirtual 129, 3) := by decide +kernel
theorem dX5_ways_14 : decode cX5_ways 14 = .ok (.invokevirtual 37, 3) := by decide +kernel
theorem dX5_ways_17 : decode cX5_ways 17 = .ok (.goto 8, 3) := by decide +kernel
theorem dX5_ways_20 : decode cX5_ways 20 = .ok (.aload_n 0, 1) := by decide +kernel
theorem dX5_ways_21 : decode cX5_ways 21 = .ok (.iconst 1, 1) := by decide +kernel
theorem dX5_ways_22 : decode cX5_ways 22 = .ok (.invokevirtual 62, 3) := by decide +kernel
theorem dX5_ways_25 : decode cX5_ways 25 = .ok (.ireturn, 1) := by decide +kernel
theorem dX5_beats_0 : decode cX5_beats 0 = .ok (.iload_n 1, 1) := by decide +kernel
theorem dX5_beats_1 : decode cX5_beats 1 = .ok (.iconst 0, 1) := by decide +kernel
theorem dX5_beats_2 : decode cX5_beats 2 = .ok (.iconst 1, 1) := by decide +kernel
theorem dX5_beats_3 : decode cX5_beats 3 = .ok (.aload_n 0, 1) := by decide +kernel
theorem dX5_beats_4 : decode cX5_beats 4 = .ok (.invokevirtual 44, 3) := by decide +kernel
theorem dX5_beats_7 : decode cX5_beats 7 = .ok (.ishl, 1) := by decide +kernel
theorem dX5_beats_8 : decode cX5_beats 8 = .ok (.iconst 1, 1) := by decide +kernel
theorem dX5_beats_9 : decode cX5_beats 9 = .ok (.isub, 1) := by decide +kernel
theorem dX5_beats_10 : decode cX5_beats 10 = .ok (.invokestatic 48, 3) := by decide +kernel
theorem dX5_beats_13 : decode cX5_beats 13 = .ok (.istore_n 2, 1) := by decide +kernel
theorem dX5_beats_14 : decode cX5_beats 14 = .ok (.iload_n 2, 1) := by decide +kernel
theorem dX5_beats_15 : decode cX5_beats 15 = .ok (.ifCond .ne 11, 3) := by decide +kernel
theorem dX5_beats_18 : decode cX5_beats 18 = .ok (.aload_n 0, 1) := by decide +kernel
theorem dX5_beats_19 : decode cX5_beats 19 = .ok (.iconst 1, 1) := by decide +kernel
theorem dX5_beats_20 : decode cX5_beats 20 = .ok (.invokevirtual 62, 3) := by decide +kernel
theorem dX5_beats_23 : decode cX5_beats 23 = .ok (.pop, 1) := by decide +kernel
theorem dX5_beats_24 : decode cX5_beats 24 = .ok (.iconst 0, 1) := by decide +kernel
theorem dX5_beats_25 : decode cX5_beats 25 = .ok (.ireturn, 1) := by decide +kernel
theorem dX5_beats_26 : decode cX5_beats 26 = .ok (.aload_n 0, 1) := by decide +kernel
theorem dX5_beats_27 : decode cX5_beats 27 = .ok (.invokevirtual 98, 3) := by decide +kernel
theorem dX5_beats_30 : decode cX5_beats 30 = .ok (.aload_n 0, 1) := by decide +kernel
theorem dX5_beats_31 : decode cX5_beats 31 = .ok (.aload_n 0, 1) := by decide +kernel
theorem dX5_beats_32 : decode cX5_beats 32 = .ok (.iload_n 1, 1) := by decide +kernel
theorem dX5_beats_33 : decode cX5_beats 33 = .ok (.invokevirtual 101, 3) := by decide +kernel
theorem dX5_beats_36 : decode cX5_beats 36 = .ok (.invokevirtual 132, 3) := by decide +kernel
theorem dX5_beats_39 : decode cX5_beats 39 = .ok (.ireturn, 1) := by decide +kernel
theorem dX5_answer_0 : decode cX5_answer 0 = .ok (.aload_n 0, 1) := by decide +kernel
theorem dX5_answer_1 : decode cX5_answer 1 = .ok (.iload_n 1, 1) := by decide +kernel
theorem dX5_answer_2 : decode cX5_answer 2 = .ok (.invokevirtual 110, 3) := by decide +kernel
theorem dX5_answer_5 : decode cX5_answer 5 = .ok (.ifCond .ne 9, 3) := by decide +kernel
theorem dX5_answer_8 : decode cX5_answer 8 = .ok (.aload_n 0, 1) := by decide +kernel
theorem dX5_answer_9 : decode cX5_answer 9 = .ok (.iconst 1, 1) := by decide +kernel
theorem dX5_answer_10 : decode cX5_answer 10 = .ok (.invokevirtual 62, 3) := by decide +kernel
theorem dX5_answer_13 : decode cX5_answer 13 = .ok (.ireturn, 1) := by decide +kernel
theorem dX5_answer_14 : decode cX5_answer 14 = .ok (.aload_n 0, 1) := by decide +kernel
theorem dX5_answer_15 : decode cX5_answer 15 = .ok (.iload_n 1, 1) := by decide +kernel
theorem dX5_answer_16 : decode cX5_answer 16 = .ok (.invokevirtual 86, 3) := by decide +kernel
theorem dX5_answer_19 : decode cX5_answer 19 = .ok (.ifCond .ne 11, 3) := by decide +kernel
theorem dX5_answer_22 : decode cX5_answer 22 = .ok (.aload_n 0, 1) := by decide +kernel
theorem dX5_answer_23 : decode cX5_answer 23 = .ok (.iload_n 2, 1) := by decide +kernel
theorem dX5_answer_24 : decode cX5_answer 24 = .ok (.invokevirtual 92, 3) := by decide +kernel
theorem dX5_answer_27 : decode cX5_answer 27 = .ok (.ifCond .ne 9, 3) := by decide +kernel
theorem dX5_answer_30 : decode cX5_answer 30 = .ok (.aload_n 0, 1) := by decide +kernel
theorem dX5_answer_31 : decode cX5_answer 31 = .ok (.iconst 2, 1) := by decide +kernel
theorem dX5_answer_32 : decode cX5_answer 32 = .ok (.invokevirtual 62, 3) := by decide +kernel
theorem dX5_answer_35 : decode cX5_answer 35 = .ok (.ireturn, 1) := by decide +kernel
theorem dX5_answer_36 : decode cX5_answer 36 = .ok (.aload_n 0, 1) := by decide +kernel
theorem dX5_answer_37 : decode cX5_answer 37 = .ok (.invokevirtual 98, 3) := by decide +kernel
theorem dX5_answer_40 : decode cX5_answer 40 = .ok (.aload_n 0, 1) := by decide +kernel
theorem dX5_answer_41 : decode cX5_answer 41 = .ok (.aload_n 0, 1) := by decide +kernel
theorem dX5_answer_42 : decode cX5_answer 42 = .ok (.aload_n 0, 1) := by decide +kernel
theorem dX5_answer_43 : decode cX5_answer 43 = .ok (.getfield 7, 3) := by decide +kernel
theorem dX5_answer_46 : decode cX5_answer 46 = .ok (.iconst 3, 1) := by decide +kernel
theorem dX5_answer_47 : decode cX5_answer 47 = .ok (.iaload, 1) := by decide +kernel
theorem dX5_answer_48 : decode cX5_answer 48 = .ok (.invokevirtual 101, 3) := by decide +kernel
theorem dX5_answer_51 : decode cX5_answer 51 = .ok (.ifCond .eq 15, 3) := by decide +kernel
theorem dX5_answer_54 : decode cX5_answer 54 = .ok (.aload_n 0, 1) := by decide +kernel
theorem dX5_answer_55 : decode cX5_answer 55 = .ok (.iload_n 2, 1) := by decide +kernel
theorem dX5_answer_56 : decode cX5_answer 56 = .ok (.invokevirtual 104, 3) := by decide +kernel
theorem dX5_answer_59 : decode cX5_answer 59 = .ok (.iload_n 1, 1) := by decide +kernel
theorem dX5_answer_60 : decode cX5_answer 60 = .ok (.ishr, 1) := by decide +kernel
theorem dX5_answer_61 : decode cX5_answer 61 = .ok (.iconst 1, 1) := by decide +kernel
theorem dX5_answer_62 : decode cX5_answer 62 = .ok (.iand, 1) := by decide +kernel
theorem dX5_answer_63 : decode cX5_answer 63 = .ok (.goto 4, 3) := by decide +kernel
theorem dX5_answer_66 : decode cX5_answer 66 = .ok (.iconst (-1), 1) := by decide +kernel
theorem dX5_answer_67 : decode cX5_answer 67 = .ok (.invokevirtual 37, 3) := by decide +kernel
theorem dX5_answer_70 : decode cX5_answer 70 = .ok (.ireturn, 1) := by decide +kernel
theorem dX5_copiesOfAll_0 : decode cX5_copiesOfAll 0 = .ok (.iconst 0, 1) := by decide +kernel
theorem dX5_copiesOfAll_1 : decode cX5_copiesOfAll 1 = .ok (.istore_n 1, 1) := by decide +kernel
theorem dX5_copiesOfAll_2 : decode cX5_copiesOfAll 2 = .ok (.iconst 0, 1) := by decide +kernel
theorem dX5_copiesOfAll_3 : decode cX5_copiesOfAll 3 = .ok (.istore_n 2, 1) := by decide +kernel
theorem dX5_copiesOfAll_4 : decode cX5_copiesOfAll 4 = .ok (.iload_n 2, 1) := by decide +kernel
theorem dX5_copiesOfAll_5 : decode cX5_copiesOfAll 5 = .ok (.aload_n 0, 1) := by decide +kernel
theorem dX5_copiesOfAll_6 : decode cX5_copiesOfAll 6 = .ok (.getfield 7, 3) := by decide +kernel
theorem dX5_copiesOfAll_9 : decode cX5_copiesOfAll 9 = .ok (.iconst 0, 1) := by decide +kernel
theorem dX5_copiesOfAll_10 : decode cX5_copiesOfAll 10 = .ok (.iaload, 1) := by decide +kernel
theorem dX5_copiesOfAll_11 : decode cX5_copiesOfAll 11 = .ok (.if_icmp .ge 98, 3) := by decide +kernel
theorem dX5_copiesOfAll_14 : decode cX5_copiesOfAll 14 = .ok (.aload_n 0, 1) := by decide +kernel
theorem dX5_copiesOfAll_15 : decode cX5_copiesOfAll 15 = .ok (.getfield 7, 3) := by decide +kernel
theorem dX5_copiesOfAll_18 : decode cX5_copiesOfAll 18 = .ok (.iconst 1, 1) := by decide +kernel
theorem dX5_copiesOfAll_19 : decode cX5_copiesOfAll 19 = .ok (.iaload, 1) := by decide +kernel
theorem dX5_copiesOfAll_20 : decode cX5_copiesOfAll 20 = .ok (.iconst 1, 1) := by decide +kernel
theorem dX5_copiesOfAll_21 : decode cX5_copiesOfAll 21 = .ok (.iload_n 2, 1) := by decide +kernel
theorem dX5_copiesOfAll_22 : decode cX5_copiesOfAll 22 = .ok (.ishl, 1) := by decide +kernel
theorem dX5_copiesOfAll_23 : decode cX5_copiesOfAll 23 = .ok (.iconst 1, 1) := by decide +kernel
theorem dX5_copiesOfAll_24 : decode cX5_copiesOfAll 24 = .ok (.isub, 1) := by decide +kernel
theorem dX5_copiesOfAll_25 : decode cX5_copiesOfAll 25 = .ok (.iand, 1) := by decide +kernel
theorem dX5_copiesOfAll_26 : decode cX5_copiesOfAll 26 = .ok (.invokestatic 41, 3) := by decide +kernel
theorem dX5_copiesOfAll_29 : decode cX5_copiesOfAll 29 = .ok (.istore_n 3, 1) := by decide +kernel
theorem dX5_copiesOfAll_30 : decode cX5_copiesOfAll 30 = .ok (.iconst 0, 1) := by decide +kernel
theorem dX5_copiesOfAll_31 : decode cX5_copiesOfAll 31 = .ok (.istore 4, 2) := by decide +kernel
theorem dX5_copiesOfAll_33 : decode cX5_copiesOfAll 33 = .ok (.iconst 0, 1) := by decide +kernel
theorem dX5_copiesOfAll_34 : decode cX5_copiesOfAll 34 = .ok (.istore 5, 2) := by decide +kernel
theorem dX5_copiesOfAll_36 : decode cX5_copiesOfAll 36 = .ok (.iload 5, 2) := by decide +kernel
theorem dX5_copiesOfAll_38 : decode cX5_copiesOfAll 38 = .ok (.bipush 8, 2) := by decide +kernel
theorem dX5_copiesOfAll_40 : decode cX5_copiesOfAll 40 = .ok (.if_icmp .ge 43, 3) := by decide +kernel
theorem dX5_copiesOfAll_43 : decode cX5_copiesOfAll 43 = .ok (.iload 4, 2) := by decide +kernel
theorem dX5_copiesOfAll_45 : decode cX5_copiesOfAll 45 = .ok (.aload_n 0, 1) := by decide +kernel
theorem dX5_copiesOfAll_46 : decode cX5_copiesOfAll 46 = .ok (.getfield 7, 3) := by decide +kernel
theorem dX5_copiesOfAll_49 : decode cX5_copiesOfAll 49 = .ok (.iconst 3, 1) := by decide +kernel
theorem dX5_copiesOfAll_50 : decode cX5_copiesOfAll 50 = .ok (.iaload, 1) := by decide +kernel
theorem dX5_copiesOfAll_51 : decode cX5_copiesOfAll 51 = .ok (.iload 5, 2) := by decide +kernel
theorem dX5_copiesOfAll_53 : decode cX5_copiesOfAll 53 = .ok (.ishr, 1) := by decide +kernel
theorem dX5_copiesOfAll_54 : decode cX5_copiesOfAll 54 = .ok (.iconst 1, 1) := by decide +kernel
theorem dX5_copiesOfAll_55 : decode cX5_copiesOfAll 55 = .ok (.iand, 1) := by decide +kernel
theorem dX5_copiesOfAll_56 : decode cX5_copiesOfAll 56 = .ok (.iconst 1, 1) := by decide +kernel
theorem dX5_copiesOfAll_57 : decode cX5_copiesOfAll 57 = .ok (.if_icmp .ne 16, 3) := by decide +kernel
theorem dX5_copiesOfAll_60 : decode cX5_copiesOfAll 60 = .ok (.iconst 1, 1) := by decide +kernel
theorem dX5_copiesOfAll_61 : decode cX5_copiesOfAll 61 = .ok (.iload 5, 2) := by decide +kernel
theorem dX5_copiesOfAll_63 : decode cX5_copiesOfAll 63 = .ok (.iconst 1, 1) := by decide +kernel
theorem dX5_copiesOfAll_64 : decode cX5_copiesOfAll 64 = .ok (.iload_n 3, 1) := by decide +kernel
theorem dX5_copiesOfAll_65 : decode cX5_copiesOfAll 65 = .ok (.ishl, 1) := by decide +kernel
theorem dX5_copiesOfAll_66 : decode cX5_copiesOfAll 66 = .ok (.iconst 1, 1) := by decide +kernel
theorem dX5_copiesOfAll_67 : decode cX5_copiesOfAll 67 = .ok (.isub, 1) := by decide +kernel
theorem dX5_copiesOfAll_68 : decode cX5_copiesOfAll 68 = .ok (.iand, 1) := by decide +kernel
theorem dX5_copiesOfAll_69 : decode cX5_copiesOfAll 69 = .ok (.ishl, 1) := by decide +kernel
theorem dX5_copiesOfAll_70 : decode cX5_copiesOfAll 70 = .ok (.goto 4, 3) := by decide +kernel
theorem dX5_copiesOfAll_73 : decode cX5_copiesOfAll 73 = .ok (.iconst 0, 1) := by decide +kernel
theorem dX5_copiesOfAll_74 : decode cX5_copiesOfAll 74 = .ok (.ior, 1) := by decide +kernel
theorem dX5_copiesOfAll_75 : decode cX5_copiesOfAll 75 = .ok (.istore 4, 2) := by decide +kernel
theorem dX5_copiesOfAll_77 : decode cX5_copiesOfAll 77 = .ok (.iinc 5 1, 3) := by decide +kernel
theorem dX5_copiesOfAll_80 : decode cX5_copiesOfAll 80 = .ok (.goto (-44), 3) := by decide +kernel
theorem dX5_copiesOfAll_83 : decode cX5_copiesOfAll 83 = .ok (.iload_n 1, 1) := by decide +kernel
theorem dX5_copiesOfAll_84 : decode cX5_copiesOfAll 84 = .ok (.aload_n 0, 1) := by decide +kernel
theorem dX5_copiesOfAll_85 : decode cX5_copiesOfAll 85 = .ok (.iload_n 2, 1) := by decide +kernel
theorem dX5_copiesOfAll_86 : decode cX5_copiesOfAll 86 = .ok (.invokevirtual 86, 3) := by decide +kernel
theorem dX5_copiesOfAll_89 : decode cX5_copiesOfAll 89 = .ok (.ifCond .eq 7, 3) := by decide +kernel
theorem dX5_copiesOfAll_92 : decode cX5_copiesOfAll 92 = .ok (.iconst 0, 1) := by decide +kernel
theorem dX5_copiesOfAll_93 : decode cX5_copiesOfAll 93 = .ok (.goto 8, 3) := by decide +kernel
theorem dX5_copiesOfAll_96 : decode cX5_copiesOfAll 96 = .ok (.iload 4, 2) := by decide +kernel
theorem dX5_copiesOfAll_98 : decode cX5_copiesOfAll 98 = .ok (.invokestatic 41, 3) := by decide +kernel
theorem dX5_copiesOfAll_101 : decode cX5_copiesOfAll 101 = .ok (.iadd, 1) := by decide +kernel
theorem dX5_copiesOfAll_102 : decode cX5_copiesOfAll 102 = .ok (.istore_n 1, 1) := by decide +kernel
theorem dX5_copiesOfAll_103 : decode cX5_copiesOfAll 103 = .ok (.iinc 2 1, 3) := by decide +kernel
theorem dX5_copiesOfAll_106 : decode cX5_copiesOfAll 106 = .ok (.goto (-102), 3) := by decide +kernel
theorem dX5_copiesOfAll_109 : decode cX5_copiesOfAll 109 = .ok (.iload_n 1, 1) := by decide +kernel
theorem dX5_copiesOfAll_110 : decode cX5_copiesOfAll 110 = .ok (.ireturn, 1) := by decide +kernel
theorem dX5_copies_0 : decode cX5_copies 0 = .ok (.aload_n 0, 1) := by decide +kernel
theorem dX5_copies_1 : decode cX5_copies 1 = .ok (.aload_n 0, 1) := by decide +kernel
theorem dX5_copies_2 : decode cX5_copies 2 = .ok (.invokevirtual 135, 3) := by decide +kernel
theorem dX5_copies_5 : decode cX5_copies 5 = .ok (.invokevirtual 37, 3) := by decide +kernel
theorem dX5_copies_8 : decode cX5_copies 8 = .ok (.ireturn, 1) := by decide +kernel
theorem dX5_least_0 : decode cX5_least 0 = .ok (.aload_n 0, 1) := by decide +kernel
theorem dX5_least_1 : decode cX5_least 1 = .ok (.invokevirtual 98, 3) := by decide +kernel
theorem dX5_least_4 : decode cX5_least 4 = .ok (.iconst (-1), 1) := by decide +kernel
theorem dX5_least_5 : decode cX5_least 5 = .ok (.istore_n 1, 1) := by decide +kernel
theorem dX5_least_6 : decode cX5_least 6 = .ok (.iconst 1, 1) := by decide +kernel
theorem dX5_least_7 : decode cX5_least 7 = .ok (.istore_n 2, 1) := by decide +kernel
theorem dX5_least_8 : decode cX5_least 8 = .ok (.iload_n 2, 1) := by decide +kernel
theorem dX5_least_9 : decode cX5_least 9 = .ok (.iconst 1, 1) := by decide +kernel
theorem dX5_least_10 : decode cX5_least 10 = .ok (.aload_n 0, 1) := by decide +kernel
theorem dX5_least_11 : decode cX5_least 11 = .ok (.invokevirtual 44, 3) := by decide +kernel
theorem dX5_least_14 : decode cX5_least 14 = .ok (.ishl, 1) := by decide +kernel
theorem dX5_least_15 : decode cX5_least 15 = .ok (.if_icmp .ge 48, 3) := by decide +kernel
theorem dX5_least_18 : decode cX5_least 18 = .ok (.iload_n 1, 1) := by decide +kernel
theorem dX5_least_19 : decode cX5_least 19 = .ok (.ifCond .lt 14, 3) := by decide +kernel
theorem dX5_least_22 : decode cX5_least 22 = .ok (.iload_n 2, 1) := by decide +kernel
theorem dX5_least_23 : decode cX5_least 23 = .ok (.invokestatic 41, 3) := by decide +kernel
theorem dX5_least_26 : decode cX5_least 26 = .ok (.iload_n 1, 1) := by decide +kernel
theorem dX5_least_27 : decode cX5_least 27 = .ok (.invokestatic 41, 3) := by decide +kernel
theorem dX5_least_30 : decode cX5_least 30 = .ok (.if_icmp .ge 7, 3) := by decide +kernel
theorem dX5_least_33 : decode cX5_least 33 = .ok (.iconst 1, 1) := by decide +kernel
theorem dX5_least_34 : decode cX5_least 34 = .ok (.goto 4, 3) := by decide +kernel
theorem dX5_least_37 : decode cX5_least 37 = .ok (.iconst 0, 1) := by decide +kernel
theorem dX5_least_38 : decode cX5_least 38 = .ok (.istore_n 3, 1) := by decide +kernel
theorem dX5_least_39 : decode cX5_least 39 = .ok (.iload_n 3, 1) := by decide +kernel
theorem dX5_least_40 : decode cX5_least 40 = .ok (.ifCond .eq 15, 3) := by decide +kernel
theorem dX5_least_43 : decode cX5_least 43 = .ok (.aload_n 0, 1) := by decide +kernel
theorem dX5_least_44 : decode cX5_least 44 = .ok (.iload_n 2, 1) := by decide +kernel
theorem dX5_least_45 : decode cX5_least 45 = .ok (.invokevirtual 101, 3) := by decide +kernel
theorem dX5_least_48 : decode cX5_least 48 = .ok (.ifCond .ne 7, 3) := by decide +kernel
theorem dX5_least_51 : decode cX5_least 51 = .ok (.iload_n 2, 1) := by decide +kernel
theorem dX5_least_52 : decode cX5_least 52 = .ok (.goto 4, 3) := by decide +kernel
theorem dX5_least_55 : decode cX5_least 55 = .ok (.iload_n 1, 1) := by decide +kernel
theorem dX5_least_56 : decode cX5_least 56 = .ok (.istore_n 1, 1) := by decide +kernel
theorem dX5_least_57 : decode cX5_least 57 = .ok (.iinc 2 1, 3) := by decide +kernel
theorem dX5_least_60 : decode cX5_least 60 = .ok (.goto (-52), 3) := by decide +kernel
theorem dX5_least_63 : decode cX5_least 63 = .ok (.iload_n 1, 1) := by decide +kernel
theorem dX5_least_64 : decode cX5_least 64 = .ok (.ireturn, 1) := by decide +kernel
theorem dX5_leastProof_0 : decode cX5_leastProof 0 = .ok (.aload_n 0, 1) := by decide +kernel
theorem dX5_leastProof_1 : decode cX5_leastProof 1 = .ok (.invokevirtual 138, 3) := by decide +kernel
theorem dX5_leastProof_4 : decode cX5_leastProof 4 = .ok (.istore_n 1, 1) := by decide +kernel
theorem dX5_leastProof_5 : decode cX5_leastProof 5 = .ok (.aload_n 0, 1) := by decide +kernel
theorem dX5_leastProof_6 : decode cX5_leastProof 6 = .ok (.iload_n 1, 1) := by decide +kernel
theorem dX5_leastProof_7 : decode cX5_leastProof 7 = .ok (.ifCond .ge 7, 3) := by decide +kernel
theorem dX5_leastProof_10 : decode cX5_leastProof 10 = .ok (.iconst (-1), 1) := by decide +kernel
theorem dX5_leastProof_11 : decode cX5_leastProof 11 = .ok (.goto 7, 3) := by decide +kernel
theorem dX5_leastProof_14 : decode cX5_leastProof 14 = .ok (.iload_n 1, 1) := by decide +kernel
theorem dX5_leastProof_15 : decode cX5_leastProof 15 = .ok (.invokestatic 41, 3) := by decide +kernel
theorem dX5_leastProof_18 : decode cX5_leastProof 18 = .ok (.invokevirtual 37, 3) := by decide +kernel
theorem dX5_leastProof_21 : decode cX5_leastProof 21 = .ok (.ireturn, 1) := by decide +kernel
theorem dX5_proof_0 : decode cX5_proof 0 = .ok (.aload_n 0, 1) := by decide +kernel
theorem dX5_proof_1 : decode cX5_proof 1 = .ok (.aload_n 0, 1) := by decide +kernel
theorem dX5_proof_2 : decode cX5_proof 2 = .ok (.invokevirtual 138, 3) := by decide +kernel
theorem dX5_proof_5 : decode cX5_proof 5 = .ok (.invokevirtual 37, 3) := by decide +kernel
theorem dX5_proof_8 : decode cX5_proof 8 = .ok (.ireturn, 1) := by decide +kernel
theorem dX5_hope_0 : decode cX5_hope 0 = .ok (.aload_n 0, 1) := by decide +kernel
theorem dX5_hope_1 : decode cX5_hope 1 = .ok (.iconst 0, 1) := by decide +kernel
theorem dX5_hope_2 : decode cX5_hope 2 = .ok (.putfield 30, 3) := by decide +kernel
theorem dX5_hope_5 : decode cX5_hope 5 = .ok (.iconst 0, 1) := by decide +kernel
theorem dX5_hope_6 : decode cX5_hope 6 = .ok (.istore_n 1, 1) := by decide +kernel
theorem dX5_hope_7 : decode cX5_hope 7 = .ok (.iconst 0, 1) := by decide +kernel
theorem dX5_hope_8 : decode cX5_hope 8 = .ok (.istore_n 2, 1) := by decide +kernel
theorem dX5_hope_9 : decode cX5_hope 9 = .ok (.iload_n 2, 1) := by decide +kernel
theorem dX5_hope_10 : decode cX5_hope 10 = .ok (.aload_n 0, 1) := by decide +kernel
theorem dX5_hope_11 : decode cX5_hope 11 = .ok (.invokevirtual 44, 3) := by decide +kernel
theorem dX5_hope_14 : decode cX5_hope 14 = .ok (.if_icmp .ge 25, 3) := by decide +kernel
theorem dX5_hope_17 : decode cX5_hope 17 = .ok (.iload_n 1, 1) := by decide +kernel
theorem dX5_hope_18 : decode cX5_hope 18 = .ok (.aload_n 0, 1) := by decide +kernel
theorem dX5_hope_19 : decode cX5_hope 19 = .ok (.iload_n 2, 1) := by decide +kernel
theorem dX5_hope_20 : decode cX5_hope 20 = .ok (.invokevirtual 129, 3) := by decide +kernel
theorem dX5_hope_23 : decode cX5_hope 23 = .ok (.ifCond .le 7, 3) := by decide +kernel
theorem dX5_hope_26 : decode cX5_hope 26 = .ok (.iconst 1, 1) := by decide +kernel
theorem dX5_hope_27 : decode cX5_hope 27 = .ok (.goto 4, 3) := by decide +kernel
theorem dX5_hope_30 : decode cX5_hope 30 = .ok (.iconst 0, 1) := by decide +kernel
theorem dX5_hope_31 : decode cX5_hope 31 = .ok (.iadd, 1) := by decide +kernel
theorem dX5_hope_32 : decode cX5_hope 32 = .ok (.istore_n 1, 1) := by decide +kernel
theorem dX5_hope_33 : decode cX5_hope 33 = .ok (.iinc 2 1, 3) := by decide +kernel
theorem dX5_hope_36 : decode cX5_hope 36 = .ok (.goto (-27), 3) := by decide +kernel
theorem dX5_hope_39 : decode cX5_hope 39 = .ok (.iload_n 1, 1) := by decide +kernel
theorem dX5_hope_40 : decode cX5_hope 40 = .ok (.i2d, 1) := by decide +kernel
theorem dX5_hope_41 : decode cX5_hope 41 = .ok (.aload_n 0, 1) := by decide +kernel
theorem dX5_hope_42 : decode cX5_hope 42 = .ok (.invokevirtual 44, 3) := by decide +kernel
theorem dX5_hope_45 : decode cX5_hope 45 = .ok (.i2d, 1) := by decide +kernel
theorem dX5_hope_46 : decode cX5_hope 46 = .ok (.ddiv, 1) := by decide +kernel
theorem dX5_hope_47 : decode cX5_hope 47 = .ok (.dreturn, 1) := by decide +kernel
theorem dX5_append_0 : decode cX5_append 0 = .ok (.iload_n 1, 1) := by decide +kernel
theorem dX5_append_1 : decode cX5_append 1 = .ok (.iconst 0, 1) := by decide +kernel
theorem dX5_append_2 : decode cX5_append 2 = .ok (.bipush 127, 2) := by decide +kernel
theorem dX5_append_4 : decode cX5_append 4 = .ok (.invokestatic 48, 3) := by decide +kernel
theorem dX5_append_7 : decode cX5_append 7 = .ok (.ifCond .ne 9, 3) := by decide +kernel
theorem dX5_append_10 : decode cX5_append 10 = .ok (.aload_n 0, 1) := by decide +kernel
theorem dX5_append_11 : decode cX5_append 11 = .ok (.iconst 1, 1) := by decide +kernel
theorem dX5_append_12 : decode cX5_append 12 = .ok (.invokevirtual 62, 3) := by decide +kernel
theorem dX5_append_15 : decode cX5_append 15 = .ok (.ireturn, 1) := by decide +kernel
theorem dX5_append_16 : decode cX5_append 16 = .ok (.aload_n 0, 1) := by decide +kernel
theorem dX5_append_17 : decode cX5_append 17 = .ok (.getfield 141, 3) := by decide +kernel
theorem dX5_append_20 : decode cX5_append 20 = .ok (.bipush 100, 2) := by decide +kernel
theorem dX5_append_22 : decode cX5_append 22 = .ok (.if_icmp .ne 9, 3) := by decide +kernel
theorem dX5_append_25 : decode cX5_append 25 = .ok (.aload_n 0, 1) := by decide +kernel
theorem dX5_append_26 : decode cX5_append 26 = .ok (.iconst 2, 1) := by decide +kernel
theorem dX5_append_27 : decode cX5_append 27 = .ok (.invokevirtual 62, 3) := by decide +kernel
theorem dX5_append_30 : decode cX5_append 30 = .ok (.ireturn, 1) := by decide +kernel
theorem dX5_append_31 : decode cX5_append 31 = .ok (.aload_n 0, 1) := by decide +kernel
theorem dX5_append_32 : decode cX5_append 32 = .ok (.getfield 19, 3) := by decide +kernel
theorem dX5_append_35 : decode cX5_append 35 = .ok (.aload_n 0, 1) := by decide +kernel
theorem dX5_append_36 : decode cX5_append 36 = .ok (.getfield 141, 3) := by decide +kernel
theorem dX5_append_39 : decode cX5_append 39 = .ok (.iload_n 1, 1) := by decide +kernel
theorem dX5_append_40 : decode cX5_append 40 = .ok (.i2b, 1) := by decide +kernel
theorem dX5_append_41 : decode cX5_append 41 = .ok (.bastore, 1) := by decide +kernel
theorem dX5_append_42 : decode cX5_append 42 = .ok (.aload_n 0, 1) := by decide +kernel
theorem dX5_append_43 : decode cX5_append 43 = .ok (.dup, 1) := by decide +kernel
theorem dX5_append_44 : decode cX5_append 44 = .ok (.getfield 141, 3) := by decide +kernel
theorem dX5_append_47 : decode cX5_append 47 = .ok (.iconst 1, 1) := by decide +kernel
theorem dX5_append_48 : decode cX5_append 48 = .ok (.iadd, 1) := by decide +kernel
theorem dX5_append_49 : decode cX5_append 49 = .ok (.putfield 141, 3) := by decide +kernel
theorem dX5_append_52 : decode cX5_append 52 = .ok (.aload_n 0, 1) := by decide +kernel
theorem dX5_append_53 : decode cX5_append 53 = .ok (.aload_n 0, 1) := by decide +kernel
theorem dX5_append_54 : decode cX5_append 54 = .ok (.getfield 141, 3) := by decide +kernel
theorem dX5_append_57 : decode cX5_append 57 = .ok (.invokevirtual 37, 3) := by decide +kernel
theorem dX5_append_60 : decode cX5_append 60 = .ok (.ireturn, 1) := by decide +kernel
theorem dX5_clearText_0 : decode cX5_clearText 0 = .ok (.aload_n 0, 1) := by decide +kernel
theorem dX5_clearText_1 : decode cX5_clearText 1 = .ok (.getfield 141, 3) := by decide +kernel
theorem dX5_clearText_4 : decode cX5_clearText 4 = .ok (.istore_n 1, 1) := by decide +kernel
theorem dX5_clearText_5 : decode cX5_clearText 5 = .ok (.aload_n 0, 1) := by decide +kernel
theorem dX5_clearText_6 : decode cX5_clearText 6 = .ok (.iconst 0, 1) := by decide +kernel
theorem dX5_clearText_7 : decode cX5_clearText 7 = .ok (.putfield 141, 3) := by decide +kernel
theorem dX5_clearText_10 : decode cX5_clearText 10 = .ok (.aload_n 0, 1) := by decide +kernel
theorem dX5_clearText_11 : decode cX5_clearText 11 = .ok (.iload_n 1, 1) := by decide +kernel
theorem dX5_clearText_12 : decode cX5_clearText 12 = .ok (.invokevirtual 37, 3) := by decide +kernel
theorem dX5_clearText_15 : decode cX5_clearText 15 = .ok (.ireturn, 1) := by decide +kernel
theorem dX5_sign_0 : decode cX5_sign 0 = .ok (.aload_n 0, 1) := by decide +kernel
theorem dX5_sign_1 : decode cX5_sign 1 = .ok (.getfield 144, 3) := by decide +kernel
theorem dX5_sign_4 : decode cX5_sign 4 = .ok (.aload_n 0, 1) := by decide +kernel
theorem dX5_sign_5 : decode cX5_sign 5 = .ok (.getfield 141, 3) := by decide +kernel
theorem dX5_sign_8 : decode cX5_sign 8 = .ok (.if_icmp .ge 15, 3) := by decide +kernel
theorem dX5_sign_11 : decode cX5_sign 11 = .ok (.aload_n 0, 1) := by decide +kernel
theorem dX5_sign_12 : decode cX5_sign 12 = .ok (.getfield 19, 3) := by decide +kernel
theorem dX5_sign_15 : decode cX5_sign 15 = .ok (.aload_n 0, 1) := by decide +kernel
theorem dX5_sign_16 : decode cX5_sign 16 = .ok (.getfield 144, 3) := by decide +kernel
theorem dX5_sign_19 : decode cX5_sign 19 = .ok (.baload, 1) := by decide +kernel
theorem dX5_sign_20 : decode cX5_sign 20 = .ok (.goto 4, 3) := by decide +kernel
theorem dX5_sign_23 : decode cX5_sign 23 = .ok (.iconst (-1), 1) := by decide +kernel
theorem dX5_sign_24 : decode cX5_sign 24 = .ok (.ireturn, 1) := by decide +kernel
theorem dX5_literals_0 : decode cX5_literals 0 = .ok (.aload_n 0, 1) := by decide +kernel
theorem dX5_literals_1 : decode cX5_literals 1 = .ok (.iconst 0, 1) := by decide +kernel
theorem dX5_literals_2 : decode cX5_literals 2 = .ok (.putfield 147, 3) := by decide +kernel
theorem dX5_literals_5 : decode cX5_literals 5 = .ok (.aload_n 0, 1) := by decide +kernel
theorem dX5_literals_6 : decode cX5_literals 6 = .ok (.iconst 0, 1) := by decide +kernel
theorem dX5_literals_7 : decode cX5_literals 7 = .ok (.putfield 150, 3) := by decide +kernel
theorem dX5_literals_10 : decode cX5_literals 10 = .ok (.aload_n 0, 1) := by decide +kernel
theorem dX5_literals_11 : decode cX5_literals 11 = .ok (.invokevirtual 153, 3) := by decide +kernel
theorem dX5_literals_14 : decode cX5_literals 14 = .ok (.bipush 97, 2) := by decide +kernel
theorem dX5_literals_16 : decode cX5_literals 16 = .ok (.bipush 105, 2) := by decide +kernel
theorem dX5_literals_18 : decode cX5_literals 18 = .ok (.invokestatic 48, 3) := by decide +kernel
theorem dX5_literals_21 : decode cX5_literals 21 = .ok (.ifCond .ne 12, 3) := by decide +kernel
theorem dX5_literals_24 : decode cX5_literals 24 = .ok (.aload_n 0, 1) := by decide +kernel
theorem dX5_literals_25 : decode cX5_literals 25 = .ok (.invokevirtual 153, 3) := by decide +kernel
theorem dX5_literals_28 : decode cX5_literals 28 = .ok (.bipush 45, 2) := by decide +kernel
theorem dX5_literals_30 : decode cX5_literals 30 = .ok (.if_icmp .ne 111, 3) := by decide +kernel
theorem dX5_literals_33 : decode cX5_literals 33 = .ok (.aload_n 0, 1) := by decide +kernel
theorem dX5_literals_34 : decode cX5_literals 34 = .ok (.invokevirtual 153, 3) := by decide +kernel
theorem dX5_literals_37 : decode cX5_literals 37 = .ok (.bipush 45, 2) := by decide +kernel
theorem dX5_literals_39 : decode cX5_literals 39 = .ok (.if_icmp .ne 7, 3) := by decide +kernel
theorem dX5_literals_42 : decode cX5_literals 42 = .ok (.iconst 1, 1) := by decide +kernel
theorem dX5_literals_43 : decode cX5_literals 43 = .ok (.goto 4, 3) := by decide +kernel
theorem dX5_literals_46 : decode cX5_literals 46 = .ok (.iconst 0, 1) := by decide +kernel
theorem dX5_literals_47 : decode cX5_literals 47 = .ok (.istore_n 1, 1) := by decide +kernel
theorem dX5_literals_48 : decode cX5_literals 48 = .ok (.aload_n 0, 1) := by decide +kernel
theorem dX5_literals_49 : decode cX5_literals 49 = .ok (.dup, 1) := by decide +kernel
theorem dX5_literals_50 : decode cX5_literals 50 = .ok (.getfield 144, 3) := by decide +kernel
theorem dX5_literals_53 : decode cX5_literals 53 = .ok (.iload_n 1, 1) := by decide +kernel
theorem dX5_literals_54 : decode cX5_literals 54 = .ok (.ifCond .eq 7, 3) := by decide +kernel
theorem dX5_literals_57 : decode cX5_literals 57 = .ok (.iconst 1, 1) := by decide +kernel
theorem dX5_literals_58 : decode cX5_literals 58 = .ok (.goto 4, 3) := by decide +kernel
theorem dX5_literals_61 : decode cX5_literals 61 = .ok (.iconst 0, 1) := by decide +kernel
theorem dX5_literals_62 : decode cX5_literals 62 = .ok (.iadd, 1) := by decide +kernel
theorem dX5_literals_63 : decode cX5_literals 63 = .ok (.putfield 144, 3) := by decide +kernel
theorem dX5_literals_66 : decode cX5_literals 66 = .ok (.aload_n 0, 1) := by decide +kernel
theorem dX5_literals_67 : decode cX5_literals 67 = .ok (.invokevirtual 153, 3) := by decide +kernel
theorem dX5_literals_70 : decode cX5_literals 70 = .ok (.bipush 97, 2) := by decide +kernel
theorem dX5_literals_72 : decode cX5_literals 72 = .ok (.bipush 105, 2) := by decide +kernel
theorem dX5_literals_74 : decode cX5_literals 74 = .ok (.invokestatic 48, 3) := by decide +kernel
theorem dX5_literals_77 : decode cX5_literals 77 = .ok (.ifCond .ne 5, 3) := by decide +kernel
theorem dX5_literals_80 : decode cX5_literals 80 = .ok (.iconst 0, 1) := by decide +kernel
theorem dX5_literals_81 : decode cX5_literals 81 = .ok (.ireturn, 1) := by decide +kernel
theorem dX5_literals_82 : decode cX5_literals 82 = .ok (.iconst 1, 1) := by decide +kernel
theorem dX5_literals_83 : decode cX5_literals 83 = .ok (.aload_n 0, 1) := by decide +kernel
theorem dX5_literals_84 : decode cX5_literals 84 = .ok (.invokevirtual 153, 3) := by decide +kernel
theorem dX5_literals_87 : decode cX5_literals 87 = .ok (.bipush 97, 2) := by decide +kernel
theorem dX5_literals_89 : decode cX5_literals 89 = .ok (.isub, 1) := by decide +kernel
theorem dX5_literals_90 : decode cX5_literals 90 = .ok (.ishl, 1) := by decide +kernel
theorem dX5_literals_91 : decode cX5_literals 91 = .ok (.istore_n 2, 1) := by decide +kernel
theorem dX5_literals_92 : decode cX5_literals 92 = .ok (.aload_n 0, 1) := by decide +kernel
theorem dX5_literals_93 : decode cX5_literals 93 = .ok (.dup, 1) := by decide +kernel
theorem dX5_literals_94 : decode cX5_literals 94 = .ok (.getfield 147, 3) := by decide +kernel
theorem dX5_literals_97 : decode cX5_literals 97 = .ok (.iload_n 1, 1) := by decide +kernel
theorem dX5_literals_98 : decode cX5_literals 98 = .ok (.ifCond .eq 7, 3) := by decide +kernel
theorem dX5_literals_101 : decode cX5_literals 101 = .ok (.iconst 0, 1) := by decide +kernel
theorem dX5_literals_102 : decode cX5_literals 102 = .ok (.goto 4, 3) := by decide +kernel
theorem dX5_literals_105 : decode cX5_literals 105 = .ok (.iload_n 2, 1) := by decide +kernel
theorem dX5_literals_106 : decode cX5_literals 106 = .ok (.ior, 1) := by decide +kernel
theorem dX5_literals_107 : decode cX5_literals 107 = .ok (.putfield 147, 3) := by decide +kernel
theorem dX5_literals_110 : decode cX5_literals 110 = .ok (.aload_n 0, 1) := by decide +kernel
theorem dX5_literals_111 : decode cX5_literals 111 = .ok (.dup, 1) := by decide +kernel
theorem dX5_literals_112 : decode cX5_literals 112 = .ok (.getfield 150, 3) := by decide +kernel
theorem dX5_literals_115 : decode cX5_literals 115 = .ok (.iload_n 1, 1) := by decide +kernel
theorem dX5_literals_116 : decode cX5_literals 116 = .ok (.ifCond .eq 7, 3) := by decide +kernel
theorem dX5_literals_119 : decode cX5_literals 119 = .ok (.iload_n 2, 1) := by decide +kernel
theorem dX5_literals_120 : decode cX5_literals 120 = .ok (.goto 4, 3) := by decide +kernel
theorem dX5_literals_123 : decode cX5_literals 123 = .ok (.iconst 0, 1) := by decide +kernel
theorem dX5_literals_124 : decode cX5_literals 124 = .ok (.ior, 1) := by decide +kernel
theorem dX5_literals_125 : decode cX5_literals 125 = .ok (.putfield 150, 3) := by decide +kernel
theorem dX5_literals_128 : decode cX5_literals 128 = .ok (.aload_n 0, 1) := by decide +kernel
theorem dX5_literals_129 : decode cX5_literals 129 = .ok (.dup, 1) := by decide +kernel
theorem dX5_literals_130 : decode cX5_literals 130 = .ok (.getfield 144, 3) := by decide +kernel
theorem dX5_literals_133 : decode cX5_literals 133 = .ok (.iconst 1, 1) := by decide +kernel
theorem dX5_literals_134 : decode cX5_literals 134 = .ok (.iadd, 1) := by decide +kernel
theorem dX5_literals_135 : decode cX5_literals 135 = .ok (.putfield 144, 3) := by decide +kernel
theorem dX5_literals_138 : decode cX5_literals 138 = .ok (.goto (-128), 3) := by decide +kernel
theorem dX5_literals_141 : decode cX5_literals 141 = .ok (.iconst 1, 1) := by decide +kernel
theorem dX5_literals_142 : decode cX5_literals 142 = .ok (.ireturn, 1) := by decide +kernel
theorem dX5_number__0 : decode cX5_number_ 0 = .ok (.aload_n 0, 1) := by decide +kernel
theorem dX5_number__1 : decode cX5_number_ 1 = .ok (.getfield 144, 3) := by decide +kernel
theorem dX5_number__4 : decode cX5_number_ 4 = .ok (.istore_n 1, 1) := by decide +kernel
theorem dX5_number__5 : decode cX5_number_ 5 = .ok (.aload_n 0, 1) := by decide +kernel
theorem dX5_number__6 : decode cX5_number_ 6 = .ok (.iconst 0, 1) := by decide +kernel
theorem dX5_number__7 : decode cX5_number_ 7 = .ok (.putfield 147, 3) := by decide +kernel
theorem dX5_number__10 : decode cX5_number_ 10 = .ok (.aload_n 0, 1) := by decide +kernel
theorem dX5_number__11 : decode cX5_number_ 11 = .ok (.invokevirtual 153, 3) := by decide +kernel
theorem dX5_number__14 : decode cX5_number_ 14 = .ok (.bipush 48, 2) := by decide +kernel
theorem dX5_number__16 : decode cX5_number_ 16 = .ok (.bipush 57, 2) := by decide +kernel
theorem dX5_number__18 : decode cX5_number_ 18 = .ok (.invokestatic 48, 3) := by decide +kernel
theorem dX5_number__21 : decode cX5_number_ 21 = .ok (.ifCond .eq 45, 3) := by decide +kernel
theorem dX5_number__24 : decode cX5_number_ 24 = .ok (.aload_n 0, 1) := by decide +kernel
theorem dX5_number__25 : decode cX5_number_ 25 = .ok (.getfield 144, 3) := by decide +kernel
theorem dX5_number__28 : decode cX5_number_ 28 = .ok (.iload_n 1, 1) := by decide +kernel
theorem dX5_number__29 : decode cX5_number_ 29 = .ok (.iconst 2, 1) := by decide +kernel
theorem dX5_number__30 : decode cX5_number_ 30 = .ok (.iadd, 1) := by decide +kernel
theorem dX5_number__31 : decode cX5_number_ 31 = .ok (.if_icmp .ge 35, 3) := by decide +kernel
theorem dX5_number__34 : decode cX5_number_ 34 = .ok (.aload_n 0, 1) := by decide +kernel
theorem dX5_number__35 : decode cX5_number_ 35 = .ok (.bipush 10, 2) := by decide +kernel
theorem dX5_number__37 : decode cX5_number_ 37 = .ok (.aload_n 0, 1) := by decide +kernel
theorem dX5_number__38 : decode cX5_number_ 38 = .ok (.getfield 147, 3) := by decide +kernel
theorem dX5_number__41 : decode cX5_number_ 41 = .ok (.imul, 1) := by decide +kernel
theorem dX5_number__42 : decode cX5_number_ 42 = .ok (.aload_n 0, 1) := by decide +kernel
theorem dX5_number__43 : decode cX5_number_ 43 = .ok (.invokevirtual 153, 3) := by decide +kernel
theorem dX5_number__46 : decode cX5_number_ 46 = .ok (.iadd, 1) := by decide +kernel
theorem dX5_number__47 : decode cX5_number_ 47 = .ok (.bipush 48, 2) := by decide +kernel
theorem dX5_number__49 : decode cX5_number_ 49 = .ok (.isub, 1) := by decide +kernel
theorem dX5_number__50 : decode cX5_number_ 50 = .ok (.putfield 147, 3) := by decide +kernel
theorem dX5_number__53 : decode cX5_number_ 53 = .ok (.aload_n 0, 1) := by decide +kernel
theorem dX5_number__54 : decode cX5_number_ 54 = .ok (.dup, 1) := by decide +kernel
theorem dX5_number__55 : decode cX5_number_ 55 = .ok (.getfield 144, 3) := by decide +kernel
theorem dX5_number__58 : decode cX5_number_ 58 = .ok (.iconst 1, 1) := by decide +kernel
theorem dX5_number__59 : decode cX5_number_ 59 = .ok (.iadd, 1) := by decide +kernel
theorem dX5_number__60 : decode cX5_number_ 60 = .ok (.putfield 144, 3) := by decide +kernel
theorem dX5_number__63 : decode cX5_number_ 63 = .ok (.goto (-53), 3) := by decide +kernel
theorem dX5_number__66 : decode cX5_number_ 66 = .ok (.aload_n 0, 1) := by decide +kernel
theorem dX5_number__67 : decode cX5_number_ 67 = .ok (.getfield 147, 3) := by decide +kernel
theorem dX5_number__70 : decode cX5_number_ 70 = .ok (.bipush 7, 2) := by decide +kernel
theorem dX5_number__72 : decode cX5_number_ 72 = .ok (.if_icmp .le 24, 3) := by decide +kernel
theorem dX5_number__75 : decode cX5_number_ 75 = .ok (.aload_n 0, 1) := by decide +kernel
theorem dX5_number__76 : decode cX5_number_ 76 = .ok (.invokevirtual 153, 3) := by decide +kernel
theorem dX5_number__79 : decode cX5_number_ 79 = .ok (.bipush 48, 2) := by decide +kernel
theorem dX5_number__81 : decode cX5_number_ 81 = .ok (.bipush 57, 2) := by decide +kernel
theorem dX5_number__83 : decode cX5_number_ 83 = .ok (.invokestatic 48, 3) := by decide +kernel
theorem dX5_number__86 : decode cX5_number_ 86 = .ok (.ifCond .ne 10, 3) := by decide +kernel
theorem dX5_number__89 : decode cX5_number_ 89 = .ok (.aload_n 0, 1) := by decide +kernel
theorem dX5_number__90 : decode cX5_number_ 90 = .ok (.iload_n 1, 1) := by decide +kernel
theorem dX5_number__91 : decode cX5_number_ 91 = .ok (.putfield 144, 3) := by decide +kernel
theorem dX5_number__94 : decode cX5_number_ 94 = .ok (.iconst 0, 1) := by decide +kernel
theorem dX5_number__95 : decode cX5_number_ 95 = .ok (.ireturn, 1) := by decide +kernel
theorem dX5_number__96 : decode cX5_number_ 96 = .ok (.aload_n 0, 1) := by decide +kernel
theorem dX5_number__97 : decode cX5_number_ 97 = .ok (.getfield 144, 3) := by decide +kernel
theorem dX5_number__100 : decode cX5_number_ 100 = .ok (.iload_n 1, 1) := by decide +kernel
theorem dX5_number__101 : decode cX5_number_ 101 = .ok (.if_icmp .le 7, 3) := by decide +kernel
theorem dX5_number__104 : decode cX5_number_ 104 = .ok (.iconst 1, 1) := by decide +kernel
theorem dX5_number__105 : decode cX5_number_ 105 = .ok (.goto 4, 3) := by decide +kernel
theorem dX5_number__108 : decode cX5_number_ 108 = .ok (.iconst 0, 1) := by decide +kernel
theorem dX5_number__109 : decode cX5_number_ 109 = .ok (.ireturn, 1) := by decide +kernel
theorem dX5_reads_0 : decode cX5_reads 0 = .ok (.aload_n 0, 1) := by decide +kernel
theorem dX5_reads_1 : decode cX5_reads 1 = .ok (.aload_n 0, 1) := by decide +kernel
theorem dX5_reads_2 : decode cX5_reads 2 = .ok (.invokevirtual 153, 3) := by decide +kernel
theorem dX5_reads_5 : decode cX5_reads 5 = .ok (.putfield 156, 3) := by decide +kernel
theorem dX5_reads_8 : decode cX5_reads 8 = .ok (.aload_n 0, 1) := by decide +kernel
theorem dX5_reads_9 : decode cX5_reads 9 = .ok (.getfield 156, 3) := by decide +kernel
theorem dX5_reads_12 : decode cX5_reads 12 = .ok (.bipush 101, 2) := by decide +kernel
theorem dX5_reads_14 : decode cX5_reads 14 = .ok (.if_icmp .eq 41, 3) := by decide +kernel
theorem dX5_reads_17 : decode cX5_reads 17 = .ok (.aload_n 0, 1) := by decide +kernel
theorem dX5_reads_18 : decode cX5_reads 18 = .ok (.getfield 156, 3) := by decide +kernel
theorem dX5_reads_21 : decode cX5_reads 21 = .ok (.bipush 117, 2) := by decide +kernel
theorem dX5_reads_23 : decode cX5_reads 23 = .ok (.if_icmp .eq 32, 3) := by decide +kernel
theorem dX5_reads_26 : decode cX5_reads 26 = .ok (.aload_n 0, 1) := by decide +kernel
theorem dX5_reads_27 : decode cX5_reads 27 = .ok (.getfield 156, 3) := by decide +kernel
theorem dX5_reads_30 : decode cX5_reads 30 = .ok (.bipush 99, 2) := by decide +kernel
theorem dX5_reads_32 : decode cX5_reads 32 = .ok (.if_icmp .eq 23, 3) := by decide +kernel
theorem dX5_reads_35 : decode cX5_reads 35 = .ok (.aload_n 0, 1) := by decide +kernel
theorem dX5_reads_36 : decode cX5_reads 36 = .ok (.getfield 156, 3) := by decide +kernel
theorem dX5_reads_39 : decode cX5_reads 39 = .ok (.bipush 108, 2) := by decide +kernel
theorem dX5_reads_41 : decode cX5_reads 41 = .ok (.if_icmp .eq 14, 3) := by decide +kernel
theorem dX5_reads_44 : decode cX5_reads 44 = .ok (.aload_n 0, 1) := by decide +kernel
theorem dX5_reads_45 : decode cX5_reads 45 = .ok (.getfield 156, 3) := by decide +kernel
theorem dX5_reads_48 : decode cX5_reads 48 = .ok (.bipush 114, 2) := by decide +kernel
theorem dX5_reads_50 : decode cX5_reads 50 = .ok (.if_icmp .eq 5, 3) := by decide +kernel
theorem dX5_reads_53 : decode cX5_reads 53 = .ok (.iconst 0, 1) := by decide +kernel
theorem dX5_reads_54 : decode cX5_reads 54 = .ok (.ireturn, 1) := by decide +kernel
theorem dX5_reads_55 : decode cX5_reads 55 = .ok (.aload_n 0, 1) := by decide +kernel
theorem dX5_reads_56 : decode cX5_reads 56 = .ok (.dup, 1) := by decide +kernel
theorem dX5_reads_57 : decode cX5_reads 57 = .ok (.getfield 144, 3) := by decide +kernel
theorem dX5_reads_60 : decode cX5_reads 60 = .ok (.iconst 1, 1) := by decide +kernel
theorem dX5_reads_61 : decode cX5_reads 61 = .ok (.iadd, 1) := by decide +kernel
theorem dX5_reads_62 : decode cX5_reads 62 = .ok (.putfield 144, 3) := by decide +kernel
theorem dX5_reads_65 : decode cX5_reads 65 = .ok (.aload_n 0, 1) := by decide +kernel
theorem dX5_reads_66 : decode cX5_reads 66 = .ok (.getfield 156, 3) := by decide +kernel
theorem dX5_reads_69 : decode cX5_reads 69 = .ok (.bipush 99, 2) := by decide +kernel
theorem dX5_reads_71 : decode cX5_reads 71 = .ok (.if_icmp .ne 10, 3) := by decide +kernel
theorem dX5_reads_74 : decode cX5_reads 74 = .ok (.aload_n 0, 1) := by decide +kernel
theorem dX5_reads_75 : decode cX5_reads 75 = .ok (.invokevirtual 159, 3) := by decide +kernel
theorem dX5_reads_78 : decode cX5_reads 78 = .ok (.ifCond .eq 19, 3) := by decide +kernel
theorem dX5_reads_81 : decode cX5_reads 81 = .ok (.aload_n 0, 1) := by decide +kernel
theorem dX5_reads_82 : decode cX5_reads 82 = .ok (.getfield 156, 3) := by decide +kernel
theorem dX5_reads_85 : decode cX5_reads 85 = .ok (.bipush 108, 2) := by decide +kernel
theorem dX5_reads_87 : decode cX5_reads 87 = .ok (.if_icmp .ne 12, 3) := by decide +kernel
theorem dX5_reads_90 : decode cX5_reads 90 = .ok (.aload_n 0, 1) := by decide +kernel
theorem dX5_reads_91 : decode cX5_reads 91 = .ok (.invokevirtual 163, 3) := by decide +kernel
theorem dX5_reads_94 : decode cX5_reads 94 = .ok (.ifCond .ne 5, 3) := by decide +kernel
theorem dX5_reads_97 : decode cX5_reads 97 = .ok (.iconst 0, 1) := by decide +kernel
theorem dX5_reads_98 : decode cX5_reads 98 = .ok (.ireturn, 1) := by decide +kernel
theorem dX5_reads_99 : decode cX5_reads 99 = .ok (.aload_n 0, 1) := by decide +kernel
theorem dX5_reads_100 : decode cX5_reads 100 = .ok (.invokevirtual 153, 3) := by decide +kernel
theorem dX5_reads_103 : decode cX5_reads 103 = .ok (.bipush 59, 2) := by decide +kernel
theorem dX5_reads_105 : decode cX5_reads 105 = .ok (.if_icmp .ne 7, 3) := by decide +kernel
theorem dX5_reads_108 : decode cX5_reads 108 = .ok (.iconst 1, 1) := by decide +kernel
theorem dX5_reads_109 : decode cX5_reads 109 = .ok (.goto 4, 3) := by decide +kernel
theorem dX5_reads_112 : decode cX5_reads 112 = .ok (.iconst 0, 1) := by decide +kernel
theorem dX5_reads_113 : decode cX5_reads 113 = .ok (.istore_n 1, 1) := by decide +kernel
theorem dX5_reads_114 : decode cX5_reads 114 = .ok (.aload_n 0, 1) := by decide +kernel
theorem dX5_reads_115 : decode cX5_reads 115 = .ok (.dup, 1) := by decide +kernel
theorem dX5_reads_116 : decode cX5_reads 116 = .ok (.getfield 144, 3) := by decide +kernel
theorem dX5_reads_119 : decode cX5_reads 119 = .ok (.iload_n 1, 1) := by decide +kernel
theorem dX5_reads_120 : decode cX5_reads 120 = .ok (.ifCond .eq 7, 3) := by decide +kernel
theorem dX5_reads_123 : decode cX5_reads 123 = .ok (.iconst 1, 1) := by decide +kernel
theorem dX5_reads_124 : decode cX5_reads 124 = .ok (.goto 4, 3) := by decide +kernel
theorem dX5_reads_127 : decode cX5_reads 127 = .ok (.iconst 0, 1) := by decide +kernel
theorem dX5_reads_128 : decode cX5_reads 128 = .ok (.iadd, 1) := by decide +kernel
theorem dX5_reads_129 : decode cX5_reads 129 = .ok (.putfield 144, 3) := by decide +kernel
theorem dX5_reads_132 : decode cX5_reads 132 = .ok (.iload_n 1, 1) := by decide +kernel
theorem dX5_reads_133 : decode cX5_reads 133 = .ok (.ireturn, 1) := by decide +kernel
theorem dX5_wrong_0 : decode cX5_wrong 0 = .ok (.aload_n 0, 1) := by decide +kernel
theorem dX5_wrong_1 : decode cX5_wrong 1 = .ok (.iconst 0, 1) := by decide +kernel
theorem dX5_wrong_2 : decode cX5_wrong 2 = .ok (.putfield 144, 3) := by decide +kernel
theorem dX5_wrong_5 : decode cX5_wrong 5 = .ok (.aload_n 0, 1) := by decide +kernel
theorem dX5_wrong_6 : decode cX5_wrong 6 = .ok (.getfield 144, 3) := by decide +kernel
theorem dX5_wrong_9 : decode cX5_wrong 9 = .ok (.aload_n 0, 1) := by decide +kernel
theorem dX5_wrong_10 : decode cX5_wrong 10 = .ok (.getfield 141, 3) := by decide +kernel
theorem dX5_wrong_13 : decode cX5_wrong 13 = .ok (.if_icmp .ge 15, 3) := by decide +kernel
theorem dX5_wrong_16 : decode cX5_wrong 16 = .ok (.aload_n 0, 1) := by decide +kernel
theorem dX5_wrong_17 : decode cX5_wrong 17 = .ok (.invokevirtual 165, 3) := by decide +kernel
theorem dX5_wrong_20 : decode cX5_wrong 20 = .ok (.ifCond .ne (-15), 3) := by decide +kernel
theorem dX5_wrong_23 : decode cX5_wrong 23 = .ok (.aload_n 0, 1) := by decide +kernel
theorem dX5_wrong_24 : decode cX5_wrong 24 = .ok (.getfield 144, 3) := by decide +kernel
theorem dX5_wrong_27 : decode cX5_wrong 27 = .ok (.ireturn, 1) := by decide +kernel
theorem dX5_wrong_28 : decode cX5_wrong 28 = .ok (.iconst (-1), 1) := by decide +kernel
theorem dX5_wrong_29 : decode cX5_wrong 29 = .ok (.ireturn, 1) := by decide +kernel
theorem dX5_does_0 : decode cX5_does 0 = .ok (.iconst 1, 1) := by decide +kernel
theorem dX5_does_1 : decode cX5_does 1 = .ok (.istore_n 1, 1) := by decide +kernel
theorem dX5_does_2 : decode cX5_does 2 = .ok (.aload_n 0, 1) := by decide +kernel
theorem dX5_does_3 : decode cX5_does 3 = .ok (.getfield 156, 3) := by decide +kernel
theorem dX5_does_6 : decode cX5_does 6 = .ok (.lookupswitch 171 #[(99, 87), (101, 42), (108, 128), (117, 42)], 42) := by decide +kernel
theorem dX5_does_48 : decode cX5_does 48 = .ok (.aload_n 0, 1) := by decide +kernel
theorem dX5_does_49 : decode cX5_does 49 = .ok (.aload_n 0, 1) := by decide +kernel
theorem dX5_does_50 : decode cX5_does 50 = .ok (.getfield 156, 3) := by decide +kernel
theorem dX5_does_53 : decode cX5_does 53 = .ok (.bipush 117, 2) := by decide +kernel
theorem dX5_does_55 : decode cX5_does 55 = .ok (.if_icmp .ne 7, 3) := by decide +kernel
theorem dX5_does_58 : decode cX5_does 58 = .ok (.iconst 1, 1) := by decide +kernel
theorem dX5_does_59 : decode cX5_does 59 = .ok (.goto 4, 3) := by decide +kernel
theorem dX5_does_62 : decode cX5_does 62 = .ok (.iconst 0, 1) := by decide +kernel
theorem dX5_does_63 : decode cX5_does 63 = .ok (.invokevirtual 58, 3) := by decide +kernel
theorem dX5_does_66 : decode cX5_does 66 = .ok (.istore_n 1, 1) := by decide +kernel
theorem dX5_does_67 : decode cX5_does 67 = .ok (.iload_n 1, 1) := by decide +kernel
theorem dX5_does_68 : decode cX5_does 68 = .ok (.ifCond .eq 114, 3) := by decide +kernel
theorem dX5_does_71 : decode cX5_does 71 = .ok (.aload_n 0, 1) := by decide +kernel
theorem dX5_does_72 : decode cX5_does 72 = .ok (.aload_n 0, 1) := by decide +kernel
theorem dX5_does_73 : decode cX5_does 73 = .ok (.getfield 156, 3) := by decide +kernel
theorem dX5_does_76 : decode cX5_does 76 = .ok (.bipush 117, 2) := by decide +kernel
theorem dX5_does_78 : decode cX5_does 78 = .ok (.if_icmp .ne 7, 3) := by decide +kernel
theorem dX5_does_81 : decode cX5_does 81 = .ok (.iconst 1, 1) := by decide +kernel
theorem dX5_does_82 : decode cX5_does 82 = .ok (.goto 4, 3) := by decide +kernel
theorem dX5_does_85 : decode cX5_does 85 = .ok (.iconst 0, 1) := by decide +kernel
theorem dX5_does_86 : decode cX5_does 86 = .ok (.invokevirtual 65, 3) := by decide +kernel
theorem dX5_does_89 : decode cX5_does 89 = .ok (.pop, 1) := by decide +kernel
theorem dX5_does_90 : decode cX5_does 90 = .ok (.goto 92, 3) := by decide +kernel
theorem dX5_does_93 : decode cX5_does 93 = .ok (.aload_n 0, 1) := by decide +kernel
theorem dX5_does_94 : decode cX5_does 94 = .ok (.aload_n 0, 1) := by decide +kernel
theorem dX5_does_95 : decode cX5_does 95 = .ok (.getfield 147, 3) := by decide +kernel
theorem dX5_does_98 : decode cX5_does 98 = .ok (.aload_n 0, 1) := by decide +kernel
theorem dX5_does_99 : decode cX5_does 99 = .ok (.getfield 150, 3) := by decide +kernel
theorem dX5_does_102 : decode cX5_does 102 = .ok (.invokevirtual 73, 3) := by decide +kernel
theorem dX5_does_105 : decode cX5_does 105 = .ok (.ifCond .ne 7, 3) := by decide +kernel
theorem dX5_does_108 : decode cX5_does 108 = .ok (.iconst 1, 1) := by decide +kernel
theorem dX5_does_109 : decode cX5_does 109 = .ok (.goto 4, 3) := by decide +kernel
theorem dX5_does_112 : decode cX5_does 112 = .ok (.iconst 0, 1) := by decide +kernel
theorem dX5_does_113 : decode cX5_does 113 = .ok (.istore_n 1, 1) := by decide +kernel
theorem dX5_does_114 : decode cX5_does 114 = .ok (.iload_n 1, 1) := by decide +kernel
theorem dX5_does_115 : decode cX5_does 115 = .ok (.ifCond .eq 67, 3) := by decide +kernel
theorem dX5_does_118 : decode cX5_does 118 = .ok (.aload_n 0, 1) := by decide +kernel
theorem dX5_does_119 : decode cX5_does 119 = .ok (.aload_n 0, 1) := by decide +kernel
theorem dX5_does_120 : decode cX5_does 120 = .ok (.getfield 147, 3) := by decide +kernel
theorem dX5_does_123 : decode cX5_does 123 = .ok (.aload_n 0, 1) := by decide +kernel
theorem dX5_does_124 : decode cX5_does 124 = .ok (.getfield 150, 3) := by decide +kernel
theorem dX5_does_127 : decode cX5_does 127 = .ok (.invokevirtual 77, 3) := by decide +kernel
theorem dX5_does_130 : decode cX5_does 130 = .ok (.pop, 1) := by decide +kernel
theorem dX5_does_131 : decode cX5_does 131 = .ok (.goto 51, 3) := by decide +kernel
theorem dX5_does_134 : decode cX5_does 134 = .ok (.aload_n 0, 1) := by decide +kernel
theorem dX5_does_135 : decode cX5_does 135 = .ok (.aload_n 0, 1) := by decide +kernel
theorem dX5_does_136 : decode cX5_does 136 = .ok (.getfield 147, 3) := by decide +kernel
theorem dX5_does_139 : decode cX5_does 139 = .ok (.invokevirtual 95, 3) := by decide +kernel
theorem dX5_does_142 : decode cX5_does 142 = .ok (.ifCond .ne 7, 3) := by decide +kernel
theorem dX5_does_145 : decode cX5_does 145 = .ok (.iconst 1, 1) := by decide +kernel
theorem dX5_does_146 : decode cX5_does 146 = .ok (.goto 4, 3) := by decide +kernel
theorem dX5_does_149 : decode cX5_does 149 = .ok (.iconst 0, 1) := by decide +kernel
theorem dX5_does_150 : decode cX5_does 150 = .ok (.istore_n 1, 1) := by decide +kernel
theorem dX5_does_151 : decode cX5_does 151 = .ok (.aload_n 0, 1) := by decide +kernel
theorem dX5_does_152 : decode cX5_does 152 = .ok (.getfield 7, 3) := by decide +kernel
theorem dX5_does_155 : decode cX5_does 155 = .ok (.iconst 3, 1) := by decide +kernel
theorem dX5_does_156 : decode cX5_does 156 = .ok (.dup2, 1) := by decide +kernel
theorem dX5_does_157 : decode cX5_does 157 = .ok (.iaload, 1) := by decide +kernel
theorem dX5_does_158 : decode cX5_does 158 = .ok (.iload_n 1, 1) := by decide +kernel
theorem dX5_does_159 : decode cX5_does 159 = .ok (.ifCond .eq 12, 3) := by decide +kernel
theorem dX5_does_162 : decode cX5_does 162 = .ok (.iconst 1, 1) := by decide +kernel
theorem dX5_does_163 : decode cX5_does 163 = .ok (.aload_n 0, 1) := by decide +kernel
theorem dX5_does_164 : decode cX5_does 164 = .ok (.getfield 147, 3) := by decide +kernel
theorem dX5_does_167 : decode cX5_does 167 = .ok (.ishl, 1) := by decide +kernel
theorem dX5_does_168 : decode cX5_does 168 = .ok (.goto 4, 3) := by decide +kernel
theorem dX5_does_171 : decode cX5_does 171 = .ok (.iconst 0, 1) := by decide +kernel
theorem dX5_does_172 : decode cX5_does 172 = .ok (.ior, 1) := by decide +kernel
theorem dX5_does_173 : decode cX5_does 173 = .ok (.iastore, 1) := by decide +kernel
theorem dX5_does_174 : decode cX5_does 174 = .ok (.goto 8, 3) := by decide +kernel
theorem dX5_does_177 : decode cX5_does 177 = .ok (.aload_n 0, 1) := by decide +kernel
theorem dX5_does_178 : decode cX5_does 178 = .ok (.invokevirtual 107, 3) := by decide +kernel
theorem dX5_does_181 : decode cX5_does 181 = .ok (.pop, 1) := by decide +kernel
theorem dX5_does_182 : decode cX5_does 182 = .ok (.iload_n 1, 1) := by decide +kernel
theorem dX5_does_183 : decode cX5_does 183 = .ok (.ireturn, 1) := by decide +kernel
theorem dX5_carryOut_0 : decode cX5_carryOut 0 = .ok (.aload_n 0, 1) := by decide +kernel
theorem dX5_carryOut_1 : decode cX5_carryOut 1 = .ok (.invokevirtual 168, 3) := by decide +kernel
theorem dX5_carryOut_4 : decode cX5_carryOut 4 = .ok (.istore_n 1, 1) := by decide +kernel
theorem dX5_carryOut_5 : decode cX5_carryOut 5 = .ok (.iload_n 1, 1) := by decide +kernel
theorem dX5_carryOut_6 : decode cX5_carryOut 6 = .ok (.ifCond .lt 12, 3) := by decide +kernel
theorem dX5_carryOut_9 : decode cX5_carryOut 9 = .ok (.aload_n 0, 1) := by decide +kernel
theorem dX5_carryOut_10 : decode cX5_carryOut 10 = .ok (.bipush (-10), 2) := by decide +kernel
theorem dX5_carryOut_12 : decode cX5_carryOut 12 = .ok (.iload_n 1, 1) := by decide +kernel
theorem dX5_carryOut_13 : decode cX5_carryOut 13 = .ok (.isub, 1) := by decide +kernel
theorem dX5_carryOut_14 : decode cX5_carryOut 14 = .ok (.invokevirtual 37, 3) := by decide +kernel
theorem dX5_carryOut_17 : decode cX5_carryOut 17 = .ok (.ireturn, 1) := by decide +kernel
theorem dX5_carryOut_18 : decode cX5_carryOut 18 = .ok (.aload_n 0, 1) := by decide +kernel
theorem dX5_carryOut_19 : decode cX5_carryOut 19 = .ok (.invokevirtual 52, 3) := by decide +kernel
theorem dX5_carryOut_22 : decode cX5_carryOut 22 = .ok (.aload_n 0, 1) := by decide +kernel
theorem dX5_carryOut_23 : decode cX5_carryOut 23 = .ok (.iconst 0, 1) := by decide +kernel
theorem dX5_carryOut_24 : decode cX5_carryOut 24 = .ok (.putfield 144, 3) := by decide +kernel
theorem dX5_carryOut_27 : decode cX5_carryOut 27 = .ok (.iconst 0, 1) := by decide +kernel
theorem dX5_carryOut_28 : decode cX5_carryOut 28 = .ok (.istore_n 2, 1) := by decide +kernel
theorem dX5_carryOut_29 : decode cX5_carryOut 29 = .ok (.iconst 1, 1) := by decide +kernel
theorem dX5_carryOut_30 : decode cX5_carryOut 30 = .ok (.istore_n 3, 1) := by decide +kernel
theorem dX5_carryOut_31 : decode cX5_carryOut 31 = .ok (.aload_n 0, 1) := by decide +kernel
theorem dX5_carryOut_32 : decode cX5_carryOut 32 = .ok (.getfield 144, 3) := by decide +kernel
theorem dX5_carryOut_35 : decode cX5_carryOut 35 = .ok (.aload_n 0, 1) := by decide +kernel
theorem dX5_carryOut_36 : decode cX5_carryOut 36 = .ok (.getfield 141, 3) := by decide +kernel
theorem dX5_carryOut_39 : decode cX5_carryOut 39 = .ok (.if_icmp .ge 32, 3) := by decide +kernel
theorem dX5_carryOut_42 : decode cX5_carryOut 42 = .ok (.iload_n 3, 1) := by decide +kernel
theorem dX5_carryOut_43 : decode cX5_carryOut 43 = .ok (.ifCond .eq 28, 3) := by decide +kernel
theorem dX5_carryOut_46 : decode cX5_carryOut 46 = .ok (.aload_n 0, 1) := by decide +kernel
theorem dX5_carryOut_47 : decode cX5_carryOut 47 = .ok (.invokevirtual 165, 3) := by decide +kernel
theorem dX5_carryOut_50 : decode cX5_carryOut 50 = .ok (.pop, 1) := by decide +kernel
theorem dX5_carryOut_51 : decode cX5_carryOut 51 = .ok (.aload_n 0, 1) := by decide +kernel
theorem dX5_carryOut_52 : decode cX5_carryOut 52 = .ok (.invokevirtual 171, 3) := by decide +kernel
theorem dX5_carryOut_55 : decode cX5_carryOut 55 = .ok (.istore_n 3, 1) := by decide +kernel
theorem dX5_carryOut_56 : decode cX5_carryOut 56 = .ok (.iload_n 2, 1) := by decide +kernel
theorem dX5_carryOut_57 : decode cX5_carryOut 57 = .ok (.iload_n 3, 1) := by decide +kernel
theorem dX5_carryOut_58 : decode cX5_carryOut 58 = .ok (.ifCond .eq 7, 3) := by decide +kernel
theorem dX5_carryOut_61 : decode cX5_carryOut 61 = .ok (.iconst 1, 1) := by decide +kernel
theorem dX5_carryOut_62 : decode cX5_carryOut 62 = .ok (.goto 4, 3) := by decide +kernel
theorem dX5_carryOut_65 : decode cX5_carryOut 65 = .ok (.iconst 0, 1) := by decide +kernel
theorem dX5_carryOut_66 : decode cX5_carryOut 66 = .ok (.iadd, 1) := by decide +kernel
theorem dX5_carryOut_67 : decode cX5_carryOut 67 = .ok (.istore_n 2, 1) := by decide +kernel
theorem dX5_carryOut_68 : decode cX5_carryOut 68 = .ok (.goto (-37), 3) := by decide +kernel
theorem dX5_carryOut_71 : decode cX5_carryOut 71 = .ok (.aload_n 0, 1) := by decide +kernel
theorem dX5_carryOut_72 : decode cX5_carryOut 72 = .ok (.iload_n 2, 1) := by decide +kernel
theorem dX5_carryOut_73 : decode cX5_carryOut 73 = .ok (.invokevirtual 55, 3) := by decide +kernel
theorem dX5_carryOut_76 : decode cX5_carryOut 76 = .ok (.ireturn, 1) := by decide +kernel
theorem dX5_undo_0 : decode cX5_undo 0 = .ok (.aload_n 0, 1) := by decide +kernel
theorem dX5_undo_1 : decode cX5_undo 1 = .ok (.getfield 34, 3) := by decide +kernel
theorem dX5_undo_4 : decode cX5_undo 4 = .ok (.ifCond .ne 9, 3) := by decide +kernel
theorem dX5_undo_7 : decode cX5_undo 7 = .ok (.aload_n 0, 1) := by decide +kernel
theorem dX5_undo_8 : decode cX5_undo 8 = .ok (.iconst 1, 1) := by decide +kernel
theorem dX5_undo_9 : decode cX5_undo 9 = .ok (.invokevirtual 62, 3) := by decide +kernel
theorem dX5_undo_12 : decode cX5_undo 12 = .ok (.ireturn, 1) := by decide +kernel
theorem dX5_undo_13 : decode cX5_undo 13 = .ok (.aload_n 0, 1) := by decide +kernel
theorem dX5_undo_14 : decode cX5_undo 14 = .ok (.dup, 1) := by decide +kernel
theorem dX5_undo_15 : decode cX5_undo 15 = .ok (.getfield 34, 3) := by decide +kernel
theorem dX5_undo_18 : decode cX5_undo 18 = .ok (.iconst 1, 1) := by decide +kernel
theorem dX5_undo_19 : decode cX5_undo 19 = .ok (.isub, 1) := by decide +kernel
theorem dX5_undo_20 : decode cX5_undo 20 = .ok (.putfield 34, 3) := by decide +kernel
theorem dX5_undo_23 : decode cX5_undo 23 = .ok (.iconst 0, 1) := by decide +kernel
theorem dX5_undo_24 : decode cX5_undo 24 = .ok (.istore_n 1, 1) := by decide +kernel
theorem dX5_undo_25 : decode cX5_undo 25 = .ok (.iload_n 1, 1) := by decide +kernel
theorem dX5_undo_26 : decode cX5_undo 26 = .ok (.bipush 45, 2) := by decide +kernel
theorem dX5_undo_28 : decode cX5_undo 28 = .ok (.if_icmp .ge 29, 3) := by decide +kernel
theorem dX5_undo_31 : decode cX5_undo 31 = .ok (.aload_n 0, 1) := by decide +kernel
theorem dX5_undo_32 : decode cX5_undo 32 = .ok (.getfield 7, 3) := by decide +kernel
theorem dX5_undo_35 : decode cX5_undo 35 = .ok (.iload_n 1, 1) := by decide +kernel
theorem dX5_undo_36 : decode cX5_undo 36 = .ok (.aload_n 0, 1) := by decide +kernel
theorem dX5_undo_37 : decode cX5_undo 37 = .ok (.getfield 13, 3) := by decide +kernel
theorem dX5_undo_40 : decode cX5_undo 40 = .ok (.bipush 45, 2) := by decide +kernel
theorem dX5_undo_42 : decode cX5_undo 42 = .ok (.aload_n 0, 1) := by decide +kernel
theorem dX5_undo_43 : decode cX5_undo 43 = .ok (.getfield 34, 3) := by decide +kernel
theorem dX5_undo_46 : decode cX5_undo 46 = .ok (.imul, 1) := by decide +kernel
theorem dX5_undo_47 : decode cX5_undo 47 = .ok (.iload_n 1, 1) := by decide +kernel
theorem dX5_undo_48 : decode cX5_undo 48 = .ok (.iadd, 1) := by decide +kernel
theorem dX5_undo_49 : decode cX5_undo 49 = .ok (.iaload, 1) := by decide +kernel
theorem dX5_undo_50 : decode cX5_undo 50 = .ok (.iastore, 1) := by decide +kernel
theorem dX5_undo_51 : decode cX5_undo 51 = .ok (.iinc 1 1, 3) := by decide +kernel
theorem dX5_undo_54 : decode cX5_undo 54 = .ok (.goto (-29), 3) := by decide +kernel
theorem dX5_undo_57 : decode cX5_undo 57 = .ok (.aload_n 0, 1) := by decide +kernel
theorem dX5_undo_58 : decode cX5_undo 58 = .ok (.aload_n 0, 1) := by decide +kernel
theorem dX5_undo_59 : decode cX5_undo 59 = .ok (.getfield 34, 3) := by decide +kernel
theorem dX5_undo_62 : decode cX5_undo 62 = .ok (.invokevirtual 37, 3) := by decide +kernel
theorem dX5_undo_65 : decode cX5_undo 65 = .ok (.ireturn, 1) := by decide +kernel
theorem dX5_digest_0 : decode cX5_digest 0 = .ok (.aload_n 0, 1) := by decide +kernel
theorem dX5_digest_1 : decode cX5_digest 1 = .ok (.iconst 0, 1) := by decide +kernel
theorem dX5_digest_2 : decode cX5_digest 2 = .ok (.putfield 30, 3) := by decide +kernel
theorem dX5_digest_5 : decode cX5_digest 5 = .ok (.ldc2_w 174, 3) := by decide +kernel
theorem dX5_digest_8 : decode cX5_digest 8 = .ok (.aload_n 0, 1) := by decide +kernel
theorem dX5_digest_9 : decode cX5_digest 9 = .ok (.getfield 141, 3) := by decide +kernel
theorem dX5_digest_12 : decode cX5_digest 12 = .ok (.i2l, 1) := by decide +kernel
theorem dX5_digest_13 : decode cX5_digest 13 = .ok (.ladd, 1) := by decide +kernel
theorem dX5_digest_14 : decode cX5_digest 14 = .ok (.lstore_n 1, 1) := by decide +kernel
theorem dX5_digest_15 : decode cX5_digest 15 = .ok (.iconst 0, 1) := by decide +kernel
theorem dX5_digest_16 : decode cX5_digest 16 = .ok (.istore_n 3, 1) := by decide +kernel
theorem dX5_digest_17 : decode cX5_digest 17 = .ok (.iload_n 3, 1) := by decide +kernel
theorem dX5_digest_18 : decode cX5_digest 18 = .ok (.bipush 7, 2) := by decide +kernel
theorem dX5_digest_20 : decode cX5_digest 20 = .ok (.if_icmp .ge 22, 3) := by decide +kernel
theorem dX5_digest_23 : decode cX5_digest 23 = .ok (.ldc2_w 176, 3) := by decide +kernel
theorem dX5_digest_26 : decode cX5_digest 26 = .ok (.lload_n 1, 1) := by decide +kernel
theorem dX5_digest_27 : decode cX5_digest 27 = .ok (.lmul, 1) := by decide +kernel
theorem dX5_digest_28 : decode cX5_digest 28 = .ok (.aload_n 0, 1) := by decide +kernel
theorem dX5_digest_29 : decode cX5_digest 29 = .ok (.iload_n 3, 1) := by decide +kernel
theorem dX5_digest_30 : decode cX5_digest 30 = .ok (.invokevirtual 116, 3) := by decide +kernel
theorem dX5_digest_33 : decode cX5_digest 33 = .ok (.i2l, 1) := by decide +kernel
theorem dX5_digest_34 : decode cX5_digest 34 = .ok (.ladd, 1) := by decide +kernel
theorem dX5_digest_35 : decode cX5_digest 35 = .ok (.lstore_n 1, 1) := by decide +kernel
theorem dX5_digest_36 : decode cX5_digest 36 = .ok (.iinc 3 1, 3) := by decide +kernel
theorem dX5_digest_39 : decode cX5_digest 39 = .ok (.goto (-22), 3) := by decide +kernel
theorem dX5_digest_42 : decode cX5_digest 42 = .ok (.iconst 0, 1) := by decide +kernel
theorem dX5_digest_43 : decode cX5_digest 43 = .ok (.istore_n 3, 1) := by decide +kernel
theorem dX5_digest_44 : decode cX5_digest 44 = .ok (.iload_n 3, 1) := by decide +kernel
theorem dX5_digest_45 : decode cX5_digest 45 = .ok (.aload_n 0, 1) := by decide +kernel
theorem dX5_digest_46 : decode cX5_digest 46 = .ok (.getfield 7, 3) := by decide +kernel
theorem dX5_digest_49 : decode cX5_digest 49 = .ok (.iconst 0, 1) := by decide +kernel
theorem dX5_digest_50 : decode cX5_digest 50 = .ok (.iaload, 1) := by decide +kernel
theorem dX5_digest_51 : decode cX5_digest 51 = .ok (.if_icmp .ge 29, 3) := by decide +kernel
theorem dX5_digest_54 : decode cX5_digest 54 = .ok (.ldc2_w 176, 3) := by decide +kernel
theorem dX5_digest_57 : decode cX5_digest 57 = .ok (.lload_n 1, 1) := by decide +kernel
theorem dX5_digest_58 : decode cX5_digest 58 = .ok (.lmul, 1) := by decide +kernel
theorem dX5_digest_59 : decode cX5_digest 59 = .ok (.aload_n 0, 1) := by decide +kernel
theorem dX5_digest_60 : decode cX5_digest 60 = .ok (.iload_n 3, 1) := by decide +kernel
theorem dX5_digest_61 : decode cX5_digest 61 = .ok (.invokevirtual 86, 3) := by decide +kernel
theorem dX5_digest_64 : decode cX5_digest 64 = .ok (.ifCond .eq 7, 3) := by decide +kernel
theorem dX5_digest_67 : decode cX5_digest 67 = .ok (.lconst 1, 1) := by decide +kernel
theorem dX5_digest_68 : decode cX5_digest 68 = .ok (.goto 4, 3) := by decide +kernel
theorem dX5_digest_71 : decode cX5_digest 71 = .ok (.lconst 0, 1) := by decide +kernel
theorem dX5_digest_72 : decode cX5_digest 72 = .ok (.ladd, 1) := by decide +kernel
theorem dX5_digest_73 : decode cX5_digest 73 = .ok (.lstore_n 1, 1) := by decide +kernel
theorem dX5_digest_74 : decode cX5_digest 74 = .ok (.iinc 3 1, 3) := by decide +kernel
theorem dX5_digest_77 : decode cX5_digest 77 = .ok (.goto (-33), 3) := by decide +kernel
theorem dX5_digest_80 : decode cX5_digest 80 = .ok (.iconst 0, 1) := by decide +kernel
theorem dX5_digest_81 : decode cX5_digest 81 = .ok (.istore_n 3, 1) := by decide +kernel
theorem dX5_digest_82 : decode cX5_digest 82 = .ok (.iload_n 3, 1) := by decide +kernel
theorem dX5_digest_83 : decode cX5_digest 83 = .ok (.iconst 3, 1) := by decide +kernel
theorem dX5_digest_84 : decode cX5_digest 84 = .ok (.aload_n 0, 1) := by decide +kernel
theorem dX5_digest_85 : decode cX5_digest 85 = .ok (.getfield 7, 3) := by decide +kernel
theorem dX5_digest_88 : decode cX5_digest 88 = .ok (.iconst 2, 1) := by decide +kernel
theorem dX5_digest_89 : decode cX5_digest 89 = .ok (.iaload, 1) := by decide +kernel
theorem dX5_digest_90 : decode cX5_digest 90 = .ok (.imul, 1) := by decide +kernel
theorem dX5_digest_91 : decode cX5_digest 91 = .ok (.if_icmp .ge 27, 3) := by decide +kernel
theorem dX5_digest_94 : decode cX5_digest 94 = .ok (.ldc2_w 176, 3) := by decide +kernel
theorem dX5_digest_97 : decode cX5_digest 97 = .ok (.lload_n 1, 1) := by decide +kernel
theorem dX5_digest_98 : decode cX5_digest 98 = .ok (.lmul, 1) := by decide +kernel
theorem dX5_digest_99 : decode cX5_digest 99 = .ok (.aload_n 0, 1) := by decide +kernel
theorem dX5_digest_100 : decode cX5_digest 100 = .ok (.iload_n 3, 1) := by decide +kernel
theorem dX5_digest_101 : decode cX5_digest 101 = .ok (.iconst 3, 1) := by decide +kernel
theorem dX5_digest_102 : decode cX5_digest 102 = .ok (.idiv, 1) := by decide +kernel
theorem dX5_digest_103 : decode cX5_digest 103 = .ok (.iload_n 3, 1) := by decide +kernel
theorem dX5_digest_104 : decode cX5_digest 104 = .ok (.iconst 3, 1) := by decide +kernel
theorem dX5_digest_105 : decode cX5_digest 105 = .ok (.irem, 1) := by decide +kernel
theorem dX5_digest_106 : decode cX5_digest 106 = .ok (.invokevirtual 113, 3) := by decide +kernel
theorem dX5_digest_109 : decode cX5_digest 109 = .ok (.i2l, 1) := by decide +kernel
theorem dX5_digest_110 : decode cX5_digest 110 = .ok (.ladd, 1) := by decide +kernel
theorem dX5_digest_111 : decode cX5_digest 111 = .ok (.lstore_n 1, 1) := by decide +kernel
theorem dX5_digest_112 : decode cX5_digest 112 = .ok (.iinc 3 1, 3) := by decide +kernel
theorem dX5_digest_115 : decode cX5_digest 115 = .ok (.goto (-33), 3) := by decide +kernel
theorem dX5_digest_118 : decode cX5_digest 118 = .ok (.ldc2_w 176, 3) := by decide +kernel
theorem dX5_digest_121 : decode cX5_digest 121 = .ok (.lload_n 1, 1) := by decide +kernel
theorem dX5_digest_122 : decode cX5_digest 122 = .ok (.lmul, 1) := by decide +kernel
theorem dX5_digest_123 : decode cX5_digest 123 = .ok (.aload_n 0, 1) := by decide +kernel
theorem dX5_digest_124 : decode cX5_digest 124 = .ok (.invokevirtual 123, 3) := by decide +kernel
theorem dX5_digest_127 : decode cX5_digest 127 = .ok (.i2l, 1) := by decide +kernel
theorem dX5_digest_128 : decode cX5_digest 128 = .ok (.ladd, 1) := by decide +kernel
theorem dX5_digest_129 : decode cX5_digest 129 = .ok (.lstore_n 1, 1) := by decide +kernel
theorem dX5_digest_130 : decode cX5_digest 130 = .ok (.ldc2_w 176, 3) := by decide +kernel
theorem dX5_digest_133 : decode cX5_digest 133 = .ok (.lload_n 1, 1) := by decide +kernel
theorem dX5_digest_134 : decode cX5_digest 134 = .ok (.lmul, 1) := by decide +kernel
theorem dX5_digest_135 : decode cX5_digest 135 = .ok (.aload_n 0, 1) := by decide +kernel
theorem dX5_digest_136 : decode cX5_digest 136 = .ok (.invokevirtual 135, 3) := by decide +kernel
theorem dX5_digest_139 : decode cX5_digest 139 = .ok (.i2l, 1) := by decide +kernel
theorem dX5_digest_140 : decode cX5_digest 140 = .ok (.ladd, 1) := by decide +kernel
theorem dX5_digest_141 : decode cX5_digest 141 = .ok (.lstore_n 1, 1) := by decide +kernel
theorem dX5_digest_142 : decode cX5_digest 142 = .ok (.ldc2_w 176, 3) := by decide +kernel
theorem dX5_digest_145 : decode cX5_digest 145 = .ok (.lload_n 1, 1) := by decide +kernel
theorem dX5_digest_146 : decode cX5_digest 146 = .ok (.lmul, 1) := by decide +kernel
theorem dX5_digest_147 : decode cX5_digest 147 = .ok (.aload_n 0, 1) := by decide +kernel
theorem dX5_digest_148 : decode cX5_digest 148 = .ok (.invokevirtual 138, 3) := by decide +kernel
theorem dX5_digest_151 : decode cX5_digest 151 = .ok (.i2l, 1) := by decide +kernel
theorem dX5_digest_152 : decode cX5_digest 152 = .ok (.ladd, 1) := by decide +kernel
theorem dX5_digest_153 : decode cX5_digest 153 = .ok (.lstore_n 1, 1) := by decide +kernel
theorem dX5_digest_154 : decode cX5_digest 154 = .ok (.ldc2_w 176, 3) := by decide +kernel
theorem dX5_digest_157 : decode cX5_digest 157 = .ok (.lload_n 1, 1) := by decide +kernel
theorem dX5_digest_158 : decode cX5_digest 158 = .ok (.lmul, 1) := by decide +kernel
theorem dX5_digest_159 : decode cX5_digest 159 = .ok (.aload_n 0, 1) := by decide +kernel
theorem dX5_digest_160 : decode cX5_digest 160 = .ok (.getfield 34, 3) := by decide +kernel
theorem dX5_digest_163 : decode cX5_digest 163 = .ok (.i2l, 1) := by decide +kernel
theorem dX5_digest_164 : decode cX5_digest 164 = .ok (.ladd, 1) := by decide +kernel
theorem dX5_digest_165 : decode cX5_digest 165 = .ok (.lreturn, 1) := by decide +kernel
theorem dJ6_bitCount_0f7a4_0 : decode cJ6_bitCount_0f7a4 0 = .ok (.iload_n 0, 1) := by decide +kernel
theorem dJ6_bitCount_0f7a4_1 : decode cJ6_bitCount_0f7a4 1 = .ok (.iload_n 0, 1) := by decide +kernel
theorem dJ6_bitCount_0f7a4_2 : decode cJ6_bitCount_0f7a4 2 = .ok (.iconst 1, 1) := by decide +kernel
theorem dJ6_bitCount_0f7a4_3 : decode cJ6_bitCount_0f7a4 3 = .ok (.iushr, 1) := by decide +kernel
theorem dJ6_bitCount_0f7a4_4 : decode cJ6_bitCount_0f7a4 4 = .ok (.ldc_w 265, 3) := by decide +kernel
theorem dJ6_bitCount_0f7a4_7 : decode cJ6_bitCount_0f7a4 7 = .ok (.iand, 1) := by decide +kernel
theorem dJ6_bitCount_0f7a4_8 : decode cJ6_bitCount_0f7a4 8 = .ok (.isub, 1) := by decide +kernel
theorem dJ6_bitCount_0f7a4_9 : decode cJ6_bitCount_0f7a4 9 = .ok (.istore_n 0, 1) := by decide +kernel
theorem dJ6_bitCount_0f7a4_10 : decode cJ6_bitCount_0f7a4 10 = .ok (.iload_n 0, 1) := by decide +kernel
theorem dJ6_bitCount_0f7a4_11 : decode cJ6_bitCount_0f7a4 11 = .ok (.ldc_w 266, 3) := by decide +kernel
theorem dJ6_bitCount_0f7a4_14 : decode cJ6_bitCount_0f7a4 14 = .ok (.iand, 1) := by decide +kernel
theorem dJ6_bitCount_0f7a4_15 : decode cJ6_bitCount_0f7a4 15 = .ok (.iload_n 0, 1) := by decide +kernel
theorem dJ6_bitCount_0f7a4_16 : decode cJ6_bitCount_0f7a4 16 = .ok (.iconst 2, 1) := by decide +kernel
theorem dJ6_bitCount_0f7a4_17 : decode cJ6_bitCount_0f7a4 17 = .ok (.iushr, 1) := by decide +kernel
theorem dJ6_bitCount_0f7a4_18 : decode cJ6_bitCount_0f7a4 18 = .ok (.ldc_w 266, 3) := by decide +kernel
theorem dJ6_bitCount_0f7a4_21 : decode cJ6_bitCount_0f7a4 21 = .ok (.iand, 1) := by decide +kernel
theorem dJ6_bitCount_0f7a4_22 : decode cJ6_bitCount_0f7a4 22 = .ok (.iadd, 1) := by decide +kernel
theorem dJ6_bitCount_0f7a4_23 : decode cJ6_bitCount_0f7a4 23 = .ok (.istore_n 0, 1) := by decide +kernel
theorem dJ6_bitCount_0f7a4_24 : decode cJ6_bitCount_0f7a4 24 = .ok (.iload_n 0, 1) := by decide +kernel
theorem dJ6_bitCount_0f7a4_25 : decode cJ6_bitCount_0f7a4 25 = .ok (.iload_n 0, 1) := by decide +kernel
theorem dJ6_bitCount_0f7a4_26 : decode cJ6_bitCount_0f7a4 26 = .ok (.iconst 4, 1) := by decide +kernel
theorem dJ6_bitCount_0f7a4_27 : decode cJ6_bitCount_0f7a4 27 = .ok (.iushr, 1) := by decide +kernel
theorem dJ6_bitCount_0f7a4_28 : decode cJ6_bitCount_0f7a4 28 = .ok (.iadd, 1) := by decide +kernel
theorem dJ6_bitCount_0f7a4_29 : decode cJ6_bitCount_0f7a4 29 = .ok (.ldc_w 267, 3) := by decide +kernel
theorem dJ6_bitCount_0f7a4_32 : decode cJ6_bitCount_0f7a4 32 = .ok (.iand, 1) := by decide +kernel
theorem dJ6_bitCount_0f7a4_33 : decode cJ6_bitCount_0f7a4 33 = .ok (.istore_n 0, 1) := by decide +kernel
theorem dJ6_bitCount_0f7a4_34 : decode cJ6_bitCount_0f7a4 34 = .ok (.iload_n 0, 1) := by decide +kernel
theorem dJ6_bitCount_0f7a4_35 : decode cJ6_bitCount_0f7a4 35 = .ok (.iload_n 0, 1) := by decide +kernel
theorem dJ6_bitCount_0f7a4_36 : decode cJ6_bitCount_0f7a4 36 = .ok (.bipush 8, 2) := by decide +kernel
theorem dJ6_bitCount_0f7a4_38 : decode cJ6_bitCount_0f7a4 38 = .ok (.iushr, 1) := by decide +kernel
theorem dJ6_bitCount_0f7a4_39 : decode cJ6_bitCount_0f7a4 39 = .ok (.iadd, 1) := by decide +kernel
theorem dJ6_bitCount_0f7a4_40 : decode cJ6_bitCount_0f7a4 40 = .ok (.istore_n 0, 1) := by decide +kernel
theorem dJ6_bitCount_0f7a4_41 : decode cJ6_bitCount_0f7a4 41 = .ok (.iload_n 0, 1) := by decide +kernel
theorem dJ6_bitCount_0f7a4_42 : decode cJ6_bitCount_0f7a4 42 = .ok (.iload_n 0, 1) := by decide +kernel
theorem dJ6_bitCount_0f7a4_43 : decode cJ6_bitCount_0f7a4 43 = .ok (.bipush 16, 2) := by decide +kernel
theorem dJ6_bitCount_0f7a4_45 : decode cJ6_bitCount_0f7a4 45 = .ok (.iushr, 1) := by decide +kernel
theorem dJ6_bitCount_0f7a4_46 : decode cJ6_bitCount_0f7a4 46 = .ok (.iadd, 1) := by decide +kernel
theorem dJ6_bitCount_0f7a4_47 : decode cJ6_bitCount_0f7a4 47 = .ok (.istore_n 0, 1) := by decide +kernel
theorem dJ6_bitCount_0f7a4_48 : decode cJ6_bitCount_0f7a4 48 = .ok (.iload_n 0, 1) := by decide +kernel
theorem dJ6_bitCount_0f7a4_49 : decode cJ6_bitCount_0f7a4 49 = .ok (.bipush 63, 2) := by decide +kernel
theorem dJ6_bitCount_0f7a4_51 : decode cJ6_bitCount_0f7a4 51 = .ok (.iand, 1) := by decide +kernel
theorem dJ6_bitCount_0f7a4_52 : decode cJ6_bitCount_0f7a4 52 = .ok (.ireturn, 1) := by decide +kernel
theorem dL_addVariable_0 : decode cL_addVariable 0 = .ok (.aload_n 2, 1) := by decide +kernel
theorem dL_addVariable_1 : decode cL_addVariable 1 = .ok (.iconst 0, 1) := by decide +kernel
theorem dL_addVariable_2 : decode cL_addVariable 2 = .ok (.aload_n 0, 1) := by decide +kernel
theorem dL_addVariable_3 : decode cL_addVariable 3 = .ok (.iload_n 1, 1) := by decide +kernel
theorem dL_addVariable_4 : decode cL_addVariable 4 = .ok (.invokevirtual 7, 3) := by decide +kernel
theorem dL_addVariable_7 : decode cL_addVariable 7 = .ok (.i2l, 1) := by decide +kernel
theorem dL_addVariable_8 : decode cL_addVariable 8 = .ok (.lastore, 1) := by decide +kernel
theorem dL_addVariable_9 : decode cL_addVariable 9 = .ok (.goto 6, 3) := by decide +kernel
theorem dL_addVariable_12 : decode cL_addVariable 12 = .ok (.astore_n 3, 1) := by decide +kernel
theorem dL_addVariable_13 : decode cL_addVariable 13 = .ok (.iconst 1, 1) := by decide +kernel
theorem dL_addVariable_14 : decode cL_addVariable 14 = .ok (.ireturn, 1) := by decide +kernel
theorem dL_addVariable_15 : decode cL_addVariable 15 = .ok (.iconst 0, 1) := by decide +kernel
theorem dL_addVariable_16 : decode cL_addVariable 16 = .ok (.ireturn, 1) := by decide +kernel
theorem dL_addClause_0 : decode cL_addClause 0 = .ok (.aload_n 3, 1) := by decide +kernel
theorem dL_addClause_1 : decode cL_addClause 1 = .ok (.iconst 0, 1) := by decide +kernel
theorem dL_addClause_2 : decode cL_addClause 2 = .ok (.aload_n 0, 1) := by decide +kernel
theorem dL_addClause_3 : decode cL_addClause 3 = .ok (.iload_n 1, 1) := by decide +kernel
theorem dL_addClause_4 : decode cL_addClause 4 = .ok (.iload_n 2, 1) := by decide +kernel
theorem dL_addClause_5 : decode cL_addClause 5 = .ok (.invokevirtual 15, 3) := by decide +kernel
theorem dL_addClause_8 : decode cL_addClause 8 = .ok (.i2l, 1) := by decide +kernel
theorem dL_addClause_9 : decode cL_addClause 9 = .ok (.lastore, 1) := by decide +kernel
theorem dL_addClause_10 : decode cL_addClause 10 = .ok (.goto 11, 3) := by decide +kernel
theorem dL_addClause_13 : decode cL_addClause 13 = .ok (.astore 4, 2) := by decide +kernel
theorem dL_addClause_15 : decode cL_addClause 15 = .ok (.iconst 1, 1) := by decide +kernel
theorem dL_addClause_16 : decode cL_addClause 16 = .ok (.ireturn, 1) := by decide +kernel
theorem dL_addClause_17 : decode cL_addClause 17 = .ok (.astore 4, 2) := by decide +kernel
theorem dL_addClause_19 : decode cL_addClause 19 = .ok (.iconst 2, 1) := by decide +kernel
theorem dL_addClause_20 : decode cL_addClause 20 = .ok (.ireturn, 1) := by decide +kernel
theorem dL_addClause_21 : decode cL_addClause 21 = .ok (.iconst 0, 1) := by decide +kernel
theorem dL_addClause_22 : decode cL_addClause 22 = .ok (.ireturn, 1) := by decide +kernel
theorem dL_removeClause_0 : decode cL_removeClause 0 = .ok (.aload_n 2, 1) := by decide +kernel
theorem dL_removeClause_1 : decode cL_removeClause 1 = .ok (.iconst 0, 1) := by decide +kernel
theorem dL_removeClause_2 : decode cL_removeClause 2 = .ok (.aload_n 0, 1) := by decide +kernel
theorem dL_removeClause_3 : decode cL_removeClause 3 = .ok (.iload_n 1, 1) := by decide +kernel
theorem dL_removeClause_4 : decode cL_removeClause 4 = .ok (.invokevirtual 21, 3) := by decide +kernel
theorem dL_removeClause_7 : decode cL_removeClause 7 = .ok (.i2l, 1) := by decide +kernel
theorem dL_removeClause_8 : decode cL_removeClause 8 = .ok (.lastore, 1) := by decide +kernel
theorem dL_removeClause_9 : decode cL_removeClause 9 = .ok (.goto 6, 3) := by decide +kernel
theorem dL_removeClause_12 : decode cL_removeClause 12 = .ok (.astore_n 3, 1) := by decide +kernel
theorem dL_removeClause_13 : decode cL_removeClause 13 = .ok (.iconst 1, 1) := by decide +kernel
theorem dL_removeClause_14 : decode cL_removeClause 14 = .ok (.ireturn, 1) := by decide +kernel
theorem dL_removeClause_15 : decode cL_removeClause 15 = .ok (.iconst 0, 1) := by decide +kernel
theorem dL_removeClause_16 : decode cL_removeClause 16 = .ok (.ireturn, 1) := by decide +kernel
theorem dL_learn_0 : decode cL_learn 0 = .ok (.aload_n 2, 1) := by decide +kernel
theorem dL_learn_1 : decode cL_learn 1 = .ok (.iconst 0, 1) := by decide +kernel
theorem dL_learn_2 : decode cL_learn 2 = .ok (.aload_n 0, 1) := by decide +kernel
theorem dL_learn_3 : decode cL_learn 3 = .ok (.iload_n 1, 1) := by decide +kernel
theorem dL_learn_4 : decode cL_learn 4 = .ok (.invokevirtual 27, 3) := by decide +kernel
theorem dL_learn_7 : decode cL_learn 7 = .ok (.i2l, 1) := by decide +kernel
theorem dL_learn_8 : decode cL_learn 8 = .ok (.lastore, 1) := by decide +kernel
theorem dL_learn_9 : decode cL_learn 9 = .ok (.goto 9, 3) := by decide +kernel
theorem dL_learn_12 : decode cL_learn 12 = .ok (.astore_n 3, 1) := by decide +kernel
theorem dL_learn_13 : decode cL_learn 13 = .ok (.iconst 1, 1) := by decide +kernel
theorem dL_learn_14 : decode cL_learn 14 = .ok (.ireturn, 1) := by decide +kernel
theorem dL_learn_15 : decode cL_learn 15 = .ok (.astore_n 3, 1) := by decide +kernel
theorem dL_learn_16 : decode cL_learn 16 = .ok (.iconst 2, 1) := by decide +kernel
theorem dL_learn_17 : decode cL_learn 17 = .ok (.ireturn, 1) := by decide +kernel
theorem dL_learn_18 : decode cL_learn 18 = .ok (.iconst 0, 1) := by decide +kernel
theorem dL_learn_19 : decode cL_learn 19 = .ok (.ireturn, 1) := by decide +kernel
theorem dL_isBreakers_0 : decode cL_isBreakers 0 = .ok (.aload_n 2, 1) := by decide +kernel
theorem dL_isBreakers_1 : decode cL_isBreakers 1 = .ok (.iconst 0, 1) := by decide +kernel
theorem dL_isBreakers_2 : decode cL_isBreakers 2 = .ok (.aload_n 0, 1) := by decide +kernel
theorem dL_isBreakers_3 : decode cL_isBreakers 3 = .ok (.iload_n 1, 1) := by decide +kernel
theorem dL_isBreakers_4 : decode cL_isBreakers 4 = .ok (.invokevirtual 30, 3) := by decide +kernel
theorem dL_isBreakers_7 : decode cL_isBreakers 7 = .ok (.ifCond .eq 7, 3) := by decide +kernel
theorem dL_isBreakers_10 : decode cL_isBreakers 10 = .ok (.lconst 1, 1) := by decide +kernel
theorem dL_isBreakers_11 : decode cL_isBreakers 11 = .ok (.goto 4, 3) := by decide +kernel
theorem dL_isBreakers_14 : decode cL_isBreakers 14 = .ok (.lconst 0, 1) := by decide +kernel
theorem dL_isBreakers_15 : decode cL_isBreakers 15 = .ok (.lastore, 1) := by decide +kernel
theorem dL_isBreakers_16 : decode cL_isBreakers 16 = .ok (.goto 6, 3) := by decide +kernel
theorem dL_isBreakers_19 : decode cL_isBreakers 19 = .ok (.astore_n 3, 1) := by decide +kernel
theorem dL_isBreakers_20 : decode cL_isBreakers 20 = .ok (.iconst 1, 1) := by decide +kernel
theorem dL_isBreakers_21 : decode cL_isBreakers 21 = .ok (.ireturn, 1) := by decide +kernel
theorem dL_isBreakers_22 : decode cL_isBreakers 22 = .ok (.iconst 0, 1) := by decide +kernel
theorem dL_isBreakers_23 : decode cL_isBreakers 23 = .ok (.ireturn, 1) := by decide +kernel
theorem dL_clause_0 : decode cL_clause 0 = .ok (.aload_n 3, 1) := by decide +kernel
theorem dL_clause_1 : decode cL_clause 1 = .ok (.iconst 0, 1) := by decide +kernel
theorem dL_clause_2 : decode cL_clause 2 = .ok (.aload_n 0, 1) := by decide +kernel
theorem dL_clause_3 : decode cL_clause 3 = .ok (.iload_n 1, 1) := by decide +kernel
theorem dL_clause_4 : decode cL_clause 4 = .ok (.iload_n 2, 1) := by decide +kernel
theorem dL_clause_5 : decode cL_clause 5 = .ok (.invokevirtual 34, 3) := by decide +kernel
theorem dL_clause_8 : decode cL_clause 8 = .ok (.i2l, 1) := by decide +kernel
theorem dL_clause_9 : decode cL_clause 9 = .ok (.lastore, 1) := by decide +kernel
theorem dL_clause_10 : decode cL_clause 10 = .ok (.goto 11, 3) := by decide +kernel
theorem dL_clause_13 : decode cL_clause 13 = .ok (.astore 4, 2) := by decide +kernel
theorem dL_clause_15 : decode cL_clause 15 = .ok (.iconst 1, 1) := by decide +kernel
theorem dL_clause_16 : decode cL_clause 16 = .ok (.ireturn, 1) := by decide +kernel
theorem dL_clause_17 : decode cL_clause 17 = .ok (.astore 4, 2) := by decide +kernel
theorem dL_clause_19 : decode cL_clause 19 = .ok (.iconst 2, 1) := by decide +kernel
theorem dL_clause_20 : decode cL_clause 20 = .ok (.ireturn, 1) := by decide +kernel
theorem dL_clause_21 : decode cL_clause 21 = .ok (.iconst 0, 1) := by decide +kernel
theorem dL_clause_22 : decode cL_clause 22 = .ok (.ireturn, 1) := by decide +kernel
theorem dL_isTrue_0 : decode cL_isTrue 0 = .ok (.aload_n 2, 1) := by decide +kernel
theorem dL_isTrue_1 : decode cL_isTrue 1 = .ok (.iconst 0, 1) := by decide +kernel
theorem dL_isTrue_2 : decode cL_isTrue 2 = .ok (.aload_n 0, 1) := by decide +kernel
theorem dL_isTrue_3 : decode cL_isTrue 3 = .ok (.iload_n 1, 1) := by decide +kernel
theorem dL_isTrue_4 : decode cL_isTrue 4 = .ok (.invokevirtual 37, 3) := by decide +kernel
theorem dL_isTrue_7 : decode cL_isTrue 7 = .ok (.ifCond .eq 7, 3) := by decide +kernel
theorem dL_isTrue_10 : decode cL_isTrue 10 = .ok (.lconst 1, 1) := by decide +kernel
theorem dL_isTrue_11 : decode cL_isTrue 11 = .ok (.goto 4, 3) := by decide +kernel
theorem dL_isTrue_14 : decode cL_isTrue 14 = .ok (.lconst 0, 1) := by decide +kernel
theorem dL_isTrue_15 : decode cL_isTrue 15 = .ok (.lastore, 1) := by decide +kernel
theorem dL_isTrue_16 : decode cL_isTrue 16 = .ok (.goto 6, 3) := by decide +kernel
theorem dL_isTrue_19 : decode cL_isTrue 19 = .ok (.astore_n 3, 1) := by decide +kernel
theorem dL_isTrue_20 : decode cL_isTrue 20 = .ok (.iconst 1, 1) := by decide +kernel
theorem dL_isTrue_21 : decode cL_isTrue 21 = .ok (.ireturn, 1) := by decide +kernel
theorem dL_isTrue_22 : decode cL_isTrue 22 = .ok (.iconst 0, 1) := by decide +kernel
theorem dL_isTrue_23 : decode cL_isTrue 23 = .ok (.ireturn, 1) := by decide +kernel
theorem dL_value_0 : decode cL_value 0 = .ok (.aload_n 2, 1) := by decide +kernel
theorem dL_value_1 : decode cL_value 1 = .ok (.iconst 0, 1) := by decide +kernel
theorem dL_value_2 : decode cL_value 2 = .ok (.aload_n 0, 1) := by decide +kernel
theorem dL_value_3 : decode cL_value 3 = .ok (.iload_n 1, 1) := by decide +kernel
theorem dL_value_4 : decode cL_value 4 = .ok (.invokevirtual 40, 3) := by decide +kernel
theorem dL_value_7 : decode cL_value 7 = .ok (.i2l, 1) := by decide +kernel
theorem dL_value_8 : decode cL_value 8 = .ok (.lastore, 1) := by decide +kernel
theorem dL_value_9 : decode cL_value 9 = .ok (.goto 6, 3) := by decide +kernel
theorem dL_value_12 : decode cL_value 12 = .ok (.astore_n 3, 1) := by decide +kernel
theorem dL_value_13 : decode cL_value 13 = .ok (.iconst 1, 1) := by decide +kernel
theorem dL_value_14 : decode cL_value 14 = .ok (.ireturn, 1) := by decide +kernel
theorem dL_value_15 : decode cL_value 15 = .ok (.iconst 0, 1) := by decide +kernel
theorem dL_value_16 : decode cL_value 16 = .ok (.ireturn, 1) := by decide +kernel
theorem dL_winnerAt_0 : decode cL_winnerAt 0 = .ok (.aload_n 3, 1) := by decide +kernel
theorem dL_winnerAt_1 : decode cL_winnerAt 1 = .ok (.iconst 0, 1) := by decide +kernel
theorem dL_winnerAt_2 : decode cL_winnerAt 2 = .ok (.aload_n 0, 1) := by decide +kernel
theorem dL_winnerAt_3 : decode cL_winnerAt 3 = .ok (.iload_n 1, 1) := by decide +kernel
theorem dL_winnerAt_4 : decode cL_winnerAt 4 = .ok (.iload_n 2, 1) := by decide +kernel
theorem dL_winnerAt_5 : decode cL_winnerAt 5 = .ok (.invokevirtual 43, 3) := by decide +kernel
theorem dL_winnerAt_8 : decode cL_winnerAt 8 = .ok (.i2l, 1) := by decide +kernel
theorem dL_winnerAt_9 : decode cL_winnerAt 9 = .ok (.lastore, 1) := by decide +kernel
theorem dL_winnerAt_10 : decode cL_winnerAt 10 = .ok (.goto 11, 3) := by decide +kernel
theorem dL_winnerAt_13 : decode cL_winnerAt 13 = .ok (.astore 4, 2) := by decide +kernel
theorem dL_winnerAt_15 : decode cL_winnerAt 15 = .ok (.iconst 1, 1) := by decide +kernel
theorem dL_winnerAt_16 : decode cL_winnerAt 16 = .ok (.ireturn, 1) := by decide +kernel
theorem dL_winnerAt_17 : decode cL_winnerAt 17 = .ok (.astore 4, 2) := by decide +kernel
theorem dL_winnerAt_19 : decode cL_winnerAt 19 = .ok (.iconst 2, 1) := by decide +kernel
theorem dL_winnerAt_20 : decode cL_winnerAt 20 = .ok (.ireturn, 1) := by decide +kernel
theorem dL_winnerAt_21 : decode cL_winnerAt 21 = .ok (.iconst 0, 1) := by decide +kernel
theorem dL_winnerAt_22 : decode cL_winnerAt 22 = .ok (.ireturn, 1) := by decide +kernel
theorem dL_move_0 : decode cL_move 0 = .ok (.aload_n 3, 1) := by decide +kernel
theorem dL_move_1 : decode cL_move 1 = .ok (.iconst 0, 1) := by decide +kernel
theorem dL_move_2 : decode cL_move 2 = .ok (.aload_n 0, 1) := by decide +kernel
theorem dL_move_3 : decode cL_move 3 = .ok (.iload_n 1, 1) := by decide +kernel
theorem dL_move_4 : decode cL_move 4 = .ok (.iload_n 2, 1) := by decide +kernel
theorem dL_move_5 : decode cL_move 5 = .ok (.invokevirtual 46, 3) := by decide +kernel
theorem dL_move_8 : decode cL_move 8 = .ok (.i2l, 1) := by decide +kernel
theorem dL_move_9 : decode cL_move 9 = .ok (.lastore, 1) := by decide +kernel
theorem dL_move_10 : decode cL_move 10 = .ok (.goto 11, 3) := by decide +kernel
theorem dL_move_13 : decode cL_move 13 = .ok (.astore 4, 2) := by decide +kernel
theorem dL_move_15 : decode cL_move 15 = .ok (.iconst 1, 1) := by decide +kernel
theorem dL_move_16 : decode cL_move 16 = .ok (.ireturn, 1) := by decide +kernel
theorem dL_move_17 : decode cL_move 17 = .ok (.astore 4, 2) := by decide +kernel
theorem dL_move_19 : decode cL_move 19 = .ok (.iconst 2, 1) := by decide +kernel
theorem dL_move_20 : decode cL_move 20 = .ok (.ireturn, 1) := by decide +kernel
theorem dL_move_21 : decode cL_move 21 = .ok (.iconst 0, 1) := by decide +kernel
theorem dL_move_22 : decode cL_move 22 = .ok (.ireturn, 1) := by decide +kernel
theorem dL_ways_0 : decode cL_ways 0 = .ok (.aload_n 2, 1) := by decide +kernel
theorem dL_ways_1 : decode cL_ways 1 = .ok (.iconst 0, 1) := by decide +kernel
theorem dL_ways_2 : decode cL_ways 2 = .ok (.aload_n 0, 1) := by decide +kernel
theorem dL_ways_3 : decode cL_ways 3 = .ok (.iload_n 1, 1) := by decide +kernel
theorem dL_ways_4 : decode cL_ways 4 = .ok (.invokevirtual 49, 3) := by decide +kernel
theorem dL_ways_7 : decode cL_ways 7 = .ok (.i2l, 1) := by decide +kernel
theorem dL_ways_8 : decode cL_ways 8 = .ok (.lastore, 1) := by decide +kernel
theorem dL_ways_9 : decode cL_ways 9 = .ok (.goto 6, 3) := by decide +kernel
theorem dL_ways_12 : decode cL_ways 12 = .ok (.astore_n 3, 1) := by decide +kernel
theorem dL_ways_13 : decode cL_ways 13 = .ok (.iconst 1, 1) := by decide +kernel
theorem dL_ways_14 : decode cL_ways 14 = .ok (.ireturn, 1) := by decide +kernel
theorem dL_ways_15 : decode cL_ways 15 = .ok (.iconst 0, 1) := by decide +kernel
theorem dL_ways_16 : decode cL_ways 16 = .ok (.ireturn, 1) := by decide +kernel
theorem dL_beats_0 : decode cL_beats 0 = .ok (.aload_n 2, 1) := by decide +kernel
theorem dL_beats_1 : decode cL_beats 1 = .ok (.iconst 0, 1) := by decide +kernel
theorem dL_beats_2 : decode cL_beats 2 = .ok (.aload_n 0, 1) := by decide +kernel
theorem dL_beats_3 : decode cL_beats 3 = .ok (.iload_n 1, 1) := by decide +kernel
theorem dL_beats_4 : decode cL_beats 4 = .ok (.invokevirtual 52, 3) := by decide +kernel
theorem dL_beats_7 : decode cL_beats 7 = .ok (.ifCond .eq 7, 3) := by decide +kernel
theorem dL_beats_10 : decode cL_beats 10 = .ok (.lconst 1, 1) := by decide +kernel
theorem dL_beats_11 : decode cL_beats 11 = .ok (.goto 4, 3) := by decide +kernel
theorem dL_beats_14 : decode cL_beats 14 = .ok (.lconst 0, 1) := by decide +kernel
theorem dL_beats_15 : decode cL_beats 15 = .ok (.lastore, 1) := by decide +kernel
theorem dL_beats_16 : decode cL_beats 16 = .ok (.goto 6, 3) := by decide +kernel
theorem dL_beats_19 : decode cL_beats 19 = .ok (.astore_n 3, 1) := by decide +kernel
theorem dL_beats_20 : decode cL_beats 20 = .ok (.iconst 1, 1) := by decide +kernel
theorem dL_beats_21 : decode cL_beats 21 = .ok (.ireturn, 1) := by decide +kernel
theorem dL_beats_22 : decode cL_beats 22 = .ok (.iconst 0, 1) := by decide +kernel
theorem dL_beats_23 : decode cL_beats 23 = .ok (.ireturn, 1) := by decide +kernel
theorem dL_answer_0 : decode cL_answer 0 = .ok (.aload_n 3, 1) := by decide +kernel
theorem dL_answer_1 : decode cL_answer 1 = .ok (.iconst 0, 1) := by decide +kernel
theorem dL_answer_2 : decode cL_answer 2 = .ok (.aload_n 0, 1) := by decide +kernel
theorem dL_answer_3 : decode cL_answer 3 = .ok (.iload_n 1, 1) := by decide +kernel
theorem dL_answer_4 : decode cL_answer 4 = .ok (.iload_n 2, 1) := by decide +kernel
theorem dL_answer_5 : decode cL_answer 5 = .ok (.invokevirtual 55, 3) := by decide +kernel
theorem dL_answer_8 : decode cL_answer 8 = .ok (.i2l, 1) := by decide +kernel
theorem dL_answer_9 : decode cL_answer 9 = .ok (.lastore, 1) := by decide +kernel
theorem dL_answer_10 : decode cL_answer 10 = .ok (.goto 11, 3) := by decide +kernel
theorem dL_answer_13 : decode cL_answer 13 = .ok (.astore 4, 2) := by decide +kernel
theorem dL_answer_15 : decode cL_answer 15 = .ok (.iconst 1, 1) := by decide +kernel
theorem dL_answer_16 : decode cL_answer 16 = .ok (.ireturn, 1) := by decide +kernel
theorem dL_answer_17 : decode cL_answer 17 = .ok (.astore 4, 2) := by decide +kernel
theorem dL_answer_19 : decode cL_answer 19 = .ok (.iconst 2, 1) := by decide +kernel
theorem dL_answer_20 : decode cL_answer 20 = .ok (.ireturn, 1) := by decide +kernel
theorem dL_answer_21 : decode cL_answer 21 = .ok (.iconst 0, 1) := by decide +kernel
theorem dL_answer_22 : decode cL_answer 22 = .ok (.ireturn, 1) := by decide +kernel
theorem dL_append_0 : decode cL_append 0 = .ok (.aload_n 2, 1) := by decide +kernel
theorem dL_append_1 : decode cL_append 1 = .ok (.iconst 0, 1) := by decide +kernel
theorem dL_append_2 : decode cL_append 2 = .ok (.aload_n 0, 1) := by decide +kernel
theorem dL_append_3 : decode cL_append 3 = .ok (.iload_n 1, 1) := by decide +kernel
theorem dL_append_4 : decode cL_append 4 = .ok (.invokevirtual 58, 3) := by decide +kernel
theorem dL_append_7 : decode cL_append 7 = .ok (.i2l, 1) := by decide +kernel
theorem dL_append_8 : decode cL_append 8 = .ok (.lastore, 1) := by decide +kernel
theorem dL_append_9 : decode cL_append 9 = .ok (.goto 9, 3) := by decide +kernel
theorem dL_append_12 : decode cL_append 12 = .ok (.astore_n 3, 1) := by decide +kernel
theorem dL_append_13 : decode cL_append 13 = .ok (.iconst 1, 1) := by decide +kernel
theorem dL_append_14 : decode cL_append 14 = .ok (.ireturn, 1) := by decide +kernel
theorem dL_append_15 : decode cL_append 15 = .ok (.astore_n 3, 1) := by decide +kernel
theorem dL_append_16 : decode cL_append 16 = .ok (.iconst 2, 1) := by decide +kernel
theorem dL_append_17 : decode cL_append 17 = .ok (.ireturn, 1) := by decide +kernel
theorem dL_append_18 : decode cL_append 18 = .ok (.iconst 0, 1) := by decide +kernel
theorem dL_append_19 : decode cL_append 19 = .ok (.ireturn, 1) := by decide +kernel
theorem dL_undo_0 : decode cL_undo 0 = .ok (.aload_n 1, 1) := by decide +kernel
theorem dL_undo_1 : decode cL_undo 1 = .ok (.iconst 0, 1) := by decide +kernel
theorem dL_undo_2 : decode cL_undo 2 = .ok (.aload_n 0, 1) := by decide +kernel
theorem dL_undo_3 : decode cL_undo 3 = .ok (.invokevirtual 61, 3) := by decide +kernel
theorem dL_undo_6 : decode cL_undo 6 = .ok (.i2l, 1) := by decide +kernel
theorem dL_undo_7 : decode cL_undo 7 = .ok (.lastore, 1) := by decide +kernel
theorem dL_undo_8 : decode cL_undo 8 = .ok (.goto 6, 3) := by decide +kernel
theorem dL_undo_11 : decode cL_undo 11 = .ok (.astore_n 2, 1) := by decide +kernel
theorem dL_undo_12 : decode cL_undo 12 = .ok (.iconst 1, 1) := by decide +kernel
theorem dL_undo_13 : decode cL_undo 13 = .ok (.ireturn, 1) := by decide +kernel
theorem dL_undo_14 : decode cL_undo 14 = .ok (.iconst 0, 1) := by decide +kernel
theorem dL_undo_15 : decode cL_undo 15 = .ok (.ireturn, 1) := by decide +kernel
theorem dL_law_0 : decode cL_law 0 = .ok (.new 8, 3) := by decide +kernel
theorem dL_law_3 : decode cL_law 3 = .ok (.dup, 1) := by decide +kernel
theorem dL_law_4 : decode cL_law 4 = .ok (.invokespecial 65, 3) := by decide +kernel
theorem dL_law_7 : decode cL_law 7 = .ok (.astore_n 1, 1) := by decide +kernel
theorem dL_law_8 : decode cL_law 8 = .ok (.new 66, 3) := by decide +kernel
theorem dL_law_11 : decode cL_law 11 = .ok (.dup, 1) := by decide +kernel
theorem dL_law_12 : decode cL_law 12 = .ok (.invokespecial 68, 3) := by decide +kernel
theorem dL_law_15 : decode cL_law 15 = .ok (.astore_n 2, 1) := by decide +kernel
theorem dL_law_16 : decode cL_law 16 = .ok (.iconst 1, 1) := by decide +kernel
theorem dL_law_17 : decode cL_law 17 = .ok (.newarray .long, 2) := by decide +kernel
theorem dL_law_19 : decode cL_law 19 = .ok (.astore_n 3, 1) := by decide +kernel
theorem dL_law_20 : decode cL_law 20 = .ok (.iconst 0, 1) := by decide +kernel
theorem dL_law_21 : decode cL_law 21 = .ok (.istore 4, 2) := by decide +kernel
theorem dL_law_23 : decode cL_law 23 = .ok (.iload 4, 2) := by decide +kernel
theorem dL_law_25 : decode cL_law 25 = .ok (.aload_n 0, 1) := by decide +kernel
theorem dL_law_26 : decode cL_law 26 = .ok (.arraylength, 1) := by decide +kernel
theorem dL_law_27 : decode cL_law 27 = .ok (.iconst 3, 1) := by decide +kernel
theorem dL_law_28 : decode cL_law 28 = .ok (.isub, 1) := by decide +kernel
theorem dL_law_29 : decode cL_law 29 = .ok (.if_icmp .gt 1247, 3) := by decide +kernel
theorem dL_law_32 : decode cL_law 32 = .ok (.aload_n 0, 1) := by decide +kernel
theorem dL_law_33 : decode cL_law 33 = .ok (.iload 4, 2) := by decide +kernel
theorem dL_law_35 : decode cL_law 35 = .ok (.iaload, 1) := by decide +kernel
theorem dL_law_36 : decode cL_law 36 = .ok (.bipush 31, 2) := by decide +kernel
theorem dL_law_38 : decode cL_law 38 = .ok (.iand, 1) := by decide +kernel
theorem dL_law_39 : decode cL_law 39 = .ok (.tableswitch 1231 0 26 #[121, 134, 206, 274, 330, 386, 399, 412, 425, 488, 556, 619, 675, 688, 756, 824, 880, 943, 1011, 1024, 1037, 1050, 1091, 1147, 1160, 1173, 1217], 121) := by decide +kernel
theorem dL_law_160 : decode cL_law 160 = .ok (.aload_n 1, 1) := by decide +kernel
theorem dL_law_161 : decode cL_law 161 = .ok (.invokevirtual 69, 3) := by decide +kernel
theorem dL_law_164 : decode cL_law 164 = .ok (.aload_n 2, 1) := by decide +kernel
theorem dL_law_165 : decode cL_law 165 = .ok (.invokevirtual 72, 3) := by decide +kernel
theorem dL_law_168 : decode cL_law 168 = .ok (.if_icmp .eq 1102, 3) := by decide +kernel
theorem dL_law_171 : decode cL_law 171 = .ok (.iconst 0, 1) := by decide +kernel
theorem dL_law_172 : decode cL_law 172 = .ok (.ireturn, 1) := by decide +kernel
theorem dL_law_173 : decode cL_law 173 = .ok (.aload_n 1, 1) := by decide +kernel
theorem dL_law_174 : decode cL_law 174 = .ok (.aload_n 0, 1) := by decide +kernel
theorem dL_law_175 : decode cL_law 175 = .ok (.iload 4, 2) := by decide +kernel
theorem dL_law_177 : decode cL_law 177 = .ok (.iconst 1, 1) := by decide +kernel
theorem dL_law_178 : decode cL_law 178 = .ok (.iadd, 1) := by decide +kernel
theorem dL_law_179 : decode cL_law 179 = .ok (.iaload, 1) := by decide +kernel
theorem dL_law_180 : decode cL_law 180 = .ok (.ifCond .eq 7, 3) := by decide +kernel
theorem dL_law_183 : decode cL_law 183 = .ok (.iconst 1, 1) := by decide +kernel
theorem dL_law_184 : decode cL_law 184 = .ok (.goto 4, 3) := by decide +kernel
theorem dL_law_187 : decode cL_law 187 = .ok (.iconst 0, 1) := by decide +kernel
theorem dL_law_188 : decode cL_law 188 = .ok (.aload_n 3, 1) := by decide +kernel
theorem dL_law_189 : decode cL_law 189 = .ok (.invokestatic 73, 3) := by decide +kernel
theorem dL_law_192 : decode cL_law 192 = .ok (.istore 5, 2) := by decide +kernel
theorem dL_law_194 : decode cL_law 194 = .ok (.aload_n 2, 1) := by decide +kernel
theorem dL_law_195 : decode cL_law 195 = .ok (.aload_n 0, 1) := by decide +kernel
theorem dL_law_196 : decode cL_law 196 = .ok (.iload 4, 2) := by decide +kernel
theorem dL_law_198 : decode cL_law 198 = .ok (.iconst 1, 1) := by decide +kernel
theorem dL_law_199 : decode cL_law 199 = .ok (.iadd, 1) := by decide +kernel
theorem dL_law_200 : decode cL_law 200 = .ok (.iaload, 1) := by decide +kernel
theorem dL_law_201 : decode cL_law 201 = .ok (.ifCond .eq 7, 3) := by decide +kernel
theorem dL_law_204 : decode cL_law 204 = .ok (.iconst 1, 1) := by decide +kernel
theorem dL_law_205 : decode cL_law 205 = .ok (.goto 4, 3) := by decide +kernel
theorem dL_law_208 : decode cL_law 208 = .ok (.iconst 0, 1) := by decide +kernel
theorem dL_law_209 : decode cL_law 209 = .ok (.invokevirtual 78, 3) := by decide +kernel
theorem dL_law_212 : decode cL_law 212 = .ok (.istore 6, 2) := by decide +kernel
theorem dL_law_214 : decode cL_law 214 = .ok (.aload_n 2, 1) := by decide +kernel
theorem dL_law_215 : decode cL_law 215 = .ok (.invokevirtual 79, 3) := by decide +kernel
theorem dL_law_218 : decode cL_law 218 = .ok (.iload 5, 2) := by decide +kernel
theorem dL_law_220 : decode cL_law 220 = .ok (.if_icmp .eq 5, 3) := by decide +kernel
theorem dL_law_223 : decode cL_law 223 = .ok (.iconst 0, 1) := by decide +kernel
theorem dL_law_224 : decode cL_law 224 = .ok (.ireturn, 1) := by decide +kernel
theorem dL_law_225 : decode cL_law 225 = .ok (.iload 5, 2) := by decide +kernel
theorem dL_law_227 : decode cL_law 227 = .ok (.ifCond .ne 15, 3) := by decide +kernel
theorem dL_law_230 : decode cL_law 230 = .ok (.aload_n 3, 1) := by decide +kernel
theorem dL_law_231 : decode cL_law 231 = .ok (.iconst 0, 1) := by decide +kernel
theorem dL_law_232 : decode cL_law 232 = .ok (.laload, 1) := by decide +kernel
theorem dL_law_233 : decode cL_law 233 = .ok (.iload 6, 2) := by decide +kernel
theorem dL_law_235 : decode cL_law 235 = .ok (.i2l, 1) := by decide +kernel
theorem dL_law_236 : decode cL_law 236 = .ok (.lcmp, 1) := by decide +kernel
theorem dL_law_237 : decode cL_law 237 = .ok (.ifCond .eq 5, 3) := by decide +kernel
theorem dL_law_240 : decode cL_law 240 = .ok (.iconst 0, 1) := by decide +kernel
theorem dL_law_241 : decode cL_law 241 = .ok (.ireturn, 1) := by decide +kernel
theorem dL_law_242 : decode cL_law 242 = .ok (.goto 1028, 3) := by decide +kernel
theorem dL_law_245 : decode cL_law 245 = .ok (.aload_n 1, 1) := by decide +kernel
theorem dL_law_246 : decode cL_law 246 = .ok (.aload_n 0, 1) := by decide +kernel
theorem dL_law_247 : decode cL_law 247 = .ok (.iload 4, 2) := by decide +kernel
theorem dL_law_249 : decode cL_law 249 = .ok (.iconst 1, 1) := by decide +kernel
theorem dL_law_250 : decode cL_law 250 = .ok (.iadd, 1) := by decide +kernel
theorem dL_law_251 : decode cL_law 251 = .ok (.iaload, 1) := by decide +kernel
theorem dL_law_252 : decode cL_law 252 = .ok (.aload_n 0, 1) := by decide +kernel
theorem dL_law_253 : decode cL_law 253 = .ok (.iload 4, 2) := by decide +kernel
theorem dL_law_255 : decode cL_law 255 = .ok (.iconst 2, 1) := by decide +kernel
theorem dL_law_256 : decode cL_law 256 = .ok (.iadd, 1) := by decide +kernel
theorem dL_law_257 : decode cL_law 257 = .ok (.iaload, 1) := by decide +kernel
theorem dL_law_258 : decode cL_law 258 = .ok (.aload_n 3, 1) := by decide +kernel
theorem dL_law_259 : decode cL_law 259 = .ok (.invokestatic 82, 3) := by decide +kernel
theorem dL_law_262 : decode cL_law 262 = .ok (.istore 5, 2) := by decide +kernel
theorem dL_law_264 : decode cL_law 264 = .ok (.aload_n 2, 1) := by decide +kernel
theorem dL_law_265 : decode cL_law 265 = .ok (.aload_n 0, 1) := by decide +kernel
theorem dL_law_266 : decode cL_law 266 = .ok (.iload 4, 2) := by decide +kernel
theorem dL_law_268 : decode cL_law 268 = .ok (.iconst 1, 1) := by decide +kernel
theorem dL_law_269 : decode cL_law 269 = .ok (.iadd, 1) := by decide +kernel
theorem dL_law_270 : decode cL_law 270 = .ok (.iaload, 1) := by decide +kernel
theorem dL_law_271 : decode cL_law 271 = .ok (.aload_n 0, 1) := by decide +kernel
theorem dL_law_272 : decode cL_law 272 = .ok (.iload 4, 2) := by decide +kernel
theorem dL_law_274 : decode cL_law 274 = .ok (.iconst 2, 1) := by decide +kernel
theorem dL_law_275 : decode cL_law 275 = .ok (.iadd, 1) := by decide +kernel
theorem dL_law_276 : decode cL_law 276 = .ok (.iaload, 1) := by decide +kernel
theorem dL_law_277 : decode cL_law 277 = .ok (.invokevirtual 85, 3) := by decide +kernel
theorem dL_law_280 : decode cL_law 280 = .ok (.istore 6, 2) := by decide +kernel
theorem dL_law_282 : decode cL_law 282 = .ok (.aload_n 2, 1) := by decide +kernel
theorem dL_law_283 : decode cL_law 283 = .ok (.invokevirtual 79, 3) := by decide +kernel
theorem dL_law_286 : decode cL_law 286 = .ok (.iload 5, 2) := by decide +kernel
theorem dL_law_288 : decode cL_law 288 = .ok (.if_icmp .eq 5, 3) := by decide +kernel
theorem dL_law_291 : decode cL_law 291 = .ok (.iconst 0, 1) := by decide +kernel
theorem dL_law_292 : decode cL_law 292 = .ok (.ireturn, 1) := by decide +kernel
theorem dL_law_293 : decode cL_law 293 = .ok (.iload 5, 2) := by decide +kernel
theorem dL_law_295 : decode cL_law 295 = .ok (.ifCond .ne 15, 3) := by decide +kernel
theorem dL_law_298 : decode cL_law 298 = .ok (.aload_n 3, 1) := by decide +kernel
theorem dL_law_299 : decode cL_law 299 = .ok (.iconst 0, 1) := by decide +kernel
theorem dL_law_300 : decode cL_law 300 = .ok (.laload, 1) := by decide +kernel
theorem dL_law_301 : decode cL_law 301 = .ok (.iload 6, 2) := by decide +kernel
theorem dL_law_303 : decode cL_law 303 = .ok (.i2l, 1) := by decide +kernel
theorem dL_law_304 : decode cL_law 304 = .ok (.lcmp, 1) := by decide +kernel
theorem dL_law_305 : decode cL_law 305 = .ok (.ifCond .eq 5, 3) := by decide +kernel
theorem dL_law_308 : decode cL_law 308 = .ok (.iconst 0, 1) := by decide +kernel
theorem dL_law_309 : decode cL_law 309 = .ok (.ireturn, 1) := by decide +kernel
theorem dL_law_310 : decode cL_law 310 = .ok (.goto 960, 3) := by decide +kernel
theorem dL_law_313 : decode cL_law 313 = .ok (.aload_n 1, 1) := by decide +kernel
theorem dL_law_314 : decode cL_law 314 = .ok (.aload_n 0, 1) := by decide +kernel
theorem dL_law_315 : decode cL_law 315 = .ok (.iload 4, 2) := by decide +kernel
theorem dL_law_317 : decode cL_law 317 = .ok (.iconst 1, 1) := by decide +kernel
theorem dL_law_318 : decode cL_law 318 = .ok (.iadd, 1) := by decide +kernel
theorem dL_law_319 : decode cL_law 319 = .ok (.iaload, 1) := by decide +kernel
theorem dL_law_320 : decode cL_law 320 = .ok (.aload_n 3, 1) := by decide +kernel
theorem dL_law_321 : decode cL_law 321 = .ok (.invokestatic 86, 3) := by decide +kernel
theorem dL_law_324 : decode cL_law 324 = .ok (.istore 5, 2) := by decide +kernel
theorem dL_law_326 : decode cL_law 326 = .ok (.aload_n 2, 1) := by decide +kernel
theorem dL_law_327 : decode cL_law 327 = .ok (.aload_n 0, 1) := by decide +kernel
theorem dL_law_328 : decode cL_law 328 = .ok (.iload 4, 2) := by decide +kernel
theorem dL_law_330 : decode cL_law 330 = .ok (.iconst 1, 1) := by decide +kernel
theorem dL_law_331 : decode cL_law 331 = .ok (.iadd, 1) := by decide +kernel
theorem dL_law_332 : decode cL_law 332 = .ok (.iaload, 1) := by decide +kernel
theorem dL_law_333 : decode cL_law 333 = .ok (.invokevirtual 89, 3) := by decide +kernel
theorem dL_law_336 : decode cL_law 336 = .ok (.istore 6, 2) := by decide +kernel
theorem dL_law_338 : decode cL_law 338 = .ok (.aload_n 2, 1) := by decide +kernel
theorem dL_law_339 : decode cL_law 339 = .ok (.invokevirtual 79, 3) := by decide +kernel
theorem dL_law_342 : decode cL_law 342 = .ok (.iload 5, 2) := by decide +kernel
theorem dL_law_344 : decode cL_law 344 = .ok (.if_icmp .eq 5, 3) := by decide +kernel
theorem dL_law_347 : decode cL_law 347 = .ok (.iconst 0, 1) := by decide +kernel
theorem dL_law_348 : decode cL_law 348 = .ok (.ireturn, 1) := by decide +kernel
theorem dL_law_349 : decode cL_law 349 = .ok (.iload 5, 2) := by decide +kernel
theorem dL_law_351 : decode cL_law 351 = .ok (.ifCond .ne 15, 3) := by decide +kernel
theorem dL_law_354 : decode cL_law 354 = .ok (.aload_n 3, 1) := by decide +kernel
theorem dL_law_355 : decode cL_law 355 = .ok (.iconst 0, 1) := by decide +kernel
theorem dL_law_356 : decode cL_law 356 = .ok (.laload, 1) := by decide +kernel
theorem dL_law_357 : decode cL_law 357 = .ok (.iload 6, 2) := by decide +kernel
theorem dL_law_359 : decode cL_law 359 = .ok (.i2l, 1) := by decide +kernel
theorem dL_law_360 : decode cL_law 360 = .ok (.lcmp, 1) := by decide +kernel
theorem dL_law_361 : decode cL_law 361 = .ok (.ifCond .eq 5, 3) := by decide +kernel
theorem dL_law_364 : decode cL_law 364 = .ok (.iconst 0, 1) := by decide +kernel
theorem dL_law_365 : decode cL_law 365 = .ok (.ireturn, 1) := by decide +kernel
theorem dL_law_366 : decode cL_law 366 = .ok (.goto 904, 3) := by decide +kernel
theorem dL_law_369 : decode cL_law 369 = .ok (.aload_n 1, 1) := by decide +kernel
theorem dL_law_370 : decode cL_law 370 = .ok (.aload_n 0, 1) := by decide +kernel
theorem dL_law_371 : decode cL_law 371 = .ok (.iload 4, 2) := by decide +kernel
theorem dL_law_373 : decode cL_law 373 = .ok (.iconst 1, 1) := by decide +kernel
theorem dL_law_374 : decode cL_law 374 = .ok (.iadd, 1) := by decide +kernel
theorem dL_law_375 : decode cL_law 375 = .ok (.iaload, 1) := by decide +kernel
theorem dL_law_376 : decode cL_law 376 = .ok (.aload_n 3, 1) := by decide +kernel
theorem dL_law_377 : decode cL_law 377 = .ok (.invokestatic 90, 3) := by decide +kernel
theorem dL_law_380 : decode cL_law 380 = .ok (.istore 5, 2) := by decide +kernel
theorem dL_law_382 : decode cL_law 382 = .ok (.aload_n 2, 1) := by decide +kernel
theorem dL_law_383 : decode cL_law 383 = .ok (.aload_n 0, 1) := by decide +kernel
theorem dL_law_384 : decode cL_law 384 = .ok (.iload 4, 2) := by decide +kernel
theorem dL_law_386 : decode cL_law 386 = .ok (.iconst 1, 1) := by decide +kernel
theorem dL_law_387 : decode cL_law 387 = .ok (.iadd, 1) := by decide +kernel
theorem dL_law_388 : decode cL_law 388 = .ok (.iaload, 1) := by decide +kernel
theorem dL_law_389 : decode cL_law 389 = .ok (.invokevirtual 92, 3) := by decide +kernel
theorem dL_law_392 : decode cL_law 392 = .ok (.istore 6, 2) := by decide +kernel
theorem dL_law_394 : decode cL_law 394 = .ok (.aload_n 2, 1) := by decide +kernel
theorem dL_law_395 : decode cL_law 395 = .ok (.invokevirtual 79, 3) := by decide +kernel
theorem dL_law_398 : decode cL_law 398 = .ok (.iload 5, 2) := by decide +kernel
theorem dL_law_400 : decode cL_law 400 = .ok (.if_icmp .eq 5, 3) := by decide +kernel
theorem dL_law_403 : decode cL_law 403 = .ok (.iconst 0, 1) := by decide +kernel
theorem dL_law_404 : decode cL_law 404 = .ok (.ireturn, 1) := by decide +kernel
theorem dL_law_405 : decode cL_law 405 = .ok (.iload 5, 2) := by decide +kernel
theorem dL_law_407 : decode cL_law 407 = .ok (.ifCond .ne 15, 3) := by decide +kernel
theorem dL_law_410 : decode cL_law 410 = .ok (.aload_n 3, 1) := by decide +kernel
theorem dL_law_411 : decode cL_law 411 = .ok (.iconst 0, 1) := by decide +kernel
theorem dL_law_412 : decode cL_law 412 = .ok (.laload, 1) := by decide +kernel
theorem dL_law_413 : decode cL_law 413 = .ok (.iload 6, 2) := by decide +kernel
theorem dL_law_415 : decode cL_law 415 = .ok (.i2l, 1) := by decide +kernel
theorem dL_law_416 : decode cL_law 416 = .ok (.lcmp, 1) := by decide +kernel
theorem dL_law_417 : decode cL_law 417 = .ok (.ifCond .eq 5, 3) := by decide +kernel
theorem dL_law_420 : decode cL_law 420 = .ok (.iconst 0, 1) := by decide +kernel
theorem dL_law_421 : decode cL_law 421 = .ok (.ireturn, 1) := by decide +kernel
theorem dL_law_422 : decode cL_law 422 = .ok (.goto 848, 3) := by decide +kernel
theorem dL_law_425 : decode cL_law 425 = .ok (.aload_n 1, 1) := by decide +kernel
theorem dL_law_426 : decode cL_law 426 = .ok (.invokevirtual 93, 3) := by decide +kernel
theorem dL_law_429 : decode cL_law 429 = .ok (.aload_n 2, 1) := by decide +kernel
theorem dL_law_430 : decode cL_law 430 = .ok (.invokevirtual 96, 3) := by decide +kernel
theorem dL_law_433 : decode cL_law 433 = .ok (.if_icmp .eq 837, 3) := by decide +kernel
theorem dL_law_436 : decode cL_law 436 = .ok (.iconst 0, 1) := by decide +kernel
theorem dL_law_437 : decode cL_law 437 = .ok (.ireturn, 1) := by decide +kernel
theorem dL_law_438 : decode cL_law 438 = .ok (.aload_n 1, 1) := by decide +kernel
theorem dL_law_439 : decode cL_law 439 = .ok (.invokevirtual 97, 3) := by decide +kernel
theorem dL_law_442 : decode cL_law 442 = .ok (.aload_n 2, 1) := by decide +kernel
theorem dL_law_443 : decode cL_law 443 = .ok (.invokevirtual 100, 3) := by decide +kernel
theorem dL_law_446 : decode cL_law 446 = .ok (.if_icmp .eq 824, 3) := by decide +kernel
theorem dL_law_449 : decode cL_law 449 = .ok (.iconst 0, 1) := by decide +kernel
theorem dL_law_450 : decode cL_law 450 = .ok (.ireturn, 1) := by decide +kernel
theorem dL_law_451 : decode cL_law 451 = .ok (.aload_n 1, 1) := by decide +kernel
theorem dL_law_452 : decode cL_law 452 = .ok (.invokevirtual 101, 3) := by decide +kernel
theorem dL_law_455 : decode cL_law 455 = .ok (.aload_n 2, 1) := by decide +kernel
theorem dL_law_456 : decode cL_law 456 = .ok (.invokevirtual 104, 3) := by decide +kernel
theorem dL_law_459 : decode cL_law 459 = .ok (.if_icmp .eq 811, 3) := by decide +kernel
theorem dL_law_462 : decode cL_law 462 = .ok (.iconst 0, 1) := by decide +kernel
theorem dL_law_463 : decode cL_law 463 = .ok (.ireturn, 1) := by decide +kernel
theorem dL_law_464 : decode cL_law 464 = .ok (.aload_n 1, 1) := by decide +kernel
theorem dL_law_465 : decode cL_law 465 = .ok (.aload_n 0, 1) := by decide +kernel
theorem dL_law_466 : decode cL_law 466 = .ok (.iload 4, 2) := by decide +kernel
theorem dL_law_468 : decode cL_law 468 = .ok (.iconst 1, 1) := by decide +kernel
theorem dL_law_469 : decode cL_law 469 = .ok (.iadd, 1) := by decide +kernel
theorem dL_law_470 : decode cL_law 470 = .ok (.iaload, 1) := by decide +kernel
theorem dL_law_471 : decode cL_law 471 = .ok (.aload_n 3, 1) := by decide +kernel
theorem dL_law_472 : decode cL_law 472 = .ok (.invokestatic 105, 3) := by decide +kernel
theorem dL_law_475 : decode cL_law 475 = .ok (.istore 5, 2) := by decide +kernel
theorem dL_law_477 : decode cL_law 477 = .ok (.aload_n 2, 1) := by decide +kernel
theorem dL_law_478 : decode cL_law 478 = .ok (.aload_n 0, 1) := by decide +kernel
theorem dL_law_479 : decode cL_law 479 = .ok (.iload 4, 2) := by decide +kernel
theorem dL_law_481 : decode cL_law 481 = .ok (.iconst 1, 1) := by decide +kernel
theorem dL_law_482 : decode cL_law 482 = .ok (.iadd, 1) := by decide +kernel
theorem dL_law_483 : decode cL_law 483 = .ok (.iaload, 1) := by decide +kernel
theorem dL_law_484 : decode cL_law 484 = .ok (.invokevirtual 107, 3) := by decide +kernel
theorem dL_law_487 : decode cL_law 487 = .ok (.istore 6, 2) := by decide +kernel
theorem dL_law_489 : decode cL_law 489 = .ok (.aload_n 2, 1) := by decide +kernel
theorem dL_law_490 : decode cL_law 490 = .ok (.invokevirtual 79, 3) := by decide +kernel
theorem dL_law_493 : decode cL_law 493 = .ok (.iload 5, 2) := by decide +kernel
theorem dL_law_495 : decode cL_law 495 = .ok (.if_icmp .eq 5, 3) := by decide +kernel
theorem dL_law_498 : decode cL_law 498 = .ok (.iconst 0, 1) := by decide +kernel
theorem dL_law_499 : decode cL_law 499 = .ok (.ireturn, 1) := by decide +kernel
theorem dL_law_500 : decode cL_law 500 = .ok (.iload 5, 2) := by decide +kernel
theorem dL_law_502 : decode cL_law 502 = .ok (.ifCond .ne 22, 3) := by decide +kernel
theorem dL_law_505 : decode cL_law 505 = .ok (.aload_n 3, 1) := by decide +kernel
theorem dL_law_506 : decode cL_law 506 = .ok (.iconst 0, 1) := by decide +kernel
theorem dL_law_507 : decode cL_law 507 = .ok (.laload, 1) := by decide +kernel
theorem dL_law_508 : decode cL_law 508 = .ok (.iload 6, 2) := by decide +kernel
theorem dL_law_510 : decode cL_law 510 = .ok (.ifCond .eq 7, 3) := by decide +kernel
theorem dL_law_513 : decode cL_law 513 = .ok (.lconst 1, 1) := by decide +kernel
theorem dL_law_514 : decode cL_law 514 = .ok (.goto 4, 3) := by decide +kernel
theorem dL_law_517 : decode cL_law 517 = .ok (.lconst 0, 1) := by decide +kernel
theorem dL_law_518 : decode cL_law 518 = .ok (.lcmp, 1) := by decide +kernel
theorem dL_law_519 : decode cL_law 519 = .ok (.ifCond .eq 5, 3) := by decide +kernel
theorem dL_law_522 : decode cL_law 522 = .ok (.iconst 0, 1) := by decide +kernel
theorem dL_law_523 : decode cL_law 523 = .ok (.ireturn, 1) := by decide +kernel
theorem dL_law_524 : decode cL_law 524 = .ok (.goto 746, 3) := by decide +kernel
theorem dL_law_527 : decode cL_law 527 = .ok (.aload_n 1, 1) := by decide +kernel
theorem dL_law_528 : decode cL_law 528 = .ok (.aload_n 0, 1) := by decide +kernel
theorem dL_law_529 : decode cL_law 529 = .ok (.iload 4, 2) := by decide +kernel
theorem dL_law_531 : decode cL_law 531 = .ok (.iconst 1, 1) := by decide +kernel
theorem dL_law_532 : decode cL_law 532 = .ok (.iadd, 1) := by decide +kernel
theorem dL_law_533 : decode cL_law 533 = .ok (.iaload, 1) := by decide +kernel
theorem dL_law_534 : decode cL_law 534 = .ok (.aload_n 0, 1) := by decide +kernel
theorem dL_law_535 : decode cL_law 535 = .ok (.iload 4, 2) := by decide +kernel
theorem dL_law_537 : decode cL_law 537 = .ok (.iconst 2, 1) := by decide +kernel
theorem dL_law_538 : decode cL_law 538 = .ok (.iadd, 1) := by decide +kernel
theorem dL_law_539 : decode cL_law 539 = .ok (.iaload, 1) := by decide +kernel
theorem dL_law_540 : decode cL_law 540 = .ok (.aload_n 3, 1) := by decide +kernel
theorem dL_law_541 : decode cL_law 541 = .ok (.invokestatic 108, 3) := by decide +kernel
theorem dL_law_544 : decode cL_law 544 = .ok (.istore 5, 2) := by decide +kernel
theorem dL_law_546 : decode cL_law 546 = .ok (.aload_n 2, 1) := by decide +kernel
theorem dL_law_547 : decode cL_law 547 = .ok (.aload_n 0, 1) := by decide +kernel
theorem dL_law_548 : decode cL_law 548 = .ok (.iload 4, 2) := by decide +kernel
theorem dL_law_550 : decode cL_law 550 = .ok (.iconst 1, 1) := by decide +kernel
theorem dL_law_551 : decode cL_law 551 = .ok (.iadd, 1) := by decide +kernel
theorem dL_law_552 : decode cL_law 552 = .ok (.iaload, 1) := by decide +kernel
theorem dL_law_553 : decode cL_law 553 = .ok (.aload_n 0, 1) := by decide +kernel
theorem dL_law_554 : decode cL_law 554 = .ok (.iload 4, 2) := by decide +kernel
theorem dL_law_556 : decode cL_law 556 = .ok (.iconst 2, 1) := by decide +kernel
theorem dL_law_557 : decode cL_law 557 = .ok (.iadd, 1) := by decide +kernel
theorem dL_law_558 : decode cL_law 558 = .ok (.iaload, 1) := by decide +kernel
theorem dL_law_559 : decode cL_law 559 = .ok (.invokevirtual 110, 3) := by decide +kernel
theorem dL_law_562 : decode cL_law 562 = .ok (.istore 6, 2) := by decide +kernel
theorem dL_law_564 : decode cL_law 564 = .ok (.aload_n 2, 1) := by decide +kernel
theorem dL_law_565 : decode cL_law 565 = .ok (.invokevirtual 79, 3) := by decide +kernel
theorem dL_law_568 : decode cL_law 568 = .ok (.iload 5, 2) := by decide +kernel
theorem dL_law_570 : decode cL_law 570 = .ok (.if_icmp .eq 5, 3) := by decide +kernel
theorem dL_law_573 : decode cL_law 573 = .ok (.iconst 0, 1) := by decide +kernel
theorem dL_law_574 : decode cL_law 574 = .ok (.ireturn, 1) := by decide +kernel
theorem dL_law_575 : decode cL_law 575 = .ok (.iload 5, 2) := by decide +kernel
theorem dL_law_577 : decode cL_law 577 = .ok (.ifCond .ne 15, 3) := by decide +kernel
theorem dL_law_580 : decode cL_law 580 = .ok (.aload_n 3, 1) := by decide +kernel
theorem dL_law_581 : decode cL_law 581 = .ok (.iconst 0, 1) := by decide +kernel
theorem dL_law_582 : decode cL_law 582 = .ok (.laload, 1) := by decide +kernel
theorem dL_law_583 : decode cL_law 583 = .ok (.iload 6, 2) := by decide +kernel
theorem dL_law_585 : decode cL_law 585 = .ok (.i2l, 1) := by decide +kernel
theorem dL_law_586 : decode cL_law 586 = .ok (.lcmp, 1) := by decide +kernel
theorem dL_law_587 : decode cL_law 587 = .ok (.ifCond .eq 5, 3) := by decide +kernel
theorem dL_law_590 : decode cL_law 590 = .ok (.iconst 0, 1) := by decide +kernel
theorem dL_law_591 : decode cL_law 591 = .ok (.ireturn, 1) := by decide +kernel
theorem dL_law_592 : decode cL_law 592 = .ok (.goto 678, 3) := by decide +kernel
theorem dL_law_595 : decode cL_law 595 = .ok (.aload_n 1, 1) := by decide +kernel
theorem dL_law_596 : decode cL_law 596 = .ok (.aload_n 0, 1) := by decide +kernel
theorem dL_law_597 : decode cL_law 597 = .ok (.iload 4, 2) := by decide +kernel
theorem dL_law_599 : decode cL_law 599 = .ok (.iconst 1, 1) := by decide +kernel
theorem dL_law_600 : decode cL_law 600 = .ok (.iadd, 1) := by decide +kernel
theorem dL_law_601 : decode cL_law 601 = .ok (.iaload, 1) := by decide +kernel
theorem dL_law_602 : decode cL_law 602 = .ok (.aload_n 3, 1) := by decide +kernel
theorem dL_law_603 : decode cL_law 603 = .ok (.invokestatic 111, 3) := by decide +kernel
theorem dL_law_606 : decode cL_law 606 = .ok (.istore 5, 2) := by decide +kernel
theorem dL_law_608 : decode cL_law 608 = .ok (.aload_n 2, 1) := by decide +kernel
theorem dL_law_609 : decode cL_law 609 = .ok (.aload_n 0, 1) := by decide +kernel
theorem dL_law_610 : decode cL_law 610 = .ok (.iload 4, 2) := by decide +kernel
theorem dL_law_612 : decode cL_law 612 = .ok (.iconst 1, 1) := by decide +kernel
theorem dL_law_613 : decode cL_law 613 = .ok (.iadd, 1) := by decide +kernel
theorem dL_law_614 : decode cL_law 614 = .ok (.iaload, 1) := by decide +kernel
theorem dL_law_615 : decode cL_law 615 = .ok (.invokevirtual 113, 3) := by decide +kernel
theorem dL_law_618 : decode cL_law 618 = .ok (.istore 6, 2) := by decide +kernel
theorem dL_law_620 : decode cL_law 620 = .ok (.aload_n 2, 1) := by decide +kernel
theorem dL_law_621 : decode cL_law 621 = .ok (.invokevirtual 79, 3) := by decide +kernel
theorem dL_law_624 : decode cL_law 624 = .ok (.iload 5, 2) := by decide +kernel
theorem dL_law_626 : decode cL_law 626 = .ok (.if_icmp .eq 5, 3) := by decide +kernel
theorem dL_law_629 : decode cL_law 629 = .ok (.iconst 0, 1) := by decide +kernel
theorem dL_law_630 : decode cL_law 630 = .ok (.ireturn, 1) := by decide +kernel
theorem dL_law_631 : decode cL_law 631 = .ok (.iload 5, 2) := by decide +kernel
theorem dL_law_633 : decode cL_law 633 = .ok (.ifCond .ne 22, 3) := by decide +kernel
theorem dL_law_636 : decode cL_law 636 = .ok (.aload_n 3, 1) := by decide +kernel
theorem dL_law_637 : decode cL_law 637 = .ok (.iconst 0, 1) := by decide +kernel
theorem dL_law_638 : decode cL_law 638 = .ok (.laload, 1) := by decide +kernel
theorem dL_law_639 : decode cL_law 639 = .ok (.iload 6, 2) := by decide +kernel
theorem dL_law_641 : decode cL_law 641 = .ok (.ifCond .eq 7, 3) := by decide +kernel
theorem dL_law_644 : decode cL_law 644 = .ok (.lconst 1, 1) := by decide +kernel
theorem dL_law_645 : decode cL_law 645 = .ok (.goto 4, 3) := by decide +kernel
theorem dL_law_648 : decode cL_law 648 = .ok (.lconst 0, 1) := by decide +kernel
theorem dL_law_649 : decode cL_law 649 = .ok (.lcmp, 1) := by decide +kernel
theorem dL_law_650 : decode cL_law 650 = .ok (.ifCond .eq 5, 3) := by decide +kernel
theorem dL_law_653 : decode cL_law 653 = .ok (.iconst 0, 1) := by decide +kernel
theorem dL_law_654 : decode cL_law 654 = .ok (.ireturn, 1) := by decide +kernel
theorem dL_law_655 : decode cL_law 655 = .ok (.goto 615, 3) := by decide +kernel
theorem dL_law_658 : decode cL_law 658 = .ok (.aload_n 1, 1) := by decide +kernel
theorem dL_law_659 : decode cL_law 659 = .ok (.aload_n 0, 1) := by decide +kernel
theorem dL_law_660 : decode cL_law 660 = .ok (.iload 4, 2) := by decide +kernel
theorem dL_law_662 : decode cL_law 662 = .ok (.iconst 1, 1) := by decide +kernel
theorem dL_law_663 : decode cL_law 663 = .ok (.iadd, 1) := by decide +kernel
theorem dL_law_664 : decode cL_law 664 = .ok (.iaload, 1) := by decide +kernel
theorem dL_law_665 : decode cL_law 665 = .ok (.aload_n 3, 1) := by decide +kernel
theorem dL_law_666 : decode cL_law 666 = .ok (.invokestatic 114, 3) := by decide +kernel
theorem dL_law_669 : decode cL_law 669 = .ok (.istore 5, 2) := by decide +kernel
theorem dL_law_671 : decode cL_law 671 = .ok (.aload_n 2, 1) := by decide +kernel
theorem dL_law_672 : decode cL_law 672 = .ok (.aload_n 0, 1) := by decide +kernel
theorem dL_law_673 : decode cL_law 673 = .ok (.iload 4, 2) := by decide +kernel
theorem dL_law_675 : decode cL_law 675 = .ok (.iconst 1, 1) := by decide +kernel
theorem dL_law_676 : decode cL_law 676 = .ok (.iadd, 1) := by decide +kernel
theorem dL_law_677 : decode cL_law 677 = .ok (.iaload, 1) := by decide +kernel
theorem dL_law_678 : decode cL_law 678 = .ok (.invokevirtual 116, 3) := by decide +kernel
theorem dL_law_681 : decode cL_law 681 = .ok (.istore 6, 2) := by decide +kernel
theorem dL_law_683 : decode cL_law 683 = .ok (.aload_n 2, 1) := by decide +kernel
theorem dL_law_684 : decode cL_law 684 = .ok (.invokevirtual 79, 3) := by decide +kernel
theorem dL_law_687 : decode cL_law 687 = .ok (.iload 5, 2) := by decide +kernel
theorem dL_law_689 : decode cL_law 689 = .ok (.if_icmp .eq 5, 3) := by decide +kernel
theorem dL_law_692 : decode cL_law 692 = .ok (.iconst 0, 1) := by decide +kernel
theorem dL_law_693 : decode cL_law 693 = .ok (.ireturn, 1) := by decide +kernel
theorem dL_law_694 : decode cL_law 694 = .ok (.iload 5, 2) := by decide +kernel
theorem dL_law_696 : decode cL_law 696 = .ok (.ifCond .ne 15, 3) := by decide +kernel
theorem dL_law_699 : decode cL_law 699 = .ok (.aload_n 3, 1) := by decide +kernel
theorem dL_law_700 : decode cL_law 700 = .ok (.iconst 0, 1) := by decide +kernel
theorem dL_law_701 : decode cL_law 701 = .ok (.laload, 1) := by decide +kernel
theorem dL_law_702 : decode cL_law 702 = .ok (.iload 6, 2) := by decide +kernel
theorem dL_law_704 : decode cL_law 704 = .ok (.i2l, 1) := by decide +kernel
theorem dL_law_705 : decode cL_law 705 = .ok (.lcmp, 1) := by decide +kernel
theorem dL_law_706 : decode cL_law 706 = .ok (.ifCond .eq 5, 3) := by decide +kernel
theorem dL_law_709 : decode cL_law 709 = .ok (.iconst 0, 1) := by decide +kernel
theorem dL_law_710 : decode cL_law 710 = .ok (.ireturn, 1) := by decide +kernel
theorem dL_law_711 : decode cL_law 711 = .ok (.goto 559, 3) := by decide +kernel
theorem dL_law_714 : decode cL_law 714 = .ok (.aload_n 1, 1) := by decide +kernel
theorem dL_law_715 : decode cL_law 715 = .ok (.invokevirtual 117, 3) := by decide +kernel
theorem dL_law_718 : decode cL_law 718 = .ok (.aload_n 2, 1) := by decide +kernel
theorem dL_law_719 : decode cL_law 719 = .ok (.invokevirtual 120, 3) := by decide +kernel
theorem dL_law_722 : decode cL_law 722 = .ok (.if_icmp .eq 548, 3) := by decide +kernel
theorem dL_law_725 : decode cL_law 725 = .ok (.iconst 0, 1) := by decide +kernel
theorem dL_law_726 : decode cL_law 726 = .ok (.ireturn, 1) := by decide +kernel
theorem dL_law_727 : decode cL_law 727 = .ok (.aload_n 1, 1) := by decide +kernel
theorem dL_law_728 : decode cL_law 728 = .ok (.aload_n 0, 1) := by decide +kernel
theorem dL_law_729 : decode cL_law 729 = .ok (.iload 4, 2) := by decide +kernel
theorem dL_law_731 : decode cL_law 731 = .ok (.iconst 1, 1) := by decide +kernel
theorem dL_law_732 : decode cL_law 732 = .ok (.iadd, 1) := by decide +kernel
theorem dL_law_733 : decode cL_law 733 = .ok (.iaload, 1) := by decide +kernel
theorem dL_law_734 : decode cL_law 734 = .ok (.aload_n 0, 1) := by decide +kernel
theorem dL_law_735 : decode cL_law 735 = .ok (.iload 4, 2) := by decide +kernel
theorem dL_law_737 : decode cL_law 737 = .ok (.iconst 2, 1) := by decide +kernel
theorem dL_law_738 : decode cL_law 738 = .ok (.iadd, 1) := by decide +kernel
theorem dL_law_739 : decode cL_law 739 = .ok (.iaload, 1) := by decide +kernel
theorem dL_law_740 : decode cL_law 740 = .ok (.aload_n 3, 1) := by decide +kernel
theorem dL_law_741 : decode cL_law 741 = .ok (.invokestatic 121, 3) := by decide +kernel
theorem dL_law_744 : decode cL_law 744 = .ok (.istore 5, 2) := by decide +kernel
theorem dL_law_746 : decode cL_law 746 = .ok (.aload_n 2, 1) := by decide +kernel
theorem dL_law_747 : decode cL_law 747 = .ok (.aload_n 0, 1) := by decide +kernel
theorem dL_law_748 : decode cL_law 748 = .ok (.iload 4, 2) := by decide +kernel
theorem dL_law_750 : decode cL_law 750 = .ok (.iconst 1, 1) := by decide +kernel
theorem dL_law_751 : decode cL_law 751 = .ok (.iadd, 1) := by decide +kernel
theorem dL_law_752 : decode cL_law 752 = .ok (.iaload, 1) := by decide +kernel
theorem dL_law_753 : decode cL_law 753 = .ok (.aload_n 0, 1) := by decide +kernel
theorem dL_law_754 : decode cL_law 754 = .ok (.iload 4, 2) := by decide +kernel
theorem dL_law_756 : decode cL_law 756 = .ok (.iconst 2, 1) := by decide +kernel
theorem dL_law_757 : decode cL_law 757 = .ok (.iadd, 1) := by decide +kernel
theorem dL_law_758 : decode cL_law 758 = .ok (.iaload, 1) := by decide +kernel
theorem dL_law_759 : decode cL_law 759 = .ok (.invokevirtual 123, 3) := by decide +kernel
theorem dL_law_762 : decode cL_law 762 = .ok (.istore 6, 2) := by decide +kernel
theorem dL_law_764 : decode cL_law 764 = .ok (.aload_n 2, 1) := by decide +kernel
theorem dL_law_765 : decode cL_law 765 = .ok (.invokevirtual 79, 3) := by decide +kernel
theorem dL_law_768 : decode cL_law 768 = .ok (.iload 5, 2) := by decide +kernel
theorem dL_law_770 : decode cL_law 770 = .ok (.if_icmp .eq 5, 3) := by decide +kernel
theorem dL_law_773 : decode cL_law 773 = .ok (.iconst 0, 1) := by decide +kernel
theorem dL_law_774 : decode cL_law 774 = .ok (.ireturn, 1) := by decide +kernel
theorem dL_law_775 : decode cL_law 775 = .ok (.iload 5, 2) := by decide +kernel
theorem dL_law_777 : decode cL_law 777 = .ok (.ifCond .ne 15, 3) := by decide +kernel
theorem dL_law_780 : decode cL_law 780 = .ok (.aload_n 3, 1) := by decide +kernel
theorem dL_law_781 : decode cL_law 781 = .ok (.iconst 0, 1) := by decide +kernel
theorem dL_law_782 : decode cL_law 782 = .ok (.laload, 1) := by decide +kernel
theorem dL_law_783 : decode cL_law 783 = .ok (.iload 6, 2) := by decide +kernel
theorem dL_law_785 : decode cL_law 785 = .ok (.i2l, 1) := by decide +kernel
theorem dL_law_786 : decode cL_law 786 = .ok (.lcmp, 1) := by decide +kernel
theorem dL_law_787 : decode cL_law 787 = .ok (.ifCond .eq 5, 3) := by decide +kernel
theorem dL_law_790 : decode cL_law 790 = .ok (.iconst 0, 1) := by decide +kernel
theorem dL_law_791 : decode cL_law 791 = .ok (.ireturn, 1) := by decide +kernel
theorem dL_law_792 : decode cL_law 792 = .ok (.goto 478, 3) := by decide +kernel
theorem dL_law_795 : decode cL_law 795 = .ok (.aload_n 1, 1) := by decide +kernel
theorem dL_law_796 : decode cL_law 796 = .ok (.aload_n 0, 1) := by decide +kernel
theorem dL_law_797 : decode cL_law 797 = .ok (.iload 4, 2) := by decide +kernel
theorem dL_law_799 : decode cL_law 799 = .ok (.iconst 1, 1) := by decide +kernel
theorem dL_law_800 : decode cL_law 800 = .ok (.iadd, 1) := by decide +kernel
theorem dL_law_801 : decode cL_law 801 = .ok (.iaload, 1) := by decide +kernel
theorem dL_law_802 : decode cL_law 802 = .ok (.aload_n 0, 1) := by decide +kernel
theorem dL_law_803 : decode cL_law 803 = .ok (.iload 4, 2) := by decide +kernel
theorem dL_law_805 : decode cL_law 805 = .ok (.iconst 2, 1) := by decide +kernel
theorem dL_law_806 : decode cL_law 806 = .ok (.iadd, 1) := by decide +kernel
theorem dL_law_807 : decode cL_law 807 = .ok (.iaload, 1) := by decide +kernel
theorem dL_law_808 : decode cL_law 808 = .ok (.aload_n 3, 1) := by decide +kernel
theorem dL_law_809 : decode cL_law 809 = .ok (.invokestatic 124, 3) := by decide +kernel
theorem dL_law_812 : decode cL_law 812 = .ok (.istore 5, 2) := by decide +kernel
theorem dL_law_814 : decode cL_law 814 = .ok (.aload_n 2, 1) := by decide +kernel
theorem dL_law_815 : decode cL_law 815 = .ok (.aload_n 0, 1) := by decide +kernel
theorem dL_law_816 : decode cL_law 816 = .ok (.iload 4, 2) := by decide +kernel
theorem dL_law_818 : decode cL_law 818 = .ok (.iconst 1, 1) := by decide +kernel
theorem dL_law_819 : decode cL_law 819 = .ok (.iadd, 1) := by decide +kernel
theorem dL_law_820 : decode cL_law 820 = .ok (.iaload, 1) := by decide +kernel
theorem dL_law_821 : decode cL_law 821 = .ok (.aload_n 0, 1) := by decide +kernel
theorem dL_law_822 : decode cL_law 822 = .ok (.iload 4, 2) := by decide +kernel
theorem dL_law_824 : decode cL_law 824 = .ok (.iconst 2, 1) := by decide +kernel
theorem dL_law_825 : decode cL_law 825 = .ok (.iadd, 1) := by decide +kernel
theorem dL_law_826 : decode cL_law 826 = .ok (.iaload, 1) := by decide +kernel
theorem dL_law_827 : decode cL_law 827 = .ok (.invokevirtual 126, 3) := by decide +kernel
theorem dL_law_830 : decode cL_law 830 = .ok (.istore 6, 2) := by decide +kernel
theorem dL_law_832 : decode cL_law 832 = .ok (.aload_n 2, 1) := by decide +kernel
theorem dL_law_833 : decode cL_law 833 = .ok (.invokevirtual 79, 3) := by decide +kernel
theorem dL_law_836 : decode cL_law 836 = .ok (.iload 5, 2) := by decide +kernel
theorem dL_law_838 : decode cL_law 838 = .ok (.if_icmp .eq 5, 3) := by decide +kernel
theorem dL_law_841 : decode cL_law 841 = .ok (.iconst 0, 1) := by decide +kernel
theorem dL_law_842 : decode cL_law 842 = .ok (.ireturn, 1) := by decide +kernel
theorem dL_law_843 : decode cL_law 843 = .ok (.iload 5, 2) := by decide +kernel
theorem dL_law_845 : decode cL_law 845 = .ok (.ifCond .ne 15, 3) := by decide +kernel
theorem dL_law_848 : decode cL_law 848 = .ok (.aload_n 3, 1) := by decide +kernel
theorem dL_law_849 : decode cL_law 849 = .ok (.iconst 0, 1) := by decide +kernel
theorem dL_law_850 : decode cL_law 850 = .ok (.laload, 1) := by decide +kernel
theorem dL_law_851 : decode cL_law 851 = .ok (.iload 6, 2) := by decide +kernel
theorem dL_law_853 : decode cL_law 853 = .ok (.i2l, 1) := by decide +kernel
theorem dL_law_854 : decode cL_law 854 = .ok (.lcmp, 1) := by decide +kernel
theorem dL_law_855 : decode cL_law 855 = .ok (.ifCond .eq 5, 3) := by decide +kernel
theorem dL_law_858 : decode cL_law 858 = .ok (.iconst 0, 1) := by decide +kernel
theorem dL_law_859 : decode cL_law 859 = .ok (.ireturn, 1) := by decide +kernel
theorem dL_law_860 : decode cL_law 860 = .ok (.goto 410, 3) := by decide +kernel
theorem dL_law_863 : decode cL_law 863 = .ok (.aload_n 1, 1) := by decide +kernel
theorem dL_law_864 : decode cL_law 864 = .ok (.aload_n 0, 1) := by decide +kernel
theorem dL_law_865 : decode cL_law 865 = .ok (.iload 4, 2) := by decide +kernel
theorem dL_law_867 : decode cL_law 867 = .ok (.iconst 1, 1) := by decide +kernel
theorem dL_law_868 : decode cL_law 868 = .ok (.iadd, 1) := by decide +kernel
theorem dL_law_869 : decode cL_law 869 = .ok (.iaload, 1) := by decide +kernel
theorem dL_law_870 : decode cL_law 870 = .ok (.aload_n 3, 1) := by decide +kernel
theorem dL_law_871 : decode cL_law 871 = .ok (.invokestatic 127, 3) := by decide +kernel
theorem dL_law_874 : decode cL_law 874 = .ok (.istore 5, 2) := by decide +kernel
theorem dL_law_876 : decode cL_law 876 = .ok (.aload_n 2, 1) := by decide +kernel
theorem dL_law_877 : decode cL_law 877 = .ok (.aload_n 0, 1) := by decide +kernel
theorem dL_law_878 : decode cL_law 878 = .ok (.iload 4, 2) := by decide +kernel
theorem dL_law_880 : decode cL_law 880 = .ok (.iconst 1, 1) := by decide +kernel
theorem dL_law_881 : decode cL_law 881 = .ok (.iadd, 1) := by decide +kernel
theorem dL_law_882 : decode cL_law 882 = .ok (.iaload, 1) := by decide +kernel
theorem dL_law_883 : decode cL_law 883 = .ok (.invokevirtual 129, 3) := by decide +kernel
theorem dL_law_886 : decode cL_law 886 = .ok (.istore 6, 2) := by decide +kernel
theorem dL_law_888 : decode cL_law 888 = .ok (.aload_n 2, 1) := by decide +kernel
theorem dL_law_889 : decode cL_law 889 = .ok (.invokevirtual 79, 3) := by decide +kernel
theorem dL_law_892 : decode cL_law 892 = .ok (.iload 5, 2) := by decide +kernel
theorem dL_law_894 : decode cL_law 894 = .ok (.if_icmp .eq 5, 3) := by decide +kernel
theorem dL_law_897 : decode cL_law 897 = .ok (.iconst 0, 1) := by decide +kernel
theorem dL_law_898 : decode cL_law 898 = .ok (.ireturn, 1) := by decide +kernel
theorem dL_law_899 : decode cL_law 899 = .ok (.iload 5, 2) := by decide +kernel
theorem dL_law_901 : decode cL_law 901 = .ok (.ifCond .ne 15, 3) := by decide +kernel
theorem dL_law_904 : decode cL_law 904 = .ok (.aload_n 3, 1) := by decide +kernel
theorem dL_law_905 : decode cL_law 905 = .ok (.iconst 0, 1) := by decide +kernel
theorem dL_law_906 : decode cL_law 906 = .ok (.laload, 1) := by decide +kernel
theorem dL_law_907 : decode cL_law 907 = .ok (.iload 6, 2) := by decide +kernel
theorem dL_law_909 : decode cL_law 909 = .ok (.i2l, 1) := by decide +kernel
theorem dL_law_910 : decode cL_law 910 = .ok (.lcmp, 1) := by decide +kernel
theorem dL_law_911 : decode cL_law 911 = .ok (.ifCond .eq 5, 3) := by decide +kernel
theorem dL_law_914 : decode cL_law 914 = .ok (.iconst 0, 1) := by decide +kernel
theorem dL_law_915 : decode cL_law 915 = .ok (.ireturn, 1) := by decide +kernel
theorem dL_law_916 : decode cL_law 916 = .ok (.goto 354, 3) := by decide +kernel
theorem dL_law_919 : decode cL_law 919 = .ok (.aload_n 1, 1) := by decide +kernel
theorem dL_law_920 : decode cL_law 920 = .ok (.aload_n 0, 1) := by decide +kernel
theorem dL_law_921 : decode cL_law 921 = .ok (.iload 4, 2) := by decide +kernel
theorem dL_law_923 : decode cL_law 923 = .ok (.iconst 1, 1) := by decide +kernel
theorem dL_law_924 : decode cL_law 924 = .ok (.iadd, 1) := by decide +kernel
theorem dL_law_925 : decode cL_law 925 = .ok (.iaload, 1) := by decide +kernel
theorem dL_law_926 : decode cL_law 926 = .ok (.aload_n 3, 1) := by decide +kernel
theorem dL_law_927 : decode cL_law 927 = .ok (.invokestatic 130, 3) := by decide +kernel
theorem dL_law_930 : decode cL_law 930 = .ok (.istore 5, 2) := by decide +kernel
theorem dL_law_932 : decode cL_law 932 = .ok (.aload_n 2, 1) := by decide +kernel
theorem dL_law_933 : decode cL_law 933 = .ok (.aload_n 0, 1) := by decide +kernel
theorem dL_law_934 : decode cL_law 934 = .ok (.iload 4, 2) := by decide +kernel
theorem dL_law_936 : decode cL_law 936 = .ok (.iconst 1, 1) := by decide +kernel
theorem dL_law_937 : decode cL_law 937 = .ok (.iadd, 1) := by decide +kernel
theorem dL_law_938 : decode cL_law 938 = .ok (.iaload, 1) := by decide +kernel
theorem dL_law_939 : decode cL_law 939 = .ok (.invokevirtual 132, 3) := by decide +kernel
theorem dL_law_942 : decode cL_law 942 = .ok (.istore 6, 2) := by decide +kernel
theorem dL_law_944 : decode cL_law 944 = .ok (.aload_n 2, 1) := by decide +kernel
theorem dL_law_945 : decode cL_law 945 = .ok (.invokevirtual 79, 3) := by decide +kernel
theorem dL_law_948 : decode cL_law 948 = .ok (.iload 5, 2) := by decide +kernel
theorem dL_law_950 : decode cL_law 950 = .ok (.if_icmp .eq 5, 3) := by decide +kernel
theorem dL_law_953 : decode cL_law 953 = .ok (.iconst 0, 1) := by decide +kernel
theorem dL_law_954 : decode cL_law 954 = .ok (.ireturn, 1) := by decide +kernel
theorem dL_law_955 : decode cL_law 955 = .ok (.iload 5, 2) := by decide +kernel
theorem dL_law_957 : decode cL_law 957 = .ok (.ifCond .ne 22, 3) := by decide +kernel
theorem dL_law_960 : decode cL_law 960 = .ok (.aload_n 3, 1) := by decide +kernel
theorem dL_law_961 : decode cL_law 961 = .ok (.iconst 0, 1) := by decide +kernel
theorem dL_law_962 : decode cL_law 962 = .ok (.laload, 1) := by decide +kernel
theorem dL_law_963 : decode cL_law 963 = .ok (.iload 6, 2) := by decide +kernel
theorem dL_law_965 : decode cL_law 965 = .ok (.ifCond .eq 7, 3) := by decide +kernel
theorem dL_law_968 : decode cL_law 968 = .ok (.lconst 1, 1) := by decide +kernel
theorem dL_law_969 : decode cL_law 969 = .ok (.goto 4, 3) := by decide +kernel
theorem dL_law_972 : decode cL_law 972 = .ok (.lconst 0, 1) := by decide +kernel
theorem dL_law_973 : decode cL_law 973 = .ok (.lcmp, 1) := by decide +kernel
theorem dL_law_974 : decode cL_law 974 = .ok (.ifCond .eq 5, 3) := by decide +kernel
theorem dL_law_977 : decode cL_law 977 = .ok (.iconst 0, 1) := by decide +kernel
theorem dL_law_978 : decode cL_law 978 = .ok (.ireturn, 1) := by decide +kernel
theorem dL_law_979 : decode cL_law 979 = .ok (.goto 291, 3) := by decide +kernel
theorem dL_law_982 : decode cL_law 982 = .ok (.aload_n 1, 1) := by decide +kernel
theorem dL_law_983 : decode cL_law 983 = .ok (.aload_n 0, 1) := by decide +kernel
theorem dL_law_984 : decode cL_law 984 = .ok (.iload 4, 2) := by decide +kernel
theorem dL_law_986 : decode cL_law 986 = .ok (.iconst 1, 1) := by decide +kernel
theorem dL_law_987 : decode cL_law 987 = .ok (.iadd, 1) := by decide +kernel
theorem dL_law_988 : decode cL_law 988 = .ok (.iaload, 1) := by decide +kernel
theorem dL_law_989 : decode cL_law 989 = .ok (.aload_n 0, 1) := by decide +kernel
theorem dL_law_990 : decode cL_law 990 = .ok (.iload 4, 2) := by decide +kernel
theorem dL_law_992 : decode cL_law 992 = .ok (.iconst 2, 1) := by decide +kernel
theorem dL_law_993 : decode cL_law 993 = .ok (.iadd, 1) := by decide +kernel
theorem dL_law_994 : decode cL_law 994 = .ok (.iaload, 1) := by decide +kernel
theorem dL_law_995 : decode cL_law 995 = .ok (.aload_n 3, 1) := by decide +kernel
theorem dL_law_996 : decode cL_law 996 = .ok (.invokestatic 133, 3) := by decide +kernel
theorem dL_law_999 : decode cL_law 999 = .ok (.istore 5, 2) := by decide +kernel
theorem dL_law_1001 : decode cL_law 1001 = .ok (.aload_n 2, 1) := by decide +kernel
theorem dL_law_1002 : decode cL_law 1002 = .ok (.aload_n 0, 1) := by decide +kernel
theorem dL_law_1003 : decode cL_law 1003 = .ok (.iload 4, 2) := by decide +kernel
theorem dL_law_1005 : decode cL_law 1005 = .ok (.iconst 1, 1) := by decide +kernel
theorem dL_law_1006 : decode cL_law 1006 = .ok (.iadd, 1) := by decide +kernel
theorem dL_law_1007 : decode cL_law 1007 = .ok (.iaload, 1) := by decide +kernel
theorem dL_law_1008 : decode cL_law 1008 = .ok (.aload_n 0, 1) := by decide +kernel
theorem dL_law_1009 : decode cL_law 1009 = .ok (.iload 4, 2) := by decide +kernel
theorem dL_law_1011 : decode cL_law 1011 = .ok (.iconst 2, 1) := by decide +kernel
theorem dL_law_1012 : decode cL_law 1012 = .ok (.iadd, 1) := by decide +kernel
theorem dL_law_1013 : decode cL_law 1013 = .ok (.iaload, 1) := by decide +kernel
theorem dL_law_1014 : decode cL_law 1014 = .ok (.invokevirtual 135, 3) := by decide +kernel
theorem dL_law_1017 : decode cL_law 1017 = .ok (.istore 6, 2) := by decide +kernel
theorem dL_law_1019 : decode cL_law 1019 = .ok (.aload_n 2, 1) := by decide +kernel
theorem dL_law_1020 : decode cL_law 1020 = .ok (.invokevirtual 79, 3) := by decide +kernel
theorem dL_law_1023 : decode cL_law 1023 = .ok (.iload 5, 2) := by decide +kernel
theorem dL_law_1025 : decode cL_law 1025 = .ok (.if_icmp .eq 5, 3) := by decide +kernel
theorem dL_law_1028 : decode cL_law 1028 = .ok (.iconst 0, 1) := by decide +kernel
theorem dL_law_1029 : decode cL_law 1029 = .ok (.ireturn, 1) := by decide +kernel
theorem dL_law_1030 : decode cL_law 1030 = .ok (.iload 5, 2) := by decide +kernel
theorem dL_law_1032 : decode cL_law 1032 = .ok (.ifCond .ne 15, 3) := by decide +kernel
theorem dL_law_1035 : decode cL_law 1035 = .ok (.aload_n 3, 1) := by decide +kernel
theorem dL_law_1036 : decode cL_law 1036 = .ok (.iconst 0, 1) := by decide +kernel
theorem dL_law_1037 : decode cL_law 1037 = .ok (.laload, 1) := by decide +kernel
theorem dL_law_1038 : decode cL_law 1038 = .ok (.iload 6, 2) := by decide +kernel
theorem dL_law_1040 : decode cL_law 1040 = .ok (.i2l, 1) := by decide +kernel
theorem dL_law_1041 : decode cL_law 1041 = .ok (.lcmp, 1) := by decide +kernel
theorem dL_law_1042 : decode cL_law 1042 = .ok (.ifCond .eq 5, 3) := by decide +kernel
theorem dL_law_1045 : decode cL_law 1045 = .ok (.iconst 0, 1) := by decide +kernel
theorem dL_law_1046 : decode cL_law 1046 = .ok (.ireturn, 1) := by decide +kernel
theorem dL_law_1047 : decode cL_law 1047 = .ok (.goto 223, 3) := by decide +kernel
theorem dL_law_1050 : decode cL_law 1050 = .ok (.aload_n 1, 1) := by decide +kernel
theorem dL_law_1051 : decode cL_law 1051 = .ok (.invokevirtual 136, 3) := by decide +kernel
theorem dL_law_1054 : decode cL_law 1054 = .ok (.aload_n 2, 1) := by decide +kernel
theorem dL_law_1055 : decode cL_law 1055 = .ok (.invokevirtual 139, 3) := by decide +kernel
theorem dL_law_1058 : decode cL_law 1058 = .ok (.if_icmp .eq 212, 3) := by decide +kernel
theorem dL_law_1061 : decode cL_law 1061 = .ok (.iconst 0, 1) := by decide +kernel
theorem dL_law_1062 : decode cL_law 1062 = .ok (.ireturn, 1) := by decide +kernel
theorem dL_law_1063 : decode cL_law 1063 = .ok (.aload_n 1, 1) := by decide +kernel
theorem dL_law_1064 : decode cL_law 1064 = .ok (.invokevirtual 140, 3) := by decide +kernel
theorem dL_law_1067 : decode cL_law 1067 = .ok (.aload_n 2, 1) := by decide +kernel
theorem dL_law_1068 : decode cL_law 1068 = .ok (.invokevirtual 143, 3) := by decide +kernel
theorem dL_law_1071 : decode cL_law 1071 = .ok (.if_icmp .eq 199, 3) := by decide +kernel
theorem dL_law_1074 : decode cL_law 1074 = .ok (.iconst 0, 1) := by decide +kernel
theorem dL_law_1075 : decode cL_law 1075 = .ok (.ireturn, 1) := by decide +kernel
theorem dL_law_1076 : decode cL_law 1076 = .ok (.aload_n 1, 1) := by decide +kernel
theorem dL_law_1077 : decode cL_law 1077 = .ok (.invokevirtual 144, 3) := by decide +kernel
theorem dL_law_1080 : decode cL_law 1080 = .ok (.aload_n 2, 1) := by decide +kernel
theorem dL_law_1081 : decode cL_law 1081 = .ok (.invokevirtual 147, 3) := by decide +kernel
theorem dL_law_1084 : decode cL_law 1084 = .ok (.if_icmp .eq 186, 3) := by decide +kernel
theorem dL_law_1087 : decode cL_law 1087 = .ok (.iconst 0, 1) := by decide +kernel
theorem dL_law_1088 : decode cL_law 1088 = .ok (.ireturn, 1) := by decide +kernel
theorem dL_law_1089 : decode cL_law 1089 = .ok (.aload_n 1, 1) := by decide +kernel
theorem dL_law_1090 : decode cL_law 1090 = .ok (.invokevirtual 148, 3) := by decide +kernel
theorem dL_law_1093 : decode cL_law 1093 = .ok (.dstore 5, 2) := by decide +kernel
theorem dL_law_1095 : decode cL_law 1095 = .ok (.aload_n 2, 1) := by decide +kernel
theorem dL_law_1096 : decode cL_law 1096 = .ok (.invokevirtual 152, 3) := by decide +kernel
theorem dL_law_1099 : decode cL_law 1099 = .ok (.dstore 7, 2) := by decide +kernel
theorem dL_law_1101 : decode cL_law 1101 = .ok (.dload 5, 2) := by decide +kernel
theorem dL_law_1103 : decode cL_law 1103 = .ok (.dload 7, 2) := by decide +kernel
theorem dL_law_1105 : decode cL_law 1105 = .ok (.dcmp .l, 1) := by decide +kernel
theorem dL_law_1106 : decode cL_law 1106 = .ok (.ifCond .eq 21, 3) := by decide +kernel
theorem dL_law_1109 : decode cL_law 1109 = .ok (.dload 5, 2) := by decide +kernel
theorem dL_law_1111 : decode cL_law 1111 = .ok (.dload 5, 2) := by decide +kernel
theorem dL_law_1113 : decode cL_law 1113 = .ok (.dcmp .l, 1) := by decide +kernel
theorem dL_law_1114 : decode cL_law 1114 = .ok (.ifCond .eq 11, 3) := by decide +kernel
theorem dL_law_1117 : decode cL_law 1117 = .ok (.dload 7, 2) := by decide +kernel
theorem dL_law_1119 : decode cL_law 1119 = .ok (.dload 7, 2) := by decide +kernel
theorem dL_law_1121 : decode cL_law 1121 = .ok (.dcmp .l, 1) := by decide +kernel
theorem dL_law_1122 : decode cL_law 1122 = .ok (.ifCond .ne 5, 3) := by decide +kernel
theorem dL_law_1125 : decode cL_law 1125 = .ok (.iconst 0, 1) := by decide +kernel
theorem dL_law_1126 : decode cL_law 1126 = .ok (.ireturn, 1) := by decide +kernel
theorem dL_law_1127 : decode cL_law 1127 = .ok (.goto 143, 3) := by decide +kernel
theorem dL_law_1130 : decode cL_law 1130 = .ok (.aload_n 1, 1) := by decide +kernel
theorem dL_law_1131 : decode cL_law 1131 = .ok (.aload_n 0, 1) := by decide +kernel
theorem dL_law_1132 : decode cL_law 1132 = .ok (.iload 4, 2) := by decide +kernel
theorem dL_law_1134 : decode cL_law 1134 = .ok (.iconst 1, 1) := by decide +kernel
theorem dL_law_1135 : decode cL_law 1135 = .ok (.iadd, 1) := by decide +kernel
theorem dL_law_1136 : decode cL_law 1136 = .ok (.iaload, 1) := by decide +kernel
theorem dL_law_1137 : decode cL_law 1137 = .ok (.aload_n 3, 1) := by decide +kernel
theorem dL_law_1138 : decode cL_law 1138 = .ok (.invokestatic 153, 3) := by decide +kernel
theorem dL_law_1141 : decode cL_law 1141 = .ok (.istore 5, 2) := by decide +kernel
theorem dL_law_1143 : decode cL_law 1143 = .ok (.aload_n 2, 1) := by decide +kernel
theorem dL_law_1144 : decode cL_law 1144 = .ok (.aload_n 0, 1) := by decide +kernel
theorem dL_law_1145 : decode cL_law 1145 = .ok (.iload 4, 2) := by decide +kernel
theorem dL_law_1147 : decode cL_law 1147 = .ok (.iconst 1, 1) := by decide +kernel
theorem dL_law_1148 : decode cL_law 1148 = .ok (.iadd, 1) := by decide +kernel
theorem dL_law_1149 : decode cL_law 1149 = .ok (.iaload, 1) := by decide +kernel
theorem dL_law_1150 : decode cL_law 1150 = .ok (.invokevirtual 155, 3) := by decide +kernel
theorem dL_law_1153 : decode cL_law 1153 = .ok (.istore 6, 2) := by decide +kernel
theorem dL_law_1155 : decode cL_law 1155 = .ok (.aload_n 2, 1) := by decide +kernel
theorem dL_law_1156 : decode cL_law 1156 = .ok (.invokevirtual 79, 3) := by decide +kernel
theorem dL_law_1159 : decode cL_law 1159 = .ok (.iload 5, 2) := by decide +kernel
theorem dL_law_1161 : decode cL_law 1161 = .ok (.if_icmp .eq 5, 3) := by decide +kernel
theorem dL_law_1164 : decode cL_law 1164 = .ok (.iconst 0, 1) := by decide +kernel
theorem dL_law_1165 : decode cL_law 1165 = .ok (.ireturn, 1) := by decide +kernel
theorem dL_law_1166 : decode cL_law 1166 = .ok (.iload 5, 2) := by decide +kernel
theorem dL_law_1168 : decode cL_law 1168 = .ok (.ifCond .ne 15, 3) := by decide +kernel
theorem dL_law_1171 : decode cL_law 1171 = .ok (.aload_n 3, 1) := by decide +kernel
theorem dL_law_1172 : decode cL_law 1172 = .ok (.iconst 0, 1) := by decide +kernel
theorem dL_law_1173 : decode cL_law 1173 = .ok (.laload, 1) := by decide +kernel
theorem dL_law_1174 : decode cL_law 1174 = .ok (.iload 6, 2) := by decide +kernel
theorem dL_law_1176 : decode cL_law 1176 = .ok (.i2l, 1) := by decide +kernel
theorem dL_law_1177 : decode cL_law 1177 = .ok (.lcmp, 1) := by decide +kernel
theorem dL_law_1178 : decode cL_law 1178 = .ok (.ifCond .eq 5, 3) := by decide +kernel
theorem dL_law_1181 : decode cL_law 1181 = .ok (.iconst 0, 1) := by decide +kernel
theorem dL_law_1182 : decode cL_law 1182 = .ok (.ireturn, 1) := by decide +kernel
theorem dL_law_1183 : decode cL_law 1183 = .ok (.goto 87, 3) := by decide +kernel
theorem dL_law_1186 : decode cL_law 1186 = .ok (.aload_n 1, 1) := by decide +kernel
theorem dL_law_1187 : decode cL_law 1187 = .ok (.invokevirtual 156, 3) := by decide +kernel
theorem dL_law_1190 : decode cL_law 1190 = .ok (.aload_n 2, 1) := by decide +kernel
theorem dL_law_1191 : decode cL_law 1191 = .ok (.invokevirtual 159, 3) := by decide +kernel
theorem dL_law_1194 : decode cL_law 1194 = .ok (.if_icmp .eq 76, 3) := by decide +kernel
theorem dL_law_1197 : decode cL_law 1197 = .ok (.iconst 0, 1) := by decide +kernel
theorem dL_law_1198 : decode cL_law 1198 = .ok (.ireturn, 1) := by decide +kernel
theorem dL_law_1199 : decode cL_law 1199 = .ok (.aload_n 1, 1) := by decide +kernel
theorem dL_law_1200 : decode cL_law 1200 = .ok (.invokevirtual 160, 3) := by decide +kernel
theorem dL_law_1203 : decode cL_law 1203 = .ok (.aload_n 2, 1) := by decide +kernel
theorem dL_law_1204 : decode cL_law 1204 = .ok (.invokevirtual 163, 3) := by decide +kernel
theorem dL_law_1207 : decode cL_law 1207 = .ok (.if_icmp .eq 63, 3) := by decide +kernel
theorem dL_law_1210 : decode cL_law 1210 = .ok (.iconst 0, 1) := by decide +kernel
theorem dL_law_1211 : decode cL_law 1211 = .ok (.ireturn, 1) := by decide +kernel
theorem dL_law_1212 : decode cL_law 1212 = .ok (.aload_n 1, 1) := by decide +kernel
theorem dL_law_1213 : decode cL_law 1213 = .ok (.aload_n 3, 1) := by decide +kernel
theorem dL_law_1214 : decode cL_law 1214 = .ok (.invokestatic 164, 3) := by decide +kernel
theorem dL_law_1217 : decode cL_law 1217 = .ok (.istore 5, 2) := by decide +kernel
theorem dL_law_1219 : decode cL_law 1219 = .ok (.aload_n 2, 1) := by decide +kernel
theorem dL_law_1220 : decode cL_law 1220 = .ok (.invokevirtual 167, 3) := by decide +kernel
theorem dL_law_1223 : decode cL_law 1223 = .ok (.istore 6, 2) := by decide +kernel
theorem dL_law_1225 : decode cL_law 1225 = .ok (.aload_n 2, 1) := by decide +kernel
theorem dL_law_1226 : decode cL_law 1226 = .ok (.invokevirtual 79, 3) := by decide +kernel
theorem dL_law_1229 : decode cL_law 1229 = .ok (.iload 5, 2) := by decide +kernel
theorem dL_law_1231 : decode cL_law 1231 = .ok (.if_icmp .eq 5, 3) := by decide +kernel
theorem dL_law_1234 : decode cL_law 1234 = .ok (.iconst 0, 1) := by decide +kernel
theorem dL_law_1235 : decode cL_law 1235 = .ok (.ireturn, 1) := by decide +kernel
theorem dL_law_1236 : decode cL_law 1236 = .ok (.iload 5, 2) := by decide +kernel
theorem dL_law_1238 : decode cL_law 1238 = .ok (.ifCond .ne 15, 3) := by decide +kernel
theorem dL_law_1241 : decode cL_law 1241 = .ok (.aload_n 3, 1) := by decide +kernel
theorem dL_law_1242 : decode cL_law 1242 = .ok (.iconst 0, 1) := by decide +kernel
theorem dL_law_1243 : decode cL_law 1243 = .ok (.laload, 1) := by decide +kernel
theorem dL_law_1244 : decode cL_law 1244 = .ok (.iload 6, 2) := by decide +kernel
theorem dL_law_1246 : decode cL_law 1246 = .ok (.i2l, 1) := by decide +kernel
theorem dL_law_1247 : decode cL_law 1247 = .ok (.lcmp, 1) := by decide +kernel
theorem dL_law_1248 : decode cL_law 1248 = .ok (.ifCond .eq 5, 3) := by decide +kernel
theorem dL_law_1251 : decode cL_law 1251 = .ok (.iconst 0, 1) := by decide +kernel
theorem dL_law_1252 : decode cL_law 1252 = .ok (.ireturn, 1) := by decide +kernel
theorem dL_law_1253 : decode cL_law 1253 = .ok (.goto 17, 3) := by decide +kernel
theorem dL_law_1256 : decode cL_law 1256 = .ok (.aload_n 1, 1) := by decide +kernel
theorem dL_law_1257 : decode cL_law 1257 = .ok (.invokevirtual 168, 3) := by decide +kernel
theorem dL_law_1260 : decode cL_law 1260 = .ok (.aload_n 2, 1) := by decide +kernel
theorem dL_law_1261 : decode cL_law 1261 = .ok (.invokevirtual 172, 3) := by decide +kernel
theorem dL_law_1264 : decode cL_law 1264 = .ok (.lcmp, 1) := by decide +kernel
theorem dL_law_1265 : decode cL_law 1265 = .ok (.ifCond .eq 5, 3) := by decide +kernel
theorem dL_law_1268 : decode cL_law 1268 = .ok (.iconst 0, 1) := by decide +kernel
theorem dL_law_1269 : decode cL_law 1269 = .ok (.ireturn, 1) := by decide +kernel
theorem dL_law_1270 : decode cL_law 1270 = .ok (.iinc 4 3, 3) := by decide +kernel
theorem dL_law_1273 : decode cL_law 1273 = .ok (.goto (-1250), 3) := by decide +kernel
theorem dL_law_1276 : decode cL_law 1276 = .ok (.iconst 1, 1) := by decide +kernel
theorem dL_law_1277 : decode cL_law 1277 = .ok (.ireturn, 1) := by decide +kernel
end
section
/-! PURE WORDS: booleans as ints, guards, binds, names -/
def bI (b : Bool) : Int32 := match b with
  | true => 1
  | false => 0
theorem bI_nar (b : Bool) : narrow .boolean (.int (bI b)) = .int (bI b) := by cases b <;> rfl
theorem bI_fit (b : Bool) : fits .boolean (.int (bI b)) = true := by cases b <;> rfl
theorem bI_t {b : Bool} (h : ¬ bI b = 0) : b = true := by
  cases b
  · exact absurd rfl h
  · rfl
theorem bI_f {b : Bool} (h : bI b = 0) : ¬ b = true := by
  cases b
  · simp
  · exact absurd h (by decide)
theorem bI_vp (b : Bool) : vp_nar .boolean (bI b) = bI b := by cases b <;> rfl
def gd {α : Type} (c : Bool) (x : Option α) : Option α := match c with
  | true => x
  | false => none
theorem gd_some {α : Type} {c : Bool} {x : Option α} {o : α} (h : gd c x = some o) : c = true ∧ x = some o := by
  cases c
  · cases h
  · exact ⟨rfl, h⟩
theorem gd_t {α : Type} {c : Bool} {x : Option α} (h : c = true) : gd c x = x := by rw [h]; rfl
def inb (i : Int32) (n : Nat) : Bool := decide (¬ (i < 0 ∨ n ≤ i.toNatClampNeg))
theorem inb_in {i : Int32} {n : Nat} (h : inb i n = true) : vp_in i n := (of_decide_eq_true h : ¬ (i < 0 ∨ n ≤ i.toNatClampNeg))
theorem inb_nI {j n : Nat} (h : j < n) (hn : n < 2 ^ 31) : inb (nI j) n = true := decide_eq_true (show ¬ (nI j < 0 ∨ n ≤ (nI j).toNatClampNeg) from vp_in_nI h hn)
def nmv {α β : Type} (a : α) (f : α → β) : β := f a
theorem nmv_at {α β : Type} {a x : α} {f : α → Option β} {o : Option β} (e : x = a) (h : nmv a f = o) : f x = o := by rw [e]; exact h
def updB (w : Nat → Bool) (k : Nat) (b : Bool) : Nat → Bool := fun j => if j = k then b else w j
theorem updB_eq (w : Nat → Bool) (k : Nat) (b : Bool) : upd (fun j => bI (w j)) k (vp_nar .boolean (bI b)) = fun j => bI (updB w k b j) := by
  rw [bI_vp]
  funext j
  by_cases h : j = k
  · rw [h]; simp [pk_us, updB]
  · simp [pk_un h, updB, h]
theorem ite_t {α : Type} {c : Prop} {i : Decidable c} {x y z : α} (h : c) (e : (@ite α c i x y) = z) : x = z := (if_pos h).symm.trans e
theorem ite_f {α : Type} {c : Prop} {i : Decidable c} {x y z : α} (h : ¬ c) (e : (@ite α c i x y) = z) : y = z := (if_neg h).symm.trans e
def ob0 {β : Type} (x : Option Unit) (k : Option β) : Option β := match x with
  | none => none
  | some _ => k
theorem ob0_some {β : Type} {x : Option Unit} {k : Option β} {o : β} (h : ob0 x k = some o) : x = some () ∧ k = some o := by
  cases x
  · cases h
  · exact ⟨rfl, h⟩
def ob1 {α β : Type} (x : Option α) (k : α → Option β) : Option β := match x with
  | none => none
  | some a => k a
theorem ob1_some {α β : Type} {x : Option α} {k : α → Option β} {o : β} (h : ob1 x k = some o) : ∃ a, x = some a ∧ k a = some o := by
  cases x
  · cases h
  · exact ⟨_, rfl, h⟩
def ob2 {α1 α2 β : Type} (x : Option (α1 × α2)) (k : α1 → α2 → Option β) : Option β := match x with
  | none => none
  | some (a1, a2) => k a1 a2
theorem ob2_some {α1 α2 β : Type} {x : Option (α1 × α2)} {k : α1 → α2 → Option β} {o : β} (h : ob2 x k = some o) : ∃ a1 a2, x = some (a1, a2) ∧ k a1 a2 = some o := by
  cases x
  · cases h
  · exact ⟨_, _, rfl, h⟩
def ob3 {α1 α2 α3 β : Type} (x : Option (α1 × α2 × α3)) (k : α1 → α2 → α3 → Option β) : Option β := match x with
  | none => none
  | some (a1, a2, a3) => k a1 a2 a3
theorem ob3_some {α1 α2 α3 β : Type} {x : Option (α1 × α2 × α3)} {k : α1 → α2 → α3 → Option β} {o : β} (h : ob3 x k = some o) : ∃ a1 a2 a3, x = some (a1, a2, a3) ∧ k a1 a2 a3 = some o := by
  cases x
  · cases h
  · exact ⟨_, _, _, rfl, h⟩
def ob4 {α1 α2 α3 α4 β : Type} (x : Option (α1 × α2 × α3 × α4)) (k : α1 → α2 → α3 → α4 → Option β) : Option β := match x with
  | none => none
  | some (a1, a2, a3, a4) => k a1 a2 a3 a4
theorem ob4_some {α1 α2 α3 α4 β : Type} {x : Option (α1 × α2 × α3 × α4)} {k : α1 → α2 → α3 → α4 → Option β} {o : β} (h : ob4 x k = some o) : ∃ a1 a2 a3 a4, x = some (a1, a2, a3, a4) ∧ k a1 a2 a3 a4 = some o := by
  cases x
  · cases h
  · exact ⟨_, _, _, _, rfl, h⟩
def ob5 {α1 α2 α3 α4 α5 β : Type} (x : Option (α1 × α2 × α3 × α4 × α5)) (k : α1 → α2 → α3 → α4 → α5 → Option β) : Option β := match x with
  | none => none
  | some (a1, a2, a3, a4, a5) => k a1 a2 a3 a4 a5
theorem ob5_some {α1 α2 α3 α4 α5 β : Type} {x : Option (α1 × α2 × α3 × α4 × α5)} {k : α1 → α2 → α3 → α4 → α5 → Option β} {o : β} (h : ob5 x k = some o) : ∃ a1 a2 a3 a4 a5, x = some (a1, a2, a3, a4, a5) ∧ k a1 a2 a3 a4 a5 = some o := by
  cases x
  · cases h
  · exact ⟨_, _, _, _, _, rfl, h⟩
def ob6 {α1 α2 α3 α4 α5 α6 β : Type} (x : Option (α1 × α2 × α3 × α4 × α5 × α6)) (k : α1 → α2 → α3 → α4 → α5 → α6 → Option β) : Option β := match x with
  | none => none
  | some (a1, a2, a3, a4, a5, a6) => k a1 a2 a3 a4 a5 a6
theorem ob6_some {α1 α2 α3 α4 α5 α6 β : Type} {x : Option (α1 × α2 × α3 × α4 × α5 × α6)} {k : α1 → α2 → α3 → α4 → α5 → α6 → Option β} {o : β} (h : ob6 x k = some o) : ∃ a1 a2 a3 a4 a5 a6, x = some (a1, a2, a3, a4, a5, a6) ∧ k a1 a2 a3 a4 a5 a6 = some o := by
  cases x
  · cases h
  · exact ⟨_, _, _, _, _, _, rfl, h⟩
def ob7 {α1 α2 α3 α4 α5 α6 α7 β : Type} (x : Option (α1 × α2 × α3 × α4 × α5 × α6 × α7)) (k : α1 → α2 → α3 → α4 → α5 → α6 → α7 → Option β) : Option β := match x with
  | none => none
  | some (a1, a2, a3, a4, a5, a6, a7) => k a1 a2 a3 a4 a5 a6 a7
theorem ob7_some {α1 α2 α3 α4 α5 α6 α7 β : Type} {x : Option (α1 × α2 × α3 × α4 × α5 × α6 × α7)} {k : α1 → α2 → α3 → α4 → α5 → α6 → α7 → Option β} {o : β} (h : ob7 x k = some o) : ∃ a1 a2 a3 a4 a5 a6 a7, x = some (a1, a2, a3, a4, a5, a6, a7) ∧ k a1 a2 a3 a4 a5 a6 a7 = some o := by
  cases x
  · cases h
  · exact ⟨_, _, _, _, _, _, _, rfl, h⟩
def ob8 {α1 α2 α3 α4 α5 α6 α7 α8 β : Type} (x : Option (α1 × α2 × α3 × α4 × α5 × α6 × α7 × α8)) (k : α1 → α2 → α3 → α4 → α5 → α6 → α7 → α8 → Option β) : Option β := match x with
  | none => none
  | some (a1, a2, a3, a4, a5, a6, a7, a8) => k a1 a2 a3 a4 a5 a6 a7 a8
theorem ob8_some {α1 α2 α3 α4 α5 α6 α7 α8 β : Type} {x : Option (α1 × α2 × α3 × α4 × α5 × α6 × α7 × α8)} {k : α1 → α2 → α3 → α4 → α5 → α6 → α7 → α8 → Option β} {o : β} (h : ob8 x k = some o) : ∃ a1 a2 a3 a4 a5 a6 a7 a8, x = some (a1, a2, a3, a4, a5, a6, a7, a8) ∧ k a1 a2 a3 a4 a5 a6 a7 a8 = some o := by
  cases x
  · cases h
  · exact ⟨_, _, _, _, _, _, _, _, rfl, h⟩
def ob9 {α1 α2 α3 α4 α5 α6 α7 α8 α9 β : Type} (x : Option (α1 × α2 × α3 × α4 × α5 × α6 × α7 × α8 × α9)) (k : α1 → α2 → α3 → α4 → α5 → α6 → α7 → α8 → α9 → Option β) : Option β := match x with
  | none => none
  | some (a1, a2, a3, a4, a5, a6, a7, a8, a9) => k a1 a2 a3 a4 a5 a6 a7 a8 a9
theorem ob9_some {α1 α2 α3 α4 α5 α6 α7 α8 α9 β : Type} {x : Option (α1 × α2 × α3 × α4 × α5 × α6 × α7 × α8 × α9)} {k : α1 → α2 → α3 → α4 → α5 → α6 → α7 → α8 → α9 → Option β} {o : β} (h : ob9 x k = some o) : ∃ a1 a2 a3 a4 a5 a6 a7 a8 a9, x = some (a1, a2, a3, a4, a5, a6, a7, a8, a9) ∧ k a1 a2 a3 a4 a5 a6 a7 a8 a9 = some o := by
  cases x
  · cases h
  · exact ⟨_, _, _, _, _, _, _, _, _, rfl, h⟩
def ob10 {α1 α2 α3 α4 α5 α6 α7 α8 α9 α10 β : Type} (x : Option (α1 × α2 × α3 × α4 × α5 × α6 × α7 × α8 × α9 × α10)) (k : α1 → α2 → α3 → α4 → α5 → α6 → α7 → α8 → α9 → α10 → Option β) : Option β := match x with
  | none => none
  | some (a1, a2, a3, a4, a5, a6, a7, a8, a9, a10) => k a1 a2 a3 a4 a5 a6 a7 a8 a9 a10
theorem ob10_some {α1 α2 α3 α4 α5 α6 α7 α8 α9 α10 β : Type} {x : Option (α1 × α2 × α3 × α4 × α5 × α6 × α7 × α8 × α9 × α10)} {k : α1 → α2 → α3 → α4 → α5 → α6 → α7 → α8 → α9 → α10 → Option β} {o : β} (h : ob10 x k = some o) : ∃ a1 a2 a3 a4 a5 a6 a7 a8 a9 a10, x = some (a1, a2, a3, a4, a5, a6, a7, a8, a9, a10) ∧ k a1 a2 a3 a4 a5 a6 a7 a8 a9 a10 = some o := by
  cases x
  · cases h
  · exact ⟨_, _, _, _, _, _, _, _, _, _, rfl, h⟩
def ob11 {α1 α2 α3 α4 α5 α6 α7 α8 α9 α10 α11 β : Type} (x : Option (α1 × α2 × α3 × α4 × α5 × α6 × α7 × α8 × α9 × α10 × α11)) (k : α1 → α2 → α3 → α4 → α5 → α6 → α7 → α8 → α9 → α10 → α11 → Option β) : Option β := match x with
  | none => none
  | some (a1, a2, a3, a4, a5, a6, a7, a8, a9, a10, a11) => k a1 a2 a3 a4 a5 a6 a7 a8 a9 a10 a11
theorem ob11_some {α1 α2 α3 α4 α5 α6 α7 α8 α9 α10 α11 β : Type} {x : Option (α1 × α2 × α3 × α4 × α5 × α6 × α7 × α8 × α9 × α10 × α11)} {k : α1 → α2 → α3 → α4 → α5 → α6 → α7 → α8 → α9 → α10 → α11 → Option β} {o : β} (h : ob11 x k = some o) : ∃ a1 a2 a3 a4 a5 a6 a7 a8 a9 a10 a11, x = some (a1, a2, a3, a4, a5, a6, a7, a8, a9, a10, a11) ∧ k a1 a2 a3 a4 a5 a6 a7 a8 a9 a10 a11 = some o := by
  cases x
  · cases h
  · exact ⟨_, _, _, _, _, _, _, _, _, _, _, rfl, h⟩
def ob12 {α1 α2 α3 α4 α5 α6 α7 α8 α9 α10 α11 α12 β : Type} (x : Option (α1 × α2 × α3 × α4 × α5 × α6 × α7 × α8 × α9 × α10 × α11 × α12)) (k : α1 → α2 → α3 → α4 → α5 → α6 → α7 → α8 → α9 → α10 → α11 → α12 → Option β) : Option β := match x with
  | none => none
  | some (a1, a2, a3, a4, a5, a6, a7, a8, a9, a10, a11, a12) => k a1 a2 a3 a4 a5 a6 a7 a8 a9 a10 a11 a12
theorem ob12_some {α1 α2 α3 α4 α5 α6 α7 α8 α9 α10 α11 α12 β : Type} {x : Option (α1 × α2 × α3 × α4 × α5 × α6 × α7 × α8 × α9 × α10 × α11 × α12)} {k : α1 → α2 → α3 → α4 → α5 → α6 → α7 → α8 → α9 → α10 → α11 → α12 → Option β} {o : β} (h : ob12 x k = some o) : ∃ a1 a2 a3 a4 a5 a6 a7 a8 a9 a10 a11 a12, x = some (a1, a2, a3, a4, a5, a6, a7, a8, a9, a10, a11, a12) ∧ k a1 a2 a3 a4 a5 a6 a7 a8 a9 a10 a11 a12 = some o := by
  cases x
  · cases h
  · exact ⟨_, _, _, _, _, _, _, _, _, _, _, _, rfl, h⟩
def ob13 {α1 α2 α3 α4 α5 α6 α7 α8 α9 α10 α11 α12 α13 β : Type} (x : Option (α1 × α2 × α3 × α4 × α5 × α6 × α7 × α8 × α9 × α10 × α11 × α12 × α13)) (k : α1 → α2 → α3 → α4 → α5 → α6 → α7 → α8 → α9 → α10 → α11 → α12 → α13 → Option β) : Option β := match x with
  | none => none
  | some (a1, a2, a3, a4, a5, a6, a7, a8, a9, a10, a11, a12, a13) => k a1 a2 a3 a4 a5 a6 a7 a8 a9 a10 a11 a12 a13
theorem ob13_some {α1 α2 α3 α4 α5 α6 α7 α8 α9 α10 α11 α12 α13 β : Type} {x : Option (α1 × α2 × α3 × α4 × α5 × α6 × α7 × α8 × α9 × α10 × α11 × α12 × α13)} {k : α1 → α2 → α3 → α4 → α5 → α6 → α7 → α8 → α9 → α10 → α11 → α12 → α13 → Option β} {o : β} (h : ob13 x k = some o) : ∃ a1 a2 a3 a4 a5 a6 a7 a8 a9 a10 a11 a12 a13, x = some (a1, a2, a3, a4, a5, a6, a7, a8, a9, a10, a11, a12, a13) ∧ k a1 a2 a3 a4 a5 a6 a7 a8 a9 a10 a11 a12 a13 = some o := by
  cases x
  · cases h
  · exact ⟨_, _, _, _, _, _, _, _, _, _, _, _, _, rfl, h⟩
def ob14 {α1 α2 α3 α4 α5 α6 α7 α8 α9 α10 α11 α12 α13 α14 β : Type} (x : Option (α1 × α2 × α3 × α4 × α5 × α6 × α7 × α8 × α9 × α10 × α11 × α12 × α13 × α14)) (k : α1 → α2 → α3 → α4 → α5 → α6 → α7 → α8 → α9 → α10 → α11 → α12 → α13 → α14 → Option β) : Option β := match x with
  | none => none
  | some (a1, a2, a3, a4, a5, a6, a7, a8, a9, a10, a11, a12, a13, a14) => k a1 a2 a3 a4 a5 a6 a7 a8 a9 a10 a11 a12 a13 a14
theorem ob14_some {α1 α2 α3 α4 α5 α6 α7 α8 α9 α10 α11 α12 α13 α14 β : Type} {x : Option (α1 × α2 × α3 × α4 × α5 × α6 × α7 × α8 × α9 × α10 × α11 × α12 × α13 × α14)} {k : α1 → α2 → α3 → α4 → α5 → α6 → α7 → α8 → α9 → α10 → α11 → α12 → α13 → α14 → Option β} {o : β} (h : ob14 x k = some o) : ∃ a1 a2 a3 a4 a5 a6 a7 a8 a9 a10 a11 a12 a13 a14, x = some (a1, a2, a3, a4, a5, a6, a7, a8, a9, a10, a11, a12, a13, a14) ∧ k a1 a2 a3 a4 a5 a6 a7 a8 a9 a10 a11 a12 a13 a14 = some o := by
  cases x
  · cases h
  · exact ⟨_, _, _, _, _, _, _, _, _, _, _, _, _, _, rfl, h⟩
def ob15 {α1 α2 α3 α4 α5 α6 α7 α8 α9 α10 α11 α12 α13 α14 α15 β : Type} (x : Option (α1 × α2 × α3 × α4 × α5 × α6 × α7 × α8 × α9 × α10 × α11 × α12 × α13 × α14 × α15)) (k : α1 → α2 → α3 → α4 → α5 → α6 → α7 → α8 → α9 → α10 → α11 → α12 → α13 → α14 → α15 → Option β) : Option β := match x with
  | none => none
  | some (a1, a2, a3, a4, a5, a6, a7, a8, a9, a10, a11, a12, a13, a14, a15) => k a1 a2 a3 a4 a5 a6 a7 a8 a9 a10 a11 a12 a13 a14 a15
theorem ob15_some {α1 α2 α3 α4 α5 α6 α7 α8 α9 α10 α11 α12 α13 α14 α15 β : Type} {x : Option (α1 × α2 × α3 × α4 × α5 × α6 × α7 × α8 × α9 × α10 × α11 × α12 × α13 × α14 × α15)} {k : α1 → α2 → α3 → α4 → α5 → α6 → α7 → α8 → α9 → α10 → α11 → α12 → α13 → α14 → α15 → Option β} {o : β} (h : ob15 x k = some o) : ∃ a1 a2 a3 a4 a5 a6 a7 a8 a9 a10 a11 a12 a13 a14 a15, x = some (a1, a2, a3, a4, a5, a6, a7, a8, a9, a10, a11, a12, a13, a14, a15) ∧ k a1 a2 a3 a4 a5 a6 a7 a8 a9 a10 a11 a12 a13 a14 a15 = some o := by
  cases x
  · cases h
  · exact ⟨_, _, _, _, _, _, _, _, _, _, _, _, _, _, _, rfl, h⟩
def ob16 {α1 α2 α3 α4 α5 α6 α7 α8 α9 α10 α11 α12 α13 α14 α15 α16 β : Type} (x : Option (α1 × α2 × α3 × α4 × α5 × α6 × α7 × α8 × α9 × α10 × α11 × α12 × α13 × α14 × α15 × α16)) (k : α1 → α2 → α3 → α4 → α5 → α6 → α7 → α8 → α9 → α10 → α11 → α12 → α13 → α14 → α15 → α16 → Option β) : Option β := match x with
  | none => none
  | some (a1, a2, a3, a4, a5, a6, a7, a8, a9, a10, a11, a12, a13, a14, a15, a16) => k a1 a2 a3 a4 a5 a6 a7 a8 a9 a10 a11 a12 a13 a14 a15 a16
theorem ob16_some {α1 α2 α3 α4 α5 α6 α7 α8 α9 α10 α11 α12 α13 α14 α15 α16 β : Type} {x : Option (α1 × α2 × α3 × α4 × α5 × α6 × α7 × α8 × α9 × α10 × α11 × α12 × α13 × α14 × α15 × α16)} {k : α1 → α2 → α3 → α4 → α5 → α6 → α7 → α8 → α9 → α10 → α11 → α12 → α13 → α14 → α15 → α16 → Option β} {o : β} (h : ob16 x k = some o) : ∃ a1 a2 a3 a4 a5 a6 a7 a8 a9 a10 a11 a12 a13 a14 a15 a16, x = some (a1, a2, a3, a4, a5, a6, a7, a8, a9, a10, a11, a12, a13, a14, a15, a16) ∧ k a1 a2 a3 a4 a5 a6 a7 a8 a9 a10 a11 a12 a13 a14 a15 a16 = some o := by
  cases x
  · cases h
  · exact ⟨_, _, _, _, _, _, _, _, _, _, _, _, _, _, _, _, rfl, h⟩
def ob17 {α1 α2 α3 α4 α5 α6 α7 α8 α9 α10 α11 α12 α13 α14 α15 α16 α17 β : Type} (x : Option (α1 × α2 × α3 × α4 × α5 × α6 × α7 × α8 × α9 × α10 × α11 × α12 × α13 × α14 × α15 × α16 × α17)) (k : α1 → α2 → α3 → α4 → α5 → α6 → α7 → α8 → α9 → α10 → α11 → α12 → α13 → α14 → α15 → α16 → α17 → Option β) : Option β := match x with
  | none => none
  | some (a1, a2, a3, a4, a5, a6, a7, a8, a9, a10, a11, a12, a13, a14, a15, a16, a17) => k a1 a2 a3 a4 a5 a6 a7 a8 a9 a10 a11 a12 a13 a14 a15 a16 a17
theorem ob17_some {α1 α2 α3 α4 α5 α6 α7 α8 α9 α10 α11 α12 α13 α14 α15 α16 α17 β : Type} {x : Option (α1 × α2 × α3 × α4 × α5 × α6 × α7 × α8 × α9 × α10 × α11 × α12 × α13 × α14 × α15 × α16 × α17)} {k : α1 → α2 → α3 → α4 → α5 → α6 → α7 → α8 → α9 → α10 → α11 → α12 → α13 → α14 → α15 → α16 → α17 → Option β} {o : β} (h : ob17 x k = some o) : ∃ a1 a2 a3 a4 a5 a6 a7 a8 a9 a10 a11 a12 a13 a14 a15 a16 a17, x = some (a1, a2, a3, a4, a5, a6, a7, a8, a9, a10, a11, a12, a13, a14, a15, a16, a17) ∧ k a1 a2 a3 a4 a5 a6 a7 a8 a9 a10 a11 a12 a13 a14 a15 a16 a17 = some o := by
  cases x
  · cases h
  · exact ⟨_, _, _, _, _, _, _, _, _, _, _, _, _, _, _, _, _, rfl, h⟩
def ob18 {α1 α2 α3 α4 α5 α6 α7 α8 α9 α10 α11 α12 α13 α14 α15 α16 α17 α18 β : Type} (x : Option (α1 × α2 × α3 × α4 × α5 × α6 × α7 × α8 × α9 × α10 × α11 × α12 × α13 × α14 × α15 × α16 × α17 × α18)) (k : α1 → α2 → α3 → α4 → α5 → α6 → α7 → α8 → α9 → α10 → α11 → α12 → α13 → α14 → α15 → α16 → α17 → α18 → Option β) : Option β := match x with
  | none => none
  | some (a1, a2, a3, a4, a5, a6, a7, a8, a9, a10, a11, a12, a13, a14, a15, a16, a17, a18) => k a1 a2 a3 a4 a5 a6 a7 a8 a9 a10 a11 a12 a13 a14 a15 a16 a17 a18
theorem ob18_some {α1 α2 α3 α4 α5 α6 α7 α8 α9 α10 α11 α12 α13 α14 α15 α16 α17 α18 β : Type} {x : Option (α1 × α2 × α3 × α4 × α5 × α6 × α7 × α8 × α9 × α10 × α11 × α12 × α13 × α14 × α15 × α16 × α17 × α18)} {k : α1 → α2 → α3 → α4 → α5 → α6 → α7 → α8 → α9 → α10 → α11 → α12 → α13 → α14 → α15 → α16 → α17 → α18 → Option β} {o : β} (h : ob18 x k = some o) : ∃ a1 a2 a3 a4 a5 a6 a7 a8 a9 a10 a11 a12 a13 a14 a15 a16 a17 a18, x = some (a1, a2, a3, a4, a5, a6, a7, a8, a9, a10, a11, a12, a13, a14, a15, a16, a17, a18) ∧ k a1 a2 a3 a4 a5 a6 a7 a8 a9 a10 a11 a12 a13 a14 a15 a16 a17 a18 = some o := by
  cases x
  · cases h
  · exact ⟨_, _, _, _, _, _, _, _, _, _, _, _, _, _, _, _, _, _, rfl, h⟩
def ob19 {α1 α2 α3 α4 α5 α6 α7 α8 α9 α10 α11 α12 α13 α14 α15 α16 α17 α18 α19 β : Type} (x : Option (α1 × α2 × α3 × α4 × α5 × α6 × α7 × α8 × α9 × α10 × α11 × α12 × α13 × α14 × α15 × α16 × α17 × α18 × α19)) (k : α1 → α2 → α3 → α4 → α5 → α6 → α7 → α8 → α9 → α10 → α11 → α12 → α13 → α14 → α15 → α16 → α17 → α18 → α19 → Option β) : Option β := match x with
  | none => none
  | some (a1, a2, a3, a4, a5, a6, a7, a8, a9, a10, a11, a12, a13, a14, a15, a16, a17, a18, a19) => k a1 a2 a3 a4 a5 a6 a7 a8 a9 a10 a11 a12 a13 a14 a15 a16 a17 a18 a19
theorem ob19_some {α1 α2 α3 α4 α5 α6 α7 α8 α9 α10 α11 α12 α13 α14 α15 α16 α17 α18 α19 β : Type} {x : Option (α1 × α2 × α3 × α4 × α5 × α6 × α7 × α8 × α9 × α10 × α11 × α12 × α13 × α14 × α15 × α16 × α17 × α18 × α19)} {k : α1 → α2 → α3 → α4 → α5 → α6 → α7 → α8 → α9 → α10 → α11 → α12 → α13 → α14 → α15 → α16 → α17 → α18 → α19 → Option β} {o : β} (h : ob19 x k = some o) : ∃ a1 a2 a3 a4 a5 a6 a7 a8 a9 a10 a11 a12 a13 a14 a15 a16 a17 a18 a19, x = some (a1, a2, a3, a4, a5, a6, a7, a8, a9, a10, a11, a12, a13, a14, a15, a16, a17, a18, a19) ∧ k a1 a2 a3 a4 a5 a6 a7 a8 a9 a10 a11 a12 a13 a14 a15 a16 a17 a18 a19 = some o := by
  cases x
  · cases h
  · exact ⟨_, _, _, _, _, _, _, _, _, _, _, _, _, _, _, _, _, _, _, rfl, h⟩
def ob20 {α1 α2 α3 α4 α5 α6 α7 α8 α9 α10 α11 α12 α13 α14 α15 α16 α17 α18 α19 α20 β : Type} (x : Option (α1 × α2 × α3 × α4 × α5 × α6 × α7 × α8 × α9 × α10 × α11 × α12 × α13 × α14 × α15 × α16 × α17 × α18 × α19 × α20)) (k : α1 → α2 → α3 → α4 → α5 → α6 → α7 → α8 → α9 → α10 → α11 → α12 → α13 → α14 → α15 → α16 → α17 → α18 → α19 → α20 → Option β) : Option β := match x with
  | none => none
  | some (a1, a2, a3, a4, a5, a6, a7, a8, a9, a10, a11, a12, a13, a14, a15, a16, a17, a18, a19, a20) => k a1 a2 a3 a4 a5 a6 a7 a8 a9 a10 a11 a12 a13 a14 a15 a16 a17 a18 a19 a20
theorem ob20_some {α1 α2 α3 α4 α5 α6 α7 α8 α9 α10 α11 α12 α13 α14 α15 α16 α17 α18 α19 α20 β : Type} {x : Option (α1 × α2 × α3 × α4 × α5 × α6 × α7 × α8 × α9 × α10 × α11 × α12 × α13 × α14 × α15 × α16 × α17 × α18 × α19 × α20)} {k : α1 → α2 → α3 → α4 → α5 → α6 → α7 → α8 → α9 → α10 → α11 → α12 → α13 → α14 → α15 → α16 → α17 → α18 → α19 → α20 → Option β} {o : β} (h : ob20 x k = some o) : ∃ a1 a2 a3 a4 a5 a6 a7 a8 a9 a10 a11 a12 a13 a14 a15 a16 a17 a18 a19 a20, x = some (a1, a2, a3, a4, a5, a6, a7, a8, a9, a10, a11, a12, a13, a14, a15, a16, a17, a18, a19, a20) ∧ k a1 a2 a3 a4 a5 a6 a7 a8 a9 a10 a11 a12 a13 a14 a15 a16 a17 a18 a19 a20 = some o := by
  cases x
  · cases h
  · exact ⟨_, _, _, _, _, _, _, _, _, _, _, _, _, _, _, _, _, _, _, _, rfl, h⟩
def ob21 {α1 α2 α3 α4 α5 α6 α7 α8 α9 α10 α11 α12 α13 α14 α15 α16 α17 α18 α19 α20 α21 β : Type} (x : Option (α1 × α2 × α3 × α4 × α5 × α6 × α7 × α8 × α9 × α10 × α11 × α12 × α13 × α14 × α15 × α16 × α17 × α18 × α19 × α20 × α21)) (k : α1 → α2 → α3 → α4 → α5 → α6 → α7 → α8 → α9 → α10 → α11 → α12 → α13 → α14 → α15 → α16 → α17 → α18 → α19 → α20 → α21 → Option β) : Option β := match x with
  | none => none
  | some (a1, a2, a3, a4, a5, a6, a7, a8, a9, a10, a11, a12, a13, a14, a15, a16, a17, a18, a19, a20, a21) => k a1 a2 a3 a4 a5 a6 a7 a8 a9 a10 a11 a12 a13 a14 a15 a16 a17 a18 a19 a20 a21
theorem ob21_some {α1 α2 α3 α4 α5 α6 α7 α8 α9 α10 α11 α12 α13 α14 α15 α16 α17 α18 α19 α20 α21 β : Type} {x : Option (α1 × α2 × α3 × α4 × α5 × α6 × α7 × α8 × α9 × α10 × α11 × α12 × α13 × α14 × α15 × α16 × α17 × α18 × α19 × α20 × α21)} {k : α1 → α2 → α3 → α4 → α5 → α6 → α7 → α8 → α9 → α10 → α11 → α12 → α13 → α14 → α15 → α16 → α17 → α18 → α19 → α20 → α21 → Option β} {o : β} (h : ob21 x k = some o) : ∃ a1 a2 a3 a4 a5 a6 a7 a8 a9 a10 a11 a12 a13 a14 a15 a16 a17 a18 a19 a20 a21, x = some (a1, a2, a3, a4, a5, a6, a7, a8, a9, a10, a11, a12, a13, a14, a15, a16, a17, a18, a19, a20, a21) ∧ k a1 a2 a3 a4 a5 a6 a7 a8 a9 a10 a11 a12 a13 a14 a15 a16 a17 a18 a19 a20 a21 = some o := by
  cases x
  · cases h
  · exact ⟨_, _, _, _, _, _, _, _, _, _, _, _, _, _, _, _, _, _, _, _, _, rfl, h⟩
def ob22 {α1 α2 α3 α4 α5 α6 α7 α8 α9 α10 α11 α12 α13 α14 α15 α16 α17 α18 α19 α20 α21 α22 β : Type} (x : Option (α1 × α2 × α3 × α4 × α5 × α6 × α7 × α8 × α9 × α10 × α11 × α12 × α13 × α14 × α15 × α16 × α17 × α18 × α19 × α20 × α21 × α22)) (k : α1 → α2 → α3 → α4 → α5 → α6 → α7 → α8 → α9 → α10 → α11 → α12 → α13 → α14 → α15 → α16 → α17 → α18 → α19 → α20 → α21 → α22 → Option β) : Option β := match x with
  | none => none
  | some (a1, a2, a3, a4, a5, a6, a7, a8, a9, a10, a11, a12, a13, a14, a15, a16, a17, a18, a19, a20, a21, a22) => k a1 a2 a3 a4 a5 a6 a7 a8 a9 a10 a11 a12 a13 a14 a15 a16 a17 a18 a19 a20 a21 a22
theorem ob22_some {α1 α2 α3 α4 α5 α6 α7 α8 α9 α10 α11 α12 α13 α14 α15 α16 α17 α18 α19 α20 α21 α22 β : Type} {x : Option (α1 × α2 × α3 × α4 × α5 × α6 × α7 × α8 × α9 × α10 × α11 × α12 × α13 × α14 × α15 × α16 × α17 × α18 × α19 × α20 × α21 × α22)} {k : α1 → α2 → α3 → α4 → α5 → α6 → α7 → α8 → α9 → α10 → α11 → α12 → α13 → α14 → α15 → α16 → α17 → α18 → α19 → α20 → α21 → α22 → Option β} {o : β} (h : ob22 x k = some o) : ∃ a1 a2 a3 a4 a5 a6 a7 a8 a9 a10 a11 a12 a13 a14 a15 a16 a17 a18 a19 a20 a21 a22, x = some (a1, a2, a3, a4, a5, a6, a7, a8, a9, a10, a11, a12, a13, a14, a15, a16, a17, a18, a19, a20, a21, a22) ∧ k a1 a2 a3 a4 a5 a6 a7 a8 a9 a10 a11 a12 a13 a14 a15 a16 a17 a18 a19 a20 a21 a22 = some o := by
  cases x
  · cases h
  · exact ⟨_, _, _, _, _, _, _, _, _, _, _, _, _, _, _, _, _, _, _, _, _, _, rfl, h⟩
def ob23 {α1 α2 α3 α4 α5 α6 α7 α8 α9 α10 α11 α12 α13 α14 α15 α16 α17 α18 α19 α20 α21 α22 α23 β : Type} (x : Option (α1 × α2 × α3 × α4 × α5 × α6 × α7 × α8 × α9 × α10 × α11 × α12 × α13 × α14 × α15 × α16 × α17 × α18 × α19 × α20 × α21 × α22 × α23)) (k : α1 → α2 → α3 → α4 → α5 → α6 → α7 → α8 → α9 → α10 → α11 → α12 → α13 → α14 → α15 → α16 → α17 → α18 → α19 → α20 → α21 → α22 → α23 → Option β) : Option β := match x with
  | none => none
  | some (a1, a2, a3, a4, a5, a6, a7, a8, a9, a10, a11, a12, a13, a14, a15, a16, a17, a18, a19, a20, a21, a22, a23) => k a1 a2 a3 a4 a5 a6 a7 a8 a9 a10 a11 a12 a13 a14 a15 a16 a17 a18 a19 a20 a21 a22 a23
theorem ob23_some {α1 α2 α3 α4 α5 α6 α7 α8 α9 α10 α11 α12 α13 α14 α15 α16 α17 α18 α19 α20 α21 α22 α23 β : Type} {x : Option (α1 × α2 × α3 × α4 × α5 × α6 × α7 × α8 × α9 × α10 × α11 × α12 × α13 × α14 × α15 × α16 × α17 × α18 × α19 × α20 × α21 × α22 × α23)} {k : α1 → α2 → α3 → α4 → α5 → α6 → α7 → α8 → α9 → α10 → α11 → α12 → α13 → α14 → α15 → α16 → α17 → α18 → α19 → α20 → α21 → α22 → α23 → Option β} {o : β} (h : ob23 x k = some o) : ∃ a1 a2 a3 a4 a5 a6 a7 a8 a9 a10 a11 a12 a13 a14 a15 a16 a17 a18 a19 a20 a21 a22 a23, x = some (a1, a2, a3, a4, a5, a6, a7, a8, a9, a10, a11, a12, a13, a14, a15, a16, a17, a18, a19, a20, a21, a22, a23) ∧ k a1 a2 a3 a4 a5 a6 a7 a8 a9 a10 a11 a12 a13 a14 a15 a16 a17 a18 a19 a20 a21 a22 a23 = some o := by
  cases x
  · cases h
  · exact ⟨_, _, _, _, _, _, _, _, _, _, _, _, _, _, _, _, _, _, _, _, _, _, _, rfl, h⟩
def ob24 {α1 α2 α3 α4 α5 α6 α7 α8 α9 α10 α11 α12 α13 α14 α15 α16 α17 α18 α19 α20 α21 α22 α23 α24 β : Type} (x : Option (α1 × α2 × α3 × α4 × α5 × α6 × α7 × α8 × α9 × α10 × α11 × α12 × α13 × α14 × α15 × α16 × α17 × α18 × α19 × α20 × α21 × α22 × α23 × α24)) (k : α1 → α2 → α3 → α4 → α5 → α6 → α7 → α8 → α9 → α10 → α11 → α12 → α13 → α14 → α15 → α16 → α17 → α18 → α19 → α20 → α21 → α22 → α23 → α24 → Option β) : Option β := match x with
  | none => none
  | some (a1, a2, a3, a4, a5, a6, a7, a8, a9, a10, a11, a12, a13, a14, a15, a16, a17, a18, a19, a20, a21, a22, a23, a24) => k a1 a2 a3 a4 a5 a6 a7 a8 a9 a10 a11 a12 a13 a14 a15 a16 a17 a18 a19 a20 a21 a22 a23 a24
theorem ob24_some {α1 α2 α3 α4 α5 α6 α7 α8 α9 α10 α11 α12 α13 α14 α15 α16 α17 α18 α19 α20 α21 α22 α23 α24 β : Type} {x : Option (α1 × α2 × α3 × α4 × α5 × α6 × α7 × α8 × α9 × α10 × α11 × α12 × α13 × α14 × α15 × α16 × α17 × α18 × α19 × α20 × α21 × α22 × α23 × α24)} {k : α1 → α2 → α3 → α4 → α5 → α6 → α7 → α8 → α9 → α10 → α11 → α12 → α13 → α14 → α15 → α16 → α17 → α18 → α19 → α20 → α21 → α22 → α23 → α24 → Option β} {o : β} (h : ob24 x k = some o) : ∃ a1 a2 a3 a4 a5 a6 a7 a8 a9 a10 a11 a12 a13 a14 a15 a16 a17 a18 a19 a20 a21 a22 a23 a24, x = some (a1, a2, a3, a4, a5, a6, a7, a8, a9, a10, a11, a12, a13, a14, a15, a16, a17, a18, a19, a20, a21, a22, a23, a24) ∧ k a1 a2 a3 a4 a5 a6 a7 a8 a9 a10 a11 a12 a13 a14 a15 a16 a17 a18 a19 a20 a21 a22 a23 a24 = some o := by
  cases x
  · cases h
  · exact ⟨_, _, _, _, _, _, _, _, _, _, _, _, _, _, _, _, _, _, _, _, _, _, _, _, rfl, h⟩
/-- the six masks -/
def WO : Nat → Int64 := fun j => match j with
  | 0 => 6148914691236517205
  | 1 => 3689348814741910323
  | 2 => 1085102592571150095
  | 3 => 71777214294589695
  | 4 => 281470681808895
  | _ => 4294967295
/-! THE WORLD'S SURROUNDINGS: tables, links in the nest, the static row -/
abbrev tysAll (cy : Nat → ClassId) : List (ClassId × FieldType) := [(cy 0, .int), (cy 1, .long), (cy 2, .byte), (cy 3, .boolean), (cy 4, .object "ForAllGame$State")]
def isNest : Cond → Bool
  | .fieldLinkNest _ _ _ _ _ _ => true
  | .methodLinkNest _ _ _ _ => true
  | .declares _ => true
  | .castable _ _ => true
  | _ => false
theorem isNest_cases {w : Cond} (h : isNest w = true) : (∃ a i b n d k, w = .fieldLinkNest a i b n d k) ∨ (∃ a i b k, w = .methodLinkNest a i b k) ∨ (∃ a, w = .declares a) ∨ (∃ a b, w = .castable a b) := by
  cases w <;> first | exact Or.inl ⟨_, _, _, _, _, _, rfl⟩ | exact Or.inr (Or.inl ⟨_, _, _, _, rfl⟩) | exact Or.inr (Or.inr (Or.inl ⟨_, rfl⟩)) | exact Or.inr (Or.inr (Or.inr ⟨_, _, rfl⟩)) | exact absurd h Bool.false_ne_true
def NW (U : State) : Prop := ∀ w ∈ lw_tbl, isNest w = true → va_Nw w U
theorem NW.warm {s U : State} (hW : s.WarmedH U.vm) (h : NW s) : NW U := fun w hw hn => by
  have h1 := h w hw hn
  rcases isNest_cases hn with ⟨a, i, b, n, d, k, rfl⟩ | ⟨a, i, b, k, rfl⟩ | ⟨a, rfl⟩ | ⟨a, b, rfl⟩
  · exact va_Nw.warmF hW h1
  · exact va_Nw.warmM hW h1
  · exact va_Nw.warmD hW h1
  · exact va_Nw.warmC hW h1
theorem NW.at {s : State} {w : Cond} (h : NW s) (i : Nat) (hi : lw_tbl[i]? = some w) (hn : isNest w = true) : va_Nw w s := h w (List.mem_of_getElem? hi) hn
def ST (s0 tW : Nat) (U : State) : Prop := va_Z RX0 "WITHOUT" "[J" (.ref tW) (fun q => s0 ≤ q) U U.heap ∧ va_T .long tW 6 (fun j => .long (WO j)) (fun q => s0 ≤ q) U U.heap
def EV (D : va_G) (cy : Nat → ClassId) (s0 tW : Nat) (U : State) : Prop := va_K D vwCl (tysAll cy) U ∧ NW U ∧ ST s0 tW U
theorem EV.call {D : va_G} {cy : Nat → ClassId} {s0 tW : Nat} {s U : State} {A : Nat → Prop} {H : Heap} {locs : List Loc} (hE : EV D cy s0 tW s) (hS : va_S A s.heap H locs) (hAs : ∀ q, A q → s0 ≤ q) (hU : U.heap = H) (hW : s.WarmedH U.vm) : EV D cy s0 tW U := by
  have hq : ∀ a : Nat, a < s.heap.size → ¬ (fun q => s0 ≤ q) a → H[a]? = s.heap[a]? := fun a h1 h2 => hS.2.1 a h1 (fun h3 => h2 (hAs a h3))
  refine ⟨va_K.moved hW.alike hE.1, NW.warm hW hE.2.1, ?_, ?_⟩
  · rw [hU]; exact va_Z.moved hW.alike (va_Z.kept hE.2.2.1 hq)
  · rw [hU]; exact va_T.moved hW.alike (va_T.kept hE.2.2.2 hq)
theorem EV.blind {D : va_G} {cy : Nat → ClassId} {s0 tW : Nat} {U : State} (hE : EV D cy s0 tW U) (g : JFrame) (mk : MethodId) (a : Array Value) : EV D cy s0 tW (U.calling g mk a) :=
  ⟨va_K.moved (u := U) (U := U.calling g mk a) (Vm.Alike.refl U.vm) hE.1, NW.warm (s := U) (U := U.calling g mk a) (State.WarmedH.refl U) hE.2.1, va_Z.moved (u := U) (U := U.calling g mk a) (Vm.Alike.refl U.vm) hE.2.2.1, va_T.moved (u := U) (U := U.calling g mk a) (Vm.Alike.refl U.vm) hE.2.2.2⟩
/-! CONTRACTS -/
def cPre (D : va_G) (cy : Nat → ClassId) (s0 tW : Nat) (sz : Nat) (W0 : va_W) (U : State) : Prop := U.heap.size = sz ∧ va_P D vwCl W0 U.heap ∧ va_D (fun q => s0 ≤ q) W0 ∧ s0 ≤ sz ∧ EV D cy s0 tW U
def kQ (o : Option Value) (D : va_G) (A : Nat → Prop) (W1 : va_W) : Array Value → State → Outcome → State → Prop := fun _ st oc t => (oc = .returned o ∧ va_P D vwCl W1 t.heap ∧ va_D A W1) ∧ va_F A st t
abbrev rmK (f lo : Nat) : Room := { frames := f, cells := 0, slots := 0, locals := lo }
def KM (l : Launch) (D : va_G) (cy : Nat → ClassId) (s0 tW : Nat) (y : MethodName) (bytes : ByteArray) (maxL : Nat) (ret : Option FieldType) (f lo : Nat) (As : List Value) (sz : Nat) (W0 : va_W) (o : Option Value) (W1 : va_W) : Prop :=
  Met l y (Cond.code y bytes maxL ret :: wAll) (rmK f lo) (va_Pc As (cPre D cy s0 tW sz W0)) (kQ o D (va_A W0 sz) W1) 0 0 (va_A W0 sz)
theorem KM.intro {l : Launch} {D : va_G} {cy : Nat → ClassId} {s0 tW : Nat} {y : MethodName} {bytes : ByteArray} {maxL : Nat} {ret : Option FieldType} {f lo : Nat} {As : List Value} {sz : Nat} {W0 : va_W} {o : Option Value} {W1 : va_W} (hy : plainName y.cls = true) (hn : (lg_sl As).length ≤ maxL)
    (body : ∀ (p : Program) (e : Env) (s : State) (m : MethodId) (args : Array Value) (below : List Frame) (meth : Method) (c : Code) (A : Nat → Prop) (ls : Array Slot), p.tables.exec = Jvm.exec → c.code = bytes → meth.sig.returnType = ret → c.maxLocals = maxL → s.vm.findClass y.cls = some m.cls → (∀ w ∈ wAll, w.before args s = true) → meth.locks = false → EV D cy s0 tW s → va_P D vwCl W0 s.heap → va_D A W0 → va_S A s.heap s.heap [] → (∀ q, s.heap.size ≤ q → A q) → (∀ q, A q → s0 ≤ q) → lv_has ls maxL (lv_args 0 As) →
      W p l e (rmK f lo) s m args below meth c s.heap [] 0 0 (MQ below (kQ o D A W1) args s 0 0 A) (F0 m 0 ls [])) : KM l D cy s0 tW y bytes maxL ret f lo As sz W0 o W1 := by
  refine Met.ofW (cc := bytes) (maxL := maxL) (ret := ret) hy rfl ?_
  intro p e s m args below meth c s₁ B hml hv
  obtain ⟨rfl, hsz, hP, hD0, hs0, hE⟩ := hv
  have hts := atoms_spec (ws := Cond.code y bytes maxL ret :: wAll) B.pre
  subst hsz
  rw [lg_entry_eq]
  refine body p e s m _ below meth c _ _ B.exec B.bytes B.returns hml (findClass_of_methodNamed B.named) (fun w h => hts w (List.mem_cons_of_mem _ h)) B.notSynchronized hE hP (hD0.self (sz := s.heap.size)) va_S.rf (fun q h => Or.inr h) ?_ (lv_entry As hn)
  intro q hq
  rcases hq with ⟨k, e9, hk⟩ | hq
  · exact hD0.2 k _ hk
  · exact Nat.le_trans hs0 hq
section K4
variable {p : Program} {l : Launch} {e : Env} {R : Room} {s : State} {m : MethodId} {args : Array Value} {below : List Frame} {meth : Method} {c : Code} {H : Heap} {locs : List Loc} {cells slots : Nat} {Q : State → Prop}
variable {D : va_G} {cy : Nat → ClassId} {s0 tW : Nat} {A : Nat → Prop} {cc : ByteArray} {pc : Nat} {ls : Array Slot} {W1 : va_W}
theorem kret_i {v : Int32} (hx : p.tables.exec = Jvm.exec) (hb : c.code = cc) (hr : meth.sig.returnType = some .int) (hlocks : meth.locks = false) (hP : va_P D vwCl W1 H) (hD : va_D A W1) (hS : va_S A s.heap H locs) (hdg : decode cc pc = .ok (.ireturn, 1)) : W p l e R s m args below meth c H locs 0 0 (MQ below (kQ (some (.int v)) D A W1) args s 0 0 A) (F0 m pc ls [.int v]) :=
  W.iret hx hb hr (fun t ht hW => ⟨⟨rfl, by rw [ht]; exact hP, hD⟩, hS.F ht⟩) hS.2.2 hdg hlocks
theorem kret_z {v : Bool} (hx : p.tables.exec = Jvm.exec) (hb : c.code = cc) (hr : meth.sig.returnType = some .boolean) (hlocks : meth.locks = false) (hP : va_P D vwCl W1 H) (hD : va_D A W1) (hS : va_S A s.heap H locs) (hdg : decode cc pc = .ok (.ireturn, 1)) : W p l e R s m args below meth c H locs 0 0 (MQ below (kQ (some (.int (bI v))) D A W1) args s 0 0 A) (F0 m pc ls [.int (bI v)]) :=
  W.zret hx hb hr (bI_nar v) (fun t ht hW => ⟨⟨rfl, by rw [ht]; exact hP, hD⟩, hS.F ht⟩) hS.2.2 hdg hlocks
theorem kret_l {v : Int64} (hx : p.tables.exec = Jvm.exec) (hb : c.code = cc) (hr : meth.sig.returnType = some .long) (hlocks : meth.locks = false) (hP : va_P D vwCl W1 H) (hD : va_D A W1) (hS : va_S A s.heap H locs) (hdg : decode cc pc = .ok (.lreturn, 1)) : W p l e R s m args below meth c H locs 0 0 (MQ below (kQ (some (.long v)) D A W1) args s 0 0 A) (F0 m pc ls [.long v]) :=
  W.lret hx hb hr (fun t ht hW => ⟨⟨rfl, by rw [ht]; exact hP, hD⟩, hS.F ht⟩) hS.2.2 hdg hlocks
theorem kret_d {v : UInt64} (hx : p.tables.exec = Jvm.exec) (hb : c.code = cc) (hr : meth.sig.returnType = some .double) (hlocks : meth.locks = false) (hP : va_P D vwCl W1 H) (hD : va_D A W1) (hS : va_S A s.heap H locs) (hdg : decode cc pc = .ok (.dreturn, 1)) : W p l e R s m args below meth c H locs 0 0 (MQ below (kQ (some (.double v)) D A W1) args s 0 0 A) (F0 m pc ls [.double v]) :=
  W.dret hx hb hr (fun t ht hW => ⟨⟨rfl, by rw [ht]; exact hP, hD⟩, hS.F ht⟩) hS.2.2 hdg hlocks
theorem kret_v (hx : p.tables.exec = Jvm.exec) (hb : c.code = cc) (hr : meth.sig.returnType = none) (hlocks : meth.locks = false) (hP : va_P D vwCl W1 H) (hD : va_D A W1) (hS : va_S A s.heap H locs) (hdg : decode cc pc = .ok (.return_, 1)) : W p l e R s m args below meth c H locs 0 0 (MQ below (kQ none D A W1) args s 0 0 A) (F0 m pc ls []) :=
  W.vret hx hb hr (fun t ht hW => ⟨⟨rfl, by rw [ht]; exact hP, hD⟩, hS.F ht⟩) hS.2.2 hdg hlocks
theorem kret_r {a : Nat} {rt : FieldType} (hx : p.tables.exec = Jvm.exec) (hb : c.code = cc) (hr : meth.sig.returnType = some rt) (hrt : (∃ n, rt = .object n) ∨ ∃ t, rt = .array t) (hlocks : meth.locks = false) (hP : va_P D vwCl W1 H) (hD : va_D A W1) (hS : va_S A s.heap H locs) (hdg : decode cc pc = .ok (.areturn, 1)) : W p l e R s m args below meth c H locs 0 0 (MQ below (kQ (some (.ref a)) D A W1) args s 0 0 A) (F0 m pc ls [.ref a]) :=
  W.aret hx hb hr hrt (Or.inr ⟨a, rfl⟩) (fun t ht hW => ⟨⟨rfl, by rw [ht]; exact hP, hD⟩, hS.F ht⟩) hS.2.2 hdg hlocks
theorem fm_of_map {α β : Type} {f : α → Option β} : ∀ {is : List α} {w : List β}, is.map f = w.map some → is.filterMap f = w
  | [], [], _ => rfl
  | [], _ :: _, h => by cases h
  | _ :: _, [], h => by cases h
  | a :: is, b :: w, h => by
    simp only [List.map_cons, List.cons.injEq] at h
    rw [List.filterMap_cons, h.1]
    simp only [List.cons.injEq, true_and]
    exact fm_of_map h.2
theorem callK {ws Wc wr Wc1 wsN : va_W} {o : Option Value} {rest st0 : List Value} {a : Array Value} (hr : va_Run p l e R s m args below meth c H locs cells slots 0 0 (F0 m pc ls st0) rest (kQ o D (va_A Wc H.size) Wc1 a) (va_A Wc H.size)) (hP : va_P D vwCl ws H) (hD : va_D A ws) (hS : va_S A s.heap H locs) (hA : ∀ q, s.heap.size ≤ q → A q) (isC isR isQ : List Nat)
    (hC : isC.map (fun i => ws[i]?) = Wc.map some) (hR : isR.map (fun i => ws[i]?) = wr.map some) (hn : va_nd isR = true) (hdis : (isR.all (fun i => !(isC.contains i))) = true) (hQ : isQ.map (fun i => (wr ++ Wc1)[i]?) = wsN.map some) (hnQ : va_nd isQ = true)
    (kk : ∀ (H1 : Heap) (locs1 : List Loc), va_P D vwCl wsN H1 → va_D A wsN → va_S A s.heap H1 locs1 → W p l e R s m args below meth c H1 locs1 cells slots Q (F0 m (pc + 3) ls (o.toList ++ rest))) : W p l e R s m args below meth c H locs cells slots Q (F0 m pc ls st0) := by
  intro T hT X
  obtain ⟨v, st₀, t, T', L, h0, X', hL, e1, e2, ⟨⟨hv, hp1, hd1⟩, hz, hk⟩, st⟩ := hr T hT X
  cases hv
  rw [h0] at hz hk
  have hF : ∀ q, va_A Wc H.size q → A q := va_free hD hS hA isC hC
  have hdis' : ∀ i ∈ isR, i ∉ isC := fun i hi hc => by
    have h1 := List.all_eq_true.mp hdis i hi
    rw [List.contains_iff_mem.mpr hc] at h1
    cases h1
  obtain ⟨hP2, hD2⟩ := va_join (H1 := T'.heap) hP hD isC isR hC hR hn hdis' (fun q h1 h2 => by rw [e1]; exact hk q h1 h2) hF (by rw [e1]; exact hp1) hd1
  obtain ⟨t2, a1, b1⟩ := kk T'.heap (locs ++ L) (hP2.sub isQ (fm_of_map hQ)) (hD2.sub isQ hnQ hQ)
    ⟨Nat.le_trans hS.1 (by rw [e1]; exact hz), fun q h1 h2 => by rw [e1, hk q (Nat.lt_of_lt_of_le h1 hS.1) (fun z => h2 (hF q z))]; exact hS.2.1 q h1 h2, fun q hq => by
      rcases List.mem_append.mp hq with h | h
      · exact hS.2.2 q h
      · exact hF _ (hL q h)⟩ T' rfl X'
  exact ⟨t2, st t2 a1, b1⟩
theorem kpre {ws Wc : va_W} {As : List Value} (hE : EV D cy s0 tW s) (hP : va_P D vwCl ws H) (hD : va_D A ws) (hS : va_S A s.heap H locs) (hA : ∀ q, s.heap.size ≤ q → A q) (hAs : ∀ q, A q → s0 ≤ q) (isC : List Nat) (hC : isC.map (fun i => ws[i]?) = Wc.map some) (hnC : va_nd isC = true) : FrameBlind (va_Pc As (cPre D cy s0 tW H.size Wc)) ∧ ∀ U : State, U.heap = H → s.WarmedH U.vm → va_Pc As (cPre D cy s0 tW H.size Wc) As.toArray U := by
  refine ⟨fun a U g mk q => ?_, fun U hU hW => ⟨rfl, by rw [hU], by rw [hU]; exact hP.sub isC (fm_of_map hC), (hD.sub isC hnC hC).weaken (fun _ q _ h => hAs _ h), Nat.le_trans (hAs _ (hA _ (Nat.le_refl _))) hS.1, hE.call hS hAs hU hW⟩⟩
  obtain ⟨q0, q1, qP, qD, qs, qE⟩ := q
  exact ⟨q0, q1, qP, qD, qs, qE.blind g mk a⟩
variable {y : MethodName} {bytes : ByteArray} {maxL nL index f lo : Nat} {ret : Option FieldType} {own : String} {b : Nat} {As rest st : List Value} {ws Wc wr Wc1 wsN : va_W} {o : Option Value}
theorem kcV {ci q0 : Nat} {q : vw_C} {fs : List Value} (S : CallFix p m c cc nL s args wAll own) (hE : EV D cy s0 tW s) (hP : va_P D vwCl ws H) (hD : va_D A ws) (hS : va_S A s.heap H locs) (hA : ∀ q, s.heap.size ≤ q → A q) (hAs : ∀ q, A q → s0 ≤ q) (isC isR isQ : List Nat) (hM : KM l D cy s0 tW y bytes maxL ret f lo (.ref b :: As) H.size Wc o Wc1)
    (hg : GoodIn wAll (wsV own index q.1 y (Cond.code y bytes maxL ret :: wAll))) (hd : y.cls = q.1 ∧ y.cls ≠ "java/lang/invoke/MethodHandle" ∧ y.cls ≠ "java/lang/invoke/VarHandle" ∧ (parseMethodDescriptor y.desc).map (fun d => d.parameters.length) = some As.length) (hRm : f + 1 ≤ R.frames ∧ 8 + (maxL + 11) + lo ≤ R.locals)
    (hq : ws[q0]? = some (b, .inr (ci, fs))) (hc : vwCl[ci]? = some q) (hC : isC.map (fun i => ws[i]?) = Wc.map some) (hnC : va_nd isC = true) (hR : isR.map (fun i => ws[i]?) = wr.map some) (hn : va_nd isR = true) (hdis : (isR.all (fun i => !(isC.contains i))) = true) (hQ : isQ.map (fun i => (wr ++ Wc1)[i]?) = wsN.map some) (hnQ : va_nd isQ = true)
    (hsize : ls.size = nL) (hst : st = As.reverse ++ .ref b :: rest) (hroom : (rest.map fun v => v.category).sum ≤ 8) (hdg : decode cc pc = .ok (.invokevirtual index, 3)) (hf : cells ≤ R.cells ∧ slots ≤ R.slots)
    (kk : ∀ (H1 : Heap) (locs1 : List Loc), va_P D vwCl wsN H1 → va_D A wsN → va_S A s.heap H1 locs1 → W p l e R s m args below meth c H1 locs1 cells slots Q (F0 m (pc + 3) ls (o.toList ++ rest))) : W p l e R s m args below meth c H locs cells slots Q (F0 m pc ls st) := by
  obtain ⟨k1, k2⟩ := kpre (As := .ref b :: As) hE hP hD hS hA hAs isC hC hnC
  exact callK (va_runV S hM (cwV As.length S.2.2.2.2 hg rfl rfl rfl hd hRm) ⟨k1, va_recv hE.1 hP hc hq, k2⟩ rfl rfl hsize hst (lv_room hroom) hdg hf) hP hD hS hA isC isR isQ hC hR hn hdis hQ hnQ kk
theorem kcVN {ci q0 : Nat} {q : vw_C} {fs : List Value} {host : String} (S : CallFix p m c cc nL s args wAll own) (hE : EV D cy s0 tW s) (hP : va_P D vwCl ws H) (hD : va_D A ws) (hS : va_S A s.heap H locs) (hA : ∀ q, s.heap.size ≤ q → A q) (hAs : ∀ q, A q → s0 ≤ q) (isC isR isQ : List Nat) (hM : KM l D cy s0 tW y bytes maxL ret f lo (.ref b :: As) H.size Wc o Wc1)
    (hg : Cond.code y bytes maxL ret ∈ wAll) (hg2 : Cond.initialized y.cls ∈ wAll) (hg3 : Cond.instanceMethod y ∈ wAll) (hg4 : Cond.selects q.1 y y ∈ wAll) (hNk : va_Nw (.methodLinkNest own index y host) s) (hd : y.cls ≠ "java/lang/invoke/MethodHandle" ∧ y.cls ≠ "java/lang/invoke/VarHandle" ∧ (parseMethodDescriptor y.desc).map (fun d => d.parameters.length) = some As.length) (hRm : f + 1 ≤ R.frames ∧ 8 + (maxL + 11) + lo ≤ R.locals)
    (hq : ws[q0]? = some (b, .inr (ci, fs))) (hc : vwCl[ci]? = some q) (hC : isC.map (fun i => ws[i]?) = Wc.map some) (hnC : va_nd isC = true) (hR : isR.map (fun i => ws[i]?) = wr.map some) (hn : va_nd isR = true) (hdis : (isR.all (fun i => !(isC.contains i))) = true) (hQ : isQ.map (fun i => (wr ++ Wc1)[i]?) = wsN.map some) (hnQ : va_nd isQ = true)
    (hsize : ls.size = nL) (hst : st = As.reverse ++ .ref b :: rest) (hroom : (rest.map fun v => v.category).sum ≤ 8) (hdg : decode cc pc = .ok (.invokevirtual index, 3)) (hf : cells ≤ R.cells ∧ slots ≤ R.slots)
    (kk : ∀ (H1 : Heap) (locs1 : List Loc), va_P D vwCl wsN H1 → va_D A wsN → va_S A s.heap H1 locs1 → W p l e R s m args below meth c H1 locs1 cells slots Q (F0 m (pc + 3) ls (o.toList ++ rest))) : W p l e R s m args below meth c H locs cells slots Q (F0 m pc ls st) := by
  obtain ⟨k1, k2⟩ := kpre (As := .ref b :: As) hE hP hD hS hA hAs isC hC hnC
  have ht := S.2.2.2.2
  exact callK (va_runVN S hM ⟨va_cnB As.length ht (gC hg) rfl rfl rfl hNk (ht _ hg2) hd hRm, ht _ hg3, ht _ hg4⟩ ⟨k1, va_recv hE.1 hP hc hq, k2⟩ rfl rfl hsize hst (lv_room hroom) hdg hf) hP hD hS hA isC isR isQ hC hR hn hdis hQ hnQ kk
theorem kcS (S : CallFix p m c cc nL s args wAll own) (hE : EV D cy s0 tW s) (hP : va_P D vwCl ws H) (hD : va_D A ws) (hS : va_S A s.heap H locs) (hA : ∀ q, s.heap.size ≤ q → A q) (hAs : ∀ q, A q → s0 ≤ q) (isC isR isQ : List Nat) (hM : KM l D cy s0 tW y bytes maxL ret f lo As H.size Wc o Wc1)
    (hg : GoodIn wAll (va_wsS own index y (Cond.code y bytes maxL ret :: wAll))) (hd : y.cls ≠ "java/lang/invoke/MethodHandle" ∧ y.cls ≠ "java/lang/invoke/VarHandle" ∧ (parseMethodDescriptor y.desc).map (fun d => d.parameters.length) = some As.length) (hRm : f + 1 ≤ R.frames ∧ 8 + (maxL + 11) + lo ≤ R.locals)
    (hC : isC.map (fun i => ws[i]?) = Wc.map some) (hnC : va_nd isC = true) (hR : isR.map (fun i => ws[i]?) = wr.map some) (hn : va_nd isR = true) (hdis : (isR.all (fun i => !(isC.contains i))) = true) (hQ : isQ.map (fun i => (wr ++ Wc1)[i]?) = wsN.map some) (hnQ : va_nd isQ = true)
    (hsize : ls.size = nL) (hst : st = As.reverse ++ rest) (hroom : (rest.map fun v => v.category).sum ≤ 8) (hdg : decode cc pc = .ok (.invokestatic index, 3)) (hf : cells ≤ R.cells ∧ slots ≤ R.slots)
    (kk : ∀ (H1 : Heap) (locs1 : List Loc), va_P D vwCl wsN H1 → va_D A wsN → va_S A s.heap H1 locs1 → W p l e R s m args below meth c H1 locs1 cells slots Q (F0 m (pc + 3) ls (o.toList ++ rest))) : W p l e R s m args below meth c H locs cells slots Q (F0 m pc ls st) := by
  have kp := kpre (As := As) hE hP hD hS hA hAs isC hC hnC
  exact callK (va_runS S hM (va_cwS As.length S.2.2.2.2 hg rfl rfl rfl hd hRm) kp rfl rfl hsize hst (lv_room hroom) hdg hf) hP hD hS hA isC isR isQ hC hR hn hdis hQ hnQ kk
theorem kcSN {host : String} (S : CallFix p m c cc nL s args wAll own) (hE : EV D cy s0 tW s) (hP : va_P D vwCl ws H) (hD : va_D A ws) (hS : va_S A s.heap H locs) (hA : ∀ q, s.heap.size ≤ q → A q) (hAs : ∀ q, A q → s0 ≤ q) (isC isR isQ : List Nat) (hM : KM l D cy s0 tW y bytes maxL ret f lo As H.size Wc o Wc1)
    (hg : Cond.code y bytes maxL ret ∈ wAll) (hg2 : Cond.initialized y.cls ∈ wAll) (hg3 : Cond.static y ∈ wAll) (hNk : va_Nw (.methodLinkNest own index y host) s) (hd : y.cls ≠ "java/lang/invoke/MethodHandle" ∧ y.cls ≠ "java/lang/invoke/VarHandle" ∧ (parseMethodDescriptor y.desc).map (fun d => d.parameters.length) = some As.length) (hRm : f + 1 ≤ R.frames ∧ 8 + (maxL + 11) + lo ≤ R.locals)
    (hC : isC.map (fun i => ws[i]?) = Wc.map some) (hnC : va_nd isC = true) (hR : isR.map (fun i => ws[i]?) = wr.map some) (hn : va_nd isR = true) (hdis : (isR.all (fun i => !(isC.contains i))) = true) (hQ : isQ.map (fun i => (wr ++ Wc1)[i]?) = wsN.map some) (hnQ : va_nd isQ = true)
    (hsize : ls.size = nL) (hst : st = As.reverse ++ rest) (hroom : (rest.map fun v => v.category).sum ≤ 8) (hdg : decode cc pc = .ok (.invokestatic index, 3)) (hf : cells ≤ R.cells ∧ slots ≤ R.slots)
    (kk : ∀ (H1 : Heap) (locs1 : List Loc), va_P D vwCl wsN H1 → va_D A wsN → va_S A s.heap H1 locs1 → W p l e R s m args below meth c H1 locs1 cells slots Q (F0 m (pc + 3) ls (o.toList ++ rest))) : W p l e R s m args below meth c H locs cells slots Q (F0 m pc ls st) := by
  have kp := kpre (As := As) hE hP hD hS hA hAs isC hC hnC
  have ht := S.2.2.2.2
  exact callK (va_runSN S hM ⟨va_cnB As.length ht (gC hg) rfl rfl rfl hNk (ht _ hg2) hd hRm, ht _ hg3, trivial⟩ kp rfl rfl hsize hst (lv_room hroom) hdg hf) hP hD hS hA isC isR isQ hC hR hn hdis hQ hnQ kk
/-- arrays by a place that is named -/
theorem ka_iald (hx : p.tables.exec = Jvm.exec) (hb : c.code = cc) (hK : va_K D vwCl (tysAll cy) s) (hP : va_P D vwCl ws H) (q0 : Nat) {a n : Nat} {f : Nat → Int32} (ha : ws[q0]? = some (a, .inl (cy 0, n, .inl f))) {i : Int32} (j : Nat) (hj : i.toNatClampNeg = j) (hin : vp_in i n) (hdg : decode cc pc = .ok (.iaload, 1))
    (kk : W p l e R s m args below meth c H locs cells slots Q (F0 m (pc + 1) ls (.int (f j) :: rest))) : W p l e R s m args below meth c H locs cells slots Q (F0 m pc ls (.int i :: .ref a :: rest)) := va_iald hx hb hK hP q0 0 ha rfl hin hdg (by rw [hj]; exact kk)
theorem ka_bald (hx : p.tables.exec = Jvm.exec) (hb : c.code = cc) (hK : va_K D vwCl (tysAll cy) s) (hP : va_P D vwCl ws H) (q0 : Nat) {a n : Nat} {f : Nat → Int32} (ha : ws[q0]? = some (a, .inl (cy 2, n, .inl f))) {i : Int32} (j : Nat) (hj : i.toNatClampNeg = j) (hin : vp_in i n) (hdg : decode cc pc = .ok (.baload, 1))
    (kk : W p l e R s m args below meth c H locs cells slots Q (F0 m (pc + 1) ls (.int (f j) :: rest))) : W p l e R s m args below meth c H locs cells slots Q (F0 m pc ls (.int i :: .ref a :: rest)) := va_bald hx hb hK hP q0 2 ha rfl hin hdg (by rw [hj]; exact kk)
theorem ka_zald (hx : p.tables.exec = Jvm.exec) (hb : c.code = cc) (hK : va_K D vwCl (tysAll cy) s) (hP : va_P D vwCl ws H) (q0 : Nat) {a n : Nat} {f : Nat → Bool} (ha : ws[q0]? = some (a, .inl (cy 3, n, .inl (fun j => bI (f j))))) {i : Int32} (j : Nat) (hj : i.toNatClampNeg = j) (hin : vp_in i n) (hdg : decode cc pc = .ok (.baload, 1))
    (kk : W p l e R s m args below meth c H locs cells slots Q (F0 m (pc + 1) ls (.int (bI (f j)) :: rest))) : W p l e R s m args below meth c H locs cells slots Q (F0 m pc ls (.int i :: .ref a :: rest)) := va_zald hx hb hK hP q0 3 ha rfl hin hdg (by rw [hj]; exact kk)
theorem ka_lald (hx : p.tables.exec = Jvm.exec) (hb : c.code = cc) (hK : va_K D vwCl (tysAll cy) s) (hP : va_P D vwCl ws H) (q0 : Nat) {a n : Nat} {f : Nat → Int64} (ha : ws[q0]? = some (a, .inl (cy 1, n, .inr (.inl f)))) {i : Int32} (j : Nat) (hj : i.toNatClampNeg = j) (hin : vp_in i n) (hdg : decode cc pc = .ok (.laload, 1))
    (kk : W p l e R s m args below meth c H locs cells slots Q (F0 m (pc + 1) ls (.long (f j) :: rest))) : W p l e R s m args below meth c H locs cells slots Q (F0 m pc ls (.int i :: .ref a :: rest)) := va_lald hx hb hK hP q0 1 ha rfl hin hdg (by rw [hj]; exact kk)
theorem ka_iast (hx : p.tables.exec = Jvm.exec) (hb : c.code = cc) (hK : va_K D vwCl (tysAll cy) s) (hP : va_P D vwCl ws H) (hD : va_D A ws) (hS : va_S A s.heap H locs) (q0 : Nat) {a n : Nat} {f : Nat → Int32} (ha : ws[q0]? = some (a, .inl (cy 0, n, .inl f))) {i x : Int32} (j : Nat) (hj : i.toNatClampNeg = j) (hin : vp_in i n) (hw : ws.set q0 (a, .inl (cy 0, n, .inl (upd f j x))) = wsN) (hdg : decode cc pc = .ok (.iastore, 1))
    (kk : ∀ (H1 : Heap) (locs1 : List Loc), va_P D vwCl wsN H1 → va_D A wsN → va_S A s.heap H1 locs1 → W p l e R s m args below meth c H1 locs1 cells slots Q (F0 m (pc + 1) ls rest)) : W p l e R s m args below meth c H locs cells slots Q (F0 m pc ls (.int x :: .int i :: .ref a :: rest)) := by
  subst hj; subst hw
  exact va_iast hx hb hK hP hD hS q0 0 ha rfl hin hdg kk
theorem ka_bast (hx : p.tables.exec = Jvm.exec) (hb : c.code = cc) (hK : va_K D vwCl (tysAll cy) s) (hP : va_P D vwCl ws H) (hD : va_D A ws) (hS : va_S A s.heap H locs) (q0 : Nat) {a n : Nat} {f : Nat → Int32} (ha : ws[q0]? = some (a, .inl (cy 2, n, .inl f))) {i x : Int32} (j : Nat) (hj : i.toNatClampNeg = j) (hin : vp_in i n) (hw : ws.set q0 (a, .inl (cy 2, n, .inl (upd f j (vp_nar .byte x)))) = wsN) (hdg : decode cc pc = .ok (.bastore, 1))
    (kk : ∀ (H1 : Heap) (locs1 : List Loc), va_P D vwCl wsN H1 → va_D A wsN → va_S A s.heap H1 locs1 → W p l e R s m args below meth c H1 locs1 cells slots Q (F0 m (pc + 1) ls rest)) : W p l e R s m args below meth c H locs cells slots Q (F0 m pc ls (.int x :: .int i :: .ref a :: rest)) := by
  subst hj; subst hw
  exact va_bast hx hb hK hP hD hS q0 2 ha rfl hin hdg kk
theorem ka_zast (hx : p.tables.exec = Jvm.exec) (hb : c.code = cc) (hK : va_K D vwCl (tysAll cy) s) (hP : va_P D vwCl ws H) (hD : va_D A ws) (hS : va_S A s.heap H locs) (q0 : Nat) {a n : Nat} {f : Nat → Bool} (ha : ws[q0]? = some (a, .inl (cy 3, n, .inl (fun j => bI (f j))))) {i : Int32} {x : Bool} (j : Nat) (hj : i.toNatClampNeg = j) (hin : vp_in i n) (hw : ws.set q0 (a, .inl (cy 3, n, .inl (fun k => bI (updB f j x k)))) = wsN) (hdg : decode cc pc = .ok (.bastore, 1))
    (kk : ∀ (H1 : Heap) (locs1 : List Loc), va_P D vwCl wsN H1 → va_D A wsN → va_S A s.heap H1 locs1 → W p l e R s m args below meth c H1 locs1 cells slots Q (F0 m (pc + 1) ls rest)) : W p l e R s m args below meth c H locs cells slots Q (F0 m pc ls (.int (bI x) :: .int i :: .ref a :: rest)) := by
  subst hj; subst hw
  rw [← updB_eq] at kk
  exact va_zast hx hb hK hP hD hS q0 3 ha rfl hin hdg kk
theorem ka_last (hx : p.tables.exec = Jvm.exec) (hb : c.code = cc) (hK : va_K D vwCl (tysAll cy) s) (hP : va_P D vwCl ws H) (hD : va_D A ws) (hS : va_S A s.heap H locs) (q0 : Nat) {a n : Nat} {f : Nat → Int64} (ha : ws[q0]? = some (a, .inl (cy 1, n, .inr (.inl f)))) {i : Int32} {x : Int64} (j : Nat) (hj : i.toNatClampNeg = j) (hin : vp_in i n) (hw : ws.set q0 (a, .inl (cy 1, n, .inr (.inl (vp_updL f j x)))) = wsN) (hdg : decode cc pc = .ok (.lastore, 1))
    (kk : ∀ (H1 : Heap) (locs1 : List Loc), va_P D vwCl wsN H1 → va_D A wsN → va_S A s.heap H1 locs1 → W p l e R s m args below meth c H1 locs1 cells slots Q (F0 m (pc + 1) ls rest)) : W p l e R s m args below meth c H locs cells slots Q (F0 m pc ls (.long x :: .int i :: .ref a :: rest)) := by
  subst hj; subst hw
  exact va_last hx hb hK hP hD hS q0 1 ha rfl hin hdg kk
theorem ka_put {own ref C : String} {T : u_T} {N ci : Nat} (hx : p.tables.exec = Jvm.exec) (hb : c.code = cc) {Ts : List Cond} (hts : ∀ w ∈ Ts, w.before args s = true) (hin : ∀ w ∈ u_ws C T N, w ∈ Ts) (ty0 : Nat → FieldType) (hty : ∀ k, k < N → parseFieldDescriptor (T k).2.2.1 = some (ty0 k)) (hnm : ∀ a, a < N → ∀ b, b < N → a ≠ b → (T a).2.1 ≠ (T b).2.1) (hown : s.vm.findClass own = some m.cls) (hK : va_K D vwCl (tysAll cy) s) (hP : va_P D vwCl ws H) (hD : va_D A ws) (hS0 : va_S A s.heap H locs) (q0 : Nat) {a : Nat} {fs : List Value} (he : ws[q0]? = some (a, .inr (ci, fs))) (hc : vwCl[ci]? = some (C, T, N)) (k : Nat) (hk : k < N) (hlink : (Cond.fieldLink own index ref (T k).2.1 (T k).2.2.1).before args s = true) (hsame : ∀ x, s.fieldFound? (T k).1 (T k).2.1 (T k).2.2.1 = some x → s.fieldFound? ref (T k).2.1 (T k).2.2.1 = some x) (hfin : (T k).2.2.2 = false) {ty : FieldType} {v : Value} (hd : parseFieldDescriptor (T k).2.2.1 = some ty) (hn : narrow ty v = v) (hfit : fits ty v = true) (hl : k < fs.length)
    (hw : ws.set q0 (a, .inr (ci, fs.set k v)) = wsN) (hdg : decode cc pc = .ok (.putfield index, 3)) (kk : ∀ (H1 : Heap) (locs1 : List Loc), va_P D vwCl wsN H1 → va_D A wsN → va_S A s.heap H1 locs1 → W p l e R s m args below meth c H1 locs1 cells slots Q (F0 m (pc + 3) ls rest)) : W p l e R s m args below meth c H locs cells slots Q (F0 m pc ls (v :: .ref a :: rest)) := by
  subst hw
  exact va_put hx hb hts hin ty0 hty hnm hown hK hP hD hS0 q0 he hc k hk hlink hsame hfin hd hn hfit hl hdg kk
theorem ka_putN {own ref C host : String} {T : u_T} {N ci : Nat} (hx : p.tables.exec = Jvm.exec) (hb : c.code = cc) {Ts : List Cond} (hts : ∀ w ∈ Ts, w.before args s = true) (hin : ∀ w ∈ u_ws C T N, w ∈ Ts) (ty0 : Nat → FieldType) (hty : ∀ k, k < N → parseFieldDescriptor (T k).2.2.1 = some (ty0 k)) (hnm : ∀ a, a < N → ∀ b, b < N → a ≠ b → (T a).2.1 ≠ (T b).2.1) (hown : s.vm.findClass own = some m.cls) (hK : va_K D vwCl (tysAll cy) s) (hP : va_P D vwCl ws H) (hD : va_D A ws) (hS0 : va_S A s.heap H locs) (q0 : Nat) {a : Nat} {fs : List Value} (he : ws[q0]? = some (a, .inr (ci, fs))) (hc : vwCl[ci]? = some (C, T, N)) (k : Nat) (hk : k < N) (hlink : (Cond.fieldLinkNest own index ref (T k).2.1 (T k).2.2.1 host).before args s = true) (hsame : ∀ x, s.fieldFound? (T k).1 (T k).2.1 (T k).2.2.1 = some x → s.fieldFound? ref (T k).2.1 (T k).2.2.1 = some x) (hfin : (T k).2.2.2 = false) {ty : FieldType} {v : Value} (hd : parseFieldDescriptor (T k).2.2.1 = some ty) (hn : narrow ty v = v) (hfit : fits ty v = true) (hl : k < fs.length)
    (hw : ws.set q0 (a, .inr (ci, fs.set k v)) = wsN) (hdg : decode cc pc = .ok (.putfield index, 3)) (kk : ∀ (H1 : Heap) (locs1 : List Loc), va_P D vwCl wsN H1 → va_D A wsN → va_S A s.heap H1 locs1 → W p l e R s m args below meth c H1 locs1 cells slots Q (F0 m (pc + 3) ls rest)) : W p l e R s m args below meth c H locs cells slots Q (F0 m pc ls (v :: .ref a :: rest)) := by
  subst hw
  exact va_putN hx hb hts hin ty0 hty hnm hown hK hP hD hS0 q0 he hc k hk hlink hsame hfin hd hn hfit hl hdg kk
end K4
def nn64 (r : UInt64) : Bool := decide (r &&& 0x7fffffffffffffff ≤ 0x7ff0000000000000)
theorem nn64_n {r : UInt64} (h : nn64 r = true) : vf_n64 r := (of_decide_eq_true h : r &&& 0x7fffffffffffffff ≤ 0x7ff0000000000000)
theorem sw_ne {x k : Int32} {a : Int} (h : ¬ x = k) (hk : k.toInt = a) : x.toInt ≠ a := fun e => h (Int32.toInt_inj.mp (e.trans hk.symm))
/-- a saved state: variables, breakers, clauses, positive, negative, learned, rounds -/
abbrev StT : Type := Int32 × Int32 × Int32 × (Nat → Int32) × (Nat → Int32) × Int32 × Int32
def updS (S : Nat → StT) (j : Nat) (w : StT) : Nat → StT := fun k => match Nat.beq k j with
  | true => w
  | false => S k
def rg4 (A : Nat → Nat) : Nat → Option Nat := fun j => match j with
  | 0 => some (A 1)
  | 1 => some (A 4)
  | 2 => some (A 7)
  | 3 => some (A 10)
  | _ => none
end
section
def F_X4_bit (N : Nat) (p0 : Int32) (p1 : Int32) : Option (Int32) :=
  some ((p0 >>> (p1 &&& 31)) &&& 1)
set_option maxHeartbeats 4000000 in
set_option maxRecDepth 100000 in
theorem c_X4_bit (l : Launch) (D : va_G) (cy : Nat → ClassId) (s0 tW N : Nat) (p0 : Int32) (p1 : Int32) (sz : Nat) {r9 : Int32} (hF : F_X4_bit N p0 p1 = some r9) : KM l D cy s0 tW yX4_bit cX4_bit 2 (some .int) 0 0 [.int p0, .int p1] sz [] (some (.int r9)) [] := by
  refine KM.intro rfl (Nat.le_of_ble_eq_true rfl) ?_
  intro p e s m args below meth c A ls hx hb hr hml hown hts hlocks hE hP hD hS hA hAs hl
  have hK := hE.1
  have hl : lv_has ls 2 [(0, .int p0), (1, .int p1)] := hl
  unfold F_X4_bit at hF
  refine lv_iload_n hx hb dX4_bit_0 rfl (lv_at hl 0 rfl) ?_
  refine lv_iload_n hx hb dX4_bit_1 rfl (lv_at hl 1 rfl) ?_
  refine lv_ishr hx hb dX4_bit_2 ?_
  refine lv_iconst (v := 1) hx hb dX4_bit_3 (by decide) ?_
  refine lv_iand hx hb dX4_bit_4 ?_
  cases hF
  exact kret_i hx hb hr hlocks hP hD hS dX4_bit_5

abbrev w_X4_read (cy : Nat → ClassId) (A_p0 : Nat) (L_p0 : Nat) (p0 : Nat → Int32) : va_W := [(A_p0, .inl (cy 0, L_p0, .inl p0))]
def F_X4_read (N : Nat) (L_p0 : Nat) (p1 : Int32) (p0 : Nat → Int32) : Option (Int32) :=
  (if p1 < (0 : Int32) then some 0 else (if (nI L_p0) ≤ p1 then some 0 else gd (inb p1 L_p0) (some (p0 p1.toNatClampNeg))))
set_option maxHeartbeats 4000000 in
set_option maxRecDepth 100000 in
theorem c_X4_read (l : Launch) (D : va_G) (cy : Nat → ClassId) (s0 tW N : Nat) (A_p0 : Nat) (L_p0 : Nat) (p1 : Int32) (p0 : Nat → Int32) (sz : Nat) {r9 : Int32} (hF : F_X4_read N L_p0 p1 p0 = some r9) : KM l D cy s0 tW yX4_read cX4_read 2 (some .int) 0 0 [.ref A_p0, .int p1] sz (w_X4_read cy A_p0 L_p0 p0) (some (.int r9)) (w_X4_read cy A_p0 L_p0 p0) := by
  refine KM.intro rfl (Nat.le_of_ble_eq_true rfl) ?_
  intro p e s m args below meth c A ls hx hb hr hml hown hts hlocks hE hP hD hS hA hAs hl
  have hK := hE.1
  have hl : lv_has ls 2 [(0, .ref A_p0), (1, .int p1)] := hl
  unfold F_X4_read at hF
  refine lv_iload_n hx hb dX4_read_0 rfl (lv_at hl 1 rfl) ?_
  refine lv_if_lt (tgt := 16) hx hb dX4_read_1 (by decide) (fun c_1 => ?_) (fun c_1 => ?_)
  · replace hF := ite_t c_1 hF
    refine lv_iconst (v := 0) hx hb dX4_read_16 (by decide) ?_
    cases hF
    exact kret_i hx hb hr hlocks hP hD hS dX4_read_17
  · replace hF := ite_f c_1 hF
    refine lv_iload_n hx hb dX4_read_4 rfl (lv_at hl 1 rfl) ?_
    refine lv_aload_n hx hb dX4_read_5 rfl (lv_at hl 0 rfl) ?_
    refine va_alen (v := (nI L_p0)) hx hb hK hP 0 0 rfl rfl rfl dX4_read_6 ?_
    refine lv_icmp_ge (tgt := 16) hx hb dX4_read_7 (by decide) (fun c_2 => ?_) (fun c_2 => ?_)
    · replace hF := ite_t c_2 hF
      refine lv_iconst (v := 0) hx hb dX4_read_16 (by decide) ?_
      cases hF
      exact kret_i hx hb hr hlocks hP hD hS dX4_read_17
    · replace hF := ite_f c_2 hF
      refine lv_aload_n hx hb dX4_read_10 rfl (lv_at hl 0 rfl) ?_
      refine lv_iload_n hx hb dX4_read_11 rfl (lv_at hl 1 rfl) ?_
      obtain ⟨hi_3, hF⟩ := gd_some hF
      refine ka_iald hx hb hK hP 0 rfl (p1.toNatClampNeg) rfl (inb_in hi_3) dX4_read_12 ?_
      refine lv_goto (tgt := 17) hx hb dX4_read_13 (by decide) ?_
      cases hF
      exact kret_i hx hb hr hlocks hP hD hS dX4_read_17

abbrev w_X4_write (cy : Nat → ClassId) (A_p0 : Nat) (L_p0 : Nat) (p0 : Nat → Int32) : va_W := [(A_p0, .inl (cy 0, L_p0, .inl p0))]
def F_X4_write (N : Nat) (L_p0 : Nat) (p1 : Int32) (p2 : Int32) (p0 : Nat → Int32) : Option ((Nat → Int32)) :=
  (if p1 < (0 : Int32) then some p0 else (if (nI L_p0) ≤ p1 then some p0 else gd (inb p1 L_p0) (some (upd p0 p1.toNatClampNeg p2))))
set_option maxHeartbeats 4000000 in
set_option maxRecDepth 100000 in
theorem c_X4_write (l : Launch) (D : va_G) (cy : Nat → ClassId) (s0 tW N : Nat) (A_p0 : Nat) (L_p0 : Nat) (p1 : Int32) (p2 : Int32) (p0 : Nat → Int32) (sz : Nat) {p09 : Nat → Int32} (hF : F_X4_write N L_p0 p1 p2 p0 = some p09) : KM l D cy s0 tW yX4_write cX4_write 3 none 0 0 [.ref A_p0, .int p1, .int p2] sz (w_X4_write cy A_p0 L_p0 p0) none (w_X4_write cy A_p0 L_p0 p09) := by
  refine KM.intro rfl (Nat.le_of_ble_eq_true rfl) ?_
  intro p e s m args below meth c A ls hx hb hr hml hown hts hlocks hE hP hD hS hA hAs hl
  have hK := hE.1
  have hl : lv_has ls 3 [(0, .ref A_p0), (1, .int p1), (2, .int p2)] := hl
  unfold F_X4_write at hF
  refine lv_iload_n hx hb dX4_write_0 rfl (lv_at hl 1 rfl) ?_
  refine lv_if_lt (tgt := 14) hx hb dX4_write_1 (by decide) (fun c_1 => ?_) (fun c_1 => ?_)
  · replace hF := ite_t c_1 hF
    cases hF
    exact kret_v hx hb hr hlocks hP hD hS dX4_write_14
  · replace hF := ite_f c_1 hF
    refine lv_iload_n hx hb dX4_write_4 rfl (lv_at hl 1 rfl) ?_
    refine lv_aload_n hx hb dX4_write_5 rfl (lv_at hl 0 rfl) ?_
    refine va_alen (v := (nI L_p0)) hx hb hK hP 0 0 rfl rfl rfl dX4_write_6 ?_
    refine lv_icmp_ge (tgt := 14) hx hb dX4_write_7 (by decide) (fun c_2 => ?_) (fun c_2 => ?_)
    · replace hF := ite_t c_2 hF
      cases hF
      exact kret_v hx hb hr hlocks hP hD hS dX4_write_14
    · replace hF := ite_f c_2 hF
      refine lv_aload_n hx hb dX4_write_10 rfl (lv_at hl 0 rfl) ?_
      refine lv_iload_n hx hb dX4_write_11 rfl (lv_at hl 1 rfl) ?_
      refine lv_iload_n hx hb dX4_write_12 rfl (lv_at hl 2 rfl) ?_
      obtain ⟨hi_3, hF⟩ := gd_some hF
      refine ka_iast (wsN := (w_X4_write cy A_p0 L_p0 (upd p0 p1.toNatClampNeg p2))) hx hb hK hP hD hS 0 rfl (p1.toNatClampNeg) rfl (inb_in hi_3) rfl dX4_write_13 (fun H locs hP hD hS => ?_)
      cases hF
      exact kret_v hx hb hr hlocks hP hD hS dX4_write_14

abbrev w_X4_readLong (cy : Nat → ClassId) (A_p0 : Nat) (L_p0 : Nat) (p0 : Nat → Int64) : va_W := [(A_p0, .inl (cy 1, L_p0, .inr (.inl p0)))]
def F_X4_readLong (N : Nat) (L_p0 : Nat) (p1 : Int32) (p0 : Nat → Int64) : Option (Int64) :=
  (if p1 < (0 : Int32) then some 0 else (if (nI L_p0) ≤ p1 then some 0 else gd (inb p1 L_p0) (some (p0 p1.toNatClampNeg))))
set_option maxHeartbeats 4000000 in
set_option maxRecDepth 100000 in
theorem c_X4_readLong (l : Launch) (D : va_G) (cy : Nat → ClassId) (s0 tW N : Nat) (A_p0 : Nat) (L_p0 : Nat) (p1 : Int32) (p0 : Nat → Int64) (sz : Nat) {r9 : Int64} (hF : F_X4_readLong N L_p0 p1 p0 = some r9) : KM l D cy s0 tW yX4_readLong cX4_readLong 2 (some .long) 0 0 [.ref A_p0, .int p1] sz (w_X4_readLong cy A_p0 L_p0 p0) (some (.long r9)) (w_X4_readLong cy A_p0 L_p0 p0) := by
  refine KM.intro rfl (Nat.le_of_ble_eq_true rfl) ?_
  intro p e s m args below meth c A ls hx hb hr hml hown hts hlocks hE hP hD hS hA hAs hl
  have hK := hE.1
  have hl : lv_has ls 2 [(0, .ref A_p0), (1, .int p1)] := hl
  unfold F_X4_readLong at hF
  refine lv_iload_n hx hb dX4_readLong_0 rfl (lv_at hl 1 rfl) ?_
  refine lv_if_lt (tgt := 16) hx hb dX4_readLong_1 (by decide) (fun c_1 => ?_) (fun c_1 => ?_)
  · replace hF := ite_t c_1 hF
    refine lv_lconst (v := 0) hx hb dX4_readLong_16 (by decide) ?_
    cases hF
    exact kret_l hx hb hr hlocks hP hD hS dX4_readLong_17
  · replace hF := ite_f c_1 hF
    refine lv_iload_n hx hb dX4_readLong_4 rfl (lv_at hl 1 rfl) ?_
    refine lv_aload_n hx hb dX4_readLong_5 rfl (lv_at hl 0 rfl) ?_
    refine va_alen (v := (nI L_p0)) hx hb hK hP 0 1 rfl rfl rfl dX4_readLong_6 ?_
    refine lv_icmp_ge (tgt := 16) hx hb dX4_readLong_7 (by decide) (fun c_2 => ?_) (fun c_2 => ?_)
    · replace hF := ite_t c_2 hF
      refine lv_lconst (v := 0) hx hb dX4_readLong_16 (by decide) ?_
      cases hF
      exact kret_l hx hb hr hlocks hP hD hS dX4_readLong_17
    · replace hF := ite_f c_2 hF
      refine lv_aload_n hx hb dX4_readLong_10 rfl (lv_at hl 0 rfl) ?_
      refine lv_iload_n hx hb dX4_readLong_11 rfl (lv_at hl 1 rfl) ?_
      obtain ⟨hi_3, hF⟩ := gd_some hF
      refine ka_lald hx hb hK hP 0 rfl (p1.toNatClampNeg) rfl (inb_in hi_3) dX4_readLong_12 ?_
      refine lv_goto (tgt := 17) hx hb dX4_readLong_13 (by decide) ?_
      cases hF
      exact kret_l hx hb hr hlocks hP hD hS dX4_readLong_17

abbrev w_X4_writeLong (cy : Nat → ClassId) (A_p0 : Nat) (L_p0 : Nat) (p0 : Nat → Int64) : va_W := [(A_p0, .inl (cy 1, L_p0, .inr (.inl p0)))]
def F_X4_writeLong (N : Nat) (L_p0 : Nat) (p1 : Int32) (p2 : Int64) (p0 : Nat → Int64) : Option ((Nat → Int64)) :=
  (if p1 < (0 : Int32) then some p0 else (if (nI L_p0) ≤ p1 then some p0 else gd (inb p1 L_p0) (some (vp_updL p0 p1.toNatClampNeg p2))))
set_option maxHeartbeats 4000000 in
set_option maxRecDepth 100000 in
theorem c_X4_writeLong (l : Launch) (D : va_G) (cy : Nat → ClassId) (s0 tW N : Nat) (A_p0 : Nat) (L_p0 : Nat) (p1 : Int32) (p2 : Int64) (p0 : Nat → Int64) (sz : Nat) {p09 : Nat → Int64} (hF : F_X4_writeLong N L_p0 p1 p2 p0 = some p09) : KM l D cy s0 tW yX4_writeLong cX4_writeLong 4 none 0 0 [.ref A_p0, .int p1, .long p2] sz (w_X4_writeLong cy A_p0 L_p0 p0) none (w_X4_writeLong cy A_p0 L_p0 p09) := by
  refine KM.intro rfl (Nat.le_of_ble_eq_true rfl) ?_
  intro p e s m args below meth c A ls hx hb hr hml hown hts hlocks hE hP hD hS hA hAs hl
  have hK := hE.1
  have hl : lv_has ls 4 [(0, .ref A_p0), (1, .int p1), (2, .long p2)] := hl
  unfold F_X4_writeLong at hF
  refine lv_iload_n hx hb dX4_writeLong_0 rfl (lv_at hl 1 rfl) ?_
  refine lv_if_lt (tgt := 14) hx hb dX4_writeLong_1 (by decide) (fun c_1 => ?_) (fun c_1 => ?_)
  · replace hF := ite_t c_1 hF
    cases hF
    exact kret_v hx hb hr hlocks hP hD hS dX4_writeLong_14
  · replace hF := ite_f c_1 hF
    refine lv_iload_n hx hb dX4_writeLong_4 rfl (lv_at hl 1 rfl) ?_
    refine lv_aload_n hx hb dX4_writeLong_5 rfl (lv_at hl 0 rfl) ?_
    refine va_alen (v := (nI L_p0)) hx hb hK hP 0 1 rfl rfl rfl dX4_writeLong_6 ?_
    refine lv_icmp_ge (tgt := 14) hx hb dX4_writeLong_7 (by decide) (fun c_2 => ?_) (fun c_2 => ?_)
    · replace hF := ite_t c_2 hF
      cases hF
      exact kret_v hx hb hr hlocks hP hD hS dX4_writeLong_14
    · replace hF := ite_f c_2 hF
      refine lv_aload_n hx hb dX4_writeLong_10 rfl (lv_at hl 0 rfl) ?_
      refine lv_iload_n hx hb dX4_writeLong_11 rfl (lv_at hl 1 rfl) ?_
      refine lv_lload_n hx hb dX4_writeLong_12 rfl (lv_at hl 2 rfl) ?_
      obtain ⟨hi_3, hF⟩ := gd_some hF
      refine ka_last (wsN := (w_X4_writeLong cy A_p0 L_p0 (vp_updL p0 p1.toNatClampNeg p2))) hx hb hK hP hD hS 0 rfl (p1.toNatClampNeg) rfl (inb_in hi_3) rfl dX4_writeLong_13 (fun H locs hP hD hS => ?_)
      cases hF
      exact kret_v hx hb hr hlocks hP hD hS dX4_writeLong_14

def F_X4_readLong_W (N : Nat) (p1 : Int32) : Option (Int64) :=
  (if p1 < (0 : Int32) then some 0 else (if (6 : Int32) ≤ p1 then some 0 else gd (inb p1 6) (some (WO p1.toNatClampNeg))))
set_option maxHeartbeats 4000000 in
set_option maxRecDepth 100000 in
theorem c_X4_readLong_W (l : Launch) (D : va_G) (cy : Nat → ClassId) (s0 tW N : Nat) (p1 : Int32) (sz : Nat) {r9 : Int64} (hF : F_X4_readLong_W N p1 = some r9) : KM l D cy s0 tW yX4_readLong cX4_readLong 2 (some .long) 0 0 [.ref tW, .int p1] sz [] (some (.long r9)) [] := by
  refine KM.intro rfl (Nat.le_of_ble_eq_true rfl) ?_
  intro p e s m args below meth c A ls hx hb hr hml hown hts hlocks hE hP hD hS hA hAs hl
  have hK := hE.1
  have hl : lv_has ls 2 [(0, .ref tW), (1, .int p1)] := hl
  unfold F_X4_readLong_W at hF
  refine lv_iload_n hx hb dX4_readLong_0 rfl (lv_at hl 1 rfl) ?_
  refine lv_if_lt (tgt := 16) hx hb dX4_readLong_1 (by decide) (fun c_1 => ?_) (fun c_1 => ?_)
  · replace hF := ite_t c_1 hF
    refine lv_lconst (v := 0) hx hb dX4_readLong_16 (by decide) ?_
    cases hF
    exact kret_l hx hb hr hlocks hP hD hS dX4_readLong_17
  · replace hF := ite_f c_1 hF
    refine lv_iload_n hx hb dX4_readLong_4 rfl (lv_at hl 1 rfl) ?_
    refine lv_aload_n hx hb dX4_readLong_5 rfl (lv_at hl 0 rfl) ?_
    refine va_tlen (v := 6) hx hb (va_T.narrow hE.2.2.2 hAs) hS rfl dX4_readLong_6 ?_
    refine lv_icmp_ge (tgt := 16) hx hb dX4_readLong_7 (by decide) (fun c_2 => ?_) (fun c_2 => ?_)
    · replace hF := ite_t c_2 hF
      refine lv_lconst (v := 0) hx hb dX4_readLong_16 (by decide) ?_
      cases hF
      exact kret_l hx hb hr hlocks hP hD hS dX4_readLong_17
    · replace hF := ite_f c_2 hF
      refine lv_aload_n hx hb dX4_readLong_10 rfl (lv_at hl 0 rfl) ?_
      refine lv_iload_n hx hb dX4_readLong_11 rfl (lv_at hl 1 rfl) ?_
      obtain ⟨hi_3, hF⟩ := gd_some hF
      refine va_tl (v := .long (WO p1.toNatClampNeg)) hx hb (va_T.narrow hE.2.2.2 hAs) hS (inb_in hi_3) rfl dX4_readLong_12 ?_
      refine lv_goto (tgt := 17) hx hb dX4_readLong_13 (by decide) ?_
      cases hF
      exact kret_l hx hb hr hlocks hP hD hS dX4_readLong_17

theorem q_258 : Cond.constant RJ6 265 1431655765 ∈ wAll := wAll_mem 258 (by decide +kernel) (by decide +kernel)
theorem q_259 : Cond.constant RJ6 266 858993459 ∈ wAll := wAll_mem 259 (by decide +kernel) (by decide +kernel)
theorem q_260 : Cond.constant RJ6 267 252645135 ∈ wAll := wAll_mem 260 (by decide +kernel) (by decide +kernel)
def F_J6_bitCount_0f7a4 (N : Nat) (p0 : Int32) : Option (Int32) :=
  nmv (p0 - ((p0.toUInt32 >>> ((1 : Int32).toUInt32 &&& Int32.toUInt32 31)).toInt32 &&& 1431655765)) (fun x_1 => nmv ((x_1 &&& 858993459) + ((x_1.toUInt32 >>> ((2 : Int32).toUInt32 &&& Int32.toUInt32 31)).toInt32 &&& 858993459)) (fun x_2 => nmv ((x_2 + (x_2.toUInt32 >>> ((4 : Int32).toUInt32 &&& Int32.toUInt32 31)).toInt32) &&& 252645135) (fun x_3 => nmv (x_3 + (x_3.toUInt32 >>> ((8 : Int32).toUInt32 &&& Int32.toUInt32 31)).toInt32) (fun x_4 => nmv (x_4 + (x_4.toUInt32 >>> ((16 : Int32).toUInt32 &&& Int32.toUInt32 31)).toInt32) (fun x_5 => some (x_5 &&& 63))))))
set_option maxHeartbeats 4000000 in
set_option maxRecDepth 100000 in
theorem c_J6_bitCount_0f7a4 (l : Launch) (D : va_G) (cy : Nat → ClassId) (s0 tW N : Nat) (p0 : Int32) (sz : Nat) {r9 : Int32} (hF : F_J6_bitCount_0f7a4 N p0 = some r9) : KM l D cy s0 tW yJ6_bitCount_0f7a4 cJ6_bitCount_0f7a4 1 (some .int) 0 0 [.int p0] sz [] (some (.int r9)) [] := by
  refine KM.intro rfl (Nat.le_of_ble_eq_true rfl) ?_
  intro p e s m args below meth c A ls hx hb hr hml hown hts hlocks hE hP hD hS hA hAs hl
  have hK := hE.1
  have hl : lv_has ls 1 [(0, .int p0)] := hl
  unfold F_J6_bitCount_0f7a4 at hF
  refine lv_iload_n hx hb dJ6_bitCount_0f7a4_0 rfl (lv_at hl 0 rfl) ?_
  refine lv_iload_n hx hb dJ6_bitCount_0f7a4_1 rfl (lv_at hl 0 rfl) ?_
  refine lv_iconst (v := 1) hx hb dJ6_bitCount_0f7a4_2 (by decide) ?_
  refine lv_iushr (v := (p0.toUInt32 >>> ((1 : Int32).toUInt32 &&& Int32.toUInt32 31)).toInt32) hx hb dJ6_bitCount_0f7a4_3 rfl ?_
  refine lv_ldcw (v := 1431655765) hx hb hown (hts _ q_258) dJ6_bitCount_0f7a4_4 ?_
  refine lv_iand hx hb dJ6_bitCount_0f7a4_7 ?_
  refine lv_isub hx hb dJ6_bitCount_0f7a4_8 ?_
  refine lv_topi (fun x_1 ex_1 => ?_)
  replace hF := nmv_at ex_1 hF
  refine lv_istore_n (lv' := [(0, .int x_1)]) hx hb dJ6_bitCount_0f7a4_9 rfl hl (by decide) rfl (fun ls hl => ?_)
  refine lv_iload_n hx hb dJ6_bitCount_0f7a4_10 rfl (lv_at hl 0 rfl) ?_
  refine lv_ldcw (v := 858993459) hx hb hown (hts _ q_259) dJ6_bitCount_0f7a4_11 ?_
  refine lv_iand hx hb dJ6_bitCount_0f7a4_14 ?_
  refine lv_iload_n hx hb dJ6_bitCount_0f7a4_15 rfl (lv_at hl 0 rfl) ?_
  refine lv_iconst (v := 2) hx hb dJ6_bitCount_0f7a4_16 (by decide) ?_
  refine lv_iushr (v := (x_1.toUInt32 >>> ((2 : Int32).toUInt32 &&& Int32.toUInt32 31)).toInt32) hx hb dJ6_bitCount_0f7a4_17 rfl ?_
  refine lv_ldcw (v := 858993459) hx hb hown (hts _ q_259) dJ6_bitCount_0f7a4_18 ?_
  refine lv_iand hx hb dJ6_bitCount_0f7a4_21 ?_
  refine lv_iadd hx hb dJ6_bitCount_0f7a4_22 ?_
  refine lv_topi (fun x_2 ex_2 => ?_)
  replace hF := nmv_at ex_2 hF
  refine lv_istore_n (lv' := [(0, .int x_2)]) hx hb dJ6_bitCount_0f7a4_23 rfl hl (by decide) rfl (fun ls hl => ?_)
  refine lv_iload_n hx hb dJ6_bitCount_0f7a4_24 rfl (lv_at hl 0 rfl) ?_
  refine lv_iload_n hx hb dJ6_bitCount_0f7a4_25 rfl (lv_at hl 0 rfl) ?_
  refine lv_iconst (v := 4) hx hb dJ6_bitCount_0f7a4_26 (by decide) ?_
  refine lv_iushr (v := (x_2.toUInt32 >>> ((4 : Int32).toUInt32 &&& Int32.toUInt32 31)).toInt32) hx hb dJ6_bitCount_0f7a4_27 rfl ?_
  refine lv_iadd hx hb dJ6_bitCount_0f7a4_28 ?_
  refine lv_ldcw (v := 252645135) hx hb hown (hts _ q_260) dJ6_bitCount_0f7a4_29 ?_
  refine lv_iand hx hb dJ6_bitCount_0f7a4_32 ?_
  refine lv_topi (fun x_3 ex_3 => ?_)
  replace hF := nmv_at ex_3 hF
  refine lv_istore_n (lv' := [(0, .int x_3)]) hx hb dJ6_bitCount_0f7a4_33 rfl hl (by decide) rfl (fun ls hl => ?_)
  refine lv_iload_n hx hb dJ6_bitCount_0f7a4_34 rfl (lv_at hl 0 rfl) ?_
  refine lv_iload_n hx hb dJ6_bitCount_0f7a4_35 rfl (lv_at hl 0 rfl) ?_
  refine lv_bipush (v := 8) hx hb dJ6_bitCount_0f7a4_36 (by decide) ?_
  refine lv_iushr (v := (x_3.toUInt32 >>> ((8 : Int32).toUInt32 &&& Int32.toUInt32 31)).toInt32) hx hb dJ6_bitCount_0f7a4_38 rfl ?_
  refine lv_iadd hx hb dJ6_bitCount_0f7a4_39 ?_
  refine lv_topi (fun x_4 ex_4 => ?_)
  replace hF := nmv_at ex_4 hF
  refine lv_istore_n (lv' := [(0, .int x_4)]) hx hb dJ6_bitCount_0f7a4_40 rfl hl (by decide) rfl (fun ls hl => ?_)
  refine lv_iload_n hx hb dJ6_bitCount_0f7a4_41 rfl (lv_at hl 0 rfl) ?_
  refine lv_iload_n hx hb dJ6_bitCount_0f7a4_42 rfl (lv_at hl 0 rfl) ?_
  refine lv_bipush (v := 16) hx hb dJ6_bitCount_0f7a4_43 (by decide) ?_
  refine lv_iushr (v := (x_4.toUInt32 >>> ((16 : Int32).toUInt32 &&& Int32.toUInt32 31)).toInt32) hx hb dJ6_bitCount_0f7a4_45 rfl ?_
  refine lv_iadd hx hb dJ6_bitCount_0f7a4_46 ?_
  refine lv_topi (fun x_5 ex_5 => ?_)
  replace hF := nmv_at ex_5 hF
  refine lv_istore_n (lv' := [(0, .int x_5)]) hx hb dJ6_bitCount_0f7a4_47 rfl hl (by decide) rfl (fun ls hl => ?_)
  refine lv_iload_n hx hb dJ6_bitCount_0f7a4_48 rfl (lv_at hl 0 rfl) ?_
  refine lv_bipush (v := 63) hx hb dJ6_bitCount_0f7a4_49 (by decide) ?_
  refine lv_iand hx hb dJ6_bitCount_0f7a4_51 ?_
  cases hF
  exact kret_i hx hb hr hlocks hP hD hS dJ6_bitCount_0f7a4_52
end
section
theorem q_113 : Cond.fieldLink RX3 22 "ForAllGame$State" "breakers" "I" ∈ wAll := wAll_mem 113 (by decide +kernel) (by decide +kernel)
abbrev w_X3_ownerOf (cy : Nat → ClassId) (A_t : Nat) (A_t_positive : Nat) (A_t_negative : Nat) (t_variables : Int32) (t_breakers : Int32) (t_clauses : Int32) (t_learned : Int32) (t_rounds : Int32) : va_W := [(A_t, .inr (3, [.int t_variables, .int t_breakers, .int t_clauses, .ref A_t_positive, .ref A_t_negative, .int t_learned, .int t_rounds]))]
def F_X3_ownerOf (N : Nat) (p0 : Int32) (t_breakers : Int32) : Option (Int32) :=
  some ((t_breakers >>> (p0 &&& 31)) &&& 1)
set_option maxHeartbeats 4000000 in
set_option maxRecDepth 100000 in
theorem c_X3_ownerOf (l : Launch) (D : va_G) (cy : Nat → ClassId) (s0 tW N : Nat) (A_t : Nat) (A_t_positive : Nat) (A_t_negative : Nat) (p0 : Int32) (t_variables : Int32) (t_breakers : Int32) (t_clauses : Int32) (t_learned : Int32) (t_rounds : Int32) (sz : Nat) {r9 : Int32} (hF : F_X3_ownerOf N p0 t_breakers = some r9) : KM l D cy s0 tW yX3_ownerOf cX3_ownerOf 2 (some .int) 0 0 [.ref A_t, .int p0] sz (w_X3_ownerOf cy A_t A_t_positive A_t_negative t_variables t_breakers t_clauses t_learned t_rounds) (some (.int r9)) (w_X3_ownerOf cy A_t A_t_positive A_t_negative t_variables t_breakers t_clauses t_learned t_rounds) := by
  refine KM.intro rfl (Nat.le_of_ble_eq_true rfl) ?_
  intro p e s m args below meth c A ls hx hb hr hml hown hts hlocks hE hP hD hS hA hAs hl
  have hK := hE.1
  have hl : lv_has ls 2 [(0, .ref A_t), (1, .int p0)] := hl
  unfold F_X3_ownerOf at hF
  refine lv_aload_n hx hb dX3_ownerOf_0 rfl (lv_at hl 0 rfl) ?_
  refine va_get (D := D) (ci := 3) (v := .int t_breakers) (C := RX3) (T := TX3) (N := 7) hx hb hts inX3 hown hK hP 0 rfl rfl 1 (by decide) (hts _ q_113) (fun _ h9 => h9) rfl dX3_ownerOf_1 ?_
  refine lv_iload_n hx hb dX3_ownerOf_4 rfl (lv_at hl 1 rfl) ?_
  refine lv_ishr hx hb dX3_ownerOf_5 ?_
  refine lv_iconst (v := 1) hx hb dX3_ownerOf_6 (by decide) ?_
  refine lv_iand hx hb dX3_ownerOf_7 ?_
  cases hF
  exact kret_i hx hb hr hlocks hP hD hS dX3_ownerOf_8

theorem q_89 : Cond.initialized RJ6 ∈ wAll := wAll_mem 89 (by decide +kernel) (by decide +kernel)
theorem q_256 : Cond.static yJ6_bitCount_0f7a4 ∈ wAll := wAll_mem 256 (by decide +kernel) (by decide +kernel)
theorem q_257 : Cond.code yJ6_bitCount_0f7a4 cJ6_bitCount_0f7a4 1 (some .int) ∈ wAll := wAll_mem 257 (by decide +kernel) (by decide +kernel)
theorem q_321 : Cond.methodLink RX3 42 yJ6_bitCount_0f7a4 ∈ wAll := wAll_mem 321 (by decide +kernel) (by decide +kernel)
theorem hd_J6_bitCount_0f7a4 : yJ6_bitCount_0f7a4.cls = RJ6 ∧ yJ6_bitCount_0f7a4.cls ≠ "java/lang/invoke/MethodHandle" ∧ yJ6_bitCount_0f7a4.cls ≠ "java/lang/invoke/VarHandle" ∧ (parseMethodDescriptor yJ6_bitCount_0f7a4.desc).map (fun d => d.parameters.length) = some 1 := by decide +kernel
abbrev w_X3_plays (cy : Nat → ClassId) (A_t : Nat) (A_t_positive : Nat) (A_t_negative : Nat) (t_variables : Int32) (t_breakers : Int32) (t_clauses : Int32) (t_learned : Int32) (t_rounds : Int32) : va_W := [(A_t, .inr (3, [.int t_variables, .int t_breakers, .int t_clauses, .ref A_t_positive, .ref A_t_negative, .int t_learned, .int t_rounds]))]
def F_X3_plays (N : Nat) (t_breakers : Int32) : Option (Int32) :=
  ob1 (F_J6_bitCount_0f7a4 N t_breakers) (fun r_1 => some (1 <<< (r_1 &&& 31)))
set_option maxHeartbeats 4000000 in
set_option maxRecDepth 100000 in
theorem c_X3_plays (l : Launch) (D : va_G) (cy : Nat → ClassId) (s0 tW N : Nat) (A_t : Nat) (A_t_positive : Nat) (A_t_negative : Nat) (t_variables : Int32) (t_breakers : Int32) (t_clauses : Int32) (t_learned : Int32) (t_rounds : Int32) (sz : Nat) {r9 : Int32} (hF : F_X3_plays N t_breakers = some r9) : KM l D cy s0 tW yX3_plays cX3_plays 1 (some .int) 1 20 [.ref A_t] sz (w_X3_plays cy A_t A_t_positive A_t_negative t_variables t_breakers t_clauses t_learned t_rounds) (some (.int r9)) (w_X3_plays cy A_t A_t_positive A_t_negative t_variables t_breakers t_clauses t_learned t_rounds) := by
  refine KM.intro rfl (Nat.le_of_ble_eq_true rfl) ?_
  intro p e s m args below meth c A ls hx hb hr hml hown hts hlocks hE hP hD hS hA hAs hl
  have hK := hE.1
  have hl : lv_has ls 1 [(0, .ref A_t)] := hl
  unfold F_X3_plays at hF
  refine lv_iconst (v := 1) hx hb dX3_plays_0 (by decide) ?_
  refine lv_aload_n hx hb dX3_plays_1 rfl (lv_at hl 0 rfl) ?_
  refine va_get (D := D) (ci := 3) (v := .int t_breakers) (C := RX3) (T := TX3) (N := 7) hx hb hts inX3 hown hK hP 0 rfl rfl 1 (by decide) (hts _ q_113) (fun _ h9 => h9) rfl dX3_plays_2 ?_
  obtain ⟨r_1, hF_2, hF⟩ := ob1_some hF
  refine kcS (As := [.int t_breakers]) (rest := [.int 1]) (wr := [(A_t, .inr (3, [.int t_variables, .int t_breakers, .int t_clauses, .ref A_t_positive, .ref A_t_negative, .int t_learned, .int t_rounds]))]) (wsN := (w_X3_plays cy A_t A_t_positive A_t_negative t_variables t_breakers t_clauses t_learned t_rounds)) ⟨hx, hb, hml, hown, hts⟩ hE hP hD hS hA hAs [] [0] [0] (c_J6_bitCount_0f7a4 l D cy s0 tW N t_breakers _ hF_2) (gS q_321 q_256 q_89 q_257) hd_J6_bitCount_0f7a4.2 ⟨Nat.le_of_ble_eq_true rfl, Nat.le_of_ble_eq_true rfl⟩ rfl rfl rfl rfl rfl rfl rfl hl.1 rfl (Nat.le_of_ble_eq_true rfl) dX3_plays_5 ⟨Nat.zero_le _, Nat.zero_le _⟩ (fun H locs hP hD hS => ?_)
  refine W.eq (g2 := F0 m 8 ls [.int r_1, .int 1]) rfl ?_
  refine lv_ishl hx hb dX3_plays_8 ?_
  cases hF
  exact kret_i hx hb hr hlocks hP hD hS dX3_plays_9

theorem q_12 : Cond.selects RX3 yX3_plays yX3_plays ∈ wAll := wAll_mem 12 (by decide +kernel) (by decide +kernel)
theorem q_84 : Cond.initialized RX3 ∈ wAll := wAll_mem 84 (by decide +kernel) (by decide +kernel)
theorem q_319 : Cond.instanceMethod yX3_plays ∈ wAll := wAll_mem 319 (by decide +kernel) (by decide +kernel)
theorem q_320 : Cond.code yX3_plays cX3_plays 1 (some .int) ∈ wAll := wAll_mem 320 (by decide +kernel) (by decide +kernel)
theorem q_345 : Cond.methodLink RX3 48 yX3_plays ∈ wAll := wAll_mem 345 (by decide +kernel) (by decide +kernel)
theorem hd_X3_plays : yX3_plays.cls = RX3 ∧ yX3_plays.cls ≠ "java/lang/invoke/MethodHandle" ∧ yX3_plays.cls ≠ "java/lang/invoke/VarHandle" ∧ (parseMethodDescriptor yX3_plays.desc).map (fun d => d.parameters.length) = some 0 := by decide +kernel
abbrev w_X3_allPlays (cy : Nat → ClassId) (A_t : Nat) (A_t_positive : Nat) (A_t_negative : Nat) (t_variables : Int32) (t_breakers : Int32) (t_clauses : Int32) (t_learned : Int32) (t_rounds : Int32) : va_W := [(A_t, .inr (3, [.int t_variables, .int t_breakers, .int t_clauses, .ref A_t_positive, .ref A_t_negative, .int t_learned, .int t_rounds]))]
def F_X3_allPlays (N : Nat) (t_breakers : Int32) : Option (Int32) :=
  ob1 (F_X3_plays N t_breakers) (fun r_1 => some ((1 <<< (r_1 &&& 31)) - 1))
set_option maxHeartbeats 4000000 in
set_option maxRecDepth 100000 in
theorem c_X3_allPlays (l : Launch) (D : va_G) (cy : Nat → ClassId) (s0 tW N : Nat) (A_t : Nat) (A_t_positive : Nat) (A_t_negative : Nat) (t_variables : Int32) (t_breakers : Int32) (t_clauses : Int32) (t_learned : Int32) (t_rounds : Int32) (sz : Nat) {r9 : Int32} (hF : F_X3_allPlays N t_breakers = some r9) : KM l D cy s0 tW yX3_allPlays cX3_allPlays 1 (some .int) 2 40 [.ref A_t] sz (w_X3_allPlays cy A_t A_t_positive A_t_negative t_variables t_breakers t_clauses t_learned t_rounds) (some (.int r9)) (w_X3_allPlays cy A_t A_t_positive A_t_negative t_variables t_breakers t_clauses t_learned t_rounds) := by
  refine KM.intro rfl (Nat.le_of_ble_eq_true rfl) ?_
  intro p e s m args below meth c A ls hx hb hr hml hown hts hlocks hE hP hD hS hA hAs hl
  have hK := hE.1
  have hl : lv_has ls 1 [(0, .ref A_t)] := hl
  unfold F_X3_allPlays at hF
  refine lv_iconst (v := 1) hx hb dX3_allPlays_0 (by decide) ?_
  refine lv_aload_n hx hb dX3_allPlays_1 rfl (lv_at hl 0 rfl) ?_
  obtain ⟨r_1, hF_2, hF⟩ := ob1_some hF
  refine kcV (q := (RX3, TX3, 7)) (ci := 3) (q0 := 0) (As := []) (rest := [.int 1]) (wr := []) (wsN := (w_X3_allPlays cy A_t A_t_positive A_t_negative t_variables t_breakers t_clauses t_learned t_rounds)) ⟨hx, hb, hml, hown, hts⟩ hE hP hD hS hA hAs [0] [] [0] (c_X3_plays l D cy s0 tW N A_t A_t_positive A_t_negative t_variables t_breakers t_clauses t_learned t_rounds _ hF_2) (gV q_345 q_319 q_12 q_84 q_320) hd_X3_plays ⟨Nat.le_of_ble_eq_true rfl, Nat.le_of_ble_eq_true rfl⟩ rfl rfl rfl rfl rfl rfl rfl rfl rfl hl.1 rfl (Nat.le_of_ble_eq_true rfl) dX3_allPlays_2 ⟨Nat.zero_le _, Nat.zero_le _⟩ (fun H locs hP hD hS => ?_)
  refine W.eq (g2 := F0 m 5 ls [.int r_1, .int 1]) rfl ?_
  refine lv_ishl hx hb dX3_allPlays_5 ?_
  refine lv_iconst (v := 1) hx hb dX3_allPlays_6 (by decide) ?_
  refine lv_isub hx hb dX3_allPlays_7 ?_
  cases hF
  exact kret_i hx hb hr hlocks hP hD hS dX3_allPlays_8

abbrev w_X3_hasPlay (cy : Nat → ClassId) (A_t : Nat) (A_t_positive : Nat) (A_t_negative : Nat) (t_variables : Int32) (t_breakers : Int32) (t_clauses : Int32) (t_learned : Int32) (t_rounds : Int32) : va_W := [(A_t, .inr (3, [.int t_variables, .int t_breakers, .int t_clauses, .ref A_t_positive, .ref A_t_negative, .int t_learned, .int t_rounds]))]
def F_X3_hasPlay (N : Nat) (p0 : Int32) (t_breakers : Int32) : Option (Bool) :=
  (if p0 < (0 : Int32) then some false else ob1 (F_X3_plays N t_breakers) (fun r_2 => (if r_2 ≤ p0 then some false else some true)))
set_option maxHeartbeats 4000000 in
set_option maxRecDepth 100000 in
theorem c_X3_hasPlay (l : Launch) (D : va_G) (cy : Nat → ClassId) (s0 tW N : Nat) (A_t : Nat) (A_t_positive : Nat) (A_t_negative : Nat) (p0 : Int32) (t_variables : Int32) (t_breakers : Int32) (t_clauses : Int32) (t_learned : Int32) (t_rounds : Int32) (sz : Nat) {r9 : Bool} (hF : F_X3_hasPlay N p0 t_breakers = some r9) : KM l D cy s0 tW yX3_hasPlay cX3_hasPlay 2 (some .boolean) 2 40 [.ref A_t, .int p0] sz (w_X3_hasPlay cy A_t A_t_positive A_t_negative t_variables t_breakers t_clauses t_learned t_rounds) (some (.int (bI r9))) (w_X3_hasPlay cy A_t A_t_positive A_t_negative t_variables t_breakers t_clauses t_learned t_rounds) := by
  refine KM.intro rfl (Nat.le_of_ble_eq_true rfl) ?_
  intro p e s m args below meth c A ls hx hb hr hml hown hts hlocks hE hP hD hS hA hAs hl
  have hK := hE.1
  have hl : lv_has ls 2 [(0, .ref A_t), (1, .int p0)] := hl
  unfold F_X3_hasPlay at hF
  refine lv_iload_n hx hb dX3_hasPlay_0 rfl (lv_at hl 1 rfl) ?_
  refine lv_if_lt (tgt := 16) hx hb dX3_hasPlay_1 (by decide) (fun c_1 => ?_) (fun c_1 => ?_)
  · replace hF := ite_t c_1 hF
    refine lv_iconst (v := 0) hx hb dX3_hasPlay_16 (by decide) ?_
    cases hF
    exact kret_z hx hb hr hlocks hP hD hS dX3_hasPlay_17
  · replace hF := ite_f c_1 hF
    refine lv_iload_n hx hb dX3_hasPlay_4 rfl (lv_at hl 1 rfl) ?_
    refine lv_aload_n hx hb dX3_hasPlay_5 rfl (lv_at hl 0 rfl) ?_
    obtain ⟨r_2, hF_3, hF⟩ := ob1_some hF
    refine kcV (q := (RX3, TX3, 7)) (ci := 3) (q0 := 0) (As := []) (rest := [.int p0]) (wr := []) (wsN := (w_X3_hasPlay cy A_t A_t_positive A_t_negative t_variables t_breakers t_clauses t_learned t_rounds)) ⟨hx, hb, hml, hown, hts⟩ hE hP hD hS hA hAs [0] [] [0] (c_X3_plays l D cy s0 tW N A_t A_t_positive A_t_negative t_variables t_breakers t_clauses t_learned t_rounds _ hF_3) (gV q_345 q_319 q_12 q_84 q_320) hd_X3_plays ⟨Nat.le_of_ble_eq_true rfl, Nat.le_of_ble_eq_true rfl⟩ rfl rfl rfl rfl rfl rfl rfl rfl rfl hl.1 rfl (Nat.le_of_ble_eq_true rfl) dX3_hasPlay_6 ⟨Nat.zero_le _, Nat.zero_le _⟩ (fun H locs hP hD hS => ?_)
    refine W.eq (g2 := F0 m 9 ls [.int r_2, .int p0]) rfl ?_
    refine lv_icmp_ge (tgt := 16) hx hb dX3_hasPlay_9 (by decide) (fun c_4 => ?_) (fun c_4 => ?_)
    · replace hF := ite_t c_4 hF
      refine lv_iconst (v := 0) hx hb dX3_hasPlay_16 (by decide) ?_
      cases hF
      exact kret_z hx hb hr hlocks hP hD hS dX3_hasPlay_17
    · replace hF := ite_f c_4 hF
      refine lv_iconst (v := 1) hx hb dX3_hasPlay_12 (by decide) ?_
      refine lv_goto (tgt := 17) hx hb dX3_hasPlay_13 (by decide) ?_
      cases hF
      exact kret_z hx hb hr hlocks hP hD hS dX3_hasPlay_17

theorem q_83 : Cond.initialized RX4 ∈ wAll := wAll_mem 83 (by decide +kernel) (by decide +kernel)
theorem q_121 : Cond.fieldLink RX3 28 "ForAllGame$State" "learned" "I" ∈ wAll := wAll_mem 121 (by decide +kernel) (by decide +kernel)
theorem q_293 : Cond.static yX4_bit ∈ wAll := wAll_mem 293 (by decide +kernel) (by decide +kernel)
theorem q_294 : Cond.code yX4_bit cX4_bit 2 (some .int) ∈ wAll := wAll_mem 294 (by decide +kernel) (by decide +kernel)
theorem nq_292 {s : State} (h : NW s) : va_Nw (Cond.methodLinkNest RX3 52 yX4_bit "ForAllGame") s := h.at 292 (by decide +kernel) rfl
theorem hd_X4_bit : yX4_bit.cls = RX4 ∧ yX4_bit.cls ≠ "java/lang/invoke/MethodHandle" ∧ yX4_bit.cls ≠ "java/lang/invoke/VarHandle" ∧ (parseMethodDescriptor yX4_bit.desc).map (fun d => d.parameters.length) = some 2 := by decide +kernel
abbrev w_X3_hasLearned (cy : Nat → ClassId) (A_t : Nat) (A_t_positive : Nat) (A_t_negative : Nat) (t_variables : Int32) (t_breakers : Int32) (t_clauses : Int32) (t_learned : Int32) (t_rounds : Int32) : va_W := [(A_t, .inr (3, [.int t_variables, .int t_breakers, .int t_clauses, .ref A_t_positive, .ref A_t_negative, .int t_learned, .int t_rounds]))]
def F_X3_hasLearned (N : Nat) (p0 : Int32) (t_learned : Int32) : Option (Bool) :=
  ob1 (F_X4_bit N t_learned p0) (fun r_1 => (if r_1 = (1 : Int32) then some true else some false))
set_option maxHeartbeats 4000000 in
set_option maxRecDepth 100000 in
theorem c_X3_hasLearned (l : Launch) (D : va_G) (cy : Nat → ClassId) (s0 tW N : Nat) (A_t : Nat) (A_t_positive : Nat) (A_t_negative : Nat) (p0 : Int32) (t_variables : Int32) (t_breakers : Int32) (t_clauses : Int32) (t_learned : Int32) (t_rounds : Int32) (sz : Nat) {r9 : Bool} (hF : F_X3_hasLearned N p0 t_learned = some r9) : KM l D cy s0 tW yX3_hasLearned cX3_hasLearned 2 (some .boolean) 1 21 [.ref A_t, .int p0] sz (w_X3_hasLearned cy A_t A_t_positive A_t_negative t_variables t_breakers t_clauses t_learned t_rounds) (some (.int (bI r9))) (w_X3_hasLearned cy A_t A_t_positive A_t_negative t_variables t_breakers t_clauses t_learned t_rounds) := by
  refine KM.intro rfl (Nat.le_of_ble_eq_true rfl) ?_
  intro p e s m args below meth c A ls hx hb hr hml hown hts hlocks hE hP hD hS hA hAs hl
  have hK := hE.1
  have hl : lv_has ls 2 [(0, .ref A_t), (1, .int p0)] := hl
  unfold F_X3_hasLearned at hF
  refine lv_aload_n hx hb dX3_hasLearned_0 rfl (lv_at hl 0 rfl) ?_
  refine va_get (D := D) (ci := 3) (v := .int t_learned) (C := RX3) (T := TX3) (N := 7) hx hb hts inX3 hown hK hP 0 rfl rfl 5 (by decide) (hts _ q_121) (fun _ h9 => h9) rfl dX3_hasLearned_1 ?_
  refine lv_iload_n hx hb dX3_hasLearned_4 rfl (lv_at hl 1 rfl) ?_
  obtain ⟨r_1, hF_2, hF⟩ := ob1_some hF
  refine kcSN (As := [.int t_learned, .int p0]) (rest := []) (wr := [(A_t, .inr (3, [.int t_variables, .int t_breakers, .int t_clauses, .ref A_t_positive, .ref A_t_negative, .int t_learned, .int t_rounds]))]) (wsN := (w_X3_hasLearned cy A_t A_t_positive A_t_negative t_variables t_breakers t_clauses t_learned t_rounds)) ⟨hx, hb, hml, hown, hts⟩ hE hP hD hS hA hAs [] [0] [0] (c_X4_bit l D cy s0 tW N t_learned p0 _ hF_2) q_294 q_83 q_293 (nq_292 hE.2.1) hd_X4_bit.2 ⟨Nat.le_of_ble_eq_true rfl, Nat.le_of_ble_eq_true rfl⟩ rfl rfl rfl rfl rfl rfl rfl hl.1 rfl (Nat.le_of_ble_eq_true rfl) dX3_hasLearned_5 ⟨Nat.zero_le _, Nat.zero_le _⟩ (fun H locs hP hD hS => ?_)
  refine W.eq (g2 := F0 m 8 ls [.int r_1]) rfl ?_
  refine lv_iconst (v := 1) hx hb dX3_hasLearned_8 (by decide) ?_
  refine lv_icmp_ne (tgt := 16) hx hb dX3_hasLearned_9 (by decide) (fun c_3 => ?_) (fun c_3 => ?_)
  · replace hF := ite_f c_3 hF
    refine lv_iconst (v := 0) hx hb dX3_hasLearned_16 (by decide) ?_
    cases hF
    exact kret_z hx hb hr hlocks hP hD hS dX3_hasLearned_17
  · replace hF := ite_t c_3 hF
    refine lv_iconst (v := 1) hx hb dX3_hasLearned_12 (by decide) ?_
    refine lv_goto (tgt := 17) hx hb dX3_hasLearned_13 (by decide) ?_
    cases hF
    exact kret_z hx hb hr hlocks hP hD hS dX3_hasLearned_17

theorem q_110 : Cond.fieldLink RX3 18 "ForAllGame$State" "variables" "I" ∈ wAll := wAll_mem 110 (by decide +kernel) (by decide +kernel)
abbrev w_X3_hasVariables (cy : Nat → ClassId) (A_t : Nat) (A_t_positive : Nat) (A_t_negative : Nat) (t_variables : Int32) (t_breakers : Int32) (t_clauses : Int32) (t_learned : Int32) (t_rounds : Int32) : va_W := [(A_t, .inr (3, [.int t_variables, .int t_breakers, .int t_clauses, .ref A_t_positive, .ref A_t_negative, .int t_learned, .int t_rounds]))]
def F_X3_hasVariables (N : Nat) (p0 : Int32) (t_variables : Int32) : Option (Bool) :=
  (if p0 < (0 : Int32) then some false else (if (p0 >>> (t_variables &&& 31)) = (0 : Int32) then some true else some false))
set_option maxHeartbeats 4000000 in
set_option maxRecDepth 100000 in
theorem c_X3_hasVariables (l : Launch) (D : va_G) (cy : Nat → ClassId) (s0 tW N : Nat) (A_t : Nat) (A_t_positive : Nat) (A_t_negative : Nat) (p0 : Int32) (t_variables : Int32) (t_breakers : Int32) (t_clauses : Int32) (t_learned : Int32) (t_rounds : Int32) (sz : Nat) {r9 : Bool} (hF : F_X3_hasVariables N p0 t_variables = some r9) : KM l D cy s0 tW yX3_hasVariables cX3_hasVariables 2 (some .boolean) 0 0 [.ref A_t, .int p0] sz (w_X3_hasVariables cy A_t A_t_positive A_t_negative t_variables t_breakers t_clauses t_learned t_rounds) (some (.int (bI r9))) (w_X3_hasVariables cy A_t A_t_positive A_t_negative t_variables t_breakers t_clauses t_learned t_rounds) := by
  refine KM.intro rfl (Nat.le_of_ble_eq_true rfl) ?_
  intro p e s m args below meth c A ls hx hb hr hml hown hts hlocks hE hP hD hS hA hAs hl
  have hK := hE.1
  have hl : lv_has ls 2 [(0, .ref A_t), (1, .int p0)] := hl
  unfold F_X3_hasVariables at hF
  refine lv_iload_n hx hb dX3_hasVariables_0 rfl (lv_at hl 1 rfl) ?_
  refine lv_if_lt (tgt := 17) hx hb dX3_hasVariables_1 (by decide) (fun c_1 => ?_) (fun c_1 => ?_)
  · replace hF := ite_t c_1 hF
    refine lv_iconst (v := 0) hx hb dX3_hasVariables_17 (by decide) ?_
    cases hF
    exact kret_z hx hb hr hlocks hP hD hS dX3_hasVariables_18
  · replace hF := ite_f c_1 hF
    refine lv_iload_n hx hb dX3_hasVariables_4 rfl (lv_at hl 1 rfl) ?_
    refine lv_aload_n hx hb dX3_hasVariables_5 rfl (lv_at hl 0 rfl) ?_
    refine va_get (D := D) (ci := 3) (v := .int t_variables) (C := RX3) (T := TX3) (N := 7) hx hb hts inX3 hown hK hP 0 rfl rfl 0 (by decide) (hts _ q_110) (fun _ h9 => h9) rfl dX3_hasVariables_6 ?_
    refine lv_ishr hx hb dX3_hasVariables_9 ?_
    refine lv_if_ne (tgt := 17) hx hb dX3_hasVariables_10 (by decide) (fun c_2 => ?_) (fun c_2 => ?_)
    · replace hF := ite_f c_2 hF
      refine lv_iconst (v := 0) hx hb dX3_hasVariables_17 (by decide) ?_
      cases hF
      exact kret_z hx hb hr hlocks hP hD hS dX3_hasVariables_18
    · replace hF := ite_t c_2 hF
      refine lv_iconst (v := 1) hx hb dX3_hasVariables_13 (by decide) ?_
      refine lv_goto (tgt := 18) hx hb dX3_hasVariables_14 (by decide) ?_
      cases hF
      exact kret_z hx hb hr hlocks hP hD hS dX3_hasVariables_18

abbrev w_X3_hasRoomFor (cy : Nat → ClassId) (A_t : Nat) (A_t_positive : Nat) (A_t_negative : Nat) (t_variables : Int32) (t_breakers : Int32) (t_clauses : Int32) (t_learned : Int32) (t_rounds : Int32) : va_W := [(A_t, .inr (3, [.int t_variables, .int t_breakers, .int t_clauses, .ref A_t_positive, .ref A_t_negative, .int t_learned, .int t_rounds]))]
def F_X3_hasRoomFor (N : Nat) (p0 : Bool) (t_variables : Int32) (t_breakers : Int32) : Option (Bool) :=
  ob1 (F_J6_bitCount_0f7a4 N t_breakers) (fun r_1 => (if p0 = true then (if (3 : Int32) ≤ r_1 then some false else some true) else (if (6 : Int32) ≤ (t_variables - r_1) then some false else some true)))
set_option maxHeartbeats 4000000 in
set_option maxRecDepth 100000 in
theorem c_X3_hasRoomFor (l : Launch) (D : va_G) (cy : Nat → ClassId) (s0 tW N : Nat) (A_t : Nat) (A_t_positive : Nat) (A_t_negative : Nat) (p0 : Bool) (t_variables : Int32) (t_breakers : Int32) (t_clauses : Int32) (t_learned : Int32) (t_rounds : Int32) (sz : Nat) {r9 : Bool} (hF : F_X3_hasRoomFor N p0 t_variables t_breakers = some r9) : KM l D cy s0 tW yX3_hasRoomFor cX3_hasRoomFor 3 (some .boolean) 1 20 [.ref A_t, .int (bI p0)] sz (w_X3_hasRoomFor cy A_t A_t_positive A_t_negative t_variables t_breakers t_clauses t_learned t_rounds) (some (.int (bI r9))) (w_X3_hasRoomFor cy A_t A_t_positive A_t_negative t_variables t_breakers t_clauses t_learned t_rounds) := by
  refine KM.intro rfl (Nat.le_of_ble_eq_true rfl) ?_
  intro p e s m args below meth c A ls hx hb hr hml hown hts hlocks hE hP hD hS hA hAs hl
  have hK := hE.1
  have hl : lv_has ls 3 [(0, .ref A_t), (1, .int (bI p0))] := hl
  unfold F_X3_hasRoomFor at hF
  refine lv_aload_n hx hb dX3_hasRoomFor_0 rfl (lv_at hl 0 rfl) ?_
  refine va_get (D := D) (ci := 3) (v := .int t_breakers) (C := RX3) (T := TX3) (N := 7) hx hb hts inX3 hown hK hP 0 rfl rfl 1 (by decide) (hts _ q_113) (fun _ h9 => h9) rfl dX3_hasRoomFor_1 ?_
  obtain ⟨r_1, hF_2, hF⟩ := ob1_some hF
  refine kcS (As := [.int t_breakers]) (rest := []) (wr := [(A_t, .inr (3, [.int t_variables, .int t_breakers, .int t_clauses, .ref A_t_positive, .ref A_t_negative, .int t_learned, .int t_rounds]))]) (wsN := (w_X3_hasRoomFor cy A_t A_t_positive A_t_negative t_variables t_breakers t_clauses t_learned t_rounds)) ⟨hx, hb, hml, hown, hts⟩ hE hP hD hS hA hAs [] [0] [0] (c_J6_bitCount_0f7a4 l D cy s0 tW N t_breakers _ hF_2) (gS q_321 q_256 q_89 q_257) hd_J6_bitCount_0f7a4.2 ⟨Nat.le_of_ble_eq_true rfl, Nat.le_of_ble_eq_true rfl⟩ rfl rfl rfl rfl rfl rfl rfl hl.1 rfl (Nat.le_of_ble_eq_true rfl) dX3_hasRoomFor_4 ⟨Nat.zero_le _, Nat.zero_le _⟩ (fun H locs hP hD hS => ?_)
  refine W.eq (g2 := F0 m 7 ls [.int r_1]) rfl ?_
  refine lv_istore_n (lv' := [(2, .int r_1), (0, .ref A_t), (1, .int (bI p0))]) hx hb dX3_hasRoomFor_7 rfl hl (by decide) rfl (fun ls hl => ?_)
  refine lv_iload_n hx hb dX3_hasRoomFor_8 rfl (lv_at hl 2 rfl) ?_
  refine lv_if_eq (tgt := 25) hx hb dX3_hasRoomFor_9 (by decide) (fun c_3 => ?_) (fun c_3 => ?_)
  · replace hF := ite_f (bI_f c_3) hF
    refine lv_aload_n hx hb dX3_hasRoomFor_25 rfl (lv_at hl 1 rfl) ?_
    refine va_get (D := D) (ci := 3) (v := .int t_variables) (C := RX3) (T := TX3) (N := 7) hx hb hts inX3 hown hK hP 0 rfl rfl 0 (by decide) (hts _ q_110) (fun _ h9 => h9) rfl dX3_hasRoomFor_26 ?_
    refine lv_iload_n hx hb dX3_hasRoomFor_29 rfl (lv_at hl 0 rfl) ?_
    refine lv_isub hx hb dX3_hasRoomFor_30 ?_
    refine lv_bipush (v := 6) hx hb dX3_hasRoomFor_31 (by decide) ?_
    refine lv_icmp_ge (tgt := 40) hx hb dX3_hasRoomFor_33 (by decide) (fun c_4 => ?_) (fun c_4 => ?_)
    · replace hF := ite_t c_4 hF
      refine lv_iconst (v := 0) hx hb dX3_hasRoomFor_40 (by decide) ?_
      cases hF
      exact kret_z hx hb hr hlocks hP hD hS dX3_hasRoomFor_41
    · replace hF := ite_f c_4 hF
      refine lv_iconst (v := 1) hx hb dX3_hasRoomFor_36 (by decide) ?_
      refine lv_goto (tgt := 41) hx hb dX3_hasRoomFor_37 (by decide) ?_
      cases hF
      exact kret_z hx hb hr hlocks hP hD hS dX3_hasRoomFor_41
  · replace hF := ite_t (bI_t c_3) hF
    refine lv_iload_n hx hb dX3_hasRoomFor_12 rfl (lv_at hl 0 rfl) ?_
    refine lv_iconst (v := 3) hx hb dX3_hasRoomFor_13 (by decide) ?_
    refine lv_icmp_ge (tgt := 21) hx hb dX3_hasRoomFor_14 (by decide) (fun c_5 => ?_) (fun c_5 => ?_)
    · replace hF := ite_t c_5 hF
      refine lv_iconst (v := 0) hx hb dX3_hasRoomFor_21 (by decide) ?_
      refine lv_goto (tgt := 41) hx hb dX3_hasRoomFor_22 (by decide) ?_
      cases hF
      exact kret_z hx hb hr hlocks hP hD hS dX3_hasRoomFor_41
    · replace hF := ite_f c_5 hF
      refine lv_iconst (v := 1) hx hb dX3_hasRoomFor_17 (by decide) ?_
      refine lv_goto (tgt := 41) hx hb dX3_hasRoomFor_18 (by decide) ?_
      cases hF
      exact kret_z hx hb hr hlocks hP hD hS dX3_hasRoomFor_41

theorem q_115 : Cond.fieldLink RX3 25 "ForAllGame$State" "clauses" "I" ∈ wAll := wAll_mem 115 (by decide +kernel) (by decide +kernel)
theorem q_123 : Cond.fieldLink RX3 31 "ForAllGame$State" "rounds" "I" ∈ wAll := wAll_mem 123 (by decide +kernel) (by decide +kernel)
abbrev w_X3_clear (cy : Nat → ClassId) (A_t : Nat) (A_t_positive : Nat) (A_t_negative : Nat) (t_variables : Int32) (t_breakers : Int32) (t_clauses : Int32) (t_learned : Int32) (t_rounds : Int32) : va_W := [(A_t, .inr (3, [.int t_variables, .int t_breakers, .int t_clauses, .ref A_t_positive, .ref A_t_negative, .int t_learned, .int t_rounds]))]
def F_X3_clear (N : Nat) (t_variables : Int32) (t_breakers : Int32) (t_clauses : Int32) (t_learned : Int32) (t_rounds : Int32) : Option (Int32 × Int32 × Int32 × Int32 × Int32) :=
  some (0, 0, 0, 0, 0)
set_option maxHeartbeats 4000000 in
set_option maxRecDepth 100000 in
theorem c_X3_clear (l : Launch) (D : va_G) (cy : Nat → ClassId) (s0 tW N : Nat) (A_t : Nat) (A_t_positive : Nat) (A_t_negative : Nat) (t_variables : Int32) (t_breakers : Int32) (t_clauses : Int32) (t_learned : Int32) (t_rounds : Int32) (sz : Nat) {t_variables9 : Int32} {t_breakers9 : Int32} {t_clauses9 : Int32} {t_learned9 : Int32} {t_rounds9 : Int32} (hF : F_X3_clear N t_variables t_breakers t_clauses t_learned t_rounds = some (t_variables9, t_breakers9, t_clauses9, t_learned9, t_rounds9)) : KM l D cy s0 tW yX3_clear cX3_clear 1 none 0 0 [.ref A_t] sz (w_X3_clear cy A_t A_t_positive A_t_negative t_variables t_breakers t_clauses t_learned t_rounds) none (w_X3_clear cy A_t A_t_positive A_t_negative t_variables9 t_breakers9 t_clauses9 t_learned9 t_rounds9) := by
  refine KM.intro rfl (Nat.le_of_ble_eq_true rfl) ?_
  intro p e s m args below meth c A ls hx hb hr hml hown hts hlocks hE hP hD hS hA hAs hl
  have hK := hE.1
  have hl : lv_has ls 1 [(0, .ref A_t)] := hl
  unfold F_X3_clear at hF
  refine lv_aload_n hx hb dX3_clear_0 rfl (lv_at hl 0 rfl) ?_
  refine lv_iconst (v := 0) hx hb dX3_clear_1 (by decide) ?_
  refine ka_put (ci := 3) (v := .int 0) (ty := .int) (C := RX3) (T := TX3) (N := 7) (wsN := (w_X3_clear cy A_t A_t_positive A_t_negative 0 t_breakers t_clauses t_learned t_rounds)) hx hb hts inX3 tyX3 tyX3_ok nmX3 hown hK hP hD hS 0 rfl rfl 0 (by decide) (hts _ q_110) (fun _ h9 => h9) rfl (by decide +kernel) rfl rfl (Nat.le_of_ble_eq_true rfl) rfl dX3_clear_2 (fun H locs hP hD hS => ?_)
  refine lv_aload_n hx hb dX3_clear_5 rfl (lv_at hl 0 rfl) ?_
  refine lv_iconst (v := 0) hx hb dX3_clear_6 (by decide) ?_
  refine ka_put (ci := 3) (v := .int 0) (ty := .int) (C := RX3) (T := TX3) (N := 7) (wsN := (w_X3_clear cy A_t A_t_positive A_t_negative 0 0 t_clauses t_learned t_rounds)) hx hb hts inX3 tyX3 tyX3_ok nmX3 hown hK hP hD hS 0 rfl rfl 1 (by decide) (hts _ q_113) (fun _ h9 => h9) rfl (by decide +kernel) rfl rfl (Nat.le_of_ble_eq_true rfl) rfl dX3_clear_7 (fun H locs hP hD hS => ?_)
  refine lv_aload_n hx hb dX3_clear_10 rfl (lv_at hl 0 rfl) ?_
  refine lv_iconst (v := 0) hx hb dX3_clear_11 (by decide) ?_
  refine ka_put (ci := 3) (v := .int 0) (ty := .int) (C := RX3) (T := TX3) (N := 7) (wsN := (w_X3_clear cy A_t A_t_positive A_t_negative 0 0 0 t_learned t_rounds)) hx hb hts inX3 tyX3 tyX3_ok nmX3 hown hK hP hD hS 0 rfl rfl 2 (by decide) (hts _ q_115) (fun _ h9 => h9) rfl (by decide +kernel) rfl rfl (Nat.le_of_ble_eq_true rfl) rfl dX3_clear_12 (fun H locs hP hD hS => ?_)
  refine lv_aload_n hx hb dX3_clear_15 rfl (lv_at hl 0 rfl) ?_
  refine lv_iconst (v := 0) hx hb dX3_clear_16 (by decide) ?_
  refine ka_put (ci := 3) (v := .int 0) (ty := .int) (C := RX3) (T := TX3) (N := 7) (wsN := (w_X3_clear cy A_t A_t_positive A_t_negative 0 0 0 0 t_rounds)) hx hb hts inX3 tyX3 tyX3_ok nmX3 hown hK hP hD hS 0 rfl rfl 5 (by decide) (hts _ q_121) (fun _ h9 => h9) rfl (by decide +kernel) rfl rfl (Nat.le_of_ble_eq_true rfl) rfl dX3_clear_17 (fun H locs hP hD hS => ?_)
  refine lv_aload_n hx hb dX3_clear_20 rfl (lv_at hl 0 rfl) ?_
  refine lv_iconst (v := 0) hx hb dX3_clear_21 (by decide) ?_
  refine ka_put (ci := 3) (v := .int 0) (ty := .int) (C := RX3) (T := TX3) (N := 7) (wsN := (w_X3_clear cy A_t A_t_positive A_t_negative 0 0 0 0 0)) hx hb hts inX3 tyX3 tyX3_ok nmX3 hown hK hP hD hS 0 rfl rfl 6 (by decide) (hts _ q_123) (fun _ h9 => h9) rfl (by decide +kernel) rfl rfl (Nat.le_of_ble_eq_true rfl) rfl dX3_clear_22 (fun H locs hP hD hS => ?_)
  cases hF
  exact kret_v hx hb hr hlocks hP hD hS dX3_clear_25

abbrev w_X3_putVariable (cy : Nat → ClassId) (A_t : Nat) (A_t_positive : Nat) (A_t_negative : Nat) (t_variables : Int32) (t_breakers : Int32) (t_clauses : Int32) (t_learned : Int32) (t_rounds : Int32) : va_W := [(A_t, .inr (3, [.int t_variables, .int t_breakers, .int t_clauses, .ref A_t_positive, .ref A_t_negative, .int t_learned, .int t_rounds]))]
def F_X3_putVariable (N : Nat) (p0 : Bool) (t_variables : Int32) (t_breakers : Int32) : Option (Int32 × Int32) :=
  (if p0 = true then some ((t_variables + 1), (t_breakers ||| (1 <<< (t_variables &&& 31)))) else some ((t_variables + 1), t_breakers))
set_option maxHeartbeats 4000000 in
set_option maxRecDepth 100000 in
theorem c_X3_putVariable (l : Launch) (D : va_G) (cy : Nat → ClassId) (s0 tW N : Nat) (A_t : Nat) (A_t_positive : Nat) (A_t_negative : Nat) (p0 : Bool) (t_variables : Int32) (t_breakers : Int32) (t_clauses : Int32) (t_learned : Int32) (t_rounds : Int32) (sz : Nat) {t_variables9 : Int32} {t_breakers9 : Int32} (hF : F_X3_putVariable N p0 t_variables t_breakers = some (t_variables9, t_breakers9)) : KM l D cy s0 tW yX3_putVariable cX3_putVariable 2 none 0 0 [.ref A_t, .int (bI p0)] sz (w_X3_putVariable cy A_t A_t_positive A_t_negative t_variables t_breakers t_clauses t_learned t_rounds) none (w_X3_putVariable cy A_t A_t_positive A_t_negative t_variables9 t_breakers9 t_clauses t_learned t_rounds) := by
  refine KM.intro rfl (Nat.le_of_ble_eq_true rfl) ?_
  intro p e s m args below meth c A ls hx hb hr hml hown hts hlocks hE hP hD hS hA hAs hl
  have hK := hE.1
  have hl : lv_has ls 2 [(0, .ref A_t), (1, .int (bI p0))] := hl
  unfold F_X3_putVariable at hF
  refine lv_iload_n hx hb dX3_putVariable_0 rfl (lv_at hl 1 rfl) ?_
  refine lv_if_eq (tgt := 19) hx hb dX3_putVariable_1 (by decide) (fun c_1 => ?_) (fun c_1 => ?_)
  · replace hF := ite_f (bI_f c_1) hF
    refine lv_aload_n hx hb dX3_putVariable_19 rfl (lv_at hl 0 rfl) ?_
    refine lv_dup hx hb dX3_putVariable_20 rfl ?_
    refine va_get (D := D) (ci := 3) (v := .int t_variables) (C := RX3) (T := TX3) (N := 7) hx hb hts inX3 hown hK hP 0 rfl rfl 0 (by decide) (hts _ q_110) (fun _ h9 => h9) rfl dX3_putVariable_21 ?_
    refine lv_iconst (v := 1) hx hb dX3_putVariable_24 (by decide) ?_
    refine lv_iadd hx hb dX3_putVariable_25 ?_
    refine ka_put (ci := 3) (v := .int (t_variables + 1)) (ty := .int) (C := RX3) (T := TX3) (N := 7) (wsN := (w_X3_putVariable cy A_t A_t_positive A_t_negative (t_variables + 1) t_breakers t_clauses t_learned t_rounds)) hx hb hts inX3 tyX3 tyX3_ok nmX3 hown hK hP hD hS 0 rfl rfl 0 (by decide) (hts _ q_110) (fun _ h9 => h9) rfl (by decide +kernel) rfl rfl (Nat.le_of_ble_eq_true rfl) rfl dX3_putVariable_26 (fun H locs hP hD hS => ?_)
    cases hF
    exact kret_v hx hb hr hlocks hP hD hS dX3_putVariable_29
  · replace hF := ite_t (bI_t c_1) hF
    refine lv_aload_n hx hb dX3_putVariable_4 rfl (lv_at hl 0 rfl) ?_
    refine lv_dup hx hb dX3_putVariable_5 rfl ?_
    refine va_get (D := D) (ci := 3) (v := .int t_breakers) (C := RX3) (T := TX3) (N := 7) hx hb hts inX3 hown hK hP 0 rfl rfl 1 (by decide) (hts _ q_113) (fun _ h9 => h9) rfl dX3_putVariable_6 ?_
    refine lv_iconst (v := 1) hx hb dX3_putVariable_9 (by decide) ?_
    refine lv_aload_n hx hb dX3_putVariable_10 rfl (lv_at hl 0 rfl) ?_
    refine va_get (D := D) (ci := 3) (v := .int t_variables) (C := RX3) (T := TX3) (N := 7) hx hb hts inX3 hown hK hP 0 rfl rfl 0 (by decide) (hts _ q_110) (fun _ h9 => h9) rfl dX3_putVariable_11 ?_
    refine lv_ishl hx hb dX3_putVariable_14 ?_
    refine lv_ior hx hb dX3_putVariable_15 ?_
    refine ka_put (ci := 3) (v := .int (t_breakers ||| (1 <<< (t_variables &&& 31)))) (ty := .int) (C := RX3) (T := TX3) (N := 7) (wsN := (w_X3_putVariable cy A_t A_t_positive A_t_negative t_variables (t_breakers ||| (1 <<< (t_variables &&& 31))) t_clauses t_learned t_rounds)) hx hb hts inX3 tyX3 tyX3_ok nmX3 hown hK hP hD hS 0 rfl rfl 1 (by decide) (hts _ q_113) (fun _ h9 => h9) rfl (by decide +kernel) rfl rfl (Nat.le_of_ble_eq_true rfl) rfl dX3_putVariable_16 (fun H locs hP hD hS => ?_)
    refine lv_aload_n hx hb dX3_putVariable_19 rfl (lv_at hl 0 rfl) ?_
    refine lv_dup hx hb dX3_putVariable_20 rfl ?_
    refine va_get (D := D) (ci := 3) (v := .int t_variables) (C := RX3) (T := TX3) (N := 7) hx hb hts inX3 hown hK hP 0 rfl rfl 0 (by decide) (hts _ q_110) (fun _ h9 => h9) rfl dX3_putVariable_21 ?_
    refine lv_iconst (v := 1) hx hb dX3_putVariable_24 (by decide) ?_
    refine lv_iadd hx hb dX3_putVariable_25 ?_
    refine ka_put (ci := 3) (v := .int (t_variables + 1)) (ty := .int) (C := RX3) (T := TX3) (N := 7) (wsN := (w_X3_putVariable cy A_t A_t_positive A_t_negative (t_variables + 1) (t_breakers ||| (1 <<< (t_variables &&& 31))) t_clauses t_learned t_rounds)) hx hb hts inX3 tyX3 tyX3_ok nmX3 hown hK hP hD hS 0 rfl rfl 0 (by decide) (hts _ q_110) (fun _ h9 => h9) rfl (by decide +kernel) rfl rfl (Nat.le_of_ble_eq_true rfl) rfl dX3_putVariable_26 (fun H locs hP hD hS => ?_)
    cases hF
    exact kret_v hx hb hr hlocks hP hD hS dX3_putVariable_29

theorem q_117 : Cond.fieldLink RX3 9 "ForAllGame$State" "positive" "[I" ∈ wAll := wAll_mem 117 (by decide +kernel) (by decide +kernel)
theorem q_119 : Cond.fieldLink RX3 15 "ForAllGame$State" "negative" "[I" ∈ wAll := wAll_mem 119 (by decide +kernel) (by decide +kernel)
theorem q_245 : Cond.static yX4_write ∈ wAll := wAll_mem 245 (by decide +kernel) (by decide +kernel)
theorem q_246 : Cond.code yX4_write cX4_write 3 none ∈ wAll := wAll_mem 246 (by decide +kernel) (by decide +kernel)
theorem nq_244 {s : State} (h : NW s) : va_Nw (Cond.methodLinkNest RX3 38 yX4_write "ForAllGame") s := h.at 244 (by decide +kernel) rfl
theorem hd_X4_write : yX4_write.cls = RX4 ∧ yX4_write.cls ≠ "java/lang/invoke/MethodHandle" ∧ yX4_write.cls ≠ "java/lang/invoke/VarHandle" ∧ (parseMethodDescriptor yX4_write.desc).map (fun d => d.parameters.length) = some 3 := by decide +kernel
abbrev w_X3_putClause (cy : Nat → ClassId) (A_t : Nat) (A_t_positive : Nat) (A_t_negative : Nat) (t_variables : Int32) (t_breakers : Int32) (t_clauses : Int32) (t_learned : Int32) (t_rounds : Int32) (t_positive : Nat → Int32) (t_negative : Nat → Int32) : va_W := [(A_t, .inr (3, [.int t_variables, .int t_breakers, .int t_clauses, .ref A_t_positive, .ref A_t_negative, .int t_learned, .int t_rounds])), (A_t_positive, .inl (cy 0, 20, .inl t_positive)), (A_t_negative, .inl (cy 0, 20, .inl t_negative))]
def F_X3_putClause (N : Nat) (p0 : Int32) (p1 : Int32) (t_clauses : Int32) (t_positive : Nat → Int32) (t_negative : Nat → Int32) : Option (Int32 × (Nat → Int32) × (Nat → Int32)) :=
  ob1 (F_X4_write N 20 t_clauses p0 t_positive) (fun t_positive_1 => ob1 (F_X4_write N 20 t_clauses p1 t_negative) (fun t_negative_3 => some ((t_clauses + 1), t_positive_1, t_negative_3)))
set_option maxHeartbeats 4000000 in
set_option maxRecDepth 100000 in
theorem c_X3_putClause (l : Launch) (D : va_G) (cy : Nat → ClassId) (s0 tW N : Nat) (A_t : Nat) (A_t_positive : Nat) (A_t_negative : Nat) (p0 : Int32) (p1 : Int32) (t_variables : Int32) (t_breakers : Int32) (t_clauses : Int32) (t_learned : Int32) (t_rounds : Int32) (t_positive : Nat → Int32) (t_negative : Nat → Int32) (sz : Nat) {t_clauses9 : Int32} {t_positive9 : Nat → Int32} {t_negative9 : Nat → Int32} (hF : F_X3_putClause N p0 p1 t_clauses t_positive t_negative = some (t_clauses9, t_positive9, t_negative9)) : KM l D cy s0 tW yX3_putClause cX3_putClause 3 none 1 22 [.ref A_t, .int p0, .int p1] sz (w_X3_putClause cy A_t A_t_positive A_t_negative t_variables t_breakers t_clauses t_learned t_rounds t_positive t_negative) none (w_X3_putClause cy A_t A_t_positive A_t_negative t_variables t_breakers t_clauses9 t_learned t_rounds t_positive9 t_negative9) := by
  refine KM.intro rfl (Nat.le_of_ble_eq_true rfl) ?_
  intro p e s m args below meth c A ls hx hb hr hml hown hts hlocks hE hP hD hS hA hAs hl
  have hK := hE.1
  have hl : lv_has ls 3 [(0, .ref A_t), (1, .int p0), (2, .int p1)] := hl
  unfold F_X3_putClause at hF
  refine lv_aload_n hx hb dX3_putClause_0 rfl (lv_at hl 0 rfl) ?_
  refine va_get (D := D) (ci := 3) (v := .ref A_t_positive) (C := RX3) (T := TX3) (N := 7) hx hb hts inX3 hown hK hP 0 rfl rfl 3 (by decide) (hts _ q_117) (fun _ h9 => h9) rfl dX3_putClause_1 ?_
  refine lv_aload_n hx hb dX3_putClause_4 rfl (lv_at hl 0 rfl) ?_
  refine va_get (D := D) (ci := 3) (v := .int t_clauses) (C := RX3) (T := TX3) (N := 7) hx hb hts inX3 hown hK hP 0 rfl rfl 2 (by decide) (hts _ q_115) (fun _ h9 => h9) rfl dX3_putClause_5 ?_
  refine lv_iload_n hx hb dX3_putClause_8 rfl (lv_at hl 1 rfl) ?_
  obtain ⟨t_positive_1, hF_2, hF⟩ := ob1_some hF
  refine kcSN (As := [.ref A_t_positive, .int t_clauses, .int p0]) (rest := []) (wr := [(A_t, .inr (3, [.int t_variables, .int t_breakers, .int t_clauses, .ref A_t_positive, .ref A_t_negative, .int t_learned, .int t_rounds])), (A_t_negative, .inl (cy 0, 20, .inl t_negative))]) (wsN := (w_X3_putClause cy A_t A_t_positive A_t_negative t_variables t_breakers t_clauses t_learned t_rounds t_positive_1 t_negative)) ⟨hx, hb, hml, hown, hts⟩ hE hP hD hS hA hAs [1] [0, 2] [0, 2, 1] (c_X4_write l D cy s0 tW N A_t_positive 20 t_clauses p0 t_positive _ hF_2) q_246 q_83 q_245 (nq_244 hE.2.1) hd_X4_write.2 ⟨Nat.le_of_ble_eq_true rfl, Nat.le_of_ble_eq_true rfl⟩ rfl rfl rfl rfl rfl rfl rfl hl.1 rfl (Nat.le_of_ble_eq_true rfl) dX3_putClause_9 ⟨Nat.zero_le _, Nat.zero_le _⟩ (fun H locs hP hD hS => ?_)
  refine W.eq (g2 := F0 m 12 ls []) rfl ?_
  refine lv_aload_n hx hb dX3_putClause_12 rfl (lv_at hl 0 rfl) ?_
  refine va_get (D := D) (ci := 3) (v := .ref A_t_negative) (C := RX3) (T := TX3) (N := 7) hx hb hts inX3 hown hK hP 0 rfl rfl 4 (by decide) (hts _ q_119) (fun _ h9 => h9) rfl dX3_putClause_13 ?_
  refine lv_aload_n hx hb dX3_putClause_16 rfl (lv_at hl 0 rfl) ?_
  refine va_get (D := D) (ci := 3) (v := .int t_clauses) (C := RX3) (T := TX3) (N := 7) hx hb hts inX3 hown hK hP 0 rfl rfl 2 (by decide) (hts _ q_115) (fun _ h9 => h9) rfl dX3_putClause_17 ?_
  refine lv_iload_n hx hb dX3_putClause_20 rfl (lv_at hl 2 rfl) ?_
  obtain ⟨t_negative_3, hF_4, hF⟩ := ob1_some hF
  refine kcSN (As := [.ref A_t_negative, .int t_clauses, .int p1]) (rest := []) (wr := [(A_t, .inr (3, [.int t_variables, .int t_breakers, .int t_clauses, .ref A_t_positive, .ref A_t_negative, .int t_learned, .int t_rounds])), (A_t_positive, .inl (cy 0, 20, .inl t_positive_1))]) (wsN := (w_X3_putClause cy A_t A_t_positive A_t_negative t_variables t_breakers t_clauses t_learned t_rounds t_positive_1 t_negative_3)) ⟨hx, hb, hml, hown, hts⟩ hE hP hD hS hA hAs [2] [0, 1] [0, 1, 2] (c_X4_write l D cy s0 tW N A_t_negative 20 t_clauses p1 t_negative _ hF_4) q_246 q_83 q_245 (nq_244 hE.2.1) hd_X4_write.2 ⟨Nat.le_of_ble_eq_true rfl, Nat.le_of_ble_eq_true rfl⟩ rfl rfl rfl rfl rfl rfl rfl hl.1 rfl (Nat.le_of_ble_eq_true rfl) dX3_putClause_21 ⟨Nat.zero_le _, Nat.zero_le _⟩ (fun H locs hP hD hS => ?_)
  refine W.eq (g2 := F0 m 24 ls []) rfl ?_
  refine lv_aload_n hx hb dX3_putClause_24 rfl (lv_at hl 0 rfl) ?_
  refine lv_dup hx hb dX3_putClause_25 rfl ?_
  refine va_get (D := D) (ci := 3) (v := .int t_clauses) (C := RX3) (T := TX3) (N := 7) hx hb hts inX3 hown hK hP 0 rfl rfl 2 (by decide) (hts _ q_115) (fun _ h9 => h9) rfl dX3_putClause_26 ?_
  refine lv_iconst (v := 1) hx hb dX3_putClause_29 (by decide) ?_
  refine lv_iadd hx hb dX3_putClause_30 ?_
  refine ka_put (ci := 3) (v := .int (t_clauses + 1)) (ty := .int) (C := RX3) (T := TX3) (N := 7) (wsN := (w_X3_putClause cy A_t A_t_positive A_t_negative t_variables t_breakers (t_clauses + 1) t_learned t_rounds t_positive_1 t_negative_3)) hx hb hts inX3 tyX3 tyX3_ok nmX3 hown hK hP hD hS 0 rfl rfl 2 (by decide) (hts _ q_115) (fun _ h9 => h9) rfl (by decide +kernel) rfl rfl (Nat.le_of_ble_eq_true rfl) rfl dX3_putClause_31 (fun H locs hP hD hS => ?_)
  cases hF
  exact kret_v hx hb hr hlocks hP hD hS dX3_putClause_34

theorem q_242 : Cond.static yX4_read ∈ wAll := wAll_mem 242 (by decide +kernel) (by decide +kernel)
theorem q_243 : Cond.code yX4_read cX4_read 2 (some .int) ∈ wAll := wAll_mem 243 (by decide +kernel) (by decide +kernel)
theorem nq_241 {s : State} (h : NW s) : va_Nw (Cond.methodLinkNest RX3 34 yX4_read "ForAllGame") s := h.at 241 (by decide +kernel) rfl
theorem hd_X4_read : yX4_read.cls = RX4 ∧ yX4_read.cls ≠ "java/lang/invoke/MethodHandle" ∧ yX4_read.cls ≠ "java/lang/invoke/VarHandle" ∧ (parseMethodDescriptor yX4_read.desc).map (fun d => d.parameters.length) = some 2 := by decide +kernel
abbrev w_X3_dropClause (cy : Nat → ClassId) (A_t : Nat) (A_t_positive : Nat) (A_t_negative : Nat) (t_variables : Int32) (t_breakers : Int32) (t_clauses : Int32) (t_learned : Int32) (t_rounds : Int32) (t_positive : Nat → Int32) (t_negative : Nat → Int32) : va_W := [(A_t, .inr (3, [.int t_variables, .int t_breakers, .int t_clauses, .ref A_t_positive, .ref A_t_negative, .int t_learned, .int t_rounds])), (A_t_positive, .inl (cy 0, 20, .inl t_positive)), (A_t_negative, .inl (cy 0, 20, .inl t_negative))]
def L_X3_dropClause_12 (N : Nat) (t_clauses : Int32) (kont : (Nat → Int32) → (Nat → Int32) → Option (Int32 × (Nat → Int32) × (Nat → Int32))) : Nat → Int32 → (Nat → Int32) → (Nat → Int32) → Option (Int32 × (Nat → Int32) × (Nat → Int32))
  | 0, _, _, _ => none
  | n + 1, v2_1, t_positive_2, t_negative_3 => (if (t_clauses - 1) ≤ v2_1 then kont t_positive_2 t_negative_3 else ob1 (F_X4_read N 20 (v2_1 + 1) t_positive_2) (fun r_7 => ob1 (F_X4_write N 20 v2_1 r_7 t_positive_2) (fun t_positive_9 => ob1 (F_X4_read N 20 (v2_1 + 1) t_negative_3) (fun r_11 => ob1 (F_X4_write N 20 v2_1 r_11 t_negative_3) (fun t_negative_13 => L_X3_dropClause_12 N t_clauses kont n (v2_1 + 1) t_positive_9 t_negative_13)))))
def F_X3_dropClause (N : Nat) (p0 : Int32) (t_clauses : Int32) (t_positive : Nat → Int32) (t_negative : Nat → Int32) : Option (Int32 × (Nat → Int32) × (Nat → Int32)) :=
  (L_X3_dropClause_12 N t_clauses (fun t_positive_4 t_negative_5 => some ((t_clauses - 1), t_positive_4, t_negative_5)) N p0 t_positive t_negative)
set_option maxHeartbeats 4000000 in
set_option maxRecDepth 100000 in
theorem c_X3_dropClause (l : Launch) (D : va_G) (cy : Nat → ClassId) (s0 tW N : Nat) (A_t : Nat) (A_t_positive : Nat) (A_t_negative : Nat) (p0 : Int32) (t_variables : Int32) (t_breakers : Int32) (t_clauses : Int32) (t_learned : Int32) (t_rounds : Int32) (t_positive : Nat → Int32) (t_negative : Nat → Int32) (sz : Nat) {t_clauses9 : Int32} {t_positive9 : Nat → Int32} {t_negative9 : Nat → Int32} (hF : F_X3_dropClause N p0 t_clauses t_positive t_negative = some (t_clauses9, t_positive9, t_negative9)) : KM l D cy s0 tW yX3_dropClause cX3_dropClause 3 none 1 22 [.ref A_t, .int p0] sz (w_X3_dropClause cy A_t A_t_positive A_t_negative t_variables t_breakers t_clauses t_learned t_rounds t_positive t_negative) none (w_X3_dropClause cy A_t A_t_positive A_t_negative t_variables t_breakers t_clauses9 t_learned t_rounds t_positive9 t_negative9) := by
  refine KM.intro rfl (Nat.le_of_ble_eq_true rfl) ?_
  intro p e s m args below meth c A ls hx hb hr hml hown hts hlocks hE hP hD hS hA hAs hl
  have hK := hE.1
  have hl : lv_has ls 3 [(0, .ref A_t), (1, .int p0)] := hl
  unfold F_X3_dropClause at hF
  refine lv_aload_n hx hb dX3_dropClause_0 rfl (lv_at hl 0 rfl) ?_
  refine lv_dup hx hb dX3_dropClause_1 rfl ?_
  refine va_get (D := D) (ci := 3) (v := .int t_clauses) (C := RX3) (T := TX3) (N := 7) hx hb hts inX3 hown hK hP 0 rfl rfl 2 (by decide) (hts _ q_115) (fun _ h9 => h9) rfl dX3_dropClause_2 ?_
  refine lv_iconst (v := 1) hx hb dX3_dropClause_5 (by decide) ?_
  refine lv_isub hx hb dX3_dropClause_6 ?_
  refine ka_put (ci := 3) (v := .int (t_clauses - 1)) (ty := .int) (C := RX3) (T := TX3) (N := 7) (wsN := (w_X3_dropClause cy A_t A_t_positive A_t_negative t_variables t_breakers (t_clauses - 1) t_learned t_rounds t_positive t_negative)) hx hb hts inX3 tyX3 tyX3_ok nmX3 hown hK hP hD hS 0 rfl rfl 2 (by decide) (hts _ q_115) (fun _ h9 => h9) rfl (by decide +kernel) rfl rfl (Nat.le_of_ble_eq_true rfl) rfl dX3_dropClause_7 (fun H locs hP hD hS => ?_)
  refine lv_iload_n hx hb dX3_dropClause_10 rfl (lv_at hl 1 rfl) ?_
  refine lv_istore_n (lv' := [(2, .int p0), (0, .ref A_t), (1, .int p0)]) hx hb dX3_dropClause_11 rfl hl (by decide) rfl (fun ls hl => ?_)
  have hloop_12 : ∀ (kont : (Nat → Int32) → (Nat → Int32) → Option (Int32 × (Nat → Int32) × (Nat → Int32))), (∀ (t_positive_4 : Nat → Int32) (t_negative_5 : Nat → Int32) (H : Heap) (locs : List Loc) (ls : Array Slot), kont t_positive_4 t_negative_5 = some (t_clauses9, t_positive9, t_negative9) → va_P D vwCl (w_X3_dropClause cy A_t A_t_positive A_t_negative t_variables t_breakers (t_clauses - 1) t_learned t_rounds t_positive_4 t_negative_5) H → va_D A (w_X3_dropClause cy A_t A_t_positive A_t_negative t_variables t_breakers (t_clauses - 1) t_learned t_rounds t_positive_4 t_negative_5) → va_S A s.heap H locs → lv_has ls 3 [] → W p l e (rmK 1 22) s m args below meth c H locs 0 0 (MQ below (kQ none D A (w_X3_dropClause cy A_t A_t_positive A_t_negative t_variables t_breakers t_clauses9 t_learned t_rounds t_positive9 t_negative9)) args s 0 0 A) (F0 m 62 ls [])) → ∀ (n : Nat) (v2_1 : Int32) (t_positive_2 : Nat → Int32) (t_negative_3 : Nat → Int32) (H : Heap) (locs : List Loc) (ls : Array Slot), L_X3_dropClause_12 N t_clauses kont n v2_1 t_positive_2 t_negative_3 = some (t_clauses9, t_positive9, t_negative9) → va_P D vwCl (w_X3_dropClause cy A_t A_t_positive A_t_negative t_variables t_breakers (t_clauses - 1) t_learned t_rounds t_positive_2 t_negative_3) H → va_D A (w_X3_dropClause cy A_t A_t_positive A_t_negative t_variables t_breakers (t_clauses - 1) t_learned t_rounds t_positive_2 t_negative_3) → va_S A s.heap H locs → lv_has ls 3 [(0, .ref A_t), (2, .int v2_1)] → W p l e (rmK 1 22) s m args below meth c H locs 0 0 (MQ below (kQ none D A (w_X3_dropClause cy A_t A_t_positive A_t_negative t_variables t_breakers t_clauses9 t_learned t_rounds t_positive9 t_negative9)) args s 0 0 A) (F0 m 12 ls []) := by
    intro kont hexit_12 n
    induction n with
    | zero =>
      intro v2_1 t_positive_2 t_negative_3 H locs ls hF
      rw [L_X3_dropClause_12] at hF
      cases hF
    | succ n ih =>
      intro v2_1 t_positive_2 t_negative_3 H locs ls hF hP hD hS hl
      rw [L_X3_dropClause_12] at hF
      refine lv_iload_n hx hb dX3_dropClause_12 rfl (lv_at hl 1 rfl) ?_
      refine lv_aload_n hx hb dX3_dropClause_13 rfl (lv_at hl 0 rfl) ?_
      refine va_get (D := D) (ci := 3) (v := .int (t_clauses - 1)) (C := RX3) (T := TX3) (N := 7) hx hb hts inX3 hown hK hP 0 rfl rfl 2 (by decide) (hts _ q_115) (fun _ h9 => h9) rfl dX3_dropClause_14 ?_
      refine lv_icmp_ge (tgt := 62) hx hb dX3_dropClause_17 (by decide) (fun c_6 => ?_) (fun c_6 => ?_)
      · replace hF := ite_t c_6 hF
        exact hexit_12 t_positive_2 t_negative_3 H locs ls hF hP hD hS (lv_sub hl [] rfl)
      · replace hF := ite_f c_6 hF
        refine lv_aload_n hx hb dX3_dropClause_20 rfl (lv_at hl 0 rfl) ?_
        refine va_get (D := D) (ci := 3) (v := .ref A_t_positive) (C := RX3) (T := TX3) (N := 7) hx hb hts inX3 hown hK hP 0 rfl rfl 3 (by decide) (hts _ q_117) (fun _ h9 => h9) rfl dX3_dropClause_21 ?_
        refine lv_iload_n hx hb dX3_dropClause_24 rfl (lv_at hl 1 rfl) ?_
        refine lv_aload_n hx hb dX3_dropClause_25 rfl (lv_at hl 0 rfl) ?_
        refine va_get (D := D) (ci := 3) (v := .ref A_t_positive) (C := RX3) (T := TX3) (N := 7) hx hb hts inX3 hown hK hP 0 rfl rfl 3 (by decide) (hts _ q_117) (fun _ h9 => h9) rfl dX3_dropClause_26 ?_
        refine lv_iload_n hx hb dX3_dropClause_29 rfl (lv_at hl 1 rfl) ?_
        refine lv_iconst (v := 1) hx hb dX3_dropClause_30 (by decide) ?_
        refine lv_iadd hx hb dX3_dropClause_31 ?_
        obtain ⟨r_7, hF_8, hF⟩ := ob1_some hF
        refine kcSN (As := [.ref A_t_positive, .int (v2_1 + 1)]) (rest := [.int v2_1, .ref A_t_positive]) (wr := [(A_t, .inr (3, [.int t_variables, .int t_breakers, .int (t_clauses - 1), .ref A_t_positive, .ref A_t_negative, .int t_learned, .int t_rounds])), (A_t_negative, .inl (cy 0, 20, .inl t_negative_3))]) (wsN := (w_X3_dropClause cy A_t A_t_positive A_t_negative t_variables t_breakers (t_clauses - 1) t_learned t_rounds t_positive_2 t_negative_3)) ⟨hx, hb, hml, hown, hts⟩ hE hP hD hS hA hAs [1] [0, 2] [0, 2, 1] (c_X4_read l D cy s0 tW N A_t_positive 20 (v2_1 + 1) t_positive_2 _ hF_8) q_243 q_83 q_242 (nq_241 hE.2.1) hd_X4_read.2 ⟨Nat.le_of_ble_eq_true rfl, Nat.le_of_ble_eq_true rfl⟩ rfl rfl rfl rfl rfl rfl rfl hl.1 rfl (Nat.le_of_ble_eq_true rfl) dX3_dropClause_32 ⟨Nat.zero_le _, Nat.zero_le _⟩ (fun H locs hP hD hS => ?_)
        refine W.eq (g2 := F0 m 35 ls [.int r_7, .int v2_1, .ref A_t_positive]) rfl ?_
        obtain ⟨t_positive_9, hF_10, hF⟩ := ob1_some hF
        refine kcSN (As := [.ref A_t_positive, .int v2_1, .int r_7]) (rest := []) (wr := [(A_t, .inr (3, [.int t_variables, .int t_breakers, .int (t_clauses - 1), .ref A_t_positive, .ref A_t_negative, .int t_learned, .int t_rounds])), (A_t_negative, .inl (cy 0, 20, .inl t_negative_3))]) (wsN := (w_X3_dropClause cy A_t A_t_positive A_t_negative t_variables t_breakers (t_clauses - 1) t_learned t_rounds t_positive_9 t_negative_3)) ⟨hx, hb, hml, hown, hts⟩ hE hP hD hS hA hAs [1] [0, 2] [0, 2, 1] (c_X4_write l D cy s0 tW N A_t_positive 20 v2_1 r_7 t_positive_2 _ hF_10) q_246 q_83 q_245 (nq_244 hE.2.1) hd_X4_write.2 ⟨Nat.le_of_ble_eq_true rfl, Nat.le_of_ble_eq_true rfl⟩ rfl rfl rfl rfl rfl rfl rfl hl.1 rfl (Nat.le_of_ble_eq_true rfl) dX3_dropClause_35 ⟨Nat.zero_le _, Nat.zero_le _⟩ (fun H locs hP hD hS => ?_)
        refine W.eq (g2 := F0 m 38 ls []) rfl ?_
        refine lv_aload_n hx hb dX3_dropClause_38 rfl (lv_at hl 0 rfl) ?_
        refine va_get (D := D) (ci := 3) (v := .ref A_t_negative) (C := RX3) (T := TX3) (N := 7) hx hb hts inX3 hown hK hP 0 rfl rfl 4 (by decide) (hts _ q_119) (fun _ h9 => h9) rfl dX3_dropClause_39 ?_
        refine lv_iload_n hx hb dX3_dropClause_42 rfl (lv_at hl 1 rfl) ?_
        refine lv_aload_n hx hb dX3_dropClause_43 rfl (lv_at hl 0 rfl) ?_
        refine va_get (D := D) (ci := 3) (v := .ref A_t_negative) (C := RX3) (T := TX3) (N := 7) hx hb hts inX3 hown hK hP 0 rfl rfl 4 (by decide) (hts _ q_119) (fun _ h9 => h9) rfl dX3_dropClause_44 ?_
        refine lv_iload_n hx hb dX3_dropClause_47 rfl (lv_at hl 1 rfl) ?_
        refine lv_iconst (v := 1) hx hb dX3_dropClause_48 (by decide) ?_
        refine lv_iadd hx hb dX3_dropClause_49 ?_
        obtain ⟨r_11, hF_12, hF⟩ := ob1_some hF
        refine kcSN (As := [.ref A_t_negative, .int (v2_1 + 1)]) (rest := [.int v2_1, .ref A_t_negative]) (wr := [(A_t, .inr (3, [.int t_variables, .int t_breakers, .int (t_clauses - 1), .ref A_t_positive, .ref A_t_negative, .int t_learned, .int t_rounds])), (A_t_positive, .inl (cy 0, 20, .inl t_positive_9))]) (wsN := (w_X3_dropClause cy A_t A_t_positive A_t_negative t_variables t_breakers (t_clauses - 1) t_learned t_rounds t_positive_9 t_negative_3)) ⟨hx, hb, hml, hown, hts⟩ hE hP hD hS hA hAs [2] [0, 1] [0, 1, 2] (c_X4_read l D cy s0 tW N A_t_negative 20 (v2_1 + 1) t_negative_3 _ hF_12) q_243 q_83 q_242 (nq_241 hE.2.1) hd_X4_read.2 ⟨Nat.le_of_ble_eq_true rfl, Nat.le_of_ble_eq_true rfl⟩ rfl rfl rfl rfl rfl rfl rfl hl.1 rfl (Nat.le_of_ble_eq_true rfl) dX3_dropClause_50 ⟨Nat.zero_le _, Nat.zero_le _⟩ (fun H locs hP hD hS => ?_)
        refine W.eq (g2 := F0 m 53 ls [.int r_11, .int v2_1, .ref A_t_negative]) rfl ?_
        obtain ⟨t_negative_13, hF_14, hF⟩ := ob1_some hF
        refine kcSN (As := [.ref A_t_negative, .int v2_1, .int r_11]) (rest := []) (wr := [(A_t, .inr (3, [.int t_variables, .int t_breakers, .int (t_clauses - 1), .ref A_t_positive, .ref A_t_negative, .int t_learned, .int t_rounds])), (A_t_positive, .inl (cy 0, 20, .inl t_positive_9))]) (wsN := (w_X3_dropClause cy A_t A_t_positive A_t_negative t_variables t_breakers (t_clauses - 1) t_learned t_rounds t_positive_9 t_negative_13)) ⟨hx, hb, hml, hown, hts⟩ hE hP hD hS hA hAs [2] [0, 1] [0, 1, 2] (c_X4_write l D cy s0 tW N A_t_negative 20 v2_1 r_11 t_negative_3 _ hF_14) q_246 q_83 q_245 (nq_244 hE.2.1) hd_X4_write.2 ⟨Nat.le_of_ble_eq_true rfl, Nat.le_of_ble_eq_true rfl⟩ rfl rfl rfl rfl rfl rfl rfl hl.1 rfl (Nat.le_of_ble_eq_true rfl) dX3_dropClause_53 ⟨Nat.zero_le _, Nat.zero_le _⟩ (fun H locs hP hD hS => ?_)
        refine W.eq (g2 := F0 m 56 ls []) rfl ?_
        refine lv_iinc (v := (v2_1 + 1)) (lv' := [(2, .int (v2_1 + 1)), (0, .ref A_t)]) hx hb dX3_dropClause_56 hl (k := 1) rfl (by first | rfl | decide) (by decide) rfl (fun ls hl => ?_)
        refine lv_goto (tgt := 12) hx hb dX3_dropClause_59 (by decide) ?_
        exact ih (v2_1 + 1) t_positive_9 t_negative_13 H locs ls hF hP hD hS (lv_sub hl [1, 0] rfl)
  refine hloop_12 _ (fun t_positive_4 t_negative_5 H locs ls hF hP hD hS hl => ?_) N p0 t_positive t_negative _ _ ls hF hP hD hS (lv_sub hl [1, 0] rfl)
  cases hF
  exact kret_v hx hb hr hlocks hP hD hS dX3_dropClause_62

abbrev w_X3_holds (cy : Nat → ClassId) (A_t : Nat) (A_t_positive : Nat) (A_t_negative : Nat) (t_variables : Int32) (t_breakers : Int32) (t_clauses : Int32) (t_learned : Int32) (t_rounds : Int32) (t_positive : Nat → Int32) (t_negative : Nat → Int32) : va_W := [(A_t, .inr (3, [.int t_variables, .int t_breakers, .int t_clauses, .ref A_t_positive, .ref A_t_negative, .int t_learned, .int t_rounds])), (A_t_positive, .inl (cy 0, 20, .inl t_positive)), (A_t_negative, .inl (cy 0, 20, .inl t_negative))]
def L_X3_holds_2 (N : Nat) (t_clauses : Int32) (t_positive : Nat → Int32) (t_negative : Nat → Int32) (p0 : Int32) (kont : Option (Bool)) : Nat → Int32 → Option (Bool)
  | 0, _ => none
  | n + 1, v2_1 => (if t_clauses ≤ v2_1 then kont else ob1 (F_X4_read N 20 v2_1 t_positive) (fun r_3 => (if (p0 &&& r_3) = (0 : Int32) then ob1 (F_X4_read N 20 v2_1 t_negative) (fun r_6 => (if ((p0 ^^^ (-1)) &&& r_6) = (0 : Int32) then some false else L_X3_holds_2 N t_clauses t_positive t_negative p0 kont n (v2_1 + 1))) else L_X3_holds_2 N t_clauses t_positive t_negative p0 kont n (v2_1 + 1))))
def F_X3_holds (N : Nat) (p0 : Int32) (t_clauses : Int32) (t_positive : Nat → Int32) (t_negative : Nat → Int32) : Option (Bool) :=
  (L_X3_holds_2 N t_clauses t_positive t_negative p0 (some true) N 0)
set_option maxHeartbeats 4000000 in
set_option maxRecDepth 100000 in
theorem c_X3_holds (l : Launch) (D : va_G) (cy : Nat → ClassId) (s0 tW N : Nat) (A_t : Nat) (A_t_positive : Nat) (A_t_negative : Nat) (p0 : Int32) (t_variables : Int32) (t_breakers : Int32) (t_clauses : Int32) (t_learned : Int32) (t_rounds : Int32) (t_positive : Nat → Int32) (t_negative : Nat → Int32) (sz : Nat) {r9 : Bool} (hF : F_X3_holds N p0 t_clauses t_positive t_negative = some r9) : KM l D cy s0 tW yX3_holds cX3_holds 4 (some .boolean) 1 21 [.ref A_t, .int p0] sz (w_X3_holds cy A_t A_t_positive A_t_negative t_variables t_breakers t_clauses t_learned t_rounds t_positive t_negative) (some (.int (bI r9))) (w_X3_holds cy A_t A_t_positive A_t_negative t_variables t_breakers t_clauses t_learned t_rounds t_positive t_negative) := by
  refine KM.intro rfl (Nat.le_of_ble_eq_true rfl) ?_
  intro p e s m args below meth c A ls hx hb hr hml hown hts hlocks hE hP hD hS hA hAs hl
  have hK := hE.1
  have hl : lv_has ls 4 [(0, .ref A_t), (1, .int p0)] := hl
  unfold F_X3_holds at hF
  refine lv_iconst (v := 0) hx hb dX3_holds_0 (by decide) ?_
  refine lv_istore_n (lv' := [(2, .int 0), (0, .ref A_t), (1, .int p0)]) hx hb dX3_holds_1 rfl hl (by decide) rfl (fun ls hl => ?_)
  have hloop_2 : ∀ (kont : Option (Bool)), (∀  (H : Heap) (locs : List Loc) (ls : Array Slot), kont  = some r9 → va_P D vwCl (w_X3_holds cy A_t A_t_positive A_t_negative t_variables t_breakers t_clauses t_learned t_rounds t_positive t_negative) H → va_D A (w_X3_holds cy A_t A_t_positive A_t_negative t_variables t_breakers t_clauses t_learned t_rounds t_positive t_negative) → va_S A s.heap H locs → lv_has ls 4 [] → W p l e (rmK 1 21) s m args below meth c H locs 0 0 (MQ below (kQ (some (.int (bI r9))) D A (w_X3_holds cy A_t A_t_positive A_t_negative t_variables t_breakers t_clauses t_learned t_rounds t_positive t_negative)) args s 0 0 A) (F0 m 56 ls [])) → ∀ (n : Nat) (v2_1 : Int32) (H : Heap) (locs : List Loc) (ls : Array Slot), L_X3_holds_2 N t_clauses t_positive t_negative p0 kont n v2_1 = some r9 → va_P D vwCl (w_X3_holds cy A_t A_t_positive A_t_negative t_variables t_breakers t_clauses t_learned t_rounds t_positive t_negative) H → va_D A (w_X3_holds cy A_t A_t_positive A_t_negative t_variables t_breakers t_clauses t_learned t_rounds t_positive t_negative) → va_S A s.heap H locs → lv_has ls 4 [(0, .ref A_t), (1, .int p0), (2, .int v2_1)] → W p l e (rmK 1 21) s m args below meth c H locs 0 0 (MQ below (kQ (some (.int (bI r9))) D A (w_X3_holds cy A_t A_t_positive A_t_negative t_variables t_breakers t_clauses t_learned t_rounds t_positive t_negative)) args s 0 0 A) (F0 m 2 ls []) := by
    intro kont hexit_2 n
    induction n with
    | zero =>
      intro v2_1 H locs ls hF
      rw [L_X3_holds_2] at hF
      cases hF
    | succ n ih =>
      intro v2_1 H locs ls hF hP hD hS hl
      rw [L_X3_holds_2] at hF
      refine lv_iload_n hx hb dX3_holds_2 rfl (lv_at hl 2 rfl) ?_
      refine lv_aload_n hx hb dX3_holds_3 rfl (lv_at hl 0 rfl) ?_
      refine va_get (D := D) (ci := 3) (v := .int t_clauses) (C := RX3) (T := TX3) (N := 7) hx hb hts inX3 hown hK hP 0 rfl rfl 2 (by decide) (hts _ q_115) (fun _ h9 => h9) rfl dX3_holds_4 ?_
      refine lv_icmp_ge (tgt := 56) hx hb dX3_holds_7 (by decide) (fun c_2 => ?_) (fun c_2 => ?_)
      · replace hF := ite_t c_2 hF
        exact hexit_2  H locs ls hF hP hD hS (lv_sub hl [] rfl)
      · replace hF := ite_f c_2 hF
        refine lv_iload_n hx hb dX3_holds_10 rfl (lv_at hl 1 rfl) ?_
        refine lv_aload_n hx hb dX3_holds_11 rfl (lv_at hl 0 rfl) ?_
        refine va_get (D := D) (ci := 3) (v := .ref A_t_positive) (C := RX3) (T := TX3) (N := 7) hx hb hts inX3 hown hK hP 0 rfl rfl 3 (by decide) (hts _ q_117) (fun _ h9 => h9) rfl dX3_holds_12 ?_
        refine lv_iload_n hx hb dX3_holds_15 rfl (lv_at hl 2 rfl) ?_
        obtain ⟨r_3, hF_4, hF⟩ := ob1_some hF
        refine kcSN (As := [.ref A_t_positive, .int v2_1]) (rest := [.int p0]) (wr := [(A_t, .inr (3, [.int t_variables, .int t_breakers, .int t_clauses, .ref A_t_positive, .ref A_t_negative, .int t_learned, .int t_rounds])), (A_t_negative, .inl (cy 0, 20, .inl t_negative))]) (wsN := (w_X3_holds cy A_t A_t_positive A_t_negative t_variables t_breakers t_clauses t_learned t_rounds t_positive t_negative)) ⟨hx, hb, hml, hown, hts⟩ hE hP hD hS hA hAs [1] [0, 2] [0, 2, 1] (c_X4_read l D cy s0 tW N A_t_positive 20 v2_1 t_positive _ hF_4) q_243 q_83 q_242 (nq_241 hE.2.1) hd_X4_read.2 ⟨Nat.le_of_ble_eq_true rfl, Nat.le_of_ble_eq_true rfl⟩ rfl rfl rfl rfl rfl rfl rfl hl.1 rfl (Nat.le_of_ble_eq_true rfl) dX3_holds_16 ⟨Nat.zero_le _, Nat.zero_le _⟩ (fun H locs hP hD hS => ?_)
        refine W.eq (g2 := F0 m 19 ls [.int r_3, .int p0]) rfl ?_
        refine lv_iand hx hb dX3_holds_19 ?_
        refine lv_if_ne (tgt := 38) hx hb dX3_holds_20 (by decide) (fun c_5 => ?_) (fun c_5 => ?_)
        · replace hF := ite_f c_5 hF
          refine lv_iconst (v := 1) hx hb dX3_holds_38 (by decide) ?_
          refine lv_goto (tgt := 43) hx hb dX3_holds_39 (by decide) ?_
          refine lv_istore_n (lv' := [(3, .int 1), (0, .ref A_t), (1, .int p0), (2, .int v2_1)]) hx hb dX3_holds_43 rfl hl (by decide) rfl (fun ls hl => ?_)
          refine lv_iload_n hx hb dX3_holds_44 rfl (lv_at hl 0 rfl) ?_
          refine lv_if_ne (tgt := 50) hx hb dX3_holds_45 (by decide) (fun _ => ?_) (fun h0 => absurd h0 (by decide))
          refine lv_iinc (v := (v2_1 + 1)) (lv' := [(2, .int (v2_1 + 1)), (3, .int 1), (0, .ref A_t), (1, .int p0)]) hx hb dX3_holds_50 hl (k := 3) rfl (by first | rfl | decide) (by decide) rfl (fun ls hl => ?_)
          refine lv_goto (tgt := 2) hx hb dX3_holds_53 (by decide) ?_
          exact ih (v2_1 + 1) H locs ls hF hP hD hS (lv_sub hl [2, 3, 0] rfl)
        · replace hF := ite_t c_5 hF
          refine lv_iload_n hx hb dX3_holds_23 rfl (lv_at hl 1 rfl) ?_
          refine lv_iconst (v := (-1)) hx hb dX3_holds_24 (by decide) ?_
          refine lv_ixor hx hb dX3_holds_25 ?_
          refine lv_aload_n hx hb dX3_holds_26 rfl (lv_at hl 0 rfl) ?_
          refine va_get (D := D) (ci := 3) (v := .ref A_t_negative) (C := RX3) (T := TX3) (N := 7) hx hb hts inX3 hown hK hP 0 rfl rfl 4 (by decide) (hts _ q_119) (fun _ h9 => h9) rfl dX3_holds_27 ?_
          refine lv_iload_n hx hb dX3_holds_30 rfl (lv_at hl 2 rfl) ?_
          obtain ⟨r_6, hF_7, hF⟩ := ob1_some hF
          refine kcSN (As := [.ref A_t_negative, .int v2_1]) (rest := [.int (p0 ^^^ (-1))]) (wr := [(A_t, .inr (3, [.int t_variables, .int t_breakers, .int t_clauses, .ref A_t_positive, .ref A_t_negative, .int t_learned, .int t_rounds])), (A_t_positive, .inl (cy 0, 20, .inl t_positive))]) (wsN := (w_X3_holds cy A_t A_t_positive A_t_negative t_variables t_breakers t_clauses t_learned t_rounds t_positive t_negative)) ⟨hx, hb, hml, hown, hts⟩ hE hP hD hS hA hAs [2] [0, 1] [0, 1, 2] (c_X4_read l D cy s0 tW N A_t_negative 20 v2_1 t_negative _ hF_7) q_243 q_83 q_242 (nq_241 hE.2.1) hd_X4_read.2 ⟨Nat.le_of_ble_eq_true rfl, Nat.le_of_ble_eq_true rfl⟩ rfl rfl rfl rfl rfl rfl rfl hl.1 rfl (Nat.le_of_ble_eq_true rfl) dX3_holds_31 ⟨Nat.zero_le _, Nat.zero_le _⟩ (fun H locs hP hD hS => ?_)
          refine W.eq (g2 := F0 m 34 ls [.int r_6, .int (p0 ^^^ (-1))]) rfl ?_
          refine lv_iand hx hb dX3_holds_34 ?_
          refine lv_if_eq (tgt := 42) hx hb dX3_holds_35 (by decide) (fun c_8 => ?_) (fun c_8 => ?_)
          · replace hF := ite_t c_8 hF
            refine lv_iconst (v := 0) hx hb dX3_holds_42 (by decide) ?_
            refine lv_istore_n (lv' := [(3, .int 0), (0, .ref A_t), (1, .int p0), (2, .int v2_1)]) hx hb dX3_holds_43 rfl hl (by decide) rfl (fun ls hl => ?_)
            refine lv_iload_n hx hb dX3_holds_44 rfl (lv_at hl 0 rfl) ?_
            refine lv_if_ne (tgt := 50) hx hb dX3_holds_45 (by decide) (fun h0 => absurd (by decide) h0) (fun _ => ?_)
            refine lv_iconst (v := 0) hx hb dX3_holds_48 (by decide) ?_
            cases hF
            exact kret_z hx hb hr hlocks hP hD hS dX3_holds_49
          · replace hF := ite_f c_8 hF
            refine lv_iconst (v := 1) hx hb dX3_holds_38 (by decide) ?_
            refine lv_goto (tgt := 43) hx hb dX3_holds_39 (by decide) ?_
            refine lv_istore_n (lv' := [(3, .int 1), (0, .ref A_t), (1, .int p0), (2, .int v2_1)]) hx hb dX3_holds_43 rfl hl (by decide) rfl (fun ls hl => ?_)
            refine lv_iload_n hx hb dX3_holds_44 rfl (lv_at hl 0 rfl) ?_
            refine lv_if_ne (tgt := 50) hx hb dX3_holds_45 (by decide) (fun _ => ?_) (fun h0 => absurd h0 (by decide))
            refine lv_iinc (v := (v2_1 + 1)) (lv' := [(2, .int (v2_1 + 1)), (3, .int 1), (0, .ref A_t), (1, .int p0)]) hx hb dX3_holds_50 hl (k := 3) rfl (by first | rfl | decide) (by decide) rfl (fun ls hl => ?_)
            refine lv_goto (tgt := 2) hx hb dX3_holds_53 (by decide) ?_
            exact ih (v2_1 + 1) H locs ls hF hP hD hS (lv_sub hl [2, 3, 0] rfl)
  refine hloop_2 _ (fun  H locs ls hF hP hD hS hl => ?_) N 0 _ _ ls hF hP hD hS (lv_sub hl [1, 2, 0] rfl)
  refine lv_iconst (v := 1) hx hb dX3_holds_56 (by decide) ?_
  cases hF
  exact kret_z hx hb hr hlocks hP hD hS dX3_holds_57

theorem q_9 : Cond.selects RX3 yX3_ownerOf yX3_ownerOf ∈ wAll := wAll_mem 9 (by decide +kernel) (by decide +kernel)
theorem q_288 : Cond.methodLink RX3 56 yX3_ownerOf ∈ wAll := wAll_mem 288 (by decide +kernel) (by decide +kernel)
theorem q_290 : Cond.instanceMethod yX3_ownerOf ∈ wAll := wAll_mem 290 (by decide +kernel) (by decide +kernel)
theorem q_291 : Cond.code yX3_ownerOf cX3_ownerOf 2 (some .int) ∈ wAll := wAll_mem 291 (by decide +kernel) (by decide +kernel)
theorem hd_X3_ownerOf : yX3_ownerOf.cls = RX3 ∧ yX3_ownerOf.cls ≠ "java/lang/invoke/MethodHandle" ∧ yX3_ownerOf.cls ≠ "java/lang/invoke/VarHandle" ∧ (parseMethodDescriptor yX3_ownerOf.desc).map (fun d => d.parameters.length) = some 1 := by decide +kernel
abbrev w_X3_playIn (cy : Nat → ClassId) (A_t : Nat) (A_t_positive : Nat) (A_t_negative : Nat) (t_variables : Int32) (t_breakers : Int32) (t_clauses : Int32) (t_learned : Int32) (t_rounds : Int32) : va_W := [(A_t, .inr (3, [.int t_variables, .int t_breakers, .int t_clauses, .ref A_t_positive, .ref A_t_negative, .int t_learned, .int t_rounds]))]
def L_X3_playIn_7 (N : Nat) (t_variables : Int32) (t_breakers : Int32) (p0 : Int32) (kont : Int32 → Option (Int32)) : Nat → Int32 → Int32 → Int32 → Option (Int32)
  | 0, _, _, _ => none
  | n + 1, v2_1, v3_2, v4_3 => (if t_variables ≤ v4_3 then kont v2_1 else ob1 (F_X3_ownerOf N v4_3 t_breakers) (fun r_6 => (if r_6 = (1 : Int32) then ob1 (F_X4_bit N p0 v4_3) (fun r_9 => L_X3_playIn_7 N t_variables t_breakers p0 kont n (v2_1 ||| (r_9 <<< (v3_2 &&& 31))) (v3_2 + 1) (v4_3 + 1)) else L_X3_playIn_7 N t_variables t_breakers p0 kont n v2_1 v3_2 (v4_3 + 1))))
def F_X3_playIn (N : Nat) (p0 : Int32) (t_variables : Int32) (t_breakers : Int32) : Option (Int32) :=
  (L_X3_playIn_7 N t_variables t_breakers p0 (fun u2_4 => some u2_4) N 0 0 0)
set_option maxHeartbeats 4000000 in
set_option maxRecDepth 100000 in
theorem c_X3_playIn (l : Launch) (D : va_G) (cy : Nat → ClassId) (s0 tW N : Nat) (A_t : Nat) (A_t_positive : Nat) (A_t_negative : Nat) (p0 : Int32) (t_variables : Int32) (t_breakers : Int32) (t_clauses : Int32) (t_learned : Int32) (t_rounds : Int32) (sz : Nat) {r9 : Int32} (hF : F_X3_playIn N p0 t_variables t_breakers = some r9) : KM l D cy s0 tW yX3_playIn cX3_playIn 5 (some .int) 1 21 [.ref A_t, .int p0] sz (w_X3_playIn cy A_t A_t_positive A_t_negative t_variables t_breakers t_clauses t_learned t_rounds) (some (.int r9)) (w_X3_playIn cy A_t A_t_positive A_t_negative t_variables t_breakers t_clauses t_learned t_rounds) := by
  refine KM.intro rfl (Nat.le_of_ble_eq_true rfl) ?_
  intro p e s m args below meth c A ls hx hb hr hml hown hts hlocks hE hP hD hS hA hAs hl
  have hK := hE.1
  have hl : lv_has ls 5 [(0, .ref A_t), (1, .int p0)] := hl
  unfold F_X3_playIn at hF
  refine lv_iconst (v := 0) hx hb dX3_playIn_0 (by decide) ?_
  refine lv_istore_n (lv' := [(2, .int 0), (0, .ref A_t), (1, .int p0)]) hx hb dX3_playIn_1 rfl hl (by decide) rfl (fun ls hl => ?_)
  refine lv_iconst (v := 0) hx hb dX3_playIn_2 (by decide) ?_
  refine lv_istore_n (lv' := [(3, .int 0), (2, .int 0), (0, .ref A_t), (1, .int p0)]) hx hb dX3_playIn_3 rfl hl (by decide) rfl (fun ls hl => ?_)
  refine lv_iconst (v := 0) hx hb dX3_playIn_4 (by decide) ?_
  refine lv_istore (lv' := [(4, .int 0), (3, .int 0), (2, .int 0), (0, .ref A_t), (1, .int p0)]) hx hb dX3_playIn_5 hl (by decide) rfl (fun ls hl => ?_)
  have hloop_7 : ∀ (kont : Int32 → Option (Int32)), (∀ (u2_4 : Int32) (H : Heap) (locs : List Loc) (ls : Array Slot), kont u2_4 = some r9 → va_P D vwCl (w_X3_playIn cy A_t A_t_positive A_t_negative t_variables t_breakers t_clauses t_learned t_rounds) H → va_D A (w_X3_playIn cy A_t A_t_positive A_t_negative t_variables t_breakers t_clauses t_learned t_rounds) → va_S A s.heap H locs → lv_has ls 5 [(2, .int u2_4)] → W p l e (rmK 1 21) s m args below meth c H locs 0 0 (MQ below (kQ (some (.int r9)) D A (w_X3_playIn cy A_t A_t_positive A_t_negative t_variables t_breakers t_clauses t_learned t_rounds)) args s 0 0 A) (F0 m 46 ls [])) → ∀ (n : Nat) (v2_1 : Int32) (v3_2 : Int32) (v4_3 : Int32) (H : Heap) (locs : List Loc) (ls : Array Slot), L_X3_playIn_7 N t_variables t_breakers p0 kont n v2_1 v3_2 v4_3 = some r9 → va_P D vwCl (w_X3_playIn cy A_t A_t_positive A_t_negative t_variables t_breakers t_clauses t_learned t_rounds) H → va_D A (w_X3_playIn cy A_t A_t_positive A_t_negative t_variables t_breakers t_clauses t_learned t_rounds) → va_S A s.heap H locs → lv_has ls 5 [(0, .ref A_t), (1, .int p0), (2, .int v2_1), (3, .int v3_2), (4, .int v4_3)] → W p l e (rmK 1 21) s m args below meth c H locs 0 0 (MQ below (kQ (some (.int r9)) D A (w_X3_playIn cy A_t A_t_positive A_t_negative t_variables t_breakers t_clauses t_learned t_rounds)) args s 0 0 A) (F0 m 7 ls []) := by
    intro kont hexit_7 n
    induction n with
    | zero =>
      intro v2_1 v3_2 v4_3 H locs ls hF
      rw [L_X3_playIn_7] at hF
      cases hF
    | succ n ih =>
      intro v2_1 v3_2 v4_3 H locs ls hF hP hD hS hl
      rw [L_X3_playIn_7] at hF
      refine lv_iload hx hb dX3_playIn_7 (lv_at hl 4 rfl) ?_
      refine lv_aload_n hx hb dX3_playIn_9 rfl (lv_at hl 0 rfl) ?_
      refine va_get (D := D) (ci := 3) (v := .int t_variables) (C := RX3) (T := TX3) (N := 7) hx hb hts inX3 hown hK hP 0 rfl rfl 0 (by decide) (hts _ q_110) (fun _ h9 => h9) rfl dX3_playIn_10 ?_
      refine lv_icmp_ge (tgt := 46) hx hb dX3_playIn_13 (by decide) (fun c_5 => ?_) (fun c_5 => ?_)
      · replace hF := ite_t c_5 hF
        exact hexit_7 v2_1 H locs ls hF hP hD hS (lv_sub hl [2] rfl)
      · replace hF := ite_f c_5 hF
        refine lv_aload_n hx hb dX3_playIn_16 rfl (lv_at hl 0 rfl) ?_
        refine lv_iload hx hb dX3_playIn_17 (lv_at hl 4 rfl) ?_
        obtain ⟨r_6, hF_7, hF⟩ := ob1_some hF
        refine kcV (q := (RX3, TX3, 7)) (ci := 3) (q0 := 0) (As := [.int v4_3]) (rest := []) (wr := []) (wsN := (w_X3_playIn cy A_t A_t_positive A_t_negative t_variables t_breakers t_clauses t_learned t_rounds)) ⟨hx, hb, hml, hown, hts⟩ hE hP hD hS hA hAs [0] [] [0] (c_X3_ownerOf l D cy s0 tW N A_t A_t_positive A_t_negative v4_3 t_variables t_breakers t_clauses t_learned t_rounds _ hF_7) (gV q_288 q_290 q_9 q_84 q_291) hd_X3_ownerOf ⟨Nat.le_of_ble_eq_true rfl, Nat.le_of_ble_eq_true rfl⟩ rfl rfl rfl rfl rfl rfl rfl rfl rfl hl.1 rfl (Nat.le_of_ble_eq_true rfl) dX3_playIn_19 ⟨Nat.zero_le _, Nat.zero_le _⟩ (fun H locs hP hD hS => ?_)
        refine W.eq (g2 := F0 m 22 ls [.int r_6]) rfl ?_
        refine lv_iconst (v := 1) hx hb dX3_playIn_22 (by decide) ?_
        refine lv_icmp_ne (tgt := 40) hx hb dX3_playIn_23 (by decide) (fun c_8 => ?_) (fun c_8 => ?_)
        · replace hF := ite_f c_8 hF
          refine lv_iinc (v := (v4_3 + 1)) (lv' := [(4, .int (v4_3 + 1)), (0, .ref A_t), (1, .int p0), (2, .int v2_1), (3, .int v3_2)]) hx hb dX3_playIn_40 hl (k := 4) rfl (by first | rfl | decide) (by decide) rfl (fun ls hl => ?_)
          refine lv_goto (tgt := 7) hx hb dX3_playIn_43 (by decide) ?_
          exact ih v2_1 v3_2 (v4_3 + 1) H locs ls hF hP hD hS (lv_sub hl [1, 2, 3, 4, 0] rfl)
        · replace hF := ite_t c_8 hF
          refine lv_iload_n hx hb dX3_playIn_26 rfl (lv_at hl 2 rfl) ?_
          refine lv_iload_n hx hb dX3_playIn_27 rfl (lv_at hl 1 rfl) ?_
          refine lv_iload hx hb dX3_playIn_28 (lv_at hl 4 rfl) ?_
          obtain ⟨r_9, hF_10, hF⟩ := ob1_some hF
          refine kcSN (As := [.int p0, .int v4_3]) (rest := [.int v2_1]) (wr := [(A_t, .inr (3, [.int t_variables, .int t_breakers, .int t_clauses, .ref A_t_positive, .ref A_t_negative, .int t_learned, .int t_rounds]))]) (wsN := (w_X3_playIn cy A_t A_t_positive A_t_negative t_variables t_breakers t_clauses t_learned t_rounds)) ⟨hx, hb, hml, hown, hts⟩ hE hP hD hS hA hAs [] [0] [0] (c_X4_bit l D cy s0 tW N p0 v4_3 _ hF_10) q_294 q_83 q_293 (nq_292 hE.2.1) hd_X4_bit.2 ⟨Nat.le_of_ble_eq_true rfl, Nat.le_of_ble_eq_true rfl⟩ rfl rfl rfl rfl rfl rfl rfl hl.1 rfl (Nat.le_of_ble_eq_true rfl) dX3_playIn_30 ⟨Nat.zero_le _, Nat.zero_le _⟩ (fun H locs hP hD hS => ?_)
          refine W.eq (g2 := F0 m 33 ls [.int r_9, .int v2_1]) rfl ?_
          refine lv_iload_n hx hb dX3_playIn_33 rfl (lv_at hl 3 rfl) ?_
          refine lv_ishl hx hb dX3_playIn_34 ?_
          refine lv_ior hx hb dX3_playIn_35 ?_
          refine lv_istore_n (lv' := [(2, .int (v2_1 ||| (r_9 <<< (v3_2 &&& 31)))), (0, .ref A_t), (1, .int p0), (3, .int v3_2), (4, .int v4_3)]) hx hb dX3_playIn_36 rfl hl (by decide) rfl (fun ls hl => ?_)
          refine lv_iinc (v := (v3_2 + 1)) (lv' := [(3, .int (v3_2 + 1)), (2, .int (v2_1 ||| (r_9 <<< (v3_2 &&& 31)))), (0, .ref A_t), (1, .int p0), (4, .int v4_3)]) hx hb dX3_playIn_37 hl (k := 3) rfl (by first | rfl | decide) (by decide) rfl (fun ls hl => ?_)
          refine lv_iinc (v := (v4_3 + 1)) (lv' := [(4, .int (v4_3 + 1)), (3, .int (v3_2 + 1)), (2, .int (v2_1 ||| (r_9 <<< (v3_2 &&& 31)))), (0, .ref A_t), (1, .int p0)]) hx hb dX3_playIn_40 hl (k := 4) rfl (by first | rfl | decide) (by decide) rfl (fun ls hl => ?_)
          refine lv_goto (tgt := 7) hx hb dX3_playIn_43 (by decide) ?_
          exact ih (v2_1 ||| (r_9 <<< (v3_2 &&& 31))) (v3_2 + 1) (v4_3 + 1) H locs ls hF hP hD hS (lv_sub hl [3, 4, 2, 1, 0] rfl)
  refine hloop_7 _ (fun u2_4 H locs ls hF hP hD hS hl => ?_) N 0 0 0 _ _ ls hF hP hD hS (lv_sub hl [3, 4, 2, 1, 0] rfl)
  refine lv_iload_n hx hb dX3_playIn_46 rfl (lv_at hl 0 rfl) ?_
  cases hF
  exact kret_i hx hb hr hlocks hP hD hS dX3_playIn_47

abbrev w_X3_copyFrom (cy : Nat → ClassId) (A_t : Nat) (A_t_positive : Nat) (A_t_negative : Nat) (A_p0 : Nat) (A_p0_positive : Nat) (A_p0_negative : Nat) (t_variables : Int32) (t_breakers : Int32) (t_clauses : Int32) (t_learned : Int32) (t_rounds : Int32) (t_positive : Nat → Int32) (t_negative : Nat → Int32) (p0_variables : Int32) (p0_breakers : Int32) (p0_clauses : Int32) (p0_learned : Int32) (p0_rounds : Int32) (p0_positive : Nat → Int32) (p0_negative : Nat → Int32) : va_W := [(A_t, .inr (3, [.int t_variables, .int t_breakers, .int t_clauses, .ref A_t_positive, .ref A_t_negative, .int t_learned, .int t_rounds])), (A_t_positive, .inl (cy 0, 20, .inl t_positive)), (A_t_negative, .inl (cy 0, 20, .inl t_negative)), (A_p0, .inr (3, [.int p0_variables, .int p0_breakers, .int p0_clauses, .ref A_p0_positive, .ref A_p0_negative, .int p0_learned, .int p0_rounds])), (A_p0_positive, .inl (cy 0, 20, .inl p0_positive)), (A_p0_negative, .inl (cy 0, 20, .inl p0_negative))]
def L_X3_copyFrom_26 (N : Nat) (p0_clauses : Int32) (p0_positive : Nat → Int32) (p0_negative : Nat → Int32) (kont : (Nat → Int32) → (Nat → Int32) → Option (Int32 × Int32 × Int32 × (Nat → Int32) × (Nat → Int32) × Int32 × Int32)) : Nat → Int32 → (Nat → Int32) → (Nat → Int32) → Option (Int32 × Int32 × Int32 × (Nat → Int32) × (Nat → Int32) × Int32 × Int32)
  | 0, _, _, _ => none
  | n + 1, v2_1, t_positive_2, t_negative_3 => (if p0_clauses ≤ v2_1 then kont t_positive_2 t_negative_3 else ob1 (F_X4_read N 20 v2_1 p0_positive) (fun r_7 => ob1 (F_X4_write N 20 v2_1 r_7 t_positive_2) (fun t_positive_9 => ob1 (F_X4_read N 20 v2_1 p0_negative) (fun r_11 => ob1 (F_X4_write N 20 v2_1 r_11 t_negative_3) (fun t_negative_13 => L_X3_copyFrom_26 N p0_clauses p0_positive p0_negative kont n (v2_1 + 1) t_positive_9 t_negative_13)))))
def F_X3_copyFrom (N : Nat) (t_variables : Int32) (t_breakers : Int32) (t_clauses : Int32) (t_positive : Nat → Int32) (t_negative : Nat → Int32) (t_learned : Int32) (t_rounds : Int32) (p0_variables : Int32) (p0_breakers : Int32) (p0_clauses : Int32) (p0_positive : Nat → Int32) (p0_negative : Nat → Int32) (p0_learned : Int32) (p0_rounds : Int32) : Option (Int32 × Int32 × Int32 × (Nat → Int32) × (Nat → Int32) × Int32 × Int32) :=
  (L_X3_copyFrom_26 N p0_clauses p0_positive p0_negative (fun t_positive_4 t_negative_5 => some (p0_variables, p0_breakers, p0_clauses, t_positive_4, t_negative_5, p0_learned, p0_rounds)) N 0 t_positive t_negative)
set_option maxHeartbeats 4000000 in
set_option maxRecDepth 100000 in
theorem c_X3_copyFrom (l : Launch) (D : va_G) (cy : Nat → ClassId) (s0 tW N : Nat) (A_t : Nat) (A_t_positive : Nat) (A_t_negative : Nat) (A_p0 : Nat) (A_p0_positive : Nat) (A_p0_negative : Nat) (t_variables : Int32) (t_breakers : Int32) (t_clauses : Int32) (t_learned : Int32) (t_rounds : Int32) (t_positive : Nat → Int32) (t_negative : Nat → Int32) (p0_variables : Int32) (p0_breakers : Int32) (p0_clauses : Int32) (p0_learned : Int32) (p0_rounds : Int32) (p0_positive : Nat → Int32) (p0_negative : Nat → Int32) (sz : Nat) {t_variables9 : Int32} {t_breakers9 : Int32} {t_clauses9 : Int32} {t_positive9 : Nat → Int32} {t_negative9 : Nat → Int32} {t_learned9 : Int32} {t_rounds9 : Int32} (hF : F_X3_copyFrom N t_variables t_breakers t_clauses t_positive t_negative t_learned t_rounds p0_variables p0_breakers p0_clauses p0_positive p0_negative p0_learned p0_rounds = some (t_variables9, t_breakers9, t_clauses9, t_positive9, t_negative9, t_learned9, t_rounds9)) : KM l D cy s0 tW yX3_copyFrom cX3_copyFrom 3 none 1 22 [.ref A_t, .ref A_p0] sz (w_X3_copyFrom cy A_t A_t_positive A_t_negative A_p0 A_p0_positive A_p0_negative t_variables t_breakers t_clauses t_learned t_rounds t_positive t_negative p0_variables p0_breakers p0_clauses p0_learned p0_rounds p0_positive p0_negative) none (w_X3_copyFrom cy A_t A_t_positive A_t_negative A_p0 A_p0_positive A_p0_negative t_variables9 t_breakers9 t_clauses9 t_learned9 t_rounds9 t_positive9 t_negative9 p0_variables p0_breakers p0_clauses p0_learned p0_rounds p0_positive p0_negative) := by
  refine KM.intro rfl (Nat.le_of_ble_eq_true rfl) ?_
  intro p e s m args below meth c A ls hx hb hr hml hown hts hlocks hE hP hD hS hA hAs hl
  have hK := hE.1
  have hl : lv_has ls 3 [(0, .ref A_t), (1, .ref A_p0)] := hl
  unfold F_X3_copyFrom at hF
  refine lv_aload_n hx hb dX3_copyFrom_0 rfl (lv_at hl 0 rfl) ?_
  refine lv_aload_n hx hb dX3_copyFrom_1 rfl (lv_at hl 1 rfl) ?_
  refine va_get (D := D) (ci := 3) (v := .int p0_variables) (C := RX3) (T := TX3) (N := 7) hx hb hts inX3 hown hK hP 3 rfl rfl 0 (by decide) (hts _ q_110) (fun _ h9 => h9) rfl dX3_copyFrom_2 ?_
  refine ka_put (ci := 3) (v := .int p0_variables) (ty := .int) (C := RX3) (T := TX3) (N := 7) (wsN := (w_X3_copyFrom cy A_t A_t_positive A_t_negative A_p0 A_p0_positive A_p0_negative p0_variables t_breakers t_clauses t_learned t_rounds t_positive t_negative p0_variables p0_breakers p0_clauses p0_learned p0_rounds p0_positive p0_negative)) hx hb hts inX3 tyX3 tyX3_ok nmX3 hown hK hP hD hS 0 rfl rfl 0 (by decide) (hts _ q_110) (fun _ h9 => h9) rfl (by decide +kernel) rfl rfl (Nat.le_of_ble_eq_true rfl) rfl dX3_copyFrom_5 (fun H locs hP hD hS => ?_)
  refine lv_aload_n hx hb dX3_copyFrom_8 rfl (lv_at hl 0 rfl) ?_
  refine lv_aload_n hx hb dX3_copyFrom_9 rfl (lv_at hl 1 rfl) ?_
  refine va_get (D := D) (ci := 3) (v := .int p0_breakers) (C := RX3) (T := TX3) (N := 7) hx hb hts inX3 hown hK hP 3 rfl rfl 1 (by decide) (hts _ q_113) (fun _ h9 => h9) rfl dX3_copyFrom_10 ?_
  refine ka_put (ci := 3) (v := .int p0_breakers) (ty := .int) (C := RX3) (T := TX3) (N := 7) (wsN := (w_X3_copyFrom cy A_t A_t_positive A_t_negative A_p0 A_p0_positive A_p0_negative p0_variables p0_breakers t_clauses t_learned t_rounds t_positive t_negative p0_variables p0_breakers p0_clauses p0_learned p0_rounds p0_positive p0_negative)) hx hb hts inX3 tyX3 tyX3_ok nmX3 hown hK hP hD hS 0 rfl rfl 1 (by decide) (hts _ q_113) (fun _ h9 => h9) rfl (by decide +kernel) rfl rfl (Nat.le_of_ble_eq_true rfl) rfl dX3_copyFrom_13 (fun H locs hP hD hS => ?_)
  refine lv_aload_n hx hb dX3_copyFrom_16 rfl (lv_at hl 0 rfl) ?_
  refine lv_aload_n hx hb dX3_copyFrom_17 rfl (lv_at hl 1 rfl) ?_
  refine va_get (D := D) (ci := 3) (v := .int p0_clauses) (C := RX3) (T := TX3) (N := 7) hx hb hts inX3 hown hK hP 3 rfl rfl 2 (by decide) (hts _ q_115) (fun _ h9 => h9) rfl dX3_copyFrom_18 ?_
  refine ka_put (ci := 3) (v := .int p0_clauses) (ty := .int) (C := RX3) (T := TX3) (N := 7) (wsN := (w_X3_copyFrom cy A_t A_t_positive A_t_negative A_p0 A_p0_positive A_p0_negative p0_variables p0_breakers p0_clauses t_learned t_rounds t_positive t_negative p0_variables p0_breakers p0_clauses p0_learned p0_rounds p0_positive p0_negative)) hx hb hts inX3 tyX3 tyX3_ok nmX3 hown hK hP hD hS 0 rfl rfl 2 (by decide) (hts _ q_115) (fun _ h9 => h9) rfl (by decide +kernel) rfl rfl (Nat.le_of_ble_eq_true rfl) rfl dX3_copyFrom_21 (fun H locs hP hD hS => ?_)
  refine lv_iconst (v := 0) hx hb dX3_copyFrom_24 (by decide) ?_
  refine lv_istore_n (lv' := [(2, .int 0), (0, .ref A_t), (1, .ref A_p0)]) hx hb dX3_copyFrom_25 rfl hl (by decide) rfl (fun ls hl => ?_)
  have hloop_26 : ∀ (kont : (Nat → Int32) → (Nat → Int32) → Option (Int32 × Int32 × Int32 × (Nat → Int32) × (Nat → Int32) × Int32 × Int32)), (∀ (t_positive_4 : Nat → Int32) (t_negative_5 : Nat → Int32) (H : Heap) (locs : List Loc) (ls : Array Slot), kont t_positive_4 t_negative_5 = some (t_variables9, t_breakers9, t_clauses9, t_positive9, t_negative9, t_learned9, t_rounds9) → va_P D vwCl (w_X3_copyFrom cy A_t A_t_positive A_t_negative A_p0 A_p0_positive A_p0_negative p0_variables p0_breakers p0_clauses t_learned t_rounds t_positive_4 t_negative_5 p0_variables p0_breakers p0_clauses p0_learned p0_rounds p0_positive p0_negative) H → va_D A (w_X3_copyFrom cy A_t A_t_positive A_t_negative A_p0 A_p0_positive A_p0_negative p0_variables p0_breakers p0_clauses t_learned t_rounds t_positive_4 t_negative_5 p0_variables p0_breakers p0_clauses p0_learned p0_rounds p0_positive p0_negative) → va_S A s.heap H locs → lv_has ls 3 [(0, .ref A_t), (1, .ref A_p0)] → W p l e (rmK 1 22) s m args below meth c H locs 0 0 (MQ below (kQ none D A (w_X3_copyFrom cy A_t A_t_positive A_t_negative A_p0 A_p0_positive A_p0_negative t_variables9 t_breakers9 t_clauses9 t_learned9 t_rounds9 t_positive9 t_negative9 p0_variables p0_breakers p0_clauses p0_learned p0_rounds p0_positive p0_negative)) args s 0 0 A) (F0 m 72 ls [])) → ∀ (n : Nat) (v2_1 : Int32) (t_positive_2 : Nat → Int32) (t_negative_3 : Nat → Int32) (H : Heap) (locs : List Loc) (ls : Array Slot), L_X3_copyFrom_26 N p0_clauses p0_positive p0_negative kont n v2_1 t_positive_2 t_negative_3 = some (t_variables9, t_breakers9, t_clauses9, t_positive9, t_negative9, t_learned9, t_rounds9) → va_P D vwCl (w_X3_copyFrom cy A_t A_t_positive A_t_negative A_p0 A_p0_positive A_p0_negative p0_variables p0_breakers p0_clauses t_learned t_rounds t_positive_2 t_negative_3 p0_variables p0_breakers p0_clauses p0_learned p0_rounds p0_positive p0_negative) H → va_D A (w_X3_copyFrom cy A_t A_t_positive A_t_negative A_p0 A_p0_positive A_p0_negative p0_variables p0_breakers p0_clauses t_learned t_rounds t_positive_2 t_negative_3 p0_variables p0_breakers p0_clauses p0_learned p0_rounds p0_positive p0_negative) → va_S A s.heap H locs → lv_has ls 3 [(0, .ref A_t), (1, .ref A_p0), (2, .int v2_1)] → W p l e (rmK 1 22) s m args below meth c H locs 0 0 (MQ below (kQ none D A (w_X3_copyFrom cy A_t A_t_positive A_t_negative A_p0 A_p0_positive A_p0_negative t_variables9 t_breakers9 t_clauses9 t_learned9 t_rounds9 t_positive9 t_negative9 p0_variables p0_breakers p0_clauses p0_learned p0_rounds p0_positive p0_negative)) args s 0 0 A) (F0 m 26 ls []) := by
    intro kont hexit_26 n
    induction n with
    | zero =>
      intro v2_1 t_positive_2 t_negative_3 H locs ls hF
      rw [L_X3_copyFrom_26] at hF
      cases hF
    | succ n ih =>
      intro v2_1 t_positive_2 t_negative_3 H locs ls hF hP hD hS hl
      rw [L_X3_copyFrom_26] at hF
      refine lv_iload_n hx hb dX3_copyFrom_26 rfl (lv_at hl 2 rfl) ?_
      refine lv_aload_n hx hb dX3_copyFrom_27 rfl (lv_at hl 0 rfl) ?_
      refine va_get (D := D) (ci := 3) (v := .int p0_clauses) (C := RX3) (T := TX3) (N := 7) hx hb hts inX3 hown hK hP 0 rfl rfl 2 (by decide) (hts _ q_115) (fun _ h9 => h9) rfl dX3_copyFrom_28 ?_
      refine lv_icmp_ge (tgt := 72) hx hb dX3_copyFrom_31 (by decide) (fun c_6 => ?_) (fun c_6 => ?_)
      · replace hF := ite_t c_6 hF
        exact hexit_26 t_positive_2 t_negative_3 H locs ls hF hP hD hS (lv_sub hl [0, 1] rfl)
      · replace hF := ite_f c_6 hF
        refine lv_aload_n hx hb dX3_copyFrom_34 rfl (lv_at hl 0 rfl) ?_
        refine va_get (D := D) (ci := 3) (v := .ref A_t_positive) (C := RX3) (T := TX3) (N := 7) hx hb hts inX3 hown hK hP 0 rfl rfl 3 (by decide) (hts _ q_117) (fun _ h9 => h9) rfl dX3_copyFrom_35 ?_
        refine lv_iload_n hx hb dX3_copyFrom_38 rfl (lv_at hl 2 rfl) ?_
        refine lv_aload_n hx hb dX3_copyFrom_39 rfl (lv_at hl 1 rfl) ?_
        refine va_get (D := D) (ci := 3) (v := .ref A_p0_positive) (C := RX3) (T := TX3) (N := 7) hx hb hts inX3 hown hK hP 3 rfl rfl 3 (by decide) (hts _ q_117) (fun _ h9 => h9) rfl dX3_copyFrom_40 ?_
        refine lv_iload_n hx hb dX3_copyFrom_43 rfl (lv_at hl 2 rfl) ?_
        obtain ⟨r_7, hF_8, hF⟩ := ob1_some hF
        refine kcSN (As := [.ref A_p0_positive, .int v2_1]) (rest := [.int v2_1, .ref A_t_positive]) (wr := [(A_t, .inr (3, [.int p0_variables, .int p0_breakers, .int p0_clauses, .ref A_t_positive, .ref A_t_negative, .int t_learned, .int t_rounds])), (A_t_positive, .inl (cy 0, 20, .inl t_positive_2)), (A_t_negative, .inl (cy 0, 20, .inl t_negative_3)), (A_p0, .inr (3, [.int p0_variables, .int p0_breakers, .int p0_clauses, .ref A_p0_positive, .ref A_p0_negative, .int p0_learned, .int p0_rounds])), (A_p0_negative, .inl (cy 0, 20, .inl p0_negative))]) (wsN := (w_X3_copyFrom cy A_t A_t_positive A_t_negative A_p0 A_p0_positive A_p0_negative p0_variables p0_breakers p0_clauses t_learned t_rounds t_positive_2 t_negative_3 p0_variables p0_breakers p0_clauses p0_learned p0_rounds p0_positive p0_negative)) ⟨hx, hb, hml, hown, hts⟩ hE hP hD hS hA hAs [4] [0, 1, 2, 3, 5] [0, 1, 2, 3, 5, 4] (c_X4_read l D cy s0 tW N A_p0_positive 20 v2_1 p0_positive _ hF_8) q_243 q_83 q_242 (nq_241 hE.2.1) hd_X4_read.2 ⟨Nat.le_of_ble_eq_true rfl, Nat.le_of_ble_eq_true rfl⟩ rfl rfl rfl rfl rfl rfl rfl hl.1 rfl (Nat.le_of_ble_eq_true rfl) dX3_copyFrom_44 ⟨Nat.zero_le _, Nat.zero_le _⟩ (fun H locs hP hD hS => ?_)
        refine W.eq (g2 := F0 m 47 ls [.int r_7, .int v2_1, .ref A_t_positive]) rfl ?_
        obtain ⟨t_positive_9, hF_10, hF⟩ := ob1_some hF
        refine kcSN (As := [.ref A_t_positive, .int v2_1, .int r_7]) (rest := []) (wr := [(A_t, .inr (3, [.int p0_variables, .int p0_breakers, .int p0_clauses, .ref A_t_positive, .ref A_t_negative, .int t_learned, .int t_rounds])), (A_t_negative, .inl (cy 0, 20, .inl t_negative_3)), (A_p0, .inr (3, [.int p0_variables, .int p0_breakers, .int p0_clauses, .ref A_p0_positive, .ref A_p0_negative, .int p0_learned, .int p0_rounds])), (A_p0_positive, .inl (cy 0, 20, .inl p0_positive)), (A_p0_negative, .inl (cy 0, 20, .inl p0_negative))]) (wsN := (w_X3_copyFrom cy A_t A_t_positive A_t_negative A_p0 A_p0_positive A_p0_negative p0_variables p0_breakers p0_clauses t_learned t_rounds t_positive_9 t_negative_3 p0_variables p0_breakers p0_clauses p0_learned p0_rounds p0_positive p0_negative)) ⟨hx, hb, hml, hown, hts⟩ hE hP hD hS hA hAs [1] [0, 2, 3, 4, 5] [0, 5, 1, 2, 3, 4] (c_X4_write l D cy s0 tW N A_t_positive 20 v2_1 r_7 t_positive_2 _ hF_10) q_246 q_83 q_245 (nq_244 hE.2.1) hd_X4_write.2 ⟨Nat.le_of_ble_eq_true rfl, Nat.le_of_ble_eq_true rfl⟩ rfl rfl rfl rfl rfl rfl rfl hl.1 rfl (Nat.le_of_ble_eq_true rfl) dX3_copyFrom_47 ⟨Nat.zero_le _, Nat.zero_le _⟩ (fun H locs hP hD hS => ?_)
        refine W.eq (g2 := F0 m 50 ls []) rfl ?_
        refine lv_aload_n hx hb dX3_copyFrom_50 rfl (lv_at hl 0 rfl) ?_
        refine va_get (D := D) (ci := 3) (v := .ref A_t_negative) (C := RX3) (T := TX3) (N := 7) hx hb hts inX3 hown hK hP 0 rfl rfl 4 (by decide) (hts _ q_119) (fun _ h9 => h9) rfl dX3_copyFrom_51 ?_
        refine lv_iload_n hx hb dX3_copyFrom_54 rfl (lv_at hl 2 rfl) ?_
        refine lv_aload_n hx hb dX3_copyFrom_55 rfl (lv_at hl 1 rfl) ?_
        refine va_get (D := D) (ci := 3) (v := .ref A_p0_negative) (C := RX3) (T := TX3) (N := 7) hx hb hts inX3 hown hK hP 3 rfl rfl 4 (by decide) (hts _ q_119) (fun _ h9 => h9) rfl dX3_copyFrom_56 ?_
        refine lv_iload_n hx hb dX3_copyFrom_59 rfl (lv_at hl 2 rfl) ?_
        obtain ⟨r_11, hF_12, hF⟩ := ob1_some hF
        refine kcSN (As := [.ref A_p0_negative, .int v2_1]) (rest := [.int v2_1, .ref A_t_negative]) (wr := [(A_t, .inr (3, [.int p0_variables, .int p0_breakers, .int p0_clauses, .ref A_t_positive, .ref A_t_negative, .int t_learned, .int t_rounds])), (A_t_positive, .inl (cy 0, 20, .inl t_positive_9)), (A_t_negative, .inl (cy 0, 20, .inl t_negative_3)), (A_p0, .inr (3, [.int p0_variables, .int p0_breakers, .int p0_clauses, .ref A_p0_positive, .ref A_p0_negative, .int p0_learned, .int p0_rounds])), (A_p0_positive, .inl (cy 0, 20, .inl p0_positive))]) (wsN := (w_X3_copyFrom cy A_t A_t_positive A_t_negative A_p0 A_p0_positive A_p0_negative p0_variables p0_breakers p0_clauses t_learned t_rounds t_positive_9 t_negative_3 p0_variables p0_breakers p0_clauses p0_learned p0_rounds p0_positive p0_negative)) ⟨hx, hb, hml, hown, hts⟩ hE hP hD hS hA hAs [5] [0, 1, 2, 3, 4] [0, 1, 2, 3, 4, 5] (c_X4_read l D cy s0 tW N A_p0_negative 20 v2_1 p0_negative _ hF_12) q_243 q_83 q_242 (nq_241 hE.2.1) hd_X4_read.2 ⟨Nat.le_of_ble_eq_true rfl, Nat.le_of_ble_eq_true rfl⟩ rfl rfl rfl rfl rfl rfl rfl hl.1 rfl (Nat.le_of_ble_eq_true rfl) dX3_copyFrom_60 ⟨Nat.zero_le _, Nat.zero_le _⟩ (fun H locs hP hD hS => ?_)
        refine W.eq (g2 := F0 m 63 ls [.int r_11, .int v2_1, .ref A_t_negative]) rfl ?_
        obtain ⟨t_negative_13, hF_14, hF⟩ := ob1_some hF
        refine kcSN (As := [.ref A_t_negative, .int v2_1, .int r_11]) (rest := []) (wr := [(A_t, .inr (3, [.int p0_variables, .int p0_breakers, .int p0_clauses, .ref A_t_positive, .ref A_t_negative, .int t_learned, .int t_rounds])), (A_t_positive, .inl (cy 0, 20, .inl t_positive_9)), (A_p0, .inr (3, [.int p0_variables, .int p0_breakers, .int p0_clauses, .ref A_p0_positive, .ref A_p0_negative, .int p0_learned, .int p0_rounds])), (A_p0_positive, .inl (cy 0, 20, .inl p0_positive)), (A_p0_negative, .inl (cy 0, 20, .inl p0_negative))]) (wsN := (w_X3_copyFrom cy A_t A_t_positive A_t_negative A_p0 A_p0_positive A_p0_negative p0_variables p0_breakers p0_clauses t_learned t_rounds t_positive_9 t_negative_13 p0_variables p0_breakers p0_clauses p0_learned p0_rounds p0_positive p0_negative)) ⟨hx, hb, hml, hown, hts⟩ hE hP hD hS hA hAs [2] [0, 1, 3, 4, 5] [0, 1, 5, 2, 3, 4] (c_X4_write l D cy s0 tW N A_t_negative 20 v2_1 r_11 t_negative_3 _ hF_14) q_246 q_83 q_245 (nq_244 hE.2.1) hd_X4_write.2 ⟨Nat.le_of_ble_eq_true rfl, Nat.le_of_ble_eq_true rfl⟩ rfl rfl rfl rfl rfl rfl rfl hl.1 rfl (Nat.le_of_ble_eq_true rfl) dX3_copyFrom_63 ⟨Nat.zero_le _, Nat.zero_le _⟩ (fun H locs hP hD hS => ?_)
        refine W.eq (g2 := F0 m 66 ls []) rfl ?_
        refine lv_iinc (v := (v2_1 + 1)) (lv' := [(2, .int (v2_1 + 1)), (0, .ref A_t), (1, .ref A_p0)]) hx hb dX3_copyFrom_66 hl (k := 2) rfl (by first | rfl | decide) (by decide) rfl (fun ls hl => ?_)
        refine lv_goto (tgt := 26) hx hb dX3_copyFrom_69 (by decide) ?_
        exact ih (v2_1 + 1) t_positive_9 t_negative_13 H locs ls hF hP hD hS (lv_sub hl [1, 2, 0] rfl)
  refine hloop_26 _ (fun t_positive_4 t_negative_5 H locs ls hF hP hD hS hl => ?_) N 0 t_positive t_negative _ _ ls hF hP hD hS (lv_sub hl [1, 2, 0] rfl)
  refine lv_aload_n hx hb dX3_copyFrom_72 rfl (lv_at hl 0 rfl) ?_
  refine lv_aload_n hx hb dX3_copyFrom_73 rfl (lv_at hl 1 rfl) ?_
  refine va_get (D := D) (ci := 3) (v := .int p0_learned) (C := RX3) (T := TX3) (N := 7) hx hb hts inX3 hown hK hP 3 rfl rfl 5 (by decide) (hts _ q_121) (fun _ h9 => h9) rfl dX3_copyFrom_74 ?_
  refine ka_put (ci := 3) (v := .int p0_learned) (ty := .int) (C := RX3) (T := TX3) (N := 7) (wsN := (w_X3_copyFrom cy A_t A_t_positive A_t_negative A_p0 A_p0_positive A_p0_negative p0_variables p0_breakers p0_clauses p0_learned t_rounds t_positive_4 t_negative_5 p0_variables p0_breakers p0_clauses p0_learned p0_rounds p0_positive p0_negative)) hx hb hts inX3 tyX3 tyX3_ok nmX3 hown hK hP hD hS 0 rfl rfl 5 (by decide) (hts _ q_121) (fun _ h9 => h9) rfl (by decide +kernel) rfl rfl (Nat.le_of_ble_eq_true rfl) rfl dX3_copyFrom_77 (fun H locs hP hD hS => ?_)
  refine lv_aload_n hx hb dX3_copyFrom_80 rfl (lv_at hl 0 rfl) ?_
  refine lv_aload_n hx hb dX3_copyFrom_81 rfl (lv_at hl 1 rfl) ?_
  refine va_get (D := D) (ci := 3) (v := .int p0_rounds) (C := RX3) (T := TX3) (N := 7) hx hb hts inX3 hown hK hP 3 rfl rfl 6 (by decide) (hts _ q_123) (fun _ h9 => h9) rfl dX3_copyFrom_82 ?_
  refine ka_put (ci := 3) (v := .int p0_rounds) (ty := .int) (C := RX3) (T := TX3) (N := 7) (wsN := (w_X3_copyFrom cy A_t A_t_positive A_t_negative A_p0 A_p0_positive A_p0_negative p0_variables p0_breakers p0_clauses p0_learned p0_rounds t_positive_4 t_negative_5 p0_variables p0_breakers p0_clauses p0_learned p0_rounds p0_positive p0_negative)) hx hb hts inX3 tyX3 tyX3_ok nmX3 hown hK hP hD hS 0 rfl rfl 6 (by decide) (hts _ q_123) (fun _ h9 => h9) rfl (by decide +kernel) rfl rfl (Nat.le_of_ble_eq_true rfl) rfl dX3_copyFrom_85 (fun H locs hP hD hS => ?_)
  cases hF
  exact kret_v hx hb hr hlocks hP hD hS dX3_copyFrom_88
end
section
theorem i_vc : Claimed_1_1 ∧ Claimed_1_2 := sorry
end
