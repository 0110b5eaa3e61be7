section
-- ===== PART A: goes FIRST, ahead of the names: the tables' words, and 'selects' of the private methods out of them =====
/-- a private method of a class that the tables say can be made, by its rows of tables_1 -/
def lw_okq (q : MethodName × Nat) : Prop := (q.1.cls ≠ "java/lang/invoke/MethodHandle" ∧ q.1.cls ≠ "java/lang/invoke/VarHandle") ∧ Cond.instantiable q.1.cls q.2 ∈ tables_1 ∧ Cond.privateMethod q.1 ∈ tables_1 ∧ Cond.instanceMethod q.1 ∈ tables_1
theorem lw_p0 : lw_okq (⟨"ForAllGame$SavedStates", "push", "(LForAllGame$State;)V"⟩, 3) := ⟨⟨by decide +kernel, by decide +kernel⟩, List.mem_of_getElem? (i := 57) (by decide +kernel), List.mem_of_getElem? (i := 134) (by decide +kernel), List.mem_of_getElem? (i := 135) (by decide +kernel)⟩
theorem lw_p1 : lw_okq (⟨"ForAllGame$SavedStates", "slot", "(I)LForAllGame$State;"⟩, 3) := ⟨⟨by decide +kernel, by decide +kernel⟩, List.mem_of_getElem? (i := 57) (by decide +kernel), List.mem_of_getElem? (i := 138) (by decide +kernel), List.mem_of_getElem? (i := 139) (by decide +kernel)⟩
theorem lw_p2 : lw_okq (⟨"ForAllGame$State", "copyFrom", "(LForAllGame$State;)V"⟩, 7) := ⟨⟨by decide +kernel, by decide +kernel⟩, List.mem_of_getElem? (i := 22) (by decide +kernel), List.mem_of_getElem? (i := 142) (by decide +kernel), List.mem_of_getElem? (i := 143) (by decide +kernel)⟩
theorem lw_p3 : lw_okq (⟨"ForAllGame$State", "clear", "()V"⟩, 7) := ⟨⟨by decide +kernel, by decide +kernel⟩, List.mem_of_getElem? (i := 22) (by decide +kernel), List.mem_of_getElem? (i := 152) (by decide +kernel), List.mem_of_getElem? (i := 153) (by decide +kernel)⟩
theorem lw_p4 : lw_okq (⟨"ForAllGame$BeatenSets", "bringUpToDate", "(LForAllGame$State;)V"⟩, 2) := ⟨⟨by decide +kernel, by decide +kernel⟩, List.mem_of_getElem? (i := 77) (by decide +kernel), List.mem_of_getElem? (i := 160) (by decide +kernel), List.mem_of_getElem? (i := 161) (by decide +kernel)⟩
theorem lw_p5 : lw_okq (⟨"ForAllGame$BeatenSets", "setEnd", "(LForAllGame$State;I)V"⟩, 2) := ⟨⟨by decide +kernel, by decide +kernel⟩, List.mem_of_getElem? (i := 77) (by decide +kernel), List.mem_of_getElem? (i := 164) (by decide +kernel), List.mem_of_getElem? (i := 165) (by decide +kernel)⟩
theorem lw_p6 : lw_okq (⟨"ForAllGame$State", "holds", "(I)Z"⟩, 7) := ⟨⟨by decide +kernel, by decide +kernel⟩, List.mem_of_getElem? (i := 22) (by decide +kernel), List.mem_of_getElem? (i := 171) (by decide +kernel), List.mem_of_getElem? (i := 172) (by decide +kernel)⟩
theorem lw_p7 : lw_okq (⟨"ForAllGame$State", "playIn", "(I)I"⟩, 7) := ⟨⟨by decide +kernel, by decide +kernel⟩, List.mem_of_getElem? (i := 22) (by decide +kernel), List.mem_of_getElem? (i := 175) (by decide +kernel), List.mem_of_getElem? (i := 176) (by decide +kernel)⟩
theorem lw_p8 : lw_okq (⟨"ForAllGame$State", "ownerOf", "(I)I"⟩, 7) := ⟨⟨by decide +kernel, by decide +kernel⟩, List.mem_of_getElem? (i := 22) (by decide +kernel), List.mem_of_getElem? (i := 179) (by decide +kernel), List.mem_of_getElem? (i := 180) (by decide +kernel)⟩
theorem lw_p9 : lw_okq (⟨"ForAllGame$BeatenSets", "join", "(IIZ)V"⟩, 2) := ⟨⟨by decide +kernel, by decide +kernel⟩, List.mem_of_getElem? (i := 77) (by decide +kernel), List.mem_of_getElem? (i := 200) (by decide +kernel), List.mem_of_getElem? (i := 201) (by decide +kernel)⟩
theorem lw_p10 : lw_okq (⟨"ForAllGame", "winnerIn", "(II)I"⟩, 4) := ⟨⟨by decide +kernel, by decide +kernel⟩, List.mem_of_getElem? (i := 14) (by decide +kernel), List.mem_of_getElem? (i := 204) (by decide +kernel), List.mem_of_getElem? (i := 205) (by decide +kernel)⟩
theorem lw_p11 : lw_okq (⟨"ForAllGame$State", "allPlays", "()I"⟩, 7) := ⟨⟨by decide +kernel, by decide +kernel⟩, List.mem_of_getElem? (i := 22) (by decide +kernel), List.mem_of_getElem? (i := 208) (by decide +kernel), List.mem_of_getElem? (i := 209) (by decide +kernel)⟩
theorem lw_p12 : lw_okq (⟨"ForAllGame$State", "plays", "()I"⟩, 7) := ⟨⟨by decide +kernel, by decide +kernel⟩, List.mem_of_getElem? (i := 22) (by decide +kernel), List.mem_of_getElem? (i := 212) (by decide +kernel), List.mem_of_getElem? (i := 213) (by decide +kernel)⟩
theorem lw_p13 : lw_okq (⟨"ForAllGame$BeatenSets", "has", "(III)Z"⟩, 2) := ⟨⟨by decide +kernel, by decide +kernel⟩, List.mem_of_getElem? (i := 77) (by decide +kernel), List.mem_of_getElem? (i := 222) (by decide +kernel), List.mem_of_getElem? (i := 223) (by decide +kernel)⟩
theorem lw_p14 : lw_okq (⟨"ForAllGame$State", "hasRoomFor", "(Z)Z"⟩, 7) := ⟨⟨by decide +kernel, by decide +kernel⟩, List.mem_of_getElem? (i := 22) (by decide +kernel), List.mem_of_getElem? (i := 238) (by decide +kernel), List.mem_of_getElem? (i := 239) (by decide +kernel)⟩
theorem lw_p15 : lw_okq (⟨"java/lang/Throwable", "fillInStackTrace", "(I)Ljava/lang/Throwable;"⟩, 6) := ⟨⟨by decide +kernel, by decide +kernel⟩, List.mem_of_getElem? (i := 280) (by decide +kernel), List.mem_of_getElem? (i := 278) (by decide +kernel), List.mem_of_getElem? (i := 279) (by decide +kernel)⟩
def lw_privs_1 : List (MethodName × Nat) := [(⟨"ForAllGame$SavedStates", "push", "(LForAllGame$State;)V"⟩, 3), (⟨"ForAllGame$SavedStates", "slot", "(I)LForAllGame$State;"⟩, 3), (⟨"ForAllGame$State", "copyFrom", "(LForAllGame$State;)V"⟩, 7), (⟨"ForAllGame$State", "clear", "()V"⟩, 7), (⟨"ForAllGame$BeatenSets", "bringUpToDate", "(LForAllGame$State;)V"⟩, 2), (⟨"ForAllGame$BeatenSets", "setEnd", "(LForAllGame$State;I)V"⟩, 2), (⟨"ForAllGame$State", "holds", "(I)Z"⟩, 7), (⟨"ForAllGame$State", "playIn", "(I)I"⟩, 7), (⟨"ForAllGame$State", "ownerOf", "(I)I"⟩, 7), (⟨"ForAllGame$BeatenSets", "join", "(IIZ)V"⟩, 2), (⟨"ForAllGame", "winnerIn", "(II)I"⟩, 4), (⟨"ForAllGame$State", "allPlays", "()I"⟩, 7), (⟨"ForAllGame$State", "plays", "()I"⟩, 7), (⟨"ForAllGame$BeatenSets", "has", "(III)Z"⟩, 2), (⟨"ForAllGame$State", "hasRoomFor", "(Z)Z"⟩, 7), (⟨"java/lang/Throwable", "fillInStackTrace", "(I)Ljava/lang/Throwable;"⟩, 6)]
theorem lw_r1 : ∀ q ∈ lw_privs_1, lw_okq q := List.forall_mem_cons.mpr ⟨lw_p0, List.forall_mem_cons.mpr ⟨lw_p1, List.forall_mem_cons.mpr ⟨lw_p2, List.forall_mem_cons.mpr ⟨lw_p3, List.forall_mem_cons.mpr ⟨lw_p4, List.forall_mem_cons.mpr ⟨lw_p5, List.forall_mem_cons.mpr ⟨lw_p6, List.forall_mem_cons.mpr ⟨lw_p7, List.forall_mem_cons.mpr ⟨lw_p8, List.forall_mem_cons.mpr ⟨lw_p9, List.forall_mem_cons.mpr ⟨lw_p10, List.forall_mem_cons.mpr ⟨lw_p11, List.forall_mem_cons.mpr ⟨lw_p12, List.forall_mem_cons.mpr ⟨lw_p13, List.forall_mem_cons.mpr ⟨lw_p14, List.forall_mem_cons.mpr ⟨lw_p15, fun _ h => absurd h List.not_mem_nil⟩⟩⟩⟩⟩⟩⟩⟩⟩⟩⟩⟩⟩⟩⟩⟩
theorem lw_p16 : lw_okq (⟨"ForAllGame", "putVariable", "(Z)V"⟩, 4) := ⟨⟨by decide +kernel, by decide +kernel⟩, List.mem_of_getElem? (i := 14) (by decide +kernel), List.mem_of_getElem? (i := 310) (by decide +kernel), List.mem_of_getElem? (i := 311) (by decide +kernel)⟩
theorem lw_p17 : lw_okq (⟨"ForAllGame$State", "putVariable", "(Z)V"⟩, 7) := ⟨⟨by decide +kernel, by decide +kernel⟩, List.mem_of_getElem? (i := 22) (by decide +kernel), List.mem_of_getElem? (i := 314) (by decide +kernel), List.mem_of_getElem? (i := 315) (by decide +kernel)⟩
theorem lw_p18 : lw_okq (⟨"ForAllGame", "formulaChanged", "()V"⟩, 4) := ⟨⟨by decide +kernel, by decide +kernel⟩, List.mem_of_getElem? (i := 14) (by decide +kernel), List.mem_of_getElem? (i := 318) (by decide +kernel), List.mem_of_getElem? (i := 319) (by decide +kernel)⟩
theorem lw_p19 : lw_okq (⟨"ForAllGame$State", "hasVariables", "(I)Z"⟩, 7) := ⟨⟨by decide +kernel, by decide +kernel⟩, List.mem_of_getElem? (i := 22) (by decide +kernel), List.mem_of_getElem? (i := 331) (by decide +kernel), List.mem_of_getElem? (i := 332) (by decide +kernel)⟩
theorem lw_p20 : lw_okq (⟨"ForAllGame", "putClause", "(II)V"⟩, 4) := ⟨⟨by decide +kernel, by decide +kernel⟩, List.mem_of_getElem? (i := 14) (by decide +kernel), List.mem_of_getElem? (i := 352) (by decide +kernel), List.mem_of_getElem? (i := 353) (by decide +kernel)⟩
theorem lw_p21 : lw_okq (⟨"ForAllGame$State", "putClause", "(II)V"⟩, 7) := ⟨⟨by decide +kernel, by decide +kernel⟩, List.mem_of_getElem? (i := 22) (by decide +kernel), List.mem_of_getElem? (i := 356) (by decide +kernel), List.mem_of_getElem? (i := 357) (by decide +kernel)⟩
theorem lw_p22 : lw_okq (⟨"ForAllGame", "requireClause", "(I)V"⟩, 4) := ⟨⟨by decide +kernel, by decide +kernel⟩, List.mem_of_getElem? (i := 14) (by decide +kernel), List.mem_of_getElem? (i := 369) (by decide +kernel), List.mem_of_getElem? (i := 370) (by decide +kernel)⟩
theorem lw_p23 : lw_okq (⟨"ForAllGame$State", "dropClause", "(I)V"⟩, 7) := ⟨⟨by decide +kernel, by decide +kernel⟩, List.mem_of_getElem? (i := 22) (by decide +kernel), List.mem_of_getElem? (i := 389) (by decide +kernel), List.mem_of_getElem? (i := 390) (by decide +kernel)⟩
theorem lw_p24 : lw_okq (⟨"ForAllGame$SavedStates", "pop", "(LForAllGame$State;)V"⟩, 3) := ⟨⟨by decide +kernel, by decide +kernel⟩, List.mem_of_getElem? (i := 57) (by decide +kernel), List.mem_of_getElem? (i := 411) (by decide +kernel), List.mem_of_getElem? (i := 412) (by decide +kernel)⟩
theorem lw_p25 : lw_okq (⟨"ForAllGame", "requireVariable", "(I)V"⟩, 4) := ⟨⟨by decide +kernel, by decide +kernel⟩, List.mem_of_getElem? (i := 14) (by decide +kernel), List.mem_of_getElem? (i := 428) (by decide +kernel), List.mem_of_getElem? (i := 429) (by decide +kernel)⟩
theorem lw_p26 : lw_okq (⟨"ForAllGame", "requireHistory", "(II)V"⟩, 4) := ⟨⟨by decide +kernel, by decide +kernel⟩, List.mem_of_getElem? (i := 14) (by decide +kernel), List.mem_of_getElem? (i := 433) (by decide +kernel), List.mem_of_getElem? (i := 434) (by decide +kernel)⟩
theorem lw_p27 : lw_okq (⟨"ForAllGame", "requirePlay", "(I)V"⟩, 4) := ⟨⟨by decide +kernel, by decide +kernel⟩, List.mem_of_getElem? (i := 14) (by decide +kernel), List.mem_of_getElem? (i := 463) (by decide +kernel), List.mem_of_getElem? (i := 464) (by decide +kernel)⟩
theorem lw_p28 : lw_okq (⟨"ForAllGame$State", "hasPlay", "(I)Z"⟩, 7) := ⟨⟨by decide +kernel, by decide +kernel⟩, List.mem_of_getElem? (i := 22) (by decide +kernel), List.mem_of_getElem? (i := 467) (by decide +kernel), List.mem_of_getElem? (i := 468) (by decide +kernel)⟩
theorem lw_p29 : lw_okq (⟨"ForAllGame", "lowestLeastProof", "()I"⟩, 4) := ⟨⟨by decide +kernel, by decide +kernel⟩, List.mem_of_getElem? (i := 14) (by decide +kernel), List.mem_of_getElem? (i := 486) (by decide +kernel), List.mem_of_getElem? (i := 487) (by decide +kernel)⟩
theorem lw_p30 : lw_okq (⟨"ForAllGame", "learnedBeginnings", "(I)I"⟩, 4) := ⟨⟨by decide +kernel, by decide +kernel⟩, List.mem_of_getElem? (i := 14) (by decide +kernel), List.mem_of_getElem? (i := 494) (by decide +kernel), List.mem_of_getElem? (i := 495) (by decide +kernel)⟩
theorem lw_p31 : lw_okq (⟨"ForAllGame$State", "hasLearned", "(I)Z"⟩, 7) := ⟨⟨by decide +kernel, by decide +kernel⟩, List.mem_of_getElem? (i := 22) (by decide +kernel), List.mem_of_getElem? (i := 498) (by decide +kernel), List.mem_of_getElem? (i := 499) (by decide +kernel)⟩
def lw_privs_2 : List (MethodName × Nat) := [(⟨"ForAllGame", "putVariable", "(Z)V"⟩, 4), (⟨"ForAllGame$State", "putVariable", "(Z)V"⟩, 7), (⟨"ForAllGame", "formulaChanged", "()V"⟩, 4), (⟨"ForAllGame$State", "hasVariables", "(I)Z"⟩, 7), (⟨"ForAllGame", "putClause", "(II)V"⟩, 4), (⟨"ForAllGame$State", "putClause", "(II)V"⟩, 7), (⟨"ForAllGame", "requireClause", "(I)V"⟩, 4), (⟨"ForAllGame$State", "dropClause", "(I)V"⟩, 7), (⟨"ForAllGame$SavedStates", "pop", "(LForAllGame$State;)V"⟩, 3), (⟨"ForAllGame", "requireVariable", "(I)V"⟩, 4), (⟨"ForAllGame", "requireHistory", "(II)V"⟩, 4), (⟨"ForAllGame", "requirePlay", "(I)V"⟩, 4), (⟨"ForAllGame$State", "hasPlay", "(I)Z"⟩, 7), (⟨"ForAllGame", "lowestLeastProof", "()I"⟩, 4), (⟨"ForAllGame", "learnedBeginnings", "(I)I"⟩, 4), (⟨"ForAllGame$State", "hasLearned", "(I)Z"⟩, 7)]
theorem lw_r2 : ∀ q ∈ lw_privs_2, lw_okq q := List.forall_mem_cons.mpr ⟨lw_p16, List.forall_mem_cons.mpr ⟨lw_p17, List.forall_mem_cons.mpr ⟨lw_p18, List.forall_mem_cons.mpr ⟨lw_p19, List.forall_mem_cons.mpr ⟨lw_p20, List.forall_mem_cons.mpr ⟨lw_p21, List.forall_mem_cons.mpr ⟨lw_p22, List.forall_mem_cons.mpr ⟨lw_p23, List.forall_mem_cons.mpr ⟨lw_p24, List.forall_mem_cons.mpr ⟨lw_p25, List.forall_mem_cons.mpr ⟨lw_p26, List.forall_mem_cons.mpr ⟨lw_p27, List.forall_mem_cons.mpr ⟨lw_p28, List.forall_mem_cons.mpr ⟨lw_p29, List.forall_mem_cons.mpr ⟨lw_p30, List.forall_mem_cons.mpr ⟨lw_p31, fun _ h => absurd h List.not_mem_nil⟩⟩⟩⟩⟩⟩⟩⟩⟩⟩⟩⟩⟩⟩⟩⟩
theorem lw_p32 : lw_okq (⟨"ForAllGame", "makeRound", "()I"⟩, 4) := ⟨⟨by decide +kernel, by decide +kernel⟩, List.mem_of_getElem? (i := 14) (by decide +kernel), List.mem_of_getElem? (i := 509) (by decide +kernel), List.mem_of_getElem? (i := 510) (by decide +kernel)⟩
theorem lw_p33 : lw_okq (⟨"ForAllGame", "valuesAgainst", "(I)I"⟩, 4) := ⟨⟨by decide +kernel, by decide +kernel⟩, List.mem_of_getElem? (i := 14) (by decide +kernel), List.mem_of_getElem? (i := 513) (by decide +kernel), List.mem_of_getElem? (i := 514) (by decide +kernel)⟩
def lw_privs_3 : List (MethodName × Nat) := [(⟨"ForAllGame", "makeRound", "()I"⟩, 4), (⟨"ForAllGame", "valuesAgainst", "(I)I"⟩, 4)]
theorem lw_r3 : ∀ q ∈ lw_privs_3, lw_okq q := List.forall_mem_cons.mpr ⟨lw_p32, List.forall_mem_cons.mpr ⟨lw_p33, fun _ h => absurd h List.not_mem_nil⟩⟩
def lw_privs : List (MethodName × Nat) := lw_privs_1 ++ (lw_privs_2 ++ (lw_privs_3))
def lw_tbl : List Cond := k2_sels lw_privs ++ tables_1
theorem lw_privs_ok : ∀ q ∈ lw_privs, lw_okq q := by
  show ∀ q ∈ lw_privs_1 ++ (lw_privs_2 ++ (lw_privs_3)), lw_okq q
  exact List.forall_mem_append.mpr ⟨lw_r1, List.forall_mem_append.mpr ⟨lw_r2, lw_r3⟩⟩
-- ===== end of PART A; then your names; then what follows =====
/-! ===== BEGIN words of one list among another's, by their places ===== -/
theorem goodIn_r {big : List Cond} (ws : List Cond) (ps : List Nat) (hp : ws = ps.filterMap (fun i => big[i]?)) (h : ws.all goodWord = true) : GoodIn big ws := by
  intro w hw
  have h1 := List.all_eq_true.mp h w hw
  rw [hp] at hw
  obtain ⟨i, -, hi⟩ := List.mem_filterMap.mp hw
  have hm : w ∈ big := by first | exact List.mem_of_getElem? hi | exact List.getElem?_mem hi
  exact ⟨hm, good_of_word h1⟩
theorem goodIn_app {big a b : List Cond} (ha : GoodIn big a) (hb : GoodIn big b) : GoodIn big (a ++ b) := fun w h => (List.mem_append.mp h).elim (ha w) (hb w)
theorem goodIn_ca {big a b : List Cond} {c : Cond} (ha : GoodIn big (c :: a)) (hb : GoodIn big b) : GoodIn big (c :: (a ++ b)) := fun w h => (List.mem_cons.mp h).elim (fun e => ha w (List.mem_cons.mpr (Or.inl e))) (fun h => (List.mem_append.mp h).elim (fun h => ha w (List.mem_cons.mpr (Or.inr h))) (hb w))
theorem goodIn_sub {big ws : List Cond} (hm : ∀ w ∈ ws, w ∈ big) (h : ws.all goodWord = true) : GoodIn big ws := fun w hw => ⟨hm w hw, good_of_word (List.all_eq_true.mp h w hw)⟩
/-! ===== END ===== -/

/-! ===== BEGIN exceptions that leave a method, and their catching by the caller (launches without stack traces) ===== -/
section VXA
/-! The laws vx_back, vx_callV, vx_callS, vx_callSW, vx_throw0, vx_throwS follow proofs of the library, with one case more: JvmDerived/Free/Laws.lean (Back.of_free), Shelf42/LK1.lean (callV, callS), Shelf/KitTraced.lean (throwNew0V, throwNewS). -/
/-- where a method has thrown q: the class by its name, the cell, what was written, the world -/
def vx_T (XC : String → State → State → Prop) (st : State) (q : Addr) (t : State) (mc ms : Nat) (free : Addr → Prop) : Prop :=
  ∃ (E : String) (ce : Cell) (L : List Loc), XC E st t ∧ t.heap[q]? = some ce ∧ ce.vm = .none ∧ st.vm.findClass E = some ce.cls ∧ st.WarmedH t.vm ∧ st.sameButNew ({ t with vm := st.vm } : State) L mc ms ∧ ∀ z ∈ L, free z.base
def vx_Q (Qc : Array Value → State → Outcome → State → Prop) (XC : String → State → State → Prop) (mc ms : Nat) (free : Addr → Prop) : Array Value → State → Outcome → State → Prop := fun a st o t =>
  (Qc a st o t ∧ ∃ L, FrameEnd st o t L mc ms ∧ ∀ q ∈ L, free q.base) ∨ ∃ q, o = .threw q ∧ vx_T XC st q t mc ms free
/-- a callee that returns or throws -/
def vx_Met (l : Launch) (y : MethodName) (ws : List Cond) (rm : Room) (Pc : Array Value → State → Prop) (Qc : Array Value → State → Outcome → State → Prop) (XC : String → State → State → Prop) (mc ms : Nat) (free : Addr → Prop) : Prop :=
  MetFree l y (headSpec ws rm) Pc (fun _ _ _ _ _ => True) (vx_Q Qc XC mc ms free)
def vx_Post (XC : String → State → State → Prop) (mc ms : Nat) (free : Addr → Prop) : Pt → Array Value → Addr → Pt → Prop := fun A a q B =>
  ∃ (g : JFrame) (mk : MethodId) (t : State) (L : List Loc) (E : String) (ce : Cell), B.U.heap = t.heap ∧ B.U.vm = t.vm ∧ XC E (A.U.calling g mk a) t ∧ t.heap[q]? = some ce ∧ ce.vm = .none ∧ A.U.vm.findClass E = some ce.cls ∧ B.locs = A.locs ++ L ∧ (∀ z ∈ L, free z.base) ∧ B.cells = A.cells + mc ∧ B.slots = A.slots + ms
def vx_Back (l : Launch) (R : Room) (p : Program) (e : Env) (below : List Frame) (s : State) (sargs : Array Value) (y : MethodName) (len W9 : Nat)
    (Pre : Pt → Array Value → Prop) (Post : Pt → Array Value → Option Value → Pt → Prop) (PostX : Pt → Array Value → Addr → Pt → Prop) : Prop :=
  ∀ (m : MethodId) (meth : Method) (c : Code) (A : Pt) (g : JFrame) (ig : Instr) (mk : MethodId) (a : Array Value),
    Stand p l e R s m sargs below meth c A.U A.locs A.cells A.slots → g.method = m → g.locals.size = c.maxLocals → decode c.code g.pc = .ok (ig, len) →
    2 * g.monitorRoom + (g.stack.map fun v => v.category).sum ≤ W9 → A.U.methodNamed? y = some mk → Pre A a →
    (∃ (v : Option Value) (B : Pt), Stand p l e R s m sargs below meth c B.U B.locs B.cells B.slots ∧ Post A a v B ∧
      Steps p.tables e below (doInvoke e (A.U.setTop g) [] mk a).1 (B.U.setTop { g with pc := g.pc + len, stack := v.toList ++ g.stack })) ∨
    (∃ (q : Addr) (B : Pt), Stand p l e R s m sargs below meth c B.U B.locs B.cells B.slots ∧ PostX A a q B ∧
      Steps p.tables e below (doInvoke e (A.U.setTop g) [] mk a).1 ((B.U.setTop g).pushFrame (.throwing q)))
section Payer
variable {l : Launch} {R : Room} {p : Program} {e : Env} {below : List Frame} {s : State} {sargs : Array Value} {y : MethodName} {len W9 : Nat}
theorem vx_back {ws : List Cond} {rm : Room} {Pc : Array Value → State → Prop} {Qc : Array Value → State → Outcome → State → Prop} {XC : String → State → State → Prop} {mc ms : Nat} {free : Addr → Prop} {bytes : ByteArray} {maxL : Nat} {ret : Option FieldType}
    (hM : vx_Met l y ws rm Pc Qc XC mc ms free) (hblind : FrameBlind Pc) (hrc : rm.cells = mc) (hrs : rm.slots = ms)
    (hframes : rm.frames + 1 ≤ R.frames) (hlocals : W9 + (maxL + 11) + rm.locals ≤ R.locals)
    (hws : ∀ w ∈ ws, ∀ a' U, s.WarmedH U.vm → w.before a' U = true) (hcode : Cond.code y bytes maxL ret ∈ ws) (hinit : ∀ a' U, s.WarmedH U.vm → (Cond.initialized y.cls).before a' U = true) :
    vx_Back l R p e below s sargs y len W9 (PreOf R mc ms Pc) (PostOf Qc mc ms free) (vx_Post XC mc ms free) := by
  intro m meth c A g ig mk a X hg hsize hdg hW hn hp
  have h1 : (headSpec ws rm).pre.before a A.U = true := atoms_intro fun w hw => hws w hw _ _ X.warmed
  have h2 : (Cond.code y bytes maxL ret).before a A.U = true := hws _ hcode _ _ X.warmed
  have h3 : (Cond.initialized y.cls).before a A.U = true := hinit _ _ X.warmed
  have h4 : A.cells + (headSpec ws rm).room.cells ≤ R.cells := by rw [show (headSpec ws rm).room.cells = mc from hrc]; exact hp.1
  have h5 : A.slots + (headSpec ws rm).room.slots ≤ R.slots := by rw [show (headSpec ws rm).room.slots = ms from hrs]; exact hp.2.1
  have hPc : Pc a (A.U.calling g mk a) := hblind _ _ _ _ hp.2.2
  obtain ⟨U, Ls, c0, s0⟩ := A
  dsimp only [Pt.U, Pt.locs, Pt.cells, Pt.slots] at h1 h2 h3 h4 h5 X hn hPc ⊢
  obtain ⟨methY, cY, hmY, hcY, -, hlY, -, -, -, -⟩ := Cond.code_spec hn h2
  obtain ⟨kY, hkY, -⟩ := className_of_methodNamed hn
  have hinitY : kY.init = .initialized := Cond.initialized_spec (findClass_of_methodNamed hn) hkY h3
  have h : At U g.method c below := by rw [hg]; exact X.here
  have hlocals9 : W9 + (maxL + 11) + (headSpec ws rm).room.locals ≤ R.locals := hlocals
  have happ : (headSpec ws rm).appliesLoose y e.platform (U.calling g mk a) = true :=
    Spec.appliesLoose_calling (g := g) h hdg hn hkY hinitY
      (X.room_calling (g := g) (R' := (headSpec ws rm).room) hsize hmY hcY hframes (by rw [hlY]; omega) h4 h5) h1
  obtain ⟨mid, hmid⟩ := h.above
  have hfr : (U.setTop g).frames = (.java g :: mid) ++ below := by rw [State.frames_setTop' g h.top, hmid]; rfl
  obtain ⟨o, s₂, hsteps, -, hend, hq⟩ := Steps.callFree hM p X.admits X.cas X.clock (acts := []) hfr happ hPc trivial
  have hq' : vx_Q Qc XC mc ms free a (U.calling g mk a) o s₂ := hq
  rw [State.frames_setTop' g h.top] at hend
  obtain ⟨g₀, hg0⟩ := Option.isSome_iff_exists.mp h.top
  obtain ⟨r, hr⟩ := State.topJava?_eq_some.mp hg0
  have hr' : (({ U with heap := s₂.heap, slotsUsed := s₂.slotsUsed } : State).setVm s₂.vm).frames = .java g₀ :: r := hr
  rcases hq' with ⟨hqc, L, hfe, hL⟩ | ⟨q, rfl, E, ce, L, hx, hce, hcv, hcl, hW₂, hsm, hL⟩
  · obtain ⟨⟨v, rfl⟩, hW₂, e2, q2, q3, q4, q5, q6⟩ := id hfe
    have e3 : s₂ = ({ (U.calling g mk a).setFrames s₂.frames with heap := s₂.heap, slotsUsed := s₂.slotsUsed } : State).setVm s₂.vm := by
      have : s₂ = ({ s₂ with vm := (U.calling g mk a).vm } : State).setVm s₂.vm := rfl
      rw [e2] at this
      exact this
    obtain ⟨c₂, i₂, len₂, hc₂, hd₂, hf₂⟩ := hend
    have hW' : U.WarmedH s₂.vm := hW₂
    have hcc : c₂ = c := by
      have h1 : s₂.code? g.method = U.code? g.method := by
        rw [State.code?_eq, State.code?_eq, hW'.alike.method?]
      exact Option.some.inj (hc₂.symm.trans (h1.trans h.code))
    subst hcc
    have hlen : len₂ = len := by rw [hdg] at hd₂; cases hd₂; rfl
    subst hlen
    have hs₂ : s₂ = (({ U with heap := s₂.heap, slotsUsed := s₂.slotsUsed } : State).setVm s₂.vm).setTop { g with pc := g.pc + len₂, stack := v.toList ++ g.stack } := by
      refine e3.trans ?_
      rw [hf₂, State.calling_eq h.top, State.setFrames_setFrames, State.setTop_of_frames _ hr', hr]
      rfl
    have hsame : U.sameButNew ({ U with heap := s₂.heap, slotsUsed := s₂.slotsUsed } : State) L mc ms := by
      refine ⟨?_, q2, q3, q4, q5, q6⟩
      obtain ⟨t, ht, -⟩ := State.frames_cons hr
      show ({ U with heap := s₂.heap, slotsUsed := s₂.slotsUsed } : State) = { U.setFrames U.frames with heap := s₂.heap, slotsUsed := s₂.slotsUsed }
      rw [State.setFrames_self ht]
    subst hg
    refine Or.inl ⟨v, ⟨(({ U with heap := s₂.heap, slotsUsed := s₂.slotsUsed } : State).setVm s₂.vm), Ls ++ L, c0 + mc, s0 + ms⟩,
      ⟨X.admits, X.cas, X.clock, X.frames, X.room, X.hears, X.method, X.code, (X.here.setHeapUsed s₂.heap s₂.slotsUsed).setVm hW'.alike, X.tail, State.WarmedH.trans X.warmed hW', X.limits, X.bytes, X.same.trans (hsame.setVm s.vm)⟩,
      ⟨g, mk, s₂, L, rfl, rfl, hqc, rfl, hL, rfl, rfl⟩, ?_⟩
    show Steps p.tables e below _ ((({ U with heap := s₂.heap, slotsUsed := s₂.slotsUsed } : State).setVm s₂.vm).setTop { g with pc := g.pc + len₂, stack := v.toList ++ g.stack })
    rw [← hs₂]
    exact hsteps
  · obtain ⟨e2, q2, q3, q4, q5, q6⟩ := id hsm
    have e3 : s₂ = ({ (U.calling g mk a).setFrames s₂.frames with heap := s₂.heap, slotsUsed := s₂.slotsUsed } : State).setVm s₂.vm := by
      have : s₂ = ({ s₂ with vm := (U.calling g mk a).vm } : State).setVm s₂.vm := rfl
      rw [e2] at this
      exact this
    have hf₂ : s₂.frames = .throwing q :: .java g :: U.frames.tail := hend
    have hW' : U.WarmedH s₂.vm := hW₂
    have hs₂ : s₂ = ((({ U with heap := s₂.heap, slotsUsed := s₂.slotsUsed } : State).setVm s₂.vm).setTop g).pushFrame (.throwing q) := by
      refine e3.trans ?_
      rw [hf₂, State.calling_eq h.top, State.setFrames_setFrames, State.pushFrame, State.frames_setTop _ hr', State.setTop_of_frames _ hr', State.setFrames_setFrames, hr]
      rfl
    have hsame : U.sameButNew ({ U with heap := s₂.heap, slotsUsed := s₂.slotsUsed } : State) L mc ms := by
      refine ⟨?_, q2, q3, q4, q5, q6⟩
      obtain ⟨t, ht, -⟩ := State.frames_cons hr
      show ({ U with heap := s₂.heap, slotsUsed := s₂.slotsUsed } : State) = { U.setFrames U.frames with heap := s₂.heap, slotsUsed := s₂.slotsUsed }
      rw [State.setFrames_self ht]
    subst hg
    refine Or.inr ⟨q, ⟨(({ U with heap := s₂.heap, slotsUsed := s₂.slotsUsed } : State).setVm s₂.vm), Ls ++ L, c0 + mc, s0 + ms⟩,
      ⟨X.admits, X.cas, X.clock, X.frames, X.room, X.hears, X.method, X.code, (X.here.setHeapUsed s₂.heap s₂.slotsUsed).setVm hW'.alike, X.tail, State.WarmedH.trans X.warmed hW', X.limits, X.bytes, X.same.trans (hsame.setVm s.vm)⟩,
      ⟨g, mk, s₂, L, E, ce, rfl, rfl, hx, hce, hcv, hcl, rfl, hL, rfl, rfl⟩, ?_⟩
    show Steps p.tables e below _ (((({ U with heap := s₂.heap, slotsUsed := s₂.slotsUsed } : State).setVm s₂.vm).setTop g).pushFrame (.throwing q))
    rw [← hs₂]
    exact hsteps
end Payer
section Calls
variable {p : Program} {l : Launch} {e : Env} {R : Room} {s : State} {m : MethodId} {args : Array Value} {below : List Frame} {meth : Method} {c : Code} {T : State} {locs : List Loc} {cells slots : Nat}
theorem vx_callV (X : Stand p l e R s m args below meth c T locs cells slots) (hexec : p.tables.exec = Jvm.exec) {own C : String} {index : Nat} {y : MethodName} {bytes : ByteArray} {maxL : Nat} {ret : Option FieldType}
    (hown : s.vm.findClass own = some m.cls) (hlink : (Cond.methodLink own index y).before args s = true) (hinst : (Cond.instanceMethod y).before args s = true) (hsel : (Cond.selects C y y).before args s = true)
    (hcode : (Cond.code y bytes maxL ret).before args s = true) (hy : y.cls ≠ "java/lang/invoke/MethodHandle" ∧ y.cls ≠ "java/lang/invoke/VarHandle")
    {W9 : Nat} {Pre : Pt → Array Value → Prop} {Post : Pt → Array Value → Option Value → Pt → Prop} {PostX : Pt → Array Value → Addr → Pt → Prop} (hK : vx_Back l R p e below s args y 3 W9 Pre Post PostX)
    {b : Addr} {cellB : Cell} (hcell : T.heap[b]? = some cellB) (hobj : cellB.vm.isStatics = false) (hcls : s.vm.findClass C = some cellB.cls)
    {g : JFrame} (hg : g.method = m) (hsize : g.locals.size = c.maxLocals) {argsL rest : List Value} (hlen : ∀ sig, parseMethodDescriptor y.desc = some sig → argsL.length = sig.parameters.length)
    (hstack : g.stack = argsL.reverse ++ .ref b :: rest) (hW : 2 * g.monitorRoom + (rest.map fun v => v.category).sum ≤ W9) (hdg : decode c.code g.pc = .ok (.invokevirtual index, 3))
    (hpre : ∀ vm₁, s.WarmedH vm₁ → Pre ⟨T.setVm vm₁, locs, cells, slots⟩ (Value.ref b :: argsL).toArray) :
    (∃ (v : Option Value) (vm₁ : Vm) (B : Pt), s.WarmedH vm₁ ∧ Stand p l e R s m args below meth c B.U B.locs B.cells B.slots ∧ Post ⟨T.setVm vm₁, locs, cells, slots⟩ (Value.ref b :: argsL).toArray v B ∧
      ∀ target, Steps p.tables e below (B.U.setTop { g with pc := g.pc + 3, stack := v.toList ++ rest }) target → Steps p.tables e below (T.setTop g) target) ∨
    (∃ (q : Addr) (vm₁ : Vm) (B : Pt), s.WarmedH vm₁ ∧ Stand p l e R s m args below meth c B.U B.locs B.cells B.slots ∧ PostX ⟨T.setVm vm₁, locs, cells, slots⟩ (Value.ref b :: argsL).toArray q B ∧
      Steps p.tables e below (T.setTop g) ((B.U.setTop { g with stack := rest }).pushFrame (.throwing q))) := by
  obtain ⟨mk, methM, hnamed, hmethM, hstM, habM⟩ := Cond.instanceMethod_spec hinst
  obtain ⟨methM', cM, hmethM', -, -, -, -, -, -, hsigM⟩ := Cond.code_spec hnamed hcode
  cases hmethM.symm.trans hmethM'
  obtain ⟨c2, r2, m2, q1, q2, q3, q4, kP, hkP, hkPi⟩ := Cond.selects_spec hsel
  cases hcls.symm.trans q1
  cases (State.methodFound?_of_named hnamed hy).symm.trans q2
  cases hnamed.symm.trans q3
  have hselP : selectMethod e.platform s.vm cellB.cls mk = .method mk := by rw [Launch.admits_selectMethod X.admits]; exact q4
  obtain ⟨vm₁, X₁, hstep₁⟩ := X.invokevirtual hexec hown hlink hnamed hmethM hstM hkP hkPi hy (a := b) (cell := cellB) hcell
    (fun z h => by rw [h] at hobj; cases hobj) hselP hmethM habM hkP hkPi (g := g) hg (argsL := argsL) (rest := rest) (hlen _ hsigM) hstack hdg
  rcases hK m meth c ⟨T.setVm vm₁, locs, cells, slots⟩ { g with stack := rest } (.invokevirtual index) mk (Value.ref b :: argsL).toArray X₁ hg hsize hdg hW (X₁.named hnamed) (hpre vm₁ X₁.warmed) with ⟨v, B, X', hpost, hsteps⟩ | ⟨q, B, X', hpost, hsteps⟩
  · exact Or.inl ⟨v, vm₁, B, X₁.warmed, X', hpost, fun target h => hstep₁ _ fun acts => by rw [doInvoke_state]; exact hsteps.trans h⟩
  · exact Or.inr ⟨q, vm₁, B, X₁.warmed, X', hpost, hstep₁ _ fun acts => by rw [doInvoke_state]; exact hsteps⟩
theorem vx_callS (X : Stand p l e R s m args below meth c T locs cells slots) (hexec : p.tables.exec = Jvm.exec) {own : String} {index : Nat} {y : MethodName} {bytes : ByteArray} {maxL : Nat} {ret : Option FieldType}
    (hown : s.vm.findClass own = some m.cls) (hlink : (Cond.methodLink own index y).before args s = true) (hstat : (Cond.static y).before args s = true) (hinit : (Cond.initialized y.cls).before args s = true)
    (hcode : (Cond.code y bytes maxL ret).before args s = true) (hy : y.cls ≠ "java/lang/invoke/MethodHandle" ∧ y.cls ≠ "java/lang/invoke/VarHandle")
    {W9 : Nat} {Pre : Pt → Array Value → Prop} {Post : Pt → Array Value → Option Value → Pt → Prop} {PostX : Pt → Array Value → Addr → Pt → Prop} (hK : vx_Back l R p e below s args y 3 W9 Pre Post PostX)
    {g : JFrame} (hg : g.method = m) (hsize : g.locals.size = c.maxLocals) {argsL rest : List Value} (hlen : ∀ sig, parseMethodDescriptor y.desc = some sig → argsL.length = sig.parameters.length)
    (hstack : g.stack = argsL.reverse ++ rest) (hW : 2 * g.monitorRoom + (rest.map fun v => v.category).sum ≤ W9) (hdg : decode c.code g.pc = .ok (.invokestatic index, 3))
    (hpre : ∀ vm₁, s.WarmedH vm₁ → Pre ⟨T.setVm vm₁, locs, cells, slots⟩ argsL.toArray) :
    (∃ (v : Option Value) (vm₁ : Vm) (B : Pt), s.WarmedH vm₁ ∧ Stand p l e R s m args below meth c B.U B.locs B.cells B.slots ∧ Post ⟨T.setVm vm₁, locs, cells, slots⟩ argsL.toArray v B ∧
      ∀ target, Steps p.tables e below (B.U.setTop { g with pc := g.pc + 3, stack := v.toList ++ rest }) target → Steps p.tables e below (T.setTop g) target) ∨
    (∃ (q : Addr) (vm₁ : Vm) (B : Pt), s.WarmedH vm₁ ∧ Stand p l e R s m args below meth c B.U B.locs B.cells B.slots ∧ PostX ⟨T.setVm vm₁, locs, cells, slots⟩ argsL.toArray q B ∧
      Steps p.tables e below (T.setTop g) ((B.U.setTop { g with stack := rest }).pushFrame (.throwing q))) := by
  obtain ⟨mk, hnamed⟩ := Cond.code_named hcode
  obtain ⟨methM, cM, hmethM, -, -, -, -, -, -, hsigM⟩ := Cond.code_spec hnamed hcode
  have hstatic : methM.isStatic = true := Cond.static_spec hnamed hmethM hstat
  obtain ⟨kP, hkP, -⟩ := className_of_methodNamed hnamed
  have hinitP : kP.init = .initialized := Cond.initialized_spec (findClass_of_methodNamed hnamed) hkP hinit
  obtain ⟨vm₁, X₁, hstep₁⟩ := X.invokestatic hexec hown hlink hnamed hmethM hstatic hkP hinitP hy (g := g) hg (argsL := argsL) (rest := rest) (hlen _ hsigM) hstack hdg
  rcases hK m meth c ⟨T.setVm vm₁, locs, cells, slots⟩ { g with stack := rest } (.invokestatic index) mk argsL.toArray X₁ hg hsize hdg hW (X₁.named hnamed) (hpre vm₁ X₁.warmed) with ⟨v, B, X', hpost, hsteps⟩ | ⟨q, B, X', hpost, hsteps⟩
  · exact Or.inl ⟨v, vm₁, B, X₁.warmed, X', hpost, fun target h => hstep₁ _ fun acts => by rw [doInvoke_state]; exact hsteps.trans h⟩
  · exact Or.inr ⟨q, vm₁, B, X₁.warmed, X', hpost, hstep₁ _ fun acts => by rw [doInvoke_state]; exact hsteps⟩
end Calls
theorem vx_cls {s : State} {T : State} {vm₁ : Vm} {E : String} {k : ClassId} (hW : s.WarmedH vm₁) (h : (T.setVm vm₁).vm.findClass E = some k) : s.vm.findClass E = some k := by
  have h1 : vm₁.findClass E = some k := h
  rw [hW.alike.findClass] at h1
  exact h1
/-- the method's frame g, with q thrown over it -/
def vx_W (p : Program) (l : Launch) (e : Env) (R : Room) (s : State) (m : MethodId) (args : Array Value) (below : List Frame) (meth : Method) (c : Code) (H : Heap) (locs : List Loc) (cells slots : Nat) (Q : State → Prop) (g : JFrame) (q : Addr) : Prop :=
  ∀ T : State, T.heap = H → Stand p l e R s m args below meth c T locs cells slots → ∃ t, Steps p.tables e below ((T.setTop g).pushFrame (.throwing q)) t ∧ Q t
def vx_Run (p : Program) (l : Launch) (e : Env) (R : Room) (s : State) (m : MethodId) (args : Array Value) (below : List Frame) (meth : Method) (c : Code) (H : Heap) (locs : List Loc) (cells slots mc ms : Nat) (g : JFrame) (rest : List Value) (Qa : State → Outcome → State → Prop) (XC : String → State → State → Prop) (free : Addr → Prop) : Prop :=
  ∀ T : State, T.heap = H → Stand p l e R s m args below meth c T locs cells slots →
    (∃ (v : Option Value) (st₀ t T' : State) (L : List Loc), st₀.heap = H ∧ Stand p l e R s m args below meth c T' (locs ++ L) (cells + mc) (slots + ms) ∧ (∀ q ∈ L, free q.base) ∧ T'.heap = t.heap ∧ T'.vm = t.vm ∧ Qa st₀ (.returned v) t ∧
      Goes p e below T g T' { g with pc := g.pc + 3, stack := v.toList ++ rest }) ∨
    (∃ (q : Addr) (st₀ t T' : State) (L : List Loc) (E : String) (ce : Cell), st₀.heap = H ∧ Stand p l e R s m args below meth c T' (locs ++ L) (cells + mc) (slots + ms) ∧ (∀ z ∈ L, free z.base) ∧ T'.heap = t.heap ∧ T'.vm = t.vm ∧ XC E st₀ t ∧ t.heap[q]? = some ce ∧ ce.vm = .none ∧ s.vm.findClass E = some ce.cls ∧
      Steps p.tables e below (T.setTop g) ((T'.setTop { g with stack := rest }).pushFrame (.throwing q)))
def vx_X {S : Type} (px : S → Prop) (B : String → S → State → Prop) (A : Nat → Prop) : String → State → State → Prop := fun E st t => ∃ u : S, px u ∧ B E u t ∧ va_F A st t
section Runs
variable {p : Program} {l : Launch} {e : Env} {R : Room} {s : State} {m : MethodId} {args : Array Value} {below : List Frame} {meth : Method} {c : Code} {H : Heap} {locs : List Loc} {cells slots : Nat}
variable {y : MethodName} {bytes cc : ByteArray} {maxL nL mc ms n index : Nat} {ret : Option FieldType} {ws : List Cond} {rm : Room} {Pc : Array Value → State → Prop} {Qc : Array Value → State → Outcome → State → Prop} {XC : String → State → State → Prop} {free : Addr → Prop} {Ts : List Cond} {own C : String} {b : Addr} {As rest : List Value} {g : JFrame}
theorem vx_callBack (cb : CallB R s args own index y bytes maxL ret ws rm mc ms n) (hM : vx_Met l y ws rm Pc Qc XC mc ms free) (hbl : FrameBlind Pc) : vx_Back l R p e below s args y 3 8 (PreOf R mc ms Pc) (PostOf Qc mc ms free) (vx_Post XC mc ms free) := by
  obtain ⟨hrc, hrs, hfr, hlo, hws, hcw, -, hini, -⟩ := cb
  exact vx_back (bytes := bytes) (maxL := maxL) (ret := ret) hM hbl hrc hrs hfr hlo hws hcw (fun a' U hW => word_at hW (Or.inl (by first | rfl | simp [Cond.onTables, Cond.keeps, Cond.steady])) hini)
theorem vx_runV (S : CallFix p m c cc nL s args Ts own) (hM : vx_Met l y ws rm Pc Qc XC mc ms free) (cw : CallW R s args own C index y bytes maxL ret ws rm mc ms n) (hp : PreV s H C b Pc As)
    (hg : g.method = m) (hn : As.length = n) (hsize : g.locals.size = nL) (hstack : g.stack = As.reverse ++ .ref b :: rest) (hW : 2 * g.monitorRoom + (rest.map fun v => v.category).sum ≤ 8) (hdg : decode cc g.pc = .ok (.invokevirtual index, 3)) (hf : cells + mc ≤ R.cells ∧ slots + ms ≤ R.slots) :
    vx_Run p l e R s m args below meth c H locs cells slots mc ms g rest (Qc (Value.ref b :: As).toArray) XC free := by
  have hK : vx_Back l R p e below s args y 3 8 (PreOf R mc ms Pc) (PostOf Qc mc ms free) (vx_Post XC mc ms free) := vx_callBack cw.1 hM hp.1
  obtain ⟨⟨-, -, -, -, -, -, hcode, -, hy, hlen, hl⟩, hin, hse⟩ := cw
  obtain ⟨hx, hb, hml, ho, -⟩ := S
  obtain ⟨-, ⟨cellB, hcB, hoB, hclB⟩, hPc⟩ := hp
  intro T hT X
  rcases vx_callV X hx (C := C) (bytes := bytes) (maxL := maxL) (ret := ret) ho hl hin hse hcode hy hK (by rw [hT]; exact hcB) hoB hclB hg (hsize.trans hml.symm) (argsL := As) (rest := rest) (fun sig h => hn.trans (hlen sig h)) hstack hW (by rw [hb]; exact hdg)
    (fun vm₁ hW₁ => ⟨hf.1, hf.2, hPc (T.setVm vm₁) hT hW₁⟩) with ⟨v, vm₁, ⟨U', l2, c2, s2⟩, hW₁, X', ⟨g', mk, t, L, e1, e2, hq, h1, hL, h2, h3⟩, st⟩ | ⟨q, vm₁, ⟨U', l2, c2, s2⟩, hW₁, X', ⟨g', mk, t, L, E, ce, e1, e2, hq, hce, hcv, hcl, h1, hL, h2, h3⟩, st⟩
  · dsimp only [Pt.U, Pt.locs, Pt.cells, Pt.slots] at X' e1 e2 h1 h2 h3 st
    subst h1; subst h2; subst h3
    exact Or.inl ⟨v, (T.setVm vm₁).calling g' mk (Value.ref b :: As).toArray, t, U', L, hT, X', hL, e1, e2, hq, st⟩
  · dsimp only [Pt.U, Pt.locs, Pt.cells, Pt.slots] at X' e1 e2 h1 h2 h3 st hcl
    subst h1; subst h2; subst h3
    exact Or.inr ⟨q, (T.setVm vm₁).calling g' mk (Value.ref b :: As).toArray, t, U', L, E, ce, hT, X', hL, e1, e2, hq, hce, hcv, vx_cls hW₁ hcl, st⟩
theorem vx_runS (S : CallFix p m c cc nL s args Ts own) (hM : vx_Met l y ws rm Pc Qc XC mc ms free) (cw : CallB R s args own index y bytes maxL ret ws rm mc ms n ∧ (Cond.static y).before args s = true) (hp : PreS s H Pc As)
    (hg : g.method = m) (hn : As.length = n) (hsize : g.locals.size = nL) (hstack : g.stack = As.reverse ++ rest) (hW : 2 * g.monitorRoom + (rest.map fun v => v.category).sum ≤ 8) (hdg : decode cc g.pc = .ok (.invokestatic index, 3)) (hf : cells + mc ≤ R.cells ∧ slots + ms ≤ R.slots) :
    vx_Run p l e R s m args below meth c H locs cells slots mc ms g rest (Qc As.toArray) XC free := by
  have hK : vx_Back l R p e below s args y 3 8 (PreOf R mc ms Pc) (PostOf Qc mc ms free) (vx_Post XC mc ms free) := vx_callBack cw.1 hM hp.1
  obtain ⟨⟨-, -, -, -, -, -, hcode, hini, hy, hlen, hl⟩, hstt⟩ := cw
  obtain ⟨hx, hb, hml, ho, -⟩ := S
  intro T hT X
  rcases vx_callS X hx (bytes := bytes) (maxL := maxL) (ret := ret) ho hl hstt hini hcode hy hK hg (hsize.trans hml.symm) (argsL := As) (rest := rest) (fun sig h => hn.trans (hlen sig h)) hstack hW (by rw [hb]; exact hdg)
    (fun vm₁ hW₁ => ⟨hf.1, hf.2, hp.2 (T.setVm vm₁) hT hW₁⟩) with ⟨v, vm₁, ⟨U', l2, c2, s2⟩, hW₁, X', ⟨g', mk, t, L, e1, e2, hq, h1, hL, h2, h3⟩, st⟩ | ⟨q, vm₁, ⟨U', l2, c2, s2⟩, hW₁, X', ⟨g', mk, t, L, E, ce, e1, e2, hq, hce, hcv, hcl, h1, hL, h2, h3⟩, st⟩
  · dsimp only [Pt.U, Pt.locs, Pt.cells, Pt.slots] at X' e1 e2 h1 h2 h3 st
    subst h1; subst h2; subst h3
    exact Or.inl ⟨v, (T.setVm vm₁).calling g' mk As.toArray, t, U', L, hT, X', hL, e1, e2, hq, st⟩
  · dsimp only [Pt.U, Pt.locs, Pt.cells, Pt.slots] at X' e1 e2 h1 h2 h3 st hcl
    subst h1; subst h2; subst h3
    exact Or.inr ⟨q, (T.setVm vm₁).calling g' mk As.toArray, t, U', L, E, ce, hT, X', hL, e1, e2, hq, hce, hcv, vx_cls hW₁ hcl, st⟩
end Runs
section Rows
variable {p : Program} {l : Launch} {e : Env} {R : Room} {s : State} {m : MethodId} {args : Array Value} {below : List Frame} {meth : Method} {c : Code} {H : Heap} {locs : List Loc} {cells slots : Nat} {Q : State → Prop}
variable {mc ms : Nat} {free : Addr → Prop} {A0 A1 : Nat → Prop} {H0 : Heap} {a : Array Value} {pc : Nat} {ls : Array Slot} {st0 rest : List Value}
theorem vx_keep {st₀ t T' : State} {L : List Loc} (h0 : st₀.heap = H) (e1 : T'.heap = t.heap) (hS : va_S A0 H0 H locs) (hA : ∀ q, q < H.size → A1 q → A0 q) (hf : ∀ q, free q → A0 q) (hL : ∀ q ∈ L, free q.base) (hF : va_F A1 st₀ t) :
    H.size ≤ T'.heap.size ∧ (∀ q : Nat, q < H.size → ¬ A1 q → T'.heap[q]? = H[q]?) ∧ va_S A0 H0 T'.heap (locs ++ L) := by
  obtain ⟨hz, hk⟩ := hF
  rw [h0] at hz hk
  exact ⟨by rw [e1]; exact hz, fun q h1 h2 => by rw [e1]; exact hk q h1 h2,
    ⟨Nat.le_trans hS.1 (by rw [e1]; exact hz), fun q h1 h2 => by rw [e1, hk q (Nat.lt_of_lt_of_le h1 hS.1) (fun z => h2 (hA q (Nat.lt_of_lt_of_le h1 hS.1) z))]; exact hS.2.1 q h1 h2, fun q hq => by
      rcases List.mem_append.mp hq with h | h
      · exact hS.2.2 q h
      · exact hf _ (hL q h)⟩⟩
theorem vx_calli {S SX : Type} {post : Int32 → S → Prop} {px : SX → Prop} {B : S → State → Prop} {BX : String → SX → State → Prop} {AX : Nat → Prop} (hr : vx_Run p l e R s m args below meth c H locs cells slots mc ms (F0 m pc ls st0) rest (va_Qi post B A1 a) (vx_X px BX AX) free) (hS : va_S A0 H0 H locs) (hA : ∀ q, q < H.size → A1 q → A0 q) (hf : ∀ q, free q → A0 q) (hAX : ∀ q, q < H.size → AX q → A0 q)
    (kx : ∀ (E : String) (ce : Cell) (q9 : Addr) (u : SX) (t : State) (H1 : Heap) (locs1 : List Loc), t.heap = H1 → s.vm.Alike t.vm → px u → BX E u t → H.size ≤ H1.size → (∀ q : Nat, q < H.size → ¬ AX q → H1[q]? = H[q]?) → va_S A0 H0 H1 locs1 → H1[q9]? = some ce → ce.vm = .none → s.vm.findClass E = some ce.cls → vx_W p l e R s m args below meth c H1 locs1 (cells + mc) (slots + ms) Q (F0 m pc ls rest) q9)
    (kk : ∀ (r : Int32) (u : S) (t : State) (H1 : Heap) (locs1 : List Loc), t.heap = H1 → s.vm.Alike t.vm → post r u → B u t → H.size ≤ H1.size → (∀ q : Nat, q < H.size → ¬ A1 q → H1[q]? = H[q]?) → va_S A0 H0 H1 locs1 → W p l e R s m args below meth c H1 locs1 (cells + mc) (slots + ms) Q (F0 m (pc + 3) ls (.int r :: rest))) : W p l e R s m args below meth c H locs cells slots Q (F0 m pc ls st0) := by
  intro T hT X
  rcases hr T hT X with ⟨v, st₀, t, T', L, h0, X', hL, e1, e2, ⟨⟨r, u, hv, hp, hb⟩, hF⟩, st⟩ | ⟨q, st₀, t, T', L, E, ce, h0, X', hL, e1, e2, ⟨u, hp, hb, hF⟩, hce, hcv, hcl, st⟩
  · cases hv
    obtain ⟨k1, k2, k3⟩ := vx_keep h0 e1 hS hA hf hL hF
    obtain ⟨t2, a1, b1⟩ := kk r u t T'.heap (locs ++ L) e1.symm (by rw [← e2]; exact X'.warmed.alike) hp hb k1 k2 k3 T' rfl X'
    exact ⟨t2, st t2 a1, b1⟩
  · obtain ⟨k1, k2, k3⟩ := vx_keep h0 e1 hS hAX hf hL hF
    obtain ⟨t2, a1, b1⟩ := kx E ce q u t T'.heap (locs ++ L) e1.symm (by rw [← e2]; exact X'.warmed.alike) hp hb k1 k2 k3 (by rw [e1]; exact hce) hcv hcl T' rfl X'
    exact ⟨t2, st.trans a1, b1⟩
theorem vx_calll {S SX : Type} {post : Int64 → S → Prop} {px : SX → Prop} {B : S → State → Prop} {BX : String → SX → State → Prop} {AX : Nat → Prop} (hr : vx_Run p l e R s m args below meth c H locs cells slots mc ms (F0 m pc ls st0) rest (va_Ql post B A1 a) (vx_X px BX AX) free) (hS : va_S A0 H0 H locs) (hA : ∀ q, q < H.size → A1 q → A0 q) (hf : ∀ q, free q → A0 q) (hAX : ∀ q, q < H.size → AX q → A0 q)
    (kx : ∀ (E : String) (ce : Cell) (q9 : Addr) (u : SX) (t : State) (H1 : Heap) (locs1 : List Loc), t.heap = H1 → s.vm.Alike t.vm → px u → BX E u t → H.size ≤ H1.size → (∀ q : Nat, q < H.size → ¬ AX q → H1[q]? = H[q]?) → va_S A0 H0 H1 locs1 → H1[q9]? = some ce → ce.vm = .none → s.vm.findClass E = some ce.cls → vx_W p l e R s m args below meth c H1 locs1 (cells + mc) (slots + ms) Q (F0 m pc ls rest) q9)
    (kk : ∀ (r : Int64) (u : S) (t : State) (H1 : Heap) (locs1 : List Loc), t.heap = H1 → s.vm.Alike t.vm → post r u → B u t → H.size ≤ H1.size → (∀ q : Nat, q < H.size → ¬ A1 q → H1[q]? = H[q]?) → va_S A0 H0 H1 locs1 → W p l e R s m args below meth c H1 locs1 (cells + mc) (slots + ms) Q (F0 m (pc + 3) ls (.long r :: rest))) : W p l e R s m args below meth c H locs cells slots Q (F0 m pc ls st0) := by
  intro T hT X
  rcases hr T hT X with ⟨v, st₀, t, T', L, h0, X', hL, e1, e2, ⟨⟨r, u, hv, hp, hb⟩, hF⟩, st⟩ | ⟨q, st₀, t, T', L, E, ce, h0, X', hL, e1, e2, ⟨u, hp, hb, hF⟩, hce, hcv, hcl, st⟩
  · cases hv
    obtain ⟨k1, k2, k3⟩ := vx_keep h0 e1 hS hA hf hL hF
    obtain ⟨t2, a1, b1⟩ := kk r u t T'.heap (locs ++ L) e1.symm (by rw [← e2]; exact X'.warmed.alike) hp hb k1 k2 k3 T' rfl X'
    exact ⟨t2, st t2 a1, b1⟩
  · obtain ⟨k1, k2, k3⟩ := vx_keep h0 e1 hS hAX hf hL hF
    obtain ⟨t2, a1, b1⟩ := kx E ce q u t T'.heap (locs ++ L) e1.symm (by rw [← e2]; exact X'.warmed.alike) hp hb k1 k2 k3 (by rw [e1]; exact hce) hcv hcl T' rfl X'
    exact ⟨t2, st.trans a1, b1⟩
theorem vx_callf {S SX : Type} {post : UInt32 → S → Prop} {px : SX → Prop} {B : S → State → Prop} {BX : String → SX → State → Prop} {AX : Nat → Prop} (hr : vx_Run p l e R s m args below meth c H locs cells slots mc ms (F0 m pc ls st0) rest (va_Qf post B A1 a) (vx_X px BX AX) free) (hS : va_S A0 H0 H locs) (hA : ∀ q, q < H.size → A1 q → A0 q) (hf : ∀ q, free q → A0 q) (hAX : ∀ q, q < H.size → AX q → A0 q)
    (kx : ∀ (E : String) (ce : Cell) (q9 : Addr) (u : SX) (t : State) (H1 : Heap) (locs1 : List Loc), t.heap = H1 → s.vm.Alike t.vm → px u → BX E u t → H.size ≤ H1.size → (∀ q : Nat, q < H.size → ¬ AX q → H1[q]? = H[q]?) → va_S A0 H0 H1 locs1 → H1[q9]? = some ce → ce.vm = .none → s.vm.findClass E = some ce.cls → vx_W p l e R s m args below meth c H1 locs1 (cells + mc) (slots + ms) Q (F0 m pc ls rest) q9)
    (kk : ∀ (r : UInt32) (u : S) (t : State) (H1 : Heap) (locs1 : List Loc), t.heap = H1 → s.vm.Alike t.vm → post r u → B u t → H.size ≤ H1.size → (∀ q : Nat, q < H.size → ¬ A1 q → H1[q]? = H[q]?) → va_S A0 H0 H1 locs1 → W p l e R s m args below meth c H1 locs1 (cells + mc) (slots + ms) Q (F0 m (pc + 3) ls (.float r :: rest))) : W p l e R s m args below meth c H locs cells slots Q (F0 m pc ls st0) := by
  intro T hT X
  rcases hr T hT X with ⟨v, st₀, t, T', L, h0, X', hL, e1, e2, ⟨⟨r, u, hv, hp, hb⟩, hF⟩, st⟩ | ⟨q, st₀, t, T', L, E, ce, h0, X', hL, e1, e2, ⟨u, hp, hb, hF⟩, hce, hcv, hcl, st⟩
  · cases hv
    obtain ⟨k1, k2, k3⟩ := vx_keep h0 e1 hS hA hf hL hF
    obtain ⟨t2, a1, b1⟩ := kk r u t T'.heap (locs ++ L) e1.symm (by rw [← e2]; exact X'.warmed.alike) hp hb k1 k2 k3 T' rfl X'
    exact ⟨t2, st t2 a1, b1⟩
  · obtain ⟨k1, k2, k3⟩ := vx_keep h0 e1 hS hAX hf hL hF
    obtain ⟨t2, a1, b1⟩ := kx E ce q u t T'.heap (locs ++ L) e1.symm (by rw [← e2]; exact X'.warmed.alike) hp hb k1 k2 k3 (by rw [e1]; exact hce) hcv hcl T' rfl X'
    exact ⟨t2, st.trans a1, b1⟩
theorem vx_calld {S SX : Type} {post : UInt64 → S → Prop} {px : SX → Prop} {B : S → State → Prop} {BX : String → SX → State → Prop} {AX : Nat → Prop} (hr : vx_Run p l e R s m args below meth c H locs cells slots mc ms (F0 m pc ls st0) rest (va_Qd post B A1 a) (vx_X px BX AX) free) (hS : va_S A0 H0 H locs) (hA : ∀ q, q < H.size → A1 q → A0 q) (hf : ∀ q, free q → A0 q) (hAX : ∀ q, q < H.size → AX q → A0 q)
    (kx : ∀ (E : String) (ce : Cell) (q9 : Addr) (u : SX) (t : State) (H1 : Heap) (locs1 : List Loc), t.heap = H1 → s.vm.Alike t.vm → px u → BX E u t → H.size ≤ H1.size → (∀ q : Nat, q < H.size → ¬ AX q → H1[q]? = H[q]?) → va_S A0 H0 H1 locs1 → H1[q9]? = some ce → ce.vm = .none → s.vm.findClass E = some ce.cls → vx_W p l e R s m args below meth c H1 locs1 (cells + mc) (slots + ms) Q (F0 m pc ls rest) q9)
    (kk : ∀ (r : UInt64) (u : S) (t : State) (H1 : Heap) (locs1 : List Loc), t.heap = H1 → s.vm.Alike t.vm → post r u → B u t → H.size ≤ H1.size → (∀ q : Nat, q < H.size → ¬ A1 q → H1[q]? = H[q]?) → va_S A0 H0 H1 locs1 → W p l e R s m args below meth c H1 locs1 (cells + mc) (slots + ms) Q (F0 m (pc + 3) ls (.double r :: rest))) : W p l e R s m args below meth c H locs cells slots Q (F0 m pc ls st0) := by
  intro T hT X
  rcases hr T hT X with ⟨v, st₀, t, T', L, h0, X', hL, e1, e2, ⟨⟨r, u, hv, hp, hb⟩, hF⟩, st⟩ | ⟨q, st₀, t, T', L, E, ce, h0, X', hL, e1, e2, ⟨u, hp, hb, hF⟩, hce, hcv, hcl, st⟩
  · cases hv
    obtain ⟨k1, k2, k3⟩ := vx_keep h0 e1 hS hA hf hL hF
    obtain ⟨t2, a1, b1⟩ := kk r u t T'.heap (locs ++ L) e1.symm (by rw [← e2]; exact X'.warmed.alike) hp hb k1 k2 k3 T' rfl X'
    exact ⟨t2, st t2 a1, b1⟩
  · obtain ⟨k1, k2, k3⟩ := vx_keep h0 e1 hS hAX hf hL hF
    obtain ⟨t2, a1, b1⟩ := kx E ce q u t T'.heap (locs ++ L) e1.symm (by rw [← e2]; exact X'.warmed.alike) hp hb k1 k2 k3 (by rw [e1]; exact hce) hcv hcl T' rfl X'
    exact ⟨t2, st.trans a1, b1⟩
theorem vx_callv {S SX : Type} {post : S → Prop} {px : SX → Prop} {B : S → State → Prop} {BX : String → SX → State → Prop} {AX : Nat → Prop} (hr : vx_Run p l e R s m args below meth c H locs cells slots mc ms (F0 m pc ls st0) rest (va_Qv post B A1 a) (vx_X px BX AX) free) (hS : va_S A0 H0 H locs) (hA : ∀ q, q < H.size → A1 q → A0 q) (hf : ∀ q, free q → A0 q) (hAX : ∀ q, q < H.size → AX q → A0 q)
    (kx : ∀ (E : String) (ce : Cell) (q9 : Addr) (u : SX) (t : State) (H1 : Heap) (locs1 : List Loc), t.heap = H1 → s.vm.Alike t.vm → px u → BX E u t → H.size ≤ H1.size → (∀ q : Nat, q < H.size → ¬ AX q → H1[q]? = H[q]?) → va_S A0 H0 H1 locs1 → H1[q9]? = some ce → ce.vm = .none → s.vm.findClass E = some ce.cls → vx_W p l e R s m args below meth c H1 locs1 (cells + mc) (slots + ms) Q (F0 m pc ls rest) q9)
    (kk : ∀ (u : S) (t : State) (H1 : Heap) (locs1 : List Loc), t.heap = H1 → s.vm.Alike t.vm → post u → B u t → H.size ≤ H1.size → (∀ q : Nat, q < H.size → ¬ A1 q → H1[q]? = H[q]?) → va_S A0 H0 H1 locs1 → W p l e R s m args below meth c H1 locs1 (cells + mc) (slots + ms) Q (F0 m (pc + 3) ls (rest))) : W p l e R s m args below meth c H locs cells slots Q (F0 m pc ls st0) := by
  intro T hT X
  rcases hr T hT X with ⟨v, st₀, t, T', L, h0, X', hL, e1, e2, ⟨⟨u, hv, hp, hb⟩, hF⟩, st⟩ | ⟨q, st₀, t, T', L, E, ce, h0, X', hL, e1, e2, ⟨u, hp, hb, hF⟩, hce, hcv, hcl, st⟩
  · cases hv
    obtain ⟨k1, k2, k3⟩ := vx_keep h0 e1 hS hA hf hL hF
    obtain ⟨t2, a1, b1⟩ := kk u t T'.heap (locs ++ L) e1.symm (by rw [← e2]; exact X'.warmed.alike) hp hb k1 k2 k3 T' rfl X'
    exact ⟨t2, st t2 a1, b1⟩
  · obtain ⟨k1, k2, k3⟩ := vx_keep h0 e1 hS hAX hf hL hF
    obtain ⟨t2, a1, b1⟩ := kx E ce q u t T'.heap (locs ++ L) e1.symm (by rw [← e2]; exact X'.warmed.alike) hp hb k1 k2 k3 (by rw [e1]; exact hce) hcv hcl T' rfl X'
    exact ⟨t2, st.trans a1, b1⟩
/-- caught by the row x of this method's table; the rows ahead don't take it -/
theorem vx_catch {own name : String} {E : String} {ce : Cell} {q : Addr} (hown : s.vm.findClass own = some m.cls) (pre : List ExceptionTableEntry) (x : ExceptionTableEntry) (suf : List ExceptionTableEntry) (hsplit : c.exceptionTable.toList = pre ++ x :: suf)
    (hpass : ∀ z ∈ pre, covers z pc = false ∨ (z.catchType ≠ 0 ∧ ∃ nm : String, (Cond.classLink own z.catchType nm).before args s = true ∧ va_Nc E nm s)) (hx : covers x pc = true) (h0 : x.catchType ≠ 0)
    (hlink : (Cond.classLink own x.catchType name).before args s = true) (hcast : (Cond.castable E name).before args s = true) (hcell : H[q]? = some ce) (hv : ce.vm = .none) (hcl : s.vm.findClass E = some ce.cls)
    (kk : W p l e R s m args below meth c H locs cells slots Q (F0 m x.handlerPc ls [.ref q])) : vx_W p l e R s m args below meth c H locs cells slots Q (F0 m pc ls rest) q := by
  intro T hT X
  have hpl : e.platform.magicAccessors = ({} : Platform).magicAccessors := by rw [X.admits.platform]
  obtain ⟨c3, c4, hc3, hc4, hasg⟩ := Cond.castable_spec hcast
  cases Option.some.inj (hc3.symm.trans hcl)
  obtain ⟨c5, hc5, hcl5⟩ := Cond.classLink_spec hown hlink e.platform hpl
  cases Option.some.inj (hc4.symm.trans hc5)
  obtain ⟨vm', X', st⟩ := X.thenCaughtThrough q (g := F0 m pc ls rest) rfl (Steps.refl _) (by rw [hT]; exact hcell) (by rw [hv]; rfl) (by obtain ⟨k9, h9, -⟩ := Vm.findClass_spec hcl; exact ⟨k9, h9⟩) pre x suf hsplit
    (fun z hz => by
      rcases hpass z hz with h | ⟨hz0, nm, hl1, hn1⟩
      · exact Or.inl h
      · obtain ⟨c6, hc6, hcl6⟩ := Cond.classLink_spec hown hl1 e.platform hpl
        obtain ⟨a8, b8, h1, h2, h3⟩ := hn1
        cases Option.some.inj (h1.symm.trans hcl)
        cases Option.some.inj (h2.symm.trans hc6)
        exact Or.inr ⟨hz0, _, hcl6, h3⟩) hx (Or.inr ⟨h0, c4, hcl5, hasg⟩)
  obtain ⟨t, a1, b1⟩ := kk (T.setVm vm') hT X'
  exact ⟨t, st.trans a1, b1⟩
end Rows
section Ends
variable {p : Program} {l : Launch} {e : Env} {R : Room} {s : State} {m : MethodId} {args : Array Value} {below : List Frame} {meth : Method} {c : Code} {H : Heap} {locs : List Loc} {cells slots : Nat} {Q : State → Prop}
variable {mc ms : Nat} {free : Addr → Prop} {A0 A1 : Nat → Prop} {H0 : Heap} {a : Array Value} {ls : Array Slot} {st0 rest : List Value}
variable {Qc : Array Value → State → Outcome → State → Prop} {XC : String → State → State → Prop}
/-- what a body that may throw owes at its end -/
def vx_MQ (below : List Frame) (Qc : Array Value → State → Outcome → State → Prop) (XC : String → State → State → Prop) (a : Array Value) (s : State) (mc ms : Nat) (free : Addr → Prop) : State → Prop := fun t =>
  ∃ o, t.status = .running ∧ Ended t below o ∧ vx_Q Qc XC mc ms free a s o t
theorem vx_ret {g : JFrame} {mc ms : Nat} (k : W p l e R s m args below meth c H locs cells slots (MQ below Qc args s mc ms free) g) : W p l e R s m args below meth c H locs cells slots (vx_MQ below Qc XC args s mc ms free) g := by
  intro T hT X
  obtain ⟨t, a1, o, b1, b2, b3, b4⟩ := k T hT X
  exact ⟨t, a1, o, b1, b2, Or.inl ⟨b3, b4⟩⟩
/-- not caught here: it goes on to the caller -/
theorem vx_widen {g : JFrame} {q : Addr} {k n : Nat} (h1 : cells ≤ k) (h2 : slots ≤ n) (kk : vx_W p l e R s m args below meth c H locs k n Q g q) : vx_W p l e R s m args below meth c H locs cells slots Q g q := fun T hT X => kk T hT (stand_widen X h1 h2)
theorem vx_out {pc : Nat} {E : String} {ce : Cell} {q : Addr} {mc ms : Nat} (hout : ∀ x ∈ c.exceptionTable.toList, covers x pc = false) (hlocks : meth.locks = false) (hcell : H[q]? = some ce) (hv : ce.vm = .none) (hcl : s.vm.findClass E = some ce.cls)
    (hx : ∀ t : State, t.heap = H → s.vm.Alike t.vm → XC E s t) (hf : ∀ z ∈ locs, free z.base) (hc : cells ≤ mc) (hs : slots ≤ ms) :
    vx_W p l e R s m args below meth c H locs cells slots (vx_MQ below Qc XC args s mc ms free) (F0 m pc ls rest) q := by
  intro T hT X
  obtain ⟨st1, hrun, hend, hW, hsm⟩ := X.leaveThrown q (g := F0 m pc ls rest) rfl rfl rfl hout hlocks
  have hcell9 : (T.setFrames (.throwing q :: below)).heap[q]? = some ce := by
    show T.heap[q]? = some ce
    rw [hT]; exact hcell
  exact ⟨_, st1, .threw q, hrun, hend, Or.inr ⟨q, rfl, E, ce, locs, hx _ hT hW.alike, hcell9, hv, hcl, hW, hsm.mono hc hs, hf⟩⟩
theorem vx_frame {U : State} {k n : Nat} (h : s.sameButNew ({ U with vm := s.vm } : State) locs k n) : s.heap.size ≤ U.heap.size ∧ ∀ q : Nat, q < s.heap.size → (∀ z ∈ locs, z.base ≠ q) → U.heap[q]? = s.heap[q]? := by
  obtain ⟨-, h2, -, -, -, h6⟩ := h
  refine ⟨h2, fun q hq hz => ?_⟩
  obtain ⟨c9, e1, e2, e3, e4⟩ := h6 q _ (Array.getElem?_eq_getElem hq)
  have hs : c9.slots = (s.heap[q]).slots := Array.ext_getElem? fun i => e4 i fun hm => hz _ hm rfl
  have h9 : c9 = s.heap[q] := by
    rw [hs] at e2
    exact e2
  have e5 : U.heap[q]? = some c9 := e1
  rw [e5, h9, Array.getElem?_eq_getElem hq]
/-- the words of a throw but the four that speak of the heap -/
def vx_no (w : Cond) : Bool := decide (w ≠ .isRef (.static Bundle.tN "UNASSIGNED_STACK" Bundle.steD)) && decide (w ≠ .isRef (.static Bundle.tN "SUPPRESSED_SENTINEL" Bundle.listD)) && decide (w ≠ .laysStatic Bundle.tN "UNASSIGNED_STACK" Bundle.steD) && decide (w ≠ .laysStatic Bundle.tN "SUPPRESSED_SENTINEL" Bundle.listD)
def vx_at0 (own : String) (ic : Nat) (X : String) (names : List String) : List Cond := (Bundle.ownAtoms0 own ic X names).filter vx_no
def vx_atS (own : String) (ic : Nat) (X : String) (names : List String) : List Cond := (Bundle.ownAtoms own ic X names).filter vx_no
/-- a word that the tables alone decide, or a good one -/
def vx_ot (w : Cond) : Bool := w.onTables || goodWord w
theorem vx_ot_at {args a' : Array Value} {s U : State} {w : Cond} (hW : s.WarmedH U.vm) (hvm : s.vm = U.vm) (hg : vx_ot w = true) (h : w.before args s = true) : w.before a' U = true := by
  simp only [vx_ot, Bool.or_eq_true] at hg
  rcases hg with hg | hg
  · exact va_tabs hg hvm h
  · exact word_at hW (good_of_word hg) h
/-- a list's words: the good ones out of the method's own list, the others by premises of their own -/
theorem vx_hat {args : Array Value} {s : State} {L B : List Cond} (h1 : ∀ w ∈ L.filter goodWord, w.before args s = true) (h2 : ∀ w ∈ L.filter (fun w => !goodWord w), w ∈ B) (h3 : ∀ w ∈ B, w.before args s = true) : ∀ w ∈ L, w.before args s = true := by
  intro w hw
  by_cases g : goodWord w = true
  · exact h1 w (List.mem_filter.mpr ⟨hw, g⟩)
  · refine h3 w (h2 w (List.mem_filter.mpr ⟨hw, ?_⟩))
    show (!goodWord w) = true
    cases hgw : goodWord w
    · rfl
    · exact absurd hgw g
theorem vx_c {args : Array Value} {s : State} {w : Cond} {B : List Cond} (h : w.before args s = true) (t : ∀ w ∈ B, w.before args s = true) : ∀ w' ∈ w :: B, w'.before args s = true := fun w' h' => (List.mem_cons.mp h').elim (fun e => by rw [e]; exact h) (t w')
theorem vx_n {args : Array Value} {s : State} : ∀ w ∈ ([] : List Cond), w.before args s = true := fun _ h => nomatch h
theorem vx_own {args : Array Value} {s : State} {L : List Cond} (h1 : ∀ w ∈ L.filter vx_no, w.before args s = true)
    (hU : (Cond.isRef (.static Bundle.tN "UNASSIGNED_STACK" Bundle.steD)).before args s = true) (hN : (Cond.isRef (.static Bundle.tN "SUPPRESSED_SENTINEL" Bundle.listD)).before args s = true)
    (lU : (Cond.laysStatic Bundle.tN "UNASSIGNED_STACK" Bundle.steD).before args s = true) (lN : (Cond.laysStatic Bundle.tN "SUPPRESSED_SENTINEL" Bundle.listD).before args s = true) : ∀ w ∈ L, w.before args s = true := by
  intro w hw
  by_cases e1 : w = .isRef (.static Bundle.tN "UNASSIGNED_STACK" Bundle.steD)
  · rw [e1]; exact hU
  · by_cases e2 : w = .isRef (.static Bundle.tN "SUPPRESSED_SENTINEL" Bundle.listD)
    · rw [e2]; exact hN
    · by_cases e3 : w = .laysStatic Bundle.tN "UNASSIGNED_STACK" Bundle.steD
      · rw [e3]; exact lU
      · by_cases e4 : w = .laysStatic Bundle.tN "SUPPRESSED_SENTINEL" Bundle.listD
        · rw [e4]; exact lN
        · exact h1 w (List.mem_filter.mpr ⟨hw, by unfold vx_no; rw [decide_eq_true e1, decide_eq_true e2, decide_eq_true e3, decide_eq_true e4]; rfl⟩)
/-- where a static field lies, its class's statics cell in H -/
def vx_L (C n d : String) (A : Nat → Prop) (U : State) (H : Heap) : Prop := ∃ (c : ClassId) (k : Class) (i : Nat) (f : Field) (a : Nat) (cell : Cell), U.vm.findClass C = some c ∧ U.fieldFound? C n d = some (c, k, i, f) ∧ f.isStatic = true ∧ k.statics = some a ∧ H[a]? = some cell ∧ cell.vm.isStatics = true ∧ cell.cls = c ∧ f.slot < cell.slots.size ∧ k.staticTypes[f.slot]? = some f.type ∧ ¬ A a
theorem vx_L.moved {C n d : String} {A : Nat → Prop} {u U : State} {H : Heap} (hvm : u.vm.Alike U.vm) (h : vx_L C n d A u H) : vx_L C n d A U H := by
  obtain ⟨c, k, i, f, a, cell, h1, h2, h3, h4, h5, h6, h7, h8, h9, h10⟩ := h
  obtain ⟨k', hi', he⟩ := State.fieldFound?_setVm hvm h2
  exact ⟨c, k', i, f, a, cell, by rw [hvm.findClass]; exact h1, hi', h3, by rw [he]; exact h4, h5, h6, h7, h8, by rw [he]; exact h9, h10⟩
theorem vx_L.kept {C n d : String} {A : Nat → Prop} {U : State} {H H1 : Heap} (h : vx_L C n d A U H) (hq : ∀ a : Nat, a < H.size → ¬ A a → H1[a]? = H[a]?) : vx_L C n d A U H1 := by
  obtain ⟨c, k, i, f, a, cell, h1, h2, h3, h4, h5, h6, h7, h8, h9, h10⟩ := h
  exact ⟨c, k, i, f, a, cell, h1, h2, h3, h4, by rw [hq a (Array.getElem?_eq_some_iff.mp h5).1 h10]; exact h5, h6, h7, h8, h9, h10⟩
theorem vx_L.narrow {C n d : String} {A B : Nat → Prop} {U : State} {H : Heap} (h : vx_L C n d A U H) (hAB : ∀ q, B q → A q) : vx_L C n d B U H := by
  obtain ⟨c, k, i, f, a, cell, h1, h2, h3, h4, h5, h6, h7, h8, h9, h10⟩ := h
  exact ⟨c, k, i, f, a, cell, h1, h2, h3, h4, h5, h6, h7, h8, h9, fun z => h10 (hAB _ z)⟩
theorem vx_L.word {C n d : String} {A : Nat → Prop} {s : State} {args : Array Value} (h : vx_L C n d A s s.heap) : (Cond.laysStatic C n d).before args s = true := by
  obtain ⟨c, k, i, f, a, cell, h1, h2, h3, h4, h5, h6, h7, h8, h9, -⟩ := h
  show (Cond.laysStatic C n d).holds args s none s [] = true
  exact Cond.laysStatic_of h1 h2 h3 h4 h5 h6 h7 h8 h9
/-- .. and what it holds: null or some reference -/
def vx_Zq (C n d : String) (A : Nat → Prop) (U : State) (H : Heap) : Prop := va_Zq C n d A U H ∧ vx_L C n d A U H
theorem vx_Zq.moved {C n d : String} {A : Nat → Prop} {u U : State} {H : Heap} (hvm : u.vm.Alike U.vm) (h : vx_Zq C n d A u H) : vx_Zq C n d A U H := ⟨va_Zq.moved hvm h.1, vx_L.moved hvm h.2⟩
theorem vx_Zq.kept {C n d : String} {A : Nat → Prop} {U : State} {H H1 : Heap} (h : vx_Zq C n d A U H) (hq : ∀ a : Nat, a < H.size → ¬ A a → H1[a]? = H[a]?) : vx_Zq C n d A U H1 := ⟨va_Zq.kept h.1 hq, vx_L.kept h.2 hq⟩
theorem vx_Zq.narrow {C n d : String} {A B : Nat → Prop} {U : State} {H : Heap} (h : vx_Zq C n d A U H) (hAB : ∀ q, B q → A q) : vx_Zq C n d B U H := ⟨va_Zq.narrow h.1 hAB, vx_L.narrow h.2 hAB⟩
theorem vx_Zqof {args : Array Value} {s : State} {C n d : String} {A : Nat → Prop} (hl : (Cond.laysStatic C n d).before args s = true) (hini : (Cond.initialized C).before args s = true) (h : (Cond.isRef (.static C n d)).before args s = true) (hA : ∀ a : Nat, a < s.heap.size → ¬ A a) : vx_Zq C n d A s s.heap := by
  refine ⟨va_Zqof hl hini h hA, ?_⟩
  obtain ⟨c, k, i, f, a, cell, h1, h2, h3, h4, h5, h6, h7, h8, h9⟩ := Cond.laysStatic_spec hl
  exact ⟨c, k, i, f, a, cell, h1, h2, h3, h4, h5, h6, h7, h8, h9, hA a (Array.getElem?_eq_some_iff.mp h5).1⟩
theorem vx_isRef {C n d : String} {v : Value} {A : Nat → Prop} {s : State} {args : Array Value} (h : va_Z C n d v A s s.heap) (hv : v.isRef = true) : (Cond.isRef (.static C n d)).before args s = true := by
  obtain ⟨cf, kf, fi, f, a, cell, h1, h2, h3, h4, h5, h6, h7, -⟩ := h
  have he : (Term.static C n d).eval args s none [] s = some v := by
    simp [Term.eval, State.fieldNamed?, h1, h2, h4, h5, h6, h7]
  simp only [Cond.before, Cond.holds, Cond.value, he]
  cases v <;> simp_all [Value.isRef]
theorem vx_isRefq {C n d : String} {A : Nat → Prop} {s : State} {args : Array Value} (h : va_Zq C n d A s s.heap) : (Cond.isRef (.static C n d)).before args s = true := by
  rcases h with h | ⟨t, h⟩
  · exact vx_isRef h rfl
  · exact vx_isRef h rfl
/-- the same frame, seen from here: as if the method were called anew in this heap -/
theorem vx_rebase {T : State} (X : Stand p l e R s m args below meth c T locs cells slots) {R' : Room} (hf : R'.frames ≤ R.frames) (hl : R'.locals ≤ R.locals) (hc : cells + R'.cells ≤ R.cells) (hs : slots + R'.slots ≤ R.slots) :
    Stand p l e R' ((T.setVm s.vm).setFrames (.invoking m args :: below)) m args below meth c T [] 0 0 := by
  have htop : (T.setVm s.vm).topJava?.isSome := X.here.top
  have hF : ((T.setVm s.vm).setFrames (.invoking m args :: below)).frames = .invoking m args :: below := State.frames_setFrames _ (State.cur_lt_of_top htop)
  obtain ⟨g₀, hg0⟩ := Option.isSome_iff_exists.mp htop
  obtain ⟨r, hr⟩ := State.topJava?_eq_some.mp hg0
  have hl9 : e.platform.stackLimits (T.setVm s.vm).me = e.platform.stackLimits s.me := X.limits
  have hb9 : (T.setVm s.vm).me.stackBytes = s.me.stackBytes := X.bytes
  refine ⟨X.admits, X.cas, X.clock, hF, ?_, X.hears, X.method, X.code, X.here, X.tail, X.warmed, ?_, ?_, ?_⟩
  · have h := X.room
    have hU : ((T.setVm s.vm).setFrames (.invoking m args :: below)).localsInUse = s.localsInUse := by
      rw [State.localsInUse_invoking hF (meth := meth) (c := c) X.method X.code, State.localsInUse_invoking X.frames X.method X.code]
    simp only [State.hasRoom, Bool.and_eq_true, decide_eq_true_eq] at h ⊢
    obtain ⟨⟨⟨⟨h1, h2, h3, h4, h5, h6⟩, h7⟩, h8⟩, h9⟩ := h
    rw [X.frames, List.length_cons] at h2 h3
    have q1 := X.heapSize
    have q2 := X.used
    simp only [hF, hU, List.length_cons, State.stackLimits_setFrames, State.stackBytes_setFrames, hl9, hb9]
    refine ⟨⟨⟨⟨by omega, by omega, by omega, by omega, by omega, h6⟩, ?_⟩, ?_⟩, X.book⟩
    · show T.heap.size + R'.cells ≤ e.platform.maxCells
      omega
    · show T.slotsUsed + R'.slots ≤ e.platform.maxSlots
      omega
  · rw [State.stackLimits_setFrames]; rfl
  · rw [State.stackBytes_setFrames]; rfl
  · refine ⟨?_, Nat.le_refl _, Nat.le_refl _, ?_, ?_, fun a c9 h9 => ⟨c9, h9, rfl, rfl, fun _ _ => rfl⟩⟩
    · obtain ⟨t, ht, -⟩ := State.frames_cons hr
      show T.setVm s.vm = { ((T.setVm s.vm).setFrames (.invoking m args :: below)).setFrames (T.setVm s.vm).frames with heap := T.heap, slotsUsed := T.slotsUsed }
      rw [State.setFrames_setFrames, State.setFrames_self ht]
      rfl
    · show T.slotsUsed = T.slotsUsed + ((T.heap.toList.drop T.heap.size).map (·.slots.size)).sum
      rw [List.drop_eq_nil_of_le (Nat.le_of_eq Array.length_toList)]
      rfl
    · show ((T.heap.toList.drop T.heap.size).map (·.slots.size)).sum ≤ 0
      rw [List.drop_eq_nil_of_le (Nat.le_of_eq Array.length_toList)]
      exact Nat.le_refl _
/-- 'throw new E()': new; dup; invokespecial; athrow -/
theorem vx_throw0 {cc : ByteArray} {pc : Nat} (hexec : p.tables.exec = Jvm.exec) (hb : c.code = cc) (hl : l.stackTraces = false) {own cls : String} {names : List String} {ik ic mc ms : Nat} {A : Nat → Prop}
    (hown : s.vm.findClass own = some m.cls) (hcls : Bundle.fit cls = true) (hnames : ∀ n ∈ names, Bundle.fit n = true)
    (hk : (Cond.classLink own ik cls).before args s = true) (hini : (Cond.initialized cls).before args s = true) (hat : ∀ w ∈ vx_at0 own ic cls names, w.before args s = true)
    (hgood : ∀ w ∈ Cond.classLink own ik cls :: Cond.initialized cls :: vx_at0 own ic cls names, vx_ot w = true)
    (hU : vx_Zq Bundle.tN "UNASSIGNED_STACK" Bundle.steD A s s.heap) (hN : vx_Zq Bundle.tN "SUPPRESSED_SENTINEL" Bundle.listD A s s.heap) (hS : va_S A s.heap H locs) (hsize : ls.size = c.maxLocals)
    (d0 : decode cc pc = .ok (.new ik, 3)) (d3 : decode cc (pc + 3) = .ok (.dup, 1)) (d4 : decode cc (pc + 4) = .ok (.invokespecial ic, 3)) (d7 : decode cc (pc + 7) = .ok (.athrow, 1))
    (hout : ∀ x ∈ c.exceptionTable.toList, covers x (pc + 7) = false)
    (hRframes : names.length + 3 < R.frames) (hRlocals : (rest.map fun v => v.category).sum + (13 * (names.length + 1) + 42) ≤ R.locals) (hRcells : cells + 1 ≤ R.cells) (hRslots : slots + 6 ≤ R.slots) (hlocks : meth.locks = false)
    (hx : ∀ t : State, s.vm.Alike t.vm → H.size ≤ t.heap.size → (∀ q : Nat, q < H.size → t.heap[q]? = H[q]?) → XC cls s t)
    (hf : ∀ z ∈ locs, free z.base) (hc : cells + 1 ≤ mc) (hs : slots + 6 ≤ ms) :
    W p l e R s m args below meth c H locs cells slots (vx_MQ below Qc XC args s mc ms free) (F0 m pc ls rest) := by
  intro T hT X
  have htr : e.platform.stackTraces = false := (show e.platform.stackTraces = l.stackTraces by rw [X.admits.platform]).trans hl
  have Y := vx_rebase X (R' := { frames := R.frames, locals := R.locals, cells := 1, slots := 6 }) (Nat.le_refl _) (Nat.le_refl _) hRcells hRslots
  obtain ⟨s', hA⟩ : ∃ z, z = (T.setVm s.vm).setFrames (.invoking m args :: below) := ⟨_, rfl⟩
  rw [← hA] at Y
  have hvm : s'.vm = s.vm := by rw [hA]; rfl
  have hhp : s'.heap = H := by rw [hA]; exact hT
  have hW0 : s.WarmedH s'.vm := by rw [hvm]; exact State.WarmedH.refl s
  have hat' : ∀ w ∈ vx_at0 own ic cls names, w.before args s' = true := fun w hw => vx_ot_at hW0 hvm.symm (hgood w (List.mem_cons_of_mem _ (List.mem_cons_of_mem _ hw))) (hat w hw)
  have hk' : (Cond.classLink own ik cls).before args s' = true := vx_ot_at hW0 hvm.symm (hgood _ List.mem_cons_self) hk
  have hini' : (Cond.initialized cls).before args s' = true := vx_ot_at hW0 hvm.symm (hgood _ (List.mem_cons_of_mem _ List.mem_cons_self)) hini
  have hU' : vx_Zq Bundle.tN "UNASSIGNED_STACK" Bundle.steD A s' s'.heap := by rw [hhp]; exact vx_Zq.moved hW0.alike (hU.kept hS.2.1)
  have hN' : vx_Zq Bundle.tN "SUPPRESSED_SENTINEL" Bundle.listD A s' s'.heap := by rw [hhp]; exact vx_Zq.moved hW0.alike (hN.kept hS.2.1)
  have h : ∀ w ∈ Bundle.ownAtoms0 own ic cls names, w.before args s' = true := vx_own hat' (vx_isRefq hU'.1) (vx_isRefq hN'.1) hU'.2.word hN'.2.word
  have hown' : s'.vm.findClass own = some m.cls := by rw [hvm]; exact hown
  have hins : (Cond.instantiable cls 6).before args s' = true := h _ (by simp [Bundle.ownAtoms0])
  obtain ⟨vm₁, cX, kX, hfX, hkX, -, -, X₁, st1⟩ := Y.newCold hexec (own := own) (C := cls) (index := ik) (n := 6) hown' hk' hins hini'
    (g := F0 m pc ls rest) rfl (by rw [hb]; exact d0) (Nat.le_refl _) (Nat.le_refl _)
  generalize hT1 : (T.setVm vm₁).pushCell { cls := cX, slots := kX.instanceTypes.map defaultValue, vm := .none } = T1 at X₁ st1
  have hcat : (Value.ref T.heap.size).category = 1 := rfl
  have hcellA : T1.heap[T.heap.size]? = some (freshCell cX kX) := by rw [← hT1]; exact State.heap_pushCell_size _ _
  have d3' : decode c.code (pc + 3) = .ok (.dup, 1) := by rw [hb]; exact d3
  obtain ⟨U, hsteps, hrun, hend, hW, hsame, ce, hce, hO⟩ := X₁.ctorThrow0 hexec htr (own := own) (cls := cls) (names := names) (ic := ic) hown' hcls hnames h (fun x hx => nomatch hx) hfX hkX hcellA (by rw [hhp, hT]; exact Nat.le_refl _)
    (g := { method := m, pc := pc + 4, locals := ls, stack := .ref T.heap.size :: .ref T.heap.size :: rest, locked := none }) rfl hsize rfl rfl (rest := rest) rfl
    (by rw [hb]; exact d4) (by rw [hb]; exact d7) hout hRframes (by simp only [List.map_cons, List.sum_cons, hcat]; omega) hlocks
  obtain ⟨f1, f2⟩ := vx_frame hsame
  rw [hhp] at f1 f2
  have hWs : s.WarmedH U.vm := State.WarmedH.trans hW0 hW
  have hcl : s.vm.findClass cls = some ce.cls := by
    have h9 := hO.cls
    rw [hvm] at h9
    exact h9
  have hall : s.sameButNew ({ U with vm := s.vm } : State) locs mc ms := by
    subst hA
    obtain ⟨e1, e2⟩ := hsame
    rw [State.setFrames_setFrames] at e1
    have h2 : (T.setVm s.vm).sameButNew ({ U with vm := s.vm } : State) [] (0 + 1) (0 + 6) := ⟨e1, e2⟩
    have h3 := X.same.trans h2
    rw [List.append_nil] at h3
    exact h3.mono hc hs
  refine ⟨U, ?_, .threw T.heap.size, hrun, hend, Or.inr ⟨T.heap.size, rfl, cls, ce, locs, hx U hWs.alike f1 (fun q hq => f2 q hq (fun z hz => nomatch hz)), hce, hO.vm, hcl, hWs, hall, hf⟩⟩
  refine st1 _ ?_
  show Steps p.tables e below (T1.setTop { method := m, pc := pc + 3, locals := ls, stack := .ref T.heap.size :: rest, locked := none }) _
  jvm_step X₁.here [X₁.here.top, hexec, d3', Value.category]
  exact hsteps
/-- 'throw new E("text")': new; dup; ldc; invokespecial; athrow -/
theorem vx_throwS {cc : ByteArray} {pc : Nat} (hexec : p.tables.exec = Jvm.exec) (hb : c.code = cc) (hl : l.stackTraces = false) {own cls text : String} {names : List String} {ik is ic mc ms sa : Nat} {A : Nat → Prop}
    (hown : s.vm.findClass own = some m.cls) (hcls : Bundle.fit cls = true) (hnames : ∀ n ∈ names, Bundle.fit n = true)
    (hk : (Cond.classLink own ik cls).before args s = true) (hini : (Cond.initialized cls).before args s = true) (hstr : vk_R own is text sa s) (hat : ∀ w ∈ vx_atS own ic cls names, w.before args s = true)
    (hgood : ∀ w ∈ Cond.classLink own ik cls :: Cond.initialized cls :: vx_atS own ic cls names, vx_ot w = true)
    (hU : vx_Zq Bundle.tN "UNASSIGNED_STACK" Bundle.steD A s s.heap) (hN : vx_Zq Bundle.tN "SUPPRESSED_SENTINEL" Bundle.listD A s s.heap) (hS : va_S A s.heap H locs) (hsize : ls.size = c.maxLocals)
    (d0 : decode cc pc = .ok (.new ik, 3)) (d3 : decode cc (pc + 3) = .ok (.dup, 1)) (d4 : decode cc (pc + 4) = .ok (.ldc is, 2)) (d6 : decode cc (pc + 6) = .ok (.invokespecial ic, 3)) (d9 : decode cc (pc + 9) = .ok (.athrow, 1))
    (hout : ∀ x ∈ c.exceptionTable.toList, covers x (pc + 9) = false)
    (hRframes : names.length + 3 < R.frames) (hRlocals : (rest.map fun v => v.category).sum + (13 * (names.length + 1) + 43) ≤ R.locals) (hRcells : cells + 1 ≤ R.cells) (hRslots : slots + 6 ≤ R.slots) (hlocks : meth.locks = false)
    (hx : ∀ t : State, s.vm.Alike t.vm → H.size ≤ t.heap.size → (∀ q : Nat, q < H.size → t.heap[q]? = H[q]?) → XC cls s t)
    (hf : ∀ z ∈ locs, free z.base) (hc : cells + 1 ≤ mc) (hs : slots + 6 ≤ ms) :
    W p l e R s m args below meth c H locs cells slots (vx_MQ below Qc XC args s mc ms free) (F0 m pc ls rest) := by
  intro T hT X
  have htr : e.platform.stackTraces = false := (show e.platform.stackTraces = l.stackTraces by rw [X.admits.platform]).trans hl
  have Y := vx_rebase X (R' := { frames := R.frames, locals := R.locals, cells := 1, slots := 6 }) (Nat.le_refl _) (Nat.le_refl _) hRcells hRslots
  obtain ⟨s', hA⟩ : ∃ z, z = (T.setVm s.vm).setFrames (.invoking m args :: below) := ⟨_, rfl⟩
  rw [← hA] at Y
  have hvm : s'.vm = s.vm := by rw [hA]; rfl
  have hhp : s'.heap = H := by rw [hA]; exact hT
  have hW0 : s.WarmedH s'.vm := by rw [hvm]; exact State.WarmedH.refl s
  have hat' : ∀ w ∈ vx_atS own ic cls names, w.before args s' = true := fun w hw => vx_ot_at hW0 hvm.symm (hgood w (List.mem_cons_of_mem _ (List.mem_cons_of_mem _ hw))) (hat w hw)
  have hk' : (Cond.classLink own ik cls).before args s' = true := vx_ot_at hW0 hvm.symm (hgood _ List.mem_cons_self) hk
  have hini' : (Cond.initialized cls).before args s' = true := vx_ot_at hW0 hvm.symm (hgood _ (List.mem_cons_of_mem _ List.mem_cons_self)) hini
  have hU' : vx_Zq Bundle.tN "UNASSIGNED_STACK" Bundle.steD A s' s'.heap := by rw [hhp]; exact vx_Zq.moved hW0.alike (hU.kept hS.2.1)
  have hN' : vx_Zq Bundle.tN "SUPPRESSED_SENTINEL" Bundle.listD A s' s'.heap := by rw [hhp]; exact vx_Zq.moved hW0.alike (hN.kept hS.2.1)
  have h : ∀ w ∈ Bundle.ownAtoms own ic cls names, w.before args s' = true := vx_own hat' (vx_isRefq hU'.1) (vx_isRefq hN'.1) hU'.2.word hN'.2.word
  have hown' : s'.vm.findClass own = some m.cls := by rw [hvm]; exact hown
  have hins : (Cond.instantiable cls 6).before args s' = true := h _ (by simp [Bundle.ownAtoms])
  obtain ⟨vm₁, cX, kX, hfX, hkX, -, -, X₁, st1⟩ := Y.newCold hexec (own := own) (C := cls) (index := ik) (n := 6) hown' hk' hins hini'
    (g := F0 m pc ls rest) rfl (by rw [hb]; exact d0) (Nat.le_refl _) (Nat.le_refl _)
  generalize hT1 : (T.setVm vm₁).pushCell { cls := cX, slots := kX.instanceTypes.map defaultValue, vm := .none } = T1 at X₁ st1
  have hcat : (Value.ref T.heap.size).category = 1 := rfl
  have hcellA : T1.heap[T.heap.size]? = some (freshCell cX kX) := by rw [← hT1]; exact State.heap_pushCell_size _ _
  have d3' : decode c.code (pc + 3) = .ok (.dup, 1) := by rw [hb]; exact d3
  have d4' : decode c.code (pc + 4) = .ok (.ldc is, 2) := by rw [hb]; exact d4
  have hstr' : vk_R own is text sa s' := vk_R.warm hW0 hstr
  obtain ⟨U, hsteps, hrun, hend, hW, hsame, ce, hce, hO⟩ := X₁.ctorThrowS hexec htr (own := own) (cls := cls) (names := names) (ic := ic) hown' hcls hnames h (fun x hx => nomatch hx) hfX hkX hcellA (by rw [hhp, hT]; exact Nat.le_refl _) (msg := .ref sa) rfl
    (g := { method := m, pc := pc + 6, locals := ls, stack := .ref sa :: .ref T.heap.size :: .ref T.heap.size :: rest, locked := none }) rfl hsize rfl rfl (rest := rest) rfl
    (by rw [hb]; exact d6) (by rw [hb]; exact d9) hout hRframes (by simp only [List.map_cons, List.sum_cons, hcat]; omega) hlocks
  obtain ⟨f1, f2⟩ := vx_frame hsame
  rw [hhp] at f1 f2
  have hWs : s.WarmedH U.vm := State.WarmedH.trans hW0 hW
  have hcl : s.vm.findClass cls = some ce.cls := by
    have h9 := hO.cls
    rw [hvm] at h9
    exact h9
  have hall : s.sameButNew ({ U with vm := s.vm } : State) locs mc ms := by
    subst hA
    obtain ⟨e1, e2⟩ := hsame
    rw [State.setFrames_setFrames] at e1
    have h2 : (T.setVm s.vm).sameButNew ({ U with vm := s.vm } : State) [] (0 + 1) (0 + 6) := ⟨e1, e2⟩
    have h3 := X.same.trans h2
    rw [List.append_nil] at h3
    exact h3.mono hc hs
  refine ⟨U, ?_, .threw T.heap.size, hrun, hend, Or.inr ⟨T.heap.size, rfl, cls, ce, locs, hx U hWs.alike f1 (fun q hq => f2 q hq (fun z hz => nomatch hz)), hce, hO.vm, hcl, hWs, hall, hf⟩⟩
  refine st1 _ ?_
  show Steps p.tables e below (T1.setTop { method := m, pc := pc + 3, locals := ls, stack := .ref T.heap.size :: rest, locked := none }) _
  jvm_step X₁.here [X₁.here.top, hexec, d3', Value.category]
  exact X₁.ldcString hexec (own := own) (text := text) (index := is) (a := sa) hown' hstr'.1 hstr'.2
    (g := { method := m, pc := pc + 4, locals := ls, stack := .ref T.heap.size :: .ref T.heap.size :: rest, locked := none }) rfl d4' _ hsteps
/-- 'throw new E("text")', the text by a wide index -/
theorem vx_throwSW {cc : ByteArray} {pc : Nat} (hexec : p.tables.exec = Jvm.exec) (hb : c.code = cc) (hl : l.stackTraces = false) {own cls text : String} {names : List String} {ik is ic mc ms sa : Nat} {A : Nat → Prop}
    (hown : s.vm.findClass own = some m.cls) (hcls : Bundle.fit cls = true) (hnames : ∀ n ∈ names, Bundle.fit n = true)
    (hk : (Cond.classLink own ik cls).before args s = true) (hini : (Cond.initialized cls).before args s = true) (hstr : vk_R own is text sa s) (hat : ∀ w ∈ vx_atS own ic cls names, w.before args s = true)
    (hgood : ∀ w ∈ Cond.classLink own ik cls :: Cond.initialized cls :: vx_atS own ic cls names, vx_ot w = true)
    (hU : vx_Zq Bundle.tN "UNASSIGNED_STACK" Bundle.steD A s s.heap) (hN : vx_Zq Bundle.tN "SUPPRESSED_SENTINEL" Bundle.listD A s s.heap) (hS : va_S A s.heap H locs) (hsize : ls.size = c.maxLocals)
    (d0 : decode cc pc = .ok (.new ik, 3)) (d3 : decode cc (pc + 3) = .ok (.dup, 1)) (d4 : decode cc (pc + 4) = .ok (.ldc_w is, 3)) (d7 : decode cc (pc + 7) = .ok (.invokespecial ic, 3)) (d10 : decode cc (pc + 10) = .ok (.athrow, 1))
    (hout : ∀ x ∈ c.exceptionTable.toList, covers x (pc + 10) = false)
    (hRframes : names.length + 3 < R.frames) (hRlocals : (rest.map fun v => v.category).sum + (13 * (names.length + 1) + 43) ≤ R.locals) (hRcells : cells + 1 ≤ R.cells) (hRslots : slots + 6 ≤ R.slots) (hlocks : meth.locks = false)
    (hx : ∀ t : State, s.vm.Alike t.vm → H.size ≤ t.heap.size → (∀ q : Nat, q < H.size → t.heap[q]? = H[q]?) → XC cls s t)
    (hf : ∀ z ∈ locs, free z.base) (hc : cells + 1 ≤ mc) (hs : slots + 6 ≤ ms) :
    W p l e R s m args below meth c H locs cells slots (vx_MQ below Qc XC args s mc ms free) (F0 m pc ls rest) := by
  intro T hT X
  have htr : e.platform.stackTraces = false := (show e.platform.stackTraces = l.stackTraces by rw [X.admits.platform]).trans hl
  have Y := vx_rebase X (R' := { frames := R.frames, locals := R.locals, cells := 1, slots := 6 }) (Nat.le_refl _) (Nat.le_refl _) hRcells hRslots
  obtain ⟨s', hA⟩ : ∃ z, z = (T.setVm s.vm).setFrames (.invoking m args :: below) := ⟨_, rfl⟩
  rw [← hA] at Y
  have hvm : s'.vm = s.vm := by rw [hA]; rfl
  have hhp : s'.heap = H := by rw [hA]; exact hT
  have hW0 : s.WarmedH s'.vm := by rw [hvm]; exact State.WarmedH.refl s
  have hat' : ∀ w ∈ vx_atS own ic cls names, w.before args s' = true := fun w hw => vx_ot_at hW0 hvm.symm (hgood w (List.mem_cons_of_mem _ (List.mem_cons_of_mem _ hw))) (hat w hw)
  have hk' : (Cond.classLink own ik cls).before args s' = true := vx_ot_at hW0 hvm.symm (hgood _ List.mem_cons_self) hk
  have hini' : (Cond.initialized cls).before args s' = true := vx_ot_at hW0 hvm.symm (hgood _ (List.mem_cons_of_mem _ List.mem_cons_self)) hini
  have hU' : vx_Zq Bundle.tN "UNASSIGNED_STACK" Bundle.steD A s' s'.heap := by rw [hhp]; exact vx_Zq.moved hW0.alike (hU.kept hS.2.1)
  have hN' : vx_Zq Bundle.tN "SUPPRESSED_SENTINEL" Bundle.listD A s' s'.heap := by rw [hhp]; exact vx_Zq.moved hW0.alike (hN.kept hS.2.1)
  have h : ∀ w ∈ Bundle.ownAtoms own ic cls names, w.before args s' = true := vx_own hat' (vx_isRefq hU'.1) (vx_isRefq hN'.1) hU'.2.word hN'.2.word
  have hown' : s'.vm.findClass own = some m.cls := by rw [hvm]; exact hown
  have hins : (Cond.instantiable cls 6).before args s' = true := h _ (by simp [Bundle.ownAtoms])
  obtain ⟨vm₁, cX, kX, hfX, hkX, -, -, X₁, st1⟩ := Y.newCold hexec (own := own) (C := cls) (index := ik) (n := 6) hown' hk' hins hini'
    (g := F0 m pc ls rest) rfl (by rw [hb]; exact d0) (Nat.le_refl _) (Nat.le_refl _)
  generalize hT1 : (T.setVm vm₁).pushCell { cls := cX, slots := kX.instanceTypes.map defaultValue, vm := .none } = T1 at X₁ st1
  have hcat : (Value.ref T.heap.size).category = 1 := rfl
  have hcellA : T1.heap[T.heap.size]? = some (freshCell cX kX) := by rw [← hT1]; exact State.heap_pushCell_size _ _
  have d3' : decode c.code (pc + 3) = .ok (.dup, 1) := by rw [hb]; exact d3
  have d4' : decode c.code (pc + 4) = .ok (.ldc_w is, 3) := by rw [hb]; exact d4
  have hstr' : vk_R own is text sa s' := vk_R.warm hW0 hstr
  obtain ⟨U, hsteps, hrun, hend, hW, hsame, ce, hce, hO⟩ := X₁.ctorThrowS hexec htr (own := own) (cls := cls) (names := names) (ic := ic) hown' hcls hnames h (fun x hx => nomatch hx) hfX hkX hcellA (by rw [hhp, hT]; exact Nat.le_refl _) (msg := .ref sa) rfl
    (g := { method := m, pc := pc + 7, locals := ls, stack := .ref sa :: .ref T.heap.size :: .ref T.heap.size :: rest, locked := none }) rfl hsize rfl rfl (rest := rest) rfl
    (by rw [hb]; exact d7) (by rw [hb]; exact d10) hout hRframes (by simp only [List.map_cons, List.sum_cons, hcat]; omega) hlocks
  obtain ⟨f1, f2⟩ := vx_frame hsame
  rw [hhp] at f1 f2
  have hWs : s.WarmedH U.vm := State.WarmedH.trans hW0 hW
  have hcl : s.vm.findClass cls = some ce.cls := by
    have h9 := hO.cls
    rw [hvm] at h9
    exact h9
  have hall : s.sameButNew ({ U with vm := s.vm } : State) locs mc ms := by
    subst hA
    obtain ⟨e1, e2⟩ := hsame
    rw [State.setFrames_setFrames] at e1
    have h2 : (T.setVm s.vm).sameButNew ({ U with vm := s.vm } : State) [] (0 + 1) (0 + 6) := ⟨e1, e2⟩
    have h3 := X.same.trans h2
    rw [List.append_nil] at h3
    exact h3.mono hc hs
  refine ⟨U, ?_, .threw T.heap.size, hrun, hend, Or.inr ⟨T.heap.size, rfl, cls, ce, locs, hx U hWs.alike f1 (fun q hq => f2 q hq (fun z hz => nomatch hz)), hce, hO.vm, hcl, hWs, hall, hf⟩⟩
  refine st1 _ ?_
  show Steps p.tables e below (T1.setTop { method := m, pc := pc + 3, locals := ls, stack := .ref T.heap.size :: rest, locked := none }) _
  jvm_step X₁.here [X₁.here.top, hexec, d3', Value.category]
  exact X₁.ldcStringW hexec (own := own) (text := text) (index := is) (a := sa) hown' hstr'.1 hstr'.2
    (g := { method := m, pc := pc + 4, locals := ls, stack := .ref T.heap.size :: .ref T.heap.size :: rest, locked := none }) rfl d4' _ hsteps
end Ends
section Bodies
variable {l : Launch}
theorem vx_ofW {y : MethodName} {ws ws' : List Cond} {rm : Room} {Pc : Array Value → State → Prop} {Qc : Array Value → State → Outcome → State → Prop} {XC : String → State → State → Prop} {mc ms : Nat} {free : Addr → Prop} {cc : ByteArray} {maxL : Nat} {ret : Option FieldType}
    (hy : plainName y.cls = true) (hw : ws = Cond.code y cc maxL ret :: ws')
    (body : ∀ p e s m args below meth c s₁, BodyLoose p l y (headSpec ws rm) cc maxL ret e s m args below meth c s₁ → c.maxLocals = maxL → (∀ x ∈ c.exceptionTable.toList, False) → Pc args s →
      W p l e (headSpec ws rm).room s m args below meth c s.heap [] 0 0 (vx_MQ below Qc XC args s mc ms free) (entryFrame m args maxL)) : vx_Met l y ws rm Pc Qc XC mc ms free := by
  refine MetFree.of_bodyS (code := cc) (maxLocals := maxL) (ret := ret) hy ?_ ?_
  · intro args s m h hn
    obtain ⟨meth, c, h1, h2, h3, h4, h5, h6, -, -⟩ := Cond.code_spec hn (atoms_spec (ws := ws) h _ (by rw [hw]; exact List.mem_cons_self))
    exact ⟨meth, c, h1, h2, h3, h4, h5, h6⟩
  · intro p e s m args below meth c s₁ B hml hP _
    have hh0 : s₁.heap = s.heap := by rw [B.state]; rfl
    have ht : ∀ x ∈ c.exceptionTable.toList, False := by
      obtain ⟨meth9, c9, h1, h2, -, -, -, -, h7, -⟩ := Cond.code_spec B.named (atoms_spec (ws := ws) B.pre _ (by rw [hw]; exact List.mem_cons_self))
      cases Option.some.inj (h1.symm.trans B.method)
      cases Option.some.inj (h2.symm.trans (Stand.of_body B).code)
      intro x hx
      rw [Array.isEmpty_iff.mp h7] at hx
      cases hx
    obtain ⟨t, a1, o, b1, b2, b3⟩ := body p e s m args below meth c s₁ B hml ht hP s₁ hh0 (Stand.of_body B)
    exact ⟨t, o, a1, b1, b2, b3⟩
/-- the table of a body with handlers -/
theorem vx_table {p : Program} {x y : MethodName} {S : Spec} {cc bytes : ByteArray} {maxL maxL' : Nat} {ret ret' : Option FieldType} {e : Env} {s s₁ : State} {m : MethodId} {args : Array Value} {below : List Frame} {meth : Method} {c : Code} {hh : List (Nat × Nat × Nat × Nat)}
    (B : BodyLoose p l y S cc maxL ret e s m args below meth c s₁) (h : (Cond.codeWith y bytes maxL' ret' hh).before args s = true) : c.exceptionTable.toList = tableOf hh := by
  obtain ⟨m9, meth9, c9, hn9, h1, h2, -, -, h6, -⟩ := Cond.codeWith_spec h
  cases Option.some.inj (hn9.symm.trans B.named)
  cases Option.some.inj (h1.symm.trans B.method)
  cases Option.some.inj (h2.symm.trans (Stand.of_body B).code)
  rw [← h6, table_eq]
end Bodies
end VXA
/-! ===== END ===== -/
/-! ===== BEGIN a static call of a method with an exception table ===== -/
section VXS
variable {p : Program} {l : Launch} {e : Env} {R : Room} {s : State} {m : MethodId} {args : Array Value} {below : List Frame} {meth : Method} {c : Code} {T : State} {H : Heap} {locs : List Loc} {cells slots : Nat}
abbrev vx_CSW (R : Room) (s : State) (args : Array Value) (own : String) (index : Nat) (y : MethodName) (bytes : ByteArray) (maxL : Nat) (ret : Option FieldType) (hh : List (Nat × Nat × Nat × Nat)) (ws : List Cond) (rm : Room) (mc ms n : Nat) : Prop :=
  (rm.cells = mc ∧ rm.slots = ms ∧ rm.frames + 1 ≤ R.frames ∧ 8 + (maxL + 11) + rm.locals ≤ R.locals ∧ (∀ w ∈ ws, ∀ (a' : Array Value) (U : State), s.WarmedH U.vm → w.before a' U = true) ∧ Cond.codeWith y bytes maxL ret hh ∈ ws) ∧
  (Cond.codeWith y bytes maxL ret hh).before args s = true ∧ (Cond.initialized y.cls).before args s = true ∧ (y.cls ≠ "java/lang/invoke/MethodHandle" ∧ y.cls ≠ "java/lang/invoke/VarHandle") ∧
  (∀ sig, parseMethodDescriptor y.desc = some sig → n = sig.parameters.length) ∧ (Cond.methodLink own index y).before args s = true ∧ (Cond.static y).before args s = true
theorem vx_cwSW {own : String} {index maxL mc ms : Nat} {y : MethodName} {bytes : ByteArray} {ret : Option FieldType} {hh : List (Nat × Nat × Nat × Nat)} {Ts ws ws' : List Cond} {rm : Room} (n : Nat) (ht : ∀ w ∈ Ts, w.before args s = true) (hT : GoodIn Ts (va_wsS own index y ws)) (hw : ws = Cond.codeWith y bytes maxL ret hh :: ws') (hrc : rm.cells = mc) (hrs : rm.slots = ms)
    (hd : y.cls ≠ "java/lang/invoke/MethodHandle" ∧ y.cls ≠ "java/lang/invoke/VarHandle" ∧ (parseMethodDescriptor y.desc).map (fun d => d.parameters.length) = some n) (hR : rm.frames + 1 ≤ R.frames ∧ 8 + (maxL + 11) + rm.locals ≤ R.locals) :
    vx_CSW R s args own index y bytes maxL ret hh ws rm mc ms n := by
  have ok : ∀ w ∈ va_wsS own index y ws, w.before args s = true := fun w h => ht w (hT w h).1
  have hG : GoodIn Ts ws := fun w h => hT w (by unfold va_wsS; exact List.mem_append_right _ h)
  have hc : Cond.codeWith y bytes maxL ret hh ∈ ws := by rw [hw]; exact List.mem_cons_self
  refine ⟨⟨hrc, hrs, hR.1, hR.2, pay_in ht hG, hc⟩, ht _ (hG _ hc).1, ok _ (by simp [va_wsS]), ⟨hd.1, hd.2.1⟩, fun sig h => ?_, ok _ (by simp [va_wsS]), ok _ (by simp [va_wsS])⟩
  have h2 := hd.2.2
  rw [h] at h2
  exact (Option.some.inj h2).symm
theorem vx_callSW (X : Stand p l e R s m args below meth c T locs cells slots) (hexec : p.tables.exec = Jvm.exec) {own : String} {index : Nat} {y : MethodName} {bytes : ByteArray} {maxL : Nat} {ret : Option FieldType} {hh : List (Nat × Nat × Nat × Nat)}
    (hown : s.vm.findClass own = some m.cls) (hlink : (Cond.methodLink own index y).before args s = true) (hstat : (Cond.static y).before args s = true) (hinit : (Cond.initialized y.cls).before args s = true)
    (hcode : (Cond.codeWith y bytes maxL ret hh).before args s = true) (hy : y.cls ≠ "java/lang/invoke/MethodHandle" ∧ y.cls ≠ "java/lang/invoke/VarHandle")
    {W9 : Nat} {Pre : Pt → Array Value → Prop} {Post : Pt → Array Value → Option Value → Pt → Prop} (hK : Back l R p e below s args y 3 W9 Pre Post)
    {g : JFrame} (hg : g.method = m) (hsize : g.locals.size = c.maxLocals) {argsL rest : List Value} (hlen : ∀ sig, parseMethodDescriptor y.desc = some sig → argsL.length = sig.parameters.length)
    (hstack : g.stack = argsL.reverse ++ rest) (hW : 2 * g.monitorRoom + (rest.map fun v => v.category).sum ≤ W9) (hdg : decode c.code g.pc = .ok (.invokestatic index, 3))
    (hpre : ∀ vm₁, s.WarmedH vm₁ → Pre ⟨T.setVm vm₁, locs, cells, slots⟩ argsL.toArray) :
    ∃ (v : Option Value) (vm₁ : Vm) (B : Pt), s.WarmedH vm₁ ∧ Stand p l e R s m args below meth c B.U B.locs B.cells B.slots ∧ Post ⟨T.setVm vm₁, locs, cells, slots⟩ argsL.toArray v B ∧
      ∀ target, Steps p.tables e below (B.U.setTop { g with pc := g.pc + 3, stack := v.toList ++ rest }) target → Steps p.tables e below (T.setTop g) target := by
  obtain ⟨mk, methM, cM, hnamed, hmethM, -, -, -, -, -, -, hsigM⟩ := Cond.codeWith_spec hcode
  have hstatic : methM.isStatic = true := Cond.static_spec hnamed hmethM hstat
  obtain ⟨kP, hkP, -⟩ := className_of_methodNamed hnamed
  have hinitP : kP.init = .initialized := Cond.initialized_spec (findClass_of_methodNamed hnamed) hkP hinit
  obtain ⟨vm₁, X₁, hstep₁⟩ := X.invokestatic hexec hown hlink hnamed hmethM hstatic hkP hinitP hy (g := g) hg (argsL := argsL) (rest := rest) (hlen _ hsigM) hstack hdg
  obtain ⟨v, B, X', hpost, hsteps⟩ := hK m meth c ⟨T.setVm vm₁, locs, cells, slots⟩ { g with stack := rest } (.invokestatic index) mk argsL.toArray X₁ hg hsize hdg hW (X₁.named hnamed) (hpre vm₁ X₁.warmed)
  exact ⟨v, vm₁, B, X₁.warmed, X', hpost, fun target h => hstep₁ _ fun acts => by rw [doInvoke_state]; exact hsteps.trans h⟩
theorem vx_runSW {y : MethodName} {bytes cc : ByteArray} {maxL nL mc ms n index : Nat} {ret : Option FieldType} {hh : List (Nat × Nat × Nat × Nat)} {ws : List Cond} {rm : Room} {Pc : Array Value → State → Prop} {Qc : Array Value → State → Outcome → State → Prop} {free : Addr → Prop} {Ts : List Cond} {own : String} {As rest : List Value} {g : JFrame}
    (S : CallFix p m c cc nL s args Ts own) (hM : Met l y ws rm Pc Qc mc ms free) (cw : vx_CSW R s args own index y bytes maxL ret hh ws rm mc ms n) (hp : PreS s H Pc As)
    (hg : g.method = m) (hn : As.length = n) (hsize : g.locals.size = nL) (hstack : g.stack = As.reverse ++ rest) (hW : 2 * g.monitorRoom + (rest.map fun v => v.category).sum ≤ 8) (hdg : decode cc g.pc = .ok (.invokestatic index, 3)) (hf : cells + mc ≤ R.cells ∧ slots + ms ≤ R.slots) :
    va_Run p l e R s m args below meth c H locs cells slots mc ms g rest (Qc As.toArray) (free) := by
  obtain ⟨⟨hrc, hrs, hfr, hlo, hws, hcw⟩, hcode, hini, hy, hlen, hl, hstt⟩ := cw
  have hK : Back l R p e below s args y 3 8 (PreOf R mc ms Pc) (PostOf Qc mc ms free) := va_backW (hh := hh) (bytes := bytes) (maxL := maxL) (ret := ret) hM hp.1 hrc hrs hfr hlo hws hcw (fun a' U hW => word_at hW (Or.inl (by first | rfl | simp [Cond.onTables, Cond.keeps, Cond.steady])) hini)
  obtain ⟨hx, hb, hml, ho, -⟩ := S
  intro T hT X
  obtain ⟨v, vm₁, ⟨U', l2, c2, s2⟩, hW₁, X', ⟨g', mk, t, L, e1, e2, hq, h1, hL, h2, h3⟩, st⟩ := vx_callSW X hx (hh := hh) (bytes := bytes) (maxL := maxL) (ret := ret) ho hl hstt hini hcode hy hK hg (hsize.trans hml.symm) (argsL := As) (rest := rest) (fun sig h => hn.trans (hlen sig h)) hstack hW (by rw [hb]; exact hdg)
    (fun vm₁ hW₁ => ⟨hf.1, hf.2, hp.2 (T.setVm vm₁) hT hW₁⟩)
  dsimp only [Pt.U, Pt.locs, Pt.cells, Pt.slots] at X' e1 e2 h1 h2 h3 st
  subst h1; subst h2; subst h3
  exact ⟨v, (T.setVm vm₁).calling g' mk As.toArray, t, U', L, hT, X', hL, e1, e2, hq, st⟩
/-- not caught here, past rows that name other classes: it goes on to the caller -/
theorem vx_outP {p : Program} {l : Launch} {e : Env} {R : Room} {s : State} {m : MethodId} {args : Array Value} {below : List Frame} {meth : Method} {c : Code} {H : Heap} {locs : List Loc} {cells slots : Nat} {free : Addr → Prop} {ls : Array Slot} {rest : List Value} {Qc : Array Value → State → Outcome → State → Prop} {XC : String → State → State → Prop}
    {pc : Nat} {own E : String} {ce : Cell} {q : Addr} {mc ms : Nat} (hown : s.vm.findClass own = some m.cls) (hlocks : meth.locks = false)
    (hpass : ∀ z ∈ c.exceptionTable.toList, covers z pc = false ∨ (z.catchType ≠ 0 ∧ ∃ nm : String, (Cond.classLink own z.catchType nm).before args s = true ∧ va_Nc E nm s)) (hcell : H[q]? = some ce) (hv : ce.vm = .none) (hcl : s.vm.findClass E = some ce.cls)
    (hx : ∀ t : State, t.heap = H → s.vm.Alike t.vm → XC E s t) (hf : ∀ z ∈ locs, free z.base) (hc : cells ≤ mc) (hs : slots ≤ ms) :
    vx_W p l e R s m args below meth c H locs cells slots (vx_MQ below Qc XC args s mc ms free) (F0 m pc ls rest) q := by
  intro T hT X
  have hpl : e.platform.magicAccessors = ({} : Platform).magicAccessors := by rw [X.admits.platform]
  obtain ⟨vm', hW', X', st⟩ := X.outThrough hlocks q (g := F0 m pc ls rest) rfl rfl rfl (cell := ce) (by rw [hT]; exact hcell) (by rw [hv]; rfl)
    (by obtain ⟨k9, h9, -⟩ := Vm.findClass_spec hcl; exact ⟨k9, h9⟩) (fun z hz => by
      rcases hpass z hz with h | ⟨hz0, nm, hl1, hn1⟩
      · exact Or.inl h
      · obtain ⟨c6, hc6, hcl6⟩ := Cond.classLink_spec hown hl1 e.platform hpl
        obtain ⟨a8, b8, h1, h2, h3⟩ := hn1
        cases Option.some.inj (h1.symm.trans hcl)
        cases Option.some.inj (h2.symm.trans hc6)
        exact Or.inr ⟨hz0, _, hcl6, h3⟩)
  obtain ⟨g₀, hfr⟩ := X'.frames_eq
  have hcell9 : ((T.setVm vm').setFrames (.throwing q :: below)).heap[q]? = some ce := by
    show T.heap[q]? = some ce
    rw [hT]; exact hcell
  have hend : Ended ((T.setVm vm').setFrames (.throwing q :: below)) below (.threw q) := State.frames_setFrames _ (State.cur_lt_of_frames hfr)
  refine ⟨(T.setVm vm').setFrames (.throwing q :: below), ?_, .threw q, X'.here.running, hend, Or.inr ⟨q, rfl, E, ce, locs, hx _ hT (X'.ends _).1.alike, hcell9, hv, hcl, (X'.ends _).1, (X'.ends _).2.mono hc hs, hf⟩⟩
  rw [X.pushThrowing_eq]
  exact st
/-- a thing of a world lies in the heap -/
theorem vx_lt {D : va_G} {cl : List vw_C} {ws : va_W} {H1 : Heap} (h : va_P D cl ws H1) {k : Nat} {q : Nat × va_E} (hk : ws[k]? = some q) : q.1 < H1.size := (h k q hk).lt
end VXS
/-! ===== END ===== -/
/-! ===== BEGIN methods with a table of their own: called by a name, returning or throwing ===== -/
section VXH
/-! vx_backW, vx_callVX, vx_callSX, vx_callVW, vx_runVW, vx_runVX, vx_runSX, vx_ofWH follow the same proofs as their sisters above (Free/Laws.lean, Shelf42/LK1.lean); vx_outP calls Shelf42/NT130.lean (outThrough). -/
section
variable {l : Launch} {R : Room} {p : Program} {e : Env} {below : List Frame} {s : State} {sargs : Array Value} {y : MethodName} {len W9 : Nat}
theorem vx_backW {ws : List Cond} {rm : Room} {Pc : Array Value → State → Prop} {Qc : Array Value → State → Outcome → State → Prop} {XC : String → State → State → Prop} {mc ms : Nat} {free : Addr → Prop} {bytes : ByteArray} {maxL : Nat} {ret : Option FieldType} {hh : List (Nat × Nat × Nat × Nat)}
    (hM : vx_Met l y ws rm Pc Qc XC mc ms free) (hblind : FrameBlind Pc) (hrc : rm.cells = mc) (hrs : rm.slots = ms)
    (hframes : rm.frames + 1 ≤ R.frames) (hlocals : W9 + (maxL + 11) + rm.locals ≤ R.locals)
    (hws : ∀ w ∈ ws, ∀ a' U, s.WarmedH U.vm → w.before a' U = true) (hcode : Cond.codeWith y bytes maxL ret hh ∈ ws) (hinit : ∀ a' U, s.WarmedH U.vm → (Cond.initialized y.cls).before a' U = true) :
    vx_Back l R p e below s sargs y len W9 (PreOf R mc ms Pc) (PostOf Qc mc ms free) (vx_Post XC mc ms free) := by
  intro m meth c A g ig mk a X hg hsize hdg hW hn hp
  have h1 : (headSpec ws rm).pre.before a A.U = true := atoms_intro fun w hw => hws w hw _ _ X.warmed
  have h2 : (Cond.codeWith y bytes maxL ret hh).before a A.U = true := hws _ hcode _ _ X.warmed
  have h3 : (Cond.initialized y.cls).before a A.U = true := hinit _ _ X.warmed
  have h4 : A.cells + (headSpec ws rm).room.cells ≤ R.cells := by rw [show (headSpec ws rm).room.cells = mc from hrc]; exact hp.1
  have h5 : A.slots + (headSpec ws rm).room.slots ≤ R.slots := by rw [show (headSpec ws rm).room.slots = ms from hrs]; exact hp.2.1
  have hPc : Pc a (A.U.calling g mk a) := hblind _ _ _ _ hp.2.2
  obtain ⟨U, Ls, c0, s0⟩ := A
  dsimp only [Pt.U, Pt.locs, Pt.cells, Pt.slots] at h1 h2 h3 h4 h5 X hn hPc ⊢
  obtain ⟨m9, methY, cY, hn9, hmY, hcY, -, hlY, -⟩ := Cond.codeWith_spec h2
  cases Option.some.inj (hn9.symm.trans hn)
  obtain ⟨kY, hkY, -⟩ := className_of_methodNamed hn
  have hinitY : kY.init = .initialized := Cond.initialized_spec (findClass_of_methodNamed hn) hkY h3
  have h : At U g.method c below := by rw [hg]; exact X.here
  have hlocals9 : W9 + (maxL + 11) + (headSpec ws rm).room.locals ≤ R.locals := hlocals
  have happ : (headSpec ws rm).appliesLoose y e.platform (U.calling g mk a) = true :=
    Spec.appliesLoose_calling (g := g) h hdg hn hkY hinitY
      (X.room_calling (g := g) (R' := (headSpec ws rm).room) hsize hmY hcY hframes (by rw [hlY]; omega) h4 h5) h1
  obtain ⟨mid, hmid⟩ := h.above
  have hfr : (U.setTop g).frames = (.java g :: mid) ++ below := by rw [State.frames_setTop' g h.top, hmid]; rfl
  obtain ⟨o, s₂, hsteps, -, hend, hq⟩ := Steps.callFree hM p X.admits X.cas X.clock (acts := []) hfr happ hPc trivial
  have hq' : vx_Q Qc XC mc ms free a (U.calling g mk a) o s₂ := hq
  rw [State.frames_setTop' g h.top] at hend
  obtain ⟨g₀, hg0⟩ := Option.isSome_iff_exists.mp h.top
  obtain ⟨r, hr⟩ := State.topJava?_eq_some.mp hg0
  have hr' : (({ U with heap := s₂.heap, slotsUsed := s₂.slotsUsed } : State).setVm s₂.vm).frames = .java g₀ :: r := hr
  rcases hq' with ⟨hqc, L, hfe, hL⟩ | ⟨q, rfl, E, ce, L, hx, hce, hcv, hcl, hW₂, hsm, hL⟩
  · obtain ⟨⟨v, rfl⟩, hW₂, e2, q2, q3, q4, q5, q6⟩ := id hfe
    have e3 : s₂ = ({ (U.calling g mk a).setFrames s₂.frames with heap := s₂.heap, slotsUsed := s₂.slotsUsed } : State).setVm s₂.vm := by
      have : s₂ = ({ s₂ with vm := (U.calling g mk a).vm } : State).setVm s₂.vm := rfl
      rw [e2] at this
      exact this
    obtain ⟨c₂, i₂, len₂, hc₂, hd₂, hf₂⟩ := hend
    have hW' : U.WarmedH s₂.vm := hW₂
    have hcc : c₂ = c := by
      have h1 : s₂.code? g.method = U.code? g.method := by
        rw [State.code?_eq, State.code?_eq, hW'.alike.method?]
      exact Option.some.inj (hc₂.symm.trans (h1.trans h.code))
    subst hcc
    have hlen : len₂ = len := by rw [hdg] at hd₂; cases hd₂; rfl
    subst hlen
    have hs₂ : s₂ = (({ U with heap := s₂.heap, slotsUsed := s₂.slotsUsed } : State).setVm s₂.vm).setTop { g with pc := g.pc + len₂, stack := v.toList ++ g.stack } := by
      refine e3.trans ?_
      rw [hf₂, State.calling_eq h.top, State.setFrames_setFrames, State.setTop_of_frames _ hr', hr]
      rfl
    have hsame : U.sameButNew ({ U with heap := s₂.heap, slotsUsed := s₂.slotsUsed } : State) L mc ms := by
      refine ⟨?_, q2, q3, q4, q5, q6⟩
      obtain ⟨t, ht, -⟩ := State.frames_cons hr
      show ({ U with heap := s₂.heap, slotsUsed := s₂.slotsUsed } : State) = { U.setFrames U.frames with heap := s₂.heap, slotsUsed := s₂.slotsUsed }
      rw [State.setFrames_self ht]
    subst hg
    refine Or.inl ⟨v, ⟨(({ U with heap := s₂.heap, slotsUsed := s₂.slotsUsed } : State).setVm s₂.vm), Ls ++ L, c0 + mc, s0 + ms⟩,
      ⟨X.admits, X.cas, X.clock, X.frames, X.room, X.hears, X.method, X.code, (X.here.setHeapUsed s₂.heap s₂.slotsUsed).setVm hW'.alike, X.tail, State.WarmedH.trans X.warmed hW', X.limits, X.bytes, X.same.trans (hsame.setVm s.vm)⟩,
      ⟨g, mk, s₂, L, rfl, rfl, hqc, rfl, hL, rfl, rfl⟩, ?_⟩
    show Steps p.tables e below _ ((({ U with heap := s₂.heap, slotsUsed := s₂.slotsUsed } : State).setVm s₂.vm).setTop { g with pc := g.pc + len₂, stack := v.toList ++ g.stack })
    rw [← hs₂]
    exact hsteps
  · obtain ⟨e2, q2, q3, q4, q5, q6⟩ := id hsm
    have e3 : s₂ = ({ (U.calling g mk a).setFrames s₂.frames with heap := s₂.heap, slotsUsed := s₂.slotsUsed } : State).setVm s₂.vm := by
      have : s₂ = ({ s₂ with vm := (U.calling g mk a).vm } : State).setVm s₂.vm := rfl
      rw [e2] at this
      exact this
    have hf₂ : s₂.frames = .throwing q :: .java g :: U.frames.tail := hend
    have hW' : U.WarmedH s₂.vm := hW₂
    have hs₂ : s₂ = ((({ U with heap := s₂.heap, slotsUsed := s₂.slotsUsed } : State).setVm s₂.vm).setTop g).pushFrame (.throwing q) := by
      refine e3.trans ?_
      rw [hf₂, State.calling_eq h.top, State.setFrames_setFrames, State.pushFrame, State.frames_setTop _ hr', State.setTop_of_frames _ hr', State.setFrames_setFrames, hr]
      rfl
    have hsame : U.sameButNew ({ U with heap := s₂.heap, slotsUsed := s₂.slotsUsed } : State) L mc ms := by
      refine ⟨?_, q2, q3, q4, q5, q6⟩
      obtain ⟨t, ht, -⟩ := State.frames_cons hr
      show ({ U with heap := s₂.heap, slotsUsed := s₂.slotsUsed } : State) = { U.setFrames U.frames with heap := s₂.heap, slotsUsed := s₂.slotsUsed }
      rw [State.setFrames_self ht]
    subst hg
    refine Or.inr ⟨q, ⟨(({ U with heap := s₂.heap, slotsUsed := s₂.slotsUsed } : State).setVm s₂.vm), Ls ++ L, c0 + mc, s0 + ms⟩,
      ⟨X.admits, X.cas, X.clock, X.frames, X.room, X.hears, X.method, X.code, (X.here.setHeapUsed s₂.heap s₂.slotsUsed).setVm hW'.alike, X.tail, State.WarmedH.trans X.warmed hW', X.limits, X.bytes, X.same.trans (hsame.setVm s.vm)⟩,
      ⟨g, mk, s₂, L, E, ce, rfl, rfl, hx, hce, hcv, hcl, rfl, hL, rfl, rfl⟩, ?_⟩
    show Steps p.tables e below _ (((({ U with heap := s₂.heap, slotsUsed := s₂.slotsUsed } : State).setVm s₂.vm).setTop g).pushFrame (.throwing q))
    rw [← hs₂]
    exact hsteps
end
variable {p : Program} {l : Launch} {e : Env} {R : Room} {s : State} {m : MethodId} {args : Array Value} {below : List Frame} {meth : Method} {c : Code} {T : State} {H : Heap} {locs : List Loc} {cells slots : Nat}
theorem vx_callVX (X : Stand p l e R s m args below meth c T locs cells slots) (hexec : p.tables.exec = Jvm.exec) {own C : String} {index : Nat} {y : MethodName} {bytes : ByteArray} {maxL : Nat} {ret : Option FieldType} {hh : List (Nat × Nat × Nat × Nat)}
    (hown : s.vm.findClass own = some m.cls) (hlink : (Cond.methodLink own index y).before args s = true) (hinst : (Cond.instanceMethod y).before args s = true) (hsel : (Cond.selects C y y).before args s = true)
    (hcode : (Cond.codeWith y bytes maxL ret hh).before args s = true) (hy : y.cls ≠ "java/lang/invoke/MethodHandle" ∧ y.cls ≠ "java/lang/invoke/VarHandle")
    {W9 : Nat} {Pre : Pt → Array Value → Prop} {Post : Pt → Array Value → Option Value → Pt → Prop} {PostX : Pt → Array Value → Addr → Pt → Prop} (hK : vx_Back l R p e below s args y 3 W9 Pre Post PostX)
    {b : Addr} {cellB : Cell} (hcell : T.heap[b]? = some cellB) (hobj : cellB.vm.isStatics = false) (hcls : s.vm.findClass C = some cellB.cls)
    {g : JFrame} (hg : g.method = m) (hsize : g.locals.size = c.maxLocals) {argsL rest : List Value} (hlen : ∀ sig, parseMethodDescriptor y.desc = some sig → argsL.length = sig.parameters.length)
    (hstack : g.stack = argsL.reverse ++ .ref b :: rest) (hW : 2 * g.monitorRoom + (rest.map fun v => v.category).sum ≤ W9) (hdg : decode c.code g.pc = .ok (.invokevirtual index, 3))
    (hpre : ∀ vm₁, s.WarmedH vm₁ → Pre ⟨T.setVm vm₁, locs, cells, slots⟩ (Value.ref b :: argsL).toArray) :
    (∃ (v : Option Value) (vm₁ : Vm) (B : Pt), s.WarmedH vm₁ ∧ Stand p l e R s m args below meth c B.U B.locs B.cells B.slots ∧ Post ⟨T.setVm vm₁, locs, cells, slots⟩ (Value.ref b :: argsL).toArray v B ∧
      ∀ target, Steps p.tables e below (B.U.setTop { g with pc := g.pc + 3, stack := v.toList ++ rest }) target → Steps p.tables e below (T.setTop g) target) ∨
    (∃ (q : Addr) (vm₁ : Vm) (B : Pt), s.WarmedH vm₁ ∧ Stand p l e R s m args below meth c B.U B.locs B.cells B.slots ∧ PostX ⟨T.setVm vm₁, locs, cells, slots⟩ (Value.ref b :: argsL).toArray q B ∧
      Steps p.tables e below (T.setTop g) ((B.U.setTop { g with stack := rest }).pushFrame (.throwing q))) := by
  obtain ⟨mk, methM, hnamed, hmethM, hstM, habM⟩ := Cond.instanceMethod_spec hinst
  obtain ⟨m8, methM', cM, hn8, hmethM', -, -, -, -, -, -, hsigM⟩ := Cond.codeWith_spec hcode
  cases Option.some.inj (hn8.symm.trans hnamed)
  cases hmethM.symm.trans hmethM'
  obtain ⟨c2, r2, m2, q1, q2, q3, q4, kP, hkP, hkPi⟩ := Cond.selects_spec hsel
  cases hcls.symm.trans q1
  cases (State.methodFound?_of_named hnamed hy).symm.trans q2
  cases hnamed.symm.trans q3
  have hselP : selectMethod e.platform s.vm cellB.cls mk = .method mk := by rw [Launch.admits_selectMethod X.admits]; exact q4
  obtain ⟨vm₁, X₁, hstep₁⟩ := X.invokevirtual hexec hown hlink hnamed hmethM hstM hkP hkPi hy (a := b) (cell := cellB) hcell
    (fun z h => by rw [h] at hobj; cases hobj) hselP hmethM habM hkP hkPi (g := g) hg (argsL := argsL) (rest := rest) (hlen _ hsigM) hstack hdg
  rcases hK m meth c ⟨T.setVm vm₁, locs, cells, slots⟩ { g with stack := rest } (.invokevirtual index) mk (Value.ref b :: argsL).toArray X₁ hg hsize hdg hW (X₁.named hnamed) (hpre vm₁ X₁.warmed) with ⟨v, B, X', hpost, hsteps⟩ | ⟨q, B, X', hpost, hsteps⟩
  · exact Or.inl ⟨v, vm₁, B, X₁.warmed, X', hpost, fun target h => hstep₁ _ fun acts => by rw [doInvoke_state]; exact hsteps.trans h⟩
  · exact Or.inr ⟨q, vm₁, B, X₁.warmed, X', hpost, hstep₁ _ fun acts => by rw [doInvoke_state]; exact hsteps⟩
theorem vx_callSX (X : Stand p l e R s m args below meth c T locs cells slots) (hexec : p.tables.exec = Jvm.exec) {own : String} {index : Nat} {y : MethodName} {bytes : ByteArray} {maxL : Nat} {ret : Option FieldType} {hh : List (Nat × Nat × Nat × Nat)}
    (hown : s.vm.findClass own = some m.cls) (hlink : (Cond.methodLink own index y).before args s = true) (hstat : (Cond.static y).before args s = true) (hinit : (Cond.initialized y.cls).before args s = true)
    (hcode : (Cond.codeWith y bytes maxL ret hh).before args s = true) (hy : y.cls ≠ "java/lang/invoke/MethodHandle" ∧ y.cls ≠ "java/lang/invoke/VarHandle")
    {W9 : Nat} {Pre : Pt → Array Value → Prop} {Post : Pt → Array Value → Option Value → Pt → Prop} {PostX : Pt → Array Value → Addr → Pt → Prop} (hK : vx_Back l R p e below s args y 3 W9 Pre Post PostX)
    {g : JFrame} (hg : g.method = m) (hsize : g.locals.size = c.maxLocals) {argsL rest : List Value} (hlen : ∀ sig, parseMethodDescriptor y.desc = some sig → argsL.length = sig.parameters.length)
    (hstack : g.stack = argsL.reverse ++ rest) (hW : 2 * g.monitorRoom + (rest.map fun v => v.category).sum ≤ W9) (hdg : decode c.code g.pc = .ok (.invokestatic index, 3))
    (hpre : ∀ vm₁, s.WarmedH vm₁ → Pre ⟨T.setVm vm₁, locs, cells, slots⟩ argsL.toArray) :
    (∃ (v : Option Value) (vm₁ : Vm) (B : Pt), s.WarmedH vm₁ ∧ Stand p l e R s m args below meth c B.U B.locs B.cells B.slots ∧ Post ⟨T.setVm vm₁, locs, cells, slots⟩ argsL.toArray v B ∧
      ∀ target, Steps p.tables e below (B.U.setTop { g with pc := g.pc + 3, stack := v.toList ++ rest }) target → Steps p.tables e below (T.setTop g) target) ∨
    (∃ (q : Addr) (vm₁ : Vm) (B : Pt), s.WarmedH vm₁ ∧ Stand p l e R s m args below meth c B.U B.locs B.cells B.slots ∧ PostX ⟨T.setVm vm₁, locs, cells, slots⟩ argsL.toArray q B ∧
      Steps p.tables e below (T.setTop g) ((B.U.setTop { g with stack := rest }).pushFrame (.throwing q))) := by
  obtain ⟨mk, methM, cM, hnamed, hmethM, -, -, -, -, -, -, hsigM⟩ := Cond.codeWith_spec hcode
  have hstatic : methM.isStatic = true := Cond.static_spec hnamed hmethM hstat
  obtain ⟨kP, hkP, -⟩ := className_of_methodNamed hnamed
  have hinitP : kP.init = .initialized := Cond.initialized_spec (findClass_of_methodNamed hnamed) hkP hinit
  obtain ⟨vm₁, X₁, hstep₁⟩ := X.invokestatic hexec hown hlink hnamed hmethM hstatic hkP hinitP hy (g := g) hg (argsL := argsL) (rest := rest) (hlen _ hsigM) hstack hdg
  rcases hK m meth c ⟨T.setVm vm₁, locs, cells, slots⟩ { g with stack := rest } (.invokestatic index) mk argsL.toArray X₁ hg hsize hdg hW (X₁.named hnamed) (hpre vm₁ X₁.warmed) with ⟨v, B, X', hpost, hsteps⟩ | ⟨q, B, X', hpost, hsteps⟩
  · exact Or.inl ⟨v, vm₁, B, X₁.warmed, X', hpost, fun target h => hstep₁ _ fun acts => by rw [doInvoke_state]; exact hsteps.trans h⟩
  · exact Or.inr ⟨q, vm₁, B, X₁.warmed, X', hpost, hstep₁ _ fun acts => by rw [doInvoke_state]; exact hsteps⟩
theorem vx_callVW (X : Stand p l e R s m args below meth c T locs cells slots) (hexec : p.tables.exec = Jvm.exec) {own C : String} {index : Nat} {y : MethodName} {bytes : ByteArray} {maxL : Nat} {ret : Option FieldType} {hh : List (Nat × Nat × Nat × Nat)}
    (hown : s.vm.findClass own = some m.cls) (hlink : (Cond.methodLink own index y).before args s = true) (hinst : (Cond.instanceMethod y).before args s = true) (hsel : (Cond.selects C y y).before args s = true)
    (hcode : (Cond.codeWith y bytes maxL ret hh).before args s = true) (hy : y.cls ≠ "java/lang/invoke/MethodHandle" ∧ y.cls ≠ "java/lang/invoke/VarHandle")
    {W9 : Nat} {Pre : Pt → Array Value → Prop} {Post : Pt → Array Value → Option Value → Pt → Prop} (hK : Back l R p e below s args y 3 W9 Pre Post)
    {b : Addr} {cellB : Cell} (hcell : T.heap[b]? = some cellB) (hobj : cellB.vm.isStatics = false) (hcls : s.vm.findClass C = some cellB.cls)
    {g : JFrame} (hg : g.method = m) (hsize : g.locals.size = c.maxLocals) {argsL rest : List Value} (hlen : ∀ sig, parseMethodDescriptor y.desc = some sig → argsL.length = sig.parameters.length)
    (hstack : g.stack = argsL.reverse ++ .ref b :: rest) (hW : 2 * g.monitorRoom + (rest.map fun v => v.category).sum ≤ W9) (hdg : decode c.code g.pc = .ok (.invokevirtual index, 3))
    (hpre : ∀ vm₁, s.WarmedH vm₁ → Pre ⟨T.setVm vm₁, locs, cells, slots⟩ (Value.ref b :: argsL).toArray) :
    ∃ (v : Option Value) (vm₁ : Vm) (B : Pt), s.WarmedH vm₁ ∧ Stand p l e R s m args below meth c B.U B.locs B.cells B.slots ∧ Post ⟨T.setVm vm₁, locs, cells, slots⟩ (Value.ref b :: argsL).toArray v B ∧
      ∀ target, Steps p.tables e below (B.U.setTop { g with pc := g.pc + 3, stack := v.toList ++ rest }) target → Steps p.tables e below (T.setTop g) target := by
  obtain ⟨mk, methM, hnamed, hmethM, hstM, habM⟩ := Cond.instanceMethod_spec hinst
  obtain ⟨m8, methM', cM, hn8, hmethM', -, -, -, -, -, -, hsigM⟩ := Cond.codeWith_spec hcode
  cases Option.some.inj (hn8.symm.trans hnamed)
  cases hmethM.symm.trans hmethM'
  obtain ⟨c2, r2, m2, q1, q2, q3, q4, kP, hkP, hkPi⟩ := Cond.selects_spec hsel
  cases hcls.symm.trans q1
  cases (State.methodFound?_of_named hnamed hy).symm.trans q2
  cases hnamed.symm.trans q3
  have hselP : selectMethod e.platform s.vm cellB.cls mk = .method mk := by rw [Launch.admits_selectMethod X.admits]; exact q4
  obtain ⟨vm₁, X₁, hstep₁⟩ := X.invokevirtual hexec hown hlink hnamed hmethM hstM hkP hkPi hy (a := b) (cell := cellB) hcell
    (fun z h => by rw [h] at hobj; cases hobj) hselP hmethM habM hkP hkPi (g := g) hg (argsL := argsL) (rest := rest) (hlen _ hsigM) hstack hdg
  obtain ⟨v, B, X', hpost, hsteps⟩ := hK m meth c ⟨T.setVm vm₁, locs, cells, slots⟩ { g with stack := rest } (.invokevirtual index) mk (Value.ref b :: argsL).toArray X₁ hg hsize hdg hW (X₁.named hnamed) (hpre vm₁ X₁.warmed)
  exact ⟨v, vm₁, B, X₁.warmed, X', hpost, fun target h => hstep₁ _ fun acts => by rw [doInvoke_state]; exact hsteps.trans h⟩
abbrev vx_CVW (R : Room) (s : State) (args : Array Value) (own C : String) (index : Nat) (y : MethodName) (bytes : ByteArray) (maxL : Nat) (ret : Option FieldType) (hh : List (Nat × Nat × Nat × Nat)) (ws : List Cond) (rm : Room) (mc ms n : Nat) : Prop :=
  (rm.cells = mc ∧ rm.slots = ms ∧ rm.frames + 1 ≤ R.frames ∧ 8 + (maxL + 11) + rm.locals ≤ R.locals ∧ (∀ w ∈ ws, ∀ (a' : Array Value) (U : State), s.WarmedH U.vm → w.before a' U = true) ∧ Cond.codeWith y bytes maxL ret hh ∈ ws) ∧
  (Cond.codeWith y bytes maxL ret hh).before args s = true ∧ (Cond.initialized y.cls).before args s = true ∧ (y.cls ≠ "java/lang/invoke/MethodHandle" ∧ y.cls ≠ "java/lang/invoke/VarHandle") ∧
  (∀ sig, parseMethodDescriptor y.desc = some sig → n = sig.parameters.length) ∧ (Cond.methodLink own index y).before args s = true ∧ (Cond.instanceMethod y).before args s = true ∧ (Cond.selects C y y).before args s = true
theorem vx_cwVW {own C : String} {index maxL mc ms : Nat} {y : MethodName} {bytes : ByteArray} {ret : Option FieldType} {hh : List (Nat × Nat × Nat × Nat)} {Ts ws ws' : List Cond} {rm : Room} (n : Nat) (ht : ∀ w ∈ Ts, w.before args s = true) (hT : GoodIn Ts (wsV own index C y ws)) (hw : ws = Cond.codeWith y bytes maxL ret hh :: ws') (hrc : rm.cells = mc) (hrs : rm.slots = ms)
    (hd : y.cls = C ∧ y.cls ≠ "java/lang/invoke/MethodHandle" ∧ y.cls ≠ "java/lang/invoke/VarHandle" ∧ (parseMethodDescriptor y.desc).map (fun d => d.parameters.length) = some n) (hR : rm.frames + 1 ≤ R.frames ∧ 8 + (maxL + 11) + rm.locals ≤ R.locals) :
    vx_CVW R s args own C index y bytes maxL ret hh ws rm mc ms n := by
  obtain ⟨hC, hd⟩ := hd
  subst hC
  have ok : ∀ w ∈ wsV own index y.cls y ws, w.before args s = true := fun w h => ht w (hT w h).1
  have hG : GoodIn Ts ws := fun w h => hT w (by unfold wsV; exact List.mem_append_right _ h)
  have hc : Cond.codeWith y bytes maxL ret hh ∈ ws := by rw [hw]; exact List.mem_cons_self
  refine ⟨⟨hrc, hrs, hR.1, hR.2, pay_in ht hG, hc⟩, ht _ (hG _ hc).1, ok _ (by simp [wsV]), ⟨hd.1, hd.2.1⟩, fun sig h => ?_, ok _ (by simp [wsV]), ok _ (by simp [wsV]), ok _ (by simp [wsV])⟩
  have h2 := hd.2.2
  rw [h] at h2
  exact (Option.some.inj h2).symm
theorem vx_runVW {y : MethodName} {bytes cc : ByteArray} {maxL nL mc ms n index : Nat} {ret : Option FieldType} {hh : List (Nat × Nat × Nat × Nat)} {ws : List Cond} {rm : Room} {Pc : Array Value → State → Prop} {Qc : Array Value → State → Outcome → State → Prop} {free : Addr → Prop} {Ts : List Cond} {own C : String} {b : Addr} {As rest : List Value} {g : JFrame}
    (S : CallFix p m c cc nL s args Ts own) (hM : Met l y ws rm Pc Qc mc ms free) (cw : vx_CVW R s args own C index y bytes maxL ret hh ws rm mc ms n) (hp : PreV s H C b Pc As)
    (hg : g.method = m) (hn : As.length = n) (hsize : g.locals.size = nL) (hstack : g.stack = As.reverse ++ .ref b :: rest) (hW : 2 * g.monitorRoom + (rest.map fun v => v.category).sum ≤ 8) (hdg : decode cc g.pc = .ok (.invokevirtual index, 3)) (hf : cells + mc ≤ R.cells ∧ slots + ms ≤ R.slots) :
    va_Run p l e R s m args below meth c H locs cells slots mc ms g rest (Qc (Value.ref b :: As).toArray) free := by
  obtain ⟨⟨hrc, hrs, hfr, hlo, hws, hcw⟩, hcode, hini, hy, hlen, hl, hin, hse⟩ := cw
  have hK : Back l R p e below s args y 3 8 (PreOf R mc ms Pc) (PostOf Qc mc ms free) := va_backW (hh := hh) (bytes := bytes) (maxL := maxL) (ret := ret) hM hp.1 hrc hrs hfr hlo hws hcw (fun a' U hW => word_at hW (Or.inl (by first | rfl | simp [Cond.onTables, Cond.keeps, Cond.steady])) hini)
  obtain ⟨hx, hb, hml, ho, -⟩ := S
  obtain ⟨-, ⟨cellB, hcB, hoB, hclB⟩, hPc⟩ := hp
  intro T hT X
  obtain ⟨v, vm₁, ⟨U', l2, c2, s2⟩, hW₁, X', ⟨g', mk, t, L, e1, e2, hq, h1, hL, h2, h3⟩, st⟩ := vx_callVW X hx (C := C) (hh := hh) (bytes := bytes) (maxL := maxL) (ret := ret) ho hl hin hse hcode hy hK (by rw [hT]; exact hcB) hoB hclB hg (hsize.trans hml.symm) (argsL := As) (rest := rest) (fun sig h => hn.trans (hlen sig h)) hstack hW (by rw [hb]; exact hdg)
    (fun vm₁ hW₁ => ⟨hf.1, hf.2, hPc (T.setVm vm₁) hT hW₁⟩)
  dsimp only [Pt.U, Pt.locs, Pt.cells, Pt.slots] at X' e1 e2 h1 h2 h3 st
  subst h1; subst h2; subst h3
  exact ⟨v, (T.setVm vm₁).calling g' mk (Value.ref b :: As).toArray, t, U', L, hT, X', hL, e1, e2, hq, st⟩
section
variable {y : MethodName} {bytes cc : ByteArray} {maxL nL mc ms n index : Nat} {ret : Option FieldType} {ws : List Cond} {rm : Room} {Pc : Array Value → State → Prop} {Qc : Array Value → State → Outcome → State → Prop} {XC : String → State → State → Prop} {free : Addr → Prop} {Ts : List Cond} {own C : String} {b : Addr} {As rest : List Value} {g : JFrame}
theorem vx_runVX {hh : List (Nat × Nat × Nat × Nat)} (S : CallFix p m c cc nL s args Ts own) (hM : vx_Met l y ws rm Pc Qc XC mc ms free) (cw : vx_CVW R s args own C index y bytes maxL ret hh ws rm mc ms n) (hp : PreV s H C b Pc As)
    (hg : g.method = m) (hn : As.length = n) (hsize : g.locals.size = nL) (hstack : g.stack = As.reverse ++ .ref b :: rest) (hW : 2 * g.monitorRoom + (rest.map fun v => v.category).sum ≤ 8) (hdg : decode cc g.pc = .ok (.invokevirtual index, 3)) (hf : cells + mc ≤ R.cells ∧ slots + ms ≤ R.slots) :
    vx_Run p l e R s m args below meth c H locs cells slots mc ms g rest (Qc (Value.ref b :: As).toArray) XC free := by
  obtain ⟨⟨hrc, hrs, hfr, hlo, hws, hcw⟩, hcode, hini, hy, hlen, hl, hin, hse⟩ := cw
  have hK : vx_Back l R p e below s args y 3 8 (PreOf R mc ms Pc) (PostOf Qc mc ms free) (vx_Post XC mc ms free) := vx_backW (hh := hh) (bytes := bytes) (maxL := maxL) (ret := ret) hM hp.1 hrc hrs hfr hlo hws hcw (fun a' U hW => word_at hW (Or.inl (by first | rfl | simp [Cond.onTables, Cond.keeps, Cond.steady])) hini)
  obtain ⟨hx, hb, hml, ho, -⟩ := S
  obtain ⟨-, ⟨cellB, hcB, hoB, hclB⟩, hPc⟩ := hp
  intro T hT X
  rcases vx_callVX X hx (C := C) (hh := hh) (bytes := bytes) (maxL := maxL) (ret := ret) ho hl hin hse hcode hy hK (by rw [hT]; exact hcB) hoB hclB hg (hsize.trans hml.symm) (argsL := As) (rest := rest) (fun sig h => hn.trans (hlen sig h)) hstack hW (by rw [hb]; exact hdg)
    (fun vm₁ hW₁ => ⟨hf.1, hf.2, hPc (T.setVm vm₁) hT hW₁⟩) with ⟨v, vm₁, ⟨U', l2, c2, s2⟩, hW₁, X', ⟨g', mk, t, L, e1, e2, hq, h1, hL, h2, h3⟩, st⟩ | ⟨q, vm₁, ⟨U', l2, c2, s2⟩, hW₁, X', ⟨g', mk, t, L, E, ce, e1, e2, hq, hce, hcv, hcl, h1, hL, h2, h3⟩, st⟩
  · dsimp only [Pt.U, Pt.locs, Pt.cells, Pt.slots] at X' e1 e2 h1 h2 h3 st
    subst h1; subst h2; subst h3
    exact Or.inl ⟨v, (T.setVm vm₁).calling g' mk (Value.ref b :: As).toArray, t, U', L, hT, X', hL, e1, e2, hq, st⟩
  · dsimp only [Pt.U, Pt.locs, Pt.cells, Pt.slots] at X' e1 e2 h1 h2 h3 st hcl
    subst h1; subst h2; subst h3
    exact Or.inr ⟨q, (T.setVm vm₁).calling g' mk (Value.ref b :: As).toArray, t, U', L, E, ce, hT, X', hL, e1, e2, hq, hce, hcv, vx_cls hW₁ hcl, st⟩
theorem vx_runSX {hh : List (Nat × Nat × Nat × Nat)} (S : CallFix p m c cc nL s args Ts own) (hM : vx_Met l y ws rm Pc Qc XC mc ms free) (cw : vx_CSW R s args own index y bytes maxL ret hh ws rm mc ms n) (hp : PreS s H Pc As)
    (hg : g.method = m) (hn : As.length = n) (hsize : g.locals.size = nL) (hstack : g.stack = As.reverse ++ rest) (hW : 2 * g.monitorRoom + (rest.map fun v => v.category).sum ≤ 8) (hdg : decode cc g.pc = .ok (.invokestatic index, 3)) (hf : cells + mc ≤ R.cells ∧ slots + ms ≤ R.slots) :
    vx_Run p l e R s m args below meth c H locs cells slots mc ms g rest (Qc As.toArray) XC free := by
  obtain ⟨⟨hrc, hrs, hfr, hlo, hws, hcw⟩, hcode, hini, hy, hlen, hl, hstt⟩ := cw
  have hK : vx_Back l R p e below s args y 3 8 (PreOf R mc ms Pc) (PostOf Qc mc ms free) (vx_Post XC mc ms free) := vx_backW (hh := hh) (bytes := bytes) (maxL := maxL) (ret := ret) hM hp.1 hrc hrs hfr hlo hws hcw (fun a' U hW => word_at hW (Or.inl (by first | rfl | simp [Cond.onTables, Cond.keeps, Cond.steady])) hini)
  obtain ⟨hx, hb, hml, ho, -⟩ := S
  intro T hT X
  rcases vx_callSX X hx (hh := hh) (bytes := bytes) (maxL := maxL) (ret := ret) ho hl hstt hini hcode hy hK hg (hsize.trans hml.symm) (argsL := As) (rest := rest) (fun sig h => hn.trans (hlen sig h)) hstack hW (by rw [hb]; exact hdg)
    (fun vm₁ hW₁ => ⟨hf.1, hf.2, hp.2 (T.setVm vm₁) hT hW₁⟩) with ⟨v, vm₁, ⟨U', l2, c2, s2⟩, hW₁, X', ⟨g', mk, t, L, e1, e2, hq, h1, hL, h2, h3⟩, st⟩ | ⟨q, vm₁, ⟨U', l2, c2, s2⟩, hW₁, X', ⟨g', mk, t, L, E, ce, e1, e2, hq, hce, hcv, hcl, h1, hL, h2, h3⟩, st⟩
  · dsimp only [Pt.U, Pt.locs, Pt.cells, Pt.slots] at X' e1 e2 h1 h2 h3 st
    subst h1; subst h2; subst h3
    exact Or.inl ⟨v, (T.setVm vm₁).calling g' mk As.toArray, t, U', L, hT, X', hL, e1, e2, hq, st⟩
  · dsimp only [Pt.U, Pt.locs, Pt.cells, Pt.slots] at X' e1 e2 h1 h2 h3 st hcl
    subst h1; subst h2; subst h3
    exact Or.inr ⟨q, (T.setVm vm₁).calling g' mk As.toArray, t, U', L, E, ce, hT, X', hL, e1, e2, hq, hce, hcv, vx_cls hW₁ hcl, st⟩
end
end VXH
theorem vx_ofWH {l : Launch} {y : MethodName} {ws ws' : List Cond} {rm : Room} {Pc : Array Value → State → Prop} {Qc : Array Value → State → Outcome → State → Prop} {XC : String → State → State → Prop} {mc ms : Nat} {free : Addr → Prop} {cc : ByteArray} {maxL : Nat} {ret : Option FieldType} {hh : List (Nat × Nat × Nat × Nat)}
    (hy : plainName y.cls = true) (hw : ws = Cond.codeWith y cc maxL ret hh :: ws')
    (body : ∀ p e s m args below meth c s₁, BodyLoose p l y (headSpec ws rm) cc maxL ret e s m args below meth c s₁ → c.maxLocals = maxL → Pc args s →
      W p l e (headSpec ws rm).room s m args below meth c s.heap [] 0 0 (vx_MQ below Qc XC args s mc ms free) (entryFrame m args maxL)) : vx_Met l y ws rm Pc Qc XC mc ms free := by
  refine MetFree.of_bodyS (code := cc) (maxLocals := maxL) (ret := ret) hy ?_ ?_
  · intro args s m h hn
    obtain ⟨m9, meth, c, hn9, h1, h2, h3, h4, -, h5, h6, -⟩ := Cond.codeWith_spec (atoms_spec (ws := ws) h _ (by rw [hw]; exact List.mem_cons_self))
    cases hn.symm.trans hn9
    exact ⟨meth, c, h1, h2, h3, h4, h5, h6⟩
  · intro p e s m args below meth c s₁ B hml hP _
    have hh0 : s₁.heap = s.heap := by rw [B.state]; rfl
    obtain ⟨t, a1, o, b1, b2, b3⟩ := body p e s m args below meth c s₁ B hml hP s₁ hh0 (Stand.of_body B)
    exact ⟨t, o, a1, b1, b2, b3⟩
/-! ===== END ===== -/
end
section
/-! ===== BEGIN printed: names, fields, word lists, decode rows ===== -/
def RX0 : String := "ForAllGame$BeatenSets"
def TX0 : u_T := fun k => match k with
  | 0 => ("ForAllGame$BeatenSets", "bits", "[J", true)
  | _ => ("ForAllGame$BeatenSets", "stale", "Z", false)
def tyX0 : Nat → FieldType := fun k => match k with
  | 0 => .array .long
  | _ => .boolean
abbrev wsX00 : List Cond := u_ws RX0 TX0 2
theorem nmX0 : ∀ a, a < 2 → ∀ b, b < 2 → a ≠ b → (TX0 a).2.1 ≠ (TX0 b).2.1 := by decide +kernel
theorem tyX0_ok : ∀ k, k < 2 → parseFieldDescriptor (TX0 k).2.2.1 = some (tyX0 k) := by decide +kernel
abbrev cX0_init : ByteArray := prog_2_method_1_code
def yX0_init : MethodName := ⟨RX0, "<init>", "()V"⟩
abbrev cX0_has : ByteArray := prog_2_method_2_code
def yX0_has : MethodName := ⟨RX0, "has", "(III)Z"⟩
abbrev cX0_bringUpToDate : ByteArray := prog_2_method_3_code
def yX0_bringUpToDate : MethodName := ⟨RX0, "bringUpToDate", "(LForAllGame$State;)V"⟩
abbrev cX0_setEnd : ByteArray := prog_2_method_4_code
def yX0_setEnd : MethodName := ⟨RX0, "setEnd", "(LForAllGame$State;I)V"⟩
abbrev cX0_join : ByteArray := prog_2_method_5_code
def yX0_join : MethodName := ⟨RX0, "join", "(IIZ)V"⟩
abbrev cX0_wordOf : ByteArray := prog_2_method_6_code
def yX0_wordOf : MethodName := ⟨RX0, "wordOf", "(II)I"⟩
abbrev cX0_setsWithout : ByteArray := prog_2_method_7_code
def yX0_setsWithout : MethodName := ⟨RX0, "setsWithout", "(II)J"⟩
def RX1 : String := "ForAllGame$OrderText"
def TX1 : u_T := fun k => match k with
  | 0 => ("ForAllGame$OrderText", "bytes", "[I", true)
  | 1 => ("ForAllGame$OrderText", "length", "I", false)
  | 2 => ("ForAllGame$OrderText", "at", "I", false)
  | 3 => ("ForAllGame$OrderText", "error", "I", false)
  | 4 => ("ForAllGame$OrderText", "kind", "I", false)
  | 5 => ("ForAllGame$OrderText", "positive", "I", false)
  | 6 => ("ForAllGame$OrderText", "negative", "I", false)
  | _ => ("ForAllGame$OrderText", "play", "I", false)
def tyX1 : Nat → FieldType := fun k => match k with
  | 0 => .array .int
  | 1 => .int
  | 2 => .int
  | 3 => .int
  | 4 => .int
  | 5 => .int
  | 6 => .int
  | _ => .int
abbrev wsX10 : List Cond := u_ws RX1 TX1 8
theorem nmX1 : ∀ a, a < 8 → ∀ b, b < 8 → a ≠ b → (TX1 a).2.1 ≠ (TX1 b).2.1 := by decide +kernel
theorem tyX1_ok : ∀ k, k < 8 → parseFieldDescriptor (TX1 k).2.2.1 = some (tyX1 k) := by decide +kernel
abbrev cX1_init : ByteArray := prog_3_method_1_code
def yX1_init : MethodName := ⟨RX1, "<init>", "()V"⟩
def RX2 : String := "ForAllGame$SavedStates"
def TX2 : u_T := fun k => match k with
  | 0 => ("ForAllGame$SavedStates", "ring", "[LForAllGame$State;", true)
  | 1 => ("ForAllGame$SavedStates", "oldest", "I", false)
  | _ => ("ForAllGame$SavedStates", "count", "I", false)
def tyX2 : Nat → FieldType := fun k => match k with
  | 0 => .array (.object "ForAllGame$State")
  | 1 => .int
  | _ => .int
abbrev wsX20 : List Cond := u_ws RX2 TX2 3
theorem nmX2 : ∀ a, a < 3 → ∀ b, b < 3 → a ≠ b → (TX2 a).2.1 ≠ (TX2 b).2.1 := by decide +kernel
theorem tyX2_ok : ∀ k, k < 3 → parseFieldDescriptor (TX2 k).2.2.1 = some (tyX2 k) := by decide +kernel
abbrev cX2_init : ByteArray := prog_4_method_1_code
def yX2_init : MethodName := ⟨RX2, "<init>", "()V"⟩
abbrev cX2_push : ByteArray := prog_4_method_2_code
def yX2_push : MethodName := ⟨RX2, "push", "(LForAllGame$State;)V"⟩
abbrev cX2_pop : ByteArray := prog_4_method_3_code
def yX2_pop : MethodName := ⟨RX2, "pop", "(LForAllGame$State;)V"⟩
abbrev cX2_slot : ByteArray := prog_4_method_4_code
def yX2_slot : MethodName := ⟨RX2, "slot", "(I)LForAllGame$State;"⟩
def RX3 : String := "ForAllGame$State"
def TX3 : u_T := fun k => match k with
  | 0 => ("ForAllGame$State", "variables", "I", false)
  | 1 => ("ForAllGame$State", "breakers", "I", false)
  | 2 => ("ForAllGame$State", "clauses", "I", false)
  | 3 => ("ForAllGame$State", "positive", "[I", true)
  | 4 => ("ForAllGame$State", "negative", "[I", true)
  | 5 => ("ForAllGame$State", "learned", "I", false)
  | _ => ("ForAllGame$State", "rounds", "I", false)
def tyX3 : Nat → FieldType := fun k => match k with
  | 0 => .int
  | 1 => .int
  | 2 => .int
  | 3 => .array .int
  | 4 => .array .int
  | 5 => .int
  | _ => .int
abbrev wsX30 : List Cond := u_ws RX3 TX3 7
theorem nmX3 : ∀ a, a < 7 → ∀ b, b < 7 → a ≠ b → (TX3 a).2.1 ≠ (TX3 b).2.1 := by decide +kernel
theorem tyX3_ok : ∀ k, k < 7 → parseFieldDescriptor (TX3 k).2.2.1 = some (tyX3 k) := by decide +kernel
abbrev cX3_init : ByteArray := prog_5_method_1_code
def yX3_init : MethodName := ⟨RX3, "<init>", "()V"⟩
abbrev cX3_clear : ByteArray := prog_5_method_2_code
def yX3_clear : MethodName := ⟨RX3, "clear", "()V"⟩
abbrev cX3_copyFrom : ByteArray := prog_5_method_3_code
def yX3_copyFrom : MethodName := ⟨RX3, "copyFrom", "(LForAllGame$State;)V"⟩
abbrev cX3_ownerOf : ByteArray := prog_5_method_4_code
def yX3_ownerOf : MethodName := ⟨RX3, "ownerOf", "(I)I"⟩
abbrev cX3_plays : ByteArray := prog_5_method_5_code
def yX3_plays : MethodName := ⟨RX3, "plays", "()I"⟩
abbrev cX3_allPlays : ByteArray := prog_5_method_6_code
def yX3_allPlays : MethodName := ⟨RX3, "allPlays", "()I"⟩
abbrev cX3_hasPlay : ByteArray := prog_5_method_7_code
def yX3_hasPlay : MethodName := ⟨RX3, "hasPlay", "(I)Z"⟩
abbrev cX3_hasLearned : ByteArray := prog_5_method_8_code
def yX3_hasLearned : MethodName := ⟨RX3, "hasLearned", "(I)Z"⟩
abbrev cX3_hasVariables : ByteArray := prog_5_method_9_code
def yX3_hasVariables : MethodName := ⟨RX3, "hasVariables", "(I)Z"⟩
abbrev cX3_hasRoomFor : ByteArray := prog_5_method_10_code
def yX3_hasRoomFor : MethodName := ⟨RX3, "hasRoomFor", "(Z)Z"⟩
abbrev cX3_putVariable : ByteArray := prog_5_method_11_code
def yX3_putVariable : MethodName := ⟨RX3, "putVariable", "(Z)V"⟩
abbrev cX3_putClause : ByteArray := prog_5_method_12_code
def yX3_putClause : MethodName := ⟨RX3, "putClause", "(II)V"⟩
abbrev cX3_dropClause : ByteArray := prog_5_method_13_code
def yX3_dropClause : MethodName := ⟨RX3, "dropClause", "(I)V"⟩
abbrev cX3_holds : ByteArray := prog_5_method_14_code
def yX3_holds : MethodName := ⟨RX3, "holds", "(I)Z"⟩
abbrev cX3_playIn : ByteArray := prog_5_method_15_code
def yX3_playIn : MethodName := ⟨RX3, "playIn", "(I)I"⟩
def RX4 : String := "ForAllGame"
def TX4 : u_T := fun k => match k with
  | 0 => ("ForAllGame", "state", "LForAllGame$State;", true)
  | 1 => ("ForAllGame", "saved", "LForAllGame$SavedStates;", true)
  | 2 => ("ForAllGame", "beaten", "LForAllGame$BeatenSets;", true)
  | _ => ("ForAllGame", "text", "LForAllGame$OrderText;", true)
def tyX4 : Nat → FieldType := fun k => match k with
  | 0 => .object "ForAllGame$State"
  | 1 => .object "ForAllGame$SavedStates"
  | 2 => .object "ForAllGame$BeatenSets"
  | _ => .object "ForAllGame$OrderText"
abbrev wsX40 : List Cond := u_ws RX4 TX4 4
theorem nmX4 : ∀ a, a < 4 → ∀ b, b < 4 → a ≠ b → (TX4 a).2.1 ≠ (TX4 b).2.1 := by decide +kernel
theorem tyX4_ok : ∀ k, k < 4 → parseFieldDescriptor (TX4 k).2.2.1 = some (tyX4 k) := by decide +kernel
abbrev cX4_init : ByteArray := prog_1_method_1_code
def yX4_init : MethodName := ⟨RX4, "<init>", "()V"⟩
abbrev cX4_begin : ByteArray := prog_1_method_2_code
def yX4_begin : MethodName := ⟨RX4, "begin", "()I"⟩
abbrev cX4_addVariable : ByteArray := prog_1_method_3_code
def yX4_addVariable : MethodName := ⟨RX4, "addVariable", "(Z)I"⟩
abbrev cX4_addClause : ByteArray := prog_1_method_4_code
def yX4_addClause : MethodName := ⟨RX4, "addClause", "(II)I"⟩
abbrev cX4_removeClause : ByteArray := prog_1_method_5_code
def yX4_removeClause : MethodName := ⟨RX4, "removeClause", "(I)I"⟩
abbrev cX4_round : ByteArray := prog_1_method_8_code
def yX4_round : MethodName := ⟨RX4, "round", "()I"⟩
abbrev cX4_learnAll : ByteArray := prog_1_method_9_code
def yX4_learnAll : MethodName := ⟨RX4, "learnAll", "()I"⟩
abbrev cX4_isBreakers : ByteArray := prog_1_method_10_code
def yX4_isBreakers : MethodName := ⟨RX4, "isBreakers", "(I)Z"⟩
abbrev cX4_value : ByteArray := prog_1_method_13_code
def yX4_value : MethodName := ⟨RX4, "value", "(I)I"⟩
abbrev cX4_winner : ByteArray := prog_1_method_14_code
def yX4_winner : MethodName := ⟨RX4, "winner", "()I"⟩
abbrev cX4_winnerAt : ByteArray := prog_1_method_15_code
def yX4_winnerAt : MethodName := ⟨RX4, "winnerAt", "(II)I"⟩
abbrev cX4_move : ByteArray := prog_1_method_16_code
def yX4_move : MethodName := ⟨RX4, "move", "(II)I"⟩
abbrev cX4_ways : ByteArray := prog_1_method_17_code
def yX4_ways : MethodName := ⟨RX4, "ways", "(I)I"⟩
abbrev cX4_beats : ByteArray := prog_1_method_18_code
def yX4_beats : MethodName := ⟨RX4, "beats", "(I)Z"⟩
abbrev cX4_copies : ByteArray := prog_1_method_20_code
def yX4_copies : MethodName := ⟨RX4, "copies", "()I"⟩
abbrev cX4_leastProof : ByteArray := prog_1_method_21_code
def yX4_leastProof : MethodName := ⟨RX4, "leastProof", "()I"⟩
abbrev cX4_undo : ByteArray := prog_1_method_27_code
def yX4_undo : MethodName := ⟨RX4, "undo", "()I"⟩
abbrev cX4_requireVariable : ByteArray := prog_1_method_29_code
def yX4_requireVariable : MethodName := ⟨RX4, "requireVariable", "(I)V"⟩
abbrev cX4_requireClause : ByteArray := prog_1_method_30_code
def yX4_requireClause : MethodName := ⟨RX4, "requireClause", "(I)V"⟩
abbrev cX4_requirePlay : ByteArray := prog_1_method_31_code
def yX4_requirePlay : MethodName := ⟨RX4, "requirePlay", "(I)V"⟩
abbrev cX4_requireHistory : ByteArray := prog_1_method_32_code
def yX4_requireHistory : MethodName := ⟨RX4, "requireHistory", "(II)V"⟩
abbrev cX4_putVariable : ByteArray := prog_1_method_33_code
def yX4_putVariable : MethodName := ⟨RX4, "putVariable", "(Z)V"⟩
abbrev cX4_putClause : ByteArray := prog_1_method_34_code
def yX4_putClause : MethodName := ⟨RX4, "putClause", "(II)V"⟩
abbrev cX4_formulaChanged : ByteArray := prog_1_method_35_code
def yX4_formulaChanged : MethodName := ⟨RX4, "formulaChanged", "()V"⟩
abbrev cX4_makeRound : ByteArray := prog_1_method_36_code
def yX4_makeRound : MethodName := ⟨RX4, "makeRound", "()I"⟩
abbrev cX4_valuesAgainst : ByteArray := prog_1_method_37_code
def yX4_valuesAgainst : MethodName := ⟨RX4, "valuesAgainst", "(I)I"⟩
abbrev cX4_winnerIn : ByteArray := prog_1_method_38_code
def yX4_winnerIn : MethodName := ⟨RX4, "winnerIn", "(II)I"⟩
abbrev cX4_learnedBeginnings : ByteArray := prog_1_method_39_code
def yX4_learnedBeginnings : MethodName := ⟨RX4, "learnedBeginnings", "(I)I"⟩
abbrev cX4_lowestLeastProof : ByteArray := prog_1_method_40_code
def yX4_lowestLeastProof : MethodName := ⟨RX4, "lowestLeastProof", "()I"⟩
abbrev cX4_bit : ByteArray := prog_1_method_45_code
def yX4_bit : MethodName := ⟨RX4, "bit", "(II)I"⟩
abbrev cX4_read : ByteArray := prog_1_method_46_code
def yX4_read : MethodName := ⟨RX4, "read", "([II)I"⟩
abbrev cX4_write : ByteArray := prog_1_method_47_code
def yX4_write : MethodName := ⟨RX4, "write", "([III)V"⟩
abbrev cX4_readLong : ByteArray := prog_1_method_48_code
def yX4_readLong : MethodName := ⟨RX4, "readLong", "([JI)J"⟩
abbrev cX4_writeLong : ByteArray := prog_1_method_49_code
def yX4_writeLong : MethodName := ⟨RX4, "writeLong", "([JIJ)V"⟩
def RJ6 : String := "java/lang/Integer"
abbrev cJ6_bitCount_0f7a4 : ByteArray := prog_12_method_49_code
def yJ6_bitCount_0f7a4 : MethodName := ⟨RJ6, "bitCount", "(I)I"⟩
def RL : String := "ForAllGameLaw"
abbrev cL_cell : ByteArray := method_2_code
def yL_cell : MethodName := ⟨RL, "cell", "([II)I"⟩
abbrev cL_adds : ByteArray := method_3_code
def yL_adds : MethodName := ⟨RL, "adds", "(LForAllGame;Z)I"⟩
abbrev cL_clauses : ByteArray := method_4_code
def yL_clauses : MethodName := ⟨RL, "clauses", "(LForAllGame;II)I"⟩
abbrev cL_removes : ByteArray := method_5_code
def yL_removes : MethodName := ⟨RL, "removes", "(LForAllGame;I)I"⟩
abbrev cL_whose : ByteArray := method_6_code
def yL_whose : MethodName := ⟨RL, "whose", "(LForAllGame;I)I"⟩
abbrev cL_value : ByteArray := method_7_code
def yL_value : MethodName := ⟨RL, "value", "(LForAllGame;I)I"⟩
abbrev cL_winnerAt : ByteArray := method_8_code
def yL_winnerAt : MethodName := ⟨RL, "winnerAt", "(LForAllGame;II)I"⟩
abbrev cL_moves : ByteArray := method_9_code
def yL_moves : MethodName := ⟨RL, "moves", "(LForAllGame;II)I"⟩
abbrev cL_ways : ByteArray := method_10_code
def yL_ways : MethodName := ⟨RL, "ways", "(LForAllGame;I)I"⟩
abbrev cL_beats : ByteArray := method_11_code
def yL_beats : MethodName := ⟨RL, "beats", "(LForAllGame;I)I"⟩
abbrev cL_undoes : ByteArray := method_12_code
def yL_undoes : MethodName := ⟨RL, "undoes", "(LForAllGame;)I"⟩
abbrev cL_bits : ByteArray := method_13_code
def yL_bits : MethodName := ⟨RL, "bits", "(I)I"⟩
abbrev cL_follows : ByteArray := method_14_code
def yL_follows : MethodName := ⟨RL, "follows", "(LForAllGame;I)Z"⟩
abbrev cL_holds : ByteArray := method_15_code
def yL_holds : MethodName := ⟨RL, "holds", "(LForAllGame;)Z"⟩
abbrev cL_learns : ByteArray := method_16_code
def yL_learns : MethodName := ⟨RL, "learns", "(LForAllGame;)Z"⟩
abbrev cL_law : ByteArray := code
def yL_law : MethodName := ⟨RL, "law", "([I)Z"⟩
abbrev vwCl : List vw_C := [(RX0, TX0, 2), (RX1, TX1, 8), (RX2, TX2, 3), (RX3, TX3, 7), (RX4, TX4, 4)]
/-- ALL WORDS: the tables' words that keep -/
def wAll : List Cond := lw_tbl.filter goodWord
theorem wAll_tbl : ∀ w ∈ wAll, w ∈ lw_tbl := fun w h => (List.mem_filter.mp h).1
theorem wAll_good : ∀ w ∈ wAll, goodWord w = true := fun w h => (List.mem_filter.mp h).2
theorem wAll_mem {w : Cond} (i : Nat) (h : lw_tbl[i]? = some w) (g : goodWord w = true) : w ∈ wAll := List.mem_filter.mpr ⟨List.mem_of_getElem? h, g⟩
theorem wAll_sub {ws : List Cond} (h : ws.all (fun w => decide (w ∈ lw_tbl) && goodWord w) = true) : ∀ w ∈ ws, w ∈ wAll := fun w hw => by
  have h1 := List.all_eq_true.mp h w hw
  simp only [Bool.and_eq_true, decide_eq_true_eq] at h1
  exact List.mem_filter.mpr ⟨h1.1, h1.2⟩
theorem gC {y : MethodName} {b : ByteArray} {n : Nat} {r : Option FieldType} (h5 : Cond.code y b n r ∈ wAll) : GoodIn wAll (Cond.code y b n r :: wAll) := fun w h => by
  have hw : w ∈ wAll := by
    rcases List.mem_cons.mp h with e | h
    · rw [e]; exact h5
    · exact h
  exact ⟨hw, good_of_word (wAll_good w hw)⟩
theorem gV {own : String} {idx : Nat} {C : String} {y : MethodName} {b : ByteArray} {n : Nat} {r : Option FieldType} (h1 : Cond.methodLink own idx y ∈ wAll) (h2 : Cond.instanceMethod y ∈ wAll) (h3 : Cond.selects C y y ∈ wAll) (h4 : Cond.initialized C ∈ wAll) (h5 : Cond.code y b n r ∈ wAll) : GoodIn wAll (wsV own idx C y (Cond.code y b n r :: wAll)) := fun w h => by
  rcases List.mem_append.mp h with h | h
  · have hw : w ∈ wAll := by
      simp only [List.mem_cons, List.not_mem_nil, or_false] at h
      rcases h with e | e | e | e <;> (rw [e]; assumption)
    exact ⟨hw, good_of_word (wAll_good w hw)⟩
  · exact gC h5 w h
theorem gS {own : String} {idx : Nat} {y : MethodName} {b : ByteArray} {n : Nat} {r : Option FieldType} (h1 : Cond.methodLink own idx y ∈ wAll) (h2 : Cond.static y ∈ wAll) (h4 : Cond.initialized y.cls ∈ wAll) (h5 : Cond.code y b n r ∈ wAll) : GoodIn wAll (va_wsS own idx y (Cond.code y b n r :: wAll)) := fun w h => by
  rcases List.mem_append.mp h with h | h
  · have hw : w ∈ wAll := by
      simp only [List.mem_cons, List.not_mem_nil, or_false] at h
      rcases h with e | e | e <;> (rw [e]; assumption)
    exact ⟨hw, good_of_word (wAll_good w hw)⟩
  · exact gC h5 w h
theorem inX0 : ∀ w ∈ wsX00, w ∈ wAll := wAll_sub (by decide +kernel)
theorem inX1 : ∀ w ∈ wsX10, w ∈ wAll := wAll_sub (by decide +kernel)
theorem inX2 : ∀ w ∈ wsX20, w ∈ wAll := wAll_sub (by decide +kernel)
theorem inX3 : ∀ w ∈ wsX30, w ∈ wAll := wAll_sub (by decide +kernel)
theorem inX4 : ∀ w ∈ wsX40, w ∈ wAll := wAll_sub (by decide +kernel)
end
section
theorem dX0_init_0 : decode cX0_init 0 = .ok (.aload_n 0, 1) := by decide +kernel
theorem dX0_init_1 : decode cX0_init 1 = .ok (.invokespecial 3, 3) := by decide +kernel
theorem dX0_init_4 : decode cX0_init 4 = .ok (.aload_n 0, 1) := by decide +kernel
theorem dX0_init_5 : decode cX0_init 5 = .ok (.sipush 4096, 3) := by decide +kernel
theorem dX0_init_8 : decode cX0_init 8 = .ok (.newarray .long, 2) := by decide +kernel
theorem dX0_init_10 : decode cX0_init 10 = .ok (.putfield 11, 3) := by decide +kernel
theorem dX0_init_13 : decode cX0_init 13 = .ok (.aload_n 0, 1) := by decide +kernel
theorem dX0_init_14 : decode cX0_init 14 = .ok (.iconst 1, 1) := by decide +kernel
theorem dX0_init_15 : decode cX0_init 15 = .ok (.putfield 15, 3) := by decide +kernel
theorem dX0_init_18 : decode cX0_init 18 = .ok (.return_, 1) := by decide +kernel
theorem dX0_has_0 : decode cX0_has 0 = .ok (.aload_n 0, 1) := by decide +kernel
theorem dX0_has_1 : decode cX0_has 1 = .ok (.getfield 11, 3) := by decide +kernel
theorem dX0_has_4 : decode cX0_has 4 = .ok (.iload_n 1, 1) := by decide +kernel
theorem dX0_has_5 : decode cX0_has 5 = .ok (.iload_n 2, 1) := by decide +kernel
theorem dX0_has_6 : decode cX0_has 6 = .ok (.invokestatic 19, 3) := by decide +kernel
theorem dX0_has_9 : decode cX0_has 9 = .ok (.iload_n 3, 1) := by decide +kernel
theorem dX0_has_10 : decode cX0_has 10 = .ok (.bipush 6, 2) := by decide +kernel
theorem dX0_has_12 : decode cX0_has 12 = .ok (.ishr, 1) := by decide +kernel
theorem dX0_has_13 : decode cX0_has 13 = .ok (.iadd, 1) := by decide +kernel
theorem dX0_has_14 : decode cX0_has 14 = .ok (.invokestatic 23, 3) := by decide +kernel
theorem dX0_has_17 : decode cX0_has 17 = .ok (.lstore 4, 2) := by decide +kernel
theorem dX0_has_19 : decode cX0_has 19 = .ok (.lload 4, 2) := by decide +kernel
theorem dX0_has_21 : decode cX0_has 21 = .ok (.iload_n 3, 1) := by decide +kernel
theorem dX0_has_22 : decode cX0_has 22 = .ok (.bipush 63, 2) := by decide +kernel
theorem dX0_has_24 : decode cX0_has 24 = .ok (.iand, 1) := by decide +kernel
theorem dX0_has_25 : decode cX0_has 25 = .ok (.lshr, 1) := by decide +kernel
theorem dX0_has_26 : decode cX0_has 26 = .ok (.lconst 1, 1) := by decide +kernel
theorem dX0_has_27 : decode cX0_has 27 = .ok (.land, 1) := by decide +kernel
theorem dX0_has_28 : decode cX0_has 28 = .ok (.lconst 1, 1) := by decide +kernel
theorem dX0_has_29 : decode cX0_has 29 = .ok (.lcmp, 1) := by decide +kernel
theorem dX0_has_30 : decode cX0_has 30 = .ok (.ifCond .ne 7, 3) := by decide +kernel
theorem dX0_has_33 : decode cX0_has 33 = .ok (.iconst 1, 1) := by decide +kernel
theorem dX0_has_34 : decode cX0_has 34 = .ok (.goto 4, 3) := by decide +kernel
theorem dX0_has_37 : decode cX0_has 37 = .ok (.iconst 0, 1) := by decide +kernel
theorem dX0_has_38 : decode cX0_has 38 = .ok (.ireturn, 1) := by decide +kernel
theorem dX0_bringUpToDate_0 : decode cX0_bringUpToDate 0 = .ok (.aload_n 0, 1) := by decide +kernel
theorem dX0_bringUpToDate_1 : decode cX0_bringUpToDate 1 = .ok (.getfield 15, 3) := by decide +kernel
theorem dX0_bringUpToDate_4 : decode cX0_bringUpToDate 4 = .ok (.ifCond .ne 4, 3) := by decide +kernel
theorem dX0_bringUpToDate_7 : decode cX0_bringUpToDate 7 = .ok (.return_, 1) := by decide +kernel
theorem dX0_bringUpToDate_8 : decode cX0_bringUpToDate 8 = .ok (.aload_n 0, 1) := by decide +kernel
theorem dX0_bringUpToDate_9 : decode cX0_bringUpToDate 9 = .ok (.iconst 0, 1) := by decide +kernel
theorem dX0_bringUpToDate_10 : decode cX0_bringUpToDate 10 = .ok (.putfield 15, 3) := by decide +kernel
theorem dX0_bringUpToDate_13 : decode cX0_bringUpToDate 13 = .ok (.iconst 1, 1) := by decide +kernel
theorem dX0_bringUpToDate_14 : decode cX0_bringUpToDate 14 = .ok (.aload_n 1, 1) := by decide +kernel
theorem dX0_bringUpToDate_15 : decode cX0_bringUpToDate 15 = .ok (.getfield 27, 3) := by decide +kernel
theorem dX0_bringUpToDate_18 : decode cX0_bringUpToDate 18 = .ok (.ishl, 1) := by decide +kernel
theorem dX0_bringUpToDate_19 : decode cX0_bringUpToDate 19 = .ok (.istore_n 2, 1) := by decide +kernel
theorem dX0_bringUpToDate_20 : decode cX0_bringUpToDate 20 = .ok (.iconst 0, 1) := by decide +kernel
theorem dX0_bringUpToDate_21 : decode cX0_bringUpToDate 21 = .ok (.istore_n 3, 1) := by decide +kernel
theorem dX0_bringUpToDate_22 : decode cX0_bringUpToDate 22 = .ok (.iload_n 3, 1) := by decide +kernel
theorem dX0_bringUpToDate_23 : decode cX0_bringUpToDate 23 = .ok (.iload_n 2, 1) := by decide +kernel
theorem dX0_bringUpToDate_24 : decode cX0_bringUpToDate 24 = .ok (.if_icmp .ge 15, 3) := by decide +kernel
theorem dX0_bringUpToDate_27 : decode cX0_bringUpToDate 27 = .ok (.aload_n 0, 1) := by decide +kernel
theorem dX0_bringUpToDate_28 : decode cX0_bringUpToDate 28 = .ok (.aload_n 1, 1) := by decide +kernel
theorem dX0_bringUpToDate_29 : decode cX0_bringUpToDate 29 = .ok (.iload_n 3, 1) := by decide +kernel
theorem dX0_bringUpToDate_30 : decode cX0_bringUpToDate 30 = .ok (.invokevirtual 33, 3) := by decide +kernel
theorem dX0_bringUpToDate_33 : decode cX0_bringUpToDate 33 = .ok (.iinc 3 1, 3) := by decide +kernel
theorem dX0_bringUpToDate_36 : decode cX0_bringUpToDate 36 = .ok (.goto (-14), 3) := by decide +kernel
theorem dX0_bringUpToDate_39 : decode cX0_bringUpToDate 39 = .ok (.aload_n 1, 1) := by decide +kernel
theorem dX0_bringUpToDate_40 : decode cX0_bringUpToDate 40 = .ok (.getfield 27, 3) := by decide +kernel
theorem dX0_bringUpToDate_43 : decode cX0_bringUpToDate 43 = .ok (.iconst 1, 1) := by decide +kernel
theorem dX0_bringUpToDate_44 : decode cX0_bringUpToDate 44 = .ok (.isub, 1) := by decide +kernel
theorem dX0_bringUpToDate_45 : decode cX0_bringUpToDate 45 = .ok (.istore_n 3, 1) := by decide +kernel
theorem dX0_bringUpToDate_46 : decode cX0_bringUpToDate 46 = .ok (.iload_n 3, 1) := by decide +kernel
theorem dX0_bringUpToDate_47 : decode cX0_bringUpToDate 47 = .ok (.ifCond .lt 51, 3) := by decide +kernel
theorem dX0_bringUpToDate_50 : decode cX0_bringUpToDate 50 = .ok (.aload_n 1, 1) := by decide +kernel
theorem dX0_bringUpToDate_51 : decode cX0_bringUpToDate 51 = .ok (.iload_n 3, 1) := by decide +kernel
theorem dX0_bringUpToDate_52 : decode cX0_bringUpToDate 52 = .ok (.invokevirtual 37, 3) := by decide +kernel
theorem dX0_bringUpToDate_55 : decode cX0_bringUpToDate 55 = .ok (.iconst 1, 1) := by decide +kernel
theorem dX0_bringUpToDate_56 : decode cX0_bringUpToDate 56 = .ok (.if_icmp .ne 7, 3) := by decide +kernel
theorem dX0_bringUpToDate_59 : decode cX0_bringUpToDate 59 = .ok (.iconst 1, 1) := by decide +kernel
theorem dX0_bringUpToDate_60 : decode cX0_bringUpToDate 60 = .ok (.goto 4, 3) := by decide +kernel
theorem dX0_bringUpToDate_63 : decode cX0_bringUpToDate 63 = .ok (.iconst 0, 1) := by decide +kernel
theorem dX0_bringUpToDate_64 : decode cX0_bringUpToDate 64 = .ok (.istore 4, 2) := by decide +kernel
theorem dX0_bringUpToDate_66 : decode cX0_bringUpToDate 66 = .ok (.iconst 0, 1) := by decide +kernel
theorem dX0_bringUpToDate_67 : decode cX0_bringUpToDate 67 = .ok (.istore 5, 2) := by decide +kernel
theorem dX0_bringUpToDate_69 : decode cX0_bringUpToDate 69 = .ok (.iload 5, 2) := by decide +kernel
theorem dX0_bringUpToDate_71 : decode cX0_bringUpToDate 71 = .ok (.iconst 1, 1) := by decide +kernel
theorem dX0_bringUpToDate_72 : decode cX0_bringUpToDate 72 = .ok (.iload_n 3, 1) := by decide +kernel
theorem dX0_bringUpToDate_73 : decode cX0_bringUpToDate 73 = .ok (.ishl, 1) := by decide +kernel
theorem dX0_bringUpToDate_74 : decode cX0_bringUpToDate 74 = .ok (.if_icmp .ge 18, 3) := by decide +kernel
theorem dX0_bringUpToDate_77 : decode cX0_bringUpToDate 77 = .ok (.aload_n 0, 1) := by decide +kernel
theorem dX0_bringUpToDate_78 : decode cX0_bringUpToDate 78 = .ok (.iload_n 3, 1) := by decide +kernel
theorem dX0_bringUpToDate_79 : decode cX0_bringUpToDate 79 = .ok (.iload 5, 2) := by decide +kernel
theorem dX0_bringUpToDate_81 : decode cX0_bringUpToDate 81 = .ok (.iload 4, 2) := by decide +kernel
theorem dX0_bringUpToDate_83 : decode cX0_bringUpToDate 83 = .ok (.invokevirtual 41, 3) := by decide +kernel
theorem dX0_bringUpToDate_86 : decode cX0_bringUpToDate 86 = .ok (.iinc 5 1, 3) := by decide +kernel
theorem dX0_bringUpToDate_89 : decode cX0_bringUpToDate 89 = .ok (.goto (-20), 3) := by decide +kernel
theorem dX0_bringUpToDate_92 : decode cX0_bringUpToDate 92 = .ok (.iinc 3 (-1), 3) := by decide +kernel
theorem dX0_bringUpToDate_95 : decode cX0_bringUpToDate 95 = .ok (.goto (-49), 3) := by decide +kernel
theorem dX0_bringUpToDate_98 : decode cX0_bringUpToDate 98 = .ok (.return_, 1) := by decide +kernel
theorem dX0_setEnd_0 : decode cX0_setEnd 0 = .ok (.aload_n 1, 1) := by decide +kernel
theorem dX0_setEnd_1 : decode cX0_setEnd 1 = .ok (.getfield 27, 3) := by decide +kernel
theorem dX0_setEnd_4 : decode cX0_setEnd 4 = .ok (.iload_n 2, 1) := by decide +kernel
theorem dX0_setEnd_5 : decode cX0_setEnd 5 = .ok (.invokestatic 19, 3) := by decide +kernel
theorem dX0_setEnd_8 : decode cX0_setEnd 8 = .ok (.istore_n 3, 1) := by decide +kernel
theorem dX0_setEnd_9 : decode cX0_setEnd 9 = .ok (.aload_n 1, 1) := by decide +kernel
theorem dX0_setEnd_10 : decode cX0_setEnd 10 = .ok (.iload_n 2, 1) := by decide +kernel
theorem dX0_setEnd_11 : decode cX0_setEnd 11 = .ok (.invokevirtual 45, 3) := by decide +kernel
theorem dX0_setEnd_14 : decode cX0_setEnd 14 = .ok (.istore 4, 2) := by decide +kernel
theorem dX0_setEnd_16 : decode cX0_setEnd 16 = .ok (.aload_n 1, 1) := by decide +kernel
theorem dX0_setEnd_17 : decode cX0_setEnd 17 = .ok (.iload_n 2, 1) := by decide +kernel
theorem dX0_setEnd_18 : decode cX0_setEnd 18 = .ok (.invokevirtual 49, 3) := by decide +kernel
theorem dX0_setEnd_21 : decode cX0_setEnd 21 = .ok (.istore 5, 2) := by decide +kernel
theorem dX0_setEnd_23 : decode cX0_setEnd 23 = .ok (.iconst 0, 1) := by decide +kernel
theorem dX0_setEnd_24 : decode cX0_setEnd 24 = .ok (.istore 6, 2) := by decide +kernel
theorem dX0_setEnd_26 : decode cX0_setEnd 26 = .ok (.iload 6, 2) := by decide +kernel
theorem dX0_setEnd_28 : decode cX0_setEnd 28 = .ok (.iconst 4, 1) := by decide +kernel
theorem dX0_setEnd_29 : decode cX0_setEnd 29 = .ok (.if_icmp .ge 38, 3) := by decide +kernel
theorem dX0_setEnd_32 : decode cX0_setEnd 32 = .ok (.aload_n 0, 1) := by decide +kernel
theorem dX0_setEnd_33 : decode cX0_setEnd 33 = .ok (.getfield 11, 3) := by decide +kernel
theorem dX0_setEnd_36 : decode cX0_setEnd 36 = .ok (.iload_n 3, 1) := by decide +kernel
theorem dX0_setEnd_37 : decode cX0_setEnd 37 = .ok (.iload 6, 2) := by decide +kernel
theorem dX0_setEnd_39 : decode cX0_setEnd 39 = .ok (.iadd, 1) := by decide +kernel
theorem dX0_setEnd_40 : decode cX0_setEnd 40 = .ok (.iload 4, 2) := by decide +kernel
theorem dX0_setEnd_42 : decode cX0_setEnd 42 = .ok (.ifCond .eq 9, 3) := by decide +kernel
theorem dX0_setEnd_45 : decode cX0_setEnd 45 = .ok (.ldc2_w 52, 3) := by decide +kernel
theorem dX0_setEnd_48 : decode cX0_setEnd 48 = .ok (.goto 10, 3) := by decide +kernel
theorem dX0_setEnd_51 : decode cX0_setEnd 51 = .ok (.iload 5, 2) := by decide +kernel
theorem dX0_setEnd_53 : decode cX0_setEnd 53 = .ok (.iload 6, 2) := by decide +kernel
theorem dX0_setEnd_55 : decode cX0_setEnd 55 = .ok (.invokestatic 54, 3) := by decide +kernel
theorem dX0_setEnd_58 : decode cX0_setEnd 58 = .ok (.invokestatic 58, 3) := by decide +kernel
theorem dX0_setEnd_61 : decode cX0_setEnd 61 = .ok (.iinc 6 1, 3) := by decide +kernel
theorem dX0_setEnd_64 : decode cX0_setEnd 64 = .ok (.goto (-38), 3) := by decide +kernel
theorem dX0_setEnd_67 : decode cX0_setEnd 67 = .ok (.return_, 1) := by decide +kernel
theorem dX0_join_0 : decode cX0_join 0 = .ok (.iload_n 1, 1) := by decide +kernel
theorem dX0_join_1 : decode cX0_join 1 = .ok (.iload_n 2, 1) := by decide +kernel
theorem dX0_join_2 : decode cX0_join 2 = .ok (.invokestatic 19, 3) := by decide +kernel
theorem dX0_join_5 : decode cX0_join 5 = .ok (.istore 4, 2) := by decide +kernel
theorem dX0_join_7 : decode cX0_join 7 = .ok (.iload_n 1, 1) := by decide +kernel
theorem dX0_join_8 : decode cX0_join 8 = .ok (.iconst 1, 1) := by decide +kernel
theorem dX0_join_9 : decode cX0_join 9 = .ok (.iadd, 1) := by decide +kernel
theorem dX0_join_10 : decode cX0_join 10 = .ok (.iload_n 2, 1) := by decide +kernel
theorem dX0_join_11 : decode cX0_join 11 = .ok (.invokestatic 19, 3) := by decide +kernel
theorem dX0_join_14 : decode cX0_join 14 = .ok (.istore 5, 2) := by decide +kernel
theorem dX0_join_16 : decode cX0_join 16 = .ok (.iload_n 1, 1) := by decide +kernel
theorem dX0_join_17 : decode cX0_join 17 = .ok (.iconst 1, 1) := by decide +kernel
theorem dX0_join_18 : decode cX0_join 18 = .ok (.iadd, 1) := by decide +kernel
theorem dX0_join_19 : decode cX0_join 19 = .ok (.iload_n 2, 1) := by decide +kernel
theorem dX0_join_20 : decode cX0_join 20 = .ok (.iconst 1, 1) := by decide +kernel
theorem dX0_join_21 : decode cX0_join 21 = .ok (.iload_n 1, 1) := by decide +kernel
theorem dX0_join_22 : decode cX0_join 22 = .ok (.ishl, 1) := by decide +kernel
theorem dX0_join_23 : decode cX0_join 23 = .ok (.ior, 1) := by decide +kernel
theorem dX0_join_24 : decode cX0_join 24 = .ok (.invokestatic 19, 3) := by decide +kernel
theorem dX0_join_27 : decode cX0_join 27 = .ok (.istore 6, 2) := by decide +kernel
theorem dX0_join_29 : decode cX0_join 29 = .ok (.iconst 0, 1) := by decide +kernel
theorem dX0_join_30 : decode cX0_join 30 = .ok (.istore 7, 2) := by decide +kernel
theorem dX0_join_32 : decode cX0_join 32 = .ok (.iload 7, 2) := by decide +kernel
theorem dX0_join_34 : decode cX0_join 34 = .ok (.iconst 4, 1) := by decide +kernel
theorem dX0_join_35 : decode cX0_join 35 = .ok (.if_icmp .ge 66, 3) := by decide +kernel
theorem dX0_join_38 : decode cX0_join 38 = .ok (.aload_n 0, 1) := by decide +kernel
theorem dX0_join_39 : decode cX0_join 39 = .ok (.getfield 11, 3) := by decide +kernel
theorem dX0_join_42 : decode cX0_join 42 = .ok (.iload 5, 2) := by decide +kernel
theorem dX0_join_44 : decode cX0_join 44 = .ok (.iload 7, 2) := by decide +kernel
theorem dX0_join_46 : decode cX0_join 46 = .ok (.iadd, 1) := by decide +kernel
theorem dX0_join_47 : decode cX0_join 47 = .ok (.invokestatic 23, 3) := by decide +kernel
theorem dX0_join_50 : decode cX0_join 50 = .ok (.lstore 8, 2) := by decide +kernel
theorem dX0_join_52 : decode cX0_join 52 = .ok (.aload_n 0, 1) := by decide +kernel
theorem dX0_join_53 : decode cX0_join 53 = .ok (.getfield 11, 3) := by decide +kernel
theorem dX0_join_56 : decode cX0_join 56 = .ok (.iload 6, 2) := by decide +kernel
theorem dX0_join_58 : decode cX0_join 58 = .ok (.iload 7, 2) := by decide +kernel
theorem dX0_join_60 : decode cX0_join 60 = .ok (.iadd, 1) := by decide +kernel
theorem dX0_join_61 : decode cX0_join 61 = .ok (.invokestatic 23, 3) := by decide +kernel
theorem dX0_join_64 : decode cX0_join 64 = .ok (.lstore 10, 2) := by decide +kernel
theorem dX0_join_66 : decode cX0_join 66 = .ok (.aload_n 0, 1) := by decide +kernel
theorem dX0_join_67 : decode cX0_join 67 = .ok (.getfield 11, 3) := by decide +kernel
theorem dX0_join_70 : decode cX0_join 70 = .ok (.iload 4, 2) := by decide +kernel
theorem dX0_join_72 : decode cX0_join 72 = .ok (.iload 7, 2) := by decide +kernel
theorem dX0_join_74 : decode cX0_join 74 = .ok (.iadd, 1) := by decide +kernel
theorem dX0_join_75 : decode cX0_join 75 = .ok (.iload_n 3, 1) := by decide +kernel
theorem dX0_join_76 : decode cX0_join 76 = .ok (.ifCond .eq 11, 3) := by decide +kernel
theorem dX0_join_79 : decode cX0_join 79 = .ok (.lload 8, 2) := by decide +kernel
theorem dX0_join_81 : decode cX0_join 81 = .ok (.lload 10, 2) := by decide +kernel
theorem dX0_join_83 : decode cX0_join 83 = .ok (.land, 1) := by decide +kernel
theorem dX0_join_84 : decode cX0_join 84 = .ok (.goto 8, 3) := by decide +kernel
theorem dX0_join_87 : decode cX0_join 87 = .ok (.lload 8, 2) := by decide +kernel
theorem dX0_join_89 : decode cX0_join 89 = .ok (.lload 10, 2) := by decide +kernel
theorem dX0_join_91 : decode cX0_join 91 = .ok (.lor, 1) := by decide +kernel
theorem dX0_join_92 : decode cX0_join 92 = .ok (.invokestatic 58, 3) := by decide +kernel
theorem dX0_join_95 : decode cX0_join 95 = .ok (.iinc 7 1, 3) := by decide +kernel
theorem dX0_join_98 : decode cX0_join 98 = .ok (.goto (-66), 3) := by decide +kernel
theorem dX0_join_101 : decode cX0_join 101 = .ok (.return_, 1) := by decide +kernel
theorem dX0_wordOf_0 : decode cX0_wordOf 0 = .ok (.iconst 1, 1) := by decide +kernel
theorem dX0_wordOf_1 : decode cX0_wordOf 1 = .ok (.iload_n 0, 1) := by decide +kernel
theorem dX0_wordOf_2 : decode cX0_wordOf 2 = .ok (.ishl, 1) := by decide +kernel
theorem dX0_wordOf_3 : decode cX0_wordOf 3 = .ok (.iload_n 1, 1) := by decide +kernel
theorem dX0_wordOf_4 : decode cX0_wordOf 4 = .ok (.iadd, 1) := by decide +kernel
theorem dX0_wordOf_5 : decode cX0_wordOf 5 = .ok (.iconst 4, 1) := by decide +kernel
theorem dX0_wordOf_6 : decode cX0_wordOf 6 = .ok (.imul, 1) := by decide +kernel
theorem dX0_wordOf_7 : decode cX0_wordOf 7 = .ok (.ireturn, 1) := by decide +kernel
theorem dX0_setsWithout_0 : decode cX0_setsWithout 0 = .ok (.iload_n 0, 1) := by decide +kernel
theorem dX0_setsWithout_1 : decode cX0_setsWithout 1 = .ok (.getstatic 62, 3) := by decide +kernel
theorem dX0_setsWithout_4 : decode cX0_setsWithout 4 = .ok (.arraylength, 1) := by decide +kernel
theorem dX0_setsWithout_5 : decode cX0_setsWithout 5 = .ok (.if_icmp .ge 11, 3) := by decide +kernel
theorem dX0_setsWithout_8 : decode cX0_setsWithout 8 = .ok (.getstatic 62, 3) := by decide +kernel
theorem dX0_setsWithout_11 : decode cX0_setsWithout 11 = .ok (.iload_n 0, 1) := by decide +kernel
theorem dX0_setsWithout_12 : decode cX0_setsWithout 12 = .ok (.invokestatic 23, 3) := by decide +kernel
theorem dX0_setsWithout_15 : decode cX0_setsWithout 15 = .ok (.lreturn, 1) := by decide +kernel
theorem dX0_setsWithout_16 : decode cX0_setsWithout 16 = .ok (.iload_n 1, 1) := by decide +kernel
theorem dX0_setsWithout_17 : decode cX0_setsWithout 17 = .ok (.iload_n 0, 1) := by decide +kernel
theorem dX0_setsWithout_18 : decode cX0_setsWithout 18 = .ok (.getstatic 62, 3) := by decide +kernel
theorem dX0_setsWithout_21 : decode cX0_setsWithout 21 = .ok (.arraylength, 1) := by decide +kernel
theorem dX0_setsWithout_22 : decode cX0_setsWithout 22 = .ok (.isub, 1) := by decide +kernel
theorem dX0_setsWithout_23 : decode cX0_setsWithout 23 = .ok (.invokestatic 65, 3) := by decide +kernel
theorem dX0_setsWithout_26 : decode cX0_setsWithout 26 = .ok (.ifCond .ne 9, 3) := by decide +kernel
theorem dX0_setsWithout_29 : decode cX0_setsWithout 29 = .ok (.ldc2_w 52, 3) := by decide +kernel
theorem dX0_setsWithout_32 : decode cX0_setsWithout 32 = .ok (.goto 4, 3) := by decide +kernel
theorem dX0_setsWithout_35 : decode cX0_setsWithout 35 = .ok (.lconst 0, 1) := by decide +kernel
theorem dX0_setsWithout_36 : decode cX0_setsWithout 36 = .ok (.lreturn, 1) := by decide +kernel
theorem dX1_init_0 : decode cX1_init 0 = .ok (.aload_n 0, 1) := by decide +kernel
theorem dX1_init_1 : decode cX1_init 1 = .ok (.invokespecial 3, 3) := by decide +kernel
theorem dX1_init_4 : decode cX1_init 4 = .ok (.aload_n 0, 1) := by decide +kernel
theorem dX1_init_5 : decode cX1_init 5 = .ok (.bipush 100, 2) := by decide +kernel
theorem dX1_init_7 : decode cX1_init 7 = .ok (.newarray .int, 2) := by decide +kernel
theorem dX1_init_9 : decode cX1_init 9 = .ok (.putfield 9, 3) := by decide +kernel
theorem dX1_init_12 : decode cX1_init 12 = .ok (.aload_n 0, 1) := by decide +kernel
theorem dX1_init_13 : decode cX1_init 13 = .ok (.iconst (-1), 1) := by decide +kernel
theorem dX1_init_14 : decode cX1_init 14 = .ok (.putfield 15, 3) := by decide +kernel
theorem dX1_init_17 : decode cX1_init 17 = .ok (.return_, 1) := by decide +kernel
theorem dX2_init_0 : decode cX2_init 0 = .ok (.aload_n 0, 1) := by decide +kernel
theorem dX2_init_1 : decode cX2_init 1 = .ok (.invokespecial 3, 3) := by decide +kernel
theorem dX2_init_4 : decode cX2_init 4 = .ok (.aload_n 0, 1) := by decide +kernel
theorem dX2_init_5 : decode cX2_init 5 = .ok (.iconst 4, 1) := by decide +kernel
theorem dX2_init_6 : decode cX2_init 6 = .ok (.anewarray 9, 3) := by decide +kernel
theorem dX2_init_9 : decode cX2_init 9 = .ok (.dup, 1) := by decide +kernel
theorem dX2_init_10 : decode cX2_init 10 = .ok (.iconst 0, 1) := by decide +kernel
theorem dX2_init_11 : decode cX2_init 11 = .ok (.new 9, 3) := by decide +kernel
theorem dX2_init_14 : decode cX2_init 14 = .ok (.dup, 1) := by decide +kernel
theorem dX2_init_15 : decode cX2_init 15 = .ok (.invokespecial 11, 3) := by decide +kernel
theorem dX2_init_18 : decode cX2_init 18 = .ok (.aastore, 1) := by decide +kernel
theorem dX2_init_19 : decode cX2_init 19 = .ok (.dup, 1) := by decide +kernel
theorem dX2_init_20 : decode cX2_init 20 = .ok (.iconst 1, 1) := by decide +kernel
theorem dX2_init_21 : decode cX2_init 21 = .ok (.new 9, 3) := by decide +kernel
theorem dX2_init_24 : decode cX2_init 24 = .ok (.dup, 1) := by decide +kernel
theorem dX2_init_25 : decode cX2_init 25 = .ok (.invokespecial 11, 3) := by decide +kernel
theorem dX2_init_28 : decode cX2_init 28 = .ok (.aastore, 1) := by decide +kernel
theorem dX2_init_29 : decode cX2_init 29 = .ok (.dup, 1) := by decide +kernel
theorem dX2_init_30 : decode cX2_init 30 = .ok (.iconst 2, 1) := by decide +kernel
theorem dX2_init_31 : decode cX2_init 31 = .ok (.new 9, 3) := by decide +kernel
theorem dX2_init_34 : decode cX2_init 34 = .ok (.dup, 1) := by decide +kernel
theorem dX2_init_35 : decode cX2_init 35 = .ok (.invokespecial 11, 3) := by decide +kernel
theorem dX2_init_38 : decode cX2_init 38 = .ok (.aastore, 1) := by decide +kernel
theorem dX2_init_39 : decode cX2_init 39 = .ok (.dup, 1) := by decide +kernel
theorem dX2_init_40 : decode cX2_init 40 = .ok (.iconst 3, 1) := by decide +kernel
theorem dX2_init_41 : decode cX2_init 41 = .ok (.new 9, 3) := by decide +kernel
theorem dX2_init_44 : decode cX2_init 44 = .ok (.dup, 1) := by decide +kernel
theorem dX2_init_45 : decode cX2_init 45 = .ok (.invokespecial 11, 3) := by decide +kernel
theorem dX2_init_48 : decode cX2_init 48 = .ok (.aastore, 1) := by decide +kernel
theorem dX2_init_49 : decode cX2_init 49 = .ok (.putfield 12, 3) := by decide +kernel
theorem dX2_init_52 : decode cX2_init 52 = .ok (.return_, 1) := by decide +kernel
theorem dX2_push_0 : decode cX2_push 0 = .ok (.aload_n 0, 1) := by decide +kernel
theorem dX2_push_1 : decode cX2_push 1 = .ok (.getfield 18, 3) := by decide +kernel
theorem dX2_push_4 : decode cX2_push 4 = .ok (.iconst 4, 1) := by decide +kernel
theorem dX2_push_5 : decode cX2_push 5 = .ok (.if_icmp .ne 25, 3) := by decide +kernel
theorem dX2_push_8 : decode cX2_push 8 = .ok (.aload_n 0, 1) := by decide +kernel
theorem dX2_push_9 : decode cX2_push 9 = .ok (.aload_n 0, 1) := by decide +kernel
theorem dX2_push_10 : decode cX2_push 10 = .ok (.getfield 22, 3) := by decide +kernel
theorem dX2_push_13 : decode cX2_push 13 = .ok (.iconst 1, 1) := by decide +kernel
theorem dX2_push_14 : decode cX2_push 14 = .ok (.iadd, 1) := by decide +kernel
theorem dX2_push_15 : decode cX2_push 15 = .ok (.iconst 4, 1) := by decide +kernel
theorem dX2_push_16 : decode cX2_push 16 = .ok (.irem, 1) := by decide +kernel
theorem dX2_push_17 : decode cX2_push 17 = .ok (.putfield 22, 3) := by decide +kernel
theorem dX2_push_20 : decode cX2_push 20 = .ok (.aload_n 0, 1) := by decide +kernel
theorem dX2_push_21 : decode cX2_push 21 = .ok (.dup, 1) := by decide +kernel
theorem dX2_push_22 : decode cX2_push 22 = .ok (.getfield 18, 3) := by decide +kernel
theorem dX2_push_25 : decode cX2_push 25 = .ok (.iconst 1, 1) := by decide +kernel
theorem dX2_push_26 : decode cX2_push 26 = .ok (.isub, 1) := by decide +kernel
theorem dX2_push_27 : decode cX2_push 27 = .ok (.putfield 18, 3) := by decide +kernel
theorem dX2_push_30 : decode cX2_push 30 = .ok (.aload_n 0, 1) := by decide +kernel
theorem dX2_push_31 : decode cX2_push 31 = .ok (.aload_n 0, 1) := by decide +kernel
theorem dX2_push_32 : decode cX2_push 32 = .ok (.getfield 18, 3) := by decide +kernel
theorem dX2_push_35 : decode cX2_push 35 = .ok (.invokevirtual 25, 3) := by decide +kernel
theorem dX2_push_38 : decode cX2_push 38 = .ok (.astore_n 2, 1) := by decide +kernel
theorem dX2_push_39 : decode cX2_push 39 = .ok (.aload_n 2, 1) := by decide +kernel
theorem dX2_push_40 : decode cX2_push 40 = .ok (.ifnull 8, 3) := by decide +kernel
theorem dX2_push_43 : decode cX2_push 43 = .ok (.aload_n 2, 1) := by decide +kernel
theorem dX2_push_44 : decode cX2_push 44 = .ok (.aload_n 1, 1) := by decide +kernel
theorem dX2_push_45 : decode cX2_push 45 = .ok (.invokevirtual 29, 3) := by decide +kernel
theorem dX2_push_48 : decode cX2_push 48 = .ok (.aload_n 0, 1) := by decide +kernel
theorem dX2_push_49 : decode cX2_push 49 = .ok (.dup, 1) := by decide +kernel
theorem dX2_push_50 : decode cX2_push 50 = .ok (.getfield 18, 3) := by decide +kernel
theorem dX2_push_53 : decode cX2_push 53 = .ok (.iconst 1, 1) := by decide +kernel
theorem dX2_push_54 : decode cX2_push 54 = .ok (.iadd, 1) := by decide +kernel
theorem dX2_push_55 : decode cX2_push 55 = .ok (.putfield 18, 3) := by decide +kernel
theorem dX2_push_58 : decode cX2_push 58 = .ok (.return_, 1) := by decide +kernel
theorem dX2_pop_0 : decode cX2_pop 0 = .ok (.aload_n 0, 1) := by decide +kernel
theorem dX2_pop_1 : decode cX2_pop 1 = .ok (.dup, 1) := by decide +kernel
theorem dX2_pop_2 : decode cX2_pop 2 = .ok (.getfield 18, 3) := by decide +kernel
theorem dX2_pop_5 : decode cX2_pop 5 = .ok (.iconst 1, 1) := by decide +kernel
theorem dX2_pop_6 : decode cX2_pop 6 = .ok (.isub, 1) := by decide +kernel
theorem dX2_pop_7 : decode cX2_pop 7 = .ok (.putfield 18, 3) := by decide +kernel
theorem dX2_pop_10 : decode cX2_pop 10 = .ok (.aload_n 0, 1) := by decide +kernel
theorem dX2_pop_11 : decode cX2_pop 11 = .ok (.aload_n 0, 1) := by decide +kernel
theorem dX2_pop_12 : decode cX2_pop 12 = .ok (.getfield 18, 3) := by decide +kernel
theorem dX2_pop_15 : decode cX2_pop 15 = .ok (.invokevirtual 25, 3) := by decide +kernel
theorem dX2_pop_18 : decode cX2_pop 18 = .ok (.astore_n 2, 1) := by decide +kernel
theorem dX2_pop_19 : decode cX2_pop 19 = .ok (.aload_n 2, 1) := by decide +kernel
theorem dX2_pop_20 : decode cX2_pop 20 = .ok (.ifnull 8, 3) := by decide +kernel
theorem dX2_pop_23 : decode cX2_pop 23 = .ok (.aload_n 1, 1) := by decide +kernel
theorem dX2_pop_24 : decode cX2_pop 24 = .ok (.aload_n 2, 1) := by decide +kernel
theorem dX2_pop_25 : decode cX2_pop 25 = .ok (.invokevirtual 29, 3) := by decide +kernel
theorem dX2_pop_28 : decode cX2_pop 28 = .ok (.return_, 1) := by decide +kernel
theorem dX2_slot_0 : decode cX2_slot 0 = .ok (.aload_n 0, 1) := by decide +kernel
theorem dX2_slot_1 : decode cX2_slot 1 = .ok (.getfield 22, 3) := by decide +kernel
theorem dX2_slot_4 : decode cX2_slot 4 = .ok (.iload_n 1, 1) := by decide +kernel
theorem dX2_slot_5 : decode cX2_slot 5 = .ok (.iadd, 1) := by decide +kernel
theorem dX2_slot_6 : decode cX2_slot 6 = .ok (.iconst 4, 1) := by decide +kernel
theorem dX2_slot_7 : decode cX2_slot 7 = .ok (.irem, 1) := by decide +kernel
theorem dX2_slot_8 : decode cX2_slot 8 = .ok (.istore_n 2, 1) := by decide +kernel
theorem dX2_slot_9 : decode cX2_slot 9 = .ok (.iload_n 2, 1) := by decide +kernel
theorem dX2_slot_10 : decode cX2_slot 10 = .ok (.ifCond .lt 21, 3) := by decide +kernel
theorem dX2_slot_13 : decode cX2_slot 13 = .ok (.iload_n 2, 1) := by decide +kernel
theorem dX2_slot_14 : decode cX2_slot 14 = .ok (.aload_n 0, 1) := by decide +kernel
theorem dX2_slot_15 : decode cX2_slot 15 = .ok (.getfield 12, 3) := by decide +kernel
theorem dX2_slot_18 : decode cX2_slot 18 = .ok (.arraylength, 1) := by decide +kernel
theorem dX2_slot_19 : decode cX2_slot 19 = .ok (.if_icmp .ge 12, 3) := by decide +kernel
theorem dX2_slot_22 : decode cX2_slot 22 = .ok (.aload_n 0, 1) := by decide +kernel
theorem dX2_slot_23 : decode cX2_slot 23 = .ok (.getfield 12, 3) := by decide +kernel
theorem dX2_slot_26 : decode cX2_slot 26 = .ok (.iload_n 2, 1) := by decide +kernel
theorem dX2_slot_27 : decode cX2_slot 27 = .ok (.aaload, 1) := by decide +kernel
theorem dX2_slot_28 : decode cX2_slot 28 = .ok (.goto 4, 3) := by decide +kernel
theorem dX2_slot_31 : decode cX2_slot 31 = .ok (.aconst_null, 1) := by decide +kernel
theorem dX2_slot_32 : decode cX2_slot 32 = .ok (.areturn, 1) := by decide +kernel
theorem dX3_init_0 : decode cX3_init 0 = .ok (.aload_n 0, 1) := by decide +kernel
theorem dX3_init_1 : decode cX3_init 1 = .ok (.invokespecial 3, 3) := by decide +kernel
theorem dX3_init_4 : decode cX3_init 4 = .ok (.aload_n 0, 1) := by decide +kernel
theorem dX3_init_5 : decode cX3_init 5 = .ok (.bipush 20, 2) := by decide +kernel
theorem dX3_init_7 : decode cX3_init 7 = .ok (.newarray .int, 2) := by decide +kernel
theorem dX3_init_9 : decode cX3_init 9 = .ok (.putfield 9, 3) := by decide +kernel
theorem dX3_init_12 : decode cX3_init 12 = .ok (.aload_n 0, 1) := by decide +kernel
theorem dX3_init_13 : decode cX3_init 13 = .ok (.bipush 20, 2) := by decide +kernel
theorem dX3_init_15 : decode cX3_init 15 = .ok (.newarray .int, 2) := by decide +kernel
theorem dX3_init_17 : decode cX3_init 17 = .ok (.putfield 15, 3) := by decide +kernel
theorem dX3_init_20 : decode cX3_init 20 = .ok (.return_, 1) := by decide +kernel
theorem dX3_clear_0 : decode cX3_clear 0 = .ok (.aload_n 0, 1) := by decide +kernel
theorem dX3_clear_1 : decode cX3_clear 1 = .ok (.iconst 0, 1) := by decide +kernel
theorem dX3_clear_2 : decode cX3_clear 2 = .ok (.putfield 18, 3) := by decide +kernel
theorem dX3_clear_5 : decode cX3_clear 5 = .ok (.aload_n 0, 1) := by decide +kernel
theorem dX3_clear_6 : decode cX3_clear 6 = .ok (.iconst 0, 1) := by decide +kernel
theorem dX3_clear_7 : decode cX3_clear 7 = .ok (.putfield 22, 3) := by decide +kernel
theorem dX3_clear_10 : decode cX3_clear 10 = .ok (.aload_n 0, 1) := by decide +kernel
theorem dX3_clear_11 : decode cX3_clear 11 = .ok (.iconst 0, 1) := by decide +kernel
theorem dX3_clear_12 : decode cX3_clear 12 = .ok (.putfield 25, 3) := by decide +kernel
theorem dX3_clear_15 : decode cX3_clear 15 = .ok (.aload_n 0, 1) := by decide +kernel
theorem dX3_clear_16 : decode cX3_clear 16 = .ok (.iconst 0, 1) := by decide +kernel
theorem dX3_clear_17 : decode cX3_clear 17 = .ok (.putfield 28, 3) := by decide +kernel
theorem dX3_clear_20 : decode cX3_clear 20 = .ok (.aload_n 0, 1) := by decide +kernel
theorem dX3_clear_21 : decode cX3_clear 21 = .ok (.iconst 0, 1) := by decide +kernel
theorem dX3_clear_22 : decode cX3_clear 22 = .ok (.putfield 31, 3) := by decide +kernel
theorem dX3_clear_25 : decode cX3_clear 25 = .ok (.return_, 1) := by decide +kernel
theorem dX3_copyFrom_0 : decode cX3_copyFrom 0 = .ok (.aload_n 0, 1) := by decide +kernel
theorem dX3_copyFrom_1 : decode cX3_copyFrom 1 = .ok (.aload_n 1, 1) := by decide +kernel
theorem dX3_copyFrom_2 : decode cX3_copyFrom 2 = .ok (.getfield 18, 3) := by decide +kernel
theorem dX3_copyFrom_5 : decode cX3_copyFrom 5 = .ok (.putfield 18, 3) := by decide +kernel
theorem dX3_copyFrom_8 : decode cX3_copyFrom 8 = .ok (.aload_n 0, 1) := by decide +kernel
theorem dX3_copyFrom_9 : decode cX3_copyFrom 9 = .ok (.aload_n 1, 1) := by decide +kernel
theorem dX3_copyFrom_10 : decode cX3_copyFrom 10 = .ok (.getfield 22, 3) := by decide +kernel
theorem dX3_copyFrom_13 : decode cX3_copyFrom 13 = .ok (.putfield 22, 3) := by decide +kernel
theorem dX3_copyFrom_16 : decode cX3_copyFrom 16 = .ok (.aload_n 0, 1) := by decide +kernel
theorem dX3_copyFrom_17 : decode cX3_copyFrom 17 = .ok (.aload_n 1, 1) := by decide +kernel
theorem dX3_copyFrom_18 : decode cX3_copyFrom 18 = .ok (.getfield 25, 3) := by decide +kernel
theorem dX3_copyFrom_21 : decode cX3_copyFrom 21 = .ok (.putfield 25, 3) := by decide +kernel
theorem dX3_copyFrom_24 : decode cX3_copyFrom 24 = .ok (.iconst 0, 1) := by decide +kernel
theorem dX3_copyFrom_25 : decode cX3_copyFrom 25 = .ok (.istore_n 2, 1) := by decide +kernel
theorem dX3_copyFrom_26 : decode cX3_copyFrom 26 = .ok (.iload_n 2, 1) := by decide +kernel
theorem dX3_copyFrom_27 : decode cX3_copyFrom 27 = .ok (.aload_n 0, 1) := by decide +kernel
theorem dX3_copyFrom_28 : decode cX3_copyFrom 28 = .ok (.getfield 25, 3) := by decide +kernel
theorem dX3_copyFrom_31 : decode cX3_copyFrom 31 = .ok (.if_icmp .ge 41, 3) := by decide +kernel
theorem dX3_copyFrom_34 : decode cX3_copyFrom 34 = .ok (.aload_n 0, 1) := by decide +kernel
theorem dX3_copyFrom_35 : decode cX3_copyFrom 35 = .ok (.getfield 9, 3) := by decide +kernel
theorem dX3_copyFrom_38 : decode cX3_copyFrom 38 = .ok (.iload_n 2, 1) := by decide +kernel
theorem dX3_copyFrom_39 : decode cX3_copyFrom 39 = .ok (.aload_n 1, 1) := by decide +kernel
theorem dX3_copyFrom_40 : decode cX3_copyFrom 40 = .ok (.getfield 9, 3) := by decide +kernel
theorem dX3_copyFrom_43 : decode cX3_copyFrom 43 = .ok (.iload_n 2, 1) := by decide +kernel
theorem dX3_copyFrom_44 : decode cX3_copyFrom 44 = .ok (.invokestatic 34, 3) := by decide +kernel
theorem dX3_copyFrom_47 : decode cX3_copyFrom 47 = .ok (.invokestatic 38, 3) := by decide +kernel
theorem dX3_copyFrom_50 : decode cX3_copyFrom 50 = .ok (.aload_n 0, 1) := by decide +kernel
theorem dX3_copyFrom_51 : decode cX3_copyFrom 51 = .ok (.getfield 15, 3) := by decide +kernel
theorem dX3_copyFrom_54 : decode cX3_copyFrom 54 = .ok (.iload_n 2, 1) := by decide +kernel
theorem dX3_copyFrom_55 : decode cX3_copyFrom 55 = .ok (.aload_n 1, 1) := by decide +kernel
theorem dX3_copyFrom_56 : decode cX3_copyFrom 56 = .ok (.getfield 15, 3) := by decide +kernel
theorem dX3_copyFrom_59 : decode cX3_copyFrom 59 = .ok (.iload_n 2, 1) := by decide +kernel
theorem dX3_copyFrom_60 : decode cX3_copyFrom 60 = .ok (.invokestatic 34, 3) := by decide +kernel
theorem dX3_copyFrom_63 : decode cX3_copyFrom 63 = .ok (.invokestatic 38, 3) := by decide +kernel
theorem dX3_copyFrom_66 : decode cX3_copyFrom 66 = .ok (.iinc 2 1, 3) := by decide +kernel
theorem dX3_copyFrom_69 : decode cX3_copyFrom 69 = .ok (.goto (-43), 3) := by decide +kernel
theorem dX3_copyFrom_72 : decode cX3_copyFrom 72 = .ok (.aload_n 0, 1) := by decide +kernel
theorem dX3_copyFrom_73 : decode cX3_copyFrom 73 = .ok (.aload_n 1, 1) := by decide +kernel
theorem dX3_copyFrom_74 : decode cX3_copyFrom 74 = .ok (.getfield 28, 3) := by decide +kernel
theorem dX3_copyFrom_77 : decode cX3_copyFrom 77 = .ok (.putfield 28, 3) := by decide +kernel
theorem dX3_copyFrom_80 : decode cX3_copyFrom 80 = .ok (.aload_n 0, 1) := by decide +kernel
theorem dX3_copyFrom_81 : decode cX3_copyFrom 81 = .ok (.aload_n 1, 1) := by decide +kernel
theorem dX3_copyFrom_82 : decode cX3_copyFrom 82 = .ok (.getfield 31, 3) := by decide +kernel
theorem dX3_copyFrom_85 : decode cX3_copyFrom 85 = .ok (.putfield 31, 3) := by decide +kernel
theorem dX3_copyFrom_88 : decode cX3_copyFrom 88 = .ok (.return_, 1) := by decide +kernel
theorem dX3_ownerOf_0 : decode cX3_ownerOf 0 = .ok (.aload_n 0, 1) := by decide +kernel
theorem dX3_ownerOf_1 : decode cX3_ownerOf 1 = .ok (.getfield 22, 3) := by decide +kernel
theorem dX3_ownerOf_4 : decode cX3_ownerOf 4 = .ok (.iload_n 1, 1) := by decide +kernel
theorem dX3_ownerOf_5 : decode cX3_ownerOf 5 = .ok (.ishr, 1) := by decide +kernel
theorem dX3_ownerOf_6 : decode cX3_ownerOf 6 = .ok (.iconst 1, 1) := by decide +kernel
theorem dX3_ownerOf_7 : decode cX3_ownerOf 7 = .ok (.iand, 1) := by decide +kernel
theorem dX3_ownerOf_8 : decode cX3_ownerOf 8 = .ok (.ireturn, 1) := by decide +kernel
theorem dX3_plays_0 : decode cX3_plays 0 = .ok (.iconst 1, 1) := by decide +kernel
theorem dX3_plays_1 : decode cX3_plays 1 = .ok (.aload_n 0, 1) := by decide +kernel
theorem dX3_plays_2 : decode cX3_plays 2 = .ok (.getfield 22, 3) := by decide +kernel
theorem dX3_plays_5 : decode cX3_plays 5 = .ok (.invokestatic 42, 3) := by decide +kernel
theorem dX3_plays_8 : decode cX3_plays 8 = .ok (.ishl, 1) := by decide +kernel
theorem dX3_plays_9 : decode cX3_plays 9 = .ok (.ireturn, 1) := by decide +kernel
theorem dX3_allPlays_0 : decode cX3_allPlays 0 = .ok (.iconst 1, 1) := by decide +kernel
theorem dX3_allPlays_1 : decode cX3_allPlays 1 = .ok (.aload_n 0, 1) := by decide +kernel
theorem dX3_allPlays_2 : decode cX3_allPlays 2 = .ok (.invokevirtual 48, 3) := by decide +kernel
theorem dX3_allPlays_5 : decode cX3_allPlays 5 = .ok (.ishl, 1) := by decide +kernel
theorem dX3_allPlays_6 : decode cX3_allPlays 6 = .ok (.iconst 1, 1) := by decide +kernel
theorem dX3_allPlays_7 : decode cX3_allPlays 7 = .ok (.isub, 1) := by decide +kernel
theorem dX3_allPlays_8 : decode cX3_allPlays 8 = .ok (.ireturn, 1) := by decide +kernel
theorem dX3_hasPlay_0 : decode cX3_hasPlay 0 = .ok (.iload_n 1, 1) := by decide +kernel
theorem dX3_hasPlay_1 : decode cX3_hasPlay 1 = .ok (.ifCond .lt 15, 3) := by decide +kernel
theorem dX3_hasPlay_4 : decode cX3_hasPlay 4 = .ok (.iload_n 1, 1) := by decide +kernel
theorem dX3_hasPlay_5 : decode cX3_hasPlay 5 = .ok (.aload_n 0, 1) := by decide +kernel
theorem dX3_hasPlay_6 : decode cX3_hasPlay 6 = .ok (.invokevirtual 48, 3) := by decide +kernel
theorem dX3_hasPlay_9 : decode cX3_hasPlay 9 = .ok (.if_icmp .ge 7, 3) := by decide +kernel
theorem dX3_hasPlay_12 : decode cX3_hasPlay 12 = .ok (.iconst 1, 1) := by decide +kernel
theorem dX3_hasPlay_13 : decode cX3_hasPlay 13 = .ok (.goto 4, 3) := by decide +kernel
theorem dX3_hasPlay_16 : decode cX3_hasPlay 16 = .ok (.iconst 0, 1) := by decide +kernel
theorem dX3_hasPlay_17 : decode cX3_hasPlay 17 = .ok (.ireturn, 1) := by decide +kernel
theorem dX3_hasLearned_0 : decode cX3_hasLearned 0 = .ok (.aload_n 0, 1) := by decide +kernel
theorem dX3_hasLearned_1 : decode cX3_hasLearned 1 = .ok (.getfield 28, 3) := by decide +kernel
theorem dX3_hasLearned_4 : decode cX3_hasLearned 4 = .ok (.iload_n 1, 1) := by decide +kernel
theorem dX3_hasLearned_5 : decode cX3_hasLearned 5 = .ok (.invokestatic 52, 3) := by decide +kernel
theorem dX3_hasLearned_8 : decode cX3_hasLearned 8 = .ok (.iconst 1, 1) := by decide +kernel
theorem dX3_hasLearned_9 : decode cX3_hasLearned 9 = .ok (.if_icmp .ne 7, 3) := by decide +kernel
theorem dX3_hasLearned_12 : decode cX3_hasLearned 12 = .ok (.iconst 1, 1) := by decide +kernel
theorem dX3_hasLearned_13 : decode cX3_hasLearned 13 = .ok (.goto 4, 3) := by decide +kernel
theorem dX3_hasLearned_16 : decode cX3_hasLearned 16 = .ok (.iconst 0, 1) := by decide +kernel
theorem dX3_hasLearned_17 : decode cX3_hasLearned 17 = .ok (.ireturn, 1) := by decide +kernel
theorem dX3_hasVariables_0 : decode cX3_hasVariables 0 = .ok (.iload_n 1, 1) := by decide +kernel
theorem dX3_hasVariables_1 : decode cX3_hasVariables 1 = .ok (.ifCond .lt 16, 3) := by decide +kernel
theorem dX3_hasVariables_4 : decode cX3_hasVariables 4 = .ok (.iload_n 1, 1) := by decide +kernel
theorem dX3_hasVariables_5 : decode cX3_hasVariables 5 = .ok (.aload_n 0, 1) := by decide +kernel
theorem dX3_hasVariables_6 : decode cX3_hasVariables 6 = .ok (.getfield 18, 3) := by decide +kernel
theorem dX3_hasVariables_9 : decode cX3_hasVariables 9 = .ok (.ishr, 1) := by decide +kernel
theorem dX3_hasVariables_10 : decode cX3_hasVariables 10 = .ok (.ifCond .ne 7, 3) := by decide +kernel
theorem dX3_hasVariables_13 : decode cX3_hasVariables 13 = .ok (.iconst 1, 1) := by decide +kernel
theorem dX3_hasVariables_14 : decode cX3_hasVariables 14 = .ok (.goto 4, 3) := by decide +kernel
theorem dX3_hasVariables_17 : decode cX3_hasVariables 17 = .ok (.iconst 0, 1) := by decide +kernel
theorem dX3_hasVariables_18 : decode cX3_hasVariables 18 = .ok (.ireturn, 1) := by decide +kernel
theorem dX3_hasRoomFor_0 : decode cX3_hasRoomFor 0 = .ok (.aload_n 0, 1) := by decide +kernel
theorem dX3_hasRoomFor_1 : decode cX3_hasRoomFor 1 = .ok (.getfield 22, 3) := by decide +kernel
theorem dX3_hasRoomFor_4 : decode cX3_hasRoomFor 4 = .ok (.invokestatic 42, 3) := by decide +kernel
theorem dX3_hasRoomFor_7 : decode cX3_hasRoomFor 7 = .ok (.istore_n 2, 1) := by decide +kernel
theorem dX3_hasRoomFor_8 : decode cX3_hasRoomFor 8 = .ok (.iload_n 1, 1) := by decide +kernel
theorem dX3_hasRoomFor_9 : decode cX3_hasRoomFor 9 = .ok (.ifCond .eq 16, 3) := by decide +kernel
theorem dX3_hasRoomFor_12 : decode cX3_hasRoomFor 12 = .ok (.iload_n 2, 1) := by decide +kernel
theorem dX3_hasRoomFor_13 : decode cX3_hasRoomFor 13 = .ok (.iconst 3, 1) := by decide +kernel
theorem dX3_hasRoomFor_14 : decode cX3_hasRoomFor 14 = .ok (.if_icmp .ge 7, 3) := by decide +kernel
theorem dX3_hasRoomFor_17 : decode cX3_hasRoomFor 17 = .ok (.iconst 1, 1) := by decide +kernel
theorem dX3_hasRoomFor_18 : decode cX3_hasRoomFor 18 = .ok (.goto 23, 3) := by decide +kernel
theorem dX3_hasRoomFor_21 : decode cX3_hasRoomFor 21 = .ok (.iconst 0, 1) := by decide +kernel
theorem dX3_hasRoomFor_22 : decode cX3_hasRoomFor 22 = .ok (.goto 19, 3) := by decide +kernel
theorem dX3_hasRoomFor_25 : decode cX3_hasRoomFor 25 = .ok (.aload_n 0, 1) := by decide +kernel
theorem dX3_hasRoomFor_26 : decode cX3_hasRoomFor 26 = .ok (.getfield 18, 3) := by decide +kernel
theorem dX3_hasRoomFor_29 : decode cX3_hasRoomFor 29 = .ok (.iload_n 2, 1) := by decide +kernel
theorem dX3_hasRoomFor_30 : decode cX3_hasRoomFor 30 = .ok (.isub, 1) := by decide +kernel
theorem dX3_hasRoomFor_31 : decode cX3_hasRoomFor 31 = .ok (.bipush 6, 2) := by decide +kernel
theorem dX3_hasRoomFor_33 : decode cX3_hasRoomFor 33 = .ok (.if_icmp .ge 7, 3) := by decide +kernel
theorem dX3_hasRoomFor_36 : decode cX3_hasRoomFor 36 = .ok (.iconst 1, 1) := by decide +kernel
theorem dX3_hasRoomFor_37 : decode cX3_hasRoomFor 37 = .ok (.goto 4, 3) := by decide +kernel
theorem dX3_hasRoomFor_40 : decode cX3_hasRoomFor 40 = .ok (.iconst 0, 1) := by decide +kernel
theorem dX3_hasRoomFor_41 : decode cX3_hasRoomFor 41 = .ok (.ireturn, 1) := by decide +kernel
theorem dX3_putVariable_0 : decode cX3_putVariable 0 = .ok (.iload_n 1, 1) := by decide +kernel
theorem dX3_putVariable_1 : decode cX3_putVariable 1 = .ok (.ifCond .eq 18, 3) := by decide +kernel
theorem dX3_putVariable_4 : decode cX3_putVariable 4 = .ok (.aload_n 0, 1) := by decide +kernel
theorem dX3_putVariable_5 : decode cX3_putVariable 5 = .ok (.dup, 1) := by decide +kernel
theorem dX3_putVariable_6 : decode cX3_putVariable 6 = .ok (.getfield 22, 3) := by decide +kernel
theorem dX3_putVariable_9 : decode cX3_putVariable 9 = .ok (.iconst 1, 1) := by decide +kernel
theorem dX3_putVariable_10 : decode cX3_putVariable 10 = .ok (.aload_n 0, 1) := by decide +kernel
theorem dX3_putVariable_11 : decode cX3_putVariable 11 = .ok (.getfield 18, 3) := by decide +kernel
theorem dX3_putVariable_14 : decode cX3_putVariable 14 = .ok (.ishl, 1) := by decide +kernel
theorem dX3_putVariable_15 : decode cX3_putVariable 15 = .ok (.ior, 1) := by decide +kernel
theorem dX3_putVariable_16 : decode cX3_putVariable 16 = .ok (.putfield 22, 3) := by decide +kernel
theorem dX3_putVariable_19 : decode cX3_putVariable 19 = .ok (.aload_n 0, 1) := by decide +kernel
theorem dX3_putVariable_20 : decode cX3_putVariable 20 = .ok (.dup, 1) := by decide +kernel
theorem dX3_putVariable_21 : decode cX3_putVariable 21 = .ok (.getfield 18, 3) := by decide +kernel
theorem dX3_putVariable_24 : decode cX3_putVariable 24 = .ok (.iconst 1, 1) := by decide +kernel
theorem dX3_putVariable_25 : decode cX3_putVariable 25 = .ok (.iadd, 1) := by decide +kernel
theorem dX3_putVariable_26 : decode cX3_putVariable 26 = .ok (.putfield 18, 3) := by decide +kernel
theorem dX3_putVariable_29 : decode cX3_putVariable 29 = .ok (.return_, 1) := by decide +kernel
theorem dX3_putClause_0 : decode cX3_putClause 0 = .ok (.aload_n 0, 1) := by decide +kernel
theorem dX3_putClause_1 : decode cX3_putClause 1 = .ok (.getfield 9, 3) := by decide +kernel
theorem dX3_putClause_4 : decode cX3_putClause 4 = .ok (.aload_n 0, 1) := by decide +kernel
theorem dX3_putClause_5 : decode cX3_putClause 5 = .ok (.getfield 25, 3) := by decide +kernel
theorem dX3_putClause_8 : decode cX3_putClause 8 = .ok (.iload_n 1, 1) := by decide +kernel
theorem dX3_putClause_9 : decode cX3_putClause 9 = .ok (.invokestatic 38, 3) := by decide +kernel
theorem dX3_putClause_12 : decode cX3_putClause 12 = .ok (.aload_n 0, 1) := by decide +kernel
theorem dX3_putClause_13 : decode cX3_putClause 13 = .ok (.getfield 15, 3) := by decide +kernel
theorem dX3_putClause_16 : decode cX3_putClause 16 = .ok (.aload_n 0, 1) := by decide +kernel
theorem dX3_putClause_17 : decode cX3_putClause 17 = .ok (.getfield 25, 3) := by decide +kernel
theorem dX3_putClause_20 : decode cX3_putClause 20 = .ok (.iload_n 2, 1) := by decide +kernel
theorem dX3_putClause_21 : decode cX3_putClause 21 = .ok (.invokestatic 38, 3) := by decide +kernel
theorem dX3_putClause_24 : decode cX3_putClause 24 = .ok (.aload_n 0, 1) := by decide +kernel
theorem dX3_putClause_25 : decode cX3_putClause 25 = .ok (.dup, 1) := by decide +kernel
theorem dX3_putClause_26 : decode cX3_putClause 26 = .ok (.getfield 25, 3) := by decide +kernel
theorem dX3_putClause_29 : decode cX3_putClause 29 = .ok (.iconst 1, 1) := by decide +kernel
theorem dX3_putClause_30 : decode cX3_putClause 30 = .ok (.iadd, 1) := by decide +kernel
theorem dX3_putClause_31 : decode cX3_putClause 31 = .ok (.putfield 25, 3) := by decide +kernel
theorem dX3_putClause_34 : decode cX3_putClause 34 = .ok (.return_, 1) := by decide +kernel
theorem dX3_dropClause_0 : decode cX3_dropClause 0 = .ok (.aload_n 0, 1) := by decide +kernel
theorem dX3_dropClause_1 : decode cX3_dropClause 1 = .ok (.dup, 1) := by decide +kernel
theorem dX3_dropClause_2 : decode cX3_dropClause 2 = .ok (.getfield 25, 3) := by decide +kernel
theorem dX3_dropClause_5 : decode cX3_dropClause 5 = .ok (.iconst 1, 1) := by decide +kernel
theorem dX3_dropClause_6 : decode cX3_dropClause 6 = .ok (.isub, 1) := by decide +kernel
theorem dX3_dropClause_7 : decode cX3_dropClause 7 = .ok (.putfield 25, 3) := by decide +kernel
theorem dX3_dropClause_10 : decode cX3_dropClause 10 = .ok (.iload_n 1, 1) := by decide +kernel
theorem dX3_dropClause_11 : decode cX3_dropClause 11 = .ok (.istore_n 2, 1) := by decide +kernel
theorem dX3_dropClause_12 : decode cX3_dropClause 12 = .ok (.iload_n 2, 1) := by decide +kernel
theorem dX3_dropClause_13 : decode cX3_dropClause 13 = .ok (.aload_n 0, 1) := by decide +kernel
theorem dX3_dropClause_14 : decode cX3_dropClause 14 = .ok (.getfield 25, 3) := by decide +kernel
theorem dX3_dropClause_17 : decode cX3_dropClause 17 = .ok (.if_icmp .ge 45, 3) := by decide +kernel
theorem dX3_dropClause_20 : decode cX3_dropClause 20 = .ok (.aload_n 0, 1) := by decide +kernel
theorem dX3_dropClause_21 : decode cX3_dropClause 21 = .ok (.getfield 9, 3) := by decide +kernel
theorem dX3_dropClause_24 : decode cX3_dropClause 24 = .ok (.iload_n 2, 1) := by decide +kernel
theorem dX3_dropClause_25 : decode cX3_dropClause 25 = .ok (.aload_n 0, 1) := by decide +kernel
theorem dX3_dropClause_26 : decode cX3_dropClause 26 = .ok (.getfield 9, 3) := by decide +kernel
theorem dX3_dropClause_29 : decode cX3_dropClause 29 = .ok (.iload_n 2, 1) := by decide +kernel
theorem dX3_dropClause_30 : decode cX3_dropClause 30 = .ok (.iconst 1, 1) := by decide +kernel
theorem dX3_dropClause_31 : decode cX3_dropClause 31 = .ok (.iadd, 1) := by decide +kernel
theorem dX3_dropClause_32 : decode cX3_dropClause 32 = .ok (.invokestatic 34, 3) := by decide +kernel
theorem dX3_dropClause_35 : decode cX3_dropClause 35 = .ok (.invokestatic 38, 3) := by decide +kernel
theorem dX3_dropClause_38 : decode cX3_dropClause 38 = .ok (.aload_n 0, 1) := by decide +kernel
theorem dX3_dropClause_39 : decode cX3_dropClause 39 = .ok (.getfield 15, 3) := by decide +kernel
theorem dX3_dropClause_42 : decode cX3_dropClause 42 = .ok (.iload_n 2, 1) := by decide +kernel
theorem dX3_dropClause_43 : decode cX3_dropClause 43 = .ok (.aload_n 0, 1) := by decide +kernel
theorem dX3_dropClause_44 : decode cX3_dropClause 44 = .ok (.getfield 15, 3) := by decide +kernel
theorem dX3_dropClause_47 : decode cX3_dropClause 47 = .ok (.iload_n 2, 1) := by decide +kernel
theorem dX3_dropClause_48 : decode cX3_dropClause 48 = .ok (.iconst 1, 1) := by decide +kernel
theorem dX3_dropClause_49 : decode cX3_dropClause 49 = .ok (.iadd, 1) := by decide +kernel
theorem dX3_dropClause_50 : decode cX3_dropClause 50 = .ok (.invokestatic 34, 3) := by decide +kernel
theorem dX3_dropClause_53 : decode cX3_dropClause 53 = .ok (.invokestatic 38, 3) := by decide +kernel
theorem dX3_dropClause_56 : decode cX3_dropClause 56 = .ok (.iinc 2 1, 3) := by decide +kernel
theorem dX3_dropClause_59 : decode cX3_dropClause 59 = .ok (.goto (-47), 3) := by decide +kernel
theorem dX3_dropClause_62 : decode cX3_dropClause 62 = .ok (.return_, 1) := by decide +kernel
theorem dX3_holds_0 : decode cX3_holds 0 = .ok (.iconst 0, 1) := by decide +kernel
theorem dX3_holds_1 : decode cX3_holds 1 = .ok (.istore_n 2, 1) := by decide +kernel
theorem dX3_holds_2 : decode cX3_holds 2 = .ok (.iload_n 2, 1) := by decide +kernel
theorem dX3_holds_3 : decode cX3_holds 3 = .ok (.aload_n 0, 1) := by decide +kernel
theorem dX3_holds_4 : decode cX3_holds 4 = .ok (.getfield 25, 3) := by decide +kernel
theorem dX3_holds_7 : decode cX3_holds 7 = .ok (.if_icmp .ge 49, 3) := by decide +kernel
theorem dX3_holds_10 : decode cX3_holds 10 = .ok (.iload_n 1, 1) := by decide +kernel
theorem dX3_holds_11 : decode cX3_holds 11 = .ok (.aload_n 0, 1) := by decide +kernel
theorem dX3_holds_12 : decode cX3_holds 12 = .ok (.getfield 9, 3) := by decide +kernel
theorem dX3_holds_15 : decode cX3_holds 15 = .ok (.iload_n 2, 1) := by decide +kernel
theorem dX3_holds_16 : decode cX3_holds 16 = .ok (.invokestatic 34, 3) := by decide +kernel
theorem dX3_holds_19 : decode cX3_holds 19 = .ok (.iand, 1) := by decide +kernel
theorem dX3_holds_20 : decode cX3_holds 20 = .ok (.ifCond .ne 18, 3) := by decide +kernel
theorem dX3_holds_23 : decode cX3_holds 23 = .ok (.iload_n 1, 1) := by decide +kernel
theorem dX3_holds_24 : decode cX3_holds 24 = .ok (.iconst (-1), 1) := by decide +kernel
theorem dX3_holds_25 : decode cX3_holds 25 = .ok (.ixor, 1) := by decide +kernel
theorem dX3_holds_26 : decode cX3_holds 26 = .ok (.aload_n 0, 1) := by decide +kernel
theorem dX3_holds_27 : decode cX3_holds 27 = .ok (.getfield 15, 3) := by decide +kernel
theorem dX3_holds_30 : decode cX3_holds 30 = .ok (.iload_n 2, 1) := by decide +kernel
theorem dX3_holds_31 : decode cX3_holds 31 = .ok (.invokestatic 34, 3) := by decide +kernel
theorem dX3_holds_34 : decode cX3_holds 34 = .ok (.iand, 1) := by decide +kernel
theorem dX3_holds_35 : decode cX3_holds 35 = .ok (.ifCond .eq 7, 3) := by decide +kernel
theorem dX3_holds_38 : decode cX3_holds 38 = .ok (.iconst 1, 1) := by decide +kernel
theorem dX3_holds_39 : decode cX3_holds 39 = .ok (.goto 4, 3) := by decide +kernel
theorem dX3_holds_42 : decode cX3_holds 42 = .ok (.iconst 0, 1) := by decide +kernel
theorem dX3_holds_43 : decode cX3_holds 43 = .ok (.istore_n 3, 1) := by decide +kernel
theorem dX3_holds_44 : decode cX3_holds 44 = .ok (.iload_n 3, 1) := by decide +kernel
theorem dX3_holds_45 : decode cX3_holds 45 = .ok (.ifCond .ne 5, 3) := by decide +kernel
theorem dX3_holds_48 : decode cX3_holds 48 = .ok (.iconst 0, 1) := by decide +kernel
theorem dX3_holds_49 : decode cX3_holds 49 = .ok (.ireturn, 1) := by decide +kernel
theorem dX3_holds_50 : decode cX3_holds 50 = .ok (.iinc 2 1, 3) := by decide +kernel
theorem dX3_holds_53 : decode cX3_holds 53 = .ok (.goto (-51), 3) := by decide +kernel
theorem dX3_holds_56 : decode cX3_holds 56 = .ok (.iconst 1, 1) := by decide +kernel
theorem dX3_holds_57 : decode cX3_holds 57 = .ok (.ireturn, 1) := by decide +kernel
theorem dX3_playIn_0 : decode cX3_playIn 0 = .ok (.iconst 0, 1) := by decide +kernel
theorem dX3_playIn_1 : decode cX3_playIn 1 = .ok (.istore_n 2, 1) := by decide +kernel
theorem dX3_playIn_2 : decode cX3_playIn 2 = .ok (.iconst 0, 1) := by decide +kernel
theorem dX3_playIn_3 : decode cX3_playIn 3 = .ok (.istore_n 3, 1) := by decide +kernel
theorem dX3_playIn_4 : decode cX3_playIn 4 = .ok (.iconst 0, 1) := by decide +kernel
theorem dX3_playIn_5 : decode cX3_playIn 5 = .ok (.istore 4, 2) := by decide +kernel
theorem dX3_playIn_7 : decode cX3_playIn 7 = .ok (.iload 4, 2) := by decide +kernel
theorem dX3_playIn_9 : decode cX3_playIn 9 = .ok (.aload_n 0, 1) := by decide +kernel
theorem dX3_playIn_10 : decode cX3_playIn 10 = .ok (.getfield 18, 3) := by decide +kernel
theorem dX3_playIn_13 : decode cX3_playIn 13 = .ok (.if_icmp .ge 33, 3) := by decide +kernel
theorem dX3_playIn_16 : decode cX3_playIn 16 = .ok (.aload_n 0, 1) := by decide +kernel
theorem dX3_playIn_17 : decode cX3_playIn 17 = .ok (.iload 4, 2) := by decide +kernel
theorem dX3_playIn_19 : decode cX3_playIn 19 = .ok (.invokevirtual 56, 3) := by decide +kernel
theorem dX3_playIn_22 : decode cX3_playIn 22 = .ok (.iconst 1, 1) := by decide +kernel
theorem dX3_playIn_23 : decode cX3_playIn 23 = .ok (.if_icmp .ne 17, 3) := by decide +kernel
theorem dX3_playIn_26 : decode cX3_playIn 26 = .ok (.iload_n 2, 1) := by decide +kernel
theorem dX3_playIn_27 : decode cX3_playIn 27 = .ok (.iload_n 1, 1) := by decide +kernel
theorem dX3_playIn_28 : decode cX3_playIn 28 = .ok (.iload 4, 2) := by decide +kernel
theorem dX3_playIn_30 : decode cX3_playIn 30 = .ok (.invokestatic 52, 3) := by decide +kernel
theorem dX3_playIn_33 : decode cX3_playIn 33 = .ok (.iload_n 3, 1) := by decide +kernel
theorem dX3_playIn_34 : decode cX3_playIn 34 = .ok (.ishl, 1) := by decide +kernel
theorem dX3_playIn_35 : decode cX3_playIn 35 = .ok (.ior, 1) := by decide +kernel
theorem dX3_playIn_36 : decode cX3_playIn 36 = .ok (.istore_n 2, 1) := by decide +kernel
theorem dX3_playIn_37 : decode cX3_playIn 37 = .ok (.iinc 3 1, 3) := by decide +kernel
theorem dX3_playIn_40 : decode cX3_playIn 40 = .ok (.iinc 4 1, 3) := by decide +kernel
theorem dX3_playIn_43 : decode cX3_playIn 43 = .ok (.goto (-36), 3) := by decide +kernel
theorem dX3_playIn_46 : decode cX3_playIn 46 = .ok (.iload_n 2, 1) := by decide +kernel
theorem dX3_playIn_47 : decode cX3_playIn 47 = .ok (.ireturn, 1) := by decide +kernel
theorem dX4_init_0 : decode cX4_init 0 = .ok (.aload_n 0, 1) := by decide +kernel
theorem dX4_init_1 : decode cX4_init 1 = .ok (.invokespecial 1, 3) := by decide +kernel
theorem dX4_init_4 : decode cX4_init 4 = .ok (.aload_n 0, 1) := by decide +kernel
theorem dX4_init_5 : decode cX4_init 5 = .ok (.new 7, 3) := by decide +kernel
theorem dX4_init_8 : decode cX4_init 8 = .ok (.dup, 1) := by decide +kernel
theorem dX4_init_9 : decode cX4_init 9 = .ok (.invokespecial 9, 3) := by decide +kernel
theorem dX4_init_12 : decode cX4_init 12 = .ok (.putfield 10, 3) := by decide +kernel
theorem dX4_init_15 : decode cX4_init 15 = .ok (.aload_n 0, 1) := by decide +kernel
theorem dX4_init_16 : decode cX4_init 16 = .ok (.new 16, 3) := by decide +kernel
theorem dX4_init_19 : decode cX4_init 19 = .ok (.dup, 1) := by decide +kernel
theorem dX4_init_20 : decode cX4_init 20 = .ok (.invokespecial 18, 3) := by decide +kernel
theorem dX4_init_23 : decode cX4_init 23 = .ok (.putfield 19, 3) := by decide +kernel
theorem dX4_init_26 : decode cX4_init 26 = .ok (.aload_n 0, 1) := by decide +kernel
theorem dX4_init_27 : decode cX4_init 27 = .ok (.new 23, 3) := by decide +kernel
theorem dX4_init_30 : decode cX4_init 30 = .ok (.dup, 1) := by decide +kernel
theorem dX4_init_31 : decode cX4_init 31 = .ok (.invokespecial 25, 3) := by decide +kernel
theorem dX4_init_34 : decode cX4_init 34 = .ok (.putfield 26, 3) := by decide +kernel
theorem dX4_init_37 : decode cX4_init 37 = .ok (.aload_n 0, 1) := by decide +kernel
theorem dX4_init_38 : decode cX4_init 38 = .ok (.new 30, 3) := by decide +kernel
theorem dX4_init_41 : decode cX4_init 41 = .ok (.dup, 1) := by decide +kernel
theorem dX4_init_42 : decode cX4_init 42 = .ok (.invokespecial 32, 3) := by decide +kernel
theorem dX4_init_45 : decode cX4_init 45 = .ok (.putfield 33, 3) := by decide +kernel
theorem dX4_init_48 : decode cX4_init 48 = .ok (.return_, 1) := by decide +kernel
theorem dX4_begin_0 : decode cX4_begin 0 = .ok (.aload_n 0, 1) := by decide +kernel
theorem dX4_begin_1 : decode cX4_begin 1 = .ok (.getfield 10, 3) := by decide +kernel
theorem dX4_begin_4 : decode cX4_begin 4 = .ok (.getfield 37, 3) := by decide +kernel
theorem dX4_begin_7 : decode cX4_begin 7 = .ok (.istore_n 1, 1) := by decide +kernel
theorem dX4_begin_8 : decode cX4_begin 8 = .ok (.aload_n 0, 1) := by decide +kernel
theorem dX4_begin_9 : decode cX4_begin 9 = .ok (.getfield 19, 3) := by decide +kernel
theorem dX4_begin_12 : decode cX4_begin 12 = .ok (.aload_n 0, 1) := by decide +kernel
theorem dX4_begin_13 : decode cX4_begin 13 = .ok (.getfield 10, 3) := by decide +kernel
theorem dX4_begin_16 : decode cX4_begin 16 = .ok (.invokevirtual 41, 3) := by decide +kernel
theorem dX4_begin_19 : decode cX4_begin 19 = .ok (.aload_n 0, 1) := by decide +kernel
theorem dX4_begin_20 : decode cX4_begin 20 = .ok (.getfield 10, 3) := by decide +kernel
theorem dX4_begin_23 : decode cX4_begin 23 = .ok (.invokevirtual 45, 3) := by decide +kernel
theorem dX4_begin_26 : decode cX4_begin 26 = .ok (.aload_n 0, 1) := by decide +kernel
theorem dX4_begin_27 : decode cX4_begin 27 = .ok (.getfield 26, 3) := by decide +kernel
theorem dX4_begin_30 : decode cX4_begin 30 = .ok (.iconst 1, 1) := by decide +kernel
theorem dX4_begin_31 : decode cX4_begin 31 = .ok (.putfield 48, 3) := by decide +kernel
theorem dX4_begin_34 : decode cX4_begin 34 = .ok (.iload_n 1, 1) := by decide +kernel
theorem dX4_begin_35 : decode cX4_begin 35 = .ok (.ireturn, 1) := by decide +kernel
theorem dX4_addVariable_0 : decode cX4_addVariable 0 = .ok (.aload_n 0, 1) := by decide +kernel
theorem dX4_addVariable_1 : decode cX4_addVariable 1 = .ok (.getfield 10, 3) := by decide +kernel
theorem dX4_addVariable_4 : decode cX4_addVariable 4 = .ok (.iload_n 1, 1) := by decide +kernel
theorem dX4_addVariable_5 : decode cX4_addVariable 5 = .ok (.invokevirtual 52, 3) := by decide +kernel
theorem dX4_addVariable_8 : decode cX4_addVariable 8 = .ok (.ifCond .ne 13, 3) := by decide +kernel
theorem dX4_addVariable_11 : decode cX4_addVariable 11 = .ok (.new 56, 3) := by decide +kernel
theorem dX4_addVariable_14 : decode cX4_addVariable 14 = .ok (.dup, 1) := by decide +kernel
theorem dX4_addVariable_15 : decode cX4_addVariable 15 = .ok (.ldc 58, 2) := by decide +kernel
theorem dX4_addVariable_17 : decode cX4_addVariable 17 = .ok (.invokespecial 60, 3) := by decide +kernel
theorem dX4_addVariable_20 : decode cX4_addVariable 20 = .ok (.athrow, 1) := by decide +kernel
theorem dX4_addVariable_21 : decode cX4_addVariable 21 = .ok (.aload_n 0, 1) := by decide +kernel
theorem dX4_addVariable_22 : decode cX4_addVariable 22 = .ok (.getfield 19, 3) := by decide +kernel
theorem dX4_addVariable_25 : decode cX4_addVariable 25 = .ok (.aload_n 0, 1) := by decide +kernel
theorem dX4_addVariable_26 : decode cX4_addVariable 26 = .ok (.getfield 10, 3) := by decide +kernel
theorem dX4_addVariable_29 : decode cX4_addVariable 29 = .ok (.invokevirtual 41, 3) := by decide +kernel
theorem dX4_addVariable_32 : decode cX4_addVariable 32 = .ok (.aload_n 0, 1) := by decide +kernel
theorem dX4_addVariable_33 : decode cX4_addVariable 33 = .ok (.iload_n 1, 1) := by decide +kernel
theorem dX4_addVariable_34 : decode cX4_addVariable 34 = .ok (.invokevirtual 63, 3) := by decide +kernel
theorem dX4_addVariable_37 : decode cX4_addVariable 37 = .ok (.aload_n 0, 1) := by decide +kernel
theorem dX4_addVariable_38 : decode cX4_addVariable 38 = .ok (.getfield 10, 3) := by decide +kernel
theorem dX4_addVariable_41 : decode cX4_addVariable 41 = .ok (.getfield 37, 3) := by decide +kernel
theorem dX4_addVariable_44 : decode cX4_addVariable 44 = .ok (.iconst 1, 1) := by decide +kernel
theorem dX4_addVariable_45 : decode cX4_addVariable 45 = .ok (.isub, 1) := by decide +kernel
theorem dX4_addVariable_46 : decode cX4_addVariable 46 = .ok (.ireturn, 1) := by decide +kernel
theorem dX4_addClause_0 : decode cX4_addClause 0 = .ok (.aload_n 0, 1) := by decide +kernel
theorem dX4_addClause_1 : decode cX4_addClause 1 = .ok (.getfield 10, 3) := by decide +kernel
theorem dX4_addClause_4 : decode cX4_addClause 4 = .ok (.iload_n 1, 1) := by decide +kernel
theorem dX4_addClause_5 : decode cX4_addClause 5 = .ok (.invokevirtual 67, 3) := by decide +kernel
theorem dX4_addClause_8 : decode cX4_addClause 8 = .ok (.ifCond .eq 14, 3) := by decide +kernel
theorem dX4_addClause_11 : decode cX4_addClause 11 = .ok (.aload_n 0, 1) := by decide +kernel
theorem dX4_addClause_12 : decode cX4_addClause 12 = .ok (.getfield 10, 3) := by decide +kernel
theorem dX4_addClause_15 : decode cX4_addClause 15 = .ok (.iload_n 2, 1) := by decide +kernel
theorem dX4_addClause_16 : decode cX4_addClause 16 = .ok (.invokevirtual 67, 3) := by decide +kernel
theorem dX4_addClause_19 : decode cX4_addClause 19 = .ok (.ifCond .ne 13, 3) := by decide +kernel
theorem dX4_addClause_22 : decode cX4_addClause 22 = .ok (.new 71, 3) := by decide +kernel
theorem dX4_addClause_25 : decode cX4_addClause 25 = .ok (.dup, 1) := by decide +kernel
theorem dX4_addClause_26 : decode cX4_addClause 26 = .ok (.ldc 73, 2) := by decide +kernel
theorem dX4_addClause_28 : decode cX4_addClause 28 = .ok (.invokespecial 75, 3) := by decide +kernel
theorem dX4_addClause_31 : decode cX4_addClause 31 = .ok (.athrow, 1) := by decide +kernel
theorem dX4_addClause_32 : decode cX4_addClause 32 = .ok (.aload_n 0, 1) := by decide +kernel
theorem dX4_addClause_33 : decode cX4_addClause 33 = .ok (.getfield 10, 3) := by decide +kernel
theorem dX4_addClause_36 : decode cX4_addClause 36 = .ok (.getfield 76, 3) := by decide +kernel
theorem dX4_addClause_39 : decode cX4_addClause 39 = .ok (.bipush 20, 2) := by decide +kernel
theorem dX4_addClause_41 : decode cX4_addClause 41 = .ok (.if_icmp .lt 13, 3) := by decide +kernel
theorem dX4_addClause_44 : decode cX4_addClause 44 = .ok (.new 56, 3) := by decide +kernel
theorem dX4_addClause_47 : decode cX4_addClause 47 = .ok (.dup, 1) := by decide +kernel
theorem dX4_addClause_48 : decode cX4_addClause 48 = .ok (.ldc 79, 2) := by decide +kernel
theorem dX4_addClause_50 : decode cX4_addClause 50 = .ok (.invokespecial 60, 3) := by decide +kernel
theorem dX4_addClause_53 : decode cX4_addClause 53 = .ok (.athrow, 1) := by decide +kernel
theorem dX4_addClause_54 : decode cX4_addClause 54 = .ok (.aload_n 0, 1) := by decide +kernel
theorem dX4_addClause_55 : decode cX4_addClause 55 = .ok (.getfield 19, 3) := by decide +kernel
theorem dX4_addClause_58 : decode cX4_addClause 58 = .ok (.aload_n 0, 1) := by decide +kernel
theorem dX4_addClause_59 : decode cX4_addClause 59 = .ok (.getfield 10, 3) := by decide +kernel
theorem dX4_addClause_62 : decode cX4_addClause 62 = .ok (.invokevirtual 41, 3) := by decide +kernel
theorem dX4_addClause_65 : decode cX4_addClause 65 = .ok (.aload_n 0, 1) := by decide +kernel
theorem dX4_addClause_66 : decode cX4_addClause 66 = .ok (.iload_n 1, 1) := by decide +kernel
theorem dX4_addClause_67 : decode cX4_addClause 67 = .ok (.iload_n 2, 1) := by decide +kernel
theorem dX4_addClause_68 : decode cX4_addClause 68 = .ok (.invokevirtual 81, 3) := by decide +kernel
theorem dX4_addClause_71 : decode cX4_addClause 71 = .ok (.aload_n 0, 1) := by decide +kernel
theorem dX4_addClause_72 : decode cX4_addClause 72 = .ok (.getfield 10, 3) := by decide +kernel
theorem dX4_addClause_75 : decode cX4_addClause 75 = .ok (.getfield 76, 3) := by decide +kernel
theorem dX4_addClause_78 : decode cX4_addClause 78 = .ok (.iconst 1, 1) := by decide +kernel
theorem dX4_addClause_79 : decode cX4_addClause 79 = .ok (.isub, 1) := by decide +kernel
theorem dX4_addClause_80 : decode cX4_addClause 80 = .ok (.ireturn, 1) := by decide +kernel
theorem dX4_removeClause_0 : decode cX4_removeClause 0 = .ok (.aload_n 0, 1) := by decide +kernel
theorem dX4_removeClause_1 : decode cX4_removeClause 1 = .ok (.iload_n 1, 1) := by decide +kernel
theorem dX4_removeClause_2 : decode cX4_removeClause 2 = .ok (.invokevirtual 85, 3) := by decide +kernel
theorem dX4_removeClause_5 : decode cX4_removeClause 5 = .ok (.aload_n 0, 1) := by decide +kernel
theorem dX4_removeClause_6 : decode cX4_removeClause 6 = .ok (.getfield 19, 3) := by decide +kernel
theorem dX4_removeClause_9 : decode cX4_removeClause 9 = .ok (.aload_n 0, 1) := by decide +kernel
theorem dX4_removeClause_10 : decode cX4_removeClause 10 = .ok (.getfield 10, 3) := by decide +kernel
theorem dX4_removeClause_13 : decode cX4_removeClause 13 = .ok (.invokevirtual 41, 3) := by decide +kernel
theorem dX4_removeClause_16 : decode cX4_removeClause 16 = .ok (.aload_n 0, 1) := by decide +kernel
theorem dX4_removeClause_17 : decode cX4_removeClause 17 = .ok (.getfield 10, 3) := by decide +kernel
theorem dX4_removeClause_20 : decode cX4_removeClause 20 = .ok (.iload_n 1, 1) := by decide +kernel
theorem dX4_removeClause_21 : decode cX4_removeClause 21 = .ok (.invokevirtual 89, 3) := by decide +kernel
theorem dX4_removeClause_24 : decode cX4_removeClause 24 = .ok (.aload_n 0, 1) := by decide +kernel
theorem dX4_removeClause_25 : decode cX4_removeClause 25 = .ok (.invokevirtual 92, 3) := by decide +kernel
theorem dX4_removeClause_28 : decode cX4_removeClause 28 = .ok (.aload_n 0, 1) := by decide +kernel
theorem dX4_removeClause_29 : decode cX4_removeClause 29 = .ok (.getfield 10, 3) := by decide +kernel
theorem dX4_removeClause_32 : decode cX4_removeClause 32 = .ok (.getfield 76, 3) := by decide +kernel
theorem dX4_removeClause_35 : decode cX4_removeClause 35 = .ok (.ireturn, 1) := by decide +kernel
theorem dX4_round_0 : decode cX4_round 0 = .ok (.aload_n 0, 1) := by decide +kernel
theorem dX4_round_1 : decode cX4_round 1 = .ok (.getfield 19, 3) := by decide +kernel
theorem dX4_round_4 : decode cX4_round 4 = .ok (.aload_n 0, 1) := by decide +kernel
theorem dX4_round_5 : decode cX4_round 5 = .ok (.getfield 10, 3) := by decide +kernel
theorem dX4_round_8 : decode cX4_round 8 = .ok (.invokevirtual 41, 3) := by decide +kernel
theorem dX4_round_11 : decode cX4_round 11 = .ok (.aload_n 0, 1) := by decide +kernel
theorem dX4_round_12 : decode cX4_round 12 = .ok (.invokevirtual 112, 3) := by decide +kernel
theorem dX4_round_15 : decode cX4_round 15 = .ok (.ireturn, 1) := by decide +kernel
theorem dX4_learnAll_0 : decode cX4_learnAll 0 = .ok (.aload_n 0, 1) := by decide +kernel
theorem dX4_learnAll_1 : decode cX4_learnAll 1 = .ok (.getfield 19, 3) := by decide +kernel
theorem dX4_learnAll_4 : decode cX4_learnAll 4 = .ok (.aload_n 0, 1) := by decide +kernel
theorem dX4_learnAll_5 : decode cX4_learnAll 5 = .ok (.getfield 10, 3) := by decide +kernel
theorem dX4_learnAll_8 : decode cX4_learnAll 8 = .ok (.invokevirtual 41, 3) := by decide +kernel
theorem dX4_learnAll_11 : decode cX4_learnAll 11 = .ok (.aload_n 0, 1) := by decide +kernel
theorem dX4_learnAll_12 : decode cX4_learnAll 12 = .ok (.getfield 10, 3) := by decide +kernel
theorem dX4_learnAll_15 : decode cX4_learnAll 15 = .ok (.invokevirtual 116, 3) := by decide +kernel
theorem dX4_learnAll_18 : decode cX4_learnAll 18 = .ok (.istore_n 1, 1) := by decide +kernel
theorem dX4_learnAll_19 : decode cX4_learnAll 19 = .ok (.iconst 0, 1) := by decide +kernel
theorem dX4_learnAll_20 : decode cX4_learnAll 20 = .ok (.istore_n 2, 1) := by decide +kernel
theorem dX4_learnAll_21 : decode cX4_learnAll 21 = .ok (.iload_n 2, 1) := by decide +kernel
theorem dX4_learnAll_22 : decode cX4_learnAll 22 = .ok (.iload_n 1, 1) := by decide +kernel
theorem dX4_learnAll_23 : decode cX4_learnAll 23 = .ok (.if_icmp .gt 16, 3) := by decide +kernel
theorem dX4_learnAll_26 : decode cX4_learnAll 26 = .ok (.aload_n 0, 1) := by decide +kernel
theorem dX4_learnAll_27 : decode cX4_learnAll 27 = .ok (.invokevirtual 112, 3) := by decide +kernel
theorem dX4_learnAll_30 : decode cX4_learnAll 30 = .ok (.ifCond .lt 9, 3) := by decide +kernel
theorem dX4_learnAll_33 : decode cX4_learnAll 33 = .ok (.iinc 2 1, 3) := by decide +kernel
theorem dX4_learnAll_36 : decode cX4_learnAll 36 = .ok (.goto (-15), 3) := by decide +kernel
theorem dX4_learnAll_39 : decode cX4_learnAll 39 = .ok (.iload_n 2, 1) := by decide +kernel
theorem dX4_learnAll_40 : decode cX4_learnAll 40 = .ok (.ireturn, 1) := by decide +kernel
theorem dX4_isBreakers_0 : decode cX4_isBreakers 0 = .ok (.aload_n 0, 1) := by decide +kernel
theorem dX4_isBreakers_1 : decode cX4_isBreakers 1 = .ok (.iload_n 1, 1) := by decide +kernel
theorem dX4_isBreakers_2 : decode cX4_isBreakers 2 = .ok (.invokevirtual 119, 3) := by decide +kernel
theorem dX4_isBreakers_5 : decode cX4_isBreakers 5 = .ok (.aload_n 0, 1) := by decide +kernel
theorem dX4_isBreakers_6 : decode cX4_isBreakers 6 = .ok (.getfield 10, 3) := by decide +kernel
theorem dX4_isBreakers_9 : decode cX4_isBreakers 9 = .ok (.iload_n 1, 1) := by decide +kernel
theorem dX4_isBreakers_10 : decode cX4_isBreakers 10 = .ok (.invokevirtual 122, 3) := by decide +kernel
theorem dX4_isBreakers_13 : decode cX4_isBreakers 13 = .ok (.iconst 1, 1) := by decide +kernel
theorem dX4_isBreakers_14 : decode cX4_isBreakers 14 = .ok (.if_icmp .ne 7, 3) := by decide +kernel
theorem dX4_isBreakers_17 : decode cX4_isBreakers 17 = .ok (.iconst 1, 1) := by decide +kernel
theorem dX4_isBreakers_18 : decode cX4_isBreakers 18 = .ok (.goto 4, 3) := by decide +kernel
theorem dX4_isBreakers_21 : decode cX4_isBreakers 21 = .ok (.iconst 0, 1) := by decide +kernel
theorem dX4_isBreakers_22 : decode cX4_isBreakers 22 = .ok (.ireturn, 1) := by decide +kernel
theorem dX4_value_0 : decode cX4_value 0 = .ok (.iload_n 1, 1) := by decide +kernel
theorem dX4_value_1 : decode cX4_value 1 = .ok (.ifCond .lt 9, 3) := by decide +kernel
theorem dX4_value_4 : decode cX4_value 4 = .ok (.iload_n 1, 1) := by decide +kernel
theorem dX4_value_5 : decode cX4_value 5 = .ok (.bipush 6, 2) := by decide +kernel
theorem dX4_value_7 : decode cX4_value 7 = .ok (.if_icmp .le 13, 3) := by decide +kernel
theorem dX4_value_10 : decode cX4_value 10 = .ok (.new 71, 3) := by decide +kernel
theorem dX4_value_13 : decode cX4_value 13 = .ok (.dup, 1) := by decide +kernel
theorem dX4_value_14 : decode cX4_value 14 = .ok (.ldc 125, 2) := by decide +kernel
theorem dX4_value_16 : decode cX4_value 16 = .ok (.invokespecial 75, 3) := by decide +kernel
theorem dX4_value_19 : decode cX4_value 19 = .ok (.athrow, 1) := by decide +kernel
theorem dX4_value_20 : decode cX4_value 20 = .ok (.iload_n 1, 1) := by decide +kernel
theorem dX4_value_21 : decode cX4_value 21 = .ok (.tableswitch 93 0 5 #[39, 47, 58, 66, 77, 85], 39) := by decide +kernel
theorem dX4_value_60 : decode cX4_value 60 = .ok (.aload_n 0, 1) := by decide +kernel
theorem dX4_value_61 : decode cX4_value 61 = .ok (.getfield 10, 3) := by decide +kernel
theorem dX4_value_64 : decode cX4_value 64 = .ok (.getfield 37, 3) := by decide +kernel
theorem dX4_value_67 : decode cX4_value 67 = .ok (.ireturn, 1) := by decide +kernel
theorem dX4_value_68 : decode cX4_value 68 = .ok (.aload_n 0, 1) := by decide +kernel
theorem dX4_value_69 : decode cX4_value 69 = .ok (.getfield 10, 3) := by decide +kernel
theorem dX4_value_72 : decode cX4_value 72 = .ok (.getfield 143, 3) := by decide +kernel
theorem dX4_value_75 : decode cX4_value 75 = .ok (.invokestatic 106, 3) := by decide +kernel
theorem dX4_value_78 : decode cX4_value 78 = .ok (.ireturn, 1) := by decide +kernel
theorem dX4_value_79 : decode cX4_value 79 = .ok (.aload_n 0, 1) := by decide +kernel
theorem dX4_value_80 : decode cX4_value 80 = .ok (.getfield 10, 3) := by decide +kernel
theorem dX4_value_83 : decode cX4_value 83 = .ok (.getfield 76, 3) := by decide +kernel
theorem dX4_value_86 : decode cX4_value 86 = .ok (.ireturn, 1) := by decide +kernel
theorem dX4_value_87 : decode cX4_value 87 = .ok (.aload_n 0, 1) := by decide +kernel
theorem dX4_value_88 : decode cX4_value 88 = .ok (.getfield 10, 3) := by decide +kernel
theorem dX4_value_91 : decode cX4_value 91 = .ok (.getfield 103, 3) := by decide +kernel
theorem dX4_value_94 : decode cX4_value 94 = .ok (.invokestatic 106, 3) := by decide +kernel
theorem dX4_value_97 : decode cX4_value 97 = .ok (.ireturn, 1) := by decide +kernel
theorem dX4_value_98 : decode cX4_value 98 = .ok (.aload_n 0, 1) := by decide +kernel
theorem dX4_value_99 : decode cX4_value 99 = .ok (.getfield 10, 3) := by decide +kernel
theorem dX4_value_102 : decode cX4_value 102 = .ok (.getfield 103, 3) := by decide +kernel
theorem dX4_value_105 : decode cX4_value 105 = .ok (.ireturn, 1) := by decide +kernel
theorem dX4_value_106 : decode cX4_value 106 = .ok (.aload_n 0, 1) := by decide +kernel
theorem dX4_value_107 : decode cX4_value 107 = .ok (.getfield 10, 3) := by decide +kernel
theorem dX4_value_110 : decode cX4_value 110 = .ok (.getfield 146, 3) := by decide +kernel
theorem dX4_value_113 : decode cX4_value 113 = .ok (.ireturn, 1) := by decide +kernel
theorem dX4_value_114 : decode cX4_value 114 = .ok (.aload_n 0, 1) := by decide +kernel
theorem dX4_value_115 : decode cX4_value 115 = .ok (.getfield 10, 3) := by decide +kernel
theorem dX4_value_118 : decode cX4_value 118 = .ok (.invokevirtual 116, 3) := by decide +kernel
theorem dX4_value_121 : decode cX4_value 121 = .ok (.ireturn, 1) := by decide +kernel
theorem dX4_winner_0 : decode cX4_winner 0 = .ok (.aload_n 0, 1) := by decide +kernel
theorem dX4_winner_1 : decode cX4_winner 1 = .ok (.getfield 26, 3) := by decide +kernel
theorem dX4_winner_4 : decode cX4_winner 4 = .ok (.aload_n 0, 1) := by decide +kernel
theorem dX4_winner_5 : decode cX4_winner 5 = .ok (.getfield 10, 3) := by decide +kernel
theorem dX4_winner_8 : decode cX4_winner 8 = .ok (.invokevirtual 149, 3) := by decide +kernel
theorem dX4_winner_11 : decode cX4_winner 11 = .ok (.aload_n 0, 1) := by decide +kernel
theorem dX4_winner_12 : decode cX4_winner 12 = .ok (.iconst 0, 1) := by decide +kernel
theorem dX4_winner_13 : decode cX4_winner 13 = .ok (.iconst 0, 1) := by decide +kernel
theorem dX4_winner_14 : decode cX4_winner 14 = .ok (.invokevirtual 152, 3) := by decide +kernel
theorem dX4_winner_17 : decode cX4_winner 17 = .ok (.ireturn, 1) := by decide +kernel
theorem dX4_winnerAt_0 : decode cX4_winnerAt 0 = .ok (.aload_n 0, 1) := by decide +kernel
theorem dX4_winnerAt_1 : decode cX4_winnerAt 1 = .ok (.iload_n 1, 1) := by decide +kernel
theorem dX4_winnerAt_2 : decode cX4_winnerAt 2 = .ok (.invokevirtual 119, 3) := by decide +kernel
theorem dX4_winnerAt_5 : decode cX4_winnerAt 5 = .ok (.aload_n 0, 1) := by decide +kernel
theorem dX4_winnerAt_6 : decode cX4_winnerAt 6 = .ok (.iload_n 1, 1) := by decide +kernel
theorem dX4_winnerAt_7 : decode cX4_winnerAt 7 = .ok (.iload_n 2, 1) := by decide +kernel
theorem dX4_winnerAt_8 : decode cX4_winnerAt 8 = .ok (.invokevirtual 156, 3) := by decide +kernel
theorem dX4_winnerAt_11 : decode cX4_winnerAt 11 = .ok (.aload_n 0, 1) := by decide +kernel
theorem dX4_winnerAt_12 : decode cX4_winnerAt 12 = .ok (.getfield 26, 3) := by decide +kernel
theorem dX4_winnerAt_15 : decode cX4_winnerAt 15 = .ok (.aload_n 0, 1) := by decide +kernel
theorem dX4_winnerAt_16 : decode cX4_winnerAt 16 = .ok (.getfield 10, 3) := by decide +kernel
theorem dX4_winnerAt_19 : decode cX4_winnerAt 19 = .ok (.invokevirtual 149, 3) := by decide +kernel
theorem dX4_winnerAt_22 : decode cX4_winnerAt 22 = .ok (.aload_n 0, 1) := by decide +kernel
theorem dX4_winnerAt_23 : decode cX4_winnerAt 23 = .ok (.iload_n 1, 1) := by decide +kernel
theorem dX4_winnerAt_24 : decode cX4_winnerAt 24 = .ok (.iload_n 2, 1) := by decide +kernel
theorem dX4_winnerAt_25 : decode cX4_winnerAt 25 = .ok (.invokevirtual 152, 3) := by decide +kernel
theorem dX4_winnerAt_28 : decode cX4_winnerAt 28 = .ok (.ireturn, 1) := by decide +kernel
theorem dX4_move_0 : decode cX4_move 0 = .ok (.aload_n 0, 1) := by decide +kernel
theorem dX4_move_1 : decode cX4_move 1 = .ok (.iload_n 1, 1) := by decide +kernel
theorem dX4_move_2 : decode cX4_move 2 = .ok (.invokevirtual 119, 3) := by decide +kernel
theorem dX4_move_5 : decode cX4_move 5 = .ok (.aload_n 0, 1) := by decide +kernel
theorem dX4_move_6 : decode cX4_move 6 = .ok (.iload_n 1, 1) := by decide +kernel
theorem dX4_move_7 : decode cX4_move 7 = .ok (.iload_n 2, 1) := by decide +kernel
theorem dX4_move_8 : decode cX4_move 8 = .ok (.invokevirtual 156, 3) := by decide +kernel
theorem dX4_move_11 : decode cX4_move 11 = .ok (.aload_n 0, 1) := by decide +kernel
theorem dX4_move_12 : decode cX4_move 12 = .ok (.getfield 26, 3) := by decide +kernel
theorem dX4_move_15 : decode cX4_move 15 = .ok (.aload_n 0, 1) := by decide +kernel
theorem dX4_move_16 : decode cX4_move 16 = .ok (.getfield 10, 3) := by decide +kernel
theorem dX4_move_19 : decode cX4_move 19 = .ok (.invokevirtual 149, 3) := by decide +kernel
theorem dX4_move_22 : decode cX4_move 22 = .ok (.aload_n 0, 1) := by decide +kernel
theorem dX4_move_23 : decode cX4_move 23 = .ok (.getfield 10, 3) := by decide +kernel
theorem dX4_move_26 : decode cX4_move 26 = .ok (.iload_n 1, 1) := by decide +kernel
theorem dX4_move_27 : decode cX4_move 27 = .ok (.invokevirtual 122, 3) := by decide +kernel
theorem dX4_move_30 : decode cX4_move 30 = .ok (.istore_n 3, 1) := by decide +kernel
theorem dX4_move_31 : decode cX4_move 31 = .ok (.aload_n 0, 1) := by decide +kernel
theorem dX4_move_32 : decode cX4_move 32 = .ok (.iload_n 1, 1) := by decide +kernel
theorem dX4_move_33 : decode cX4_move 33 = .ok (.iconst 1, 1) := by decide +kernel
theorem dX4_move_34 : decode cX4_move 34 = .ok (.iadd, 1) := by decide +kernel
theorem dX4_move_35 : decode cX4_move 35 = .ok (.iload_n 2, 1) := by decide +kernel
theorem dX4_move_36 : decode cX4_move 36 = .ok (.invokevirtual 152, 3) := by decide +kernel
theorem dX4_move_39 : decode cX4_move 39 = .ok (.iload_n 3, 1) := by decide +kernel
theorem dX4_move_40 : decode cX4_move 40 = .ok (.if_icmp .ne 5, 3) := by decide +kernel
theorem dX4_move_43 : decode cX4_move 43 = .ok (.iconst 0, 1) := by decide +kernel
theorem dX4_move_44 : decode cX4_move 44 = .ok (.ireturn, 1) := by decide +kernel
theorem dX4_move_45 : decode cX4_move 45 = .ok (.aload_n 0, 1) := by decide +kernel
theorem dX4_move_46 : decode cX4_move 46 = .ok (.iload_n 1, 1) := by decide +kernel
theorem dX4_move_47 : decode cX4_move 47 = .ok (.iconst 1, 1) := by decide +kernel
theorem dX4_move_48 : decode cX4_move 48 = .ok (.iadd, 1) := by decide +kernel
theorem dX4_move_49 : decode cX4_move 49 = .ok (.iload_n 2, 1) := by decide +kernel
theorem dX4_move_50 : decode cX4_move 50 = .ok (.iconst 1, 1) := by decide +kernel
theorem dX4_move_51 : decode cX4_move 51 = .ok (.iload_n 1, 1) := by decide +kernel
theorem dX4_move_52 : decode cX4_move 52 = .ok (.ishl, 1) := by decide +kernel
theorem dX4_move_53 : decode cX4_move 53 = .ok (.ior, 1) := by decide +kernel
theorem dX4_move_54 : decode cX4_move 54 = .ok (.invokevirtual 152, 3) := by decide +kernel
theorem dX4_move_57 : decode cX4_move 57 = .ok (.iload_n 3, 1) := by decide +kernel
theorem dX4_move_58 : decode cX4_move 58 = .ok (.if_icmp .ne 5, 3) := by decide +kernel
theorem dX4_move_61 : decode cX4_move 61 = .ok (.iconst 1, 1) := by decide +kernel
theorem dX4_move_62 : decode cX4_move 62 = .ok (.ireturn, 1) := by decide +kernel
theorem dX4_move_63 : decode cX4_move 63 = .ok (.iconst (-1), 1) := by decide +kernel
theorem dX4_move_64 : decode cX4_move 64 = .ok (.ireturn, 1) := by decide +kernel
theorem dX4_ways_0 : decode cX4_ways 0 = .ok (.aload_n 0, 1) := by decide +kernel
theorem dX4_ways_1 : decode cX4_ways 1 = .ok (.iload_n 1, 1) := by decide +kernel
theorem dX4_ways_2 : decode cX4_ways 2 = .ok (.invokevirtual 95, 3) := by decide +kernel
theorem dX4_ways_5 : decode cX4_ways 5 = .ok (.iconst 0, 1) := by decide +kernel
theorem dX4_ways_6 : decode cX4_ways 6 = .ok (.istore_n 2, 1) := by decide +kernel
theorem dX4_ways_7 : decode cX4_ways 7 = .ok (.iconst 1, 1) := by decide +kernel
theorem dX4_ways_8 : decode cX4_ways 8 = .ok (.aload_n 0, 1) := by decide +kernel
theorem dX4_ways_9 : decode cX4_ways 9 = .ok (.getfield 10, 3) := by decide +kernel
theorem dX4_ways_12 : decode cX4_ways 12 = .ok (.getfield 37, 3) := by decide +kernel
theorem dX4_ways_15 : decode cX4_ways 15 = .ok (.ishl, 1) := by decide +kernel
theorem dX4_ways_16 : decode cX4_ways 16 = .ok (.istore_n 3, 1) := by decide +kernel
theorem dX4_ways_17 : decode cX4_ways 17 = .ok (.iconst 0, 1) := by decide +kernel
theorem dX4_ways_18 : decode cX4_ways 18 = .ok (.istore 4, 2) := by decide +kernel
theorem dX4_ways_20 : decode cX4_ways 20 = .ok (.iload 4, 2) := by decide +kernel
theorem dX4_ways_22 : decode cX4_ways 22 = .ok (.iload_n 3, 1) := by decide +kernel
theorem dX4_ways_23 : decode cX4_ways 23 = .ok (.if_icmp .ge 37, 3) := by decide +kernel
theorem dX4_ways_26 : decode cX4_ways 26 = .ok (.aload_n 0, 1) := by decide +kernel
theorem dX4_ways_27 : decode cX4_ways 27 = .ok (.getfield 10, 3) := by decide +kernel
theorem dX4_ways_30 : decode cX4_ways 30 = .ok (.iload 4, 2) := by decide +kernel
theorem dX4_ways_32 : decode cX4_ways 32 = .ok (.invokevirtual 159, 3) := by decide +kernel
theorem dX4_ways_35 : decode cX4_ways 35 = .ok (.iload_n 1, 1) := by decide +kernel
theorem dX4_ways_36 : decode cX4_ways 36 = .ok (.if_icmp .ne 18, 3) := by decide +kernel
theorem dX4_ways_39 : decode cX4_ways 39 = .ok (.aload_n 0, 1) := by decide +kernel
theorem dX4_ways_40 : decode cX4_ways 40 = .ok (.getfield 10, 3) := by decide +kernel
theorem dX4_ways_43 : decode cX4_ways 43 = .ok (.iload 4, 2) := by decide +kernel
theorem dX4_ways_45 : decode cX4_ways 45 = .ok (.invokevirtual 140, 3) := by decide +kernel
theorem dX4_ways_48 : decode cX4_ways 48 = .ok (.ifCond .eq 6, 3) := by decide +kernel
theorem dX4_ways_51 : decode cX4_ways 51 = .ok (.iinc 2 1, 3) := by decide +kernel
theorem dX4_ways_54 : decode cX4_ways 54 = .ok (.iinc 4 1, 3) := by decide +kernel
theorem dX4_ways_57 : decode cX4_ways 57 = .ok (.goto (-37), 3) := by decide +kernel
theorem dX4_ways_60 : decode cX4_ways 60 = .ok (.iload_n 2, 1) := by decide +kernel
theorem dX4_ways_61 : decode cX4_ways 61 = .ok (.ireturn, 1) := by decide +kernel
theorem dX4_beats_0 : decode cX4_beats 0 = .ok (.iload_n 1, 1) := by decide +kernel
theorem dX4_beats_1 : decode cX4_beats 1 = .ok (.ifCond .lt 14, 3) := by decide +kernel
theorem dX4_beats_4 : decode cX4_beats 4 = .ok (.iload_n 1, 1) := by decide +kernel
theorem dX4_beats_5 : decode cX4_beats 5 = .ok (.aload_n 0, 1) := by decide +kernel
theorem dX4_beats_6 : decode cX4_beats 6 = .ok (.getfield 10, 3) := by decide +kernel
theorem dX4_beats_9 : decode cX4_beats 9 = .ok (.invokevirtual 162, 3) := by decide +kernel
theorem dX4_beats_12 : decode cX4_beats 12 = .ok (.if_icmp .le 13, 3) := by decide +kernel
theorem dX4_beats_15 : decode cX4_beats 15 = .ok (.new 71, 3) := by decide +kernel
theorem dX4_beats_18 : decode cX4_beats 18 = .ok (.dup, 1) := by decide +kernel
theorem dX4_beats_19 : decode cX4_beats 19 = .ok (.ldc 165, 2) := by decide +kernel
theorem dX4_beats_21 : decode cX4_beats 21 = .ok (.invokespecial 75, 3) := by decide +kernel
theorem dX4_beats_24 : decode cX4_beats 24 = .ok (.athrow, 1) := by decide +kernel
theorem dX4_beats_25 : decode cX4_beats 25 = .ok (.aload_n 0, 1) := by decide +kernel
theorem dX4_beats_26 : decode cX4_beats 26 = .ok (.getfield 26, 3) := by decide +kernel
theorem dX4_beats_29 : decode cX4_beats 29 = .ok (.aload_n 0, 1) := by decide +kernel
theorem dX4_beats_30 : decode cX4_beats 30 = .ok (.getfield 10, 3) := by decide +kernel
theorem dX4_beats_33 : decode cX4_beats 33 = .ok (.invokevirtual 149, 3) := by decide +kernel
theorem dX4_beats_36 : decode cX4_beats 36 = .ok (.aload_n 0, 1) := by decide +kernel
theorem dX4_beats_37 : decode cX4_beats 37 = .ok (.getfield 26, 3) := by decide +kernel
theorem dX4_beats_40 : decode cX4_beats 40 = .ok (.iconst 0, 1) := by decide +kernel
theorem dX4_beats_41 : decode cX4_beats 41 = .ok (.iconst 0, 1) := by decide +kernel
theorem dX4_beats_42 : decode cX4_beats 42 = .ok (.iload_n 1, 1) := by decide +kernel
theorem dX4_beats_43 : decode cX4_beats 43 = .ok (.invokevirtual 167, 3) := by decide +kernel
theorem dX4_beats_46 : decode cX4_beats 46 = .ok (.ireturn, 1) := by decide +kernel
theorem dX4_copies_0 : decode cX4_copies 0 = .ok (.iconst 0, 1) := by decide +kernel
theorem dX4_copies_1 : decode cX4_copies 1 = .ok (.istore_n 1, 1) := by decide +kernel
theorem dX4_copies_2 : decode cX4_copies 2 = .ok (.iconst 0, 1) := by decide +kernel
theorem dX4_copies_3 : decode cX4_copies 3 = .ok (.istore_n 2, 1) := by decide +kernel
theorem dX4_copies_4 : decode cX4_copies 4 = .ok (.iconst 0, 1) := by decide +kernel
theorem dX4_copies_5 : decode cX4_copies 5 = .ok (.istore_n 3, 1) := by decide +kernel
theorem dX4_copies_6 : decode cX4_copies 6 = .ok (.iload_n 3, 1) := by decide +kernel
theorem dX4_copies_7 : decode cX4_copies 7 = .ok (.aload_n 0, 1) := by decide +kernel
theorem dX4_copies_8 : decode cX4_copies 8 = .ok (.getfield 10, 3) := by decide +kernel
theorem dX4_copies_11 : decode cX4_copies 11 = .ok (.getfield 37, 3) := by decide +kernel
theorem dX4_copies_14 : decode cX4_copies 14 = .ok (.if_icmp .ge 35, 3) := by decide +kernel
theorem dX4_copies_17 : decode cX4_copies 17 = .ok (.aload_n 0, 1) := by decide +kernel
theorem dX4_copies_18 : decode cX4_copies 18 = .ok (.getfield 10, 3) := by decide +kernel
theorem dX4_copies_21 : decode cX4_copies 21 = .ok (.iload_n 3, 1) := by decide +kernel
theorem dX4_copies_22 : decode cX4_copies 22 = .ok (.invokevirtual 122, 3) := by decide +kernel
theorem dX4_copies_25 : decode cX4_copies 25 = .ok (.iconst 1, 1) := by decide +kernel
theorem dX4_copies_26 : decode cX4_copies 26 = .ok (.if_icmp .ne 9, 3) := by decide +kernel
theorem dX4_copies_29 : decode cX4_copies 29 = .ok (.iinc 2 1, 3) := by decide +kernel
theorem dX4_copies_32 : decode cX4_copies 32 = .ok (.goto 11, 3) := by decide +kernel
theorem dX4_copies_35 : decode cX4_copies 35 = .ok (.iload_n 1, 1) := by decide +kernel
theorem dX4_copies_36 : decode cX4_copies 36 = .ok (.aload_n 0, 1) := by decide +kernel
theorem dX4_copies_37 : decode cX4_copies 37 = .ok (.iload_n 2, 1) := by decide +kernel
theorem dX4_copies_38 : decode cX4_copies 38 = .ok (.invokevirtual 179, 3) := by decide +kernel
theorem dX4_copies_41 : decode cX4_copies 41 = .ok (.iadd, 1) := by decide +kernel
theorem dX4_copies_42 : decode cX4_copies 42 = .ok (.istore_n 1, 1) := by decide +kernel
theorem dX4_copies_43 : decode cX4_copies 43 = .ok (.iinc 3 1, 3) := by decide +kernel
theorem dX4_copies_46 : decode cX4_copies 46 = .ok (.goto (-40), 3) := by decide +kernel
theorem dX4_copies_49 : decode cX4_copies 49 = .ok (.iload_n 1, 1) := by decide +kernel
theorem dX4_copies_50 : decode cX4_copies 50 = .ok (.ireturn, 1) := by decide +kernel
theorem dX4_leastProof_0 : decode cX4_leastProof 0 = .ok (.aload_n 0, 1) := by decide +kernel
theorem dX4_leastProof_1 : decode cX4_leastProof 1 = .ok (.invokevirtual 182, 3) := by decide +kernel
theorem dX4_leastProof_4 : decode cX4_leastProof 4 = .ok (.istore_n 1, 1) := by decide +kernel
theorem dX4_leastProof_5 : decode cX4_leastProof 5 = .ok (.iload_n 1, 1) := by decide +kernel
theorem dX4_leastProof_6 : decode cX4_leastProof 6 = .ok (.iconst (-1), 1) := by decide +kernel
theorem dX4_leastProof_7 : decode cX4_leastProof 7 = .ok (.if_icmp .ne 7, 3) := by decide +kernel
theorem dX4_leastProof_10 : decode cX4_leastProof 10 = .ok (.iconst (-1), 1) := by decide +kernel
theorem dX4_leastProof_11 : decode cX4_leastProof 11 = .ok (.goto 7, 3) := by decide +kernel
theorem dX4_leastProof_14 : decode cX4_leastProof 14 = .ok (.iload_n 1, 1) := by decide +kernel
theorem dX4_leastProof_15 : decode cX4_leastProof 15 = .ok (.invokestatic 106, 3) := by decide +kernel
theorem dX4_leastProof_18 : decode cX4_leastProof 18 = .ok (.ireturn, 1) := by decide +kernel
theorem dX4_undo_0 : decode cX4_undo 0 = .ok (.aload_n 0, 1) := by decide +kernel
theorem dX4_undo_1 : decode cX4_undo 1 = .ok (.getfield 19, 3) := by decide +kernel
theorem dX4_undo_4 : decode cX4_undo 4 = .ok (.getfield 208, 3) := by decide +kernel
theorem dX4_undo_7 : decode cX4_undo 7 = .ok (.ifCond .ne 13, 3) := by decide +kernel
theorem dX4_undo_10 : decode cX4_undo 10 = .ok (.new 56, 3) := by decide +kernel
theorem dX4_undo_13 : decode cX4_undo 13 = .ok (.dup, 1) := by decide +kernel
theorem dX4_undo_14 : decode cX4_undo 14 = .ok (.ldc 211, 2) := by decide +kernel
theorem dX4_undo_16 : decode cX4_undo 16 = .ok (.invokespecial 60, 3) := by decide +kernel
theorem dX4_undo_19 : decode cX4_undo 19 = .ok (.athrow, 1) := by decide +kernel
theorem dX4_undo_20 : decode cX4_undo 20 = .ok (.aload_n 0, 1) := by decide +kernel
theorem dX4_undo_21 : decode cX4_undo 21 = .ok (.getfield 19, 3) := by decide +kernel
theorem dX4_undo_24 : decode cX4_undo 24 = .ok (.aload_n 0, 1) := by decide +kernel
theorem dX4_undo_25 : decode cX4_undo 25 = .ok (.getfield 10, 3) := by decide +kernel
theorem dX4_undo_28 : decode cX4_undo 28 = .ok (.invokevirtual 213, 3) := by decide +kernel
theorem dX4_undo_31 : decode cX4_undo 31 = .ok (.aload_n 0, 1) := by decide +kernel
theorem dX4_undo_32 : decode cX4_undo 32 = .ok (.getfield 26, 3) := by decide +kernel
theorem dX4_undo_35 : decode cX4_undo 35 = .ok (.iconst 1, 1) := by decide +kernel
theorem dX4_undo_36 : decode cX4_undo 36 = .ok (.putfield 48, 3) := by decide +kernel
theorem dX4_undo_39 : decode cX4_undo 39 = .ok (.aload_n 0, 1) := by decide +kernel
theorem dX4_undo_40 : decode cX4_undo 40 = .ok (.getfield 19, 3) := by decide +kernel
theorem dX4_undo_43 : decode cX4_undo 43 = .ok (.getfield 208, 3) := by decide +kernel
theorem dX4_undo_46 : decode cX4_undo 46 = .ok (.ireturn, 1) := by decide +kernel
theorem dX4_requireVariable_0 : decode cX4_requireVariable 0 = .ok (.iload_n 1, 1) := by decide +kernel
theorem dX4_requireVariable_1 : decode cX4_requireVariable 1 = .ok (.ifCond .lt 14, 3) := by decide +kernel
theorem dX4_requireVariable_4 : decode cX4_requireVariable 4 = .ok (.iload_n 1, 1) := by decide +kernel
theorem dX4_requireVariable_5 : decode cX4_requireVariable 5 = .ok (.aload_n 0, 1) := by decide +kernel
theorem dX4_requireVariable_6 : decode cX4_requireVariable 6 = .ok (.getfield 10, 3) := by decide +kernel
theorem dX4_requireVariable_9 : decode cX4_requireVariable 9 = .ok (.getfield 37, 3) := by decide +kernel
theorem dX4_requireVariable_12 : decode cX4_requireVariable 12 = .ok (.if_icmp .lt 13, 3) := by decide +kernel
theorem dX4_requireVariable_15 : decode cX4_requireVariable 15 = .ok (.new 232, 3) := by decide +kernel
theorem dX4_requireVariable_18 : decode cX4_requireVariable 18 = .ok (.dup, 1) := by decide +kernel
theorem dX4_requireVariable_19 : decode cX4_requireVariable 19 = .ok (.ldc 234, 2) := by decide +kernel
theorem dX4_requireVariable_21 : decode cX4_requireVariable 21 = .ok (.invokespecial 236, 3) := by decide +kernel
theorem dX4_requireVariable_24 : decode cX4_requireVariable 24 = .ok (.athrow, 1) := by decide +kernel
theorem dX4_requireVariable_25 : decode cX4_requireVariable 25 = .ok (.return_, 1) := by decide +kernel
theorem dX4_requireClause_0 : decode cX4_requireClause 0 = .ok (.iload_n 1, 1) := by decide +kernel
theorem dX4_requireClause_1 : decode cX4_requireClause 1 = .ok (.ifCond .lt 14, 3) := by decide +kernel
theorem dX4_requireClause_4 : decode cX4_requireClause 4 = .ok (.iload_n 1, 1) := by decide +kernel
theorem dX4_requireClause_5 : decode cX4_requireClause 5 = .ok (.aload_n 0, 1) := by decide +kernel
theorem dX4_requireClause_6 : decode cX4_requireClause 6 = .ok (.getfield 10, 3) := by decide +kernel
theorem dX4_requireClause_9 : decode cX4_requireClause 9 = .ok (.getfield 76, 3) := by decide +kernel
theorem dX4_requireClause_12 : decode cX4_requireClause 12 = .ok (.if_icmp .lt 13, 3) := by decide +kernel
theorem dX4_requireClause_15 : decode cX4_requireClause 15 = .ok (.new 232, 3) := by decide +kernel
theorem dX4_requireClause_18 : decode cX4_requireClause 18 = .ok (.dup, 1) := by decide +kernel
theorem dX4_requireClause_19 : decode cX4_requireClause 19 = .ok (.ldc 237, 2) := by decide +kernel
theorem dX4_requireClause_21 : decode cX4_requireClause 21 = .ok (.invokespecial 236, 3) := by decide +kernel
theorem dX4_requireClause_24 : decode cX4_requireClause 24 = .ok (.athrow, 1) := by decide +kernel
theorem dX4_requireClause_25 : decode cX4_requireClause 25 = .ok (.return_, 1) := by decide +kernel
theorem dX4_requirePlay_0 : decode cX4_requirePlay 0 = .ok (.aload_n 0, 1) := by decide +kernel
theorem dX4_requirePlay_1 : decode cX4_requirePlay 1 = .ok (.getfield 10, 3) := by decide +kernel
theorem dX4_requirePlay_4 : decode cX4_requirePlay 4 = .ok (.iload_n 1, 1) := by decide +kernel
theorem dX4_requirePlay_5 : decode cX4_requirePlay 5 = .ok (.invokevirtual 239, 3) := by decide +kernel
theorem dX4_requirePlay_8 : decode cX4_requirePlay 8 = .ok (.ifCond .ne 13, 3) := by decide +kernel
theorem dX4_requirePlay_11 : decode cX4_requirePlay 11 = .ok (.new 71, 3) := by decide +kernel
theorem dX4_requirePlay_14 : decode cX4_requirePlay 14 = .ok (.dup, 1) := by decide +kernel
theorem dX4_requirePlay_15 : decode cX4_requirePlay 15 = .ok (.ldc 242, 2) := by decide +kernel
theorem dX4_requirePlay_17 : decode cX4_requirePlay 17 = .ok (.invokespecial 75, 3) := by decide +kernel
theorem dX4_requirePlay_20 : decode cX4_requirePlay 20 = .ok (.athrow, 1) := by decide +kernel
theorem dX4_requirePlay_21 : decode cX4_requirePlay 21 = .ok (.return_, 1) := by decide +kernel
theorem dX4_requireHistory_0 : decode cX4_requireHistory 0 = .ok (.iload_n 2, 1) := by decide +kernel
theorem dX4_requireHistory_1 : decode cX4_requireHistory 1 = .ok (.ifCond .lt 9, 3) := by decide +kernel
theorem dX4_requireHistory_4 : decode cX4_requireHistory 4 = .ok (.iload_n 2, 1) := by decide +kernel
theorem dX4_requireHistory_5 : decode cX4_requireHistory 5 = .ok (.iload_n 1, 1) := by decide +kernel
theorem dX4_requireHistory_6 : decode cX4_requireHistory 6 = .ok (.ishr, 1) := by decide +kernel
theorem dX4_requireHistory_7 : decode cX4_requireHistory 7 = .ok (.ifCond .eq 13, 3) := by decide +kernel
theorem dX4_requireHistory_10 : decode cX4_requireHistory 10 = .ok (.new 71, 3) := by decide +kernel
theorem dX4_requireHistory_13 : decode cX4_requireHistory 13 = .ok (.dup, 1) := by decide +kernel
theorem dX4_requireHistory_14 : decode cX4_requireHistory 14 = .ok (.ldc 244, 2) := by decide +kernel
theorem dX4_requireHistory_16 : decode cX4_requireHistory 16 = .ok (.invokespecial 75, 3) := by decide +kernel
theorem dX4_requireHistory_19 : decode cX4_requireHistory 19 = .ok (.athrow, 1) := by decide +kernel
theorem dX4_requireHistory_20 : decode cX4_requireHistory 20 = .ok (.return_, 1) := by decide +kernel
theorem dX4_putVariable_0 : decode cX4_putVariable 0 = .ok (.aload_n 0, 1) := by decide +kernel
theorem dX4_putVariable_1 : decode cX4_putVariable 1 = .ok (.getfield 10, 3) := by decide +kernel
theorem dX4_putVariable_4 : decode cX4_putVariable 4 = .ok (.iload_n 1, 1) := by decide +kernel
theorem dX4_putVariable_5 : decode cX4_putVariable 5 = .ok (.invokevirtual 246, 3) := by decide +kernel
theorem dX4_putVariable_8 : decode cX4_putVariable 8 = .ok (.aload_n 0, 1) := by decide +kernel
theorem dX4_putVariable_9 : decode cX4_putVariable 9 = .ok (.invokevirtual 92, 3) := by decide +kernel
theorem dX4_putVariable_12 : decode cX4_putVariable 12 = .ok (.return_, 1) := by decide +kernel
theorem dX4_putClause_0 : decode cX4_putClause 0 = .ok (.aload_n 0, 1) := by decide +kernel
theorem dX4_putClause_1 : decode cX4_putClause 1 = .ok (.getfield 10, 3) := by decide +kernel
theorem dX4_putClause_4 : decode cX4_putClause 4 = .ok (.iload_n 1, 1) := by decide +kernel
theorem dX4_putClause_5 : decode cX4_putClause 5 = .ok (.iload_n 2, 1) := by decide +kernel
theorem dX4_putClause_6 : decode cX4_putClause 6 = .ok (.invokevirtual 247, 3) := by decide +kernel
theorem dX4_putClause_9 : decode cX4_putClause 9 = .ok (.aload_n 0, 1) := by decide +kernel
theorem dX4_putClause_10 : decode cX4_putClause 10 = .ok (.invokevirtual 92, 3) := by decide +kernel
theorem dX4_putClause_13 : decode cX4_putClause 13 = .ok (.return_, 1) := by decide +kernel
theorem dX4_formulaChanged_0 : decode cX4_formulaChanged 0 = .ok (.aload_n 0, 1) := by decide +kernel
theorem dX4_formulaChanged_1 : decode cX4_formulaChanged 1 = .ok (.getfield 10, 3) := by decide +kernel
theorem dX4_formulaChanged_4 : decode cX4_formulaChanged 4 = .ok (.iconst 0, 1) := by decide +kernel
theorem dX4_formulaChanged_5 : decode cX4_formulaChanged 5 = .ok (.putfield 103, 3) := by decide +kernel
theorem dX4_formulaChanged_8 : decode cX4_formulaChanged 8 = .ok (.aload_n 0, 1) := by decide +kernel
theorem dX4_formulaChanged_9 : decode cX4_formulaChanged 9 = .ok (.getfield 26, 3) := by decide +kernel
theorem dX4_formulaChanged_12 : decode cX4_formulaChanged 12 = .ok (.iconst 1, 1) := by decide +kernel
theorem dX4_formulaChanged_13 : decode cX4_formulaChanged 13 = .ok (.putfield 48, 3) := by decide +kernel
theorem dX4_formulaChanged_16 : decode cX4_formulaChanged 16 = .ok (.return_, 1) := by decide +kernel
theorem dX4_makeRound_0 : decode cX4_makeRound 0 = .ok (.aload_n 0, 1) := by decide +kernel
theorem dX4_makeRound_1 : decode cX4_makeRound 1 = .ok (.getfield 26, 3) := by decide +kernel
theorem dX4_makeRound_4 : decode cX4_makeRound 4 = .ok (.aload_n 0, 1) := by decide +kernel
theorem dX4_makeRound_5 : decode cX4_makeRound 5 = .ok (.getfield 10, 3) := by decide +kernel
theorem dX4_makeRound_8 : decode cX4_makeRound 8 = .ok (.invokevirtual 149, 3) := by decide +kernel
theorem dX4_makeRound_11 : decode cX4_makeRound 11 = .ok (.aload_n 0, 1) := by decide +kernel
theorem dX4_makeRound_12 : decode cX4_makeRound 12 = .ok (.getfield 10, 3) := by decide +kernel
theorem dX4_makeRound_15 : decode cX4_makeRound 15 = .ok (.dup, 1) := by decide +kernel
theorem dX4_makeRound_16 : decode cX4_makeRound 16 = .ok (.getfield 146, 3) := by decide +kernel
theorem dX4_makeRound_19 : decode cX4_makeRound 19 = .ok (.iconst 1, 1) := by decide +kernel
theorem dX4_makeRound_20 : decode cX4_makeRound 20 = .ok (.iadd, 1) := by decide +kernel
theorem dX4_makeRound_21 : decode cX4_makeRound 21 = .ok (.putfield 146, 3) := by decide +kernel
theorem dX4_makeRound_24 : decode cX4_makeRound 24 = .ok (.aload_n 0, 1) := by decide +kernel
theorem dX4_makeRound_25 : decode cX4_makeRound 25 = .ok (.getfield 26, 3) := by decide +kernel
theorem dX4_makeRound_28 : decode cX4_makeRound 28 = .ok (.iconst 0, 1) := by decide +kernel
theorem dX4_makeRound_29 : decode cX4_makeRound 29 = .ok (.iconst 0, 1) := by decide +kernel
theorem dX4_makeRound_30 : decode cX4_makeRound 30 = .ok (.aload_n 0, 1) := by decide +kernel
theorem dX4_makeRound_31 : decode cX4_makeRound 31 = .ok (.getfield 10, 3) := by decide +kernel
theorem dX4_makeRound_34 : decode cX4_makeRound 34 = .ok (.getfield 103, 3) := by decide +kernel
theorem dX4_makeRound_37 : decode cX4_makeRound 37 = .ok (.invokevirtual 167, 3) := by decide +kernel
theorem dX4_makeRound_40 : decode cX4_makeRound 40 = .ok (.ifCond .ne 5, 3) := by decide +kernel
theorem dX4_makeRound_43 : decode cX4_makeRound 43 = .ok (.iconst (-1), 1) := by decide +kernel
theorem dX4_makeRound_44 : decode cX4_makeRound 44 = .ok (.ireturn, 1) := by decide +kernel
theorem dX4_makeRound_45 : decode cX4_makeRound 45 = .ok (.aload_n 0, 1) := by decide +kernel
theorem dX4_makeRound_46 : decode cX4_makeRound 46 = .ok (.getfield 10, 3) := by decide +kernel
theorem dX4_makeRound_49 : decode cX4_makeRound 49 = .ok (.invokevirtual 116, 3) := by decide +kernel
theorem dX4_makeRound_52 : decode cX4_makeRound 52 = .ok (.istore_n 1, 1) := by decide +kernel
theorem dX4_makeRound_53 : decode cX4_makeRound 53 = .ok (.iconst 0, 1) := by decide +kernel
theorem dX4_makeRound_54 : decode cX4_makeRound 54 = .ok (.istore_n 2, 1) := by decide +kernel
theorem dX4_makeRound_55 : decode cX4_makeRound 55 = .ok (.iload_n 2, 1) := by decide +kernel
theorem dX4_makeRound_56 : decode cX4_makeRound 56 = .ok (.iload_n 1, 1) := by decide +kernel
theorem dX4_makeRound_57 : decode cX4_makeRound 57 = .ok (.if_icmp .ge 41, 3) := by decide +kernel
theorem dX4_makeRound_60 : decode cX4_makeRound 60 = .ok (.aload_n 0, 1) := by decide +kernel
theorem dX4_makeRound_61 : decode cX4_makeRound 61 = .ok (.getfield 10, 3) := by decide +kernel
theorem dX4_makeRound_64 : decode cX4_makeRound 64 = .ok (.aload_n 0, 1) := by decide +kernel
theorem dX4_makeRound_65 : decode cX4_makeRound 65 = .ok (.iload_n 2, 1) := by decide +kernel
theorem dX4_makeRound_66 : decode cX4_makeRound 66 = .ok (.invokevirtual 173, 3) := by decide +kernel
theorem dX4_makeRound_69 : decode cX4_makeRound 69 = .ok (.invokevirtual 140, 3) := by decide +kernel
theorem dX4_makeRound_72 : decode cX4_makeRound 72 = .ok (.ifCond .ne 20, 3) := by decide +kernel
theorem dX4_makeRound_75 : decode cX4_makeRound 75 = .ok (.aload_n 0, 1) := by decide +kernel
theorem dX4_makeRound_76 : decode cX4_makeRound 76 = .ok (.getfield 10, 3) := by decide +kernel
theorem dX4_makeRound_79 : decode cX4_makeRound 79 = .ok (.dup, 1) := by decide +kernel
theorem dX4_makeRound_80 : decode cX4_makeRound 80 = .ok (.getfield 103, 3) := by decide +kernel
theorem dX4_makeRound_83 : decode cX4_makeRound 83 = .ok (.iconst 1, 1) := by decide +kernel
theorem dX4_makeRound_84 : decode cX4_makeRound 84 = .ok (.iload_n 2, 1) := by decide +kernel
theorem dX4_makeRound_85 : decode cX4_makeRound 85 = .ok (.ishl, 1) := by decide +kernel
theorem dX4_makeRound_86 : decode cX4_makeRound 86 = .ok (.ior, 1) := by decide +kernel
theorem dX4_makeRound_87 : decode cX4_makeRound 87 = .ok (.putfield 103, 3) := by decide +kernel
theorem dX4_makeRound_90 : decode cX4_makeRound 90 = .ok (.iload_n 2, 1) := by decide +kernel
theorem dX4_makeRound_91 : decode cX4_makeRound 91 = .ok (.ireturn, 1) := by decide +kernel
theorem dX4_makeRound_92 : decode cX4_makeRound 92 = .ok (.iinc 2 1, 3) := by decide +kernel
theorem dX4_makeRound_95 : decode cX4_makeRound 95 = .ok (.goto (-40), 3) := by decide +kernel
theorem dX4_makeRound_98 : decode cX4_makeRound 98 = .ok (.bipush (-2), 2) := by decide +kernel
theorem dX4_makeRound_100 : decode cX4_makeRound 100 = .ok (.ireturn, 1) := by decide +kernel
theorem dX4_valuesAgainst_0 : decode cX4_valuesAgainst 0 = .ok (.iconst 0, 1) := by decide +kernel
theorem dX4_valuesAgainst_1 : decode cX4_valuesAgainst 1 = .ok (.istore_n 2, 1) := by decide +kernel
theorem dX4_valuesAgainst_2 : decode cX4_valuesAgainst 2 = .ok (.iconst 0, 1) := by decide +kernel
theorem dX4_valuesAgainst_3 : decode cX4_valuesAgainst 3 = .ok (.istore_n 3, 1) := by decide +kernel
theorem dX4_valuesAgainst_4 : decode cX4_valuesAgainst 4 = .ok (.iconst 0, 1) := by decide +kernel
theorem dX4_valuesAgainst_5 : decode cX4_valuesAgainst 5 = .ok (.istore 4, 2) := by decide +kernel
theorem dX4_valuesAgainst_7 : decode cX4_valuesAgainst 7 = .ok (.iload 4, 2) := by decide +kernel
theorem dX4_valuesAgainst_9 : decode cX4_valuesAgainst 9 = .ok (.aload_n 0, 1) := by decide +kernel
theorem dX4_valuesAgainst_10 : decode cX4_valuesAgainst 10 = .ok (.getfield 10, 3) := by decide +kernel
theorem dX4_valuesAgainst_13 : decode cX4_valuesAgainst 13 = .ok (.getfield 37, 3) := by decide +kernel
theorem dX4_valuesAgainst_16 : decode cX4_valuesAgainst 16 = .ok (.if_icmp .ge 72, 3) := by decide +kernel
theorem dX4_valuesAgainst_19 : decode cX4_valuesAgainst 19 = .ok (.aload_n 0, 1) := by decide +kernel
theorem dX4_valuesAgainst_20 : decode cX4_valuesAgainst 20 = .ok (.getfield 10, 3) := by decide +kernel
theorem dX4_valuesAgainst_23 : decode cX4_valuesAgainst 23 = .ok (.iload 4, 2) := by decide +kernel
theorem dX4_valuesAgainst_25 : decode cX4_valuesAgainst 25 = .ok (.invokevirtual 122, 3) := by decide +kernel
theorem dX4_valuesAgainst_28 : decode cX4_valuesAgainst 28 = .ok (.iconst 1, 1) := by decide +kernel
theorem dX4_valuesAgainst_29 : decode cX4_valuesAgainst 29 = .ok (.if_icmp .ne 16, 3) := by decide +kernel
theorem dX4_valuesAgainst_32 : decode cX4_valuesAgainst 32 = .ok (.iload_n 1, 1) := by decide +kernel
theorem dX4_valuesAgainst_33 : decode cX4_valuesAgainst 33 = .ok (.iload_n 3, 1) := by decide +kernel
theorem dX4_valuesAgainst_34 : decode cX4_valuesAgainst 34 = .ok (.invokestatic 176, 3) := by decide +kernel
theorem dX4_valuesAgainst_37 : decode cX4_valuesAgainst 37 = .ok (.istore 5, 2) := by decide +kernel
theorem dX4_valuesAgainst_39 : decode cX4_valuesAgainst 39 = .ok (.iinc 3 1, 3) := by decide +kernel
theorem dX4_valuesAgainst_42 : decode cX4_valuesAgainst 42 = .ok (.goto 32, 3) := by decide +kernel
theorem dX4_valuesAgainst_45 : decode cX4_valuesAgainst 45 = .ok (.aload_n 0, 1) := by decide +kernel
theorem dX4_valuesAgainst_46 : decode cX4_valuesAgainst 46 = .ok (.getfield 26, 3) := by decide +kernel
theorem dX4_valuesAgainst_49 : decode cX4_valuesAgainst 49 = .ok (.iload 4, 2) := by decide +kernel
theorem dX4_valuesAgainst_51 : decode cX4_valuesAgainst 51 = .ok (.iconst 1, 1) := by decide +kernel
theorem dX4_valuesAgainst_52 : decode cX4_valuesAgainst 52 = .ok (.iadd, 1) := by decide +kernel
theorem dX4_valuesAgainst_53 : decode cX4_valuesAgainst 53 = .ok (.iload_n 2, 1) := by decide +kernel
theorem dX4_valuesAgainst_54 : decode cX4_valuesAgainst 54 = .ok (.aload_n 0, 1) := by decide +kernel
theorem dX4_valuesAgainst_55 : decode cX4_valuesAgainst 55 = .ok (.getfield 10, 3) := by decide +kernel
theorem dX4_valuesAgainst_58 : decode cX4_valuesAgainst 58 = .ok (.getfield 103, 3) := by decide +kernel
theorem dX4_valuesAgainst_61 : decode cX4_valuesAgainst 61 = .ok (.invokevirtual 167, 3) := by decide +kernel
theorem dX4_valuesAgainst_64 : decode cX4_valuesAgainst 64 = .ok (.ifCond .eq 7, 3) := by decide +kernel
theorem dX4_valuesAgainst_67 : decode cX4_valuesAgainst 67 = .ok (.iconst 0, 1) := by decide +kernel
theorem dX4_valuesAgainst_68 : decode cX4_valuesAgainst 68 = .ok (.goto 4, 3) := by decide +kernel
theorem dX4_valuesAgainst_71 : decode cX4_valuesAgainst 71 = .ok (.iconst 1, 1) := by decide +kernel
theorem dX4_valuesAgainst_72 : decode cX4_valuesAgainst 72 = .ok (.istore 5, 2) := by decide +kernel
theorem dX4_valuesAgainst_74 : decode cX4_valuesAgainst 74 = .ok (.iload_n 2, 1) := by decide +kernel
theorem dX4_valuesAgainst_75 : decode cX4_valuesAgainst 75 = .ok (.iload 5, 2) := by decide +kernel
theorem dX4_valuesAgainst_77 : decode cX4_valuesAgainst 77 = .ok (.iload 4, 2) := by decide +kernel
theorem dX4_valuesAgainst_79 : decode cX4_valuesAgainst 79 = .ok (.ishl, 1) := by decide +kernel
theorem dX4_valuesAgainst_80 : decode cX4_valuesAgainst 80 = .ok (.ior, 1) := by decide +kernel
theorem dX4_valuesAgainst_81 : decode cX4_valuesAgainst 81 = .ok (.istore_n 2, 1) := by decide +kernel
theorem dX4_valuesAgainst_82 : decode cX4_valuesAgainst 82 = .ok (.iinc 4 1, 3) := by decide +kernel
theorem dX4_valuesAgainst_85 : decode cX4_valuesAgainst 85 = .ok (.goto (-78), 3) := by decide +kernel
theorem dX4_valuesAgainst_88 : decode cX4_valuesAgainst 88 = .ok (.iload_n 2, 1) := by decide +kernel
theorem dX4_valuesAgainst_89 : decode cX4_valuesAgainst 89 = .ok (.ireturn, 1) := by decide +kernel
theorem dX4_winnerIn_0 : decode cX4_winnerIn 0 = .ok (.aload_n 0, 1) := by decide +kernel
theorem dX4_winnerIn_1 : decode cX4_winnerIn 1 = .ok (.getfield 26, 3) := by decide +kernel
theorem dX4_winnerIn_4 : decode cX4_winnerIn 4 = .ok (.iload_n 1, 1) := by decide +kernel
theorem dX4_winnerIn_5 : decode cX4_winnerIn 5 = .ok (.iload_n 2, 1) := by decide +kernel
theorem dX4_winnerIn_6 : decode cX4_winnerIn 6 = .ok (.aload_n 0, 1) := by decide +kernel
theorem dX4_winnerIn_7 : decode cX4_winnerIn 7 = .ok (.getfield 10, 3) := by decide +kernel
theorem dX4_winnerIn_10 : decode cX4_winnerIn 10 = .ok (.invokevirtual 162, 3) := by decide +kernel
theorem dX4_winnerIn_13 : decode cX4_winnerIn 13 = .ok (.invokevirtual 167, 3) := by decide +kernel
theorem dX4_winnerIn_16 : decode cX4_winnerIn 16 = .ok (.ifCond .eq 7, 3) := by decide +kernel
theorem dX4_winnerIn_19 : decode cX4_winnerIn 19 = .ok (.iconst 0, 1) := by decide +kernel
theorem dX4_winnerIn_20 : decode cX4_winnerIn 20 = .ok (.goto 4, 3) := by decide +kernel
theorem dX4_winnerIn_23 : decode cX4_winnerIn 23 = .ok (.iconst 1, 1) := by decide +kernel
theorem dX4_winnerIn_24 : decode cX4_winnerIn 24 = .ok (.ireturn, 1) := by decide +kernel
theorem dX4_learnedBeginnings_0 : decode cX4_learnedBeginnings 0 = .ok (.iconst 0, 1) := by decide +kernel
theorem dX4_learnedBeginnings_1 : decode cX4_learnedBeginnings 1 = .ok (.istore_n 2, 1) := by decide +kernel
theorem dX4_learnedBeginnings_2 : decode cX4_learnedBeginnings 2 = .ok (.aload_n 0, 1) := by decide +kernel
theorem dX4_learnedBeginnings_3 : decode cX4_learnedBeginnings 3 = .ok (.getfield 10, 3) := by decide +kernel
theorem dX4_learnedBeginnings_6 : decode cX4_learnedBeginnings 6 = .ok (.invokevirtual 116, 3) := by decide +kernel
theorem dX4_learnedBeginnings_9 : decode cX4_learnedBeginnings 9 = .ok (.istore_n 3, 1) := by decide +kernel
theorem dX4_learnedBeginnings_10 : decode cX4_learnedBeginnings 10 = .ok (.iconst 0, 1) := by decide +kernel
theorem dX4_learnedBeginnings_11 : decode cX4_learnedBeginnings 11 = .ok (.istore 4, 2) := by decide +kernel
theorem dX4_learnedBeginnings_13 : decode cX4_learnedBeginnings 13 = .ok (.iload 4, 2) := by decide +kernel
theorem dX4_learnedBeginnings_15 : decode cX4_learnedBeginnings 15 = .ok (.iload_n 3, 1) := by decide +kernel
theorem dX4_learnedBeginnings_16 : decode cX4_learnedBeginnings 16 = .ok (.if_icmp .ge 34, 3) := by decide +kernel
theorem dX4_learnedBeginnings_19 : decode cX4_learnedBeginnings 19 = .ok (.aload_n 0, 1) := by decide +kernel
theorem dX4_learnedBeginnings_20 : decode cX4_learnedBeginnings 20 = .ok (.getfield 10, 3) := by decide +kernel
theorem dX4_learnedBeginnings_23 : decode cX4_learnedBeginnings 23 = .ok (.iload 4, 2) := by decide +kernel
theorem dX4_learnedBeginnings_25 : decode cX4_learnedBeginnings 25 = .ok (.invokevirtual 98, 3) := by decide +kernel
theorem dX4_learnedBeginnings_28 : decode cX4_learnedBeginnings 28 = .ok (.ifCond .eq 16, 3) := by decide +kernel
theorem dX4_learnedBeginnings_31 : decode cX4_learnedBeginnings 31 = .ok (.iload_n 2, 1) := by decide +kernel
theorem dX4_learnedBeginnings_32 : decode cX4_learnedBeginnings 32 = .ok (.iconst 1, 1) := by decide +kernel
theorem dX4_learnedBeginnings_33 : decode cX4_learnedBeginnings 33 = .ok (.iload 4, 2) := by decide +kernel
theorem dX4_learnedBeginnings_35 : decode cX4_learnedBeginnings 35 = .ok (.iconst 1, 1) := by decide +kernel
theorem dX4_learnedBeginnings_36 : decode cX4_learnedBeginnings 36 = .ok (.iload_n 1, 1) := by decide +kernel
theorem dX4_learnedBeginnings_37 : decode cX4_learnedBeginnings 37 = .ok (.ishl, 1) := by decide +kernel
theorem dX4_learnedBeginnings_38 : decode cX4_learnedBeginnings 38 = .ok (.iconst 1, 1) := by decide +kernel
theorem dX4_learnedBeginnings_39 : decode cX4_learnedBeginnings 39 = .ok (.isub, 1) := by decide +kernel
theorem dX4_learnedBeginnings_40 : decode cX4_learnedBeginnings 40 = .ok (.iand, 1) := by decide +kernel
theorem dX4_learnedBeginnings_41 : decode cX4_learnedBeginnings 41 = .ok (.ishl, 1) := by decide +kernel
theorem dX4_learnedBeginnings_42 : decode cX4_learnedBeginnings 42 = .ok (.ior, 1) := by decide +kernel
theorem dX4_learnedBeginnings_43 : decode cX4_learnedBeginnings 43 = .ok (.istore_n 2, 1) := by decide +kernel
theorem dX4_learnedBeginnings_44 : decode cX4_learnedBeginnings 44 = .ok (.iinc 4 1, 3) := by decide +kernel
theorem dX4_learnedBeginnings_47 : decode cX4_learnedBeginnings 47 = .ok (.goto (-34), 3) := by decide +kernel
theorem dX4_learnedBeginnings_50 : decode cX4_learnedBeginnings 50 = .ok (.iload_n 2, 1) := by decide +kernel
theorem dX4_learnedBeginnings_51 : decode cX4_learnedBeginnings 51 = .ok (.invokestatic 106, 3) := by decide +kernel
theorem dX4_learnedBeginnings_54 : decode cX4_learnedBeginnings 54 = .ok (.ireturn, 1) := by decide +kernel
theorem dX4_lowestLeastProof_0 : decode cX4_lowestLeastProof 0 = .ok (.aload_n 0, 1) := by decide +kernel
theorem dX4_lowestLeastProof_1 : decode cX4_lowestLeastProof 1 = .ok (.getfield 26, 3) := by decide +kernel
theorem dX4_lowestLeastProof_4 : decode cX4_lowestLeastProof 4 = .ok (.aload_n 0, 1) := by decide +kernel
theorem dX4_lowestLeastProof_5 : decode cX4_lowestLeastProof 5 = .ok (.getfield 10, 3) := by decide +kernel
theorem dX4_lowestLeastProof_8 : decode cX4_lowestLeastProof 8 = .ok (.invokevirtual 149, 3) := by decide +kernel
theorem dX4_lowestLeastProof_11 : decode cX4_lowestLeastProof 11 = .ok (.iconst (-1), 1) := by decide +kernel
theorem dX4_lowestLeastProof_12 : decode cX4_lowestLeastProof 12 = .ok (.istore_n 1, 1) := by decide +kernel
theorem dX4_lowestLeastProof_13 : decode cX4_lowestLeastProof 13 = .ok (.aload_n 0, 1) := by decide +kernel
theorem dX4_lowestLeastProof_14 : decode cX4_lowestLeastProof 14 = .ok (.getfield 10, 3) := by decide +kernel
theorem dX4_lowestLeastProof_17 : decode cX4_lowestLeastProof 17 = .ok (.invokevirtual 162, 3) := by decide +kernel
theorem dX4_lowestLeastProof_20 : decode cX4_lowestLeastProof 20 = .ok (.istore_n 2, 1) := by decide +kernel
theorem dX4_lowestLeastProof_21 : decode cX4_lowestLeastProof 21 = .ok (.iconst 1, 1) := by decide +kernel
theorem dX4_lowestLeastProof_22 : decode cX4_lowestLeastProof 22 = .ok (.istore_n 3, 1) := by decide +kernel
theorem dX4_lowestLeastProof_23 : decode cX4_lowestLeastProof 23 = .ok (.iload_n 3, 1) := by decide +kernel
theorem dX4_lowestLeastProof_24 : decode cX4_lowestLeastProof 24 = .ok (.iload_n 2, 1) := by decide +kernel
theorem dX4_lowestLeastProof_25 : decode cX4_lowestLeastProof 25 = .ok (.if_icmp .gt 52, 3) := by decide +kernel
theorem dX4_lowestLeastProof_28 : decode cX4_lowestLeastProof 28 = .ok (.iload_n 1, 1) := by decide +kernel
theorem dX4_lowestLeastProof_29 : decode cX4_lowestLeastProof 29 = .ok (.iconst (-1), 1) := by decide +kernel
theorem dX4_lowestLeastProof_30 : decode cX4_lowestLeastProof 30 = .ok (.if_icmp .eq 14, 3) := by decide +kernel
theorem dX4_lowestLeastProof_33 : decode cX4_lowestLeastProof 33 = .ok (.iload_n 3, 1) := by decide +kernel
theorem dX4_lowestLeastProof_34 : decode cX4_lowestLeastProof 34 = .ok (.invokestatic 106, 3) := by decide +kernel
theorem dX4_lowestLeastProof_37 : decode cX4_lowestLeastProof 37 = .ok (.iload_n 1, 1) := by decide +kernel
theorem dX4_lowestLeastProof_38 : decode cX4_lowestLeastProof 38 = .ok (.invokestatic 106, 3) := by decide +kernel
theorem dX4_lowestLeastProof_41 : decode cX4_lowestLeastProof 41 = .ok (.if_icmp .ge 7, 3) := by decide +kernel
theorem dX4_lowestLeastProof_44 : decode cX4_lowestLeastProof 44 = .ok (.iconst 1, 1) := by decide +kernel
theorem dX4_lowestLeastProof_45 : decode cX4_lowestLeastProof 45 = .ok (.goto 4, 3) := by decide +kernel
theorem dX4_lowestLeastProof_48 : decode cX4_lowestLeastProof 48 = .ok (.iconst 0, 1) := by decide +kernel
theorem dX4_lowestLeastProof_49 : decode cX4_lowestLeastProof 49 = .ok (.istore 4, 2) := by decide +kernel
theorem dX4_lowestLeastProof_51 : decode cX4_lowestLeastProof 51 = .ok (.iload 4, 2) := by decide +kernel
theorem dX4_lowestLeastProof_53 : decode cX4_lowestLeastProof 53 = .ok (.ifCond .eq 18, 3) := by decide +kernel
theorem dX4_lowestLeastProof_56 : decode cX4_lowestLeastProof 56 = .ok (.aload_n 0, 1) := by decide +kernel
theorem dX4_lowestLeastProof_57 : decode cX4_lowestLeastProof 57 = .ok (.getfield 26, 3) := by decide +kernel
theorem dX4_lowestLeastProof_60 : decode cX4_lowestLeastProof 60 = .ok (.iconst 0, 1) := by decide +kernel
theorem dX4_lowestLeastProof_61 : decode cX4_lowestLeastProof 61 = .ok (.iconst 0, 1) := by decide +kernel
theorem dX4_lowestLeastProof_62 : decode cX4_lowestLeastProof 62 = .ok (.iload_n 3, 1) := by decide +kernel
theorem dX4_lowestLeastProof_63 : decode cX4_lowestLeastProof 63 = .ok (.invokevirtual 167, 3) := by decide +kernel
theorem dX4_lowestLeastProof_66 : decode cX4_lowestLeastProof 66 = .ok (.ifCond .ne 5, 3) := by decide +kernel
theorem dX4_lowestLeastProof_69 : decode cX4_lowestLeastProof 69 = .ok (.iload_n 3, 1) := by decide +kernel
theorem dX4_lowestLeastProof_70 : decode cX4_lowestLeastProof 70 = .ok (.istore_n 1, 1) := by decide +kernel
theorem dX4_lowestLeastProof_71 : decode cX4_lowestLeastProof 71 = .ok (.iinc 3 1, 3) := by decide +kernel
theorem dX4_lowestLeastProof_74 : decode cX4_lowestLeastProof 74 = .ok (.goto (-51), 3) := by decide +kernel
theorem dX4_lowestLeastProof_77 : decode cX4_lowestLeastProof 77 = .ok (.iload_n 1, 1) := by decide +kernel
theorem dX4_lowestLeastProof_78 : decode cX4_lowestLeastProof 78 = .ok (.ireturn, 1) := by decide +kernel
theorem dX4_bit_0 : decode cX4_bit 0 = .ok (.iload_n 0, 1) := by decide +kernel
theorem dX4_bit_1 : decode cX4_bit 1 = .ok (.iload_n 1, 1) := by decide +kernel
theorem dX4_bit_2 : decode cX4_bit 2 = .ok (.ishr, 1) := by decide +kernel
theorem dX4_bit_3 : decode cX4_bit 3 = .ok (.iconst 1, 1) := by decide +kernel
theorem dX4_bit_4 : decode cX4_bit 4 = .ok (.iand, 1) := by decide +kernel
theorem dX4_bit_5 : decode cX4_bit 5 = .ok (.ireturn, 1) := by decide +kernel
theorem dX4_read_0 : decode cX4_read 0 = .ok (.iload_n 1, 1) := by decide +kernel
theorem dX4_read_1 : decode cX4_read 1 = .ok (.ifCond .lt 15, 3) := by decide +kernel
theorem dX4_read_4 : decode cX4_read 4 = .ok (.iload_n 1, 1) := by decide +kernel
theorem dX4_read_5 : decode cX4_read 5 = .ok (.aload_n 0, 1) := by decide +kernel
theorem dX4_read_6 : decode cX4_read 6 = .ok (.arraylength, 1) := by decide +kernel
theorem dX4_read_7 : decode cX4_read 7 = .ok (.if_icmp .ge 9, 3) := by decide +kernel
theorem dX4_read_10 : decode cX4_read 10 = .ok (.aload_n 0, 1) := by decide +kernel
theorem dX4_read_11 : decode cX4_read 11 = .ok (.iload_n 1, 1) := by decide +kernel
theorem dX4_read_12 : decode cX4_read 12 = .ok (.iaload, 1) := by decide +kernel
theorem dX4_read_13 : decode cX4_read 13 = .ok (.goto 4, 3) := by decide +kernel
theorem dX4_read_16 : decode cX4_read 16 = .ok (.iconst 0, 1) := by decide +kernel
theorem dX4_read_17 : decode cX4_read 17 = .ok (.ireturn, 1) := by decide +kernel
theorem dX4_write_0 : decode cX4_write 0 = .ok (.iload_n 1, 1) := by decide +kernel
theorem dX4_write_1 : decode cX4_write 1 = .ok (.ifCond .lt 13, 3) := by decide +kernel
theorem dX4_write_4 : decode cX4_write 4 = .ok (.iload_n 1, 1) := by decide +kernel
theorem dX4_write_5 : decode cX4_write 5 = .ok (.aload_n 0, 1) := by decide +kernel
theorem dX4_write_6 : decode cX4_write 6 = .ok (.arraylength, 1) := by decide +kernel
theorem dX4_write_7 : decode cX4_write 7 = .ok (.if_icmp .ge 7, 3) := by decide +kernel
theorem dX4_write_10 : decode cX4_write 10 = .ok (.aload_n 0, 1) := by decide +kernel
theorem dX4_write_11 : decode cX4_write 11 = .ok (.iload_n 1, 1) := by decide +kernel
theorem dX4_write_12 : decode cX4_write 12 = .ok (.iload_n 2, 1) := by decide +kernel
theorem dX4_write_13 : decode cX4_write 13 = .ok (.iastore, 1) := by decide +kernel
theorem dX4_write_14 : decode cX4_write 14 = .ok (.return_, 1) := by decide +kernel
theorem dX4_readLong_0 : decode cX4_readLong 0 = .ok (.iload_n 1, 1) := by decide +kernel
theorem dX4_readLong_1 : decode cX4_readLong 1 = .ok (.ifCond .lt 15, 3) := by decide +kernel
theorem dX4_readLong_4 : decode cX4_readLong 4 = .ok (.iload_n 1, 1) := by decide +kernel
theorem dX4_readLong_5 : decode cX4_readLong 5 = .ok (.aload_n 0, 1) := by decide +kernel
theorem dX4_readLong_6 : decode cX4_readLong 6 = .ok (.arraylength, 1) := by decide +kernel
theorem dX4_readLong_7 : decode cX4_readLong 7 = .ok (.if_icmp .ge 9, 3) := by decide +kernel
theorem dX4_readLong_10 : decode cX4_readLong 10 = .ok (.aload_n 0, 1) := by decide +kernel
theorem dX4_readLong_11 : decode cX4_readLong 11 = .ok (.iload_n 1, 1) := by decide +kernel
theorem dX4_readLong_12 : decode cX4_readLong 12 = .ok (.laload, 1) := by decide +kernel
theorem dX4_readLong_13 : decode cX4_readLong 13 = .ok (.goto 4, 3) := by decide +kernel
theorem dX4_readLong_16 : decode cX4_readLong 16 = .ok (.lconst 0, 1) := by decide +kernel
theorem dX4_readLong_17 : decode cX4_readLong 17 = .ok (.lreturn, 1) := by decide +kernel
theorem dX4_writeLong_0 : decode cX4_writeLong 0 = .ok (.iload_n 1, 1) := by decide +kernel
theorem dX4_writeLong_1 : decode cX4_writeLong 1 = .ok (.ifCond .lt 13, 3) := by decide +kernel
theorem dX4_writeLong_4 : decode cX4_writeLong 4 = .ok (.iload_n 1, 1) := by decide +kernel
theorem dX4_writeLong_5 : decode cX4_writeLong 5 = .ok (.aload_n 0, 1) := by decide +kernel
theorem dX4_writeLong_6 : decode cX4_writeLong 6 = .ok (.arraylength, 1) := by decide +kernel
theorem dX4_writeLong_7 : decode cX4_writeLong 7 = .ok (.if_icmp .ge 7, 3) := by decide +kernel
theorem dX4_writeLong_10 : decode cX4_writeLong 10 = .ok (.aload_n 0, 1) := by decide +kernel
theorem dX4_writeLong_11 : decode cX4_writeLong 11 = .ok (.iload_n 1, 1) := by decide +kernel
theorem dX4_writeLong_12 : decode cX4_writeLong 12 = .ok (.lload_n 2, 1) := by decide +kernel
theorem dX4_writeLong_13 : decode cX4_writeLong 13 = .ok (.lastore, 1) := by decide +kernel
theorem dX4_writeLong_14 : decode cX4_writeLong 14 = .ok (.return_, 1) := by decide +kernel
theorem dJ6_bitCount_0f7a4_0 : decode cJ6_bitCount_0f7a4 0 = .ok (.iload_n 0, 1) := by decide +kernel
theorem dJ6_bitCount_0f7a4_1 : decode cJ6_bitCount_0f7a4 1 = .ok (.iload_n 0, 1) := by decide +kernel
theorem dJ6_bitCount_0f7a4_2 : decode cJ6_bitCount_0f7a4 2 = .ok (.iconst 1, 1) := by decide +kernel
theorem dJ6_bitCount_0f7a4_3 : decode cJ6_bitCount_0f7a4 3 = .ok (.iushr, 1) := by decide +kernel
theorem dJ6_bitCount_0f7a4_4 : decode cJ6_bitCount_0f7a4 4 = .ok (.ldc_w 265, 3) := by decide +kernel
theorem dJ6_bitCount_0f7a4_7 : decode cJ6_bitCount_0f7a4 7 = .ok (.iand, 1) := by decide +kernel
theorem dJ6_bitCount_0f7a4_8 : decode cJ6_bitCount_0f7a4 8 = .ok (.isub, 1) := by decide +kernel
theorem dJ6_bitCount_0f7a4_9 : decode cJ6_bitCount_0f7a4 9 = .ok (.istore_n 0, 1) := by decide +kernel
theorem dJ6_bitCount_0f7a4_10 : decode cJ6_bitCount_0f7a4 10 = .ok (.iload_n 0, 1) := by decide +kernel
theorem dJ6_bitCount_0f7a4_11 : decode cJ6_bitCount_0f7a4 11 = .ok (.ldc_w 266, 3) := by decide +kernel
theorem dJ6_bitCount_0f7a4_14 : decode cJ6_bitCount_0f7a4 14 = .ok (.iand, 1) := by decide +kernel
theorem dJ6_bitCount_0f7a4_15 : decode cJ6_bitCount_0f7a4 15 = .ok (.iload_n 0, 1) := by decide +kernel
theorem dJ6_bitCount_0f7a4_16 : decode cJ6_bitCount_0f7a4 16 = .ok (.iconst 2, 1) := by decide +kernel
theorem dJ6_bitCount_0f7a4_17 : decode cJ6_bitCount_0f7a4 17 = .ok (.iushr, 1) := by decide +kernel
theorem dJ6_bitCount_0f7a4_18 : decode cJ6_bitCount_0f7a4 18 = .ok (.ldc_w 266, 3) := by decide +kernel
theorem dJ6_bitCount_0f7a4_21 : decode cJ6_bitCount_0f7a4 21 = .ok (.iand, 1) := by decide +kernel
theorem dJ6_bitCount_0f7a4_22 : decode cJ6_bitCount_0f7a4 22 = .ok (.iadd, 1) := by decide +kernel
theorem dJ6_bitCount_0f7a4_23 : decode cJ6_bitCount_0f7a4 23 = .ok (.istore_n 0, 1) := by decide +kernel
theorem dJ6_bitCount_0f7a4_24 : decode cJ6_bitCount_0f7a4 24 = .ok (.iload_n 0, 1) := by decide +kernel
theorem dJ6_bitCount_0f7a4_25 : decode cJ6_bitCount_0f7a4 25 = .ok (.iload_n 0, 1) := by decide +kernel
theorem dJ6_bitCount_0f7a4_26 : decode cJ6_bitCount_0f7a4 26 = .ok (.iconst 4, 1) := by decide +kernel
theorem dJ6_bitCount_0f7a4_27 : decode cJ6_bitCount_0f7a4 27 = .ok (.iushr, 1) := by decide +kernel
theorem dJ6_bitCount_0f7a4_28 : decode cJ6_bitCount_0f7a4 28 = .ok (.iadd, 1) := by decide +kernel
theorem dJ6_bitCount_0f7a4_29 : decode cJ6_bitCount_0f7a4 29 = .ok (.ldc_w 267, 3) := by decide +kernel
theorem dJ6_bitCount_0f7a4_32 : decode cJ6_bitCount_0f7a4 32 = .ok (.iand, 1) := by decide +kernel
theorem dJ6_bitCount_0f7a4_33 : decode cJ6_bitCount_0f7a4 33 = .ok (.istore_n 0, 1) := by decide +kernel
theorem dJ6_bitCount_0f7a4_34 : decode cJ6_bitCount_0f7a4 34 = .ok (.iload_n 0, 1) := by decide +kernel
theorem dJ6_bitCount_0f7a4_35 : decode cJ6_bitCount_0f7a4 35 = .ok (.iload_n 0, 1) := by decide +kernel
theorem dJ6_bitCount_0f7a4_36 : decode cJ6_bitCount_0f7a4 36 = .ok (.bipush 8, 2) := by decide +kernel
theorem dJ6_bitCount_0f7a4_38 : decode cJ6_bitCount_0f7a4 38 = .ok (.iushr, 1) := by decide +kernel
theorem dJ6_bitCount_0f7a4_39 : decode cJ6_bitCount_0f7a4 39 = .ok (.iadd, 1) := by decide +kernel
theorem dJ6_bitCount_0f7a4_40 : decode cJ6_bitCount_0f7a4 40 = .ok (.istore_n 0, 1) := by decide +kernel
theorem dJ6_bitCount_0f7a4_41 : decode cJ6_bitCount_0f7a4 41 = .ok (.iload_n 0, 1) := by decide +kernel
theorem dJ6_bitCount_0f7a4_42 : decode cJ6_bitCount_0f7a4 42 = .ok (.iload_n 0, 1) := by decide +kernel
theorem dJ6_bitCount_0f7a4_43 : decode cJ6_bitCount_0f7a4 43 = .ok (.bipush 16, 2) := by decide +kernel
theorem dJ6_bitCount_0f7a4_45 : decode cJ6_bitCount_0f7a4 45 = .ok (.iushr, 1) := by decide +kernel
theorem dJ6_bitCount_0f7a4_46 : decode cJ6_bitCount_0f7a4 46 = .ok (.iadd, 1) := by decide +kernel
theorem dJ6_bitCount_0f7a4_47 : decode cJ6_bitCount_0f7a4 47 = .ok (.istore_n 0, 1) := by decide +kernel
theorem dJ6_bitCount_0f7a4_48 : decode cJ6_bitCount_0f7a4 48 = .ok (.iload_n 0, 1) := by decide +kernel
theorem dJ6_bitCount_0f7a4_49 : decode cJ6_bitCount_0f7a4 49 = .ok (.bipush 63, 2) := by decide +kernel
theorem dJ6_bitCount_0f7a4_51 : decode cJ6_bitCount_0f7a4 51 = .ok (.iand, 1) := by decide +kernel
theorem dJ6_bitCount_0f7a4_52 : decode cJ6_bitCount_0f7a4 52 = .ok (.ireturn, 1) := by decide +kernel
theorem dL_cell_0 : decode cL_cell 0 = .ok (.iload_n 1, 1) := by decide +kernel
theorem dL_cell_1 : decode cL_cell 1 = .ok (.aload_n 0, 1) := by decide +kernel
theorem dL_cell_2 : decode cL_cell 2 = .ok (.arraylength, 1) := by decide +kernel
theorem dL_cell_3 : decode cL_cell 3 = .ok (.if_icmp .ge 9, 3) := by decide +kernel
theorem dL_cell_6 : decode cL_cell 6 = .ok (.aload_n 0, 1) := by decide +kernel
theorem dL_cell_7 : decode cL_cell 7 = .ok (.iload_n 1, 1) := by decide +kernel
theorem dL_cell_8 : decode cL_cell 8 = .ok (.iaload, 1) := by decide +kernel
theorem dL_cell_9 : decode cL_cell 9 = .ok (.goto 11, 3) := by decide +kernel
theorem dL_cell_12 : decode cL_cell 12 = .ok (.sipush 16807, 3) := by decide +kernel
theorem dL_cell_15 : decode cL_cell 15 = .ok (.iload_n 1, 1) := by decide +kernel
theorem dL_cell_16 : decode cL_cell 16 = .ok (.bipush 47, 2) := by decide +kernel
theorem dL_cell_18 : decode cL_cell 18 = .ok (.iadd, 1) := by decide +kernel
theorem dL_cell_19 : decode cL_cell 19 = .ok (.imul, 1) := by decide +kernel
theorem dL_cell_20 : decode cL_cell 20 = .ok (.ldc 7, 2) := by decide +kernel
theorem dL_cell_22 : decode cL_cell 22 = .ok (.iand, 1) := by decide +kernel
theorem dL_cell_23 : decode cL_cell 23 = .ok (.ireturn, 1) := by decide +kernel
theorem dL_adds_0 : decode cL_adds 0 = .ok (.aload_n 0, 1) := by decide +kernel
theorem dL_adds_1 : decode cL_adds 1 = .ok (.iload_n 1, 1) := by decide +kernel
theorem dL_adds_2 : decode cL_adds 2 = .ok (.invokevirtual 8, 3) := by decide +kernel
theorem dL_adds_5 : decode cL_adds 5 = .ok (.ireturn, 1) := by decide +kernel
theorem dL_adds_6 : decode cL_adds 6 = .ok (.astore_n 2, 1) := by decide +kernel
theorem dL_adds_7 : decode cL_adds 7 = .ok (.ldc 16, 2) := by decide +kernel
theorem dL_adds_9 : decode cL_adds 9 = .ok (.ireturn, 1) := by decide +kernel
theorem dL_clauses_0 : decode cL_clauses 0 = .ok (.aload_n 0, 1) := by decide +kernel
theorem dL_clauses_1 : decode cL_clauses 1 = .ok (.iload_n 1, 1) := by decide +kernel
theorem dL_clauses_2 : decode cL_clauses 2 = .ok (.iload_n 2, 1) := by decide +kernel
theorem dL_clauses_3 : decode cL_clauses 3 = .ok (.invokevirtual 17, 3) := by decide +kernel
theorem dL_clauses_6 : decode cL_clauses 6 = .ok (.ireturn, 1) := by decide +kernel
theorem dL_clauses_7 : decode cL_clauses 7 = .ok (.astore_n 3, 1) := by decide +kernel
theorem dL_clauses_8 : decode cL_clauses 8 = .ok (.ldc 16, 2) := by decide +kernel
theorem dL_clauses_10 : decode cL_clauses 10 = .ok (.ireturn, 1) := by decide +kernel
theorem dL_clauses_11 : decode cL_clauses 11 = .ok (.astore_n 3, 1) := by decide +kernel
theorem dL_clauses_12 : decode cL_clauses 12 = .ok (.ldc 23, 2) := by decide +kernel
theorem dL_clauses_14 : decode cL_clauses 14 = .ok (.ireturn, 1) := by decide +kernel
theorem dL_removes_0 : decode cL_removes 0 = .ok (.aload_n 0, 1) := by decide +kernel
theorem dL_removes_1 : decode cL_removes 1 = .ok (.iload_n 1, 1) := by decide +kernel
theorem dL_removes_2 : decode cL_removes 2 = .ok (.invokevirtual 24, 3) := by decide +kernel
theorem dL_removes_5 : decode cL_removes 5 = .ok (.ireturn, 1) := by decide +kernel
theorem dL_removes_6 : decode cL_removes 6 = .ok (.astore_n 2, 1) := by decide +kernel
theorem dL_removes_7 : decode cL_removes 7 = .ok (.ldc 16, 2) := by decide +kernel
theorem dL_removes_9 : decode cL_removes 9 = .ok (.ireturn, 1) := by decide +kernel
theorem dL_whose_0 : decode cL_whose 0 = .ok (.aload_n 0, 1) := by decide +kernel
theorem dL_whose_1 : decode cL_whose 1 = .ok (.iload_n 1, 1) := by decide +kernel
theorem dL_whose_2 : decode cL_whose 2 = .ok (.invokevirtual 30, 3) := by decide +kernel
theorem dL_whose_5 : decode cL_whose 5 = .ok (.ifCond .eq 7, 3) := by decide +kernel
theorem dL_whose_8 : decode cL_whose 8 = .ok (.iconst 1, 1) := by decide +kernel
theorem dL_whose_9 : decode cL_whose 9 = .ok (.goto 4, 3) := by decide +kernel
theorem dL_whose_12 : decode cL_whose 12 = .ok (.iconst 0, 1) := by decide +kernel
theorem dL_whose_13 : decode cL_whose 13 = .ok (.ireturn, 1) := by decide +kernel
theorem dL_whose_14 : decode cL_whose 14 = .ok (.astore_n 2, 1) := by decide +kernel
theorem dL_whose_15 : decode cL_whose 15 = .ok (.ldc 16, 2) := by decide +kernel
theorem dL_whose_17 : decode cL_whose 17 = .ok (.ireturn, 1) := by decide +kernel
theorem dL_value_0 : decode cL_value 0 = .ok (.aload_n 0, 1) := by decide +kernel
theorem dL_value_1 : decode cL_value 1 = .ok (.iload_n 1, 1) := by decide +kernel
theorem dL_value_2 : decode cL_value 2 = .ok (.invokevirtual 34, 3) := by decide +kernel
theorem dL_value_5 : decode cL_value 5 = .ok (.ireturn, 1) := by decide +kernel
theorem dL_value_6 : decode cL_value 6 = .ok (.astore_n 2, 1) := by decide +kernel
theorem dL_value_7 : decode cL_value 7 = .ok (.ldc 16, 2) := by decide +kernel
theorem dL_value_9 : decode cL_value 9 = .ok (.ireturn, 1) := by decide +kernel
theorem dL_winnerAt_0 : decode cL_winnerAt 0 = .ok (.aload_n 0, 1) := by decide +kernel
theorem dL_winnerAt_1 : decode cL_winnerAt 1 = .ok (.iload_n 1, 1) := by decide +kernel
theorem dL_winnerAt_2 : decode cL_winnerAt 2 = .ok (.iload_n 2, 1) := by decide +kernel
theorem dL_winnerAt_3 : decode cL_winnerAt 3 = .ok (.invokevirtual 37, 3) := by decide +kernel
theorem dL_winnerAt_6 : decode cL_winnerAt 6 = .ok (.ireturn, 1) := by decide +kernel
theorem dL_winnerAt_7 : decode cL_winnerAt 7 = .ok (.astore_n 3, 1) := by decide +kernel
theorem dL_winnerAt_8 : decode cL_winnerAt 8 = .ok (.ldc 16, 2) := by decide +kernel
theorem dL_winnerAt_10 : decode cL_winnerAt 10 = .ok (.ireturn, 1) := by decide +kernel
theorem dL_winnerAt_11 : decode cL_winnerAt 11 = .ok (.astore_n 3, 1) := by decide +kernel
theorem dL_winnerAt_12 : decode cL_winnerAt 12 = .ok (.ldc 23, 2) := by decide +kernel
theorem dL_winnerAt_14 : decode cL_winnerAt 14 = .ok (.ireturn, 1) := by decide +kernel
theorem dL_moves_0 : decode cL_moves 0 = .ok (.aload_n 0, 1) := by decide +kernel
theorem dL_moves_1 : decode cL_moves 1 = .ok (.iload_n 1, 1) := by decide +kernel
theorem dL_moves_2 : decode cL_moves 2 = .ok (.iload_n 2, 1) := by decide +kernel
theorem dL_moves_3 : decode cL_moves 3 = .ok (.invokevirtual 40, 3) := by decide +kernel
theorem dL_moves_6 : decode cL_moves 6 = .ok (.ireturn, 1) := by decide +kernel
theorem dL_moves_7 : decode cL_moves 7 = .ok (.astore_n 3, 1) := by decide +kernel
theorem dL_moves_8 : decode cL_moves 8 = .ok (.ldc 16, 2) := by decide +kernel
theorem dL_moves_10 : decode cL_moves 10 = .ok (.ireturn, 1) := by decide +kernel
theorem dL_moves_11 : decode cL_moves 11 = .ok (.astore_n 3, 1) := by decide +kernel
theorem dL_moves_12 : decode cL_moves 12 = .ok (.ldc 23, 2) := by decide +kernel
theorem dL_moves_14 : decode cL_moves 14 = .ok (.ireturn, 1) := by decide +kernel
theorem dL_ways_0 : decode cL_ways 0 = .ok (.aload_n 0, 1) := by decide +kernel
theorem dL_ways_1 : decode cL_ways 1 = .ok (.iload_n 1, 1) := by decide +kernel
theorem dL_ways_2 : decode cL_ways 2 = .ok (.invokevirtual 43, 3) := by decide +kernel
theorem dL_ways_5 : decode cL_ways 5 = .ok (.ireturn, 1) := by decide +kernel
theorem dL_ways_6 : decode cL_ways 6 = .ok (.astore_n 2, 1) := by decide +kernel
theorem dL_ways_7 : decode cL_ways 7 = .ok (.ldc 16, 2) := by decide +kernel
theorem dL_ways_9 : decode cL_ways 9 = .ok (.ireturn, 1) := by decide +kernel
theorem dL_beats_0 : decode cL_beats 0 = .ok (.aload_n 0, 1) := by decide +kernel
theorem dL_beats_1 : decode cL_beats 1 = .ok (.iload_n 1, 1) := by decide +kernel
theorem dL_beats_2 : decode cL_beats 2 = .ok (.invokevirtual 46, 3) := by decide +kernel
theorem dL_beats_5 : decode cL_beats 5 = .ok (.ifCond .eq 7, 3) := by decide +kernel
theorem dL_beats_8 : decode cL_beats 8 = .ok (.iconst 1, 1) := by decide +kernel
theorem dL_beats_9 : decode cL_beats 9 = .ok (.goto 4, 3) := by decide +kernel
theorem dL_beats_12 : decode cL_beats 12 = .ok (.iconst 0, 1) := by decide +kernel
theorem dL_beats_13 : decode cL_beats 13 = .ok (.ireturn, 1) := by decide +kernel
theorem dL_beats_14 : decode cL_beats 14 = .ok (.astore_n 2, 1) := by decide +kernel
theorem dL_beats_15 : decode cL_beats 15 = .ok (.ldc 16, 2) := by decide +kernel
theorem dL_beats_17 : decode cL_beats 17 = .ok (.ireturn, 1) := by decide +kernel
theorem dL_undoes_0 : decode cL_undoes 0 = .ok (.aload_n 0, 1) := by decide +kernel
theorem dL_undoes_1 : decode cL_undoes 1 = .ok (.invokevirtual 49, 3) := by decide +kernel
theorem dL_undoes_4 : decode cL_undoes 4 = .ok (.ireturn, 1) := by decide +kernel
theorem dL_undoes_5 : decode cL_undoes 5 = .ok (.astore_n 1, 1) := by decide +kernel
theorem dL_undoes_6 : decode cL_undoes 6 = .ok (.ldc 16, 2) := by decide +kernel
theorem dL_undoes_8 : decode cL_undoes 8 = .ok (.ireturn, 1) := by decide +kernel
theorem dL_bits_0 : decode cL_bits 0 = .ok (.iconst 0, 1) := by decide +kernel
theorem dL_bits_1 : decode cL_bits 1 = .ok (.istore_n 1, 1) := by decide +kernel
theorem dL_bits_2 : decode cL_bits 2 = .ok (.iconst 0, 1) := by decide +kernel
theorem dL_bits_3 : decode cL_bits 3 = .ok (.istore_n 2, 1) := by decide +kernel
theorem dL_bits_4 : decode cL_bits 4 = .ok (.iload_n 2, 1) := by decide +kernel
theorem dL_bits_5 : decode cL_bits 5 = .ok (.bipush 9, 2) := by decide +kernel
theorem dL_bits_7 : decode cL_bits 7 = .ok (.if_icmp .ge 17, 3) := by decide +kernel
theorem dL_bits_10 : decode cL_bits 10 = .ok (.iload_n 1, 1) := by decide +kernel
theorem dL_bits_11 : decode cL_bits 11 = .ok (.iload_n 0, 1) := by decide +kernel
theorem dL_bits_12 : decode cL_bits 12 = .ok (.iload_n 2, 1) := by decide +kernel
theorem dL_bits_13 : decode cL_bits 13 = .ok (.ishr, 1) := by decide +kernel
theorem dL_bits_14 : decode cL_bits 14 = .ok (.iconst 1, 1) := by decide +kernel
theorem dL_bits_15 : decode cL_bits 15 = .ok (.iand, 1) := by decide +kernel
theorem dL_bits_16 : decode cL_bits 16 = .ok (.iadd, 1) := by decide +kernel
theorem dL_bits_17 : decode cL_bits 17 = .ok (.istore_n 1, 1) := by decide +kernel
theorem dL_bits_18 : decode cL_bits 18 = .ok (.iinc 2 1, 3) := by decide +kernel
theorem dL_bits_21 : decode cL_bits 21 = .ok (.goto (-17), 3) := by decide +kernel
theorem dL_bits_24 : decode cL_bits 24 = .ok (.iload_n 1, 1) := by decide +kernel
theorem dL_bits_25 : decode cL_bits 25 = .ok (.ireturn, 1) := by decide +kernel
theorem dL_follows_0 : decode cL_follows 0 = .ok (.aload_n 0, 1) := by decide +kernel
theorem dL_follows_1 : decode cL_follows 1 = .ok (.invokevirtual 53, 3) := by decide +kernel
theorem dL_follows_4 : decode cL_follows 4 = .ok (.istore_n 2, 1) := by decide +kernel
theorem dL_follows_5 : decode cL_follows 5 = .ok (.aload_n 0, 1) := by decide +kernel
theorem dL_follows_6 : decode cL_follows 6 = .ok (.iconst 0, 1) := by decide +kernel
theorem dL_follows_7 : decode cL_follows 7 = .ok (.invokestatic 56, 3) := by decide +kernel
theorem dL_follows_10 : decode cL_follows 10 = .ok (.istore_n 3, 1) := by decide +kernel
theorem dL_follows_11 : decode cL_follows 11 = .ok (.iconst 0, 1) := by decide +kernel
theorem dL_follows_12 : decode cL_follows 12 = .ok (.istore 4, 2) := by decide +kernel
theorem dL_follows_14 : decode cL_follows 14 = .ok (.iconst 1, 1) := by decide +kernel
theorem dL_follows_15 : decode cL_follows 15 = .ok (.istore 5, 2) := by decide +kernel
theorem dL_follows_17 : decode cL_follows 17 = .ok (.iconst 0, 1) := by decide +kernel
theorem dL_follows_18 : decode cL_follows 18 = .ok (.istore 6, 2) := by decide +kernel
theorem dL_follows_20 : decode cL_follows 20 = .ok (.iload 6, 2) := by decide +kernel
theorem dL_follows_22 : decode cL_follows 22 = .ok (.iload_n 3, 1) := by decide +kernel
theorem dL_follows_23 : decode cL_follows 23 = .ok (.if_icmp .ge 99, 3) := by decide +kernel
theorem dL_follows_26 : decode cL_follows 26 = .ok (.iload 5, 2) := by decide +kernel
theorem dL_follows_28 : decode cL_follows 28 = .ok (.ifCond .eq 94, 3) := by decide +kernel
theorem dL_follows_31 : decode cL_follows 31 = .ok (.aload_n 0, 1) := by decide +kernel
theorem dL_follows_32 : decode cL_follows 32 = .ok (.iload 6, 2) := by decide +kernel
theorem dL_follows_34 : decode cL_follows 34 = .ok (.iload 4, 2) := by decide +kernel
theorem dL_follows_36 : decode cL_follows 36 = .ok (.invokestatic 61, 3) := by decide +kernel
theorem dL_follows_39 : decode cL_follows 39 = .ok (.istore 7, 2) := by decide +kernel
theorem dL_follows_41 : decode cL_follows 41 = .ok (.aload_n 0, 1) := by decide +kernel
theorem dL_follows_42 : decode cL_follows 42 = .ok (.iload 6, 2) := by decide +kernel
theorem dL_follows_44 : decode cL_follows 44 = .ok (.invokestatic 65, 3) := by decide +kernel
theorem dL_follows_47 : decode cL_follows 47 = .ok (.istore 8, 2) := by decide +kernel
theorem dL_follows_49 : decode cL_follows 49 = .ok (.aload_n 0, 1) := by decide +kernel
theorem dL_follows_50 : decode cL_follows 50 = .ok (.iload 6, 2) := by decide +kernel
theorem dL_follows_52 : decode cL_follows 52 = .ok (.iload 4, 2) := by decide +kernel
theorem dL_follows_54 : decode cL_follows 54 = .ok (.invokestatic 68, 3) := by decide +kernel
theorem dL_follows_57 : decode cL_follows 57 = .ok (.iload_n 2, 1) := by decide +kernel
theorem dL_follows_58 : decode cL_follows 58 = .ok (.if_icmp .ne 31, 3) := by decide +kernel
theorem dL_follows_61 : decode cL_follows 61 = .ok (.iload 7, 2) := by decide +kernel
theorem dL_follows_63 : decode cL_follows 63 = .ok (.ifCond .lt 7, 3) := by decide +kernel
theorem dL_follows_66 : decode cL_follows 66 = .ok (.iconst 1, 1) := by decide +kernel
theorem dL_follows_67 : decode cL_follows 67 = .ok (.goto 4, 3) := by decide +kernel
theorem dL_follows_70 : decode cL_follows 70 = .ok (.iconst 0, 1) := by decide +kernel
theorem dL_follows_71 : decode cL_follows 71 = .ok (.iload 8, 2) := by decide +kernel
theorem dL_follows_73 : decode cL_follows 73 = .ok (.iload_n 2, 1) := by decide +kernel
theorem dL_follows_74 : decode cL_follows 74 = .ok (.if_icmp .ne 7, 3) := by decide +kernel
theorem dL_follows_77 : decode cL_follows 77 = .ok (.iconst 1, 1) := by decide +kernel
theorem dL_follows_78 : decode cL_follows 78 = .ok (.goto 4, 3) := by decide +kernel
theorem dL_follows_81 : decode cL_follows 81 = .ok (.iconst 0, 1) := by decide +kernel
theorem dL_follows_82 : decode cL_follows 82 = .ok (.if_icmp .ne 7, 3) := by decide +kernel
theorem dL_follows_85 : decode cL_follows 85 = .ok (.iconst 1, 1) := by decide +kernel
theorem dL_follows_86 : decode cL_follows 86 = .ok (.goto 4, 3) := by decide +kernel
theorem dL_follows_89 : decode cL_follows 89 = .ok (.iconst 0, 1) := by decide +kernel
theorem dL_follows_90 : decode cL_follows 90 = .ok (.istore 5, 2) := by decide +kernel
theorem dL_follows_92 : decode cL_follows 92 = .ok (.iload 4, 2) := by decide +kernel
theorem dL_follows_94 : decode cL_follows 94 = .ok (.iload 7, 2) := by decide +kernel
theorem dL_follows_96 : decode cL_follows 96 = .ok (.ifCond .lt 8, 3) := by decide +kernel
theorem dL_follows_99 : decode cL_follows 99 = .ok (.iload 7, 2) := by decide +kernel
theorem dL_follows_101 : decode cL_follows 101 = .ok (.goto 9, 3) := by decide +kernel
theorem dL_follows_104 : decode cL_follows 104 = .ok (.iload_n 1, 1) := by decide +kernel
theorem dL_follows_105 : decode cL_follows 105 = .ok (.iload 6, 2) := by decide +kernel
theorem dL_follows_107 : decode cL_follows 107 = .ok (.ishr, 1) := by decide +kernel
theorem dL_follows_108 : decode cL_follows 108 = .ok (.iconst 1, 1) := by decide +kernel
theorem dL_follows_109 : decode cL_follows 109 = .ok (.iand, 1) := by decide +kernel
theorem dL_follows_110 : decode cL_follows 110 = .ok (.iload 6, 2) := by decide +kernel
theorem dL_follows_112 : decode cL_follows 112 = .ok (.ishl, 1) := by decide +kernel
theorem dL_follows_113 : decode cL_follows 113 = .ok (.ior, 1) := by decide +kernel
theorem dL_follows_114 : decode cL_follows 114 = .ok (.istore 4, 2) := by decide +kernel
theorem dL_follows_116 : decode cL_follows 116 = .ok (.iinc 6 1, 3) := by decide +kernel
theorem dL_follows_119 : decode cL_follows 119 = .ok (.goto (-99), 3) := by decide +kernel
theorem dL_follows_122 : decode cL_follows 122 = .ok (.iload 5, 2) := by decide +kernel
theorem dL_follows_124 : decode cL_follows 124 = .ok (.ireturn, 1) := by decide +kernel
theorem dL_holds_0 : decode cL_holds 0 = .ok (.aload_n 0, 1) := by decide +kernel
theorem dL_holds_1 : decode cL_holds 1 = .ok (.bipush 6, 2) := by decide +kernel
theorem dL_holds_3 : decode cL_holds 3 = .ok (.invokestatic 56, 3) := by decide +kernel
theorem dL_holds_6 : decode cL_holds 6 = .ok (.istore_n 1, 1) := by decide +kernel
theorem dL_holds_7 : decode cL_holds 7 = .ok (.iconst 0, 1) := by decide +kernel
theorem dL_holds_8 : decode cL_holds 8 = .ok (.istore_n 2, 1) := by decide +kernel
theorem dL_holds_9 : decode cL_holds 9 = .ok (.iload_n 1, 1) := by decide +kernel
theorem dL_holds_10 : decode cL_holds 10 = .ok (.iconst 1, 1) := by decide +kernel
theorem dL_holds_11 : decode cL_holds 11 = .ok (.aload_n 0, 1) := by decide +kernel
theorem dL_holds_12 : decode cL_holds 12 = .ok (.iconst 1, 1) := by decide +kernel
theorem dL_holds_13 : decode cL_holds 13 = .ok (.invokestatic 56, 3) := by decide +kernel
theorem dL_holds_16 : decode cL_holds 16 = .ok (.ishl, 1) := by decide +kernel
theorem dL_holds_17 : decode cL_holds 17 = .ok (.if_icmp .ne 34, 3) := by decide +kernel
theorem dL_holds_20 : decode cL_holds 20 = .ok (.aload_n 0, 1) := by decide +kernel
theorem dL_holds_21 : decode cL_holds 21 = .ok (.iconst 3, 1) := by decide +kernel
theorem dL_holds_22 : decode cL_holds 22 = .ok (.invokestatic 56, 3) := by decide +kernel
theorem dL_holds_25 : decode cL_holds 25 = .ok (.aload_n 0, 1) := by decide +kernel
theorem dL_holds_26 : decode cL_holds 26 = .ok (.iconst 4, 1) := by decide +kernel
theorem dL_holds_27 : decode cL_holds 27 = .ok (.invokestatic 56, 3) := by decide +kernel
theorem dL_holds_30 : decode cL_holds 30 = .ok (.invokestatic 70, 3) := by decide +kernel
theorem dL_holds_33 : decode cL_holds 33 = .ok (.if_icmp .ne 18, 3) := by decide +kernel
theorem dL_holds_36 : decode cL_holds 36 = .ok (.aload_n 0, 1) := by decide +kernel
theorem dL_holds_37 : decode cL_holds 37 = .ok (.iconst 4, 1) := by decide +kernel
theorem dL_holds_38 : decode cL_holds 38 = .ok (.invokestatic 56, 3) := by decide +kernel
theorem dL_holds_41 : decode cL_holds 41 = .ok (.iconst 1, 1) := by decide +kernel
theorem dL_holds_42 : decode cL_holds 42 = .ok (.iload_n 1, 1) := by decide +kernel
theorem dL_holds_43 : decode cL_holds 43 = .ok (.ishl, 1) := by decide +kernel
theorem dL_holds_44 : decode cL_holds 44 = .ok (.if_icmp .ge 7, 3) := by decide +kernel
theorem dL_holds_47 : decode cL_holds 47 = .ok (.iconst 1, 1) := by decide +kernel
theorem dL_holds_48 : decode cL_holds 48 = .ok (.goto 4, 3) := by decide +kernel
theorem dL_holds_51 : decode cL_holds 51 = .ok (.iconst 0, 1) := by decide +kernel
theorem dL_holds_52 : decode cL_holds 52 = .ok (.istore_n 3, 1) := by decide +kernel
theorem dL_holds_53 : decode cL_holds 53 = .ok (.iconst 0, 1) := by decide +kernel
theorem dL_holds_54 : decode cL_holds 54 = .ok (.istore 4, 2) := by decide +kernel
theorem dL_holds_56 : decode cL_holds 56 = .ok (.iload 4, 2) := by decide +kernel
theorem dL_holds_58 : decode cL_holds 58 = .ok (.iload_n 1, 1) := by decide +kernel
theorem dL_holds_59 : decode cL_holds 59 = .ok (.if_icmp .ge 93, 3) := by decide +kernel
theorem dL_holds_62 : decode cL_holds 62 = .ok (.iload_n 3, 1) := by decide +kernel
theorem dL_holds_63 : decode cL_holds 63 = .ok (.ifCond .eq 89, 3) := by decide +kernel
theorem dL_holds_66 : decode cL_holds 66 = .ok (.aload_n 0, 1) := by decide +kernel
theorem dL_holds_67 : decode cL_holds 67 = .ok (.iload 4, 2) := by decide +kernel
theorem dL_holds_69 : decode cL_holds 69 = .ok (.invokestatic 73, 3) := by decide +kernel
theorem dL_holds_72 : decode cL_holds 72 = .ok (.istore 5, 2) := by decide +kernel
theorem dL_holds_74 : decode cL_holds 74 = .ok (.iload_n 2, 1) := by decide +kernel
theorem dL_holds_75 : decode cL_holds 75 = .ok (.iload 5, 2) := by decide +kernel
theorem dL_holds_77 : decode cL_holds 77 = .ok (.ifCond .le 7, 3) := by decide +kernel
theorem dL_holds_80 : decode cL_holds 80 = .ok (.iconst 1, 1) := by decide +kernel
theorem dL_holds_81 : decode cL_holds 81 = .ok (.goto 4, 3) := by decide +kernel
theorem dL_holds_84 : decode cL_holds 84 = .ok (.iconst 0, 1) := by decide +kernel
theorem dL_holds_85 : decode cL_holds 85 = .ok (.iadd, 1) := by decide +kernel
theorem dL_holds_86 : decode cL_holds 86 = .ok (.istore_n 2, 1) := by decide +kernel
theorem dL_holds_87 : decode cL_holds 87 = .ok (.iload 5, 2) := by decide +kernel
theorem dL_holds_89 : decode cL_holds 89 = .ok (.ifCond .lt 55, 3) := by decide +kernel
theorem dL_holds_92 : decode cL_holds 92 = .ok (.iload 5, 2) := by decide +kernel
theorem dL_holds_94 : decode cL_holds 94 = .ok (.iconst 1, 1) := by decide +kernel
theorem dL_holds_95 : decode cL_holds 95 = .ok (.aload_n 0, 1) := by decide +kernel
theorem dL_holds_96 : decode cL_holds 96 = .ok (.iconst 0, 1) := by decide +kernel
theorem dL_holds_97 : decode cL_holds 97 = .ok (.invokestatic 56, 3) := by decide +kernel
theorem dL_holds_100 : decode cL_holds 100 = .ok (.aload_n 0, 1) := by decide +kernel
theorem dL_holds_101 : decode cL_holds 101 = .ok (.iconst 1, 1) := by decide +kernel
theorem dL_holds_102 : decode cL_holds 102 = .ok (.invokestatic 56, 3) := by decide +kernel
theorem dL_holds_105 : decode cL_holds 105 = .ok (.isub, 1) := by decide +kernel
theorem dL_holds_106 : decode cL_holds 106 = .ok (.ishl, 1) := by decide +kernel
theorem dL_holds_107 : decode cL_holds 107 = .ok (.if_icmp .gt 37, 3) := by decide +kernel
theorem dL_holds_110 : decode cL_holds 110 = .ok (.aload_n 0, 1) := by decide +kernel
theorem dL_holds_111 : decode cL_holds 111 = .ok (.iconst 1, 1) := by decide +kernel
theorem dL_holds_112 : decode cL_holds 112 = .ok (.iload 4, 2) := by decide +kernel
theorem dL_holds_114 : decode cL_holds 114 = .ok (.ishl, 1) := by decide +kernel
theorem dL_holds_115 : decode cL_holds 115 = .ok (.invokestatic 75, 3) := by decide +kernel
theorem dL_holds_118 : decode cL_holds 118 = .ok (.iconst 1, 1) := by decide +kernel
theorem dL_holds_119 : decode cL_holds 119 = .ok (.if_icmp .ne 7, 3) := by decide +kernel
theorem dL_holds_122 : decode cL_holds 122 = .ok (.iconst 1, 1) := by decide +kernel
theorem dL_holds_123 : decode cL_holds 123 = .ok (.goto 4, 3) := by decide +kernel
theorem dL_holds_126 : decode cL_holds 126 = .ok (.iconst 0, 1) := by decide +kernel
theorem dL_holds_127 : decode cL_holds 127 = .ok (.iload 5, 2) := by decide +kernel
theorem dL_holds_129 : decode cL_holds 129 = .ok (.ifCond .le 7, 3) := by decide +kernel
theorem dL_holds_132 : decode cL_holds 132 = .ok (.iconst 1, 1) := by decide +kernel
theorem dL_holds_133 : decode cL_holds 133 = .ok (.goto 4, 3) := by decide +kernel
theorem dL_holds_136 : decode cL_holds 136 = .ok (.iconst 0, 1) := by decide +kernel
theorem dL_holds_137 : decode cL_holds 137 = .ok (.if_icmp .ne 7, 3) := by decide +kernel
theorem dL_holds_140 : decode cL_holds 140 = .ok (.iconst 1, 1) := by decide +kernel
theorem dL_holds_141 : decode cL_holds 141 = .ok (.goto 4, 3) := by decide +kernel
theorem dL_holds_144 : decode cL_holds 144 = .ok (.iconst 0, 1) := by decide +kernel
theorem dL_holds_145 : decode cL_holds 145 = .ok (.istore_n 3, 1) := by decide +kernel
theorem dL_holds_146 : decode cL_holds 146 = .ok (.iinc 4 1, 3) := by decide +kernel
theorem dL_holds_149 : decode cL_holds 149 = .ok (.goto (-93), 3) := by decide +kernel
theorem dL_holds_152 : decode cL_holds 152 = .ok (.aload_n 0, 1) := by decide +kernel
theorem dL_holds_153 : decode cL_holds 153 = .ok (.iconst 1, 1) := by decide +kernel
theorem dL_holds_154 : decode cL_holds 154 = .ok (.iload_n 1, 1) := by decide +kernel
theorem dL_holds_155 : decode cL_holds 155 = .ok (.ishl, 1) := by decide +kernel
theorem dL_holds_156 : decode cL_holds 156 = .ok (.iconst 1, 1) := by decide +kernel
theorem dL_holds_157 : decode cL_holds 157 = .ok (.isub, 1) := by decide +kernel
theorem dL_holds_158 : decode cL_holds 158 = .ok (.invokestatic 75, 3) := by decide +kernel
theorem dL_holds_161 : decode cL_holds 161 = .ok (.istore 4, 2) := by decide +kernel
theorem dL_holds_163 : decode cL_holds 163 = .ok (.aload_n 0, 1) := by decide +kernel
theorem dL_holds_164 : decode cL_holds 164 = .ok (.invokevirtual 77, 3) := by decide +kernel
theorem dL_holds_167 : decode cL_holds 167 = .ok (.istore 5, 2) := by decide +kernel
theorem dL_holds_169 : decode cL_holds 169 = .ok (.iload_n 3, 1) := by decide +kernel
theorem dL_holds_170 : decode cL_holds 170 = .ok (.ifCond .eq 111, 3) := by decide +kernel
theorem dL_holds_173 : decode cL_holds 173 = .ok (.aload_n 0, 1) := by decide +kernel
theorem dL_holds_174 : decode cL_holds 174 = .ok (.invokevirtual 53, 3) := by decide +kernel
theorem dL_holds_177 : decode cL_holds 177 = .ok (.ifCond .ne 7, 3) := by decide +kernel
theorem dL_holds_180 : decode cL_holds 180 = .ok (.iconst 1, 1) := by decide +kernel
theorem dL_holds_181 : decode cL_holds 181 = .ok (.goto 4, 3) := by decide +kernel
theorem dL_holds_184 : decode cL_holds 184 = .ok (.iconst 0, 1) := by decide +kernel
theorem dL_holds_185 : decode cL_holds 185 = .ok (.iload 4, 2) := by decide +kernel
theorem dL_holds_187 : decode cL_holds 187 = .ok (.iconst 1, 1) := by decide +kernel
theorem dL_holds_188 : decode cL_holds 188 = .ok (.if_icmp .ne 7, 3) := by decide +kernel
theorem dL_holds_191 : decode cL_holds 191 = .ok (.iconst 1, 1) := by decide +kernel
theorem dL_holds_192 : decode cL_holds 192 = .ok (.goto 4, 3) := by decide +kernel
theorem dL_holds_195 : decode cL_holds 195 = .ok (.iconst 0, 1) := by decide +kernel
theorem dL_holds_196 : decode cL_holds 196 = .ok (.if_icmp .ne 85, 3) := by decide +kernel
theorem dL_holds_199 : decode cL_holds 199 = .ok (.iload 4, 2) := by decide +kernel
theorem dL_holds_201 : decode cL_holds 201 = .ok (.ifCond .eq 8, 3) := by decide +kernel
theorem dL_holds_204 : decode cL_holds 204 = .ok (.iload_n 2, 1) := by decide +kernel
theorem dL_holds_205 : decode cL_holds 205 = .ok (.iload_n 1, 1) := by decide +kernel
theorem dL_holds_206 : decode cL_holds 206 = .ok (.if_icmp .ne 75, 3) := by decide +kernel
theorem dL_holds_209 : decode cL_holds 209 = .ok (.iload_n 2, 1) := by decide +kernel
theorem dL_holds_210 : decode cL_holds 210 = .ok (.iload_n 1, 1) := by decide +kernel
theorem dL_holds_211 : decode cL_holds 211 = .ok (.if_icmp .eq 9, 3) := by decide +kernel
theorem dL_holds_214 : decode cL_holds 214 = .ok (.iload 5, 2) := by decide +kernel
theorem dL_holds_216 : decode cL_holds 216 = .ok (.iconst 1, 1) := by decide +kernel
theorem dL_holds_217 : decode cL_holds 217 = .ok (.if_icmp .ne 64, 3) := by decide +kernel
theorem dL_holds_220 : decode cL_holds 220 = .ok (.aload_n 0, 1) := by decide +kernel
theorem dL_holds_221 : decode cL_holds 221 = .ok (.iconst 0, 1) := by decide +kernel
theorem dL_holds_222 : decode cL_holds 222 = .ok (.invokestatic 75, 3) := by decide +kernel
theorem dL_holds_225 : decode cL_holds 225 = .ok (.iconst 1, 1) := by decide +kernel
theorem dL_holds_226 : decode cL_holds 226 = .ok (.if_icmp .ne 55, 3) := by decide +kernel
theorem dL_holds_229 : decode cL_holds 229 = .ok (.aload_n 0, 1) := by decide +kernel
theorem dL_holds_230 : decode cL_holds 230 = .ok (.invokevirtual 80, 3) := by decide +kernel
theorem dL_holds_233 : decode cL_holds 233 = .ok (.aload_n 0, 1) := by decide +kernel
theorem dL_holds_234 : decode cL_holds 234 = .ok (.iconst 3, 1) := by decide +kernel
theorem dL_holds_235 : decode cL_holds 235 = .ok (.invokestatic 56, 3) := by decide +kernel
theorem dL_holds_238 : decode cL_holds 238 = .ok (.aload_n 0, 1) := by decide +kernel
theorem dL_holds_239 : decode cL_holds 239 = .ok (.iconst 0, 1) := by decide +kernel
theorem dL_holds_240 : decode cL_holds 240 = .ok (.invokestatic 56, 3) := by decide +kernel
theorem dL_holds_243 : decode cL_holds 243 = .ok (.aload_n 0, 1) := by decide +kernel
theorem dL_holds_244 : decode cL_holds 244 = .ok (.iconst 1, 1) := by decide +kernel
theorem dL_holds_245 : decode cL_holds 245 = .ok (.invokestatic 56, 3) := by decide +kernel
theorem dL_holds_248 : decode cL_holds 248 = .ok (.isub, 1) := by decide +kernel
theorem dL_holds_249 : decode cL_holds 249 = .ok (.imul, 1) := by decide +kernel
theorem dL_holds_250 : decode cL_holds 250 = .ok (.if_icmp .gt 31, 3) := by decide +kernel
theorem dL_holds_253 : decode cL_holds 253 = .ok (.iload 5, 2) := by decide +kernel
theorem dL_holds_255 : decode cL_holds 255 = .ok (.ifCond .ge 7, 3) := by decide +kernel
theorem dL_holds_258 : decode cL_holds 258 = .ok (.iconst 1, 1) := by decide +kernel
theorem dL_holds_259 : decode cL_holds 259 = .ok (.goto 4, 3) := by decide +kernel
theorem dL_holds_262 : decode cL_holds 262 = .ok (.iconst 0, 1) := by decide +kernel
theorem dL_holds_263 : decode cL_holds 263 = .ok (.iload 4, 2) := by decide +kernel
theorem dL_holds_265 : decode cL_holds 265 = .ok (.iconst 1, 1) := by decide +kernel
theorem dL_holds_266 : decode cL_holds 266 = .ok (.if_icmp .ne 7, 3) := by decide +kernel
theorem dL_holds_269 : decode cL_holds 269 = .ok (.iconst 1, 1) := by decide +kernel
theorem dL_holds_270 : decode cL_holds 270 = .ok (.goto 4, 3) := by decide +kernel
theorem dL_holds_273 : decode cL_holds 273 = .ok (.iconst 0, 1) := by decide +kernel
theorem dL_holds_274 : decode cL_holds 274 = .ok (.if_icmp .ne 7, 3) := by decide +kernel
theorem dL_holds_277 : decode cL_holds 277 = .ok (.iconst 1, 1) := by decide +kernel
theorem dL_holds_278 : decode cL_holds 278 = .ok (.goto 4, 3) := by decide +kernel
theorem dL_holds_281 : decode cL_holds 281 = .ok (.iconst 0, 1) := by decide +kernel
theorem dL_holds_282 : decode cL_holds 282 = .ok (.ireturn, 1) := by decide +kernel
theorem dL_learns_0 : decode cL_learns 0 = .ok (.aload_n 0, 1) := by decide +kernel
theorem dL_learns_1 : decode cL_learns 1 = .ok (.invokevirtual 53, 3) := by decide +kernel
theorem dL_learns_4 : decode cL_learns 4 = .ok (.istore_n 1, 1) := by decide +kernel
theorem dL_learns_5 : decode cL_learns 5 = .ok (.aload_n 0, 1) := by decide +kernel
theorem dL_learns_6 : decode cL_learns 6 = .ok (.invokevirtual 83, 3) := by decide +kernel
theorem dL_learns_9 : decode cL_learns 9 = .ok (.istore_n 2, 1) := by decide +kernel
theorem dL_learns_10 : decode cL_learns 10 = .ok (.aload_n 0, 1) := by decide +kernel
theorem dL_learns_11 : decode cL_learns 11 = .ok (.iconst 4, 1) := by decide +kernel
theorem dL_learns_12 : decode cL_learns 12 = .ok (.invokestatic 56, 3) := by decide +kernel
theorem dL_learns_15 : decode cL_learns 15 = .ok (.istore_n 3, 1) := by decide +kernel
theorem dL_learns_16 : decode cL_learns 16 = .ok (.aload_n 0, 1) := by decide +kernel
theorem dL_learns_17 : decode cL_learns 17 = .ok (.invokevirtual 86, 3) := by decide +kernel
theorem dL_learns_20 : decode cL_learns 20 = .ok (.istore 4, 2) := by decide +kernel
theorem dL_learns_22 : decode cL_learns 22 = .ok (.iload_n 2, 1) := by decide +kernel
theorem dL_learns_23 : decode cL_learns 23 = .ok (.ifCond .lt 53, 3) := by decide +kernel
theorem dL_learns_26 : decode cL_learns 26 = .ok (.iload_n 2, 1) := by decide +kernel
theorem dL_learns_27 : decode cL_learns 27 = .ok (.bipush 8, 2) := by decide +kernel
theorem dL_learns_29 : decode cL_learns 29 = .ok (.if_icmp .gt 47, 3) := by decide +kernel
theorem dL_learns_32 : decode cL_learns 32 = .ok (.iload 4, 2) := by decide +kernel
theorem dL_learns_34 : decode cL_learns 34 = .ok (.iload_n 1, 1) := by decide +kernel
theorem dL_learns_35 : decode cL_learns 35 = .ok (.ifCond .ne 8, 3) := by decide +kernel
theorem dL_learns_38 : decode cL_learns 38 = .ok (.bipush (-2), 2) := by decide +kernel
theorem dL_learns_40 : decode cL_learns 40 = .ok (.goto 4, 3) := by decide +kernel
theorem dL_learns_43 : decode cL_learns 43 = .ok (.iconst (-1), 1) := by decide +kernel
theorem dL_learns_44 : decode cL_learns 44 = .ok (.if_icmp .ne 32, 3) := by decide +kernel
theorem dL_learns_47 : decode cL_learns 47 = .ok (.aload_n 0, 1) := by decide +kernel
theorem dL_learns_48 : decode cL_learns 48 = .ok (.iconst 4, 1) := by decide +kernel
theorem dL_learns_49 : decode cL_learns 49 = .ok (.invokestatic 56, 3) := by decide +kernel
theorem dL_learns_52 : decode cL_learns 52 = .ok (.iload_n 3, 1) := by decide +kernel
theorem dL_learns_53 : decode cL_learns 53 = .ok (.if_icmp .ne 23, 3) := by decide +kernel
theorem dL_learns_56 : decode cL_learns 56 = .ok (.iload_n 1, 1) := by decide +kernel
theorem dL_learns_57 : decode cL_learns 57 = .ok (.ifCond .eq 15, 3) := by decide +kernel
theorem dL_learns_60 : decode cL_learns 60 = .ok (.aload_n 0, 1) := by decide +kernel
theorem dL_learns_61 : decode cL_learns 61 = .ok (.iconst 3, 1) := by decide +kernel
theorem dL_learns_62 : decode cL_learns 62 = .ok (.invokestatic 56, 3) := by decide +kernel
theorem dL_learns_65 : decode cL_learns 65 = .ok (.aload_n 0, 1) := by decide +kernel
theorem dL_learns_66 : decode cL_learns 66 = .ok (.invokevirtual 77, 3) := by decide +kernel
theorem dL_learns_69 : decode cL_learns 69 = .ok (.if_icmp .lt 7, 3) := by decide +kernel
theorem dL_learns_72 : decode cL_learns 72 = .ok (.iconst 1, 1) := by decide +kernel
theorem dL_learns_73 : decode cL_learns 73 = .ok (.goto 4, 3) := by decide +kernel
theorem dL_learns_76 : decode cL_learns 76 = .ok (.iconst 0, 1) := by decide +kernel
theorem dL_learns_77 : decode cL_learns 77 = .ok (.ireturn, 1) := by decide +kernel
theorem dL_law_0 : decode cL_law 0 = .ok (.new 9, 3) := by decide +kernel
theorem dL_law_3 : decode cL_law 3 = .ok (.dup, 1) := by decide +kernel
theorem dL_law_4 : decode cL_law 4 = .ok (.invokespecial 89, 3) := by decide +kernel
theorem dL_law_7 : decode cL_law 7 = .ok (.astore_n 1, 1) := by decide +kernel
theorem dL_law_8 : decode cL_law 8 = .ok (.aload_n 1, 1) := by decide +kernel
theorem dL_law_9 : decode cL_law 9 = .ok (.invokestatic 90, 3) := by decide +kernel
theorem dL_law_12 : decode cL_law 12 = .ok (.istore_n 2, 1) := by decide +kernel
theorem dL_law_13 : decode cL_law 13 = .ok (.iconst 1, 1) := by decide +kernel
theorem dL_law_14 : decode cL_law 14 = .ok (.aload_n 0, 1) := by decide +kernel
theorem dL_law_15 : decode cL_law 15 = .ok (.iconst 0, 1) := by decide +kernel
theorem dL_law_16 : decode cL_law 16 = .ok (.invokestatic 94, 3) := by decide +kernel
theorem dL_law_19 : decode cL_law 19 = .ok (.bipush 6, 2) := by decide +kernel
theorem dL_law_21 : decode cL_law 21 = .ok (.irem, 1) := by decide +kernel
theorem dL_law_22 : decode cL_law 22 = .ok (.iadd, 1) := by decide +kernel
theorem dL_law_23 : decode cL_law 23 = .ok (.istore_n 3, 1) := by decide +kernel
theorem dL_law_24 : decode cL_law 24 = .ok (.iconst 0, 1) := by decide +kernel
theorem dL_law_25 : decode cL_law 25 = .ok (.istore 4, 2) := by decide +kernel
theorem dL_law_27 : decode cL_law 27 = .ok (.iload 4, 2) := by decide +kernel
theorem dL_law_29 : decode cL_law 29 = .ok (.iload_n 3, 1) := by decide +kernel
theorem dL_law_30 : decode cL_law 30 = .ok (.if_icmp .ge 87, 3) := by decide +kernel
theorem dL_law_33 : decode cL_law 33 = .ok (.iload_n 2, 1) := by decide +kernel
theorem dL_law_34 : decode cL_law 34 = .ok (.ifCond .eq 83, 3) := by decide +kernel
theorem dL_law_37 : decode cL_law 37 = .ok (.aload_n 1, 1) := by decide +kernel
theorem dL_law_38 : decode cL_law 38 = .ok (.iconst 0, 1) := by decide +kernel
theorem dL_law_39 : decode cL_law 39 = .ok (.invokestatic 56, 3) := by decide +kernel
theorem dL_law_42 : decode cL_law 42 = .ok (.istore 5, 2) := by decide +kernel
theorem dL_law_44 : decode cL_law 44 = .ok (.aload_n 1, 1) := by decide +kernel
theorem dL_law_45 : decode cL_law 45 = .ok (.aload_n 0, 1) := by decide +kernel
theorem dL_law_46 : decode cL_law 46 = .ok (.iconst 1, 1) := by decide +kernel
theorem dL_law_47 : decode cL_law 47 = .ok (.iload 4, 2) := by decide +kernel
theorem dL_law_49 : decode cL_law 49 = .ok (.iadd, 1) := by decide +kernel
theorem dL_law_50 : decode cL_law 50 = .ok (.invokestatic 94, 3) := by decide +kernel
theorem dL_law_53 : decode cL_law 53 = .ok (.iconst 5, 1) := by decide +kernel
theorem dL_law_54 : decode cL_law 54 = .ok (.irem, 1) := by decide +kernel
theorem dL_law_55 : decode cL_law 55 = .ok (.iconst 2, 1) := by decide +kernel
theorem dL_law_56 : decode cL_law 56 = .ok (.if_icmp .le 7, 3) := by decide +kernel
theorem dL_law_59 : decode cL_law 59 = .ok (.iconst 1, 1) := by decide +kernel
theorem dL_law_60 : decode cL_law 60 = .ok (.goto 4, 3) := by decide +kernel
theorem dL_law_63 : decode cL_law 63 = .ok (.iconst 0, 1) := by decide +kernel
theorem dL_law_64 : decode cL_law 64 = .ok (.invokestatic 98, 3) := by decide +kernel
theorem dL_law_67 : decode cL_law 67 = .ok (.istore 6, 2) := by decide +kernel
theorem dL_law_69 : decode cL_law 69 = .ok (.iload 6, 2) := by decide +kernel
theorem dL_law_71 : decode cL_law 71 = .ok (.ifCond .ge 27, 3) := by decide +kernel
theorem dL_law_74 : decode cL_law 74 = .ok (.iload 6, 2) := by decide +kernel
theorem dL_law_76 : decode cL_law 76 = .ok (.ldc 16, 2) := by decide +kernel
theorem dL_law_78 : decode cL_law 78 = .ok (.if_icmp .ne 16, 3) := by decide +kernel
theorem dL_law_81 : decode cL_law 81 = .ok (.aload_n 1, 1) := by decide +kernel
theorem dL_law_82 : decode cL_law 82 = .ok (.iconst 1, 1) := by decide +kernel
theorem dL_law_83 : decode cL_law 83 = .ok (.invokestatic 56, 3) := by decide +kernel
theorem dL_law_86 : decode cL_law 86 = .ok (.iconst 3, 1) := by decide +kernel
theorem dL_law_87 : decode cL_law 87 = .ok (.if_icmp .ne 7, 3) := by decide +kernel
theorem dL_law_90 : decode cL_law 90 = .ok (.iconst 1, 1) := by decide +kernel
theorem dL_law_91 : decode cL_law 91 = .ok (.goto 19, 3) := by decide +kernel
theorem dL_law_94 : decode cL_law 94 = .ok (.iconst 0, 1) := by decide +kernel
theorem dL_law_95 : decode cL_law 95 = .ok (.goto 15, 3) := by decide +kernel
theorem dL_law_98 : decode cL_law 98 = .ok (.iload 6, 2) := by decide +kernel
theorem dL_law_100 : decode cL_law 100 = .ok (.iload 5, 2) := by decide +kernel
theorem dL_law_102 : decode cL_law 102 = .ok (.if_icmp .ne 7, 3) := by decide +kernel
theorem dL_law_105 : decode cL_law 105 = .ok (.iconst 1, 1) := by decide +kernel
theorem dL_law_106 : decode cL_law 106 = .ok (.goto 4, 3) := by decide +kernel
theorem dL_law_109 : decode cL_law 109 = .ok (.iconst 0, 1) := by decide +kernel
theorem dL_law_110 : decode cL_law 110 = .ok (.istore_n 2, 1) := by decide +kernel
theorem dL_law_111 : decode cL_law 111 = .ok (.iinc 4 1, 3) := by decide +kernel
theorem dL_law_114 : decode cL_law 114 = .ok (.goto (-87), 3) := by decide +kernel
theorem dL_law_117 : decode cL_law 117 = .ok (.iconst 1, 1) := by decide +kernel
theorem dL_law_118 : decode cL_law 118 = .ok (.aload_n 1, 1) := by decide +kernel
theorem dL_law_119 : decode cL_law 119 = .ok (.iconst 0, 1) := by decide +kernel
theorem dL_law_120 : decode cL_law 120 = .ok (.invokestatic 56, 3) := by decide +kernel
theorem dL_law_123 : decode cL_law 123 = .ok (.ishl, 1) := by decide +kernel
theorem dL_law_124 : decode cL_law 124 = .ok (.istore 4, 2) := by decide +kernel
theorem dL_law_126 : decode cL_law 126 = .ok (.iconst 0, 1) := by decide +kernel
theorem dL_law_127 : decode cL_law 127 = .ok (.istore 5, 2) := by decide +kernel
theorem dL_law_129 : decode cL_law 129 = .ok (.iload 5, 2) := by decide +kernel
theorem dL_law_131 : decode cL_law 131 = .ok (.bipush 14, 2) := by decide +kernel
theorem dL_law_133 : decode cL_law 133 = .ok (.if_icmp .ge 206, 3) := by decide +kernel
theorem dL_law_136 : decode cL_law 136 = .ok (.iload_n 2, 1) := by decide +kernel
theorem dL_law_137 : decode cL_law 137 = .ok (.ifCond .eq 202, 3) := by decide +kernel
theorem dL_law_140 : decode cL_law 140 = .ok (.aload_n 0, 1) := by decide +kernel
theorem dL_law_141 : decode cL_law 141 = .ok (.bipush 7, 2) := by decide +kernel
theorem dL_law_143 : decode cL_law 143 = .ok (.iload 5, 2) := by decide +kernel
theorem dL_law_145 : decode cL_law 145 = .ok (.iadd, 1) := by decide +kernel
theorem dL_law_146 : decode cL_law 146 = .ok (.invokestatic 94, 3) := by decide +kernel
theorem dL_law_149 : decode cL_law 149 = .ok (.istore 6, 2) := by decide +kernel
theorem dL_law_151 : decode cL_law 151 = .ok (.iload 6, 2) := by decide +kernel
theorem dL_law_153 : decode cL_law 153 = .ok (.iload 4, 2) := by decide +kernel
theorem dL_law_155 : decode cL_law 155 = .ok (.irem, 1) := by decide +kernel
theorem dL_law_156 : decode cL_law 156 = .ok (.iload 6, 2) := by decide +kernel
theorem dL_law_158 : decode cL_law 158 = .ok (.bipush 64, 2) := by decide +kernel
theorem dL_law_160 : decode cL_law 160 = .ok (.idiv, 1) := by decide +kernel
theorem dL_law_161 : decode cL_law 161 = .ok (.iload 4, 2) := by decide +kernel
theorem dL_law_163 : decode cL_law 163 = .ok (.irem, 1) := by decide +kernel
theorem dL_law_164 : decode cL_law 164 = .ok (.iand, 1) := by decide +kernel
theorem dL_law_165 : decode cL_law 165 = .ok (.istore 7, 2) := by decide +kernel
theorem dL_law_167 : decode cL_law 167 = .ok (.iload 6, 2) := by decide +kernel
theorem dL_law_169 : decode cL_law 169 = .ok (.sipush 4096, 3) := by decide +kernel
theorem dL_law_172 : decode cL_law 172 = .ok (.idiv, 1) := by decide +kernel
theorem dL_law_173 : decode cL_law 173 = .ok (.iload 4, 2) := by decide +kernel
theorem dL_law_175 : decode cL_law 175 = .ok (.irem, 1) := by decide +kernel
theorem dL_law_176 : decode cL_law 176 = .ok (.iload 7, 2) := by decide +kernel
theorem dL_law_178 : decode cL_law 178 = .ok (.iconst (-1), 1) := by decide +kernel
theorem dL_law_179 : decode cL_law 179 = .ok (.ixor, 1) := by decide +kernel
theorem dL_law_180 : decode cL_law 180 = .ok (.iand, 1) := by decide +kernel
theorem dL_law_181 : decode cL_law 181 = .ok (.istore 8, 2) := by decide +kernel
theorem dL_law_183 : decode cL_law 183 = .ok (.aload_n 1, 1) := by decide +kernel
theorem dL_law_184 : decode cL_law 184 = .ok (.iconst 2, 1) := by decide +kernel
theorem dL_law_185 : decode cL_law 185 = .ok (.invokestatic 56, 3) := by decide +kernel
theorem dL_law_188 : decode cL_law 188 = .ok (.istore 9, 2) := by decide +kernel
theorem dL_law_190 : decode cL_law 190 = .ok (.aload_n 1, 1) := by decide +kernel
theorem dL_law_191 : decode cL_law 191 = .ok (.invokevirtual 53, 3) := by decide +kernel
theorem dL_law_194 : decode cL_law 194 = .ok (.istore 10, 2) := by decide +kernel
theorem dL_law_196 : decode cL_law 196 = .ok (.aload_n 1, 1) := by decide +kernel
theorem dL_law_197 : decode cL_law 197 = .ok (.iload 7, 2) := by decide +kernel
theorem dL_law_199 : decode cL_law 199 = .ok (.iload 8, 2) := by decide +kernel
theorem dL_law_201 : decode cL_law 201 = .ok (.invokestatic 102, 3) := by decide +kernel
theorem dL_law_204 : decode cL_law 204 = .ok (.iload 9, 2) := by decide +kernel
theorem dL_law_206 : decode cL_law 206 = .ok (.if_icmp .ne 35, 3) := by decide +kernel
theorem dL_law_209 : decode cL_law 209 = .ok (.aload_n 1, 1) := by decide +kernel
theorem dL_law_210 : decode cL_law 210 = .ok (.invokestatic 90, 3) := by decide +kernel
theorem dL_law_213 : decode cL_law 213 = .ok (.ifCond .eq 28, 3) := by decide +kernel
theorem dL_law_216 : decode cL_law 216 = .ok (.iload 10, 2) := by decide +kernel
theorem dL_law_218 : decode cL_law 218 = .ok (.ifCond .eq 11, 3) := by decide +kernel
theorem dL_law_221 : decode cL_law 221 = .ok (.aload_n 1, 1) := by decide +kernel
theorem dL_law_222 : decode cL_law 222 = .ok (.invokevirtual 53, 3) := by decide +kernel
theorem dL_law_225 : decode cL_law 225 = .ok (.iconst 1, 1) := by decide +kernel
theorem dL_law_226 : decode cL_law 226 = .ok (.if_icmp .ne 15, 3) := by decide +kernel
theorem dL_law_229 : decode cL_law 229 = .ok (.aload_n 1, 1) := by decide +kernel
theorem dL_law_230 : decode cL_law 230 = .ok (.iconst 3, 1) := by decide +kernel
theorem dL_law_231 : decode cL_law 231 = .ok (.invokestatic 56, 3) := by decide +kernel
theorem dL_law_234 : decode cL_law 234 = .ok (.ifCond .ne 7, 3) := by decide +kernel
theorem dL_law_237 : decode cL_law 237 = .ok (.iconst 1, 1) := by decide +kernel
theorem dL_law_238 : decode cL_law 238 = .ok (.goto 4, 3) := by decide +kernel
theorem dL_law_241 : decode cL_law 241 = .ok (.iconst 0, 1) := by decide +kernel
theorem dL_law_242 : decode cL_law 242 = .ok (.istore_n 2, 1) := by decide +kernel
theorem dL_law_243 : decode cL_law 243 = .ok (.iload_n 2, 1) := by decide +kernel
theorem dL_law_244 : decode cL_law 244 = .ok (.ifCond .eq 36, 3) := by decide +kernel
theorem dL_law_247 : decode cL_law 247 = .ok (.iload 6, 2) := by decide +kernel
theorem dL_law_249 : decode cL_law 249 = .ok (.bipush 16, 2) := by decide +kernel
theorem dL_law_251 : decode cL_law 251 = .ok (.idiv, 1) := by decide +kernel
theorem dL_law_252 : decode cL_law 252 = .ok (.iconst 3, 1) := by decide +kernel
theorem dL_law_253 : decode cL_law 253 = .ok (.irem, 1) := by decide +kernel
theorem dL_law_254 : decode cL_law 254 = .ok (.ifCond .gt 10, 3) := by decide +kernel
theorem dL_law_257 : decode cL_law 257 = .ok (.aload_n 1, 1) := by decide +kernel
theorem dL_law_258 : decode cL_law 258 = .ok (.invokestatic 105, 3) := by decide +kernel
theorem dL_law_261 : decode cL_law 261 = .ok (.ifCond .eq 19, 3) := by decide +kernel
theorem dL_law_264 : decode cL_law 264 = .ok (.aload_n 1, 1) := by decide +kernel
theorem dL_law_265 : decode cL_law 265 = .ok (.iload 6, 2) := by decide +kernel
theorem dL_law_267 : decode cL_law 267 = .ok (.bipush 32, 2) := by decide +kernel
theorem dL_law_269 : decode cL_law 269 = .ok (.idiv, 1) := by decide +kernel
theorem dL_law_270 : decode cL_law 270 = .ok (.invokestatic 108, 3) := by decide +kernel
theorem dL_law_273 : decode cL_law 273 = .ok (.ifCond .eq 7, 3) := by decide +kernel
theorem dL_law_276 : decode cL_law 276 = .ok (.iconst 1, 1) := by decide +kernel
theorem dL_law_277 : decode cL_law 277 = .ok (.goto 4, 3) := by decide +kernel
theorem dL_law_280 : decode cL_law 280 = .ok (.iconst 0, 1) := by decide +kernel
theorem dL_law_281 : decode cL_law 281 = .ok (.istore_n 2, 1) := by decide +kernel
theorem dL_law_282 : decode cL_law 282 = .ok (.iload_n 2, 1) := by decide +kernel
theorem dL_law_283 : decode cL_law 283 = .ok (.ifCond .eq 50, 3) := by decide +kernel
theorem dL_law_286 : decode cL_law 286 = .ok (.iload 6, 2) := by decide +kernel
theorem dL_law_288 : decode cL_law 288 = .ok (.bipush 48, 2) := by decide +kernel
theorem dL_law_290 : decode cL_law 290 = .ok (.idiv, 1) := by decide +kernel
theorem dL_law_291 : decode cL_law 291 = .ok (.iconst 5, 1) := by decide +kernel
theorem dL_law_292 : decode cL_law 292 = .ok (.irem, 1) := by decide +kernel
theorem dL_law_293 : decode cL_law 293 = .ok (.ifCond .ne 40, 3) := by decide +kernel
theorem dL_law_296 : decode cL_law 296 = .ok (.aload_n 1, 1) := by decide +kernel
theorem dL_law_297 : decode cL_law 297 = .ok (.iload 6, 2) := by decide +kernel
theorem dL_law_299 : decode cL_law 299 = .ok (.iload 9, 2) := by decide +kernel
theorem dL_law_301 : decode cL_law 301 = .ok (.iconst 1, 1) := by decide +kernel
theorem dL_law_302 : decode cL_law 302 = .ok (.iadd, 1) := by decide +kernel
theorem dL_law_303 : decode cL_law 303 = .ok (.irem, 1) := by decide +kernel
theorem dL_law_304 : decode cL_law 304 = .ok (.invokestatic 112, 3) := by decide +kernel
theorem dL_law_307 : decode cL_law 307 = .ok (.iload 9, 2) := by decide +kernel
theorem dL_law_309 : decode cL_law 309 = .ok (.if_icmp .ne 22, 3) := by decide +kernel
theorem dL_law_312 : decode cL_law 312 = .ok (.aload_n 1, 1) := by decide +kernel
theorem dL_law_313 : decode cL_law 313 = .ok (.iconst 3, 1) := by decide +kernel
theorem dL_law_314 : decode cL_law 314 = .ok (.invokestatic 56, 3) := by decide +kernel
theorem dL_law_317 : decode cL_law 317 = .ok (.ifCond .ne 14, 3) := by decide +kernel
theorem dL_law_320 : decode cL_law 320 = .ok (.aload_n 1, 1) := by decide +kernel
theorem dL_law_321 : decode cL_law 321 = .ok (.invokestatic 90, 3) := by decide +kernel
theorem dL_law_324 : decode cL_law 324 = .ok (.ifCond .eq 7, 3) := by decide +kernel
theorem dL_law_327 : decode cL_law 327 = .ok (.iconst 1, 1) := by decide +kernel
theorem dL_law_328 : decode cL_law 328 = .ok (.goto 4, 3) := by decide +kernel
theorem dL_law_331 : decode cL_law 331 = .ok (.iconst 0, 1) := by decide +kernel
theorem dL_law_332 : decode cL_law 332 = .ok (.istore_n 2, 1) := by decide +kernel
theorem dL_law_333 : decode cL_law 333 = .ok (.iinc 5 1, 3) := by decide +kernel
theorem dL_law_336 : decode cL_law 336 = .ok (.goto (-207), 3) := by decide +kernel
theorem dL_law_339 : decode cL_law 339 = .ok (.aload_n 1, 1) := by decide +kernel
theorem dL_law_340 : decode cL_law 340 = .ok (.iconst 2, 1) := by decide +kernel
theorem dL_law_341 : decode cL_law 341 = .ok (.invokestatic 56, 3) := by decide +kernel
theorem dL_law_344 : decode cL_law 344 = .ok (.istore 5, 2) := by decide +kernel
theorem dL_law_346 : decode cL_law 346 = .ok (.iload_n 2, 1) := by decide +kernel
theorem dL_law_347 : decode cL_law 347 = .ok (.ifCond .eq 46, 3) := by decide +kernel
theorem dL_law_350 : decode cL_law 350 = .ok (.aload_n 1, 1) := by decide +kernel
theorem dL_law_351 : decode cL_law 351 = .ok (.invokevirtual 115, 3) := by decide +kernel
theorem dL_law_354 : decode cL_law 354 = .ok (.iload 4, 2) := by decide +kernel
theorem dL_law_356 : decode cL_law 356 = .ok (.iconst 1, 1) := by decide +kernel
theorem dL_law_357 : decode cL_law 357 = .ok (.isub, 1) := by decide +kernel
theorem dL_law_358 : decode cL_law 358 = .ok (.invokestatic 70, 3) := by decide +kernel
theorem dL_law_361 : decode cL_law 361 = .ok (.if_icmp .ne 32, 3) := by decide +kernel
theorem dL_law_364 : decode cL_law 364 = .ok (.aload_n 1, 1) := by decide +kernel
theorem dL_law_365 : decode cL_law 365 = .ok (.iconst 2, 1) := by decide +kernel
theorem dL_law_366 : decode cL_law 366 = .ok (.invokestatic 56, 3) := by decide +kernel
theorem dL_law_369 : decode cL_law 369 = .ok (.ifCond .ne 24, 3) := by decide +kernel
theorem dL_law_372 : decode cL_law 372 = .ok (.aload_n 1, 1) := by decide +kernel
theorem dL_law_373 : decode cL_law 373 = .ok (.invokestatic 118, 3) := by decide +kernel
theorem dL_law_376 : decode cL_law 376 = .ok (.ifCond .lt 17, 3) := by decide +kernel
theorem dL_law_379 : decode cL_law 379 = .ok (.aload_n 1, 1) := by decide +kernel
theorem dL_law_380 : decode cL_law 380 = .ok (.iconst 2, 1) := by decide +kernel
theorem dL_law_381 : decode cL_law 381 = .ok (.invokestatic 56, 3) := by decide +kernel
theorem dL_law_384 : decode cL_law 384 = .ok (.iload 5, 2) := by decide +kernel
theorem dL_law_386 : decode cL_law 386 = .ok (.if_icmp .ne 7, 3) := by decide +kernel
theorem dL_law_389 : decode cL_law 389 = .ok (.iconst 1, 1) := by decide +kernel
theorem dL_law_390 : decode cL_law 390 = .ok (.goto 4, 3) := by decide +kernel
theorem dL_law_393 : decode cL_law 393 = .ok (.iconst 0, 1) := by decide +kernel
theorem dL_law_394 : decode cL_law 394 = .ok (.ireturn, 1) := by decide +kernel
end
section
/-! PURE WORDS: booleans as ints, guards, binds, names -/
def bI (b : Bool) : Int32 := match b with
  | true => 1
  | false => 0
theorem bI_nar (b : Bool) : narrow .boolean (.int (bI b)) = .int (bI b) := by cases b <;> rfl
theorem bI_fit (b : Bool) : fits .boolean (.int (bI b)) = true := by cases b <;> rfl
theorem bI_t {b : Bool} (h : ¬ bI b = 0) : b = true := by
  cases b
  · exact absurd rfl h
  · rfl
theorem bI_f {b : Bool} (h : bI b = 0) : ¬ b = true := by
  cases b
  · simp
  · exact absurd h (by decide)
theorem bI_vp (b : Bool) : vp_nar .boolean (bI b) = bI b := by cases b <;> rfl
def gd {α : Type} (c : Bool) (x : Option α) : Option α := match c with
  | true => x
  | false => none
theorem gd_some {α : Type} {c : Bool} {x : Option α} {o : α} (h : gd c x = some o) : c = true ∧ x = some o := by
  cases c
  · cases h
  · exact ⟨rfl, h⟩
theorem gd_t {α : Type} {c : Bool} {x : Option α} (h : c = true) : gd c x = x := by rw [h]; rfl
def inb (i : Int32) (n : Nat) : Bool := decide (¬ (i < 0 ∨ n ≤ i.toNatClampNeg))
theorem inb_in {i : Int32} {n : Nat} (h : inb i n = true) : vp_in i n := (of_decide_eq_true h : ¬ (i < 0 ∨ n ≤ i.toNatClampNeg))
theorem inb_nI {j n : Nat} (h : j < n) (hn : n < 2 ^ 31) : inb (nI j) n = true := decide_eq_true (show ¬ (nI j < 0 ∨ n ≤ (nI j).toNatClampNeg) from vp_in_nI h hn)
def nmv {α β : Type} (a : α) (f : α → β) : β := f a
theorem nmv_at {α β : Type} {a x : α} {f : α → Option β} {o : Option β} (e : x = a) (h : nmv a f = o) : f x = o := by rw [e]; exact h
def updB (w : Nat → Bool) (k : Nat) (b : Bool) : Nat → Bool := fun j => if j = k then b else w j
theorem updB_eq (w : Nat → Bool) (k : Nat) (b : Bool) : upd (fun j => bI (w j)) k (vp_nar .boolean (bI b)) = fun j => bI (updB w k b j) := by
  rw [bI_vp]
  funext j
  by_cases h : j = k
  · rw [h]; simp [pk_us, updB]
  · simp [pk_un h, updB, h]
theorem ite_t {α : Type} {c : Prop} {i : Decidable c} {x y z : α} (h : c) (e : (@ite α c i x y) = z) : x = z := (if_pos h).symm.trans e
theorem ite_f {α : Type} {c : Prop} {i : Decidable c} {x y z : α} (h : ¬ c) (e : (@ite α c i x y) = z) : y = z := (if_neg h).symm.trans e
def ob0 {β : Type} (x : Option Unit) (k : Option β) : Option β := match x with
  | none => none
  | some _ => k
theorem ob0_some {β : Type} {x : Option Unit} {k : Option β} {o : β} (h : ob0 x k = some o) : x = some () ∧ k = some o := by
  cases x
  · cases h
  · exact ⟨rfl, h⟩
def ob1 {α β : Type} (x : Option α) (k : α → Option β) : Option β := match x with
  | none => none
  | some a => k a
theorem ob1_some {α β : Type} {x : Option α} {k : α → Option β} {o : β} (h : ob1 x k = some o) : ∃ a, x = some a ∧ k a = some o := by
  cases x
  · cases h
  · exact ⟨_, rfl, h⟩
def ob2 {α1 α2 β : Type} (x : Option (α1 × α2)) (k : α1 → α2 → Option β) : Option β := match x with
  | none => none
  | some (a1, a2) => k a1 a2
theorem ob2_some {α1 α2 β : Type} {x : Option (α1 × α2)} {k : α1 → α2 → Option β} {o : β} (h : ob2 x k = some o) : ∃ a1 a2, x = some (a1, a2) ∧ k a1 a2 = some o := by
  cases x
  · cases h
  · exact ⟨_, _, rfl, h⟩
def ob3 {α1 α2 α3 β : Type} (x : Option (α1 × α2 × α3)) (k : α1 → α2 → α3 → Option β) : Option β := match x with
  | none => none
  | some (a1, a2, a3) => k a1 a2 a3
theorem ob3_some {α1 α2 α3 β : Type} {x : Option (α1 × α2 × α3)} {k : α1 → α2 → α3 → Option β} {o : β} (h : ob3 x k = some o) : ∃ a1 a2 a3, x = some (a1, a2, a3) ∧ k a1 a2 a3 = some o := by
  cases x
  · cases h
  · exact ⟨_, _, _, rfl, h⟩
def ob4 {α1 α2 α3 α4 β : Type} (x : Option (α1 × α2 × α3 × α4)) (k : α1 → α2 → α3 → α4 → Option β) : Option β := match x with
  | none => none
  | some (a1, a2, a3, a4) => k a1 a2 a3 a4
theorem ob4_some {α1 α2 α3 α4 β : Type} {x : Option (α1 × α2 × α3 × α4)} {k : α1 → α2 → α3 → α4 → Option β} {o : β} (h : ob4 x k = some o) : ∃ a1 a2 a3 a4, x = some (a1, a2, a3, a4) ∧ k a1 a2 a3 a4 = some o := by
  cases x
  · cases h
  · exact ⟨_, _, _, _, rfl, h⟩
def ob5 {α1 α2 α3 α4 α5 β : Type} (x : Option (α1 × α2 × α3 × α4 × α5)) (k : α1 → α2 → α3 → α4 → α5 → Option β) : Option β := match x with
  | none => none
  | some (a1, a2, a3, a4, a5) => k a1 a2 a3 a4 a5
theorem ob5_some {α1 α2 α3 α4 α5 β : Type} {x : Option (α1 × α2 × α3 × α4 × α5)} {k : α1 → α2 → α3 → α4 → α5 → Option β} {o : β} (h : ob5 x k = some o) : ∃ a1 a2 a3 a4 a5, x = some (a1, a2, a3, a4, a5) ∧ k a1 a2 a3 a4 a5 = some o := by
  cases x
  · cases h
  · exact ⟨_, _, _, _, _, rfl, h⟩
def ob6 {α1 α2 α3 α4 α5 α6 β : Type} (x : Option (α1 × α2 × α3 × α4 × α5 × α6)) (k : α1 → α2 → α3 → α4 → α5 → α6 → Option β) : Option β := match x with
  | none => none
  | some (a1, a2, a3, a4, a5, a6) => k a1 a2 a3 a4 a5 a6
theorem ob6_some {α1 α2 α3 α4 α5 α6 β : Type} {x : Option (α1 × α2 × α3 × α4 × α5 × α6)} {k : α1 → α2 → α3 → α4 → α5 → α6 → Option β} {o : β} (h : ob6 x k = some o) : ∃ a1 a2 a3 a4 a5 a6, x = some (a1, a2, a3, a4, a5, a6) ∧ k a1 a2 a3 a4 a5 a6 = some o := by
  cases x
  · cases h
  · exact ⟨_, _, _, _, _, _, rfl, h⟩
def ob7 {α1 α2 α3 α4 α5 α6 α7 β : Type} (x : Option (α1 × α2 × α3 × α4 × α5 × α6 × α7)) (k : α1 → α2 → α3 → α4 → α5 → α6 → α7 → Option β) : Option β := match x with
  | none => none
  | some (a1, a2, a3, a4, a5, a6, a7) => k a1 a2 a3 a4 a5 a6 a7
theorem ob7_some {α1 α2 α3 α4 α5 α6 α7 β : Type} {x : Option (α1 × α2 × α3 × α4 × α5 × α6 × α7)} {k : α1 → α2 → α3 → α4 → α5 → α6 → α7 → Option β} {o : β} (h : ob7 x k = some o) : ∃ a1 a2 a3 a4 a5 a6 a7, x = some (a1, a2, a3, a4, a5, a6, a7) ∧ k a1 a2 a3 a4 a5 a6 a7 = some o := by
  cases x
  · cases h
  · exact ⟨_, _, _, _, _, _, _, rfl, h⟩
def ob8 {α1 α2 α3 α4 α5 α6 α7 α8 β : Type} (x : Option (α1 × α2 × α3 × α4 × α5 × α6 × α7 × α8)) (k : α1 → α2 → α3 → α4 → α5 → α6 → α7 → α8 → Option β) : Option β := match x with
  | none => none
  | some (a1, a2, a3, a4, a5, a6, a7, a8) => k a1 a2 a3 a4 a5 a6 a7 a8
theorem ob8_some {α1 α2 α3 α4 α5 α6 α7 α8 β : Type} {x : Option (α1 × α2 × α3 × α4 × α5 × α6 × α7 × α8)} {k : α1 → α2 → α3 → α4 → α5 → α6 → α7 → α8 → Option β} {o : β} (h : ob8 x k = some o) : ∃ a1 a2 a3 a4 a5 a6 a7 a8, x = some (a1, a2, a3, a4, a5, a6, a7, a8) ∧ k a1 a2 a3 a4 a5 a6 a7 a8 = some o := by
  cases x
  · cases h
  · exact ⟨_, _, _, _, _, _, _, _, rfl, h⟩
def ob9 {α1 α2 α3 α4 α5 α6 α7 α8 α9 β : Type} (x : Option (α1 × α2 × α3 × α4 × α5 × α6 × α7 × α8 × α9)) (k : α1 → α2 → α3 → α4 → α5 → α6 → α7 → α8 → α9 → Option β) : Option β := match x with
  | none => none
  | some (a1, a2, a3, a4, a5, a6, a7, a8, a9) => k a1 a2 a3 a4 a5 a6 a7 a8 a9
theorem ob9_some {α1 α2 α3 α4 α5 α6 α7 α8 α9 β : Type} {x : Option (α1 × α2 × α3 × α4 × α5 × α6 × α7 × α8 × α9)} {k : α1 → α2 → α3 → α4 → α5 → α6 → α7 → α8 → α9 → Option β} {o : β} (h : ob9 x k = some o) : ∃ a1 a2 a3 a4 a5 a6 a7 a8 a9, x = some (a1, a2, a3, a4, a5, a6, a7, a8, a9) ∧ k a1 a2 a3 a4 a5 a6 a7 a8 a9 = some o := by
  cases x
  · cases h
  · exact ⟨_, _, _, _, _, _, _, _, _, rfl, h⟩
def ob10 {α1 α2 α3 α4 α5 α6 α7 α8 α9 α10 β : Type} (x : Option (α1 × α2 × α3 × α4 × α5 × α6 × α7 × α8 × α9 × α10)) (k : α1 → α2 → α3 → α4 → α5 → α6 → α7 → α8 → α9 → α10 → Option β) : Option β := match x with
  | none => none
  | some (a1, a2, a3, a4, a5, a6, a7, a8, a9, a10) => k a1 a2 a3 a4 a5 a6 a7 a8 a9 a10
theorem ob10_some {α1 α2 α3 α4 α5 α6 α7 α8 α9 α10 β : Type} {x : Option (α1 × α2 × α3 × α4 × α5 × α6 × α7 × α8 × α9 × α10)} {k : α1 → α2 → α3 → α4 → α5 → α6 → α7 → α8 → α9 → α10 → Option β} {o : β} (h : ob10 x k = some o) : ∃ a1 a2 a3 a4 a5 a6 a7 a8 a9 a10, x = some (a1, a2, a3, a4, a5, a6, a7, a8, a9, a10) ∧ k a1 a2 a3 a4 a5 a6 a7 a8 a9 a10 = some o := by
  cases x
  · cases h
  · exact ⟨_, _, _, _, _, _, _, _, _, _, rfl, h⟩
def ob11 {α1 α2 α3 α4 α5 α6 α7 α8 α9 α10 α11 β : Type} (x : Option (α1 × α2 × α3 × α4 × α5 × α6 × α7 × α8 × α9 × α10 × α11)) (k : α1 → α2 → α3 → α4 → α5 → α6 → α7 → α8 → α9 → α10 → α11 → Option β) : Option β := match x with
  | none => none
  | some (a1, a2, a3, a4, a5, a6, a7, a8, a9, a10, a11) => k a1 a2 a3 a4 a5 a6 a7 a8 a9 a10 a11
theorem ob11_some {α1 α2 α3 α4 α5 α6 α7 α8 α9 α10 α11 β : Type} {x : Option (α1 × α2 × α3 × α4 × α5 × α6 × α7 × α8 × α9 × α10 × α11)} {k : α1 → α2 → α3 → α4 → α5 → α6 → α7 → α8 → α9 → α10 → α11 → Option β} {o : β} (h : ob11 x k = some o) : ∃ a1 a2 a3 a4 a5 a6 a7 a8 a9 a10 a11, x = some (a1, a2, a3, a4, a5, a6, a7, a8, a9, a10, a11) ∧ k a1 a2 a3 a4 a5 a6 a7 a8 a9 a10 a11 = some o := by
  cases x
  · cases h
  · exact ⟨_, _, _, _, _, _, _, _, _, _, _, rfl, h⟩
def ob12 {α1 α2 α3 α4 α5 α6 α7 α8 α9 α10 α11 α12 β : Type} (x : Option (α1 × α2 × α3 × α4 × α5 × α6 × α7 × α8 × α9 × α10 × α11 × α12)) (k : α1 → α2 → α3 → α4 → α5 → α6 → α7 → α8 → α9 → α10 → α11 → α12 → Option β) : Option β := match x with
  | none => none
  | some (a1, a2, a3, a4, a5, a6, a7, a8, a9, a10, a11, a12) => k a1 a2 a3 a4 a5 a6 a7 a8 a9 a10 a11 a12
theorem ob12_some {α1 α2 α3 α4 α5 α6 α7 α8 α9 α10 α11 α12 β : Type} {x : Option (α1 × α2 × α3 × α4 × α5 × α6 × α7 × α8 × α9 × α10 × α11 × α12)} {k : α1 → α2 → α3 → α4 → α5 → α6 → α7 → α8 → α9 → α10 → α11 → α12 → Option β} {o : β} (h : ob12 x k = some o) : ∃ a1 a2 a3 a4 a5 a6 a7 a8 a9 a10 a11 a12, x = some (a1, a2, a3, a4, a5, a6, a7, a8, a9, a10, a11, a12) ∧ k a1 a2 a3 a4 a5 a6 a7 a8 a9 a10 a11 a12 = some o := by
  cases x
  · cases h
  · exact ⟨_, _, _, _, _, _, _, _, _, _, _, _, rfl, h⟩
def ob13 {α1 α2 α3 α4 α5 α6 α7 α8 α9 α10 α11 α12 α13 β : Type} (x : Option (α1 × α2 × α3 × α4 × α5 × α6 × α7 × α8 × α9 × α10 × α11 × α12 × α13)) (k : α1 → α2 → α3 → α4 → α5 → α6 → α7 → α8 → α9 → α10 → α11 → α12 → α13 → Option β) : Option β := match x with
  | none => none
  | some (a1, a2, a3, a4, a5, a6, a7, a8, a9, a10, a11, a12, a13) => k a1 a2 a3 a4 a5 a6 a7 a8 a9 a10 a11 a12 a13
theorem ob13_some {α1 α2 α3 α4 α5 α6 α7 α8 α9 α10 α11 α12 α13 β : Type} {x : Option (α1 × α2 × α3 × α4 × α5 × α6 × α7 × α8 × α9 × α10 × α11 × α12 × α13)} {k : α1 → α2 → α3 → α4 → α5 → α6 → α7 → α8 → α9 → α10 → α11 → α12 → α13 → Option β} {o : β} (h : ob13 x k = some o) : ∃ a1 a2 a3 a4 a5 a6 a7 a8 a9 a10 a11 a12 a13, x = some (a1, a2, a3, a4, a5, a6, a7, a8, a9, a10, a11, a12, a13) ∧ k a1 a2 a3 a4 a5 a6 a7 a8 a9 a10 a11 a12 a13 = some o := by
  cases x
  · cases h
  · exact ⟨_, _, _, _, _, _, _, _, _, _, _, _, _, rfl, h⟩
def ob14 {α1 α2 α3 α4 α5 α6 α7 α8 α9 α10 α11 α12 α13 α14 β : Type} (x : Option (α1 × α2 × α3 × α4 × α5 × α6 × α7 × α8 × α9 × α10 × α11 × α12 × α13 × α14)) (k : α1 → α2 → α3 → α4 → α5 → α6 → α7 → α8 → α9 → α10 → α11 → α12 → α13 → α14 → Option β) : Option β := match x with
  | none => none
  | some (a1, a2, a3, a4, a5, a6, a7, a8, a9, a10, a11, a12, a13, a14) => k a1 a2 a3 a4 a5 a6 a7 a8 a9 a10 a11 a12 a13 a14
theorem ob14_some {α1 α2 α3 α4 α5 α6 α7 α8 α9 α10 α11 α12 α13 α14 β : Type} {x : Option (α1 × α2 × α3 × α4 × α5 × α6 × α7 × α8 × α9 × α10 × α11 × α12 × α13 × α14)} {k : α1 → α2 → α3 → α4 → α5 → α6 → α7 → α8 → α9 → α10 → α11 → α12 → α13 → α14 → Option β} {o : β} (h : ob14 x k = some o) : ∃ a1 a2 a3 a4 a5 a6 a7 a8 a9 a10 a11 a12 a13 a14, x = some (a1, a2, a3, a4, a5, a6, a7, a8, a9, a10, a11, a12, a13, a14) ∧ k a1 a2 a3 a4 a5 a6 a7 a8 a9 a10 a11 a12 a13 a14 = some o := by
  cases x
  · cases h
  · exact ⟨_, _, _, _, _, _, _, _, _, _, _, _, _, _, rfl, h⟩
def ob15 {α1 α2 α3 α4 α5 α6 α7 α8 α9 α10 α11 α12 α13 α14 α15 β : Type} (x : Option (α1 × α2 × α3 × α4 × α5 × α6 × α7 × α8 × α9 × α10 × α11 × α12 × α13 × α14 × α15)) (k : α1 → α2 → α3 → α4 → α5 → α6 → α7 → α8 → α9 → α10 → α11 → α12 → α13 → α14 → α15 → Option β) : Option β := match x with
  | none => none
  | some (a1, a2, a3, a4, a5, a6, a7, a8, a9, a10, a11, a12, a13, a14, a15) => k a1 a2 a3 a4 a5 a6 a7 a8 a9 a10 a11 a12 a13 a14 a15
theorem ob15_some {α1 α2 α3 α4 α5 α6 α7 α8 α9 α10 α11 α12 α13 α14 α15 β : Type} {x : Option (α1 × α2 × α3 × α4 × α5 × α6 × α7 × α8 × α9 × α10 × α11 × α12 × α13 × α14 × α15)} {k : α1 → α2 → α3 → α4 → α5 → α6 → α7 → α8 → α9 → α10 → α11 → α12 → α13 → α14 → α15 → Option β} {o : β} (h : ob15 x k = some o) : ∃ a1 a2 a3 a4 a5 a6 a7 a8 a9 a10 a11 a12 a13 a14 a15, x = some (a1, a2, a3, a4, a5, a6, a7, a8, a9, a10, a11, a12, a13, a14, a15) ∧ k a1 a2 a3 a4 a5 a6 a7 a8 a9 a10 a11 a12 a13 a14 a15 = some o := by
  cases x
  · cases h
  · exact ⟨_, _, _, _, _, _, _, _, _, _, _, _, _, _, _, rfl, h⟩
def ob16 {α1 α2 α3 α4 α5 α6 α7 α8 α9 α10 α11 α12 α13 α14 α15 α16 β : Type} (x : Option (α1 × α2 × α3 × α4 × α5 × α6 × α7 × α8 × α9 × α10 × α11 × α12 × α13 × α14 × α15 × α16)) (k : α1 → α2 → α3 → α4 → α5 → α6 → α7 → α8 → α9 → α10 → α11 → α12 → α13 → α14 → α15 → α16 → Option β) : Option β := match x with
  | none => none
  | some (a1, a2, a3, a4, a5, a6, a7, a8, a9, a10, a11, a12, a13, a14, a15, a16) => k a1 a2 a3 a4 a5 a6 a7 a8 a9 a10 a11 a12 a13 a14 a15 a16
theorem ob16_some {α1 α2 α3 α4 α5 α6 α7 α8 α9 α10 α11 α12 α13 α14 α15 α16 β : Type} {x : Option (α1 × α2 × α3 × α4 × α5 × α6 × α7 × α8 × α9 × α10 × α11 × α12 × α13 × α14 × α15 × α16)} {k : α1 → α2 → α3 → α4 → α5 → α6 → α7 → α8 → α9 → α10 → α11 → α12 → α13 → α14 → α15 → α16 → Option β} {o : β} (h : ob16 x k = some o) : ∃ a1 a2 a3 a4 a5 a6 a7 a8 a9 a10 a11 a12 a13 a14 a15 a16, x = some (a1, a2, a3, a4, a5, a6, a7, a8, a9, a10, a11, a12, a13, a14, a15, a16) ∧ k a1 a2 a3 a4 a5 a6 a7 a8 a9 a10 a11 a12 a13 a14 a15 a16 = some o := by
  cases x
  · cases h
  · exact ⟨_, _, _, _, _, _, _, _, _, _, _, _, _, _, _, _, rfl, h⟩
def ob17 {α1 α2 α3 α4 α5 α6 α7 α8 α9 α10 α11 α12 α13 α14 α15 α16 α17 β : Type} (x : Option (α1 × α2 × α3 × α4 × α5 × α6 × α7 × α8 × α9 × α10 × α11 × α12 × α13 × α14 × α15 × α16 × α17)) (k : α1 → α2 → α3 → α4 → α5 → α6 → α7 → α8 → α9 → α10 → α11 → α12 → α13 → α14 → α15 → α16 → α17 → Option β) : Option β := match x with
  | none => none
  | some (a1, a2, a3, a4, a5, a6, a7, a8, a9, a10, a11, a12, a13, a14, a15, a16, a17) => k a1 a2 a3 a4 a5 a6 a7 a8 a9 a10 a11 a12 a13 a14 a15 a16 a17
theorem ob17_some {α1 α2 α3 α4 α5 α6 α7 α8 α9 α10 α11 α12 α13 α14 α15 α16 α17 β : Type} {x : Option (α1 × α2 × α3 × α4 × α5 × α6 × α7 × α8 × α9 × α10 × α11 × α12 × α13 × α14 × α15 × α16 × α17)} {k : α1 → α2 → α3 → α4 → α5 → α6 → α7 → α8 → α9 → α10 → α11 → α12 → α13 → α14 → α15 → α16 → α17 → Option β} {o : β} (h : ob17 x k = some o) : ∃ a1 a2 a3 a4 a5 a6 a7 a8 a9 a10 a11 a12 a13 a14 a15 a16 a17, x = some (a1, a2, a3, a4, a5, a6, a7, a8, a9, a10, a11, a12, a13, a14, a15, a16, a17) ∧ k a1 a2 a3 a4 a5 a6 a7 a8 a9 a10 a11 a12 a13 a14 a15 a16 a17 = some o := by
  cases x
  · cases h
  · exact ⟨_, _, _, _, _, _, _, _, _, _, _, _, _, _, _, _, _, rfl, h⟩
def ob18 {α1 α2 α3 α4 α5 α6 α7 α8 α9 α10 α11 α12 α13 α14 α15 α16 α17 α18 β : Type} (x : Option (α1 × α2 × α3 × α4 × α5 × α6 × α7 × α8 × α9 × α10 × α11 × α12 × α13 × α14 × α15 × α16 × α17 × α18)) (k : α1 → α2 → α3 → α4 → α5 → α6 → α7 → α8 → α9 → α10 → α11 → α12 → α13 → α14 → α15 → α16 → α17 → α18 → Option β) : Option β := match x with
  | none => none
  | some (a1, a2, a3, a4, a5, a6, a7, a8, a9, a10, a11, a12, a13, a14, a15, a16, a17, a18) => k a1 a2 a3 a4 a5 a6 a7 a8 a9 a10 a11 a12 a13 a14 a15 a16 a17 a18
theorem ob18_some {α1 α2 α3 α4 α5 α6 α7 α8 α9 α10 α11 α12 α13 α14 α15 α16 α17 α18 β : Type} {x : Option (α1 × α2 × α3 × α4 × α5 × α6 × α7 × α8 × α9 × α10 × α11 × α12 × α13 × α14 × α15 × α16 × α17 × α18)} {k : α1 → α2 → α3 → α4 → α5 → α6 → α7 → α8 → α9 → α10 → α11 → α12 → α13 → α14 → α15 → α16 → α17 → α18 → Option β} {o : β} (h : ob18 x k = some o) : ∃ a1 a2 a3 a4 a5 a6 a7 a8 a9 a10 a11 a12 a13 a14 a15 a16 a17 a18, x = some (a1, a2, a3, a4, a5, a6, a7, a8, a9, a10, a11, a12, a13, a14, a15, a16, a17, a18) ∧ k a1 a2 a3 a4 a5 a6 a7 a8 a9 a10 a11 a12 a13 a14 a15 a16 a17 a18 = some o := by
  cases x
  · cases h
  · exact ⟨_, _, _, _, _, _, _, _, _, _, _, _, _, _, _, _, _, _, rfl, h⟩
def ob19 {α1 α2 α3 α4 α5 α6 α7 α8 α9 α10 α11 α12 α13 α14 α15 α16 α17 α18 α19 β : Type} (x : Option (α1 × α2 × α3 × α4 × α5 × α6 × α7 × α8 × α9 × α10 × α11 × α12 × α13 × α14 × α15 × α16 × α17 × α18 × α19)) (k : α1 → α2 → α3 → α4 → α5 → α6 → α7 → α8 → α9 → α10 → α11 → α12 → α13 → α14 → α15 → α16 → α17 → α18 → α19 → Option β) : Option β := match x with
  | none => none
  | some (a1, a2, a3, a4, a5, a6, a7, a8, a9, a10, a11, a12, a13, a14, a15, a16, a17, a18, a19) => k a1 a2 a3 a4 a5 a6 a7 a8 a9 a10 a11 a12 a13 a14 a15 a16 a17 a18 a19
theorem ob19_some {α1 α2 α3 α4 α5 α6 α7 α8 α9 α10 α11 α12 α13 α14 α15 α16 α17 α18 α19 β : Type} {x : Option (α1 × α2 × α3 × α4 × α5 × α6 × α7 × α8 × α9 × α10 × α11 × α12 × α13 × α14 × α15 × α16 × α17 × α18 × α19)} {k : α1 → α2 → α3 → α4 → α5 → α6 → α7 → α8 → α9 → α10 → α11 → α12 → α13 → α14 → α15 → α16 → α17 → α18 → α19 → Option β} {o : β} (h : ob19 x k = some o) : ∃ a1 a2 a3 a4 a5 a6 a7 a8 a9 a10 a11 a12 a13 a14 a15 a16 a17 a18 a19, x = some (a1, a2, a3, a4, a5, a6, a7, a8, a9, a10, a11, a12, a13, a14, a15, a16, a17, a18, a19) ∧ k a1 a2 a3 a4 a5 a6 a7 a8 a9 a10 a11 a12 a13 a14 a15 a16 a17 a18 a19 = some o := by
  cases x
  · cases h
  · exact ⟨_, _, _, _, _, _, _, _, _, _, _, _, _, _, _, _, _, _, _, rfl, h⟩
def ob20 {α1 α2 α3 α4 α5 α6 α7 α8 α9 α10 α11 α12 α13 α14 α15 α16 α17 α18 α19 α20 β : Type} (x : Option (α1 × α2 × α3 × α4 × α5 × α6 × α7 × α8 × α9 × α10 × α11 × α12 × α13 × α14 × α15 × α16 × α17 × α18 × α19 × α20)) (k : α1 → α2 → α3 → α4 → α5 → α6 → α7 → α8 → α9 → α10 → α11 → α12 → α13 → α14 → α15 → α16 → α17 → α18 → α19 → α20 → Option β) : Option β := match x with
  | none => none
  | some (a1, a2, a3, a4, a5, a6, a7, a8, a9, a10, a11, a12, a13, a14, a15, a16, a17, a18, a19, a20) => k a1 a2 a3 a4 a5 a6 a7 a8 a9 a10 a11 a12 a13 a14 a15 a16 a17 a18 a19 a20
theorem ob20_some {α1 α2 α3 α4 α5 α6 α7 α8 α9 α10 α11 α12 α13 α14 α15 α16 α17 α18 α19 α20 β : Type} {x : Option (α1 × α2 × α3 × α4 × α5 × α6 × α7 × α8 × α9 × α10 × α11 × α12 × α13 × α14 × α15 × α16 × α17 × α18 × α19 × α20)} {k : α1 → α2 → α3 → α4 → α5 → α6 → α7 → α8 → α9 → α10 → α11 → α12 → α13 → α14 → α15 → α16 → α17 → α18 → α19 → α20 → Option β} {o : β} (h : ob20 x k = some o) : ∃ a1 a2 a3 a4 a5 a6 a7 a8 a9 a10 a11 a12 a13 a14 a15 a16 a17 a18 a19 a20, x = some (a1, a2, a3, a4, a5, a6, a7, a8, a9, a10, a11, a12, a13, a14, a15, a16, a17, a18, a19, a20) ∧ k a1 a2 a3 a4 a5 a6 a7 a8 a9 a10 a11 a12 a13 a14 a15 a16 a17 a18 a19 a20 = some o := by
  cases x
  · cases h
  · exact ⟨_, _, _, _, _, _, _, _, _, _, _, _, _, _, _, _, _, _, _, _, rfl, h⟩
def ob21 {α1 α2 α3 α4 α5 α6 α7 α8 α9 α10 α11 α12 α13 α14 α15 α16 α17 α18 α19 α20 α21 β : Type} (x : Option (α1 × α2 × α3 × α4 × α5 × α6 × α7 × α8 × α9 × α10 × α11 × α12 × α13 × α14 × α15 × α16 × α17 × α18 × α19 × α20 × α21)) (k : α1 → α2 → α3 → α4 → α5 → α6 → α7 → α8 → α9 → α10 → α11 → α12 → α13 → α14 → α15 → α16 → α17 → α18 → α19 → α20 → α21 → Option β) : Option β := match x with
  | none => none
  | some (a1, a2, a3, a4, a5, a6, a7, a8, a9, a10, a11, a12, a13, a14, a15, a16, a17, a18, a19, a20, a21) => k a1 a2 a3 a4 a5 a6 a7 a8 a9 a10 a11 a12 a13 a14 a15 a16 a17 a18 a19 a20 a21
theorem ob21_some {α1 α2 α3 α4 α5 α6 α7 α8 α9 α10 α11 α12 α13 α14 α15 α16 α17 α18 α19 α20 α21 β : Type} {x : Option (α1 × α2 × α3 × α4 × α5 × α6 × α7 × α8 × α9 × α10 × α11 × α12 × α13 × α14 × α15 × α16 × α17 × α18 × α19 × α20 × α21)} {k : α1 → α2 → α3 → α4 → α5 → α6 → α7 → α8 → α9 → α10 → α11 → α12 → α13 → α14 → α15 → α16 → α17 → α18 → α19 → α20 → α21 → Option β} {o : β} (h : ob21 x k = some o) : ∃ a1 a2 a3 a4 a5 a6 a7 a8 a9 a10 a11 a12 a13 a14 a15 a16 a17 a18 a19 a20 a21, x = some (a1, a2, a3, a4, a5, a6, a7, a8, a9, a10, a11, a12, a13, a14, a15, a16, a17, a18, a19, a20, a21) ∧ k a1 a2 a3 a4 a5 a6 a7 a8 a9 a10 a11 a12 a13 a14 a15 a16 a17 a18 a19 a20 a21 = some o := by
  cases x
  · cases h
  · exact ⟨_, _, _, _, _, _, _, _, _, _, _, _, _, _, _, _, _, _, _, _, _, rfl, h⟩
def ob22 {α1 α2 α3 α4 α5 α6 α7 α8 α9 α10 α11 α12 α13 α14 α15 α16 α17 α18 α19 α20 α21 α22 β : Type} (x : Option (α1 × α2 × α3 × α4 × α5 × α6 × α7 × α8 × α9 × α10 × α11 × α12 × α13 × α14 × α15 × α16 × α17 × α18 × α19 × α20 × α21 × α22)) (k : α1 → α2 → α3 → α4 → α5 → α6 → α7 → α8 → α9 → α10 → α11 → α12 → α13 → α14 → α15 → α16 → α17 → α18 → α19 → α20 → α21 → α22 → Option β) : Option β := match x with
  | none => none
  | some (a1, a2, a3, a4, a5, a6, a7, a8, a9, a10, a11, a12, a13, a14, a15, a16, a17, a18, a19, a20, a21, a22) => k a1 a2 a3 a4 a5 a6 a7 a8 a9 a10 a11 a12 a13 a14 a15 a16 a17 a18 a19 a20 a21 a22
theorem ob22_some {α1 α2 α3 α4 α5 α6 α7 α8 α9 α10 α11 α12 α13 α14 α15 α16 α17 α18 α19 α20 α21 α22 β : Type} {x : Option (α1 × α2 × α3 × α4 × α5 × α6 × α7 × α8 × α9 × α10 × α11 × α12 × α13 × α14 × α15 × α16 × α17 × α18 × α19 × α20 × α21 × α22)} {k : α1 → α2 → α3 → α4 → α5 → α6 → α7 → α8 → α9 → α10 → α11 → α12 → α13 → α14 → α15 → α16 → α17 → α18 → α19 → α20 → α21 → α22 → Option β} {o : β} (h : ob22 x k = some o) : ∃ a1 a2 a3 a4 a5 a6 a7 a8 a9 a10 a11 a12 a13 a14 a15 a16 a17 a18 a19 a20 a21 a22, x = some (a1, a2, a3, a4, a5, a6, a7, a8, a9, a10, a11, a12, a13, a14, a15, a16, a17, a18, a19, a20, a21, a22) ∧ k a1 a2 a3 a4 a5 a6 a7 a8 a9 a10 a11 a12 a13 a14 a15 a16 a17 a18 a19 a20 a21 a22 = some o := by
  cases x
  · cases h
  · exact ⟨_, _, _, _, _, _, _, _, _, _, _, _, _, _, _, _, _, _, _, _, _, _, rfl, h⟩
def ob23 {α1 α2 α3 α4 α5 α6 α7 α8 α9 α10 α11 α12 α13 α14 α15 α16 α17 α18 α19 α20 α21 α22 α23 β : Type} (x : Option (α1 × α2 × α3 × α4 × α5 × α6 × α7 × α8 × α9 × α10 × α11 × α12 × α13 × α14 × α15 × α16 × α17 × α18 × α19 × α20 × α21 × α22 × α23)) (k : α1 → α2 → α3 → α4 → α5 → α6 → α7 → α8 → α9 → α10 → α11 → α12 → α13 → α14 → α15 → α16 → α17 → α18 → α19 → α20 → α21 → α22 → α23 → Option β) : Option β := match x with
  | none => none
  | some (a1, a2, a3, a4, a5, a6, a7, a8, a9, a10, a11, a12, a13, a14, a15, a16, a17, a18, a19, a20, a21, a22, a23) => k a1 a2 a3 a4 a5 a6 a7 a8 a9 a10 a11 a12 a13 a14 a15 a16 a17 a18 a19 a20 a21 a22 a23
theorem ob23_some {α1 α2 α3 α4 α5 α6 α7 α8 α9 α10 α11 α12 α13 α14 α15 α16 α17 α18 α19 α20 α21 α22 α23 β : Type} {x : Option (α1 × α2 × α3 × α4 × α5 × α6 × α7 × α8 × α9 × α10 × α11 × α12 × α13 × α14 × α15 × α16 × α17 × α18 × α19 × α20 × α21 × α22 × α23)} {k : α1 → α2 → α3 → α4 → α5 → α6 → α7 → α8 → α9 → α10 → α11 → α12 → α13 → α14 → α15 → α16 → α17 → α18 → α19 → α20 → α21 → α22 → α23 → Option β} {o : β} (h : ob23 x k = some o) : ∃ a1 a2 a3 a4 a5 a6 a7 a8 a9 a10 a11 a12 a13 a14 a15 a16 a17 a18 a19 a20 a21 a22 a23, x = some (a1, a2, a3, a4, a5, a6, a7, a8, a9, a10, a11, a12, a13, a14, a15, a16, a17, a18, a19, a20, a21, a22, a23) ∧ k a1 a2 a3 a4 a5 a6 a7 a8 a9 a10 a11 a12 a13 a14 a15 a16 a17 a18 a19 a20 a21 a22 a23 = some o := by
  cases x
  · cases h
  · exact ⟨_, _, _, _, _, _, _, _, _, _, _, _, _, _, _, _, _, _, _, _, _, _, _, rfl, h⟩
def ob24 {α1 α2 α3 α4 α5 α6 α7 α8 α9 α10 α11 α12 α13 α14 α15 α16 α17 α18 α19 α20 α21 α22 α23 α24 β : Type} (x : Option (α1 × α2 × α3 × α4 × α5 × α6 × α7 × α8 × α9 × α10 × α11 × α12 × α13 × α14 × α15 × α16 × α17 × α18 × α19 × α20 × α21 × α22 × α23 × α24)) (k : α1 → α2 → α3 → α4 → α5 → α6 → α7 → α8 → α9 → α10 → α11 → α12 → α13 → α14 → α15 → α16 → α17 → α18 → α19 → α20 → α21 → α22 → α23 → α24 → Option β) : Option β := match x with
  | none => none
  | some (a1, a2, a3, a4, a5, a6, a7, a8, a9, a10, a11, a12, a13, a14, a15, a16, a17, a18, a19, a20, a21, a22, a23, a24) => k a1 a2 a3 a4 a5 a6 a7 a8 a9 a10 a11 a12 a13 a14 a15 a16 a17 a18 a19 a20 a21 a22 a23 a24
theorem ob24_some {α1 α2 α3 α4 α5 α6 α7 α8 α9 α10 α11 α12 α13 α14 α15 α16 α17 α18 α19 α20 α21 α22 α23 α24 β : Type} {x : Option (α1 × α2 × α3 × α4 × α5 × α6 × α7 × α8 × α9 × α10 × α11 × α12 × α13 × α14 × α15 × α16 × α17 × α18 × α19 × α20 × α21 × α22 × α23 × α24)} {k : α1 → α2 → α3 → α4 → α5 → α6 → α7 → α8 → α9 → α10 → α11 → α12 → α13 → α14 → α15 → α16 → α17 → α18 → α19 → α20 → α21 → α22 → α23 → α24 → Option β} {o : β} (h : ob24 x k = some o) : ∃ a1 a2 a3 a4 a5 a6 a7 a8 a9 a10 a11 a12 a13 a14 a15 a16 a17 a18 a19 a20 a21 a22 a23 a24, x = some (a1, a2, a3, a4, a5, a6, a7, a8, a9, a10, a11, a12, a13, a14, a15, a16, a17, a18, a19, a20, a21, a22, a23, a24) ∧ k a1 a2 a3 a4 a5 a6 a7 a8 a9 a10 a11 a12 a13 a14 a15 a16 a17 a18 a19 a20 a21 a22 a23 a24 = some o := by
  cases x
  · cases h
  · exact ⟨_, _, _, _, _, _, _, _, _, _, _, _, _, _, _, _, _, _, _, _, _, _, _, _, rfl, h⟩
/-- the six masks -/
def WO : Nat → Int64 := fun j => match j with
  | 0 => 6148914691236517205
  | 1 => 3689348814741910323
  | 2 => 1085102592571150095
  | 3 => 71777214294589695
  | 4 => 281470681808895
  | _ => 4294967295
/-! THE WORLD'S SURROUNDINGS: tables, links in the nest, the static row -/
abbrev tysAll (cy : Nat → ClassId) : List (ClassId × FieldType) := [(cy 0, .int), (cy 1, .long), (cy 2, .object "ForAllGame$State")]
def isNest : Cond → Bool
  | .fieldLinkNest _ _ _ _ _ _ => true
  | .methodLinkNest _ _ _ _ => true
  | .declares _ => true
  | .castable _ _ => true
  | .arrayOver (.object _) => true
  | _ => false
theorem isNest_cases {w : Cond} (h : isNest w = true) : (∃ a i b n d k, w = .fieldLinkNest a i b n d k) ∨ (∃ a i b k, w = .methodLinkNest a i b k) ∨ (∃ a, w = .declares a) ∨ (∃ a b, w = .castable a b) ∨ (∃ a, w = .arrayOver (.object a)) := by
  cases w with
  | arrayOver t => cases t <;> first | exact Or.inr (Or.inr (Or.inr (Or.inr ⟨_, rfl⟩))) | exact absurd h Bool.false_ne_true
  | _ => first | exact Or.inl ⟨_, _, _, _, _, _, rfl⟩ | exact Or.inr (Or.inl ⟨_, _, _, _, rfl⟩) | exact Or.inr (Or.inr (Or.inl ⟨_, rfl⟩)) | exact Or.inr (Or.inr (Or.inr (Or.inl ⟨_, _, rfl⟩))) | exact absurd h Bool.false_ne_true
def NW (U : State) : Prop := ∀ w ∈ lw_tbl, isNest w = true → va_Nw w U
theorem NW.warm {s U : State} (hW : s.WarmedH U.vm) (h : NW s) : NW U := fun w hw hn => by
  have h1 := h w hw hn
  rcases isNest_cases hn with ⟨a, i, b, n, d, k, rfl⟩ | ⟨a, i, b, k, rfl⟩ | ⟨a, rfl⟩ | ⟨a, b, rfl⟩ | ⟨a, rfl⟩
  · exact va_Nw.warmF hW h1
  · exact va_Nw.warmM hW h1
  · exact va_Nw.warmD hW h1
  · exact va_Nw.warmC hW h1
  · exact va_AO.moved hW.alike h1
theorem NW.at {s : State} {w : Cond} (h : NW s) (i : Nat) (hi : lw_tbl[i]? = some w) (hn : isNest w = true) : va_Nw w s := h w (List.mem_of_getElem? hi) hn
def ST (s0 tW : Nat) (U : State) : Prop := va_Z RX0 "WITHOUT" "[J" (.ref tW) (fun q => s0 ≤ q) U U.heap ∧ va_T .long tW 6 (fun j => .long (WO j)) (fun q => s0 ≤ q) U U.heap
def EV (D : va_G) (cy : Nat → ClassId) (s0 tW : Nat) (U : State) : Prop := va_K D vwCl (tysAll cy) U ∧ NW U ∧ ST s0 tW U
theorem EV.call {D : va_G} {cy : Nat → ClassId} {s0 tW : Nat} {s U : State} {A : Nat → Prop} {H : Heap} {locs : List Loc} (hE : EV D cy s0 tW s) (hS : va_S A s.heap H locs) (hAs : ∀ q, A q → s0 ≤ q) (hU : U.heap = H) (hW : s.WarmedH U.vm) : EV D cy s0 tW U := by
  have hq : ∀ a : Nat, a < s.heap.size → ¬ (fun q => s0 ≤ q) a → H[a]? = s.heap[a]? := fun a h1 h2 => hS.2.1 a h1 (fun h3 => h2 (hAs a h3))
  refine ⟨va_K.moved hW.alike hE.1, NW.warm hW hE.2.1, ?_, ?_⟩
  · rw [hU]; exact va_Z.moved hW.alike (va_Z.kept hE.2.2.1 hq)
  · rw [hU]; exact va_T.moved hW.alike (va_T.kept hE.2.2.2 hq)
theorem EV.blind {D : va_G} {cy : Nat → ClassId} {s0 tW : Nat} {U : State} (hE : EV D cy s0 tW U) (g : JFrame) (mk : MethodId) (a : Array Value) : EV D cy s0 tW (U.calling g mk a) :=
  ⟨va_K.moved (u := U) (U := U.calling g mk a) (Vm.Alike.refl U.vm) hE.1, NW.warm (s := U) (U := U.calling g mk a) (State.WarmedH.refl U) hE.2.1, va_Z.moved (u := U) (U := U.calling g mk a) (Vm.Alike.refl U.vm) hE.2.2.1, va_T.moved (u := U) (U := U.calling g mk a) (Vm.Alike.refl U.vm) hE.2.2.2⟩
/-! CONTRACTS -/
def cPre (D : va_G) (cy : Nat → ClassId) (s0 tW : Nat) (sz : Nat) (W0 : va_W) (U : State) : Prop := U.heap.size = sz ∧ va_P D vwCl W0 U.heap ∧ va_D (fun q => s0 ≤ q) W0 ∧ s0 ≤ sz ∧ EV D cy s0 tW U
def kQ (o : Option Value) (D : va_G) (A : Nat → Prop) (W1 : va_W) : Array Value → State → Outcome → State → Prop := fun _ st oc t => (oc = .returned o ∧ va_P D vwCl W1 t.heap ∧ va_D A W1) ∧ va_F A st t
abbrev rmK (f lo : Nat) : Room := { frames := f, cells := 0, slots := 0, locals := lo }
def KM (l : Launch) (D : va_G) (cy : Nat → ClassId) (s0 tW : Nat) (y : MethodName) (bytes : ByteArray) (maxL : Nat) (ret : Option FieldType) (f lo : Nat) (As : List Value) (sz : Nat) (W0 : va_W) (o : Option Value) (W1 : va_W) : Prop :=
  Met l y (Cond.code y bytes maxL ret :: wAll) (rmK f lo) (va_Pc As (cPre D cy s0 tW sz W0)) (kQ o D (va_A W0 sz) W1) 0 0 (va_A W0 sz)
theorem KM.intro {l : Launch} {D : va_G} {cy : Nat → ClassId} {s0 tW : Nat} {y : MethodName} {bytes : ByteArray} {maxL : Nat} {ret : Option FieldType} {f lo : Nat} {As : List Value} {sz : Nat} {W0 : va_W} {o : Option Value} {W1 : va_W} (hy : plainName y.cls = true) (hn : (lg_sl As).length ≤ maxL)
    (body : ∀ (p : Program) (e : Env) (s : State) (m : MethodId) (args : Array Value) (below : List Frame) (meth : Method) (c : Code) (A : Nat → Prop) (ls : Array Slot), p.tables.exec = Jvm.exec → c.code = bytes → meth.sig.returnType = ret → c.maxLocals = maxL → s.vm.findClass y.cls = some m.cls → (∀ w ∈ wAll, w.before args s = true) → meth.locks = false → EV D cy s0 tW s → va_P D vwCl W0 s.heap → va_D A W0 → va_S A s.heap s.heap [] → (∀ q, s.heap.size ≤ q → A q) → (∀ q, A q → s0 ≤ q) → lv_has ls maxL (lv_args 0 As) →
      W p l e (rmK f lo) s m args below meth c s.heap [] 0 0 (MQ below (kQ o D A W1) args s 0 0 A) (F0 m 0 ls [])) : KM l D cy s0 tW y bytes maxL ret f lo As sz W0 o W1 := by
  refine Met.ofW (cc := bytes) (maxL := maxL) (ret := ret) hy rfl ?_
  intro p e s m args below meth c s₁ B hml hv
  obtain ⟨rfl, hsz, hP, hD0, hs0, hE⟩ := hv
  have hts := atoms_spec (ws := Cond.code y bytes maxL ret :: wAll) B.pre
  subst hsz
  rw [lg_entry_eq]
  refine body p e s m _ below meth c _ _ B.exec B.bytes B.returns hml (findClass_of_methodNamed B.named) (fun w h => hts w (List.mem_cons_of_mem _ h)) B.notSynchronized hE hP (hD0.self (sz := s.heap.size)) va_S.rf (fun q h => Or.inr h) ?_ (lv_entry As hn)
  intro q hq
  rcases hq with ⟨k, e9, hk⟩ | hq
  · exact hD0.2 k _ hk
  · exact Nat.le_trans hs0 hq
section K4
variable {p : Program} {l : Launch} {e : Env} {R : Room} {s : State} {m : MethodId} {args : Array Value} {below : List Frame} {meth : Method} {c : Code} {H : Heap} {locs : List Loc} {cells slots : Nat} {Q : State → Prop}
variable {D : va_G} {cy : Nat → ClassId} {s0 tW : Nat} {A : Nat → Prop} {cc : ByteArray} {pc : Nat} {ls : Array Slot} {W1 : va_W}
theorem kret_i {v : Int32} (hx : p.tables.exec = Jvm.exec) (hb : c.code = cc) (hr : meth.sig.returnType = some .int) (hlocks : meth.locks = false) (hP : va_P D vwCl W1 H) (hD : va_D A W1) (hS : va_S A s.heap H locs) (hdg : decode cc pc = .ok (.ireturn, 1)) : W p l e R s m args below meth c H locs 0 0 (MQ below (kQ (some (.int v)) D A W1) args s 0 0 A) (F0 m pc ls [.int v]) :=
  W.iret hx hb hr (fun t ht hW => ⟨⟨rfl, by rw [ht]; exact hP, hD⟩, hS.F ht⟩) hS.2.2 hdg hlocks
theorem kret_z {v : Bool} (hx : p.tables.exec = Jvm.exec) (hb : c.code = cc) (hr : meth.sig.returnType = some .boolean) (hlocks : meth.locks = false) (hP : va_P D vwCl W1 H) (hD : va_D A W1) (hS : va_S A s.heap H locs) (hdg : decode cc pc = .ok (.ireturn, 1)) : W p l e R s m args below meth c H locs 0 0 (MQ below (kQ (some (.int (bI v))) D A W1) args s 0 0 A) (F0 m pc ls [.int (bI v)]) :=
  W.zret hx hb hr (bI_nar v) (fun t ht hW => ⟨⟨rfl, by rw [ht]; exact hP, hD⟩, hS.F ht⟩) hS.2.2 hdg hlocks
theorem kret_l {v : Int64} (hx : p.tables.exec = Jvm.exec) (hb : c.code = cc) (hr : meth.sig.returnType = some .long) (hlocks : meth.locks = false) (hP : va_P D vwCl W1 H) (hD : va_D A W1) (hS : va_S A s.heap H locs) (hdg : decode cc pc = .ok (.lreturn, 1)) : W p l e R s m args below meth c H locs 0 0 (MQ below (kQ (some (.long v)) D A W1) args s 0 0 A) (F0 m pc ls [.long v]) :=
  W.lret hx hb hr (fun t ht hW => ⟨⟨rfl, by rw [ht]; exact hP, hD⟩, hS.F ht⟩) hS.2.2 hdg hlocks
theorem kret_d {v : UInt64} (hx : p.tables.exec = Jvm.exec) (hb : c.code = cc) (hr : meth.sig.returnType = some .double) (hlocks : meth.locks = false) (hP : va_P D vwCl W1 H) (hD : va_D A W1) (hS : va_S A s.heap H locs) (hdg : decode cc pc = .ok (.dreturn, 1)) : W p l e R s m args below meth c H locs 0 0 (MQ below (kQ (some (.double v)) D A W1) args s 0 0 A) (F0 m pc ls [.double v]) :=
  W.dret hx hb hr (fun t ht hW => ⟨⟨rfl, by rw [ht]; exact hP, hD⟩, hS.F ht⟩) hS.2.2 hdg hlocks
theorem kret_v (hx : p.tables.exec = Jvm.exec) (hb : c.code = cc) (hr : meth.sig.returnType = none) (hlocks : meth.locks = false) (hP : va_P D vwCl W1 H) (hD : va_D A W1) (hS : va_S A s.heap H locs) (hdg : decode cc pc = .ok (.return_, 1)) : W p l e R s m args below meth c H locs 0 0 (MQ below (kQ none D A W1) args s 0 0 A) (F0 m pc ls []) :=
  W.vret hx hb hr (fun t ht hW => ⟨⟨rfl, by rw [ht]; exact hP, hD⟩, hS.F ht⟩) hS.2.2 hdg hlocks
theorem kret_r {a : Nat} {rt : FieldType} (hx : p.tables.exec = Jvm.exec) (hb : c.code = cc) (hr : meth.sig.returnType = some rt) (hrt : (∃ n, rt = .object n) ∨ ∃ t, rt = .array t) (hlocks : meth.locks = false) (hP : va_P D vwCl W1 H) (hD : va_D A W1) (hS : va_S A s.heap H locs) (hdg : decode cc pc = .ok (.areturn, 1)) : W p l e R s m args below meth c H locs 0 0 (MQ below (kQ (some (.ref a)) D A W1) args s 0 0 A) (F0 m pc ls [.ref a]) :=
  W.aret hx hb hr hrt (Or.inr ⟨a, rfl⟩) (fun t ht hW => ⟨⟨rfl, by rw [ht]; exact hP, hD⟩, hS.F ht⟩) hS.2.2 hdg hlocks
theorem fm_of_map {α β : Type} {f : α → Option β} : ∀ {is : List α} {w : List β}, is.map f = w.map some → is.filterMap f = w
  | [], [], _ => rfl
  | [], _ :: _, h => by cases h
  | _ :: _, [], h => by cases h
  | a :: is, b :: w, h => by
    simp only [List.map_cons, List.cons.injEq] at h
    rw [List.filterMap_cons, h.1]
    simp only [List.cons.injEq, true_and]
    exact fm_of_map h.2
theorem callK {ws Wc wr Wc1 wsN : va_W} {o : Option Value} {rest st0 : List Value} {a : Array Value} (hr : va_Run p l e R s m args below meth c H locs cells slots 0 0 (F0 m pc ls st0) rest (kQ o D (va_A Wc H.size) Wc1 a) (va_A Wc H.size)) (hP : va_P D vwCl ws H) (hD : va_D A ws) (hS : va_S A s.heap H locs) (hA : ∀ q, s.heap.size ≤ q → A q) (isC isR isQ : List Nat)
    (hC : isC.map (fun i => ws[i]?) = Wc.map some) (hR : isR.map (fun i => ws[i]?) = wr.map some) (hn : va_nd isR = true) (hdis : (isR.all (fun i => !(isC.contains i))) = true) (hQ : isQ.map (fun i => (wr ++ Wc1)[i]?) = wsN.map some) (hnQ : va_nd isQ = true)
    (kk : ∀ (H1 : Heap) (locs1 : List Loc), va_P D vwCl wsN H1 → va_D A wsN → va_S A s.heap H1 locs1 → W p l e R s m args below meth c H1 locs1 cells slots Q (F0 m (pc + 3) ls (o.toList ++ rest))) : W p l e R s m args below meth c H locs cells slots Q (F0 m pc ls st0) := by
  intro T hT X
  obtain ⟨v, st₀, t, T', L, h0, X', hL, e1, e2, ⟨⟨hv, hp1, hd1⟩, hz, hk⟩, st⟩ := hr T hT X
  cases hv
  rw [h0] at hz hk
  have hF : ∀ q, va_A Wc H.size q → A q := va_free hD hS hA isC hC
  have hdis' : ∀ i ∈ isR, i ∉ isC := fun i hi hc => by
    have h1 := List.all_eq_true.mp hdis i hi
    rw [List.contains_iff_mem.mpr hc] at h1
    cases h1
  obtain ⟨hP2, hD2⟩ := va_join (H1 := T'.heap) hP hD isC isR hC hR hn hdis' (fun q h1 h2 => by rw [e1]; exact hk q h1 h2) hF (by rw [e1]; exact hp1) hd1
  obtain ⟨t2, a1, b1⟩ := kk T'.heap (locs ++ L) (hP2.sub isQ (fm_of_map hQ)) (hD2.sub isQ hnQ hQ)
    ⟨Nat.le_trans hS.1 (by rw [e1]; exact hz), fun q h1 h2 => by rw [e1, hk q (Nat.lt_of_lt_of_le h1 hS.1) (fun z => h2 (hF q z))]; exact hS.2.1 q h1 h2, fun q hq => by
      rcases List.mem_append.mp hq with h | h
      · exact hS.2.2 q h
      · exact hF _ (hL q h)⟩ T' rfl X'
  exact ⟨t2, st t2 a1, b1⟩
theorem kpre {ws Wc : va_W} {As : List Value} (hE : EV D cy s0 tW s) (hP : va_P D vwCl ws H) (hD : va_D A ws) (hS : va_S A s.heap H locs) (hA : ∀ q, s.heap.size ≤ q → A q) (hAs : ∀ q, A q → s0 ≤ q) (isC : List Nat) (hC : isC.map (fun i => ws[i]?) = Wc.map some) (hnC : va_nd isC = true) : FrameBlind (va_Pc As (cPre D cy s0 tW H.size Wc)) ∧ ∀ U : State, U.heap = H → s.WarmedH U.vm → va_Pc As (cPre D cy s0 tW H.size Wc) As.toArray U := by
  refine ⟨fun a U g mk q => ?_, fun U hU hW => ⟨rfl, by rw [hU], by rw [hU]; exact hP.sub isC (fm_of_map hC), (hD.sub isC hnC hC).weaken (fun _ q _ h => hAs _ h), Nat.le_trans (hAs _ (hA _ (Nat.le_refl _))) hS.1, hE.call hS hAs hU hW⟩⟩
  obtain ⟨q0, q1, qP, qD, qs, qE⟩ := q
  exact ⟨q0, q1, qP, qD, qs, qE.blind g mk a⟩
variable {y : MethodName} {bytes : ByteArray} {maxL nL index f lo : Nat} {ret : Option FieldType} {own : String} {b : Nat} {As rest st : List Value} {ws Wc wr Wc1 wsN : va_W} {o : Option Value}
theorem kcV {ci q0 : Nat} {q : vw_C} {fs : List Value} (S : CallFix p m c cc nL s args wAll own) (hE : EV D cy s0 tW s) (hP : va_P D vwCl ws H) (hD : va_D A ws) (hS : va_S A s.heap H locs) (hA : ∀ q, s.heap.size ≤ q → A q) (hAs : ∀ q, A q → s0 ≤ q) (isC isR isQ : List Nat) (hM : KM l D cy s0 tW y bytes maxL ret f lo (.ref b :: As) H.size Wc o Wc1)
    (hg : GoodIn wAll (wsV own index q.1 y (Cond.code y bytes maxL ret :: wAll))) (hd : y.cls = q.1 ∧ y.cls ≠ "java/lang/invoke/MethodHandle" ∧ y.cls ≠ "java/lang/invoke/VarHandle" ∧ (parseMethodDescriptor y.desc).map (fun d => d.parameters.length) = some As.length) (hRm : f + 1 ≤ R.frames ∧ 8 + (maxL + 11) + lo ≤ R.locals)
    (hq : ws[q0]? = some (b, .inr (ci, fs))) (hc : vwCl[ci]? = some q) (hC : isC.map (fun i => ws[i]?) = Wc.map some) (hnC : va_nd isC = true) (hR : isR.map (fun i => ws[i]?) = wr.map some) (hn : va_nd isR = true) (hdis : (isR.all (fun i => !(isC.contains i))) = true) (hQ : isQ.map (fun i => (wr ++ Wc1)[i]?) = wsN.map some) (hnQ : va_nd isQ = true)
    (hsize : ls.size = nL) (hst : st = As.reverse ++ .ref b :: rest) (hroom : (rest.map fun v => v.category).sum ≤ 8) (hdg : decode cc pc = .ok (.invokevirtual index, 3)) (hf : cells ≤ R.cells ∧ slots ≤ R.slots)
    (kk : ∀ (H1 : Heap) (locs1 : List Loc), va_P D vwCl wsN H1 → va_D A wsN → va_S A s.heap H1 locs1 → W p l e R s m args below meth c H1 locs1 cells slots Q (F0 m (pc + 3) ls (o.toList ++ rest))) : W p l e R s m args below meth c H locs cells slots Q (F0 m pc ls st) := by
  obtain ⟨k1, k2⟩ := kpre (As := .ref b :: As) hE hP hD hS hA hAs isC hC hnC
  exact callK (va_runV S hM (cwV As.length S.2.2.2.2 hg rfl rfl rfl hd hRm) ⟨k1, va_recv hE.1 hP hc hq, k2⟩ rfl rfl hsize hst (lv_room hroom) hdg hf) hP hD hS hA isC isR isQ hC hR hn hdis hQ hnQ kk
theorem kcVN {ci q0 : Nat} {q : vw_C} {fs : List Value} {host : String} (S : CallFix p m c cc nL s args wAll own) (hE : EV D cy s0 tW s) (hP : va_P D vwCl ws H) (hD : va_D A ws) (hS : va_S A s.heap H locs) (hA : ∀ q, s.heap.size ≤ q → A q) (hAs : ∀ q, A q → s0 ≤ q) (isC isR isQ : List Nat) (hM : KM l D cy s0 tW y bytes maxL ret f lo (.ref b :: As) H.size Wc o Wc1)
    (hg : Cond.code y bytes maxL ret ∈ wAll) (hg2 : Cond.initialized y.cls ∈ wAll) (hg3 : Cond.instanceMethod y ∈ wAll) (hg4 : Cond.selects q.1 y y ∈ wAll) (hNk : va_Nw (.methodLinkNest own index y host) s) (hd : y.cls ≠ "java/lang/invoke/MethodHandle" ∧ y.cls ≠ "java/lang/invoke/VarHandle" ∧ (parseMethodDescriptor y.desc).map (fun d => d.parameters.length) = some As.length) (hRm : f + 1 ≤ R.frames ∧ 8 + (maxL + 11) + lo ≤ R.locals)
    (hq : ws[q0]? = some (b, .inr (ci, fs))) (hc : vwCl[ci]? = some q) (hC : isC.map (fun i => ws[i]?) = Wc.map some) (hnC : va_nd isC = true) (hR : isR.map (fun i => ws[i]?) = wr.map some) (hn : va_nd isR = true) (hdis : (isR.all (fun i => !(isC.contains i))) = true) (hQ : isQ.map (fun i => (wr ++ Wc1)[i]?) = wsN.map some) (hnQ : va_nd isQ = true)
    (hsize : ls.size = nL) (hst : st = As.reverse ++ .ref b :: rest) (hroom : (rest.map fun v => v.category).sum ≤ 8) (hdg : decode cc pc = .ok (.invokevirtual index, 3)) (hf : cells ≤ R.cells ∧ slots ≤ R.slots)
    (kk : ∀ (H1 : Heap) (locs1 : List Loc), va_P D vwCl wsN H1 → va_D A wsN → va_S A s.heap H1 locs1 → W p l e R s m args below meth c H1 locs1 cells slots Q (F0 m (pc + 3) ls (o.toList ++ rest))) : W p l e R s m args below meth c H locs cells slots Q (F0 m pc ls st) := by
  obtain ⟨k1, k2⟩ := kpre (As := .ref b :: As) hE hP hD hS hA hAs isC hC hnC
  have ht := S.2.2.2.2
  exact callK (va_runVN S hM ⟨va_cnB As.length ht (gC hg) rfl rfl rfl hNk (ht _ hg2) hd hRm, ht _ hg3, ht _ hg4⟩ ⟨k1, va_recv hE.1 hP hc hq, k2⟩ rfl rfl hsize hst (lv_room hroom) hdg hf) hP hD hS hA isC isR isQ hC hR hn hdis hQ hnQ kk
theorem kcS (S : CallFix p m c cc nL s args wAll own) (hE : EV D cy s0 tW s) (hP : va_P D vwCl ws H) (hD : va_D A ws) (hS : va_S A s.heap H locs) (hA : ∀ q, s.heap.size ≤ q → A q) (hAs : ∀ q, A q → s0 ≤ q) (isC isR isQ : List Nat) (hM : KM l D cy s0 tW y bytes maxL ret f lo As H.size Wc o Wc1)
    (hg : GoodIn wAll (va_wsS own index y (Cond.code y bytes maxL ret :: wAll))) (hd : y.cls ≠ "java/lang/invoke/MethodHandle" ∧ y.cls ≠ "java/lang/invoke/VarHandle" ∧ (parseMethodDescriptor y.desc).map (fun d => d.parameters.length) = some As.length) (hRm : f + 1 ≤ R.frames ∧ 8 + (maxL + 11) + lo ≤ R.locals)
    (hC : isC.map (fun i => ws[i]?) = Wc.map some) (hnC : va_nd isC = true) (hR : isR.map (fun i => ws[i]?) = wr.map some) (hn : va_nd isR = true) (hdis : (isR.all (fun i => !(isC.contains i))) = true) (hQ : isQ.map (fun i => (wr ++ Wc1)[i]?) = wsN.map some) (hnQ : va_nd isQ = true)
    (hsize : ls.size = nL) (hst : st = As.reverse ++ rest) (hroom : (rest.map fun v => v.category).sum ≤ 8) (hdg : decode cc pc = .ok (.invokestatic index, 3)) (hf : cells ≤ R.cells ∧ slots ≤ R.slots)
    (kk : ∀ (H1 : Heap) (locs1 : List Loc), va_P D vwCl wsN H1 → va_D A wsN → va_S A s.heap H1 locs1 → W p l e R s m args below meth c H1 locs1 cells slots Q (F0 m (pc + 3) ls (o.toList ++ rest))) : W p l e R s m args below meth c H locs cells slots Q (F0 m pc ls st) := by
  have kp := kpre (As := As) hE hP hD hS hA hAs isC hC hnC
  exact callK (va_runS S hM (va_cwS As.length S.2.2.2.2 hg rfl rfl rfl hd hRm) kp rfl rfl hsize hst (lv_room hroom) hdg hf) hP hD hS hA isC isR isQ hC hR hn hdis hQ hnQ kk
theorem kcSN {host : String} (S : CallFix p m c cc nL s args wAll own) (hE : EV D cy s0 tW s) (hP : va_P D vwCl ws H) (hD : va_D A ws) (hS : va_S A s.heap H locs) (hA : ∀ q, s.heap.size ≤ q → A q) (hAs : ∀ q, A q → s0 ≤ q) (isC isR isQ : List Nat) (hM : KM l D cy s0 tW y bytes maxL ret f lo As H.size Wc o Wc1)
    (hg : Cond.code y bytes maxL ret ∈ wAll) (hg2 : Cond.initialized y.cls ∈ wAll) (hg3 : Cond.static y ∈ wAll) (hNk : va_Nw (.methodLinkNest own index y host) s) (hd : y.cls ≠ "java/lang/invoke/MethodHandle" ∧ y.cls ≠ "java/lang/invoke/VarHandle" ∧ (parseMethodDescriptor y.desc).map (fun d => d.parameters.length) = some As.length) (hRm : f + 1 ≤ R.frames ∧ 8 + (maxL + 11) + lo ≤ R.locals)
    (hC : isC.map (fun i => ws[i]?) = Wc.map some) (hnC : va_nd isC = true) (hR : isR.map (fun i => ws[i]?) = wr.map some) (hn : va_nd isR = true) (hdis : (isR.all (fun i => !(isC.contains i))) = true) (hQ : isQ.map (fun i => (wr ++ Wc1)[i]?) = wsN.map some) (hnQ : va_nd isQ = true)
    (hsize : ls.size = nL) (hst : st = As.reverse ++ rest) (hroom : (rest.map fun v => v.category).sum ≤ 8) (hdg : decode cc pc = .ok (.invokestatic index, 3)) (hf : cells ≤ R.cells ∧ slots ≤ R.slots)
    (kk : ∀ (H1 : Heap) (locs1 : List Loc), va_P D vwCl wsN H1 → va_D A wsN → va_S A s.heap H1 locs1 → W p l e R s m args below meth c H1 locs1 cells slots Q (F0 m (pc + 3) ls (o.toList ++ rest))) : W p l e R s m args below meth c H locs cells slots Q (F0 m pc ls st) := by
  have kp := kpre (As := As) hE hP hD hS hA hAs isC hC hnC
  have ht := S.2.2.2.2
  exact callK (va_runSN S hM ⟨va_cnB As.length ht (gC hg) rfl rfl rfl hNk (ht _ hg2) hd hRm, ht _ hg3, trivial⟩ kp rfl rfl hsize hst (lv_room hroom) hdg hf) hP hD hS hA isC isR isQ hC hR hn hdis hQ hnQ kk
/-- arrays by a place that is named -/
theorem ka_iald (hx : p.tables.exec = Jvm.exec) (hb : c.code = cc) (hK : va_K D vwCl (tysAll cy) s) (hP : va_P D vwCl ws H) (q0 : Nat) {a n : Nat} {f : Nat → Int32} (ha : ws[q0]? = some (a, .inl (cy 0, n, .inl f))) {i : Int32} (j : Nat) (hj : i.toNatClampNeg = j) (hin : vp_in i n) (hdg : decode cc pc = .ok (.iaload, 1))
    (kk : W p l e R s m args below meth c H locs cells slots Q (F0 m (pc + 1) ls (.int (f j) :: rest))) : W p l e R s m args below meth c H locs cells slots Q (F0 m pc ls (.int i :: .ref a :: rest)) := va_iald hx hb hK hP q0 0 ha rfl hin hdg (by rw [hj]; exact kk)
theorem ka_lald (hx : p.tables.exec = Jvm.exec) (hb : c.code = cc) (hK : va_K D vwCl (tysAll cy) s) (hP : va_P D vwCl ws H) (q0 : Nat) {a n : Nat} {f : Nat → Int64} (ha : ws[q0]? = some (a, .inl (cy 1, n, .inr (.inl f)))) {i : Int32} (j : Nat) (hj : i.toNatClampNeg = j) (hin : vp_in i n) (hdg : decode cc pc = .ok (.laload, 1))
    (kk : W p l e R s m args below meth c H locs cells slots Q (F0 m (pc + 1) ls (.long (f j) :: rest))) : W p l e R s m args below meth c H locs cells slots Q (F0 m pc ls (.int i :: .ref a :: rest)) := va_lald hx hb hK hP q0 1 ha rfl hin hdg (by rw [hj]; exact kk)
theorem ka_iast (hx : p.tables.exec = Jvm.exec) (hb : c.code = cc) (hK : va_K D vwCl (tysAll cy) s) (hP : va_P D vwCl ws H) (hD : va_D A ws) (hS : va_S A s.heap H locs) (q0 : Nat) {a n : Nat} {f : Nat → Int32} (ha : ws[q0]? = some (a, .inl (cy 0, n, .inl f))) {i x : Int32} (j : Nat) (hj : i.toNatClampNeg = j) (hin : vp_in i n) (hw : ws.set q0 (a, .inl (cy 0, n, .inl (upd f j x))) = wsN) (hdg : decode cc pc = .ok (.iastore, 1))
    (kk : ∀ (H1 : Heap) (locs1 : List Loc), va_P D vwCl wsN H1 → va_D A wsN → va_S A s.heap H1 locs1 → W p l e R s m args below meth c H1 locs1 cells slots Q (F0 m (pc + 1) ls rest)) : W p l e R s m args below meth c H locs cells slots Q (F0 m pc ls (.int x :: .int i :: .ref a :: rest)) := by
  subst hj; subst hw
  exact va_iast hx hb hK hP hD hS q0 0 ha rfl hin hdg kk
theorem ka_last (hx : p.tables.exec = Jvm.exec) (hb : c.code = cc) (hK : va_K D vwCl (tysAll cy) s) (hP : va_P D vwCl ws H) (hD : va_D A ws) (hS : va_S A s.heap H locs) (q0 : Nat) {a n : Nat} {f : Nat → Int64} (ha : ws[q0]? = some (a, .inl (cy 1, n, .inr (.inl f)))) {i : Int32} {x : Int64} (j : Nat) (hj : i.toNatClampNeg = j) (hin : vp_in i n) (hw : ws.set q0 (a, .inl (cy 1, n, .inr (.inl (vp_updL f j x)))) = wsN) (hdg : decode cc pc = .ok (.lastore, 1))
    (kk : ∀ (H1 : Heap) (locs1 : List Loc), va_P D vwCl wsN H1 → va_D A wsN → va_S A s.heap H1 locs1 → W p l e R s m args below meth c H1 locs1 cells slots Q (F0 m (pc + 1) ls rest)) : W p l e R s m args below meth c H locs cells slots Q (F0 m pc ls (.long x :: .int i :: .ref a :: rest)) := by
  subst hj; subst hw
  exact va_last hx hb hK hP hD hS q0 1 ha rfl hin hdg kk
theorem ka_put {own ref C : String} {T : u_T} {N ci : Nat} (hx : p.tables.exec = Jvm.exec) (hb : c.code = cc) {Ts : List Cond} (hts : ∀ w ∈ Ts, w.before args s = true) (hin : ∀ w ∈ u_ws C T N, w ∈ Ts) (ty0 : Nat → FieldType) (hty : ∀ k, k < N → parseFieldDescriptor (T k).2.2.1 = some (ty0 k)) (hnm : ∀ a, a < N → ∀ b, b < N → a ≠ b → (T a).2.1 ≠ (T b).2.1) (hown : s.vm.findClass own = some m.cls) (hK : va_K D vwCl (tysAll cy) s) (hP : va_P D vwCl ws H) (hD : va_D A ws) (hS0 : va_S A s.heap H locs) (q0 : Nat) {a : Nat} {fs : List Value} (he : ws[q0]? = some (a, .inr (ci, fs))) (hc : vwCl[ci]? = some (C, T, N)) (k : Nat) (hk : k < N) (hlink : (Cond.fieldLink own index ref (T k).2.1 (T k).2.2.1).before args s = true) (hsame : ∀ x, s.fieldFound? (T k).1 (T k).2.1 (T k).2.2.1 = some x → s.fieldFound? ref (T k).2.1 (T k).2.2.1 = some x) (hfin : (T k).2.2.2 = false) {ty : FieldType} {v : Value} (hd : parseFieldDescriptor (T k).2.2.1 = some ty) (hn : narrow ty v = v) (hfit : fits ty v = true) (hl : k < fs.length)
    (hw : ws.set q0 (a, .inr (ci, fs.set k v)) = wsN) (hdg : decode cc pc = .ok (.putfield index, 3)) (kk : ∀ (H1 : Heap) (locs1 : List Loc), va_P D vwCl wsN H1 → va_D A wsN → va_S A s.heap H1 locs1 → W p l e R s m args below meth c H1 locs1 cells slots Q (F0 m (pc + 3) ls rest)) : W p l e R s m args below meth c H locs cells slots Q (F0 m pc ls (v :: .ref a :: rest)) := by
  subst hw
  exact va_put hx hb hts hin ty0 hty hnm hown hK hP hD hS0 q0 he hc k hk hlink hsame hfin hd hn hfit hl hdg kk
theorem ka_putN {own ref C host : String} {T : u_T} {N ci : Nat} (hx : p.tables.exec = Jvm.exec) (hb : c.code = cc) {Ts : List Cond} (hts : ∀ w ∈ Ts, w.before args s = true) (hin : ∀ w ∈ u_ws C T N, w ∈ Ts) (ty0 : Nat → FieldType) (hty : ∀ k, k < N → parseFieldDescriptor (T k).2.2.1 = some (ty0 k)) (hnm : ∀ a, a < N → ∀ b, b < N → a ≠ b → (T a).2.1 ≠ (T b).2.1) (hown : s.vm.findClass own = some m.cls) (hK : va_K D vwCl (tysAll cy) s) (hP : va_P D vwCl ws H) (hD : va_D A ws) (hS0 : va_S A s.heap H locs) (q0 : Nat) {a : Nat} {fs : List Value} (he : ws[q0]? = some (a, .inr (ci, fs))) (hc : vwCl[ci]? = some (C, T, N)) (k : Nat) (hk : k < N) (hlink : (Cond.fieldLinkNest own index ref (T k).2.1 (T k).2.2.1 host).before args s = true) (hsame : ∀ x, s.fieldFound? (T k).1 (T k).2.1 (T k).2.2.1 = some x → s.fieldFound? ref (T k).2.1 (T k).2.2.1 = some x) (hfin : (T k).2.2.2 = false) {ty : FieldType} {v : Value} (hd : parseFieldDescriptor (T k).2.2.1 = some ty) (hn : narrow ty v = v) (hfit : fits ty v = true) (hl : k < fs.length)
    (hw : ws.set q0 (a, .inr (ci, fs.set k v)) = wsN) (hdg : decode cc pc = .ok (.putfield index, 3)) (kk : ∀ (H1 : Heap) (locs1 : List Loc), va_P D vwCl wsN H1 → va_D A wsN → va_S A s.heap H1 locs1 → W p l e R s m args below meth c H1 locs1 cells slots Q (F0 m (pc + 3) ls rest)) : W p l e R s m args below meth c H locs cells slots Q (F0 m pc ls (v :: .ref a :: rest)) := by
  subst hw
  exact va_putN hx hb hts hin ty0 hty hnm hown hK hP hD hS0 q0 he hc k hk hlink hsame hfin hd hn hfit hl hdg kk
end K4
def nn64 (r : UInt64) : Bool := decide (r &&& 0x7fffffffffffffff ≤ 0x7ff0000000000000)
theorem nn64_n {r : UInt64} (h : nn64 r = true) : vf_n64 r := (of_decide_eq_true h : r &&& 0x7fffffffffffffff ≤ 0x7ff0000000000000)
theorem sw_ne {x k : Int32} {a : Int} (h : ¬ x = k) (hk : k.toInt = a) : x.toInt ≠ a := fun e => h (Int32.toInt_inj.mp (e.trans hk.symm))
/-- a saved state: variables, breakers, clauses, positive, negative, learned, rounds -/
abbrev StT : Type := Int32 × Int32 × Int32 × (Nat → Int32) × (Nat → Int32) × Int32 × Int32
def updS (S : Nat → StT) (j : Nat) (w : StT) : Nat → StT := fun k => match Nat.beq k j with
  | true => w
  | false => S k
def rg4 (A : Nat → Nat) : Nat → Option Nat := fun j => match j with
  | 0 => some (A 1)
  | 1 => some (A 4)
  | 2 => some (A 7)
  | 3 => some (A 10)
  | _ => none
end
section
/-! CONSTRUCTORS: contracts that make cells -/
def zI : Nat → Int32 := fun _ => 0
def zL : Nat → Int64 := fun _ => 0
def zB : Nat → Bool := fun _ => false
def kQN (D : va_G) (A : Nat → Prop) (Wf : (Nat → Nat) → va_W) : Array Value → State → Outcome → State → Prop := fun _ st oc t => (∃ u : Nat → Nat, oc = .returned none ∧ va_P D vwCl (Wf u) t.heap ∧ va_D A (Wf u)) ∧ va_F A st t
abbrev rmN (f mc ms lo : Nat) : Room := { frames := f, cells := mc, slots := ms, locals := lo }
def KN (l : Launch) (D : va_G) (cy : Nat → ClassId) (s0 tW : Nat) (y : MethodName) (bytes : ByteArray) (maxL : Nat) (f mc ms lo : Nat) (As : List Value) (sz : Nat) (W0 : va_W) (Wf : (Nat → Nat) → va_W) : Prop :=
  Met l y (Cond.code y bytes maxL none :: wAll) (rmN f mc ms lo) (va_Pc As (cPre D cy s0 tW sz W0)) (kQN D (va_A W0 sz) Wf) mc ms (va_A W0 sz)
theorem KN.intro {l : Launch} {D : va_G} {cy : Nat → ClassId} {s0 tW : Nat} {y : MethodName} {bytes : ByteArray} {maxL : Nat} {f mc ms lo : Nat} {As : List Value} {sz : Nat} {W0 : va_W} {Wf : (Nat → Nat) → va_W} (hy : plainName y.cls = true) (hn : (lg_sl As).length ≤ maxL)
    (body : ∀ (p : Program) (e : Env) (s : State) (m : MethodId) (args : Array Value) (below : List Frame) (meth : Method) (c : Code) (A : Nat → Prop) (ls : Array Slot), p.tables.exec = Jvm.exec → c.code = bytes → meth.sig.returnType = none → c.maxLocals = maxL → s.vm.findClass y.cls = some m.cls → (∀ w ∈ wAll, w.before args s = true) → meth.locks = false → meth.name = y.name → EV D cy s0 tW s → va_P D vwCl W0 s.heap → va_D A W0 → va_S A s.heap s.heap [] → (∀ q, s.heap.size ≤ q → A q) → (∀ q, A q → s0 ≤ q) → lv_has ls maxL (lv_args 0 As) →
      W p l e (rmN f mc ms lo) s m args below meth c s.heap [] 0 0 (MQ below (kQN D A Wf) args s mc ms A) (F0 m 0 ls [])) : KN l D cy s0 tW y bytes maxL f mc ms lo As sz W0 Wf := by
  refine Met.ofW (cc := bytes) (maxL := maxL) (ret := none) hy rfl ?_
  intro p e s m args below meth c s₁ B hml hv
  obtain ⟨rfl, hsz, hP, hD0, hs0, hE⟩ := hv
  have hts := atoms_spec (ws := Cond.code y bytes maxL none :: wAll) B.pre
  subst hsz
  rw [lg_entry_eq]
  refine body p e s m _ below meth c _ _ B.exec B.bytes B.returns hml (findClass_of_methodNamed B.named) (fun w h => hts w (List.mem_cons_of_mem _ h)) B.notSynchronized (name_of_methodNamed B.named B.method).1 hE hP (hD0.self (sz := s.heap.size)) va_S.rf (fun q h => Or.inr h) ?_ (lv_entry As hn)
  intro q hq
  rcases hq with ⟨k, e9, hk⟩ | hq
  · exact hD0.2 k _ hk
  · exact Nat.le_trans hs0 hq
section K5
variable {p : Program} {l : Launch} {e : Env} {R : Room} {s : State} {m : MethodId} {args : Array Value} {below : List Frame} {meth : Method} {c : Code} {H : Heap} {locs : List Loc} {cells slots : Nat} {Q : State → Prop}
variable {D : va_G} {cy : Nat → ClassId} {s0 tW : Nat} {A : Nat → Prop} {cc : ByteArray} {pc : Nat} {ls : Array Slot}
theorem kret_n {mc ms : Nat} {Wf : (Nat → Nat) → va_W} (u : Nat → Nat) (hx : p.tables.exec = Jvm.exec) (hb : c.code = cc) (hr : meth.sig.returnType = none) (hlocks : meth.locks = false) (hP : va_P D vwCl (Wf u) H) (hD : va_D A (Wf u)) (hS : va_S A s.heap H locs) (hdg : decode cc pc = .ok (.return_, 1)) : W p l e R s m args below meth c H locs mc ms (MQ below (kQN D A Wf) args s mc ms A) (F0 m pc ls []) :=
  W.vret hx hb hr (fun t ht hW => ⟨⟨u, rfl, by rw [ht]; exact hP, hD⟩, hS.F ht⟩) hS.2.2 hdg hlocks
variable {y : MethodName} {bytes : ByteArray} {maxL nL index f mc ms lo : Nat} {own : String} {b : Nat} {rest st : List Value} {ws Wc wr : va_W} {Wf : (Nat → Nat) → va_W}
theorem callKN {st0 : List Value} {a : Array Value} (hr : va_Run p l e R s m args below meth c H locs cells slots mc ms (F0 m pc ls st0) rest (kQN D (va_A Wc H.size) Wf a) (va_A Wc H.size)) (hP : va_P D vwCl ws H) (hD : va_D A ws) (hS : va_S A s.heap H locs) (hA : ∀ q, s.heap.size ≤ q → A q) (isC isR : List Nat)
    (hC : isC.map (fun i => ws[i]?) = Wc.map some) (hR : isR.map (fun i => ws[i]?) = wr.map some) (hn : va_nd isR = true) (hdis : (isR.all (fun i => !(isC.contains i))) = true)
    (kk : ∀ (u : Nat → Nat) (H1 : Heap) (locs1 : List Loc), va_P D vwCl (wr ++ Wf u) H1 → va_D A (wr ++ Wf u) → va_S A s.heap H1 locs1 → W p l e R s m args below meth c H1 locs1 (cells + mc) (slots + ms) Q (F0 m (pc + 3) ls rest)) : W p l e R s m args below meth c H locs cells slots Q (F0 m pc ls st0) := by
  intro T hT X
  obtain ⟨v, st₀, t, T', L, h0, X', hL, e1, e2, ⟨⟨u, hv, hp1, hd1⟩, hz, hk⟩, st⟩ := hr T hT X
  cases hv
  rw [h0] at hz hk
  have hF : ∀ q, va_A Wc H.size q → A q := va_free hD hS hA isC hC
  have hdis' : ∀ i ∈ isR, i ∉ isC := fun i hi hc => by
    have h1 := List.all_eq_true.mp hdis i hi
    rw [List.contains_iff_mem.mpr hc] at h1
    cases h1
  obtain ⟨hP2, hD2⟩ := va_join (H1 := T'.heap) hP hD isC isR hC hR hn hdis' (fun q h1 h2 => by rw [e1]; exact hk q h1 h2) hF (by rw [e1]; exact hp1) hd1
  obtain ⟨t2, a1, b1⟩ := kk u T'.heap (locs ++ L) hP2 hD2
    ⟨Nat.le_trans hS.1 (by rw [e1]; exact hz), fun q h1 h2 => by rw [e1, hk q (Nat.lt_of_lt_of_le h1 hS.1) (fun z => h2 (hF q z))]; exact hS.2.1 q h1 h2, fun q hq => by
      rcases List.mem_append.mp hq with h | h
      · exact hS.2.2 q h
      · exact hF _ (hL q h)⟩ T' rfl X'
  exact ⟨t2, st t2 a1, b1⟩
theorem kcI (S : CallFix p m c cc nL s args wAll own) (hE : EV D cy s0 tW s) (hP : va_P D vwCl ws H) (hD : va_D A ws) (hS : va_S A s.heap H locs) (hA : ∀ q, s.heap.size ≤ q → A q) (hAs : ∀ q, A q → s0 ≤ q) (isC isR : List Nat) (hM : KN l D cy s0 tW y bytes maxL f mc ms lo [.ref b] H.size Wc Wf)
    (hg : Cond.code y bytes maxL none ∈ wAll) (hg2 : Cond.initialized y.cls ∈ wAll) (hg3 : Cond.instanceMethod y ∈ wAll) (hl : Cond.methodLink own index y ∈ wAll) (hy1 : y.name = "<init>") (hd : y.cls ≠ "java/lang/invoke/MethodHandle" ∧ y.cls ≠ "java/lang/invoke/VarHandle" ∧ (parseMethodDescriptor y.desc).map (fun d => d.parameters.length) = some 0) (hRm : f + 1 ≤ R.frames ∧ 8 + (maxL + 11) + lo ≤ R.locals)
    (hC : isC.map (fun i => ws[i]?) = Wc.map some) (hnC : va_nd isC = true) (hR : isR.map (fun i => ws[i]?) = wr.map some) (hn : va_nd isR = true) (hdis : (isR.all (fun i => !(isC.contains i))) = true)
    (hsize : ls.size = nL) (hroom : (rest.map fun v => v.category).sum ≤ 8) (hdg : decode cc pc = .ok (.invokespecial index, 3)) (hf : cells + mc ≤ R.cells ∧ slots + ms ≤ R.slots)
    (kk : ∀ (u : Nat → Nat) (H1 : Heap) (locs1 : List Loc), va_P D vwCl (wr ++ Wf u) H1 → va_D A (wr ++ Wf u) → va_S A s.heap H1 locs1 → W p l e R s m args below meth c H1 locs1 (cells + mc) (slots + ms) Q (F0 m (pc + 3) ls rest)) : W p l e R s m args below meth c H locs cells slots Q (F0 m pc ls (.ref b :: rest)) := by
  have kp := kpre (As := [.ref b]) hE hP hD hS hA hAs isC hC hnC
  have ht := S.2.2.2.2
  exact callKN (va_runI (As := []) S hM (cwI 0 ht (gC hg) rfl rfl rfl (ht _ hg2) (ht _ hl) (ht _ hg3) hy1 hd hRm) kp rfl rfl hsize rfl (lv_room hroom) hdg hf) hP hD hS hA isC isR hC hR hn hdis kk
theorem kcIN {host : String} (S : CallFix p m c cc nL s args wAll own) (hE : EV D cy s0 tW s) (hP : va_P D vwCl ws H) (hD : va_D A ws) (hS : va_S A s.heap H locs) (hA : ∀ q, s.heap.size ≤ q → A q) (hAs : ∀ q, A q → s0 ≤ q) (isC isR : List Nat) (hM : KN l D cy s0 tW y bytes maxL f mc ms lo [.ref b] H.size Wc Wf)
    (hg : Cond.code y bytes maxL none ∈ wAll) (hg2 : Cond.initialized y.cls ∈ wAll) (hg3 : Cond.instanceMethod y ∈ wAll) (hNk : va_Nw (.methodLinkNest own index y host) s) (hy1 : y.name = "<init>") (hd : y.cls ≠ "java/lang/invoke/MethodHandle" ∧ y.cls ≠ "java/lang/invoke/VarHandle" ∧ (parseMethodDescriptor y.desc).map (fun d => d.parameters.length) = some 0) (hRm : f + 1 ≤ R.frames ∧ 8 + (maxL + 11) + lo ≤ R.locals)
    (hC : isC.map (fun i => ws[i]?) = Wc.map some) (hnC : va_nd isC = true) (hR : isR.map (fun i => ws[i]?) = wr.map some) (hn : va_nd isR = true) (hdis : (isR.all (fun i => !(isC.contains i))) = true)
    (hsize : ls.size = nL) (hroom : (rest.map fun v => v.category).sum ≤ 8) (hdg : decode cc pc = .ok (.invokespecial index, 3)) (hf : cells + mc ≤ R.cells ∧ slots + ms ≤ R.slots)
    (kk : ∀ (u : Nat → Nat) (H1 : Heap) (locs1 : List Loc), va_P D vwCl (wr ++ Wf u) H1 → va_D A (wr ++ Wf u) → va_S A s.heap H1 locs1 → W p l e R s m args below meth c H1 locs1 (cells + mc) (slots + ms) Q (F0 m (pc + 3) ls rest)) : W p l e R s m args below meth c H locs cells slots Q (F0 m pc ls (.ref b :: rest)) := by
  have kp := kpre (As := [.ref b]) hE hP hD hS hA hAs isC hC hnC
  have ht := S.2.2.2.2
  exact callKN (va_runIN (As := []) S hM ⟨va_cnB 0 ht (gC hg) rfl rfl rfl hNk (ht _ hg2) hd hRm, hy1, ht _ hg3⟩ kp rfl rfl hsize rfl (lv_room hroom) hdg hf) hP hD hS hA isC isR hC hR hn hdis kk
theorem ka_newI {N' : Nat} (hx : p.tables.exec = Jvm.exec) (hb : c.code = cc) (hts : ∀ w ∈ wAll, w.before args s = true) (harr : Cond.arrayClass .int ∈ wAll) (hK : va_K D vwCl (tysAll cy) s) (hP : va_P D vwCl ws H) (hD : va_D A ws) (hS : va_S A s.heap H locs) (hA : ∀ q, s.heap.size ≤ q → A q) {n : Int32} (hn : ¬ n < 0) (hN : n.toNatClampNeg = N') (hbytes : N' * componentBytes .int ≤ 536870912) (hcells : cells + 1 ≤ R.cells) (hslots : slots + N' ≤ R.slots) (hdg : decode cc pc = .ok (.newarray .int, 2))
    (kk : ∀ (q : Nat) (H1 : Heap), va_P D vwCl (ws ++ [(q, .inl (cy 0, N', .inl zI))]) H1 → va_D A (ws ++ [(q, .inl (cy 0, N', .inl zI))]) → va_S A s.heap H1 locs → W p l e R s m args below meth c H1 locs (cells + 1) (slots + N') Q (F0 m (pc + 2) ls (.ref q :: rest))) : W p l e R s m args below meth c H locs cells slots Q (F0 m pc ls (.int n :: rest)) := by
  refine va_newa (atype := .int) hx hb (hts _ harr) rfl hK hP hD hS hA (a0 := (N', .inl zI)) (fun _ => rfl) hn hN hbytes hcells hslots hdg (fun q cA H1 hK2 hP2 hD2 hS2 => ?_)
  have h1 : s.vm.findClass ("[" ++ (FieldType.int).toString) = some cA := (hK2.2 3 _ rfl).2
  have h2 : s.vm.findClass ("[" ++ (FieldType.int).toString) = some (cy 0) := (hK.2 0 _ rfl).2
  cases Option.some.inj (h1.symm.trans h2)
  exact kk q H1 hP2 hD2 hS2
theorem ka_newJ {N' : Nat} (hx : p.tables.exec = Jvm.exec) (hb : c.code = cc) (hts : ∀ w ∈ wAll, w.before args s = true) (harr : Cond.arrayClass .long ∈ wAll) (hK : va_K D vwCl (tysAll cy) s) (hP : va_P D vwCl ws H) (hD : va_D A ws) (hS : va_S A s.heap H locs) (hA : ∀ q, s.heap.size ≤ q → A q) {n : Int32} (hn : ¬ n < 0) (hN : n.toNatClampNeg = N') (hbytes : N' * componentBytes .long ≤ 536870912) (hcells : cells + 1 ≤ R.cells) (hslots : slots + N' ≤ R.slots) (hdg : decode cc pc = .ok (.newarray .long, 2))
    (kk : ∀ (q : Nat) (H1 : Heap), va_P D vwCl (ws ++ [(q, .inl (cy 1, N', .inr (.inl zL)))]) H1 → va_D A (ws ++ [(q, .inl (cy 1, N', .inr (.inl zL)))]) → va_S A s.heap H1 locs → W p l e R s m args below meth c H1 locs (cells + 1) (slots + N') Q (F0 m (pc + 2) ls (.ref q :: rest))) : W p l e R s m args below meth c H locs cells slots Q (F0 m pc ls (.int n :: rest)) := by
  refine va_newa (atype := .long) hx hb (hts _ harr) rfl hK hP hD hS hA (a0 := (N', .inr (.inl zL))) (fun _ => rfl) hn hN hbytes hcells hslots hdg (fun q cA H1 hK2 hP2 hD2 hS2 => ?_)
  have h1 : s.vm.findClass ("[" ++ (FieldType.long).toString) = some cA := (hK2.2 3 _ rfl).2
  have h2 : s.vm.findClass ("[" ++ (FieldType.long).toString) = some (cy 1) := (hK.2 1 _ rfl).2
  cases Option.some.inj (h1.symm.trans h2)
  exact kk q H1 hP2 hD2 hS2
theorem ka_newQ {N' index : Nat} (hx : p.tables.exec = Jvm.exec) (hb : c.code = cc) {own : String} (hown : s.vm.findClass own = some m.cls) (hclink : (Cond.classLink own index "ForAllGame$State").before args s = true) (hover : va_AO "ForAllGame$State" s) (hK : va_K D vwCl (tysAll cy) s) (hP : va_P D vwCl ws H) (hD : va_D A ws) (hS : va_S A s.heap H locs) (hA : ∀ q, s.heap.size ≤ q → A q) {n : Int32} (hn : ¬ n < 0) (hN : n.toNatClampNeg = N') (hbytes : N' * 4 ≤ 536870912) (hcells : cells + 1 ≤ R.cells) (hslots : slots + N' ≤ R.slots) (hdg : decode cc pc = .ok (.anewarray index, 3))
    (kk : ∀ (q : Nat) (H1 : Heap), va_P D vwCl (ws ++ [(q, .inl (cy 2, N', .inr (.inr (.inr (.inr (fun _ => none))))))]) H1 → va_D A (ws ++ [(q, .inl (cy 2, N', .inr (.inr (.inr (.inr (fun _ => none))))))]) → va_S A s.heap H1 locs → W p l e R s m args below meth c H1 locs (cells + 1) (slots + N') Q (F0 m (pc + 3) ls (.ref q :: rest))) : W p l e R s m args below meth c H locs cells slots Q (F0 m pc ls (.int n :: rest)) := by
  refine va_newq hx hb hown hclink hover hK hP hD hS hA hn hN hbytes hcells hslots hdg (fun q cA H1 hK2 hP2 hD2 hS2 => ?_)
  obtain ⟨-, -, -, -, -, -, h1⟩ : ∃ (kA : Class) (comp : ClassId), s.vm.classes[cA]? = some kA ∧ kA.kind = .array comp (.object "ForAllGame$State") ∧ s.vm.findClass "ForAllGame$State" = some comp ∧ True ∧ s.vm.findClass ("[" ++ (FieldType.object "ForAllGame$State").toString) = some cA := by
    obtain ⟨kA, comp, a1, a2, a3, a4⟩ := (hK2.2 3 _ rfl).2
    exact ⟨kA, comp, a1, a2, a3, trivial, a4⟩
  obtain ⟨-, -, -, -, -, -, h2⟩ : ∃ (kA : Class) (comp : ClassId), s.vm.classes[cy 2]? = some kA ∧ kA.kind = .array comp (.object "ForAllGame$State") ∧ s.vm.findClass "ForAllGame$State" = some comp ∧ True ∧ s.vm.findClass ("[" ++ (FieldType.object "ForAllGame$State").toString) = some (cy 2) := by
    obtain ⟨kA, comp, a1, a2, a3, a4⟩ := (hK.2 2 _ rfl).2
    exact ⟨kA, comp, a1, a2, a3, trivial, a4⟩
  cases Option.some.inj (h1.symm.trans h2)
  exact kk q H1 hP2 hD2 hS2
end K5
end
section
/-! THROWING ENDS -/
abbrev exIAE : String := "java/lang/IllegalArgumentException"
abbrev exISE : String := "java/lang/IllegalStateException"
abbrev exIOB : String := "java/lang/IndexOutOfBoundsException"
def exN (k : Nat) : String := match k with
  | 1 => exIAE
  | 2 => exISE
  | _ => exIOB
def strs : List (Nat × String) := [(58, "the player has all variables already")]
def XS (s0 : Nat) (U : State) : Prop := vx_Zq Bundle.tN "UNASSIGNED_STACK" Bundle.steD (fun q => s0 ≤ q) U U.heap ∧ vx_Zq Bundle.tN "SUPPRESSED_SENTINEL" Bundle.listD (fun q => s0 ≤ q) U U.heap ∧ (∀ q ∈ strs, ∃ sa, vk_R RX4 q.1 q.2 sa U)
theorem XS.call {s0 : Nat} {s U : State} {A : Nat → Prop} {H : Heap} {locs : List Loc} (hX : XS s0 s) (hS : va_S A s.heap H locs) (hAs : ∀ q, A q → s0 ≤ q) (hU : U.heap = H) (hW : s.WarmedH U.vm) : XS s0 U := by
  have hq : ∀ a : Nat, a < s.heap.size → ¬ (fun q => s0 ≤ q) a → H[a]? = s.heap[a]? := fun a h1 h2 => hS.2.1 a h1 (fun h3 => h2 (hAs a h3))
  obtain ⟨h1, h2, h3⟩ := hX
  refine ⟨?_, ?_, fun q hq => ?_⟩
  · rw [hU]; exact vx_Zq.moved hW.alike (vx_Zq.kept h1 hq)
  · rw [hU]; exact vx_Zq.moved hW.alike (vx_Zq.kept h2 hq)
  · obtain ⟨sa, h⟩ := h3 q hq
    exact ⟨sa, vk_R.warm hW h⟩
theorem XS.blind {s0 : Nat} {U : State} (hX : XS s0 U) (g : JFrame) (mk : MethodId) (a : Array Value) : XS s0 (U.calling g mk a) := by
  obtain ⟨h1, h2, h3⟩ := hX
  refine ⟨vx_Zq.moved (u := U) (U := U.calling g mk a) (Vm.Alike.refl U.vm) h1, vx_Zq.moved (u := U) (U := U.calling g mk a) (Vm.Alike.refl U.vm) h2, fun q hq => ?_⟩
  obtain ⟨sa, h⟩ := h3 q hq
  exact ⟨sa, vk_R.warm (s := U) (U := U.calling g mk a) (State.WarmedH.refl U) h⟩
abbrev exNames : List String := ["java/lang/RuntimeException", "java/lang/Exception"]
theorem nest_use {w : Cond} {s : State} {args : Array Value} (hn : isNest w = true) (h : va_Nw w s) : w.before args s = true := by
  rcases isNest_cases hn with ⟨a, i, b, n, d, k, rfl⟩ | ⟨a, i, b, k, rfl⟩ | ⟨a, rfl⟩ | ⟨a, b, rfl⟩ | ⟨a, rfl⟩
  · exact va_Nw.use rfl h
  · exact va_Nw.use rfl h
  · exact va_Nw.use rfl h
  · exact va_Nw.use rfl h
  · exact h
theorem hat_of {own X : String} {ic : Nat} {s : State} {args : Array Value} (h1 : ((vx_atS own ic X exNames).filter goodWord).all (fun w => decide (w ∈ lw_tbl) && goodWord w) = true) (h2 : ((vx_atS own ic X exNames).filter (fun w => !goodWord w)).all (fun w => decide (w ∈ lw_tbl) && isNest w) = true) (hts : ∀ w ∈ wAll, w.before args s = true) (hN : NW s) : ∀ w ∈ vx_atS own ic X exNames, w.before args s = true := by
  refine vx_hat (B := (vx_atS own ic X exNames).filter (fun w => !goodWord w)) (fun w hw => hts w (wAll_sub h1 w hw)) (fun w hw => hw) (fun w hw => ?_)
  have h3 := List.all_eq_true.mp h2 w hw
  simp only [Bool.and_eq_true, decide_eq_true_eq] at h3
  exact nest_use h3.2 (hN w h3.1 h3.2)
theorem hat_ISE {s : State} {args : Array Value} (hts : ∀ w ∈ wAll, w.before args s = true) (hN : NW s) : ∀ w ∈ vx_atS RX4 60 exISE exNames, w.before args s = true := hat_of (by decide +kernel) (by decide +kernel) hts hN
theorem hgd_of {L : List Cond} (h : L.all vx_ot = true) : ∀ w ∈ L, vx_ot w = true := List.all_eq_true.mp h
def xPre (D : va_G) (cy : Nat → ClassId) (s0 tW : Nat) (sz : Nat) (W0 : va_W) (U : State) : Prop := cPre D cy s0 tW sz W0 U ∧ XS s0 U
def kQX (E : String) (D : va_G) (A : Nat → Prop) (W0 : va_W) : String → State → State → Prop := fun E' st t => E' = E ∧ va_P D vwCl W0 t.heap ∧ va_D A W0 ∧ va_F A st t
def Qno : Array Value → State → Outcome → State → Prop := fun _ _ _ _ => False
def KX (l : Launch) (D : va_G) (cy : Nat → ClassId) (s0 tW : Nat) (y : MethodName) (bytes : ByteArray) (maxL : Nat) (ret : Option FieldType) (f lo : Nat) (As : List Value) (sz : Nat) (W0 : va_W) (E : String) : Prop :=
  vx_Met l y (Cond.code y bytes maxL ret :: wAll) (rmN f 1 6 lo) (va_Pc As (xPre D cy s0 tW sz W0)) Qno (kQX E D (va_A W0 sz) W0) 1 6 (va_A W0 sz)
theorem KX.intro {l : Launch} {D : va_G} {cy : Nat → ClassId} {s0 tW : Nat} {y : MethodName} {bytes : ByteArray} {maxL : Nat} {ret : Option FieldType} {f lo : Nat} {As : List Value} {sz : Nat} {W0 : va_W} {E : String} (hy : plainName y.cls = true) (hn : (lg_sl As).length ≤ maxL)
    (body : ∀ (p : Program) (e : Env) (s : State) (m : MethodId) (args : Array Value) (below : List Frame) (meth : Method) (c : Code) (A : Nat → Prop) (ls : Array Slot), p.tables.exec = Jvm.exec → c.code = bytes → meth.sig.returnType = ret → c.maxLocals = maxL → s.vm.findClass y.cls = some m.cls → (∀ w ∈ wAll, w.before args s = true) → meth.locks = false → EV D cy s0 tW s → va_P D vwCl W0 s.heap → va_D A W0 → va_S A s.heap s.heap [] → (∀ q, s.heap.size ≤ q → A q) → (∀ q, A q → s0 ≤ q) → lv_has ls maxL (lv_args 0 As) → XS s0 s → (∀ x ∈ c.exceptionTable.toList, False) →
      W p l e (rmN f 1 6 lo) s m args below meth c s.heap [] 0 0 (vx_MQ below Qno (kQX E D A W0) args s 1 6 A) (F0 m 0 ls [])) : KX l D cy s0 tW y bytes maxL ret f lo As sz W0 E := by
  refine vx_ofW (cc := bytes) (maxL := maxL) (ret := ret) hy rfl ?_
  intro p e s m args below meth c s₁ B hml hno hv
  obtain ⟨rfl, ⟨hsz, hP, hD0, hs0, hE⟩, hX⟩ := hv
  have hts := atoms_spec (ws := Cond.code y bytes maxL ret :: wAll) B.pre
  subst hsz
  rw [lg_entry_eq]
  refine body p e s m _ below meth c _ _ B.exec B.bytes B.returns hml (findClass_of_methodNamed B.named) (fun w h => hts w (List.mem_cons_of_mem _ h)) B.notSynchronized hE hP (hD0.self (sz := s.heap.size)) va_S.rf (fun q h => Or.inr h) ?_ (lv_entry As hn) hX hno
  intro q hq
  rcases hq with ⟨k, e9, hk⟩ | hq
  · exact hD0.2 k _ hk
  · exact Nat.le_trans hs0 hq
section K7
variable {p : Program} {l : Launch} {e : Env} {R : Room} {s : State} {m : MethodId} {args : Array Value} {below : List Frame} {meth : Method} {c : Code} {H : Heap} {locs : List Loc} {cells slots : Nat} {Q : State → Prop}
variable {D : va_G} {cy : Nat → ClassId} {s0 tW : Nat} {A : Nat → Prop} {cc : ByteArray} {pc : Nat} {ls : Array Slot} {rest : List Value} {W0 : va_W} {f lo : Nat}
theorem kthrow {cls text : String} {ik is ic nL : Nat} (hl : l.stackTraces = false) (hx : p.tables.exec = Jvm.exec) (hb : c.code = cc) (hown : s.vm.findClass RX4 = some m.cls) (hts : ∀ w ∈ wAll, w.before args s = true) (hX : XS s0 s) (hno : ∀ x ∈ c.exceptionTable.toList, False) (hlocks : meth.locks = false) (hP : va_P D vwCl W0 H) (hD : va_D A W0) (hS : va_S A s.heap H locs) (hAs : ∀ q, A q → s0 ≤ q) (hml : c.maxLocals = nL) (hsize : ls.size = nL)
    (hcls : Bundle.fit cls = true) (hk : Cond.classLink RX4 ik cls ∈ wAll) (hi : Cond.initialized cls ∈ wAll) (hstr : (is, text) ∈ strs) (hat : ∀ w ∈ vx_atS RX4 ic cls exNames, w.before args s = true) (hgood : (Cond.classLink RX4 ik cls :: Cond.initialized cls :: vx_atS RX4 ic cls exNames).all vx_ot = true)
    (d0 : decode cc pc = .ok (.new ik, 3)) (d3 : decode cc (pc + 3) = .ok (.dup, 1)) (d4 : decode cc (pc + 4) = .ok (.ldc is, 2)) (d6 : decode cc (pc + 6) = .ok (.invokespecial ic, 3)) (d9 : decode cc (pc + 9) = .ok (.athrow, 1)) (hf : 5 < f) (hlo : (rest.map fun v => v.category).sum + 82 ≤ lo) :
    W p l e (rmN f 1 6 lo) s m args below meth c H locs 0 0 (vx_MQ below Qno (kQX cls D A W0) args s 1 6 A) (F0 m pc ls rest) := by
  obtain ⟨sa, hsa⟩ := hX.2.2 _ hstr
  refine vx_throwS (names := exNames) hx hb hl hown hcls (by decide +kernel) (hts _ hk) (hts _ hi) hsa hat (hgd_of hgood) (vx_Zq.narrow hX.1 hAs) (vx_Zq.narrow hX.2.1 hAs) hS (by rw [hml]; exact hsize) d0 d3 d4 d6 d9 (fun x h => (hno x h).elim) hf hlo (Nat.le_refl 1) (Nat.le_refl 6) hlocks (fun t hv hz hk => ⟨rfl, ?_, hD, ?_, ?_⟩) hS.2.2 (Nat.le_refl 1) (Nat.le_refl 6)
  · exact hP.kept (fun k q h => hk q.1 (hP k q h).lt)
  · exact Nat.le_trans hS.1 hz
  · intro q h1 h2
    rw [hk q (Nat.lt_of_lt_of_le h1 hS.1)]
    exact hS.2.1 q h1 h2
theorem kthrowW {cls text : String} {ik is ic nL : Nat} (hl : l.stackTraces = false) (hx : p.tables.exec = Jvm.exec) (hb : c.code = cc) (hown : s.vm.findClass RX4 = some m.cls) (hts : ∀ w ∈ wAll, w.before args s = true) (hX : XS s0 s) (hno : ∀ x ∈ c.exceptionTable.toList, False) (hlocks : meth.locks = false) (hP : va_P D vwCl W0 H) (hD : va_D A W0) (hS : va_S A s.heap H locs) (hAs : ∀ q, A q → s0 ≤ q) (hml : c.maxLocals = nL) (hsize : ls.size = nL)
    (hcls : Bundle.fit cls = true) (hk : Cond.classLink RX4 ik cls ∈ wAll) (hi : Cond.initialized cls ∈ wAll) (hstr : (is, text) ∈ strs) (hat : ∀ w ∈ vx_atS RX4 ic cls exNames, w.before args s = true) (hgood : (Cond.classLink RX4 ik cls :: Cond.initialized cls :: vx_atS RX4 ic cls exNames).all vx_ot = true)
    (d0 : decode cc pc = .ok (.new ik, 3)) (d3 : decode cc (pc + 3) = .ok (.dup, 1)) (d4 : decode cc (pc + 4) = .ok (.ldc_w is, 3)) (d6 : decode cc (pc + 7) = .ok (.invokespecial ic, 3)) (d9 : decode cc (pc + 10) = .ok (.athrow, 1)) (hf : 5 < f) (hlo : (rest.map fun v => v.category).sum + 82 ≤ lo) :
    W p l e (rmN f 1 6 lo) s m args below meth c H locs 0 0 (vx_MQ below Qno (kQX cls D A W0) args s 1 6 A) (F0 m pc ls rest) := by
  obtain ⟨sa, hsa⟩ := hX.2.2 _ hstr
  refine vx_throwSW (names := exNames) hx hb hl hown hcls (by decide +kernel) (hts _ hk) (hts _ hi) hsa hat (hgd_of hgood) (vx_Zq.narrow hX.1 hAs) (vx_Zq.narrow hX.2.1 hAs) hS (by rw [hml]; exact hsize) d0 d3 d4 d6 d9 (fun x h => (hno x h).elim) hf hlo (Nat.le_refl 1) (Nat.le_refl 6) hlocks (fun t hv hz hk => ⟨rfl, ?_, hD, ?_, ?_⟩) hS.2.2 (Nat.le_refl 1) (Nat.le_refl 6)
  · exact hP.kept (fun k q h => hk q.1 (hP k q h).lt)
  · exact Nat.le_trans hS.1 hz
  · intro q h1 h2
    rw [hk q (Nat.lt_of_lt_of_le h1 hS.1)]
    exact hS.2.1 q h1 h2
theorem kpreX {ws Wc : va_W} {As : List Value} (hE : EV D cy s0 tW s) (hX : XS s0 s) (hP : va_P D vwCl ws H) (hD : va_D A ws) (hS : va_S A s.heap H locs) (hA : ∀ q, s.heap.size ≤ q → A q) (hAs : ∀ q, A q → s0 ≤ q) (isC : List Nat) (hC : isC.map (fun i => ws[i]?) = Wc.map some) (hnC : va_nd isC = true) : FrameBlind (va_Pc As (xPre D cy s0 tW H.size Wc)) ∧ ∀ U : State, U.heap = H → s.WarmedH U.vm → va_Pc As (xPre D cy s0 tW H.size Wc) As.toArray U := by
  obtain ⟨k1, k2⟩ := kpre (As := As) hE hP hD hS hA hAs isC hC hnC
  refine ⟨fun a U g mk q => ?_, fun U hU hW => ⟨rfl, (k2 U hU hW).2, hX.call hS hAs hU hW⟩⟩
  obtain ⟨q0, q1, q2⟩ := q
  exact ⟨q0, (k1 a U g mk ⟨q0, q1⟩).2, q2.blind g mk a⟩
theorem callKX {ws Wc wr wsN : va_W} {E : String} {st0 : List Value} {a : Array Value} {y : MethodName} (hr : vx_Run p l e R s m args below meth c H locs cells slots 1 6 (F0 m pc ls st0) rest (Qno a) (kQX E D (va_A Wc H.size) Wc) (va_A Wc H.size)) (hP : va_P D vwCl ws H) (hD : va_D A ws) (hS : va_S A s.heap H locs) (hA : ∀ q, s.heap.size ≤ q → A q) (isC isR isQ : List Nat)
    (hC : isC.map (fun i => ws[i]?) = Wc.map some) (hR : isR.map (fun i => ws[i]?) = wr.map some) (hn : va_nd isR = true) (hdis : (isR.all (fun i => !(isC.contains i))) = true) (hQ : isQ.map (fun i => (wr ++ Wc)[i]?) = wsN.map some) (hnQ : va_nd isQ = true)
    (kx : ∀ (q9 : Nat) (ce : Cell) (H1 : Heap) (locs1 : List Loc), va_P D vwCl wsN H1 → va_D A wsN → va_S A s.heap H1 locs1 → H1[q9]? = some ce → ce.vm = .none → s.vm.findClass E = some ce.cls → vx_W p l e R s m args below meth c H1 locs1 (cells + 1) (slots + 6) Q (F0 m pc ls rest) q9) : W p l e R s m args below meth c H locs cells slots Q (F0 m pc ls st0) := by
  intro T hT X
  rcases hr T hT X with ⟨v, st₀, t, T', L, h0, X', hL, e1, e2, hq, st⟩ | ⟨q, st₀, t, T', L, E', ce, h0, X', hL, e1, e2, ⟨hEE, hp1, hd1, hz, hk⟩, hce, hcv, hcl, st⟩
  · exact hq.elim
  · subst hEE
    rw [h0] at hz hk
    have hF : ∀ q, va_A Wc H.size q → A q := va_free hD hS hA isC hC
    have hdis' : ∀ i ∈ isR, i ∉ isC := fun i hi hc => by
      have h1 := List.all_eq_true.mp hdis i hi
      rw [List.contains_iff_mem.mpr hc] at h1
      cases h1
    obtain ⟨hP2, hD2⟩ := va_join (H1 := T'.heap) hP hD isC isR hC hR hn hdis' (fun q h1 h2 => by rw [e1]; exact hk q h1 h2) hF (by rw [e1]; exact hp1) hd1
    obtain ⟨t2, a1, b1⟩ := kx q ce T'.heap (locs ++ L) (hP2.sub isQ (fm_of_map hQ)) (hD2.sub isQ hnQ hQ)
      ⟨Nat.le_trans hS.1 (by rw [e1]; exact hz), fun q h1 h2 => by rw [e1, hk q (Nat.lt_of_lt_of_le h1 hS.1) (fun z => h2 (hF q z))]; exact hS.2.1 q h1 h2, fun q hq => by
        rcases List.mem_append.mp hq with h | h
        · exact hS.2.2 q h
        · exact hF _ (hL q h)⟩ (by rw [e1]; exact hce) hcv hcl T' rfl X'
    exact ⟨t2, st.trans a1, b1⟩
variable {y : MethodName} {bytes : ByteArray} {maxL nL index : Nat} {ret : Option FieldType} {own : String} {b : Nat} {As st : List Value} {ws Wc wr wsN : va_W}
theorem kxV {ci q0 : Nat} {q : vw_C} {fs : List Value} {E : String} (S : CallFix p m c cc nL s args wAll own) (hE : EV D cy s0 tW s) (hX : XS s0 s) (hP : va_P D vwCl ws H) (hD : va_D A ws) (hS : va_S A s.heap H locs) (hA : ∀ q, s.heap.size ≤ q → A q) (hAs : ∀ q, A q → s0 ≤ q) (isC isR isQ : List Nat) (hM : KX l D cy s0 tW y bytes maxL ret f lo (.ref b :: As) H.size Wc E)
    (hg : GoodIn wAll (wsV own index q.1 y (Cond.code y bytes maxL ret :: wAll))) (hd : y.cls = q.1 ∧ y.cls ≠ "java/lang/invoke/MethodHandle" ∧ y.cls ≠ "java/lang/invoke/VarHandle" ∧ (parseMethodDescriptor y.desc).map (fun d => d.parameters.length) = some As.length) (hRm : f + 1 ≤ R.frames ∧ 8 + (maxL + 11) + lo ≤ R.locals)
    (hq : ws[q0]? = some (b, .inr (ci, fs))) (hc : vwCl[ci]? = some q) (hC : isC.map (fun i => ws[i]?) = Wc.map some) (hnC : va_nd isC = true) (hR : isR.map (fun i => ws[i]?) = wr.map some) (hn : va_nd isR = true) (hdis : (isR.all (fun i => !(isC.contains i))) = true) (hQ : isQ.map (fun i => (wr ++ Wc)[i]?) = wsN.map some) (hnQ : va_nd isQ = true)
    (hsize : ls.size = nL) (hst : st = As.reverse ++ .ref b :: rest) (hroom : (rest.map fun v => v.category).sum ≤ 8) (hdg : decode cc pc = .ok (.invokevirtual index, 3)) (hf : cells + 1 ≤ R.cells ∧ slots + 6 ≤ R.slots)
    (kx : ∀ (q9 : Nat) (ce : Cell) (H1 : Heap) (locs1 : List Loc), va_P D vwCl wsN H1 → va_D A wsN → va_S A s.heap H1 locs1 → H1[q9]? = some ce → ce.vm = .none → s.vm.findClass E = some ce.cls → vx_W p l e R s m args below meth c H1 locs1 (cells + 1) (slots + 6) Q (F0 m pc ls rest) q9) : W p l e R s m args below meth c H locs cells slots Q (F0 m pc ls st) := by
  obtain ⟨k1, k2⟩ := kpreX (As := .ref b :: As) hE hX hP hD hS hA hAs isC hC hnC
  exact callKX (y := y) (vx_runV S hM (cwV As.length S.2.2.2.2 hg rfl rfl rfl hd hRm) ⟨k1, va_recv hE.1 hP hc hq, k2⟩ rfl rfl hsize hst (lv_room hroom) hdg hf) hP hD hS hA isC isR isQ hC hR hn hdis hQ hnQ kx
/-- what the callee threw goes on to the caller -/
theorem kprop {E : String} {q9 : Nat} {ce : Cell} (hno : ∀ x ∈ c.exceptionTable.toList, False) (hlocks : meth.locks = false) (hP : va_P D vwCl W0 H) (hD : va_D A W0) (hS : va_S A s.heap H locs) (hce : H[q9]? = some ce) (hcv : ce.vm = .none) (hcl : s.vm.findClass E = some ce.cls) : vx_W p l e R s m args below meth c H locs (0 + 1) (0 + 6) (vx_MQ below Qno (kQX E D A W0) args s 1 6 A) (F0 m pc ls rest) q9 :=
  vx_out (fun x h => (hno x h).elim) hlocks hce hcv hcl (fun t ht hv => ⟨rfl, by rw [ht]; exact hP, hD, hS.F ht⟩) hS.2.2 (Nat.le_refl 1) (Nat.le_refl 6)
end K7
/-! HELPERS OF THE LAW: bodies with a table -/
def KH (l : Launch) (D : va_G) (cy : Nat → ClassId) (s0 tW : Nat) (y : MethodName) (bytes : ByteArray) (maxL : Nat) (ret : Option FieldType) (hh : List (Nat × Nat × Nat × Nat)) (f lo : Nat) (As : List Value) (sz : Nat) (W0 : va_W) (o : Option Value) (W1 : va_W) : Prop :=
  Met l y (Cond.codeWith y bytes maxL ret hh :: wAll) (rmN f 1 6 lo) (va_Pc As (xPre D cy s0 tW sz W0)) (kQ o D (va_A W0 sz) W1) 1 6 (va_A W0 sz)
theorem KH.intro {l : Launch} {D : va_G} {cy : Nat → ClassId} {s0 tW : Nat} {y : MethodName} {bytes : ByteArray} {maxL : Nat} {ret : Option FieldType} {hh : List (Nat × Nat × Nat × Nat)} {f lo : Nat} {As : List Value} {sz : Nat} {W0 : va_W} {o : Option Value} {W1 : va_W} (hy : plainName y.cls = true) (hn : (lg_sl As).length ≤ maxL)
    (body : ∀ (p : Program) (e : Env) (s : State) (m : MethodId) (args : Array Value) (below : List Frame) (meth : Method) (c : Code) (A : Nat → Prop) (ls : Array Slot), p.tables.exec = Jvm.exec → c.code = bytes → meth.sig.returnType = ret → c.maxLocals = maxL → s.vm.findClass y.cls = some m.cls → (∀ w ∈ wAll, w.before args s = true) → meth.locks = false → EV D cy s0 tW s → va_P D vwCl W0 s.heap → va_D A W0 → va_S A s.heap s.heap [] → (∀ q, s.heap.size ≤ q → A q) → (∀ q, A q → s0 ≤ q) → lv_has ls maxL (lv_args 0 As) → XS s0 s → c.exceptionTable.toList = hh.map (fun q => ⟨q.1, q.2.1, q.2.2.1, q.2.2.2⟩) →
      W p l e (rmN f 1 6 lo) s m args below meth c s.heap [] 0 0 (MQ below (kQ o D A W1) args s 1 6 A) (F0 m 0 ls [])) : KH l D cy s0 tW y bytes maxL ret hh f lo As sz W0 o W1 := by
  refine va_MetW (cc := bytes) (maxL := maxL) (ret := ret) (hh := hh) hy rfl ?_
  intro p e s m args below meth c s₁ B hml hv
  obtain ⟨rfl, ⟨hsz, hP, hD0, hs0, hE⟩, hX⟩ := hv
  have hts := atoms_spec (ws := Cond.codeWith y bytes maxL ret hh :: wAll) B.pre
  have htab := vx_table (x := y) B (hts _ List.mem_cons_self)
  subst hsz
  rw [lg_entry_eq]
  refine body p e s m _ below meth c _ _ B.exec B.bytes B.returns hml (findClass_of_methodNamed B.named) (fun w h => hts w (List.mem_cons_of_mem _ h)) B.notSynchronized hE hP (hD0.self (sz := s.heap.size)) va_S.rf (fun q h => Or.inr h) ?_ (lv_entry As hn) hX htab
  intro q hq
  rcases hq with ⟨k, e9, hk⟩ | hq
  · exact hD0.2 k _ hk
  · exact Nat.le_trans hs0 hq
section K8
variable {p : Program} {l : Launch} {e : Env} {R : Room} {s : State} {m : MethodId} {args : Array Value} {below : List Frame} {meth : Method} {c : Code} {H : Heap} {locs : List Loc} {cells slots : Nat} {Q : State → Prop}
variable {D : va_G} {cy : Nat → ClassId} {s0 tW : Nat} {A : Nat → Prop} {cc : ByteArray} {pc : Nat} {ls : Array Slot} {rest : List Value} {W1 : va_W} {f lo : Nat}
theorem kret_h {v : Int32} (hx : p.tables.exec = Jvm.exec) (hb : c.code = cc) (hr : meth.sig.returnType = some .int) (hlocks : meth.locks = false) (hP : va_P D vwCl W1 H) (hD : va_D A W1) (hS : va_S A s.heap H locs) (hdg : decode cc pc = .ok (.ireturn, 1)) : W p l e R s m args below meth c H locs 1 6 (MQ below (kQ (some (.int v)) D A W1) args s 1 6 A) (F0 m pc ls [.int v]) :=
  W.iret hx hb hr (fun t ht hW => ⟨⟨rfl, by rw [ht]; exact hP, hD⟩, hS.F ht⟩) hS.2.2 hdg hlocks
theorem gH {y : MethodName} {b : ByteArray} {n : Nat} {r : Option FieldType} {hh : List (Nat × Nat × Nat × Nat)} {own : String} {idx : Nat} (h1 : Cond.methodLink own idx y ∈ wAll) (h2 : Cond.static y ∈ wAll) (h4 : Cond.initialized y.cls ∈ wAll) (h5 : Cond.codeWith y b n r hh ∈ wAll) : GoodIn wAll (va_wsS own idx y (Cond.codeWith y b n r hh :: wAll)) := fun w h => by
  have hw : w ∈ wAll := by
    rcases List.mem_append.mp h with h | h
    · simp only [List.mem_cons, List.not_mem_nil, or_false] at h
      rcases h with e | e | e <;> (rw [e]; assumption)
    · rcases List.mem_cons.mp h with e | h
      · rw [e]; exact h5
      · exact h
  exact ⟨hw, good_of_word (wAll_good w hw)⟩
variable {y : MethodName} {bytes : ByteArray} {maxL nL index : Nat} {ret : Option FieldType} {own : String} {b : Nat} {As st : List Value} {ws Wc wr Wc1 wsN : va_W} {o : Option Value} {hh : List (Nat × Nat × Nat × Nat)}
/-- a call that makes an exception's cells, seen from the law -/
theorem callKH {st0 : List Value} {a : Array Value} {mc ms : Nat} (hr : va_Run p l e R s m args below meth c H locs cells slots mc ms (F0 m pc ls st0) rest (kQ o D (va_A Wc H.size) Wc1 a) (va_A Wc H.size)) (hP : va_P D vwCl ws H) (hD : va_D A ws) (hS : va_S A s.heap H locs) (hA : ∀ q, s.heap.size ≤ q → A q) (isC isR isQ : List Nat)
    (hC : isC.map (fun i => ws[i]?) = Wc.map some) (hR : isR.map (fun i => ws[i]?) = wr.map some) (hn : va_nd isR = true) (hdis : (isR.all (fun i => !(isC.contains i))) = true) (hQ : isQ.map (fun i => (wr ++ Wc1)[i]?) = wsN.map some) (hnQ : va_nd isQ = true)
    (kk : ∀ (H1 : Heap) (locs1 : List Loc), va_P D vwCl wsN H1 → va_D A wsN → va_S A s.heap H1 locs1 → W p l e R s m args below meth c H1 locs1 (cells + mc) (slots + ms) Q (F0 m (pc + 3) ls (o.toList ++ rest))) : W p l e R s m args below meth c H locs cells slots Q (F0 m pc ls st0) := by
  intro T hT X
  obtain ⟨v, st₀, t, T', L, h0, X', hL, e1, e2, ⟨⟨hv, hp1, hd1⟩, hz, hk⟩, st⟩ := hr T hT X
  cases hv
  rw [h0] at hz hk
  have hF : ∀ q, va_A Wc H.size q → A q := va_free hD hS hA isC hC
  have hdis' : ∀ i ∈ isR, i ∉ isC := fun i hi hc => by
    have h1 := List.all_eq_true.mp hdis i hi
    rw [List.contains_iff_mem.mpr hc] at h1
    cases h1
  obtain ⟨hP2, hD2⟩ := va_join (H1 := T'.heap) hP hD isC isR hC hR hn hdis' (fun q h1 h2 => by rw [e1]; exact hk q h1 h2) hF (by rw [e1]; exact hp1) hd1
  obtain ⟨t2, a1, b1⟩ := kk T'.heap (locs ++ L) (hP2.sub isQ (fm_of_map hQ)) (hD2.sub isQ hnQ hQ)
    ⟨Nat.le_trans hS.1 (by rw [e1]; exact hz), fun q h1 h2 => by rw [e1, hk q (Nat.lt_of_lt_of_le h1 hS.1) (fun z => h2 (hF q z))]; exact hS.2.1 q h1 h2, fun q hq => by
      rcases List.mem_append.mp hq with h | h
      · exact hS.2.2 q h
      · exact hF _ (hL q h)⟩ T' rfl X'
  exact ⟨t2, st t2 a1, b1⟩
theorem kcH (S : CallFix p m c cc nL s args wAll own) (hE : EV D cy s0 tW s) (hX : XS s0 s) (hP : va_P D vwCl ws H) (hD : va_D A ws) (hS : va_S A s.heap H locs) (hA : ∀ q, s.heap.size ≤ q → A q) (hAs : ∀ q, A q → s0 ≤ q) (isC isR isQ : List Nat) (hM : KH l D cy s0 tW y bytes maxL ret hh f lo As H.size Wc o Wc1)
    (hg : GoodIn wAll (va_wsS own index y (Cond.codeWith y bytes maxL ret hh :: wAll))) (hd : y.cls ≠ "java/lang/invoke/MethodHandle" ∧ y.cls ≠ "java/lang/invoke/VarHandle" ∧ (parseMethodDescriptor y.desc).map (fun d => d.parameters.length) = some As.length) (hRm : f + 1 ≤ R.frames ∧ 8 + (maxL + 11) + lo ≤ R.locals)
    (hC : isC.map (fun i => ws[i]?) = Wc.map some) (hnC : va_nd isC = true) (hR : isR.map (fun i => ws[i]?) = wr.map some) (hn : va_nd isR = true) (hdis : (isR.all (fun i => !(isC.contains i))) = true) (hQ : isQ.map (fun i => (wr ++ Wc1)[i]?) = wsN.map some) (hnQ : va_nd isQ = true)
    (hsize : ls.size = nL) (hst : st = As.reverse ++ rest) (hroom : (rest.map fun v => v.category).sum ≤ 8) (hdg : decode cc pc = .ok (.invokestatic index, 3)) (hf : cells + 1 ≤ R.cells ∧ slots + 6 ≤ R.slots)
    (kk : ∀ (H1 : Heap) (locs1 : List Loc), va_P D vwCl wsN H1 → va_D A wsN → va_S A s.heap H1 locs1 → W p l e R s m args below meth c H1 locs1 (cells + 1) (slots + 6) Q (F0 m (pc + 3) ls (o.toList ++ rest))) : W p l e R s m args below meth c H locs cells slots Q (F0 m pc ls st) := by
  have kp := kpreX (As := As) hE hX hP hD hS hA hAs isC hC hnC
  exact callKH (vx_runSW S hM (vx_cwSW As.length S.2.2.2.2 hg rfl rfl rfl hd hRm) kp rfl rfl hsize hst (lv_room hroom) hdg hf) hP hD hS hA isC isR isQ hC hR hn hdis hQ hnQ kk
end K8
def xb (x : Option Nat) (k : Option Nat) : Option Nat := match x with
  | some e => some e
  | none => k
theorem xb_none {k : Option Nat} {o : Nat} (h : xb none k = some o) : k = some o := h
def hb {α : Type} (x : Option Nat) (f : Nat → Option α) (k : Option α) : Option α := match x with
  | some e => f e
  | none => k
theorem hb_some {α : Type} {e : Nat} {f : Nat → Option α} {k : Option α} {o : α} (h : hb (some e) f k = some o) : f e = some o := h
theorem hb_none {α : Type} {f : Nat → Option α} {k : Option α} {o : α} (h : hb none f k = some o) : k = some o := h
end
section
/-! HELPERS WITH A TABLE THAT DON'T THROW HERE; THE SCRIPT'S READER -/
def KG (l : Launch) (D : va_G) (cy : Nat → ClassId) (s0 tW : Nat) (y : MethodName) (bytes : ByteArray) (maxL : Nat) (ret : Option FieldType) (hh : List (Nat × Nat × Nat × Nat)) (f lo : Nat) (As : List Value) (sz : Nat) (W0 : va_W) (o : Option Value) (W1 : va_W) : Prop :=
  Met l y (Cond.codeWith y bytes maxL ret hh :: wAll) (rmK f lo) (va_Pc As (cPre D cy s0 tW sz W0)) (kQ o D (va_A W0 sz) W1) 0 0 (va_A W0 sz)
theorem KG.intro {l : Launch} {D : va_G} {cy : Nat → ClassId} {s0 tW : Nat} {y : MethodName} {bytes : ByteArray} {maxL : Nat} {ret : Option FieldType} {hh : List (Nat × Nat × Nat × Nat)} {f lo : Nat} {As : List Value} {sz : Nat} {W0 : va_W} {o : Option Value} {W1 : va_W} (hy : plainName y.cls = true) (hn : (lg_sl As).length ≤ maxL)
    (body : ∀ (p : Program) (e : Env) (s : State) (m : MethodId) (args : Array Value) (below : List Frame) (meth : Method) (c : Code) (A : Nat → Prop) (ls : Array Slot), p.tables.exec = Jvm.exec → c.code = bytes → meth.sig.returnType = ret → c.maxLocals = maxL → s.vm.findClass y.cls = some m.cls → (∀ w ∈ wAll, w.before args s = true) → meth.locks = false → EV D cy s0 tW s → va_P D vwCl W0 s.heap → va_D A W0 → va_S A s.heap s.heap [] → (∀ q, s.heap.size ≤ q → A q) → (∀ q, A q → s0 ≤ q) → lv_has ls maxL (lv_args 0 As) →
      W p l e (rmK f lo) s m args below meth c s.heap [] 0 0 (MQ below (kQ o D A W1) args s 0 0 A) (F0 m 0 ls [])) : KG l D cy s0 tW y bytes maxL ret hh f lo As sz W0 o W1 := by
  refine va_MetW (cc := bytes) (maxL := maxL) (ret := ret) (hh := hh) hy rfl ?_
  intro p e s m args below meth c s₁ B hml hv
  obtain ⟨rfl, hsz, hP, hD0, hs0, hE⟩ := hv
  have hts := atoms_spec (ws := Cond.codeWith y bytes maxL ret hh :: wAll) B.pre
  subst hsz
  rw [lg_entry_eq]
  refine body p e s m _ below meth c _ _ B.exec B.bytes B.returns hml (findClass_of_methodNamed B.named) (fun w h => hts w (List.mem_cons_of_mem _ h)) B.notSynchronized hE hP (hD0.self (sz := s.heap.size)) va_S.rf (fun q h => Or.inr h) ?_ (lv_entry As hn)
  intro q hq
  rcases hq with ⟨k, e9, hk⟩ | hq
  · exact hD0.2 k _ hk
  · exact Nat.le_trans hs0 hq
/-- the script lies below what is made -/
def SX (s0 b L : Nat) (xs : Nat → Int32) (U : State) : Prop := b < s0 ∧ va_X b L xs U U.heap
theorem SX.call {s0 b L : Nat} {xs : Nat → Int32} {s U : State} {A : Nat → Prop} {H : Heap} {locs : List Loc} (hX : SX s0 b L xs s) (hbl : b < s.heap.size) (hS : va_S A s.heap H locs) (hAs : ∀ q, A q → s0 ≤ q) (hU : U.heap = H) (hW : s.WarmedH U.vm) : SX s0 b L xs U :=
  ⟨hX.1, by rw [hU]; exact va_X.moved hW.alike (va_X.kept hX.2 (hS.2.1 b hbl (fun h => absurd (hAs b h) (Nat.not_le.mpr hX.1))))⟩
theorem SX.blind {s0 b L : Nat} {xs : Nat → Int32} {U : State} (hX : SX s0 b L xs U) (g : JFrame) (mk : MethodId) (a : Array Value) : SX s0 b L xs (U.calling g mk a) := ⟨hX.1, va_X.moved (u := U) (U := U.calling g mk a) (Vm.Alike.refl U.vm) hX.2⟩
def sPre (D : va_G) (cy : Nat → ClassId) (s0 tW : Nat) (b L : Nat) (xs : Nat → Int32) (sz : Nat) (U : State) : Prop := cPre D cy s0 tW sz [] U ∧ SX s0 b L xs U
def KS (l : Launch) (D : va_G) (cy : Nat → ClassId) (s0 tW : Nat) (b L : Nat) (xs : Nat → Int32) (y : MethodName) (bytes : ByteArray) (maxL : Nat) (ret : Option FieldType) (f lo : Nat) (As : List Value) (sz : Nat) (o : Option Value) : Prop :=
  Met l y (Cond.code y bytes maxL ret :: wAll) (rmK f lo) (va_Pc As (sPre D cy s0 tW b L xs sz)) (kQ o D (va_A [] sz) []) 0 0 (va_A [] sz)
theorem KS.intro {l : Launch} {D : va_G} {cy : Nat → ClassId} {s0 tW : Nat} {b L : Nat} {xs : Nat → Int32} {y : MethodName} {bytes : ByteArray} {maxL : Nat} {ret : Option FieldType} {f lo : Nat} {As : List Value} {sz : Nat} {o : Option Value} (hy : plainName y.cls = true) (hn : (lg_sl As).length ≤ maxL)
    (body : ∀ (p : Program) (e : Env) (s : State) (m : MethodId) (args : Array Value) (below : List Frame) (meth : Method) (c : Code) (A : Nat → Prop) (ls : Array Slot), p.tables.exec = Jvm.exec → c.code = bytes → meth.sig.returnType = ret → c.maxLocals = maxL → s.vm.findClass y.cls = some m.cls → (∀ w ∈ wAll, w.before args s = true) → meth.locks = false → EV D cy s0 tW s → va_P D vwCl [] s.heap → va_D A [] → va_S A s.heap s.heap [] → (∀ q, s.heap.size ≤ q → A q) → (∀ q, A q → s0 ≤ q) → lv_has ls maxL (lv_args 0 As) → va_X b L xs s s.heap → b < s.heap.size → ¬ A b →
      W p l e (rmK f lo) s m args below meth c s.heap [] 0 0 (MQ below (kQ o D A []) args s 0 0 A) (F0 m 0 ls [])) : KS l D cy s0 tW b L xs y bytes maxL ret f lo As sz o := by
  refine Met.ofW (cc := bytes) (maxL := maxL) (ret := ret) hy rfl ?_
  intro p e s m args below meth c s₁ B hml hv
  obtain ⟨rfl, ⟨hsz, hP, hD0, hs0, hE⟩, hb0, hX⟩ := hv
  have hts := atoms_spec (ws := Cond.code y bytes maxL ret :: wAll) B.pre
  subst hsz
  rw [lg_entry_eq]
  have hA9 : ∀ q, va_A [] s.heap.size q → s0 ≤ q := by
    intro q hq
    rcases hq with ⟨k, e9, hk⟩ | hq
    · exact hD0.2 k _ hk
    · exact Nat.le_trans hs0 hq
  exact body p e s m _ below meth c _ _ B.exec B.bytes B.returns hml (findClass_of_methodNamed B.named) (fun w h => hts w (List.mem_cons_of_mem _ h)) B.notSynchronized hE hP (hD0.self (sz := s.heap.size)) va_S.rf (fun q h => Or.inr h) hA9 (lv_entry As hn) hX (Nat.lt_of_lt_of_le hb0 hs0) (fun h => absurd (hA9 b h) (Nat.not_le.mpr hb0))
section K9
variable {p : Program} {l : Launch} {e : Env} {R : Room} {s : State} {m : MethodId} {args : Array Value} {below : List Frame} {meth : Method} {c : Code} {H : Heap} {locs : List Loc} {cells slots : Nat} {Q : State → Prop}
variable {D : va_G} {cy : Nat → ClassId} {s0 tW : Nat} {A : Nat → Prop} {cc : ByteArray} {pc : Nat} {ls : Array Slot} {rest : List Value} {f lo : Nat}
variable {y : MethodName} {bytes : ByteArray} {maxL nL index : Nat} {ret : Option FieldType} {own : String} {As st : List Value} {ws Wc wr Wc1 wsN : va_W} {o : Option Value} {hh : List (Nat × Nat × Nat × Nat)}
theorem kcG (S : CallFix p m c cc nL s args wAll own) (hE : EV D cy s0 tW s) (hP : va_P D vwCl ws H) (hD : va_D A ws) (hS : va_S A s.heap H locs) (hA : ∀ q, s.heap.size ≤ q → A q) (hAs : ∀ q, A q → s0 ≤ q) (isC isR isQ : List Nat) (hM : KG l D cy s0 tW y bytes maxL ret hh f lo As H.size Wc o Wc1)
    (hg : GoodIn wAll (va_wsS own index y (Cond.codeWith y bytes maxL ret hh :: wAll))) (hd : y.cls ≠ "java/lang/invoke/MethodHandle" ∧ y.cls ≠ "java/lang/invoke/VarHandle" ∧ (parseMethodDescriptor y.desc).map (fun d => d.parameters.length) = some As.length) (hRm : f + 1 ≤ R.frames ∧ 8 + (maxL + 11) + lo ≤ R.locals)
    (hC : isC.map (fun i => ws[i]?) = Wc.map some) (hnC : va_nd isC = true) (hR : isR.map (fun i => ws[i]?) = wr.map some) (hn : va_nd isR = true) (hdis : (isR.all (fun i => !(isC.contains i))) = true) (hQ : isQ.map (fun i => (wr ++ Wc1)[i]?) = wsN.map some) (hnQ : va_nd isQ = true)
    (hsize : ls.size = nL) (hst : st = As.reverse ++ rest) (hroom : (rest.map fun v => v.category).sum ≤ 8) (hdg : decode cc pc = .ok (.invokestatic index, 3)) (hf : cells ≤ R.cells ∧ slots ≤ R.slots)
    (kk : ∀ (H1 : Heap) (locs1 : List Loc), va_P D vwCl wsN H1 → va_D A wsN → va_S A s.heap H1 locs1 → W p l e R s m args below meth c H1 locs1 cells slots Q (F0 m (pc + 3) ls (o.toList ++ rest))) : W p l e R s m args below meth c H locs cells slots Q (F0 m pc ls st) := by
  have kp := kpre (As := As) hE hP hD hS hA hAs isC hC hnC
  exact callK (vx_runSW S hM (vx_cwSW As.length S.2.2.2.2 hg rfl rfl rfl hd hRm) kp rfl rfl hsize hst (lv_room hroom) hdg hf) hP hD hS hA isC isR isQ hC hR hn hdis hQ hnQ kk
/-- a call that reads the script and touches nothing of the world -/
theorem kcC {b L : Nat} {xs : Nat → Int32} (S : CallFix p m c cc nL s args wAll own) (hE : EV D cy s0 tW s) (hX : SX s0 b L xs s) (hbl : b < s.heap.size) (hP : va_P D vwCl ws H) (hD : va_D A ws) (hS : va_S A s.heap H locs) (hA : ∀ q, s.heap.size ≤ q → A q) (hAs : ∀ q, A q → s0 ≤ q) (isR isQ : List Nat) (hM : KS l D cy s0 tW b L xs y bytes maxL ret f lo As H.size o)
    (hg : GoodIn wAll (va_wsS own index y (Cond.code y bytes maxL ret :: wAll))) (hd : y.cls ≠ "java/lang/invoke/MethodHandle" ∧ y.cls ≠ "java/lang/invoke/VarHandle" ∧ (parseMethodDescriptor y.desc).map (fun d => d.parameters.length) = some As.length) (hRm : f + 1 ≤ R.frames ∧ 8 + (maxL + 11) + lo ≤ R.locals)
    (hR : isR.map (fun i => ws[i]?) = ws.map some) (hn : va_nd isR = true) (hQ : isQ.map (fun i => (ws ++ [])[i]?) = ws.map some) (hnQ : va_nd isQ = true)
    (hsize : ls.size = nL) (hst : st = As.reverse ++ rest) (hroom : (rest.map fun v => v.category).sum ≤ 8) (hdg : decode cc pc = .ok (.invokestatic index, 3)) (hf : cells ≤ R.cells ∧ slots ≤ R.slots)
    (kk : ∀ (H1 : Heap) (locs1 : List Loc), va_P D vwCl ws H1 → va_D A ws → va_S A s.heap H1 locs1 → W p l e R s m args below meth c H1 locs1 cells slots Q (F0 m (pc + 3) ls (o.toList ++ rest))) : W p l e R s m args below meth c H locs cells slots Q (F0 m pc ls st) := by
  obtain ⟨k1, k2⟩ := kpre (As := As) (Wc := []) hE hP hD hS hA hAs [] rfl rfl
  have kp : FrameBlind (va_Pc As (sPre D cy s0 tW b L xs H.size)) ∧ ∀ U : State, U.heap = H → s.WarmedH U.vm → va_Pc As (sPre D cy s0 tW b L xs H.size) As.toArray U := by
    refine ⟨fun a U g mk q => ?_, fun U hU hW => ⟨rfl, (k2 U hU hW).2, hX.call hbl hS hAs hU hW⟩⟩
    obtain ⟨q0, q1, q2⟩ := q
    exact ⟨q0, (k1 a U g mk ⟨q0, q1⟩).2, q2.blind g mk a⟩
  exact callK (va_runS S hM (va_cwS As.length S.2.2.2.2 hg rfl rfl rfl hd hRm) kp rfl rfl hsize hst (lv_room hroom) hdg hf) hP hD hS hA [] isR isQ rfl hR hn (List.all_eq_true.mpr (fun i _ => rfl)) hQ hnQ kk
end K9
end
