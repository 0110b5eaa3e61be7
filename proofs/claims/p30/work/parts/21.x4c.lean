theorem q_31 : Cond.selects RX3 yX3_hasLearned yX3_hasLearned ∈ wAll := wAll_mem 31 (by decide +kernel) (by decide +kernel)
theorem q_533 : Cond.instanceMethod yX3_hasLearned ∈ wAll := wAll_mem 533 (by decide +kernel) (by decide +kernel)
theorem q_534 : Cond.code yX3_hasLearned cX3_hasLearned 2 (some .boolean) ∈ wAll := wAll_mem 534 (by decide +kernel) (by decide +kernel)
theorem nq_531 {s : State} (h : NW s) : va_Nw (Cond.methodLinkNest RX4 98 yX3_hasLearned "ForAllGame") s := h.at 531 (by decide +kernel) rfl
theorem hd_X3_hasLearned : yX3_hasLearned.cls = RX3 ∧ yX3_hasLearned.cls ≠ "java/lang/invoke/MethodHandle" ∧ yX3_hasLearned.cls ≠ "java/lang/invoke/VarHandle" ∧ (parseMethodDescriptor yX3_hasLearned.desc).map (fun d => d.parameters.length) = some 1 := by decide +kernel
abbrev w_X4_learnedBeginnings (cy : Nat → ClassId) (A_t : Nat) (A_t_state : Nat) (A_t_saved : Nat) (A_t_beaten : Nat) (A_t_text : Nat) (A_t_state_positive : Nat) (A_t_state_negative : Nat) (t_state_variables : Int32) (t_state_breakers : Int32) (t_state_clauses : Int32) (t_state_learned : Int32) (t_state_rounds : Int32) : va_W := [(A_t, .inr (4, [.ref A_t_state, .ref A_t_saved, .ref A_t_beaten, .ref A_t_text])), (A_t_state, .inr (3, [.int t_state_variables, .int t_state_breakers, .int t_state_clauses, .ref A_t_state_positive, .ref A_t_state_negative, .int t_state_learned, .int t_state_rounds]))]
def L_X4_learnedBeginnings_13 (N : Nat) (t_state_learned : Int32) (p0 : Int32) (r_1 : Int32) (kont : Int32 → Option (Int32)) : Nat → Int32 → Int32 → Option (Int32)
  | 0, _, _ => none
  | n + 1, v2_3, v4_4 => (if r_1 ≤ v4_4 then kont v2_3 else ob1 (F_X3_hasLearned N v4_4 t_state_learned) (fun r_7 => (if r_7 = true then nmv (v2_3 ||| ((1 : Int32) <<< ((v4_4 &&& (((1 : Int32) <<< (p0 &&& 31)) - 1)) &&& 31))) (fun x_10 => L_X4_learnedBeginnings_13 N t_state_learned p0 r_1 kont n x_10 (v4_4 + 1)) else L_X4_learnedBeginnings_13 N t_state_learned p0 r_1 kont n v2_3 (v4_4 + 1))))
def F_X4_learnedBeginnings (N : Nat) (p0 : Int32) (t_state_breakers : Int32) (t_state_learned : Int32) : Option (Int32) :=
  ob1 (F_X3_plays N t_state_breakers) (fun r_1 => (L_X4_learnedBeginnings_13 N t_state_learned p0 r_1 (fun u2_5 => ob1 (F_J6_bitCount_0f7a4 N u2_5) (fun r_11 => some r_11)) N 0 0))
set_option maxHeartbeats 4000000 in
set_option maxRecDepth 100000 in
theorem c_X4_learnedBeginnings (l : Launch) (D : va_G) (cy : Nat → ClassId) (s0 tW N : Nat) (A_t : Nat) (A_t_state : Nat) (A_t_saved : Nat) (A_t_beaten : Nat) (A_t_text : Nat) (A_t_state_positive : Nat) (A_t_state_negative : Nat) (p0 : Int32) (t_state_variables : Int32) (t_state_breakers : Int32) (t_state_clauses : Int32) (t_state_learned : Int32) (t_state_rounds : Int32) (sz : Nat) {r9 : Int32} (hF : F_X4_learnedBeginnings N p0 t_state_breakers t_state_learned = some r9) : KM l D cy s0 tW yX4_learnedBeginnings cX4_learnedBeginnings 5 (some .int) 2 42 [.ref A_t, .int p0] sz (w_X4_learnedBeginnings cy A_t A_t_state A_t_saved A_t_beaten A_t_text A_t_state_positive A_t_state_negative t_state_variables t_state_breakers t_state_clauses t_state_learned t_state_rounds) (some (.int r9)) (w_X4_learnedBeginnings cy A_t A_t_state A_t_saved A_t_beaten A_t_text A_t_state_positive A_t_state_negative t_state_variables t_state_breakers t_state_clauses t_state_learned t_state_rounds) := by
  refine KM.intro rfl (Nat.le_of_ble_eq_true rfl) ?_
  intro p e s m args below meth c A ls hx hb hr hml hown hts hlocks hE hP hD hS hA hAs hl
  have hK := hE.1
  have hl : lv_has ls 5 [(0, .ref A_t), (1, .int p0)] := hl
  unfold F_X4_learnedBeginnings at hF
  refine lv_iconst (v := 0) hx hb dX4_learnedBeginnings_0 (by decide) ?_
  refine lv_istore_n (lv' := [(2, .int 0), (0, .ref A_t), (1, .int p0)]) hx hb dX4_learnedBeginnings_1 rfl hl (by decide) rfl (fun ls hl => ?_)
  refine lv_aload_n hx hb dX4_learnedBeginnings_2 rfl (lv_at hl 1 rfl) ?_
  refine va_get (D := D) (ci := 4) (v := .ref A_t_state) (C := RX4) (T := TX4) (N := 4) hx hb hts inX4 hown hK hP 0 rfl rfl 0 (by decide) (hts _ q_150) (fun _ h9 => h9) rfl dX4_learnedBeginnings_3 ?_
  obtain ⟨r_1, hF_2, hF⟩ := ob1_some hF
  refine kcVN (q := (RX3, TX3, 7)) (ci := 3) (q0 := 1) (As := []) (rest := []) (wr := [(A_t, .inr (4, [.ref A_t_state, .ref A_t_saved, .ref A_t_beaten, .ref A_t_text]))]) (wsN := (w_X4_learnedBeginnings cy A_t A_t_state A_t_saved A_t_beaten A_t_text A_t_state_positive A_t_state_negative t_state_variables t_state_breakers t_state_clauses t_state_learned t_state_rounds)) ⟨hx, hb, hml, hown, hts⟩ hE hP hD hS hA hAs [1] [0] [0, 1] (c_X3_plays l D cy s0 tW N A_t_state A_t_state_positive A_t_state_negative t_state_variables t_state_breakers t_state_clauses t_state_learned t_state_rounds _ hF_2) q_248 q_36 q_247 q_12 (nq_435 hE.2.1) hd_X3_plays.2 ⟨Nat.le_of_ble_eq_true rfl, Nat.le_of_ble_eq_true rfl⟩ rfl rfl rfl rfl rfl rfl rfl rfl rfl hl.1 rfl (Nat.le_of_ble_eq_true rfl) dX4_learnedBeginnings_6 ⟨Nat.zero_le _, Nat.zero_le _⟩ (fun H locs hP hD hS => ?_)
  refine W.eq (g2 := F0 m 9 ls [.int r_1]) rfl ?_
  refine lv_istore_n (lv' := [(3, .int r_1), (2, .int 0), (0, .ref A_t), (1, .int p0)]) hx hb dX4_learnedBeginnings_9 rfl hl (by decide) rfl (fun ls hl => ?_)
  refine lv_iconst (v := 0) hx hb dX4_learnedBeginnings_10 (by decide) ?_
  refine lv_istore (lv' := [(4, .int 0), (3, .int r_1), (2, .int 0), (0, .ref A_t), (1, .int p0)]) hx hb dX4_learnedBeginnings_11 hl (by decide) rfl (fun ls hl => ?_)
  have hloop_13 : ∀ (kont : Int32 → Option (Int32)), (∀ (u2_5 : Int32) (H : Heap) (locs : List Loc) (ls : Array Slot), kont u2_5 = some r9 → va_P D vwCl (w_X4_learnedBeginnings cy A_t A_t_state A_t_saved A_t_beaten A_t_text A_t_state_positive A_t_state_negative t_state_variables t_state_breakers t_state_clauses t_state_learned t_state_rounds) H → va_D A (w_X4_learnedBeginnings cy A_t A_t_state A_t_saved A_t_beaten A_t_text A_t_state_positive A_t_state_negative t_state_variables t_state_breakers t_state_clauses t_state_learned t_state_rounds) → va_S A s.heap H locs → lv_has ls 5 [(2, .int u2_5)] → W p l e (rmK 2 42) s m args below meth c H locs 0 0 (MQ below (kQ (some (.int r9)) D A (w_X4_learnedBeginnings cy A_t A_t_state A_t_saved A_t_beaten A_t_text A_t_state_positive A_t_state_negative t_state_variables t_state_breakers t_state_clauses t_state_learned t_state_rounds)) args s 0 0 A) (F0 m 50 ls [])) → ∀ (n : Nat) (v2_3 : Int32) (v4_4 : Int32) (H : Heap) (locs : List Loc) (ls : Array Slot), L_X4_learnedBeginnings_13 N t_state_learned p0 r_1 kont n v2_3 v4_4 = some r9 → va_P D vwCl (w_X4_learnedBeginnings cy A_t A_t_state A_t_saved A_t_beaten A_t_text A_t_state_positive A_t_state_negative t_state_variables t_state_breakers t_state_clauses t_state_learned t_state_rounds) H → va_D A (w_X4_learnedBeginnings cy A_t A_t_state A_t_saved A_t_beaten A_t_text A_t_state_positive A_t_state_negative t_state_variables t_state_breakers t_state_clauses t_state_learned t_state_rounds) → va_S A s.heap H locs → lv_has ls 5 [(0, .ref A_t), (1, .int p0), (2, .int v2_3), (3, .int r_1), (4, .int v4_4)] → W p l e (rmK 2 42) s m args below meth c H locs 0 0 (MQ below (kQ (some (.int r9)) D A (w_X4_learnedBeginnings cy A_t A_t_state A_t_saved A_t_beaten A_t_text A_t_state_positive A_t_state_negative t_state_variables t_state_breakers t_state_clauses t_state_learned t_state_rounds)) args s 0 0 A) (F0 m 13 ls []) := by
    intro kont hexit_13 n
    induction n with
    | zero =>
      intro v2_3 v4_4 H locs ls hF
      rw [L_X4_learnedBeginnings_13] at hF
      cases hF
    | succ n ih =>
      intro v2_3 v4_4 H locs ls hF hP hD hS hl
      rw [L_X4_learnedBeginnings_13] at hF
      refine lv_iload hx hb dX4_learnedBeginnings_13 (lv_at hl 4 rfl) ?_
      refine lv_iload_n hx hb dX4_learnedBeginnings_15 rfl (lv_at hl 3 rfl) ?_
      refine lv_icmp_ge (tgt := 50) hx hb dX4_learnedBeginnings_16 (by decide) (fun c_6 => ?_) (fun c_6 => ?_)
      · replace hF := ite_t c_6 hF
        exact hexit_13 v2_3 H locs ls hF hP hD hS (lv_sub hl [2] rfl)
      · replace hF := ite_f c_6 hF
        refine lv_aload_n hx hb dX4_learnedBeginnings_19 rfl (lv_at hl 0 rfl) ?_
        refine va_get (D := D) (ci := 4) (v := .ref A_t_state) (C := RX4) (T := TX4) (N := 4) hx hb hts inX4 hown hK hP 0 rfl rfl 0 (by decide) (hts _ q_150) (fun _ h9 => h9) rfl dX4_learnedBeginnings_20 ?_
        refine lv_iload hx hb dX4_learnedBeginnings_23 (lv_at hl 4 rfl) ?_
        obtain ⟨r_7, hF_8, hF⟩ := ob1_some hF
        refine kcVN (q := (RX3, TX3, 7)) (ci := 3) (q0 := 1) (As := [.int v4_4]) (rest := []) (wr := [(A_t, .inr (4, [.ref A_t_state, .ref A_t_saved, .ref A_t_beaten, .ref A_t_text]))]) (wsN := (w_X4_learnedBeginnings cy A_t A_t_state A_t_saved A_t_beaten A_t_text A_t_state_positive A_t_state_negative t_state_variables t_state_breakers t_state_clauses t_state_learned t_state_rounds)) ⟨hx, hb, hml, hown, hts⟩ hE hP hD hS hA hAs [1] [0] [0, 1] (c_X3_hasLearned l D cy s0 tW N A_t_state A_t_state_positive A_t_state_negative v4_4 t_state_variables t_state_breakers t_state_clauses t_state_learned t_state_rounds _ hF_8) q_534 q_36 q_533 q_31 (nq_531 hE.2.1) hd_X3_hasLearned.2 ⟨Nat.le_of_ble_eq_true rfl, Nat.le_of_ble_eq_true rfl⟩ rfl rfl rfl rfl rfl rfl rfl rfl rfl hl.1 rfl (Nat.le_of_ble_eq_true rfl) dX4_learnedBeginnings_25 ⟨Nat.zero_le _, Nat.zero_le _⟩ (fun H locs hP hD hS => ?_)
        refine W.eq (g2 := F0 m 28 ls [.int (bI r_7)]) rfl ?_
        refine lv_if_eq (tgt := 44) hx hb dX4_learnedBeginnings_28 (by decide) (fun c_9 => ?_) (fun c_9 => ?_)
        · replace hF := ite_f (bI_f c_9) hF
          refine lv_iinc (v := (v4_4 + 1)) (lv' := [(4, .int (v4_4 + 1)), (0, .ref A_t), (1, .int p0), (2, .int v2_3), (3, .int r_1)]) hx hb dX4_learnedBeginnings_44 hl (k := 4) rfl (by first | rfl | decide) (by decide) rfl (fun ls hl => ?_)
          refine lv_goto (tgt := 13) hx hb dX4_learnedBeginnings_47 (by decide) ?_
          exact ih v2_3 (v4_4 + 1) H locs ls hF hP hD hS (lv_sub hl [1, 2, 3, 4, 0] rfl)
        · replace hF := ite_t (bI_t c_9) hF
          refine lv_iload_n hx hb dX4_learnedBeginnings_31 rfl (lv_at hl 2 rfl) ?_
          refine lv_iconst (v := 1) hx hb dX4_learnedBeginnings_32 (by decide) ?_
          refine lv_iload hx hb dX4_learnedBeginnings_33 (lv_at hl 4 rfl) ?_
          refine lv_iconst (v := 1) hx hb dX4_learnedBeginnings_35 (by decide) ?_
          refine lv_iload_n hx hb dX4_learnedBeginnings_36 rfl (lv_at hl 1 rfl) ?_
          refine lv_ishl hx hb dX4_learnedBeginnings_37 ?_
          refine lv_iconst (v := 1) hx hb dX4_learnedBeginnings_38 (by decide) ?_
          refine lv_isub hx hb dX4_learnedBeginnings_39 ?_
          refine lv_iand hx hb dX4_learnedBeginnings_40 ?_
          refine lv_ishl hx hb dX4_learnedBeginnings_41 ?_
          refine lv_ior hx hb dX4_learnedBeginnings_42 ?_
          refine lv_topi (fun x_10 ex_10 => ?_)
          replace hF := nmv_at ex_10 hF
          refine lv_istore_n (lv' := [(2, .int x_10), (0, .ref A_t), (1, .int p0), (3, .int r_1), (4, .int v4_4)]) hx hb dX4_learnedBeginnings_43 rfl hl (by decide) rfl (fun ls hl => ?_)
          refine lv_iinc (v := (v4_4 + 1)) (lv' := [(4, .int (v4_4 + 1)), (2, .int x_10), (0, .ref A_t), (1, .int p0), (3, .int r_1)]) hx hb dX4_learnedBeginnings_44 hl (k := 4) rfl (by first | rfl | decide) (by decide) rfl (fun ls hl => ?_)
          refine lv_goto (tgt := 13) hx hb dX4_learnedBeginnings_47 (by decide) ?_
          exact ih x_10 (v4_4 + 1) H locs ls hF hP hD hS (lv_sub hl [2, 3, 1, 4, 0] rfl)
  refine hloop_13 _ (fun u2_5 H locs ls hF hP hD hS hl => ?_) N 0 0 _ _ ls hF hP hD hS (lv_sub hl [3, 4, 2, 1, 0] rfl)
  refine lv_iload_n hx hb dX4_learnedBeginnings_50 rfl (lv_at hl 0 rfl) ?_
  obtain ⟨r_11, hF_12, hF⟩ := ob1_some hF
  refine kcS (As := [.int u2_5]) (rest := []) (wr := [(A_t, .inr (4, [.ref A_t_state, .ref A_t_saved, .ref A_t_beaten, .ref A_t_text])), (A_t_state, .inr (3, [.int t_state_variables, .int t_state_breakers, .int t_state_clauses, .ref A_t_state_positive, .ref A_t_state_negative, .int t_state_learned, .int t_state_rounds]))]) (wsN := (w_X4_learnedBeginnings cy A_t A_t_state A_t_saved A_t_beaten A_t_text A_t_state_positive A_t_state_negative t_state_variables t_state_breakers t_state_clauses t_state_learned t_state_rounds)) ⟨hx, hb, hml, hown, hts⟩ hE hP hD hS hA hAs [] [0, 1] [0, 1] (c_J6_bitCount_0f7a4 l D cy s0 tW N u2_5 _ hF_12) (gS q_434 q_250 q_44 q_251) hd_J6_bitCount_0f7a4.2 ⟨Nat.le_of_ble_eq_true rfl, Nat.le_of_ble_eq_true rfl⟩ rfl rfl rfl rfl rfl rfl rfl hl.1 rfl (Nat.le_of_ble_eq_true rfl) dX4_learnedBeginnings_51 ⟨Nat.zero_le _, Nat.zero_le _⟩ (fun H locs hP hD hS => ?_)
  refine W.eq (g2 := F0 m 54 ls [.int r_11]) rfl ?_
  cases hF
  exact kret_i hx hb hr hlocks hP hD hS dX4_learnedBeginnings_54

theorem q_30 : Cond.selects RX4 yX4_learnedBeginnings yX4_learnedBeginnings ∈ wAll := wAll_mem 30 (by decide +kernel) (by decide +kernel)
theorem q_527 : Cond.methodLink RX4 179 yX4_learnedBeginnings ∈ wAll := wAll_mem 527 (by decide +kernel) (by decide +kernel)
theorem q_529 : Cond.instanceMethod yX4_learnedBeginnings ∈ wAll := wAll_mem 529 (by decide +kernel) (by decide +kernel)
theorem q_530 : Cond.code yX4_learnedBeginnings cX4_learnedBeginnings 5 (some .int) ∈ wAll := wAll_mem 530 (by decide +kernel) (by decide +kernel)
theorem hd_X4_learnedBeginnings : yX4_learnedBeginnings.cls = RX4 ∧ yX4_learnedBeginnings.cls ≠ "java/lang/invoke/MethodHandle" ∧ yX4_learnedBeginnings.cls ≠ "java/lang/invoke/VarHandle" ∧ (parseMethodDescriptor yX4_learnedBeginnings.desc).map (fun d => d.parameters.length) = some 1 := by decide +kernel
abbrev w_X4_copies (cy : Nat → ClassId) (A_t : Nat) (A_t_state : Nat) (A_t_saved : Nat) (A_t_beaten : Nat) (A_t_text : Nat) (A_t_state_positive : Nat) (A_t_state_negative : Nat) (t_state_variables : Int32) (t_state_breakers : Int32) (t_state_clauses : Int32) (t_state_learned : Int32) (t_state_rounds : Int32) : va_W := [(A_t, .inr (4, [.ref A_t_state, .ref A_t_saved, .ref A_t_beaten, .ref A_t_text])), (A_t_state, .inr (3, [.int t_state_variables, .int t_state_breakers, .int t_state_clauses, .ref A_t_state_positive, .ref A_t_state_negative, .int t_state_learned, .int t_state_rounds]))]
def L_X4_copies_6 (N : Nat) (t_state_variables : Int32) (t_state_breakers : Int32) (t_state_learned : Int32) (kont : Int32 → Option (Int32)) : Nat → Int32 → Int32 → Int32 → Option (Int32)
  | 0, _, _, _ => none
  | n + 1, v1_1, v2_2, v3_3 => (if t_state_variables ≤ v3_3 then kont v1_1 else ob1 (F_X3_ownerOf N v3_3 t_state_breakers) (fun r_6 => (if r_6 = (1 : Int32) then L_X4_copies_6 N t_state_variables t_state_breakers t_state_learned kont n v1_1 (v2_2 + 1) (v3_3 + 1) else ob1 (F_X4_learnedBeginnings N v2_2 t_state_breakers t_state_learned) (fun r_9 => L_X4_copies_6 N t_state_variables t_state_breakers t_state_learned kont n (v1_1 + r_9) v2_2 (v3_3 + 1)))))
def F_X4_copies (N : Nat) (t_state_variables : Int32) (t_state_breakers : Int32) (t_state_learned : Int32) : Option (Int32) :=
  (L_X4_copies_6 N t_state_variables t_state_breakers t_state_learned (fun u1_4 => some u1_4) N 0 0 0)
set_option maxHeartbeats 4000000 in
set_option maxRecDepth 100000 in
theorem c_X4_copies (l : Launch) (D : va_G) (cy : Nat → ClassId) (s0 tW N : Nat) (A_t : Nat) (A_t_state : Nat) (A_t_saved : Nat) (A_t_beaten : Nat) (A_t_text : Nat) (A_t_state_positive : Nat) (A_t_state_negative : Nat) (t_state_variables : Int32) (t_state_breakers : Int32) (t_state_clauses : Int32) (t_state_learned : Int32) (t_state_rounds : Int32) (sz : Nat) {r9 : Int32} (hF : F_X4_copies N t_state_variables t_state_breakers t_state_learned = some r9) : KM l D cy s0 tW yX4_copies cX4_copies 4 (some .int) 3 66 [.ref A_t] sz (w_X4_copies cy A_t A_t_state A_t_saved A_t_beaten A_t_text A_t_state_positive A_t_state_negative t_state_variables t_state_breakers t_state_clauses t_state_learned t_state_rounds) (some (.int r9)) (w_X4_copies cy A_t A_t_state A_t_saved A_t_beaten A_t_text A_t_state_positive A_t_state_negative t_state_variables t_state_breakers t_state_clauses t_state_learned t_state_rounds) := by
  refine KM.intro rfl (Nat.le_of_ble_eq_true rfl) ?_
  intro p e s m args below meth c A ls hx hb hr hml hown hts hlocks hE hP hD hS hA hAs hl
  have hK := hE.1
  have hl : lv_has ls 4 [(0, .ref A_t)] := hl
  unfold F_X4_copies at hF
  refine lv_iconst (v := 0) hx hb dX4_copies_0 (by decide) ?_
  refine lv_istore_n (lv' := [(1, .int 0), (0, .ref A_t)]) hx hb dX4_copies_1 rfl hl (by decide) rfl (fun ls hl => ?_)
  refine lv_iconst (v := 0) hx hb dX4_copies_2 (by decide) ?_
  refine lv_istore_n (lv' := [(2, .int 0), (1, .int 0), (0, .ref A_t)]) hx hb dX4_copies_3 rfl hl (by decide) rfl (fun ls hl => ?_)
  refine lv_iconst (v := 0) hx hb dX4_copies_4 (by decide) ?_
  refine lv_istore_n (lv' := [(3, .int 0), (2, .int 0), (1, .int 0), (0, .ref A_t)]) hx hb dX4_copies_5 rfl hl (by decide) rfl (fun ls hl => ?_)
  have hloop_6 : ∀ (kont : Int32 → Option (Int32)), (∀ (u1_4 : Int32) (H : Heap) (locs : List Loc) (ls : Array Slot), kont u1_4 = some r9 → va_P D vwCl (w_X4_copies cy A_t A_t_state A_t_saved A_t_beaten A_t_text A_t_state_positive A_t_state_negative t_state_variables t_state_breakers t_state_clauses t_state_learned t_state_rounds) H → va_D A (w_X4_copies cy A_t A_t_state A_t_saved A_t_beaten A_t_text A_t_state_positive A_t_state_negative t_state_variables t_state_breakers t_state_clauses t_state_learned t_state_rounds) → va_S A s.heap H locs → lv_has ls 4 [(1, .int u1_4)] → W p l e (rmK 3 66) s m args below meth c H locs 0 0 (MQ below (kQ (some (.int r9)) D A (w_X4_copies cy A_t A_t_state A_t_saved A_t_beaten A_t_text A_t_state_positive A_t_state_negative t_state_variables t_state_breakers t_state_clauses t_state_learned t_state_rounds)) args s 0 0 A) (F0 m 49 ls [])) → ∀ (n : Nat) (v1_1 : Int32) (v2_2 : Int32) (v3_3 : Int32) (H : Heap) (locs : List Loc) (ls : Array Slot), L_X4_copies_6 N t_state_variables t_state_breakers t_state_learned kont n v1_1 v2_2 v3_3 = some r9 → va_P D vwCl (w_X4_copies cy A_t A_t_state A_t_saved A_t_beaten A_t_text A_t_state_positive A_t_state_negative t_state_variables t_state_breakers t_state_clauses t_state_learned t_state_rounds) H → va_D A (w_X4_copies cy A_t A_t_state A_t_saved A_t_beaten A_t_text A_t_state_positive A_t_state_negative t_state_variables t_state_breakers t_state_clauses t_state_learned t_state_rounds) → va_S A s.heap H locs → lv_has ls 4 [(0, .ref A_t), (1, .int v1_1), (2, .int v2_2), (3, .int v3_3)] → W p l e (rmK 3 66) s m args below meth c H locs 0 0 (MQ below (kQ (some (.int r9)) D A (w_X4_copies cy A_t A_t_state A_t_saved A_t_beaten A_t_text A_t_state_positive A_t_state_negative t_state_variables t_state_breakers t_state_clauses t_state_learned t_state_rounds)) args s 0 0 A) (F0 m 6 ls []) := by
    intro kont hexit_6 n
    induction n with
    | zero =>
      intro v1_1 v2_2 v3_3 H locs ls hF
      rw [L_X4_copies_6] at hF
      cases hF
    | succ n ih =>
      intro v1_1 v2_2 v3_3 H locs ls hF hP hD hS hl
      rw [L_X4_copies_6] at hF
      refine lv_iload_n hx hb dX4_copies_6 rfl (lv_at hl 3 rfl) ?_
      refine lv_aload_n hx hb dX4_copies_7 rfl (lv_at hl 0 rfl) ?_
      refine va_get (D := D) (ci := 4) (v := .ref A_t_state) (C := RX4) (T := TX4) (N := 4) hx hb hts inX4 hown hK hP 0 rfl rfl 0 (by decide) (hts _ q_150) (fun _ h9 => h9) rfl dX4_copies_8 ?_
      refine va_getN (D := D) (ci := 3) (v := .int t_state_variables) (C := RX3) (T := TX3) (N := 7) hx hb hts inX3 hown hK hP 1 rfl rfl 0 (by decide) (va_Nw.use rfl (nq_62 hE.2.1)) (fun _ h9 => h9) rfl dX4_copies_11 ?_
      refine lv_icmp_ge (tgt := 49) hx hb dX4_copies_14 (by decide) (fun c_5 => ?_) (fun c_5 => ?_)
      · replace hF := ite_t c_5 hF
        exact hexit_6 v1_1 H locs ls hF hP hD hS (lv_sub hl [1] rfl)
      · replace hF := ite_f c_5 hF
        refine lv_aload_n hx hb dX4_copies_17 rfl (lv_at hl 0 rfl) ?_
        refine va_get (D := D) (ci := 4) (v := .ref A_t_state) (C := RX4) (T := TX4) (N := 4) hx hb hts inX4 hown hK hP 0 rfl rfl 0 (by decide) (hts _ q_150) (fun _ h9 => h9) rfl dX4_copies_18 ?_
        refine lv_iload_n hx hb dX4_copies_21 rfl (lv_at hl 3 rfl) ?_
        obtain ⟨r_6, hF_7, hF⟩ := ob1_some hF
        refine kcVN (q := (RX3, TX3, 7)) (ci := 3) (q0 := 1) (As := [.int v3_3]) (rest := []) (wr := [(A_t, .inr (4, [.ref A_t_state, .ref A_t_saved, .ref A_t_beaten, .ref A_t_text]))]) (wsN := (w_X4_copies cy A_t A_t_state A_t_saved A_t_beaten A_t_text A_t_state_positive A_t_state_negative t_state_variables t_state_breakers t_state_clauses t_state_learned t_state_rounds)) ⟨hx, hb, hml, hown, hts⟩ hE hP hD hS hA hAs [1] [0] [0, 1] (c_X3_ownerOf l D cy s0 tW N A_t_state A_t_state_positive A_t_state_negative v3_3 t_state_variables t_state_breakers t_state_clauses t_state_learned t_state_rounds _ hF_7) q_215 q_36 q_214 q_8 (nq_471 hE.2.1) hd_X3_ownerOf.2 ⟨Nat.le_of_ble_eq_true rfl, Nat.le_of_ble_eq_true rfl⟩ rfl rfl rfl rfl rfl rfl rfl rfl rfl hl.1 rfl (Nat.le_of_ble_eq_true rfl) dX4_copies_22 ⟨Nat.zero_le _, Nat.zero_le _⟩ (fun H locs hP hD hS => ?_)
        refine W.eq (g2 := F0 m 25 ls [.int r_6]) rfl ?_
        refine lv_iconst (v := 1) hx hb dX4_copies_25 (by decide) ?_
        refine lv_icmp_ne (tgt := 35) hx hb dX4_copies_26 (by decide) (fun c_8 => ?_) (fun c_8 => ?_)
        · replace hF := ite_f c_8 hF
          refine lv_iload_n hx hb dX4_copies_35 rfl (lv_at hl 1 rfl) ?_
          refine lv_aload_n hx hb dX4_copies_36 rfl (lv_at hl 0 rfl) ?_
          refine lv_iload_n hx hb dX4_copies_37 rfl (lv_at hl 2 rfl) ?_
          obtain ⟨r_9, hF_10, hF⟩ := ob1_some hF
          refine kcV (q := (RX4, TX4, 4)) (ci := 4) (q0 := 0) (As := [.int v2_2]) (rest := [.int v1_1]) (wr := []) (wsN := (w_X4_copies cy A_t A_t_state A_t_saved A_t_beaten A_t_text A_t_state_positive A_t_state_negative t_state_variables t_state_breakers t_state_clauses t_state_learned t_state_rounds)) ⟨hx, hb, hml, hown, hts⟩ hE hP hD hS hA hAs [0, 1] [] [0, 1] (c_X4_learnedBeginnings l D cy s0 tW N A_t A_t_state A_t_saved A_t_beaten A_t_text A_t_state_positive A_t_state_negative v2_2 t_state_variables t_state_breakers t_state_clauses t_state_learned t_state_rounds _ hF_10) (gV q_527 q_529 q_30 q_35 q_530) hd_X4_learnedBeginnings ⟨Nat.le_of_ble_eq_true rfl, Nat.le_of_ble_eq_true rfl⟩ rfl rfl rfl rfl rfl rfl rfl rfl rfl hl.1 rfl (Nat.le_of_ble_eq_true rfl) dX4_copies_38 ⟨Nat.zero_le _, Nat.zero_le _⟩ (fun H locs hP hD hS => ?_)
          refine W.eq (g2 := F0 m 41 ls [.int r_9, .int v1_1]) rfl ?_
          refine lv_iadd hx hb dX4_copies_41 ?_
          refine lv_istore_n (lv' := [(1, .int (v1_1 + r_9)), (0, .ref A_t), (2, .int v2_2), (3, .int v3_3)]) hx hb dX4_copies_42 rfl hl (by decide) rfl (fun ls hl => ?_)
          refine lv_iinc (v := (v3_3 + 1)) (lv' := [(3, .int (v3_3 + 1)), (1, .int (v1_1 + r_9)), (0, .ref A_t), (2, .int v2_2)]) hx hb dX4_copies_43 hl (k := 3) rfl (by first | rfl | decide) (by decide) rfl (fun ls hl => ?_)
          refine lv_goto (tgt := 6) hx hb dX4_copies_46 (by decide) ?_
          exact ih (v1_1 + r_9) v2_2 (v3_3 + 1) H locs ls hF hP hD hS (lv_sub hl [2, 1, 3, 0] rfl)
        · replace hF := ite_t c_8 hF
          refine lv_iinc (v := (v2_2 + 1)) (lv' := [(2, .int (v2_2 + 1)), (0, .ref A_t), (1, .int v1_1), (3, .int v3_3)]) hx hb dX4_copies_29 hl (k := 2) rfl (by first | rfl | decide) (by decide) rfl (fun ls hl => ?_)
          refine lv_goto (tgt := 43) hx hb dX4_copies_32 (by decide) ?_
          refine lv_iinc (v := (v3_3 + 1)) (lv' := [(3, .int (v3_3 + 1)), (2, .int (v2_2 + 1)), (0, .ref A_t), (1, .int v1_1)]) hx hb dX4_copies_43 hl (k := 3) rfl (by first | rfl | decide) (by decide) rfl (fun ls hl => ?_)
          refine lv_goto (tgt := 6) hx hb dX4_copies_46 (by decide) ?_
          exact ih v1_1 (v2_2 + 1) (v3_3 + 1) H locs ls hF hP hD hS (lv_sub hl [2, 3, 1, 0] rfl)
  refine hloop_6 _ (fun u1_4 H locs ls hF hP hD hS hl => ?_) N 0 0 0 _ _ ls hF hP hD hS (lv_sub hl [3, 2, 1, 0] rfl)
  refine lv_iload_n hx hb dX4_copies_49 rfl (lv_at hl 0 rfl) ?_
  cases hF
  exact kret_i hx hb hr hlocks hP hD hS dX4_copies_50

abbrev w_X4_lowestLeastProof (cy : Nat → ClassId) (A_t : Nat) (A_t_state : Nat) (A_t_saved : Nat) (A_t_beaten : Nat) (A_t_text : Nat) (A_t_state_positive : Nat) (A_t_state_negative : Nat) (A_t_beaten_bits : Nat) (t_state_variables : Int32) (t_state_breakers : Int32) (t_state_clauses : Int32) (t_state_learned : Int32) (t_state_rounds : Int32) (t_state_positive : Nat → Int32) (t_state_negative : Nat → Int32) (t_beaten_stale : Bool) (t_beaten_bits : Nat → Int64) : va_W := [(A_t, .inr (4, [.ref A_t_state, .ref A_t_saved, .ref A_t_beaten, .ref A_t_text])), (A_t_state, .inr (3, [.int t_state_variables, .int t_state_breakers, .int t_state_clauses, .ref A_t_state_positive, .ref A_t_state_negative, .int t_state_learned, .int t_state_rounds])), (A_t_state_positive, .inl (cy 0, 20, .inl t_state_positive)), (A_t_state_negative, .inl (cy 0, 20, .inl t_state_negative)), (A_t_beaten, .inr (0, [.ref A_t_beaten_bits, .int (bI t_beaten_stale)])), (A_t_beaten_bits, .inl (cy 1, 4096, .inr (.inl t_beaten_bits)))]
def L_X4_lowestLeastProof_23 (N : Nat) (t_beaten_bits_1 : Nat → Int64) (r_4 : Int32) (kont : Int32 → Option (Int32 × (Nat → Int64) × Bool)) : Nat → Int32 → Int32 → Option (Int32 × (Nat → Int64) × Bool)
  | 0, _, _ => none
  | n + 1, v1_6, v3_7 => (if r_4 < v3_7 then kont v1_6 else (if v1_6 = ((-1) : Int32) then ob1 (F_X0_has N 0 0 v3_7 t_beaten_bits_1) (fun r_11 => (if r_11 = true then L_X4_lowestLeastProof_23 N t_beaten_bits_1 r_4 kont n v1_6 (v3_7 + 1) else L_X4_lowestLeastProof_23 N t_beaten_bits_1 r_4 kont n v3_7 (v3_7 + 1))) else ob1 (F_J6_bitCount_0f7a4 N v3_7) (fun r_14 => ob1 (F_J6_bitCount_0f7a4 N v1_6) (fun r_16 => (if r_16 ≤ r_14 then L_X4_lowestLeastProof_23 N t_beaten_bits_1 r_4 kont n v1_6 (v3_7 + 1) else ob1 (F_X0_has N 0 0 v3_7 t_beaten_bits_1) (fun r_19 => (if r_19 = true then L_X4_lowestLeastProof_23 N t_beaten_bits_1 r_4 kont n v1_6 (v3_7 + 1) else L_X4_lowestLeastProof_23 N t_beaten_bits_1 r_4 kont n v3_7 (v3_7 + 1))))))))
def F_X4_lowestLeastProof (N : Nat) (t_state_variables : Int32) (t_state_breakers : Int32) (t_state_clauses : Int32) (t_state_positive : Nat → Int32) (t_state_negative : Nat → Int32) (t_beaten_bits : Nat → Int64) (t_beaten_stale : Bool) : Option (Int32 × (Nat → Int64) × Bool) :=
  ob2 (F_X0_bringUpToDate N t_beaten_bits t_beaten_stale t_state_variables t_state_breakers t_state_clauses t_state_positive t_state_negative) (fun t_beaten_bits_1 t_beaten_stale_2 => ob1 (F_X3_allPlays N t_state_breakers) (fun r_4 => (L_X4_lowestLeastProof_23 N t_beaten_bits_1 r_4 (fun u1_8 => some (u1_8, t_beaten_bits_1, t_beaten_stale_2)) N (-1) 1)))
set_option maxHeartbeats 4000000 in
set_option maxRecDepth 100000 in
theorem c_X4_lowestLeastProof (l : Launch) (D : va_G) (cy : Nat → ClassId) (s0 tW N : Nat) (A_t : Nat) (A_t_state : Nat) (A_t_saved : Nat) (A_t_beaten : Nat) (A_t_text : Nat) (A_t_state_positive : Nat) (A_t_state_negative : Nat) (A_t_beaten_bits : Nat) (t_state_variables : Int32) (t_state_breakers : Int32) (t_state_clauses : Int32) (t_state_learned : Int32) (t_state_rounds : Int32) (t_state_positive : Nat → Int32) (t_state_negative : Nat → Int32) (t_beaten_stale : Bool) (t_beaten_bits : Nat → Int64) (sz : Nat) {r9 : Int32} {t_beaten_bits9 : Nat → Int64} {t_beaten_stale9 : Bool} (hF : F_X4_lowestLeastProof N t_state_variables t_state_breakers t_state_clauses t_state_positive t_state_negative t_beaten_bits t_beaten_stale = some (r9, t_beaten_bits9, t_beaten_stale9)) : KM l D cy s0 tW yX4_lowestLeastProof cX4_lowestLeastProof 5 (some .int) 4 96 [.ref A_t] sz (w_X4_lowestLeastProof cy A_t A_t_state A_t_saved A_t_beaten A_t_text A_t_state_positive A_t_state_negative A_t_beaten_bits t_state_variables t_state_breakers t_state_clauses t_state_learned t_state_rounds t_state_positive t_state_negative t_beaten_stale t_beaten_bits) (some (.int r9)) (w_X4_lowestLeastProof cy A_t A_t_state A_t_saved A_t_beaten A_t_text A_t_state_positive A_t_state_negative A_t_beaten_bits t_state_variables t_state_breakers t_state_clauses t_state_learned t_state_rounds t_state_positive t_state_negative t_beaten_stale9 t_beaten_bits9) := by
  refine KM.intro rfl (Nat.le_of_ble_eq_true rfl) ?_
  intro p e s m args below meth c A ls hx hb hr hml hown hts hlocks hE hP hD hS hA hAs hl
  have hK := hE.1
  have hl : lv_has ls 5 [(0, .ref A_t)] := hl
  unfold F_X4_lowestLeastProof at hF
  refine lv_aload_n hx hb dX4_lowestLeastProof_0 rfl (lv_at hl 0 rfl) ?_
  refine va_get (D := D) (ci := 4) (v := .ref A_t_beaten) (C := RX4) (T := TX4) (N := 4) hx hb hts inX4 hown hK hP 0 rfl rfl 2 (by decide) (hts _ q_152) (fun _ h9 => h9) rfl dX4_lowestLeastProof_1 ?_
  refine lv_aload_n hx hb dX4_lowestLeastProof_4 rfl (lv_at hl 0 rfl) ?_
  refine va_get (D := D) (ci := 4) (v := .ref A_t_state) (C := RX4) (T := TX4) (N := 4) hx hb hts inX4 hown hK hP 0 rfl rfl 0 (by decide) (hts _ q_150) (fun _ h9 => h9) rfl dX4_lowestLeastProof_5 ?_
  obtain ⟨t_beaten_bits_1, t_beaten_stale_2, hF_3, hF⟩ := ob2_some hF
  refine kcVN (q := (RX0, TX0, 2)) (ci := 0) (q0 := 4) (As := [.ref A_t_state]) (rest := []) (wr := [(A_t, .inr (4, [.ref A_t_state, .ref A_t_saved, .ref A_t_beaten, .ref A_t_text]))]) (wsN := (w_X4_lowestLeastProof cy A_t A_t_state A_t_saved A_t_beaten A_t_text A_t_state_positive A_t_state_negative A_t_beaten_bits t_state_variables t_state_breakers t_state_clauses t_state_learned t_state_rounds t_state_positive t_state_negative t_beaten_stale_2 t_beaten_bits_1)) ⟨hx, hb, hml, hown, hts⟩ hE hP hD hS hA hAs [4, 5, 1, 2, 3] [0] [0, 3, 4, 5, 1, 2] (c_X0_bringUpToDate l D cy s0 tW N A_t_beaten A_t_beaten_bits A_t_state A_t_state_positive A_t_state_negative t_beaten_stale t_beaten_bits t_state_variables t_state_breakers t_state_clauses t_state_learned t_state_rounds t_state_positive t_state_negative _ hF_3) q_196 q_38 q_195 q_4 (nq_193 hE.2.1) hd_X0_bringUpToDate.2 ⟨Nat.le_of_ble_eq_true rfl, Nat.le_of_ble_eq_true rfl⟩ rfl rfl rfl rfl rfl rfl rfl rfl rfl hl.1 rfl (Nat.le_of_ble_eq_true rfl) dX4_lowestLeastProof_8 ⟨Nat.zero_le _, Nat.zero_le _⟩ (fun H locs hP hD hS => ?_)
  refine W.eq (g2 := F0 m 11 ls []) rfl ?_
  refine lv_iconst (v := (-1)) hx hb dX4_lowestLeastProof_11 (by decide) ?_
  refine lv_istore_n (lv' := [(1, .int (-1)), (0, .ref A_t)]) hx hb dX4_lowestLeastProof_12 rfl hl (by decide) rfl (fun ls hl => ?_)
  refine lv_aload_n hx hb dX4_lowestLeastProof_13 rfl (lv_at hl 1 rfl) ?_
  refine va_get (D := D) (ci := 4) (v := .ref A_t_state) (C := RX4) (T := TX4) (N := 4) hx hb hts inX4 hown hK hP 0 rfl rfl 0 (by decide) (hts _ q_150) (fun _ h9 => h9) rfl dX4_lowestLeastProof_14 ?_
  obtain ⟨r_4, hF_5, hF⟩ := ob1_some hF
  refine kcVN (q := (RX3, TX3, 7)) (ci := 3) (q0 := 1) (As := []) (rest := []) (wr := [(A_t, .inr (4, [.ref A_t_state, .ref A_t_saved, .ref A_t_beaten, .ref A_t_text])), (A_t_state_positive, .inl (cy 0, 20, .inl t_state_positive)), (A_t_state_negative, .inl (cy 0, 20, .inl t_state_negative)), (A_t_beaten, .inr (0, [.ref A_t_beaten_bits, .int (bI t_beaten_stale_2)])), (A_t_beaten_bits, .inl (cy 1, 4096, .inr (.inl t_beaten_bits_1)))]) (wsN := (w_X4_lowestLeastProof cy A_t A_t_state A_t_saved A_t_beaten A_t_text A_t_state_positive A_t_state_negative A_t_beaten_bits t_state_variables t_state_breakers t_state_clauses t_state_learned t_state_rounds t_state_positive t_state_negative t_beaten_stale_2 t_beaten_bits_1)) ⟨hx, hb, hml, hown, hts⟩ hE hP hD hS hA hAs [1] [0, 2, 3, 4, 5] [0, 5, 1, 2, 3, 4] (c_X3_allPlays l D cy s0 tW N A_t_state A_t_state_positive A_t_state_negative t_state_variables t_state_breakers t_state_clauses t_state_learned t_state_rounds _ hF_5) q_244 q_36 q_243 q_11 (nq_241 hE.2.1) hd_X3_allPlays.2 ⟨Nat.le_of_ble_eq_true rfl, Nat.le_of_ble_eq_true rfl⟩ rfl rfl rfl rfl rfl rfl rfl rfl rfl hl.1 rfl (Nat.le_of_ble_eq_true rfl) dX4_lowestLeastProof_17 ⟨Nat.zero_le _, Nat.zero_le _⟩ (fun H locs hP hD hS => ?_)
  refine W.eq (g2 := F0 m 20 ls [.int r_4]) rfl ?_
  refine lv_istore_n (lv' := [(2, .int r_4), (1, .int (-1)), (0, .ref A_t)]) hx hb dX4_lowestLeastProof_20 rfl hl (by decide) rfl (fun ls hl => ?_)
  refine lv_iconst (v := 1) hx hb dX4_lowestLeastProof_21 (by decide) ?_
  refine lv_istore_n (lv' := [(3, .int 1), (2, .int r_4), (1, .int (-1)), (0, .ref A_t)]) hx hb dX4_lowestLeastProof_22 rfl hl (by decide) rfl (fun ls hl => ?_)
  have hloop_23 : ∀ (kont : Int32 → Option (Int32 × (Nat → Int64) × Bool)), (∀ (u1_8 : Int32) (H : Heap) (locs : List Loc) (ls : Array Slot), kont u1_8 = some (r9, t_beaten_bits9, t_beaten_stale9) → va_P D vwCl (w_X4_lowestLeastProof cy A_t A_t_state A_t_saved A_t_beaten A_t_text A_t_state_positive A_t_state_negative A_t_beaten_bits t_state_variables t_state_breakers t_state_clauses t_state_learned t_state_rounds t_state_positive t_state_negative t_beaten_stale_2 t_beaten_bits_1) H → va_D A (w_X4_lowestLeastProof cy A_t A_t_state A_t_saved A_t_beaten A_t_text A_t_state_positive A_t_state_negative A_t_beaten_bits t_state_variables t_state_breakers t_state_clauses t_state_learned t_state_rounds t_state_positive t_state_negative t_beaten_stale_2 t_beaten_bits_1) → va_S A s.heap H locs → lv_has ls 5 [(1, .int u1_8)] → W p l e (rmK 4 96) s m args below meth c H locs 0 0 (MQ below (kQ (some (.int r9)) D A (w_X4_lowestLeastProof cy A_t A_t_state A_t_saved A_t_beaten A_t_text A_t_state_positive A_t_state_negative A_t_beaten_bits t_state_variables t_state_breakers t_state_clauses t_state_learned t_state_rounds t_state_positive t_state_negative t_beaten_stale9 t_beaten_bits9)) args s 0 0 A) (F0 m 77 ls [])) → ∀ (n : Nat) (v1_6 : Int32) (v3_7 : Int32) (H : Heap) (locs : List Loc) (ls : Array Slot), L_X4_lowestLeastProof_23 N t_beaten_bits_1 r_4 kont n v1_6 v3_7 = some (r9, t_beaten_bits9, t_beaten_stale9) → va_P D vwCl (w_X4_lowestLeastProof cy A_t A_t_state A_t_saved A_t_beaten A_t_text A_t_state_positive A_t_state_negative A_t_beaten_bits t_state_variables t_state_breakers t_state_clauses t_state_learned t_state_rounds t_state_positive t_state_negative t_beaten_stale_2 t_beaten_bits_1) H → va_D A (w_X4_lowestLeastProof cy A_t A_t_state A_t_saved A_t_beaten A_t_text A_t_state_positive A_t_state_negative A_t_beaten_bits t_state_variables t_state_breakers t_state_clauses t_state_learned t_state_rounds t_state_positive t_state_negative t_beaten_stale_2 t_beaten_bits_1) → va_S A s.heap H locs → lv_has ls 5 [(0, .ref A_t), (1, .int v1_6), (2, .int r_4), (3, .int v3_7)] → W p l e (rmK 4 96) s m args below meth c H locs 0 0 (MQ below (kQ (some (.int r9)) D A (w_X4_lowestLeastProof cy A_t A_t_state A_t_saved A_t_beaten A_t_text A_t_state_positive A_t_state_negative A_t_beaten_bits t_state_variables t_state_breakers t_state_clauses t_state_learned t_state_rounds t_state_positive t_state_negative t_beaten_stale9 t_beaten_bits9)) args s 0 0 A) (F0 m 23 ls []) := by
    intro kont hexit_23 n
    induction n with
    | zero =>
      intro v1_6 v3_7 H locs ls hF
      rw [L_X4_lowestLeastProof_23] at hF
      cases hF
    | succ n ih =>
      intro v1_6 v3_7 H locs ls hF hP hD hS hl
      rw [L_X4_lowestLeastProof_23] at hF
      refine lv_iload_n hx hb dX4_lowestLeastProof_23 rfl (lv_at hl 3 rfl) ?_
      refine lv_iload_n hx hb dX4_lowestLeastProof_24 rfl (lv_at hl 2 rfl) ?_
      refine lv_icmp_gt (tgt := 77) hx hb dX4_lowestLeastProof_25 (by decide) (fun c_9 => ?_) (fun c_9 => ?_)
      · replace hF := ite_t c_9 hF
        exact hexit_23 v1_6 H locs ls hF hP hD hS (lv_sub hl [1] rfl)
      · replace hF := ite_f c_9 hF
        refine lv_iload_n hx hb dX4_lowestLeastProof_28 rfl (lv_at hl 1 rfl) ?_
        refine lv_iconst (v := (-1)) hx hb dX4_lowestLeastProof_29 (by decide) ?_
        refine lv_icmp_eq (tgt := 44) hx hb dX4_lowestLeastProof_30 (by decide) (fun c_10 => ?_) (fun c_10 => ?_)
        · replace hF := ite_t c_10 hF
          refine lv_iconst (v := 1) hx hb dX4_lowestLeastProof_44 (by decide) ?_
          refine lv_goto (tgt := 49) hx hb dX4_lowestLeastProof_45 (by decide) ?_
          refine lv_istore (lv' := [(4, .int 1), (0, .ref A_t), (1, .int v1_6), (2, .int r_4), (3, .int v3_7)]) hx hb dX4_lowestLeastProof_49 hl (by decide) rfl (fun ls hl => ?_)
          refine lv_iload hx hb dX4_lowestLeastProof_51 (lv_at hl 0 rfl) ?_
          refine lv_if_eq (tgt := 71) hx hb dX4_lowestLeastProof_53 (by decide) (fun h0 => absurd h0 (by decide)) (fun _ => ?_)
          refine lv_aload_n hx hb dX4_lowestLeastProof_56 rfl (lv_at hl 1 rfl) ?_
          refine va_get (D := D) (ci := 4) (v := .ref A_t_beaten) (C := RX4) (T := TX4) (N := 4) hx hb hts inX4 hown hK hP 0 rfl rfl 2 (by decide) (hts _ q_152) (fun _ h9 => h9) rfl dX4_lowestLeastProof_57 ?_
          refine lv_iconst (v := 0) hx hb dX4_lowestLeastProof_60 (by decide) ?_
          refine lv_iconst (v := 0) hx hb dX4_lowestLeastProof_61 (by decide) ?_
          refine lv_iload_n hx hb dX4_lowestLeastProof_62 rfl (lv_at hl 4 rfl) ?_
          obtain ⟨r_11, hF_12, hF⟩ := ob1_some hF
          refine kcVN (q := (RX0, TX0, 2)) (ci := 0) (q0 := 4) (As := [.int 0, .int 0, .int v3_7]) (rest := []) (wr := [(A_t, .inr (4, [.ref A_t_state, .ref A_t_saved, .ref A_t_beaten, .ref A_t_text])), (A_t_state, .inr (3, [.int t_state_variables, .int t_state_breakers, .int t_state_clauses, .ref A_t_state_positive, .ref A_t_state_negative, .int t_state_learned, .int t_state_rounds])), (A_t_state_positive, .inl (cy 0, 20, .inl t_state_positive)), (A_t_state_negative, .inl (cy 0, 20, .inl t_state_negative))]) (wsN := (w_X4_lowestLeastProof cy A_t A_t_state A_t_saved A_t_beaten A_t_text A_t_state_positive A_t_state_negative A_t_beaten_bits t_state_variables t_state_breakers t_state_clauses t_state_learned t_state_rounds t_state_positive t_state_negative t_beaten_stale_2 t_beaten_bits_1)) ⟨hx, hb, hml, hown, hts⟩ hE hP hD hS hA hAs [4, 5] [0, 1, 2, 3] [0, 1, 2, 3, 4, 5] (c_X0_has l D cy s0 tW N A_t_beaten A_t_beaten_bits 0 0 v3_7 t_beaten_stale_2 t_beaten_bits_1 _ hF_12) q_258 q_38 q_257 q_13 (nq_255 hE.2.1) hd_X0_has.2 ⟨Nat.le_of_ble_eq_true rfl, Nat.le_of_ble_eq_true rfl⟩ rfl rfl rfl rfl rfl rfl rfl rfl rfl hl.1 rfl (Nat.le_of_ble_eq_true rfl) dX4_lowestLeastProof_63 ⟨Nat.zero_le _, Nat.zero_le _⟩ (fun H locs hP hD hS => ?_)
          refine W.eq (g2 := F0 m 66 ls [.int (bI r_11)]) rfl ?_
          refine lv_if_ne (tgt := 71) hx hb dX4_lowestLeastProof_66 (by decide) (fun c_13 => ?_) (fun c_13 => ?_)
          · replace hF := ite_t (bI_t c_13) hF
            refine lv_iinc (v := (v3_7 + 1)) (lv' := [(3, .int (v3_7 + 1)), (4, .int 1), (0, .ref A_t), (1, .int v1_6), (2, .int r_4)]) hx hb dX4_lowestLeastProof_71 hl (k := 4) rfl (by first | rfl | decide) (by decide) rfl (fun ls hl => ?_)
            refine lv_goto (tgt := 23) hx hb dX4_lowestLeastProof_74 (by decide) ?_
            exact ih v1_6 (v3_7 + 1) H locs ls hF hP hD hS (lv_sub hl [2, 3, 4, 0] rfl)
          · replace hF := ite_f (bI_f c_13) hF
            refine lv_iload_n hx hb dX4_lowestLeastProof_69 rfl (lv_at hl 4 rfl) ?_
            refine lv_istore_n (lv' := [(1, .int v3_7), (4, .int 1), (0, .ref A_t), (2, .int r_4), (3, .int v3_7)]) hx hb dX4_lowestLeastProof_70 rfl hl (by decide) rfl (fun ls hl => ?_)
            refine lv_iinc (v := (v3_7 + 1)) (lv' := [(3, .int (v3_7 + 1)), (1, .int v3_7), (4, .int 1), (0, .ref A_t), (2, .int r_4)]) hx hb dX4_lowestLeastProof_71 hl (k := 4) rfl (by first | rfl | decide) (by decide) rfl (fun ls hl => ?_)
            refine lv_goto (tgt := 23) hx hb dX4_lowestLeastProof_74 (by decide) ?_
            exact ih v3_7 (v3_7 + 1) H locs ls hF hP hD hS (lv_sub hl [3, 1, 4, 0] rfl)
        · replace hF := ite_f c_10 hF
          refine lv_iload_n hx hb dX4_lowestLeastProof_33 rfl (lv_at hl 3 rfl) ?_
          obtain ⟨r_14, hF_15, hF⟩ := ob1_some hF
          refine kcS (As := [.int v3_7]) (rest := []) (wr := [(A_t, .inr (4, [.ref A_t_state, .ref A_t_saved, .ref A_t_beaten, .ref A_t_text])), (A_t_state, .inr (3, [.int t_state_variables, .int t_state_breakers, .int t_state_clauses, .ref A_t_state_positive, .ref A_t_state_negative, .int t_state_learned, .int t_state_rounds])), (A_t_state_positive, .inl (cy 0, 20, .inl t_state_positive)), (A_t_state_negative, .inl (cy 0, 20, .inl t_state_negative)), (A_t_beaten, .inr (0, [.ref A_t_beaten_bits, .int (bI t_beaten_stale_2)])), (A_t_beaten_bits, .inl (cy 1, 4096, .inr (.inl t_beaten_bits_1)))]) (wsN := (w_X4_lowestLeastProof cy A_t A_t_state A_t_saved A_t_beaten A_t_text A_t_state_positive A_t_state_negative A_t_beaten_bits t_state_variables t_state_breakers t_state_clauses t_state_learned t_state_rounds t_state_positive t_state_negative t_beaten_stale_2 t_beaten_bits_1)) ⟨hx, hb, hml, hown, hts⟩ hE hP hD hS hA hAs [] [0, 1, 2, 3, 4, 5] [0, 1, 2, 3, 4, 5] (c_J6_bitCount_0f7a4 l D cy s0 tW N v3_7 _ hF_15) (gS q_434 q_250 q_44 q_251) hd_J6_bitCount_0f7a4.2 ⟨Nat.le_of_ble_eq_true rfl, Nat.le_of_ble_eq_true rfl⟩ rfl rfl rfl rfl rfl rfl rfl hl.1 rfl (Nat.le_of_ble_eq_true rfl) dX4_lowestLeastProof_34 ⟨Nat.zero_le _, Nat.zero_le _⟩ (fun H locs hP hD hS => ?_)
          refine W.eq (g2 := F0 m 37 ls [.int r_14]) rfl ?_
          refine lv_iload_n hx hb dX4_lowestLeastProof_37 rfl (lv_at hl 1 rfl) ?_
          obtain ⟨r_16, hF_17, hF⟩ := ob1_some hF
          refine kcS (As := [.int v1_6]) (rest := [.int r_14]) (wr := [(A_t, .inr (4, [.ref A_t_state, .ref A_t_saved, .ref A_t_beaten, .ref A_t_text])), (A_t_state, .inr (3, [.int t_state_variables, .int t_state_breakers, .int t_state_clauses, .ref A_t_state_positive, .ref A_t_state_negative, .int t_state_learned, .int t_state_rounds])), (A_t_state_positive, .inl (cy 0, 20, .inl t_state_positive)), (A_t_state_negative, .inl (cy 0, 20, .inl t_state_negative)), (A_t_beaten, .inr (0, [.ref A_t_beaten_bits, .int (bI t_beaten_stale_2)])), (A_t_beaten_bits, .inl (cy 1, 4096, .inr (.inl t_beaten_bits_1)))]) (wsN := (w_X4_lowestLeastProof cy A_t A_t_state A_t_saved A_t_beaten A_t_text A_t_state_positive A_t_state_negative A_t_beaten_bits t_state_variables t_state_breakers t_state_clauses t_state_learned t_state_rounds t_state_positive t_state_negative t_beaten_stale_2 t_beaten_bits_1)) ⟨hx, hb, hml, hown, hts⟩ hE hP hD hS hA hAs [] [0, 1, 2, 3, 4, 5] [0, 1, 2, 3, 4, 5] (c_J6_bitCount_0f7a4 l D cy s0 tW N v1_6 _ hF_17) (gS q_434 q_250 q_44 q_251) hd_J6_bitCount_0f7a4.2 ⟨Nat.le_of_ble_eq_true rfl, Nat.le_of_ble_eq_true rfl⟩ rfl rfl rfl rfl rfl rfl rfl hl.1 rfl (Nat.le_of_ble_eq_true rfl) dX4_lowestLeastProof_38 ⟨Nat.zero_le _, Nat.zero_le _⟩ (fun H locs hP hD hS => ?_)
          refine W.eq (g2 := F0 m 41 ls [.int r_16, .int r_14]) rfl ?_
          refine lv_icmp_ge (tgt := 48) hx hb dX4_lowestLeastProof_41 (by decide) (fun c_18 => ?_) (fun c_18 => ?_)
          · replace hF := ite_t c_18 hF
            refine lv_iconst (v := 0) hx hb dX4_lowestLeastProof_48 (by decide) ?_
            refine lv_istore (lv' := [(4, .int 0), (0, .ref A_t), (1, .int v1_6), (2, .int r_4), (3, .int v3_7)]) hx hb dX4_lowestLeastProof_49 hl (by decide) rfl (fun ls hl => ?_)
            refine lv_iload hx hb dX4_lowestLeastProof_51 (lv_at hl 0 rfl) ?_
            refine lv_if_eq (tgt := 71) hx hb dX4_lowestLeastProof_53 (by decide) (fun _ => ?_) (fun h0 => absurd (by decide) h0)
            refine lv_iinc (v := (v3_7 + 1)) (lv' := [(3, .int (v3_7 + 1)), (4, .int 0), (0, .ref A_t), (1, .int v1_6), (2, .int r_4)]) hx hb dX4_lowestLeastProof_71 hl (k := 4) rfl (by first | rfl | decide) (by decide) rfl (fun ls hl => ?_)
            refine lv_goto (tgt := 23) hx hb dX4_lowestLeastProof_74 (by decide) ?_
            exact ih v1_6 (v3_7 + 1) H locs ls hF hP hD hS (lv_sub hl [2, 3, 4, 0] rfl)
          · replace hF := ite_f c_18 hF
            refine lv_iconst (v := 1) hx hb dX4_lowestLeastProof_44 (by decide) ?_
            refine lv_goto (tgt := 49) hx hb dX4_lowestLeastProof_45 (by decide) ?_
            refine lv_istore (lv' := [(4, .int 1), (0, .ref A_t), (1, .int v1_6), (2, .int r_4), (3, .int v3_7)]) hx hb dX4_lowestLeastProof_49 hl (by decide) rfl (fun ls hl => ?_)
            refine lv_iload hx hb dX4_lowestLeastProof_51 (lv_at hl 0 rfl) ?_
            refine lv_if_eq (tgt := 71) hx hb dX4_lowestLeastProof_53 (by decide) (fun h0 => absurd h0 (by decide)) (fun _ => ?_)
            refine lv_aload_n hx hb dX4_lowestLeastProof_56 rfl (lv_at hl 1 rfl) ?_
            refine va_get (D := D) (ci := 4) (v := .ref A_t_beaten) (C := RX4) (T := TX4) (N := 4) hx hb hts inX4 hown hK hP 0 rfl rfl 2 (by decide) (hts _ q_152) (fun _ h9 => h9) rfl dX4_lowestLeastProof_57 ?_
            refine lv_iconst (v := 0) hx hb dX4_lowestLeastProof_60 (by decide) ?_
            refine lv_iconst (v := 0) hx hb dX4_lowestLeastProof_61 (by decide) ?_
            refine lv_iload_n hx hb dX4_lowestLeastProof_62 rfl (lv_at hl 4 rfl) ?_
            obtain ⟨r_19, hF_20, hF⟩ := ob1_some hF
            refine kcVN (q := (RX0, TX0, 2)) (ci := 0) (q0 := 4) (As := [.int 0, .int 0, .int v3_7]) (rest := []) (wr := [(A_t, .inr (4, [.ref A_t_state, .ref A_t_saved, .ref A_t_beaten, .ref A_t_text])), (A_t_state, .inr (3, [.int t_state_variables, .int t_state_breakers, .int t_state_clauses, .ref A_t_state_positive, .ref A_t_state_negative, .int t_state_learned, .int t_state_rounds])), (A_t_state_positive, .inl (cy 0, 20, .inl t_state_positive)), (A_t_state_negative, .inl (cy 0, 20, .inl t_state_negative))]) (wsN := (w_X4_lowestLeastProof cy A_t A_t_state A_t_saved A_t_beaten A_t_text A_t_state_positive A_t_state_negative A_t_beaten_bits t_state_variables t_state_breakers t_state_clauses t_state_learned t_state_rounds t_state_positive t_state_negative t_beaten_stale_2 t_beaten_bits_1)) ⟨hx, hb, hml, hown, hts⟩ hE hP hD hS hA hAs [4, 5] [0, 1, 2, 3] [0, 1, 2, 3, 4, 5] (c_X0_has l D cy s0 tW N A_t_beaten A_t_beaten_bits 0 0 v3_7 t_beaten_stale_2 t_beaten_bits_1 _ hF_20) q_258 q_38 q_257 q_13 (nq_255 hE.2.1) hd_X0_has.2 ⟨Nat.le_of_ble_eq_true rfl, Nat.le_of_ble_eq_true rfl⟩ rfl rfl rfl rfl rfl rfl rfl rfl rfl hl.1 rfl (Nat.le_of_ble_eq_true rfl) dX4_lowestLeastProof_63 ⟨Nat.zero_le _, Nat.zero_le _⟩ (fun H locs hP hD hS => ?_)
            refine W.eq (g2 := F0 m 66 ls [.int (bI r_19)]) rfl ?_
            refine lv_if_ne (tgt := 71) hx hb dX4_lowestLeastProof_66 (by decide) (fun c_21 => ?_) (fun c_21 => ?_)
            · replace hF := ite_t (bI_t c_21) hF
              refine lv_iinc (v := (v3_7 + 1)) (lv' := [(3, .int (v3_7 + 1)), (4, .int 1), (0, .ref A_t), (1, .int v1_6), (2, .int r_4)]) hx hb dX4_lowestLeastProof_71 hl (k := 4) rfl (by first | rfl | decide) (by decide) rfl (fun ls hl => ?_)
              refine lv_goto (tgt := 23) hx hb dX4_lowestLeastProof_74 (by decide) ?_
              exact ih v1_6 (v3_7 + 1) H locs ls hF hP hD hS (lv_sub hl [2, 3, 4, 0] rfl)
            · replace hF := ite_f (bI_f c_21) hF
              refine lv_iload_n hx hb dX4_lowestLeastProof_69 rfl (lv_at hl 4 rfl) ?_
              refine lv_istore_n (lv' := [(1, .int v3_7), (4, .int 1), (0, .ref A_t), (2, .int r_4), (3, .int v3_7)]) hx hb dX4_lowestLeastProof_70 rfl hl (by decide) rfl (fun ls hl => ?_)
              refine lv_iinc (v := (v3_7 + 1)) (lv' := [(3, .int (v3_7 + 1)), (1, .int v3_7), (4, .int 1), (0, .ref A_t), (2, .int r_4)]) hx hb dX4_lowestLeastProof_71 hl (k := 4) rfl (by first | rfl | decide) (by decide) rfl (fun ls hl => ?_)
              refine lv_goto (tgt := 23) hx hb dX4_lowestLeastProof_74 (by decide) ?_
              exact ih v3_7 (v3_7 + 1) H locs ls hF hP hD hS (lv_sub hl [3, 1, 4, 0] rfl)
  refine hloop_23 _ (fun u1_8 H locs ls hF hP hD hS hl => ?_) N (-1) 1 _ _ ls hF hP hD hS (lv_sub hl [3, 2, 1, 0] rfl)
  refine lv_iload_n hx hb dX4_lowestLeastProof_77 rfl (lv_at hl 0 rfl) ?_
  cases hF
  exact kret_i hx hb hr hlocks hP hD hS dX4_lowestLeastProof_78

theorem q_29 : Cond.selects RX4 yX4_lowestLeastProof yX4_lowestLeastProof ∈ wAll := wAll_mem 29 (by decide +kernel) (by decide +kernel)
theorem q_519 : Cond.methodLink RX4 182 yX4_lowestLeastProof ∈ wAll := wAll_mem 519 (by decide +kernel) (by decide +kernel)
theorem q_521 : Cond.instanceMethod yX4_lowestLeastProof ∈ wAll := wAll_mem 521 (by decide +kernel) (by decide +kernel)
theorem q_522 : Cond.code yX4_lowestLeastProof cX4_lowestLeastProof 5 (some .int) ∈ wAll := wAll_mem 522 (by decide +kernel) (by decide +kernel)
theorem hd_X4_lowestLeastProof : yX4_lowestLeastProof.cls = RX4 ∧ yX4_lowestLeastProof.cls ≠ "java/lang/invoke/MethodHandle" ∧ yX4_lowestLeastProof.cls ≠ "java/lang/invoke/VarHandle" ∧ (parseMethodDescriptor yX4_lowestLeastProof.desc).map (fun d => d.parameters.length) = some 0 := by decide +kernel
abbrev w_X4_leastProof (cy : Nat → ClassId) (A_t : Nat) (A_t_state : Nat) (A_t_saved : Nat) (A_t_beaten : Nat) (A_t_text : Nat) (A_t_state_positive : Nat) (A_t_state_negative : Nat) (A_t_beaten_bits : Nat) (t_state_variables : Int32) (t_state_breakers : Int32) (t_state_clauses : Int32) (t_state_learned : Int32) (t_state_rounds : Int32) (t_state_positive : Nat → Int32) (t_state_negative : Nat → Int32) (t_beaten_stale : Bool) (t_beaten_bits : Nat → Int64) : va_W := [(A_t, .inr (4, [.ref A_t_state, .ref A_t_saved, .ref A_t_beaten, .ref A_t_text])), (A_t_state, .inr (3, [.int t_state_variables, .int t_state_breakers, .int t_state_clauses, .ref A_t_state_positive, .ref A_t_state_negative, .int t_state_learned, .int t_state_rounds])), (A_t_state_positive, .inl (cy 0, 20, .inl t_state_positive)), (A_t_state_negative, .inl (cy 0, 20, .inl t_state_negative)), (A_t_beaten, .inr (0, [.ref A_t_beaten_bits, .int (bI t_beaten_stale)])), (A_t_beaten_bits, .inl (cy 1, 4096, .inr (.inl t_beaten_bits)))]
def F_X4_leastProof (N : Nat) (t_state_variables : Int32) (t_state_breakers : Int32) (t_state_clauses : Int32) (t_state_positive : Nat → Int32) (t_state_negative : Nat → Int32) (t_beaten_bits : Nat → Int64) (t_beaten_stale : Bool) : Option (Int32 × (Nat → Int64) × Bool) :=
  ob3 (F_X4_lowestLeastProof N t_state_variables t_state_breakers t_state_clauses t_state_positive t_state_negative t_beaten_bits t_beaten_stale) (fun r_1 t_beaten_bits_2 t_beaten_stale_3 => (if r_1 = ((-1) : Int32) then some ((-1), t_beaten_bits_2, t_beaten_stale_3) else ob1 (F_J6_bitCount_0f7a4 N r_1) (fun r_6 => some (r_6, t_beaten_bits_2, t_beaten_stale_3))))
set_option maxHeartbeats 4000000 in
set_option maxRecDepth 100000 in
theorem c_X4_leastProof (l : Launch) (D : va_G) (cy : Nat → ClassId) (s0 tW N : Nat) (A_t : Nat) (A_t_state : Nat) (A_t_saved : Nat) (A_t_beaten : Nat) (A_t_text : Nat) (A_t_state_positive : Nat) (A_t_state_negative : Nat) (A_t_beaten_bits : Nat) (t_state_variables : Int32) (t_state_breakers : Int32) (t_state_clauses : Int32) (t_state_learned : Int32) (t_state_rounds : Int32) (t_state_positive : Nat → Int32) (t_state_negative : Nat → Int32) (t_beaten_stale : Bool) (t_beaten_bits : Nat → Int64) (sz : Nat) {r9 : Int32} {t_beaten_bits9 : Nat → Int64} {t_beaten_stale9 : Bool} (hF : F_X4_leastProof N t_state_variables t_state_breakers t_state_clauses t_state_positive t_state_negative t_beaten_bits t_beaten_stale = some (r9, t_beaten_bits9, t_beaten_stale9)) : KM l D cy s0 tW yX4_leastProof cX4_leastProof 2 (some .int) 5 120 [.ref A_t] sz (w_X4_leastProof cy A_t A_t_state A_t_saved A_t_beaten A_t_text A_t_state_positive A_t_state_negative A_t_beaten_bits t_state_variables t_state_breakers t_state_clauses t_state_learned t_state_rounds t_state_positive t_state_negative t_beaten_stale t_beaten_bits) (some (.int r9)) (w_X4_leastProof cy A_t A_t_state A_t_saved A_t_beaten A_t_text A_t_state_positive A_t_state_negative A_t_beaten_bits t_state_variables t_state_breakers t_state_clauses t_state_learned t_state_rounds t_state_positive t_state_negative t_beaten_stale9 t_beaten_bits9) := by
  refine KM.intro rfl (Nat.le_of_ble_eq_true rfl) ?_
  intro p e s m args below meth c A ls hx hb hr hml hown hts hlocks hE hP hD hS hA hAs hl
  have hK := hE.1
  have hl : lv_has ls 2 [(0, .ref A_t)] := hl
  unfold F_X4_leastProof at hF
  refine lv_aload_n hx hb dX4_leastProof_0 rfl (lv_at hl 0 rfl) ?_
  obtain ⟨r_1, t_beaten_bits_2, t_beaten_stale_3, hF_4, hF⟩ := ob3_some hF
  refine kcV (q := (RX4, TX4, 4)) (ci := 4) (q0 := 0) (As := []) (rest := []) (wr := []) (wsN := (w_X4_leastProof cy A_t A_t_state A_t_saved A_t_beaten A_t_text A_t_state_positive A_t_state_negative A_t_beaten_bits t_state_variables t_state_breakers t_state_clauses t_state_learned t_state_rounds t_state_positive t_state_negative t_beaten_stale_3 t_beaten_bits_2)) ⟨hx, hb, hml, hown, hts⟩ hE hP hD hS hA hAs [0, 1, 2, 3, 4, 5] [] [0, 1, 2, 3, 4, 5] (c_X4_lowestLeastProof l D cy s0 tW N A_t A_t_state A_t_saved A_t_beaten A_t_text A_t_state_positive A_t_state_negative A_t_beaten_bits t_state_variables t_state_breakers t_state_clauses t_state_learned t_state_rounds t_state_positive t_state_negative t_beaten_stale t_beaten_bits _ hF_4) (gV q_519 q_521 q_29 q_35 q_522) hd_X4_lowestLeastProof ⟨Nat.le_of_ble_eq_true rfl, Nat.le_of_ble_eq_true rfl⟩ rfl rfl rfl rfl rfl rfl rfl rfl rfl hl.1 rfl (Nat.le_of_ble_eq_true rfl) dX4_leastProof_1 ⟨Nat.zero_le _, Nat.zero_le _⟩ (fun H locs hP hD hS => ?_)
  refine W.eq (g2 := F0 m 4 ls [.int r_1]) rfl ?_
  refine lv_istore_n (lv' := [(1, .int r_1), (0, .ref A_t)]) hx hb dX4_leastProof_4 rfl hl (by decide) rfl (fun ls hl => ?_)
  refine lv_iload_n hx hb dX4_leastProof_5 rfl (lv_at hl 0 rfl) ?_
  refine lv_iconst (v := (-1)) hx hb dX4_leastProof_6 (by decide) ?_
  refine lv_icmp_ne (tgt := 14) hx hb dX4_leastProof_7 (by decide) (fun c_5 => ?_) (fun c_5 => ?_)
  · replace hF := ite_f c_5 hF
    refine lv_iload_n hx hb dX4_leastProof_14 rfl (lv_at hl 0 rfl) ?_
    obtain ⟨r_6, hF_7, hF⟩ := ob1_some hF
    refine kcS (As := [.int r_1]) (rest := []) (wr := [(A_t, .inr (4, [.ref A_t_state, .ref A_t_saved, .ref A_t_beaten, .ref A_t_text])), (A_t_state, .inr (3, [.int t_state_variables, .int t_state_breakers, .int t_state_clauses, .ref A_t_state_positive, .ref A_t_state_negative, .int t_state_learned, .int t_state_rounds])), (A_t_state_positive, .inl (cy 0, 20, .inl t_state_positive)), (A_t_state_negative, .inl (cy 0, 20, .inl t_state_negative)), (A_t_beaten, .inr (0, [.ref A_t_beaten_bits, .int (bI t_beaten_stale_3)])), (A_t_beaten_bits, .inl (cy 1, 4096, .inr (.inl t_beaten_bits_2)))]) (wsN := (w_X4_leastProof cy A_t A_t_state A_t_saved A_t_beaten A_t_text A_t_state_positive A_t_state_negative A_t_beaten_bits t_state_variables t_state_breakers t_state_clauses t_state_learned t_state_rounds t_state_positive t_state_negative t_beaten_stale_3 t_beaten_bits_2)) ⟨hx, hb, hml, hown, hts⟩ hE hP hD hS hA hAs [] [0, 1, 2, 3, 4, 5] [0, 1, 2, 3, 4, 5] (c_J6_bitCount_0f7a4 l D cy s0 tW N r_1 _ hF_7) (gS q_434 q_250 q_44 q_251) hd_J6_bitCount_0f7a4.2 ⟨Nat.le_of_ble_eq_true rfl, Nat.le_of_ble_eq_true rfl⟩ rfl rfl rfl rfl rfl rfl rfl hl.1 rfl (Nat.le_of_ble_eq_true rfl) dX4_leastProof_15 ⟨Nat.zero_le _, Nat.zero_le _⟩ (fun H locs hP hD hS => ?_)
    refine W.eq (g2 := F0 m 18 ls [.int r_6]) rfl ?_
    cases hF
    exact kret_i hx hb hr hlocks hP hD hS dX4_leastProof_18
  · replace hF := ite_t c_5 hF
    refine lv_iconst (v := (-1)) hx hb dX4_leastProof_10 (by decide) ?_
    refine lv_goto (tgt := 18) hx hb dX4_leastProof_11 (by decide) ?_
    cases hF
    exact kret_i hx hb hr hlocks hP hD hS dX4_leastProof_18
