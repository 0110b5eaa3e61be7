theorem q_64 : Cond.fieldLink RX3 22 "ForAllGame$State" "breakers" "I" ∈ wAll := wAll_mem 64 (by decide +kernel) (by decide +kernel)
abbrev w_X3_ownerOf (cy : Nat → ClassId) (A_t : Nat) (A_t_positive : Nat) (A_t_negative : Nat) (t_variables : Int32) (t_breakers : Int32) (t_clauses : Int32) (t_learned : Int32) (t_rounds : Int32) : va_W := [(A_t, .inr (3, [.int t_variables, .int t_breakers, .int t_clauses, .ref A_t_positive, .ref A_t_negative, .int t_learned, .int t_rounds]))]
def F_X3_ownerOf (N : Nat) (p0 : Int32) (t_breakers : Int32) : Option (Int32) :=
  some ((t_breakers >>> (p0 &&& 31)) &&& 1)
set_option maxHeartbeats 4000000 in
set_option maxRecDepth 100000 in
theorem c_X3_ownerOf (l : Launch) (D : va_G) (cy : Nat → ClassId) (s0 tW N : Nat) (A_t : Nat) (A_t_positive : Nat) (A_t_negative : Nat) (p0 : Int32) (t_variables : Int32) (t_breakers : Int32) (t_clauses : Int32) (t_learned : Int32) (t_rounds : Int32) (sz : Nat) {r9 : Int32} (hF : F_X3_ownerOf N p0 t_breakers = some r9) : KM l D cy s0 tW yX3_ownerOf cX3_ownerOf 2 (some .int) 0 0 [.ref A_t, .int p0] sz (w_X3_ownerOf cy A_t A_t_positive A_t_negative t_variables t_breakers t_clauses t_learned t_rounds) (some (.int r9)) (w_X3_ownerOf cy A_t A_t_positive A_t_negative t_variables t_breakers t_clauses t_learned t_rounds) := by
  refine KM.intro rfl (Nat.le_of_ble_eq_true rfl) ?_
  intro p e s m args below meth c A ls hx hb hr hml hown hts hlocks hE hP hD hS hA hAs hl
  have hK := hE.1
  have hl : lv_has ls 2 [(0, .ref A_t), (1, .int p0)] := hl
  unfold F_X3_ownerOf at hF
  refine lv_aload_n hx hb dX3_ownerOf_0 rfl (lv_at hl 0 rfl) ?_
  refine va_get (D := D) (ci := 3) (v := .int t_breakers) (C := RX3) (T := TX3) (N := 7) hx hb hts inX3 hown hK hP 0 rfl rfl 1 (by decide) (hts _ q_64) (fun _ h9 => h9) rfl dX3_ownerOf_1 ?_
  refine lv_iload_n hx hb dX3_ownerOf_4 rfl (lv_at hl 1 rfl) ?_
  refine lv_ishr hx hb dX3_ownerOf_5 ?_
  refine lv_iconst (v := 1) hx hb dX3_ownerOf_6 (by decide) ?_
  refine lv_iand hx hb dX3_ownerOf_7 ?_
  cases hF
  exact kret_i hx hb hr hlocks hP hD hS dX3_ownerOf_8

theorem q_44 : Cond.initialized RJ6 ∈ wAll := wAll_mem 44 (by decide +kernel) (by decide +kernel)
theorem q_249 : Cond.methodLink RX3 42 yJ6_bitCount_0f7a4 ∈ wAll := wAll_mem 249 (by decide +kernel) (by decide +kernel)
theorem q_250 : Cond.static yJ6_bitCount_0f7a4 ∈ wAll := wAll_mem 250 (by decide +kernel) (by decide +kernel)
theorem q_251 : Cond.code yJ6_bitCount_0f7a4 cJ6_bitCount_0f7a4 1 (some .int) ∈ wAll := wAll_mem 251 (by decide +kernel) (by decide +kernel)
theorem hd_J6_bitCount_0f7a4 : yJ6_bitCount_0f7a4.cls = RJ6 ∧ yJ6_bitCount_0f7a4.cls ≠ "java/lang/invoke/MethodHandle" ∧ yJ6_bitCount_0f7a4.cls ≠ "java/lang/invoke/VarHandle" ∧ (parseMethodDescriptor yJ6_bitCount_0f7a4.desc).map (fun d => d.parameters.length) = some 1 := by decide +kernel
abbrev w_X3_plays (cy : Nat → ClassId) (A_t : Nat) (A_t_positive : Nat) (A_t_negative : Nat) (t_variables : Int32) (t_breakers : Int32) (t_clauses : Int32) (t_learned : Int32) (t_rounds : Int32) : va_W := [(A_t, .inr (3, [.int t_variables, .int t_breakers, .int t_clauses, .ref A_t_positive, .ref A_t_negative, .int t_learned, .int t_rounds]))]
def F_X3_plays (N : Nat) (t_breakers : Int32) : Option (Int32) :=
  ob1 (F_J6_bitCount_0f7a4 N t_breakers) (fun r_1 => some ((1 : Int32) <<< (r_1 &&& 31)))
set_option maxHeartbeats 4000000 in
set_option maxRecDepth 100000 in
theorem c_X3_plays (l : Launch) (D : va_G) (cy : Nat → ClassId) (s0 tW N : Nat) (A_t : Nat) (A_t_positive : Nat) (A_t_negative : Nat) (t_variables : Int32) (t_breakers : Int32) (t_clauses : Int32) (t_learned : Int32) (t_rounds : Int32) (sz : Nat) {r9 : Int32} (hF : F_X3_plays N t_breakers = some r9) : KM l D cy s0 tW yX3_plays cX3_plays 1 (some .int) 1 20 [.ref A_t] sz (w_X3_plays cy A_t A_t_positive A_t_negative t_variables t_breakers t_clauses t_learned t_rounds) (some (.int r9)) (w_X3_plays cy A_t A_t_positive A_t_negative t_variables t_breakers t_clauses t_learned t_rounds) := by
  refine KM.intro rfl (Nat.le_of_ble_eq_true rfl) ?_
  intro p e s m args below meth c A ls hx hb hr hml hown hts hlocks hE hP hD hS hA hAs hl
  have hK := hE.1
  have hl : lv_has ls 1 [(0, .ref A_t)] := hl
  unfold F_X3_plays at hF
  refine lv_iconst (v := 1) hx hb dX3_plays_0 (by decide) ?_
  refine lv_aload_n hx hb dX3_plays_1 rfl (lv_at hl 0 rfl) ?_
  refine va_get (D := D) (ci := 3) (v := .int t_breakers) (C := RX3) (T := TX3) (N := 7) hx hb hts inX3 hown hK hP 0 rfl rfl 1 (by decide) (hts _ q_64) (fun _ h9 => h9) rfl dX3_plays_2 ?_
  obtain ⟨r_1, hF_2, hF⟩ := ob1_some hF
  refine kcS (As := [.int t_breakers]) (rest := [.int 1]) (wr := [(A_t, .inr (3, [.int t_variables, .int t_breakers, .int t_clauses, .ref A_t_positive, .ref A_t_negative, .int t_learned, .int t_rounds]))]) (wsN := (w_X3_plays cy A_t A_t_positive A_t_negative t_variables t_breakers t_clauses t_learned t_rounds)) ⟨hx, hb, hml, hown, hts⟩ hE hP hD hS hA hAs [] [0] [0] (c_J6_bitCount_0f7a4 l D cy s0 tW N t_breakers _ hF_2) (gS q_249 q_250 q_44 q_251) hd_J6_bitCount_0f7a4.2 ⟨Nat.le_of_ble_eq_true rfl, Nat.le_of_ble_eq_true rfl⟩ rfl rfl rfl rfl rfl rfl rfl hl.1 rfl (Nat.le_of_ble_eq_true rfl) dX3_plays_5 ⟨Nat.zero_le _, Nat.zero_le _⟩ (fun H locs hP hD hS => ?_)
  refine W.eq (g2 := F0 m 8 ls [.int r_1, .int 1]) rfl ?_
  refine lv_ishl hx hb dX3_plays_8 ?_
  cases hF
  exact kret_i hx hb hr hlocks hP hD hS dX3_plays_9

theorem q_12 : Cond.selects RX3 yX3_plays yX3_plays ∈ wAll := wAll_mem 12 (by decide +kernel) (by decide +kernel)
theorem q_36 : Cond.initialized RX3 ∈ wAll := wAll_mem 36 (by decide +kernel) (by decide +kernel)
theorem q_245 : Cond.methodLink RX3 48 yX3_plays ∈ wAll := wAll_mem 245 (by decide +kernel) (by decide +kernel)
theorem q_247 : Cond.instanceMethod yX3_plays ∈ wAll := wAll_mem 247 (by decide +kernel) (by decide +kernel)
theorem q_248 : Cond.code yX3_plays cX3_plays 1 (some .int) ∈ wAll := wAll_mem 248 (by decide +kernel) (by decide +kernel)
theorem hd_X3_plays : yX3_plays.cls = RX3 ∧ yX3_plays.cls ≠ "java/lang/invoke/MethodHandle" ∧ yX3_plays.cls ≠ "java/lang/invoke/VarHandle" ∧ (parseMethodDescriptor yX3_plays.desc).map (fun d => d.parameters.length) = some 0 := by decide +kernel
abbrev w_X3_allPlays (cy : Nat → ClassId) (A_t : Nat) (A_t_positive : Nat) (A_t_negative : Nat) (t_variables : Int32) (t_breakers : Int32) (t_clauses : Int32) (t_learned : Int32) (t_rounds : Int32) : va_W := [(A_t, .inr (3, [.int t_variables, .int t_breakers, .int t_clauses, .ref A_t_positive, .ref A_t_negative, .int t_learned, .int t_rounds]))]
def F_X3_allPlays (N : Nat) (t_breakers : Int32) : Option (Int32) :=
  ob1 (F_X3_plays N t_breakers) (fun r_1 => some (((1 : Int32) <<< (r_1 &&& 31)) - 1))
set_option maxHeartbeats 4000000 in
set_option maxRecDepth 100000 in
theorem c_X3_allPlays (l : Launch) (D : va_G) (cy : Nat → ClassId) (s0 tW N : Nat) (A_t : Nat) (A_t_positive : Nat) (A_t_negative : Nat) (t_variables : Int32) (t_breakers : Int32) (t_clauses : Int32) (t_learned : Int32) (t_rounds : Int32) (sz : Nat) {r9 : Int32} (hF : F_X3_allPlays N t_breakers = some r9) : KM l D cy s0 tW yX3_allPlays cX3_allPlays 1 (some .int) 2 40 [.ref A_t] sz (w_X3_allPlays cy A_t A_t_positive A_t_negative t_variables t_breakers t_clauses t_learned t_rounds) (some (.int r9)) (w_X3_allPlays cy A_t A_t_positive A_t_negative t_variables t_breakers t_clauses t_learned t_rounds) := by
  refine KM.intro rfl (Nat.le_of_ble_eq_true rfl) ?_
  intro p e s m args below meth c A ls hx hb hr hml hown hts hlocks hE hP hD hS hA hAs hl
  have hK := hE.1
  have hl : lv_has ls 1 [(0, .ref A_t)] := hl
  unfold F_X3_allPlays at hF
  refine lv_iconst (v := 1) hx hb dX3_allPlays_0 (by decide) ?_
  refine lv_aload_n hx hb dX3_allPlays_1 rfl (lv_at hl 0 rfl) ?_
  obtain ⟨r_1, hF_2, hF⟩ := ob1_some hF
  refine kcV (q := (RX3, TX3, 7)) (ci := 3) (q0 := 0) (As := []) (rest := [.int 1]) (wr := []) (wsN := (w_X3_allPlays cy A_t A_t_positive A_t_negative t_variables t_breakers t_clauses t_learned t_rounds)) ⟨hx, hb, hml, hown, hts⟩ hE hP hD hS hA hAs [0] [] [0] (c_X3_plays l D cy s0 tW N A_t A_t_positive A_t_negative t_variables t_breakers t_clauses t_learned t_rounds _ hF_2) (gV q_245 q_247 q_12 q_36 q_248) hd_X3_plays ⟨Nat.le_of_ble_eq_true rfl, Nat.le_of_ble_eq_true rfl⟩ rfl rfl rfl rfl rfl rfl rfl rfl rfl hl.1 rfl (Nat.le_of_ble_eq_true rfl) dX3_allPlays_2 ⟨Nat.zero_le _, Nat.zero_le _⟩ (fun H locs hP hD hS => ?_)
  refine W.eq (g2 := F0 m 5 ls [.int r_1, .int 1]) rfl ?_
  refine lv_ishl hx hb dX3_allPlays_5 ?_
  refine lv_iconst (v := 1) hx hb dX3_allPlays_6 (by decide) ?_
  refine lv_isub hx hb dX3_allPlays_7 ?_
  cases hF
  exact kret_i hx hb hr hlocks hP hD hS dX3_allPlays_8

abbrev w_X3_hasPlay (cy : Nat → ClassId) (A_t : Nat) (A_t_positive : Nat) (A_t_negative : Nat) (t_variables : Int32) (t_breakers : Int32) (t_clauses : Int32) (t_learned : Int32) (t_rounds : Int32) : va_W := [(A_t, .inr (3, [.int t_variables, .int t_breakers, .int t_clauses, .ref A_t_positive, .ref A_t_negative, .int t_learned, .int t_rounds]))]
def F_X3_hasPlay (N : Nat) (p0 : Int32) (t_breakers : Int32) : Option (Bool) :=
  (if p0 < (0 : Int32) then some false else ob1 (F_X3_plays N t_breakers) (fun r_2 => (if r_2 ≤ p0 then some false else some true)))
set_option maxHeartbeats 4000000 in
set_option maxRecDepth 100000 in
theorem c_X3_hasPlay (l : Launch) (D : va_G) (cy : Nat → ClassId) (s0 tW N : Nat) (A_t : Nat) (A_t_positive : Nat) (A_t_negative : Nat) (p0 : Int32) (t_variables : Int32) (t_breakers : Int32) (t_clauses : Int32) (t_learned : Int32) (t_rounds : Int32) (sz : Nat) {r9 : Bool} (hF : F_X3_hasPlay N p0 t_breakers = some r9) : KM l D cy s0 tW yX3_hasPlay cX3_hasPlay 2 (some .boolean) 2 40 [.ref A_t, .int p0] sz (w_X3_hasPlay cy A_t A_t_positive A_t_negative t_variables t_breakers t_clauses t_learned t_rounds) (some (.int (bI r9))) (w_X3_hasPlay cy A_t A_t_positive A_t_negative t_variables t_breakers t_clauses t_learned t_rounds) := by
  refine KM.intro rfl (Nat.le_of_ble_eq_true rfl) ?_
  intro p e s m args below meth c A ls hx hb hr hml hown hts hlocks hE hP hD hS hA hAs hl
  have hK := hE.1
  have hl : lv_has ls 2 [(0, .ref A_t), (1, .int p0)] := hl
  unfold F_X3_hasPlay at hF
  refine lv_iload_n hx hb dX3_hasPlay_0 rfl (lv_at hl 1 rfl) ?_
  refine lv_if_lt (tgt := 16) hx hb dX3_hasPlay_1 (by decide) (fun c_1 => ?_) (fun c_1 => ?_)
  · replace hF := ite_t c_1 hF
    refine lv_iconst (v := 0) hx hb dX3_hasPlay_16 (by decide) ?_
    cases hF
    exact kret_z hx hb hr hlocks hP hD hS dX3_hasPlay_17
  · replace hF := ite_f c_1 hF
    refine lv_iload_n hx hb dX3_hasPlay_4 rfl (lv_at hl 1 rfl) ?_
    refine lv_aload_n hx hb dX3_hasPlay_5 rfl (lv_at hl 0 rfl) ?_
    obtain ⟨r_2, hF_3, hF⟩ := ob1_some hF
    refine kcV (q := (RX3, TX3, 7)) (ci := 3) (q0 := 0) (As := []) (rest := [.int p0]) (wr := []) (wsN := (w_X3_hasPlay cy A_t A_t_positive A_t_negative t_variables t_breakers t_clauses t_learned t_rounds)) ⟨hx, hb, hml, hown, hts⟩ hE hP hD hS hA hAs [0] [] [0] (c_X3_plays l D cy s0 tW N A_t A_t_positive A_t_negative t_variables t_breakers t_clauses t_learned t_rounds _ hF_3) (gV q_245 q_247 q_12 q_36 q_248) hd_X3_plays ⟨Nat.le_of_ble_eq_true rfl, Nat.le_of_ble_eq_true rfl⟩ rfl rfl rfl rfl rfl rfl rfl rfl rfl hl.1 rfl (Nat.le_of_ble_eq_true rfl) dX3_hasPlay_6 ⟨Nat.zero_le _, Nat.zero_le _⟩ (fun H locs hP hD hS => ?_)
    refine W.eq (g2 := F0 m 9 ls [.int r_2, .int p0]) rfl ?_
    refine lv_icmp_ge (tgt := 16) hx hb dX3_hasPlay_9 (by decide) (fun c_4 => ?_) (fun c_4 => ?_)
    · replace hF := ite_t c_4 hF
      refine lv_iconst (v := 0) hx hb dX3_hasPlay_16 (by decide) ?_
      cases hF
      exact kret_z hx hb hr hlocks hP hD hS dX3_hasPlay_17
    · replace hF := ite_f c_4 hF
      refine lv_iconst (v := 1) hx hb dX3_hasPlay_12 (by decide) ?_
      refine lv_goto (tgt := 17) hx hb dX3_hasPlay_13 (by decide) ?_
      cases hF
      exact kret_z hx hb hr hlocks hP hD hS dX3_hasPlay_17

theorem q_35 : Cond.initialized RX4 ∈ wAll := wAll_mem 35 (by decide +kernel) (by decide +kernel)
theorem q_70 : Cond.fieldLink RX3 28 "ForAllGame$State" "learned" "I" ∈ wAll := wAll_mem 70 (by decide +kernel) (by decide +kernel)
theorem q_217 : Cond.static yX4_bit ∈ wAll := wAll_mem 217 (by decide +kernel) (by decide +kernel)
theorem q_218 : Cond.code yX4_bit cX4_bit 2 (some .int) ∈ wAll := wAll_mem 218 (by decide +kernel) (by decide +kernel)
theorem nq_216 {s : State} (h : NW s) : va_Nw (Cond.methodLinkNest RX3 52 yX4_bit "ForAllGame") s := h.at 216 (by decide +kernel) rfl
theorem hd_X4_bit : yX4_bit.cls = RX4 ∧ yX4_bit.cls ≠ "java/lang/invoke/MethodHandle" ∧ yX4_bit.cls ≠ "java/lang/invoke/VarHandle" ∧ (parseMethodDescriptor yX4_bit.desc).map (fun d => d.parameters.length) = some 2 := by decide +kernel
abbrev w_X3_hasLearned (cy : Nat → ClassId) (A_t : Nat) (A_t_positive : Nat) (A_t_negative : Nat) (t_variables : Int32) (t_breakers : Int32) (t_clauses : Int32) (t_learned : Int32) (t_rounds : Int32) : va_W := [(A_t, .inr (3, [.int t_variables, .int t_breakers, .int t_clauses, .ref A_t_positive, .ref A_t_negative, .int t_learned, .int t_rounds]))]
def F_X3_hasLearned (N : Nat) (p0 : Int32) (t_learned : Int32) : Option (Bool) :=
  ob1 (F_X4_bit N t_learned p0) (fun r_1 => (if r_1 = (1 : Int32) then some true else some false))
set_option maxHeartbeats 4000000 in
set_option maxRecDepth 100000 in
theorem c_X3_hasLearned (l : Launch) (D : va_G) (cy : Nat → ClassId) (s0 tW N : Nat) (A_t : Nat) (A_t_positive : Nat) (A_t_negative : Nat) (p0 : Int32) (t_variables : Int32) (t_breakers : Int32) (t_clauses : Int32) (t_learned : Int32) (t_rounds : Int32) (sz : Nat) {r9 : Bool} (hF : F_X3_hasLearned N p0 t_learned = some r9) : KM l D cy s0 tW yX3_hasLearned cX3_hasLearned 2 (some .boolean) 1 21 [.ref A_t, .int p0] sz (w_X3_hasLearned cy A_t A_t_positive A_t_negative t_variables t_breakers t_clauses t_learned t_rounds) (some (.int (bI r9))) (w_X3_hasLearned cy A_t A_t_positive A_t_negative t_variables t_breakers t_clauses t_learned t_rounds) := by
  refine KM.intro rfl (Nat.le_of_ble_eq_true rfl) ?_
  intro p e s m args below meth c A ls hx hb hr hml hown hts hlocks hE hP hD hS hA hAs hl
  have hK := hE.1
  have hl : lv_has ls 2 [(0, .ref A_t), (1, .int p0)] := hl
  unfold F_X3_hasLearned at hF
  refine lv_aload_n hx hb dX3_hasLearned_0 rfl (lv_at hl 0 rfl) ?_
  refine va_get (D := D) (ci := 3) (v := .int t_learned) (C := RX3) (T := TX3) (N := 7) hx hb hts inX3 hown hK hP 0 rfl rfl 5 (by decide) (hts _ q_70) (fun _ h9 => h9) rfl dX3_hasLearned_1 ?_
  refine lv_iload_n hx hb dX3_hasLearned_4 rfl (lv_at hl 1 rfl) ?_
  obtain ⟨r_1, hF_2, hF⟩ := ob1_some hF
  refine kcSN (As := [.int t_learned, .int p0]) (rest := []) (wr := [(A_t, .inr (3, [.int t_variables, .int t_breakers, .int t_clauses, .ref A_t_positive, .ref A_t_negative, .int t_learned, .int t_rounds]))]) (wsN := (w_X3_hasLearned cy A_t A_t_positive A_t_negative t_variables t_breakers t_clauses t_learned t_rounds)) ⟨hx, hb, hml, hown, hts⟩ hE hP hD hS hA hAs [] [0] [0] (c_X4_bit l D cy s0 tW N t_learned p0 _ hF_2) q_218 q_35 q_217 (nq_216 hE.2.1) hd_X4_bit.2 ⟨Nat.le_of_ble_eq_true rfl, Nat.le_of_ble_eq_true rfl⟩ rfl rfl rfl rfl rfl rfl rfl hl.1 rfl (Nat.le_of_ble_eq_true rfl) dX3_hasLearned_5 ⟨Nat.zero_le _, Nat.zero_le _⟩ (fun H locs hP hD hS => ?_)
  refine W.eq (g2 := F0 m 8 ls [.int r_1]) rfl ?_
  refine lv_iconst (v := 1) hx hb dX3_hasLearned_8 (by decide) ?_
  refine lv_icmp_ne (tgt := 16) hx hb dX3_hasLearned_9 (by decide) (fun c_3 => ?_) (fun c_3 => ?_)
  · replace hF := ite_f c_3 hF
    refine lv_iconst (v := 0) hx hb dX3_hasLearned_16 (by decide) ?_
    cases hF
    exact kret_z hx hb hr hlocks hP hD hS dX3_hasLearned_17
  · replace hF := ite_t c_3 hF
    refine lv_iconst (v := 1) hx hb dX3_hasLearned_12 (by decide) ?_
    refine lv_goto (tgt := 17) hx hb dX3_hasLearned_13 (by decide) ?_
    cases hF
    exact kret_z hx hb hr hlocks hP hD hS dX3_hasLearned_17

theorem q_61 : Cond.fieldLink RX3 18 "ForAllGame$State" "variables" "I" ∈ wAll := wAll_mem 61 (by decide +kernel) (by decide +kernel)
abbrev w_X3_hasVariables (cy : Nat → ClassId) (A_t : Nat) (A_t_positive : Nat) (A_t_negative : Nat) (t_variables : Int32) (t_breakers : Int32) (t_clauses : Int32) (t_learned : Int32) (t_rounds : Int32) : va_W := [(A_t, .inr (3, [.int t_variables, .int t_breakers, .int t_clauses, .ref A_t_positive, .ref A_t_negative, .int t_learned, .int t_rounds]))]
def F_X3_hasVariables (N : Nat) (p0 : Int32) (t_variables : Int32) : Option (Bool) :=
  (if p0 < (0 : Int32) then some false else (if (p0 >>> (t_variables &&& 31)) = (0 : Int32) then some true else some false))
set_option maxHeartbeats 4000000 in
set_option maxRecDepth 100000 in
theorem c_X3_hasVariables (l : Launch) (D : va_G) (cy : Nat → ClassId) (s0 tW N : Nat) (A_t : Nat) (A_t_positive : Nat) (A_t_negative : Nat) (p0 : Int32) (t_variables : Int32) (t_breakers : Int32) (t_clauses : Int32) (t_learned : Int32) (t_rounds : Int32) (sz : Nat) {r9 : Bool} (hF : F_X3_hasVariables N p0 t_variables = some r9) : KM l D cy s0 tW yX3_hasVariables cX3_hasVariables 2 (some .boolean) 0 0 [.ref A_t, .int p0] sz (w_X3_hasVariables cy A_t A_t_positive A_t_negative t_variables t_breakers t_clauses t_learned t_rounds) (some (.int (bI r9))) (w_X3_hasVariables cy A_t A_t_positive A_t_negative t_variables t_breakers t_clauses t_learned t_rounds) := by
  refine KM.intro rfl (Nat.le_of_ble_eq_true rfl) ?_
  intro p e s m args below meth c A ls hx hb hr hml hown hts hlocks hE hP hD hS hA hAs hl
  have hK := hE.1
  have hl : lv_has ls 2 [(0, .ref A_t), (1, .int p0)] := hl
  unfold F_X3_hasVariables at hF
  refine lv_iload_n hx hb dX3_hasVariables_0 rfl (lv_at hl 1 rfl) ?_
  refine lv_if_lt (tgt := 17) hx hb dX3_hasVariables_1 (by decide) (fun c_1 => ?_) (fun c_1 => ?_)
  · replace hF := ite_t c_1 hF
    refine lv_iconst (v := 0) hx hb dX3_hasVariables_17 (by decide) ?_
    cases hF
    exact kret_z hx hb hr hlocks hP hD hS dX3_hasVariables_18
  · replace hF := ite_f c_1 hF
    refine lv_iload_n hx hb dX3_hasVariables_4 rfl (lv_at hl 1 rfl) ?_
    refine lv_aload_n hx hb dX3_hasVariables_5 rfl (lv_at hl 0 rfl) ?_
    refine va_get (D := D) (ci := 3) (v := .int t_variables) (C := RX3) (T := TX3) (N := 7) hx hb hts inX3 hown hK hP 0 rfl rfl 0 (by decide) (hts _ q_61) (fun _ h9 => h9) rfl dX3_hasVariables_6 ?_
    refine lv_ishr hx hb dX3_hasVariables_9 ?_
    refine lv_if_ne (tgt := 17) hx hb dX3_hasVariables_10 (by decide) (fun c_2 => ?_) (fun c_2 => ?_)
    · replace hF := ite_f c_2 hF
      refine lv_iconst (v := 0) hx hb dX3_hasVariables_17 (by decide) ?_
      cases hF
      exact kret_z hx hb hr hlocks hP hD hS dX3_hasVariables_18
    · replace hF := ite_t c_2 hF
      refine lv_iconst (v := 1) hx hb dX3_hasVariables_13 (by decide) ?_
      refine lv_goto (tgt := 18) hx hb dX3_hasVariables_14 (by decide) ?_
      cases hF
      exact kret_z hx hb hr hlocks hP hD hS dX3_hasVariables_18

abbrev w_X3_hasRoomFor (cy : Nat → ClassId) (A_t : Nat) (A_t_positive : Nat) (A_t_negative : Nat) (t_variables : Int32) (t_breakers : Int32) (t_clauses : Int32) (t_learned : Int32) (t_rounds : Int32) : va_W := [(A_t, .inr (3, [.int t_variables, .int t_breakers, .int t_clauses, .ref A_t_positive, .ref A_t_negative, .int t_learned, .int t_rounds]))]
def F_X3_hasRoomFor (N : Nat) (p0 : Bool) (t_variables : Int32) (t_breakers : Int32) : Option (Bool) :=
  ob1 (F_J6_bitCount_0f7a4 N t_breakers) (fun r_1 => (if p0 = true then (if (3 : Int32) ≤ r_1 then some false else some true) else (if (6 : Int32) ≤ (t_variables - r_1) then some false else some true)))
set_option maxHeartbeats 4000000 in
set_option maxRecDepth 100000 in
theorem c_X3_hasRoomFor (l : Launch) (D : va_G) (cy : Nat → ClassId) (s0 tW N : Nat) (A_t : Nat) (A_t_positive : Nat) (A_t_negative : Nat) (p0 : Bool) (t_variables : Int32) (t_breakers : Int32) (t_clauses : Int32) (t_learned : Int32) (t_rounds : Int32) (sz : Nat) {r9 : Bool} (hF : F_X3_hasRoomFor N p0 t_variables t_breakers = some r9) : KM l D cy s0 tW yX3_hasRoomFor cX3_hasRoomFor 3 (some .boolean) 1 20 [.ref A_t, .int (bI p0)] sz (w_X3_hasRoomFor cy A_t A_t_positive A_t_negative t_variables t_breakers t_clauses t_learned t_rounds) (some (.int (bI r9))) (w_X3_hasRoomFor cy A_t A_t_positive A_t_negative t_variables t_breakers t_clauses t_learned t_rounds) := by
  refine KM.intro rfl (Nat.le_of_ble_eq_true rfl) ?_
  intro p e s m args below meth c A ls hx hb hr hml hown hts hlocks hE hP hD hS hA hAs hl
  have hK := hE.1
  have hl : lv_has ls 3 [(0, .ref A_t), (1, .int (bI p0))] := hl
  unfold F_X3_hasRoomFor at hF
  refine lv_aload_n hx hb dX3_hasRoomFor_0 rfl (lv_at hl 0 rfl) ?_
  refine va_get (D := D) (ci := 3) (v := .int t_breakers) (C := RX3) (T := TX3) (N := 7) hx hb hts inX3 hown hK hP 0 rfl rfl 1 (by decide) (hts _ q_64) (fun _ h9 => h9) rfl dX3_hasRoomFor_1 ?_
  obtain ⟨r_1, hF_2, hF⟩ := ob1_some hF
  refine kcS (As := [.int t_breakers]) (rest := []) (wr := [(A_t, .inr (3, [.int t_variables, .int t_breakers, .int t_clauses, .ref A_t_positive, .ref A_t_negative, .int t_learned, .int t_rounds]))]) (wsN := (w_X3_hasRoomFor cy A_t A_t_positive A_t_negative t_variables t_breakers t_clauses t_learned t_rounds)) ⟨hx, hb, hml, hown, hts⟩ hE hP hD hS hA hAs [] [0] [0] (c_J6_bitCount_0f7a4 l D cy s0 tW N t_breakers _ hF_2) (gS q_249 q_250 q_44 q_251) hd_J6_bitCount_0f7a4.2 ⟨Nat.le_of_ble_eq_true rfl, Nat.le_of_ble_eq_true rfl⟩ rfl rfl rfl rfl rfl rfl rfl hl.1 rfl (Nat.le_of_ble_eq_true rfl) dX3_hasRoomFor_4 ⟨Nat.zero_le _, Nat.zero_le _⟩ (fun H locs hP hD hS => ?_)
  refine W.eq (g2 := F0 m 7 ls [.int r_1]) rfl ?_
  refine lv_istore_n (lv' := [(2, .int r_1), (0, .ref A_t), (1, .int (bI p0))]) hx hb dX3_hasRoomFor_7 rfl hl (by decide) rfl (fun ls hl => ?_)
  refine lv_iload_n hx hb dX3_hasRoomFor_8 rfl (lv_at hl 2 rfl) ?_
  refine lv_if_eq (tgt := 25) hx hb dX3_hasRoomFor_9 (by decide) (fun c_3 => ?_) (fun c_3 => ?_)
  · replace hF := ite_f (bI_f c_3) hF
    refine lv_aload_n hx hb dX3_hasRoomFor_25 rfl (lv_at hl 1 rfl) ?_
    refine va_get (D := D) (ci := 3) (v := .int t_variables) (C := RX3) (T := TX3) (N := 7) hx hb hts inX3 hown hK hP 0 rfl rfl 0 (by decide) (hts _ q_61) (fun _ h9 => h9) rfl dX3_hasRoomFor_26 ?_
    refine lv_iload_n hx hb dX3_hasRoomFor_29 rfl (lv_at hl 0 rfl) ?_
    refine lv_isub hx hb dX3_hasRoomFor_30 ?_
    refine lv_bipush (v := 6) hx hb dX3_hasRoomFor_31 (by decide) ?_
    refine lv_icmp_ge (tgt := 40) hx hb dX3_hasRoomFor_33 (by decide) (fun c_4 => ?_) (fun c_4 => ?_)
    · replace hF := ite_t c_4 hF
      refine lv_iconst (v := 0) hx hb dX3_hasRoomFor_40 (by decide) ?_
      cases hF
      exact kret_z hx hb hr hlocks hP hD hS dX3_hasRoomFor_41
    · replace hF := ite_f c_4 hF
      refine lv_iconst (v := 1) hx hb dX3_hasRoomFor_36 (by decide) ?_
      refine lv_goto (tgt := 41) hx hb dX3_hasRoomFor_37 (by decide) ?_
      cases hF
      exact kret_z hx hb hr hlocks hP hD hS dX3_hasRoomFor_41
  · replace hF := ite_t (bI_t c_3) hF
    refine lv_iload_n hx hb dX3_hasRoomFor_12 rfl (lv_at hl 0 rfl) ?_
    refine lv_iconst (v := 3) hx hb dX3_hasRoomFor_13 (by decide) ?_
    refine lv_icmp_ge (tgt := 21) hx hb dX3_hasRoomFor_14 (by decide) (fun c_5 => ?_) (fun c_5 => ?_)
    · replace hF := ite_t c_5 hF
      refine lv_iconst (v := 0) hx hb dX3_hasRoomFor_21 (by decide) ?_
      refine lv_goto (tgt := 41) hx hb dX3_hasRoomFor_22 (by decide) ?_
      cases hF
      exact kret_z hx hb hr hlocks hP hD hS dX3_hasRoomFor_41
    · replace hF := ite_f c_5 hF
      refine lv_iconst (v := 1) hx hb dX3_hasRoomFor_17 (by decide) ?_
      refine lv_goto (tgt := 41) hx hb dX3_hasRoomFor_18 (by decide) ?_
      cases hF
      exact kret_z hx hb hr hlocks hP hD hS dX3_hasRoomFor_41

theorem q_66 : Cond.fieldLink RX3 25 "ForAllGame$State" "clauses" "I" ∈ wAll := wAll_mem 66 (by decide +kernel) (by decide +kernel)
theorem q_72 : Cond.fieldLink RX3 31 "ForAllGame$State" "rounds" "I" ∈ wAll := wAll_mem 72 (by decide +kernel) (by decide +kernel)
abbrev w_X3_clear (cy : Nat → ClassId) (A_t : Nat) (A_t_positive : Nat) (A_t_negative : Nat) (t_variables : Int32) (t_breakers : Int32) (t_clauses : Int32) (t_learned : Int32) (t_rounds : Int32) : va_W := [(A_t, .inr (3, [.int t_variables, .int t_breakers, .int t_clauses, .ref A_t_positive, .ref A_t_negative, .int t_learned, .int t_rounds]))]
def F_X3_clear (N : Nat) (t_variables : Int32) (t_breakers : Int32) (t_clauses : Int32) (t_learned : Int32) (t_rounds : Int32) : Option (Int32 × Int32 × Int32 × Int32 × Int32) :=
  some (0, 0, 0, 0, 0)
set_option maxHeartbeats 4000000 in
set_option maxRecDepth 100000 in
theorem c_X3_clear (l : Launch) (D : va_G) (cy : Nat → ClassId) (s0 tW N : Nat) (A_t : Nat) (A_t_positive : Nat) (A_t_negative : Nat) (t_variables : Int32) (t_breakers : Int32) (t_clauses : Int32) (t_learned : Int32) (t_rounds : Int32) (sz : Nat) {t_variables9 : Int32} {t_breakers9 : Int32} {t_clauses9 : Int32} {t_learned9 : Int32} {t_rounds9 : Int32} (hF : F_X3_clear N t_variables t_breakers t_clauses t_learned t_rounds = some (t_variables9, t_breakers9, t_clauses9, t_learned9, t_rounds9)) : KM l D cy s0 tW yX3_clear cX3_clear 1 none 0 0 [.ref A_t] sz (w_X3_clear cy A_t A_t_positive A_t_negative t_variables t_breakers t_clauses t_learned t_rounds) none (w_X3_clear cy A_t A_t_positive A_t_negative t_variables9 t_breakers9 t_clauses9 t_learned9 t_rounds9) := by
  refine KM.intro rfl (Nat.le_of_ble_eq_true rfl) ?_
  intro p e s m args below meth c A ls hx hb hr hml hown hts hlocks hE hP hD hS hA hAs hl
  have hK := hE.1
  have hl : lv_has ls 1 [(0, .ref A_t)] := hl
  unfold F_X3_clear at hF
  refine lv_aload_n hx hb dX3_clear_0 rfl (lv_at hl 0 rfl) ?_
  refine lv_iconst (v := 0) hx hb dX3_clear_1 (by decide) ?_
  refine ka_put (ci := 3) (v := .int 0) (ty := .int) (C := RX3) (T := TX3) (N := 7) (wsN := (w_X3_clear cy A_t A_t_positive A_t_negative 0 t_breakers t_clauses t_learned t_rounds)) hx hb hts inX3 tyX3 tyX3_ok nmX3 hown hK hP hD hS 0 rfl rfl 0 (by decide) (hts _ q_61) (fun _ h9 => h9) rfl (by decide +kernel) rfl rfl (Nat.le_of_ble_eq_true rfl) rfl dX3_clear_2 (fun H locs hP hD hS => ?_)
  refine lv_aload_n hx hb dX3_clear_5 rfl (lv_at hl 0 rfl) ?_
  refine lv_iconst (v := 0) hx hb dX3_clear_6 (by decide) ?_
  refine ka_put (ci := 3) (v := .int 0) (ty := .int) (C := RX3) (T := TX3) (N := 7) (wsN := (w_X3_clear cy A_t A_t_positive A_t_negative 0 0 t_clauses t_learned t_rounds)) hx hb hts inX3 tyX3 tyX3_ok nmX3 hown hK hP hD hS 0 rfl rfl 1 (by decide) (hts _ q_64) (fun _ h9 => h9) rfl (by decide +kernel) rfl rfl (Nat.le_of_ble_eq_true rfl) rfl dX3_clear_7 (fun H locs hP hD hS => ?_)
  refine lv_aload_n hx hb dX3_clear_10 rfl (lv_at hl 0 rfl) ?_
  refine lv_iconst (v := 0) hx hb dX3_clear_11 (by decide) ?_
  refine ka_put (ci := 3) (v := .int 0) (ty := .int) (C := RX3) (T := TX3) (N := 7) (wsN := (w_X3_clear cy A_t A_t_positive A_t_negative 0 0 0 t_learned t_rounds)) hx hb hts inX3 tyX3 tyX3_ok nmX3 hown hK hP hD hS 0 rfl rfl 2 (by decide) (hts _ q_66) (fun _ h9 => h9) rfl (by decide +kernel) rfl rfl (Nat.le_of_ble_eq_true rfl) rfl dX3_clear_12 (fun H locs hP hD hS => ?_)
  refine lv_aload_n hx hb dX3_clear_15 rfl (lv_at hl 0 rfl) ?_
  refine lv_iconst (v := 0) hx hb dX3_clear_16 (by decide) ?_
  refine ka_put (ci := 3) (v := .int 0) (ty := .int) (C := RX3) (T := TX3) (N := 7) (wsN := (w_X3_clear cy A_t A_t_positive A_t_negative 0 0 0 0 t_rounds)) hx hb hts inX3 tyX3 tyX3_ok nmX3 hown hK hP hD hS 0 rfl rfl 5 (by decide) (hts _ q_70) (fun _ h9 => h9) rfl (by decide +kernel) rfl rfl (Nat.le_of_ble_eq_true rfl) rfl dX3_clear_17 (fun H locs hP hD hS => ?_)
  refine lv_aload_n hx hb dX3_clear_20 rfl (lv_at hl 0 rfl) ?_
  refine lv_iconst (v := 0) hx hb dX3_clear_21 (by decide) ?_
  refine ka_put (ci := 3) (v := .int 0) (ty := .int) (C := RX3) (T := TX3) (N := 7) (wsN := (w_X3_clear cy A_t A_t_positive A_t_negative 0 0 0 0 0)) hx hb hts inX3 tyX3 tyX3_ok nmX3 hown hK hP hD hS 0 rfl rfl 6 (by decide) (hts _ q_72) (fun _ h9 => h9) rfl (by decide +kernel) rfl rfl (Nat.le_of_ble_eq_true rfl) rfl dX3_clear_22 (fun H locs hP hD hS => ?_)
  cases hF
  exact kret_v hx hb hr hlocks hP hD hS dX3_clear_25

abbrev w_X3_putVariable (cy : Nat → ClassId) (A_t : Nat) (A_t_positive : Nat) (A_t_negative : Nat) (t_variables : Int32) (t_breakers : Int32) (t_clauses : Int32) (t_learned : Int32) (t_rounds : Int32) : va_W := [(A_t, .inr (3, [.int t_variables, .int t_breakers, .int t_clauses, .ref A_t_positive, .ref A_t_negative, .int t_learned, .int t_rounds]))]
def F_X3_putVariable (N : Nat) (p0 : Bool) (t_variables : Int32) (t_breakers : Int32) : Option (Int32 × Int32) :=
  (if p0 = true then some ((t_variables + 1), (t_breakers ||| ((1 : Int32) <<< (t_variables &&& 31)))) else some ((t_variables + 1), t_breakers))
set_option maxHeartbeats 4000000 in
set_option maxRecDepth 100000 in
theorem c_X3_putVariable (l : Launch) (D : va_G) (cy : Nat → ClassId) (s0 tW N : Nat) (A_t : Nat) (A_t_positive : Nat) (A_t_negative : Nat) (p0 : Bool) (t_variables : Int32) (t_breakers : Int32) (t_clauses : Int32) (t_learned : Int32) (t_rounds : Int32) (sz : Nat) {t_variables9 : Int32} {t_breakers9 : Int32} (hF : F_X3_putVariable N p0 t_variables t_breakers = some (t_variables9, t_breakers9)) : KM l D cy s0 tW yX3_putVariable cX3_putVariable 2 none 0 0 [.ref A_t, .int (bI p0)] sz (w_X3_putVariable cy A_t A_t_positive A_t_negative t_variables t_breakers t_clauses t_learned t_rounds) none (w_X3_putVariable cy A_t A_t_positive A_t_negative t_variables9 t_breakers9 t_clauses t_learned t_rounds) := by
  refine KM.intro rfl (Nat.le_of_ble_eq_true rfl) ?_
  intro p e s m args below meth c A ls hx hb hr hml hown hts hlocks hE hP hD hS hA hAs hl
  have hK := hE.1
  have hl : lv_has ls 2 [(0, .ref A_t), (1, .int (bI p0))] := hl
  unfold F_X3_putVariable at hF
  refine lv_iload_n hx hb dX3_putVariable_0 rfl (lv_at hl 1 rfl) ?_
  refine lv_if_eq (tgt := 19) hx hb dX3_putVariable_1 (by decide) (fun c_1 => ?_) (fun c_1 => ?_)
  · replace hF := ite_f (bI_f c_1) hF
    refine lv_aload_n hx hb dX3_putVariable_19 rfl (lv_at hl 0 rfl) ?_
    refine lv_dup hx hb dX3_putVariable_20 rfl ?_
    refine va_get (D := D) (ci := 3) (v := .int t_variables) (C := RX3) (T := TX3) (N := 7) hx hb hts inX3 hown hK hP 0 rfl rfl 0 (by decide) (hts _ q_61) (fun _ h9 => h9) rfl dX3_putVariable_21 ?_
    refine lv_iconst (v := 1) hx hb dX3_putVariable_24 (by decide) ?_
    refine lv_iadd hx hb dX3_putVariable_25 ?_
    refine ka_put (ci := 3) (v := .int (t_variables + 1)) (ty := .int) (C := RX3) (T := TX3) (N := 7) (wsN := (w_X3_putVariable cy A_t A_t_positive A_t_negative (t_variables + 1) t_breakers t_clauses t_learned t_rounds)) hx hb hts inX3 tyX3 tyX3_ok nmX3 hown hK hP hD hS 0 rfl rfl 0 (by decide) (hts _ q_61) (fun _ h9 => h9) rfl (by decide +kernel) rfl rfl (Nat.le_of_ble_eq_true rfl) rfl dX3_putVariable_26 (fun H locs hP hD hS => ?_)
    cases hF
    exact kret_v hx hb hr hlocks hP hD hS dX3_putVariable_29
  · replace hF := ite_t (bI_t c_1) hF
    refine lv_aload_n hx hb dX3_putVariable_4 rfl (lv_at hl 0 rfl) ?_
    refine lv_dup hx hb dX3_putVariable_5 rfl ?_
    refine va_get (D := D) (ci := 3) (v := .int t_breakers) (C := RX3) (T := TX3) (N := 7) hx hb hts inX3 hown hK hP 0 rfl rfl 1 (by decide) (hts _ q_64) (fun _ h9 => h9) rfl dX3_putVariable_6 ?_
    refine lv_iconst (v := 1) hx hb dX3_putVariable_9 (by decide) ?_
    refine lv_aload_n hx hb dX3_putVariable_10 rfl (lv_at hl 0 rfl) ?_
    refine va_get (D := D) (ci := 3) (v := .int t_variables) (C := RX3) (T := TX3) (N := 7) hx hb hts inX3 hown hK hP 0 rfl rfl 0 (by decide) (hts _ q_61) (fun _ h9 => h9) rfl dX3_putVariable_11 ?_
    refine lv_ishl hx hb dX3_putVariable_14 ?_
    refine lv_ior hx hb dX3_putVariable_15 ?_
    refine ka_put (ci := 3) (v := .int (t_breakers ||| ((1 : Int32) <<< (t_variables &&& 31)))) (ty := .int) (C := RX3) (T := TX3) (N := 7) (wsN := (w_X3_putVariable cy A_t A_t_positive A_t_negative t_variables (t_breakers ||| ((1 : Int32) <<< (t_variables &&& 31))) t_clauses t_learned t_rounds)) hx hb hts inX3 tyX3 tyX3_ok nmX3 hown hK hP hD hS 0 rfl rfl 1 (by decide) (hts _ q_64) (fun _ h9 => h9) rfl (by decide +kernel) rfl rfl (Nat.le_of_ble_eq_true rfl) rfl dX3_putVariable_16 (fun H locs hP hD hS => ?_)
    refine lv_aload_n hx hb dX3_putVariable_19 rfl (lv_at hl 0 rfl) ?_
    refine lv_dup hx hb dX3_putVariable_20 rfl ?_
    refine va_get (D := D) (ci := 3) (v := .int t_variables) (C := RX3) (T := TX3) (N := 7) hx hb hts inX3 hown hK hP 0 rfl rfl 0 (by decide) (hts _ q_61) (fun _ h9 => h9) rfl dX3_putVariable_21 ?_
    refine lv_iconst (v := 1) hx hb dX3_putVariable_24 (by decide) ?_
    refine lv_iadd hx hb dX3_putVariable_25 ?_
    refine ka_put (ci := 3) (v := .int (t_variables + 1)) (ty := .int) (C := RX3) (T := TX3) (N := 7) (wsN := (w_X3_putVariable cy A_t A_t_positive A_t_negative (t_variables + 1) (t_breakers ||| ((1 : Int32) <<< (t_variables &&& 31))) t_clauses t_learned t_rounds)) hx hb hts inX3 tyX3 tyX3_ok nmX3 hown hK hP hD hS 0 rfl rfl 0 (by decide) (hts _ q_61) (fun _ h9 => h9) rfl (by decide +kernel) rfl rfl (Nat.le_of_ble_eq_true rfl) rfl dX3_putVariable_26 (fun H locs hP hD hS => ?_)
    cases hF
    exact kret_v hx hb hr hlocks hP hD hS dX3_putVariable_29

theorem q_68 : Cond.fieldLink RX3 9 "ForAllGame$State" "positive" "[I" ∈ wAll := wAll_mem 68 (by decide +kernel) (by decide +kernel)
theorem q_69 : Cond.fieldLink RX3 15 "ForAllGame$State" "negative" "[I" ∈ wAll := wAll_mem 69 (by decide +kernel) (by decide +kernel)
theorem q_183 : Cond.static yX4_write ∈ wAll := wAll_mem 183 (by decide +kernel) (by decide +kernel)
theorem q_184 : Cond.code yX4_write cX4_write 3 none ∈ wAll := wAll_mem 184 (by decide +kernel) (by decide +kernel)
theorem nq_182 {s : State} (h : NW s) : va_Nw (Cond.methodLinkNest RX3 38 yX4_write "ForAllGame") s := h.at 182 (by decide +kernel) rfl
theorem hd_X4_write : yX4_write.cls = RX4 ∧ yX4_write.cls ≠ "java/lang/invoke/MethodHandle" ∧ yX4_write.cls ≠ "java/lang/invoke/VarHandle" ∧ (parseMethodDescriptor yX4_write.desc).map (fun d => d.parameters.length) = some 3 := by decide +kernel
abbrev w_X3_putClause (cy : Nat → ClassId) (A_t : Nat) (A_t_positive : Nat) (A_t_negative : Nat) (t_variables : Int32) (t_breakers : Int32) (t_clauses : Int32) (t_learned : Int32) (t_rounds : Int32) (t_positive : Nat → Int32) (t_negative : Nat → Int32) : va_W := [(A_t, .inr (3, [.int t_variables, .int t_breakers, .int t_clauses, .ref A_t_positive, .ref A_t_negative, .int t_learned, .int t_rounds])), (A_t_positive, .inl (cy 0, 20, .inl t_positive)), (A_t_negative, .inl (cy 0, 20, .inl t_negative))]
def F_X3_putClause (N : Nat) (p0 : Int32) (p1 : Int32) (t_clauses : Int32) (t_positive : Nat → Int32) (t_negative : Nat → Int32) : Option (Int32 × (Nat → Int32) × (Nat → Int32)) :=
  ob1 (F_X4_write N 20 t_clauses p0 t_positive) (fun t_positive_1 => ob1 (F_X4_write N 20 t_clauses p1 t_negative) (fun t_negative_3 => some ((t_clauses + 1), t_positive_1, t_negative_3)))
set_option maxHeartbeats 4000000 in
set_option maxRecDepth 100000 in
theorem c_X3_putClause (l : Launch) (D : va_G) (cy : Nat → ClassId) (s0 tW N : Nat) (A_t : Nat) (A_t_positive : Nat) (A_t_negative : Nat) (p0 : Int32) (p1 : Int32) (t_variables : Int32) (t_breakers : Int32) (t_clauses : Int32) (t_learned : Int32) (t_rounds : Int32) (t_positive : Nat → Int32) (t_negative : Nat → Int32) (sz : Nat) {t_clauses9 : Int32} {t_positive9 : Nat → Int32} {t_negative9 : Nat → Int32} (hF : F_X3_putClause N p0 p1 t_clauses t_positive t_negative = some (t_clauses9, t_positive9, t_negative9)) : KM l D cy s0 tW yX3_putClause cX3_putClause 3 none 1 22 [.ref A_t, .int p0, .int p1] sz (w_X3_putClause cy A_t A_t_positive A_t_negative t_variables t_breakers t_clauses t_learned t_rounds t_positive t_negative) none (w_X3_putClause cy A_t A_t_positive A_t_negative t_variables t_breakers t_clauses9 t_learned t_rounds t_positive9 t_negative9) := by
  refine KM.intro rfl (Nat.le_of_ble_eq_true rfl) ?_
  intro p e s m args below meth c A ls hx hb hr hml hown hts hlocks hE hP hD hS hA hAs hl
  have hK := hE.1
  have hl : lv_has ls 3 [(0, .ref A_t), (1, .int p0), (2, .int p1)] := hl
  unfold F_X3_putClause at hF
  refine lv_aload_n hx hb dX3_putClause_0 rfl (lv_at hl 0 rfl) ?_
  refine va_get (D := D) (ci := 3) (v := .ref A_t_positive) (C := RX3) (T := TX3) (N := 7) hx hb hts inX3 hown hK hP 0 rfl rfl 3 (by decide) (hts _ q_68) (fun _ h9 => h9) rfl dX3_putClause_1 ?_
  refine lv_aload_n hx hb dX3_putClause_4 rfl (lv_at hl 0 rfl) ?_
  refine va_get (D := D) (ci := 3) (v := .int t_clauses) (C := RX3) (T := TX3) (N := 7) hx hb hts inX3 hown hK hP 0 rfl rfl 2 (by decide) (hts _ q_66) (fun _ h9 => h9) rfl dX3_putClause_5 ?_
  refine lv_iload_n hx hb dX3_putClause_8 rfl (lv_at hl 1 rfl) ?_
  obtain ⟨t_positive_1, hF_2, hF⟩ := ob1_some hF
  refine kcSN (As := [.ref A_t_positive, .int t_clauses, .int p0]) (rest := []) (wr := [(A_t, .inr (3, [.int t_variables, .int t_breakers, .int t_clauses, .ref A_t_positive, .ref A_t_negative, .int t_learned, .int t_rounds])), (A_t_negative, .inl (cy 0, 20, .inl t_negative))]) (wsN := (w_X3_putClause cy A_t A_t_positive A_t_negative t_variables t_breakers t_clauses t_learned t_rounds t_positive_1 t_negative)) ⟨hx, hb, hml, hown, hts⟩ hE hP hD hS hA hAs [1] [0, 2] [0, 2, 1] (c_X4_write l D cy s0 tW N A_t_positive 20 t_clauses p0 t_positive _ hF_2) q_184 q_35 q_183 (nq_182 hE.2.1) hd_X4_write.2 ⟨Nat.le_of_ble_eq_true rfl, Nat.le_of_ble_eq_true rfl⟩ rfl rfl rfl rfl rfl rfl rfl hl.1 rfl (Nat.le_of_ble_eq_true rfl) dX3_putClause_9 ⟨Nat.zero_le _, Nat.zero_le _⟩ (fun H locs hP hD hS => ?_)
  refine W.eq (g2 := F0 m 12 ls []) rfl ?_
  refine lv_aload_n hx hb dX3_putClause_12 rfl (lv_at hl 0 rfl) ?_
  refine va_get (D := D) (ci := 3) (v := .ref A_t_negative) (C := RX3) (T := TX3) (N := 7) hx hb hts inX3 hown hK hP 0 rfl rfl 4 (by decide) (hts _ q_69) (fun _ h9 => h9) rfl dX3_putClause_13 ?_
  refine lv_aload_n hx hb dX3_putClause_16 rfl (lv_at hl 0 rfl) ?_
  refine va_get (D := D) (ci := 3) (v := .int t_clauses) (C := RX3) (T := TX3) (N := 7) hx hb hts inX3 hown hK hP 0 rfl rfl 2 (by decide) (hts _ q_66) (fun _ h9 => h9) rfl dX3_putClause_17 ?_
  refine lv_iload_n hx hb dX3_putClause_20 rfl (lv_at hl 2 rfl) ?_
  obtain ⟨t_negative_3, hF_4, hF⟩ := ob1_some hF
  refine kcSN (As := [.ref A_t_negative, .int t_clauses, .int p1]) (rest := []) (wr := [(A_t, .inr (3, [.int t_variables, .int t_breakers, .int t_clauses, .ref A_t_positive, .ref A_t_negative, .int t_learned, .int t_rounds])), (A_t_positive, .inl (cy 0, 20, .inl t_positive_1))]) (wsN := (w_X3_putClause cy A_t A_t_positive A_t_negative t_variables t_breakers t_clauses t_learned t_rounds t_positive_1 t_negative_3)) ⟨hx, hb, hml, hown, hts⟩ hE hP hD hS hA hAs [2] [0, 1] [0, 1, 2] (c_X4_write l D cy s0 tW N A_t_negative 20 t_clauses p1 t_negative _ hF_4) q_184 q_35 q_183 (nq_182 hE.2.1) hd_X4_write.2 ⟨Nat.le_of_ble_eq_true rfl, Nat.le_of_ble_eq_true rfl⟩ rfl rfl rfl rfl rfl rfl rfl hl.1 rfl (Nat.le_of_ble_eq_true rfl) dX3_putClause_21 ⟨Nat.zero_le _, Nat.zero_le _⟩ (fun H locs hP hD hS => ?_)
  refine W.eq (g2 := F0 m 24 ls []) rfl ?_
  refine lv_aload_n hx hb dX3_putClause_24 rfl (lv_at hl 0 rfl) ?_
  refine lv_dup hx hb dX3_putClause_25 rfl ?_
  refine va_get (D := D) (ci := 3) (v := .int t_clauses) (C := RX3) (T := TX3) (N := 7) hx hb hts inX3 hown hK hP 0 rfl rfl 2 (by decide) (hts _ q_66) (fun _ h9 => h9) rfl dX3_putClause_26 ?_
  refine lv_iconst (v := 1) hx hb dX3_putClause_29 (by decide) ?_
  refine lv_iadd hx hb dX3_putClause_30 ?_
  refine ka_put (ci := 3) (v := .int (t_clauses + 1)) (ty := .int) (C := RX3) (T := TX3) (N := 7) (wsN := (w_X3_putClause cy A_t A_t_positive A_t_negative t_variables t_breakers (t_clauses + 1) t_learned t_rounds t_positive_1 t_negative_3)) hx hb hts inX3 tyX3 tyX3_ok nmX3 hown hK hP hD hS 0 rfl rfl 2 (by decide) (hts _ q_66) (fun _ h9 => h9) rfl (by decide +kernel) rfl rfl (Nat.le_of_ble_eq_true rfl) rfl dX3_putClause_31 (fun H locs hP hD hS => ?_)
  cases hF
  exact kret_v hx hb hr hlocks hP hD hS dX3_putClause_34

theorem q_180 : Cond.static yX4_read ∈ wAll := wAll_mem 180 (by decide +kernel) (by decide +kernel)
theorem q_181 : Cond.code yX4_read cX4_read 2 (some .int) ∈ wAll := wAll_mem 181 (by decide +kernel) (by decide +kernel)
theorem nq_179 {s : State} (h : NW s) : va_Nw (Cond.methodLinkNest RX3 34 yX4_read "ForAllGame") s := h.at 179 (by decide +kernel) rfl
theorem hd_X4_read : yX4_read.cls = RX4 ∧ yX4_read.cls ≠ "java/lang/invoke/MethodHandle" ∧ yX4_read.cls ≠ "java/lang/invoke/VarHandle" ∧ (parseMethodDescriptor yX4_read.desc).map (fun d => d.parameters.length) = some 2 := by decide +kernel
abbrev w_X3_dropClause (cy : Nat → ClassId) (A_t : Nat) (A_t_positive : Nat) (A_t_negative : Nat) (t_variables : Int32) (t_breakers : Int32) (t_clauses : Int32) (t_learned : Int32) (t_rounds : Int32) (t_positive : Nat → Int32) (t_negative : Nat → Int32) : va_W := [(A_t, .inr (3, [.int t_variables, .int t_breakers, .int t_clauses, .ref A_t_positive, .ref A_t_negative, .int t_learned, .int t_rounds])), (A_t_positive, .inl (cy 0, 20, .inl t_positive)), (A_t_negative, .inl (cy 0, 20, .inl t_negative))]
def L_X3_dropClause_12 (N : Nat) (t_clauses : Int32) (kont : (Nat → Int32) → (Nat → Int32) → Option (Int32 × (Nat → Int32) × (Nat → Int32))) : Nat → Int32 → (Nat → Int32) → (Nat → Int32) → Option (Int32 × (Nat → Int32) × (Nat → Int32))
  | 0, _, _, _ => none
  | n + 1, v2_1, t_positive_2, t_negative_3 => (if (t_clauses - 1) ≤ v2_1 then kont t_positive_2 t_negative_3 else ob1 (F_X4_read N 20 (v2_1 + 1) t_positive_2) (fun r_7 => ob1 (F_X4_write N 20 v2_1 r_7 t_positive_2) (fun t_positive_9 => ob1 (F_X4_read N 20 (v2_1 + 1) t_negative_3) (fun r_11 => ob1 (F_X4_write N 20 v2_1 r_11 t_negative_3) (fun t_negative_13 => L_X3_dropClause_12 N t_clauses kont n (v2_1 + 1) t_positive_9 t_negative_13)))))
def F_X3_dropClause (N : Nat) (p0 : Int32) (t_clauses : Int32) (t_positive : Nat → Int32) (t_negative : Nat → Int32) : Option (Int32 × (Nat → Int32) × (Nat → Int32)) :=
  (L_X3_dropClause_12 N t_clauses (fun t_positive_4 t_negative_5 => some ((t_clauses - 1), t_positive_4, t_negative_5)) N p0 t_positive t_negative)
set_option maxHeartbeats 4000000 in
set_option maxRecDepth 100000 in
theorem c_X3_dropClause (l : Launch) (D : va_G) (cy : Nat → ClassId) (s0 tW N : Nat) (A_t : Nat) (A_t_positive : Nat) (A_t_negative : Nat) (p0 : Int32) (t_variables : Int32) (t_breakers : Int32) (t_clauses : Int32) (t_learned : Int32) (t_rounds : Int32) (t_positive : Nat → Int32) (t_negative : Nat → Int32) (sz : Nat) {t_clauses9 : Int32} {t_positive9 : Nat → Int32} {t_negative9 : Nat → Int32} (hF : F_X3_dropClause N p0 t_clauses t_positive t_negative = some (t_clauses9, t_positive9, t_negative9)) : KM l D cy s0 tW yX3_dropClause cX3_dropClause 3 none 1 22 [.ref A_t, .int p0] sz (w_X3_dropClause cy A_t A_t_positive A_t_negative t_variables t_breakers t_clauses t_learned t_rounds t_positive t_negative) none (w_X3_dropClause cy A_t A_t_positive A_t_negative t_variables t_breakers t_clauses9 t_learned t_rounds t_positive9 t_negative9) := by
  refine KM.intro rfl (Nat.le_of_ble_eq_true rfl) ?_
  intro p e s m args below meth c A ls hx hb hr hml hown hts hlocks hE hP hD hS hA hAs hl
  have hK := hE.1
  have hl : lv_has ls 3 [(0, .ref A_t), (1, .int p0)] := hl
  unfold F_X3_dropClause at hF
  refine lv_aload_n hx hb dX3_dropClause_0 rfl (lv_at hl 0 rfl) ?_
  refine lv_dup hx hb dX3_dropClause_1 rfl ?_
  refine va_get (D := D) (ci := 3) (v := .int t_clauses) (C := RX3) (T := TX3) (N := 7) hx hb hts inX3 hown hK hP 0 rfl rfl 2 (by decide) (hts _ q_66) (fun _ h9 => h9) rfl dX3_dropClause_2 ?_
  refine lv_iconst (v := 1) hx hb dX3_dropClause_5 (by decide) ?_
  refine lv_isub hx hb dX3_dropClause_6 ?_
  refine ka_put (ci := 3) (v := .int (t_clauses - 1)) (ty := .int) (C := RX3) (T := TX3) (N := 7) (wsN := (w_X3_dropClause cy A_t A_t_positive A_t_negative t_variables t_breakers (t_clauses - 1) t_learned t_rounds t_positive t_negative)) hx hb hts inX3 tyX3 tyX3_ok nmX3 hown hK hP hD hS 0 rfl rfl 2 (by decide) (hts _ q_66) (fun _ h9 => h9) rfl (by decide +kernel) rfl rfl (Nat.le_of_ble_eq_true rfl) rfl dX3_dropClause_7 (fun H locs hP hD hS => ?_)
  refine lv_iload_n hx hb dX3_dropClause_10 rfl (lv_at hl 1 rfl) ?_
  refine lv_istore_n (lv' := [(2, .int p0), (0, .ref A_t), (1, .int p0)]) hx hb dX3_dropClause_11 rfl hl (by decide) rfl (fun ls hl => ?_)
  have hloop_12 : ∀ (kont : (Nat → Int32) → (Nat → Int32) → Option (Int32 × (Nat → Int32) × (Nat → Int32))), (∀ (t_positive_4 : Nat → Int32) (t_negative_5 : Nat → Int32) (H : Heap) (locs : List Loc) (ls : Array Slot), kont t_positive_4 t_negative_5 = some (t_clauses9, t_positive9, t_negative9) → va_P D vwCl (w_X3_dropClause cy A_t A_t_positive A_t_negative t_variables t_breakers (t_clauses - 1) t_learned t_rounds t_positive_4 t_negative_5) H → va_D A (w_X3_dropClause cy A_t A_t_positive A_t_negative t_variables t_breakers (t_clauses - 1) t_learned t_rounds t_positive_4 t_negative_5) → va_S A s.heap H locs → lv_has ls 3 [] → W p l e (rmK 1 22) s m args below meth c H locs 0 0 (MQ below (kQ none D A (w_X3_dropClause cy A_t A_t_positive A_t_negative t_variables t_breakers t_clauses9 t_learned t_rounds t_positive9 t_negative9)) args s 0 0 A) (F0 m 62 ls [])) → ∀ (n : Nat) (v2_1 : Int32) (t_positive_2 : Nat → Int32) (t_negative_3 : Nat → Int32) (H : Heap) (locs : List Loc) (ls : Array Slot), L_X3_dropClause_12 N t_clauses kont n v2_1 t_positive_2 t_negative_3 = some (t_clauses9, t_positive9, t_negative9) → va_P D vwCl (w_X3_dropClause cy A_t A_t_positive A_t_negative t_variables t_breakers (t_clauses - 1) t_learned t_rounds t_positive_2 t_negative_3) H → va_D A (w_X3_dropClause cy A_t A_t_positive A_t_negative t_variables t_breakers (t_clauses - 1) t_learned t_rounds t_positive_2 t_negative_3) → va_S A s.heap H locs → lv_has ls 3 [(0, .ref A_t), (2, .int v2_1)] → W p l e (rmK 1 22) s m args below meth c H locs 0 0 (MQ below (kQ none D A (w_X3_dropClause cy A_t A_t_positive A_t_negative t_variables t_breakers t_clauses9 t_learned t_rounds t_positive9 t_negative9)) args s 0 0 A) (F0 m 12 ls []) := by
    intro kont hexit_12 n
    induction n with
    | zero =>
      intro v2_1 t_positive_2 t_negative_3 H locs ls hF
      rw [L_X3_dropClause_12] at hF
      cases hF
    | succ n ih =>
      intro v2_1 t_positive_2 t_negative_3 H locs ls hF hP hD hS hl
      rw [L_X3_dropClause_12] at hF
      refine lv_iload_n hx hb dX3_dropClause_12 rfl (lv_at hl 1 rfl) ?_
      refine lv_aload_n hx hb dX3_dropClause_13 rfl (lv_at hl 0 rfl) ?_
      refine va_get (D := D) (ci := 3) (v := .int (t_clauses - 1)) (C := RX3) (T := TX3) (N := 7) hx hb hts inX3 hown hK hP 0 rfl rfl 2 (by decide) (hts _ q_66) (fun _ h9 => h9) rfl dX3_dropClause_14 ?_
      refine lv_icmp_ge (tgt := 62) hx hb dX3_dropClause_17 (by decide) (fun c_6 => ?_) (fun c_6 => ?_)
      · replace hF := ite_t c_6 hF
        exact hexit_12 t_positive_2 t_negative_3 H locs ls hF hP hD hS (lv_sub hl [] rfl)
      · replace hF := ite_f c_6 hF
        refine lv_aload_n hx hb dX3_dropClause_20 rfl (lv_at hl 0 rfl) ?_
        refine va_get (D := D) (ci := 3) (v := .ref A_t_positive) (C := RX3) (T := TX3) (N := 7) hx hb hts inX3 hown hK hP 0 rfl rfl 3 (by decide) (hts _ q_68) (fun _ h9 => h9) rfl dX3_dropClause_21 ?_
        refine lv_iload_n hx hb dX3_dropClause_24 rfl (lv_at hl 1 rfl) ?_
        refine lv_aload_n hx hb dX3_dropClause_25 rfl (lv_at hl 0 rfl) ?_
        refine va_get (D := D) (ci := 3) (v := .ref A_t_positive) (C := RX3) (T := TX3) (N := 7) hx hb hts inX3 hown hK hP 0 rfl rfl 3 (by decide) (hts _ q_68) (fun _ h9 => h9) rfl dX3_dropClause_26 ?_
        refine lv_iload_n hx hb dX3_dropClause_29 rfl (lv_at hl 1 rfl) ?_
        refine lv_iconst (v := 1) hx hb dX3_dropClause_30 (by decide) ?_
        refine lv_iadd hx hb dX3_dropClause_31 ?_
        obtain ⟨r_7, hF_8, hF⟩ := ob1_some hF
        refine kcSN (As := [.ref A_t_positive, .int (v2_1 + 1)]) (rest := [.int v2_1, .ref A_t_positive]) (wr := [(A_t, .inr (3, [.int t_variables, .int t_breakers, .int (t_clauses - 1), .ref A_t_positive, .ref A_t_negative, .int t_learned, .int t_rounds])), (A_t_negative, .inl (cy 0, 20, .inl t_negative_3))]) (wsN := (w_X3_dropClause cy A_t A_t_positive A_t_negative t_variables t_breakers (t_clauses - 1) t_learned t_rounds t_positive_2 t_negative_3)) ⟨hx, hb, hml, hown, hts⟩ hE hP hD hS hA hAs [1] [0, 2] [0, 2, 1] (c_X4_read l D cy s0 tW N A_t_positive 20 (v2_1 + 1) t_positive_2 _ hF_8) q_181 q_35 q_180 (nq_179 hE.2.1) hd_X4_read.2 ⟨Nat.le_of_ble_eq_true rfl, Nat.le_of_ble_eq_true rfl⟩ rfl rfl rfl rfl rfl rfl rfl hl.1 rfl (Nat.le_of_ble_eq_true rfl) dX3_dropClause_32 ⟨Nat.zero_le _, Nat.zero_le _⟩ (fun H locs hP hD hS => ?_)
        refine W.eq (g2 := F0 m 35 ls [.int r_7, .int v2_1, .ref A_t_positive]) rfl ?_
        obtain ⟨t_positive_9, hF_10, hF⟩ := ob1_some hF
        refine kcSN (As := [.ref A_t_positive, .int v2_1, .int r_7]) (rest := []) (wr := [(A_t, .inr (3, [.int t_variables, .int t_breakers, .int (t_clauses - 1), .ref A_t_positive, .ref A_t_negative, .int t_learned, .int t_rounds])), (A_t_negative, .inl (cy 0, 20, .inl t_negative_3))]) (wsN := (w_X3_dropClause cy A_t A_t_positive A_t_negative t_variables t_breakers (t_clauses - 1) t_learned t_rounds t_positive_9 t_negative_3)) ⟨hx, hb, hml, hown, hts⟩ hE hP hD hS hA hAs [1] [0, 2] [0, 2, 1] (c_X4_write l D cy s0 tW N A_t_positive 20 v2_1 r_7 t_positive_2 _ hF_10) q_184 q_35 q_183 (nq_182 hE.2.1) hd_X4_write.2 ⟨Nat.le_of_ble_eq_true rfl, Nat.le_of_ble_eq_true rfl⟩ rfl rfl rfl rfl rfl rfl rfl hl.1 rfl (Nat.le_of_ble_eq_true rfl) dX3_dropClause_35 ⟨Nat.zero_le _, Nat.zero_le _⟩ (fun H locs hP hD hS => ?_)
        refine W.eq (g2 := F0 m 38 ls []) rfl ?_
        refine lv_aload_n hx hb dX3_dropClause_38 rfl (lv_at hl 0 rfl) ?_
        refine va_get (D := D) (ci := 3) (v := .ref A_t_negative) (C := RX3) (T := TX3) (N := 7) hx hb hts inX3 hown hK hP 0 rfl rfl 4 (by decide) (hts _ q_69) (fun _ h9 => h9) rfl dX3_dropClause_39 ?_
        refine lv_iload_n hx hb dX3_dropClause_42 rfl (lv_at hl 1 rfl) ?_
        refine lv_aload_n hx hb dX3_dropClause_43 rfl (lv_at hl 0 rfl) ?_
        refine va_get (D := D) (ci := 3) (v := .ref A_t_negative) (C := RX3) (T := TX3) (N := 7) hx hb hts inX3 hown hK hP 0 rfl rfl 4 (by decide) (hts _ q_69) (fun _ h9 => h9) rfl dX3_dropClause_44 ?_
        refine lv_iload_n hx hb dX3_dropClause_47 rfl (lv_at hl 1 rfl) ?_
        refine lv_iconst (v := 1) hx hb dX3_dropClause_48 (by decide) ?_
        refine lv_iadd hx hb dX3_dropClause_49 ?_
        obtain ⟨r_11, hF_12, hF⟩ := ob1_some hF
        refine kcSN (As := [.ref A_t_negative, .int (v2_1 + 1)]) (rest := [.int v2_1, .ref A_t_negative]) (wr := [(A_t, .inr (3, [.int t_variables, .int t_breakers, .int (t_clauses - 1), .ref A_t_positive, .ref A_t_negative, .int t_learned, .int t_rounds])), (A_t_positive, .inl (cy 0, 20, .inl t_positive_9))]) (wsN := (w_X3_dropClause cy A_t A_t_positive A_t_negative t_variables t_breakers (t_clauses - 1) t_learned t_rounds t_positive_9 t_negative_3)) ⟨hx, hb, hml, hown, hts⟩ hE hP hD hS hA hAs [2] [0, 1] [0, 1, 2] (c_X4_read l D cy s0 tW N A_t_negative 20 (v2_1 + 1) t_negative_3 _ hF_12) q_181 q_35 q_180 (nq_179 hE.2.1) hd_X4_read.2 ⟨Nat.le_of_ble_eq_true rfl, Nat.le_of_ble_eq_true rfl⟩ rfl rfl rfl rfl rfl rfl rfl hl.1 rfl (Nat.le_of_ble_eq_true rfl) dX3_dropClause_50 ⟨Nat.zero_le _, Nat.zero_le _⟩ (fun H locs hP hD hS => ?_)
        refine W.eq (g2 := F0 m 53 ls [.int r_11, .int v2_1, .ref A_t_negative]) rfl ?_
        obtain ⟨t_negative_13, hF_14, hF⟩ := ob1_some hF
        refine kcSN (As := [.ref A_t_negative, .int v2_1, .int r_11]) (rest := []) (wr := [(A_t, .inr (3, [.int t_variables, .int t_breakers, .int (t_clauses - 1), .ref A_t_positive, .ref A_t_negative, .int t_learned, .int t_rounds])), (A_t_positive, .inl (cy 0, 20, .inl t_positive_9))]) (wsN := (w_X3_dropClause cy A_t A_t_positive A_t_negative t_variables t_breakers (t_clauses - 1) t_learned t_rounds t_positive_9 t_negative_13)) ⟨hx, hb, hml, hown, hts⟩ hE hP hD hS hA hAs [2] [0, 1] [0, 1, 2] (c_X4_write l D cy s0 tW N A_t_negative 20 v2_1 r_11 t_negative_3 _ hF_14) q_184 q_35 q_183 (nq_182 hE.2.1) hd_X4_write.2 ⟨Nat.le_of_ble_eq_true rfl, Nat.le_of_ble_eq_true rfl⟩ rfl rfl rfl rfl rfl rfl rfl hl.1 rfl (Nat.le_of_ble_eq_true rfl) dX3_dropClause_53 ⟨Nat.zero_le _, Nat.zero_le _⟩ (fun H locs hP hD hS => ?_)
        refine W.eq (g2 := F0 m 56 ls []) rfl ?_
        refine lv_iinc (v := (v2_1 + 1)) (lv' := [(2, .int (v2_1 + 1)), (0, .ref A_t)]) hx hb dX3_dropClause_56 hl (k := 1) rfl (by first | rfl | decide) (by decide) rfl (fun ls hl => ?_)
        refine lv_goto (tgt := 12) hx hb dX3_dropClause_59 (by decide) ?_
        exact ih (v2_1 + 1) t_positive_9 t_negative_13 H locs ls hF hP hD hS (lv_sub hl [1, 0] rfl)
  refine hloop_12 _ (fun t_positive_4 t_negative_5 H locs ls hF hP hD hS hl => ?_) N p0 t_positive t_negative _ _ ls hF hP hD hS (lv_sub hl [1, 0] rfl)
  cases hF
  exact kret_v hx hb hr hlocks hP hD hS dX3_dropClause_62

abbrev w_X3_holds (cy : Nat → ClassId) (A_t : Nat) (A_t_positive : Nat) (A_t_negative : Nat) (t_variables : Int32) (t_breakers : Int32) (t_clauses : Int32) (t_learned : Int32) (t_rounds : Int32) (t_positive : Nat → Int32) (t_negative : Nat → Int32) : va_W := [(A_t, .inr (3, [.int t_variables, .int t_breakers, .int t_clauses, .ref A_t_positive, .ref A_t_negative, .int t_learned, .int t_rounds])), (A_t_positive, .inl (cy 0, 20, .inl t_positive)), (A_t_negative, .inl (cy 0, 20, .inl t_negative))]
def L_X3_holds_2 (N : Nat) (t_clauses : Int32) (t_positive : Nat → Int32) (t_negative : Nat → Int32) (p0 : Int32) (kont : Option (Bool)) : Nat → Int32 → Option (Bool)
  | 0, _ => none
  | n + 1, v2_1 => (if t_clauses ≤ v2_1 then kont else ob1 (F_X4_read N 20 v2_1 t_positive) (fun r_3 => (if (p0 &&& r_3) = (0 : Int32) then ob1 (F_X4_read N 20 v2_1 t_negative) (fun r_6 => (if ((p0 ^^^ (-1)) &&& r_6) = (0 : Int32) then some false else L_X3_holds_2 N t_clauses t_positive t_negative p0 kont n (v2_1 + 1))) else L_X3_holds_2 N t_clauses t_positive t_negative p0 kont n (v2_1 + 1))))
def F_X3_holds (N : Nat) (p0 : Int32) (t_clauses : Int32) (t_positive : Nat → Int32) (t_negative : Nat → Int32) : Option (Bool) :=
  (L_X3_holds_2 N t_clauses t_positive t_negative p0 (some true) N 0)
set_option maxHeartbeats 4000000 in
set_option maxRecDepth 100000 in
theorem c_X3_holds (l : Launch) (D : va_G) (cy : Nat → ClassId) (s0 tW N : Nat) (A_t : Nat) (A_t_positive : Nat) (A_t_negative : Nat) (p0 : Int32) (t_variables : Int32) (t_breakers : Int32) (t_clauses : Int32) (t_learned : Int32) (t_rounds : Int32) (t_positive : Nat → Int32) (t_negative : Nat → Int32) (sz : Nat) {r9 : Bool} (hF : F_X3_holds N p0 t_clauses t_positive t_negative = some r9) : KM l D cy s0 tW yX3_holds cX3_holds 4 (some .boolean) 1 21 [.ref A_t, .int p0] sz (w_X3_holds cy A_t A_t_positive A_t_negative t_variables t_breakers t_clauses t_learned t_rounds t_positive t_negative) (some (.int (bI r9))) (w_X3_holds cy A_t A_t_positive A_t_negative t_variables t_breakers t_clauses t_learned t_rounds t_positive t_negative) := by
  refine KM.intro rfl (Nat.le_of_ble_eq_true rfl) ?_
  intro p e s m args below meth c A ls hx hb hr hml hown hts hlocks hE hP hD hS hA hAs hl
  have hK := hE.1
  have hl : lv_has ls 4 [(0, .ref A_t), (1, .int p0)] := hl
  unfold F_X3_holds at hF
  refine lv_iconst (v := 0) hx hb dX3_holds_0 (by decide) ?_
  refine lv_istore_n (lv' := [(2, .int 0), (0, .ref A_t), (1, .int p0)]) hx hb dX3_holds_1 rfl hl (by decide) rfl (fun ls hl => ?_)
  have hloop_2 : ∀ (kont : Option (Bool)), (∀  (H : Heap) (locs : List Loc) (ls : Array Slot), kont  = some r9 → va_P D vwCl (w_X3_holds cy A_t A_t_positive A_t_negative t_variables t_breakers t_clauses t_learned t_rounds t_positive t_negative) H → va_D A (w_X3_holds cy A_t A_t_positive A_t_negative t_variables t_breakers t_clauses t_learned t_rounds t_positive t_negative) → va_S A s.heap H locs → lv_has ls 4 [] → W p l e (rmK 1 21) s m args below meth c H locs 0 0 (MQ below (kQ (some (.int (bI r9))) D A (w_X3_holds cy A_t A_t_positive A_t_negative t_variables t_breakers t_clauses t_learned t_rounds t_positive t_negative)) args s 0 0 A) (F0 m 56 ls [])) → ∀ (n : Nat) (v2_1 : Int32) (H : Heap) (locs : List Loc) (ls : Array Slot), L_X3_holds_2 N t_clauses t_positive t_negative p0 kont n v2_1 = some r9 → va_P D vwCl (w_X3_holds cy A_t A_t_positive A_t_negative t_variables t_breakers t_clauses t_learned t_rounds t_positive t_negative) H → va_D A (w_X3_holds cy A_t A_t_positive A_t_negative t_variables t_breakers t_clauses t_learned t_rounds t_positive t_negative) → va_S A s.heap H locs → lv_has ls 4 [(0, .ref A_t), (1, .int p0), (2, .int v2_1)] → W p l e (rmK 1 21) s m args below meth c H locs 0 0 (MQ below (kQ (some (.int (bI r9))) D A (w_X3_holds cy A_t A_t_positive A_t_negative t_variables t_breakers t_clauses t_learned t_rounds t_positive t_negative)) args s 0 0 A) (F0 m 2 ls []) := by
    intro kont hexit_2 n
    induction n with
    | zero =>
      intro v2_1 H locs ls hF
      rw [L_X3_holds_2] at hF
      cases hF
    | succ n ih =>
      intro v2_1 H locs ls hF hP hD hS hl
      rw [L_X3_holds_2] at hF
      refine lv_iload_n hx hb dX3_holds_2 rfl (lv_at hl 2 rfl) ?_
      refine lv_aload_n hx hb dX3_holds_3 rfl (lv_at hl 0 rfl) ?_
      refine va_get (D := D) (ci := 3) (v := .int t_clauses) (C := RX3) (T := TX3) (N := 7) hx hb hts inX3 hown hK hP 0 rfl rfl 2 (by decide) (hts _ q_66) (fun _ h9 => h9) rfl dX3_holds_4 ?_
      refine lv_icmp_ge (tgt := 56) hx hb dX3_holds_7 (by decide) (fun c_2 => ?_) (fun c_2 => ?_)
      · replace hF := ite_t c_2 hF
        exact hexit_2  H locs ls hF hP hD hS (lv_sub hl [] rfl)
      · replace hF := ite_f c_2 hF
        refine lv_iload_n hx hb dX3_holds_10 rfl (lv_at hl 1 rfl) ?_
        refine lv_aload_n hx hb dX3_holds_11 rfl (lv_at hl 0 rfl) ?_
        refine va_get (D := D) (ci := 3) (v := .ref A_t_positive) (C := RX3) (T := TX3) (N := 7) hx hb hts inX3 hown hK hP 0 rfl rfl 3 (by decide) (hts _ q_68) (fun _ h9 => h9) rfl dX3_holds_12 ?_
        refine lv_iload_n hx hb dX3_holds_15 rfl (lv_at hl 2 rfl) ?_
        obtain ⟨r_3, hF_4, hF⟩ := ob1_some hF
        refine kcSN (As := [.ref A_t_positive, .int v2_1]) (rest := [.int p0]) (wr := [(A_t, .inr (3, [.int t_variables, .int t_breakers, .int t_clauses, .ref A_t_positive, .ref A_t_negative, .int t_learned, .int t_rounds])), (A_t_negative, .inl (cy 0, 20, .inl t_negative))]) (wsN := (w_X3_holds cy A_t A_t_positive A_t_negative t_variables t_breakers t_clauses t_learned t_rounds t_positive t_negative)) ⟨hx, hb, hml, hown, hts⟩ hE hP hD hS hA hAs [1] [0, 2] [0, 2, 1] (c_X4_read l D cy s0 tW N A_t_positive 20 v2_1 t_positive _ hF_4) q_181 q_35 q_180 (nq_179 hE.2.1) hd_X4_read.2 ⟨Nat.le_of_ble_eq_true rfl, Nat.le_of_ble_eq_true rfl⟩ rfl rfl rfl rfl rfl rfl rfl hl.1 rfl (Nat.le_of_ble_eq_true rfl) dX3_holds_16 ⟨Nat.zero_le _, Nat.zero_le _⟩ (fun H locs hP hD hS => ?_)
        refine W.eq (g2 := F0 m 19 ls [.int r_3, .int p0]) rfl ?_
        refine lv_iand hx hb dX3_holds_19 ?_
        refine lv_if_ne (tgt := 38) hx hb dX3_holds_20 (by decide) (fun c_5 => ?_) (fun c_5 => ?_)
        · replace hF := ite_f c_5 hF
          refine lv_iconst (v := 1) hx hb dX3_holds_38 (by decide) ?_
          refine lv_goto (tgt := 43) hx hb dX3_holds_39 (by decide) ?_
          refine lv_istore_n (lv' := [(3, .int 1), (0, .ref A_t), (1, .int p0), (2, .int v2_1)]) hx hb dX3_holds_43 rfl hl (by decide) rfl (fun ls hl => ?_)
          refine lv_iload_n hx hb dX3_holds_44 rfl (lv_at hl 0 rfl) ?_
          refine lv_if_ne (tgt := 50) hx hb dX3_holds_45 (by decide) (fun _ => ?_) (fun h0 => absurd h0 (by decide))
          refine lv_iinc (v := (v2_1 + 1)) (lv' := [(2, .int (v2_1 + 1)), (3, .int 1), (0, .ref A_t), (1, .int p0)]) hx hb dX3_holds_50 hl (k := 3) rfl (by first | rfl | decide) (by decide) rfl (fun ls hl => ?_)
          refine lv_goto (tgt := 2) hx hb dX3_holds_53 (by decide) ?_
          exact ih (v2_1 + 1) H locs ls hF hP hD hS (lv_sub hl [2, 3, 0] rfl)
        · replace hF := ite_t c_5 hF
          refine lv_iload_n hx hb dX3_holds_23 rfl (lv_at hl 1 rfl) ?_
          refine lv_iconst (v := (-1)) hx hb dX3_holds_24 (by decide) ?_
          refine lv_ixor hx hb dX3_holds_25 ?_
          refine lv_aload_n hx hb dX3_holds_26 rfl (lv_at hl 0 rfl) ?_
          refine va_get (D := D) (ci := 3) (v := .ref A_t_negative) (C := RX3) (T := TX3) (N := 7) hx hb hts inX3 hown hK hP 0 rfl rfl 4 (by decide) (hts _ q_69) (fun _ h9 => h9) rfl dX3_holds_27 ?_
          refine lv_iload_n hx hb dX3_holds_30 rfl (lv_at hl 2 rfl) ?_
          obtain ⟨r_6, hF_7, hF⟩ := ob1_some hF
          refine kcSN (As := [.ref A_t_negative, .int v2_1]) (rest := [.int (p0 ^^^ (-1))]) (wr := [(A_t, .inr (3, [.int t_variables, .int t_breakers, .int t_clauses, .ref A_t_positive, .ref A_t_negative, .int t_learned, .int t_rounds])), (A_t_positive, .inl (cy 0, 20, .inl t_positive))]) (wsN := (w_X3_holds cy A_t A_t_positive A_t_negative t_variables t_breakers t_clauses t_learned t_rounds t_positive t_negative)) ⟨hx, hb, hml, hown, hts⟩ hE hP hD hS hA hAs [2] [0, 1] [0, 1, 2] (c_X4_read l D cy s0 tW N A_t_negative 20 v2_1 t_negative _ hF_7) q_181 q_35 q_180 (nq_179 hE.2.1) hd_X4_read.2 ⟨Nat.le_of_ble_eq_true rfl, Nat.le_of_ble_eq_true rfl⟩ rfl rfl rfl rfl rfl rfl rfl hl.1 rfl (Nat.le_of_ble_eq_true rfl) dX3_holds_31 ⟨Nat.zero_le _, Nat.zero_le _⟩ (fun H locs hP hD hS => ?_)
          refine W.eq (g2 := F0 m 34 ls [.int r_6, .int (p0 ^^^ (-1))]) rfl ?_
          refine lv_iand hx hb dX3_holds_34 ?_
          refine lv_if_eq (tgt := 42) hx hb dX3_holds_35 (by decide) (fun c_8 => ?_) (fun c_8 => ?_)
          · replace hF := ite_t c_8 hF
            refine lv_iconst (v := 0) hx hb dX3_holds_42 (by decide) ?_
            refine lv_istore_n (lv' := [(3, .int 0), (0, .ref A_t), (1, .int p0), (2, .int v2_1)]) hx hb dX3_holds_43 rfl hl (by decide) rfl (fun ls hl => ?_)
            refine lv_iload_n hx hb dX3_holds_44 rfl (lv_at hl 0 rfl) ?_
            refine lv_if_ne (tgt := 50) hx hb dX3_holds_45 (by decide) (fun h0 => absurd (by decide) h0) (fun _ => ?_)
            refine lv_iconst (v := 0) hx hb dX3_holds_48 (by decide) ?_
            cases hF
            exact kret_z hx hb hr hlocks hP hD hS dX3_holds_49
          · replace hF := ite_f c_8 hF
            refine lv_iconst (v := 1) hx hb dX3_holds_38 (by decide) ?_
            refine lv_goto (tgt := 43) hx hb dX3_holds_39 (by decide) ?_
            refine lv_istore_n (lv' := [(3, .int 1), (0, .ref A_t), (1, .int p0), (2, .int v2_1)]) hx hb dX3_holds_43 rfl hl (by decide) rfl (fun ls hl => ?_)
            refine lv_iload_n hx hb dX3_holds_44 rfl (lv_at hl 0 rfl) ?_
            refine lv_if_ne (tgt := 50) hx hb dX3_holds_45 (by decide) (fun _ => ?_) (fun h0 => absurd h0 (by decide))
            refine lv_iinc (v := (v2_1 + 1)) (lv' := [(2, .int (v2_1 + 1)), (3, .int 1), (0, .ref A_t), (1, .int p0)]) hx hb dX3_holds_50 hl (k := 3) rfl (by first | rfl | decide) (by decide) rfl (fun ls hl => ?_)
            refine lv_goto (tgt := 2) hx hb dX3_holds_53 (by decide) ?_
            exact ih (v2_1 + 1) H locs ls hF hP hD hS (lv_sub hl [2, 3, 0] rfl)
  refine hloop_2 _ (fun  H locs ls hF hP hD hS hl => ?_) N 0 _ _ ls hF hP hD hS (lv_sub hl [1, 2, 0] rfl)
  refine lv_iconst (v := 1) hx hb dX3_holds_56 (by decide) ?_
  cases hF
  exact kret_z hx hb hr hlocks hP hD hS dX3_holds_57

theorem q_8 : Cond.selects RX3 yX3_ownerOf yX3_ownerOf ∈ wAll := wAll_mem 8 (by decide +kernel) (by decide +kernel)
theorem q_212 : Cond.methodLink RX3 56 yX3_ownerOf ∈ wAll := wAll_mem 212 (by decide +kernel) (by decide +kernel)
theorem q_214 : Cond.instanceMethod yX3_ownerOf ∈ wAll := wAll_mem 214 (by decide +kernel) (by decide +kernel)
theorem q_215 : Cond.code yX3_ownerOf cX3_ownerOf 2 (some .int) ∈ wAll := wAll_mem 215 (by decide +kernel) (by decide +kernel)
theorem hd_X3_ownerOf : yX3_ownerOf.cls = RX3 ∧ yX3_ownerOf.cls ≠ "java/lang/invoke/MethodHandle" ∧ yX3_ownerOf.cls ≠ "java/lang/invoke/VarHandle" ∧ (parseMethodDescriptor yX3_ownerOf.desc).map (fun d => d.parameters.length) = some 1 := by decide +kernel
abbrev w_X3_playIn (cy : Nat → ClassId) (A_t : Nat) (A_t_positive : Nat) (A_t_negative : Nat) (t_variables : Int32) (t_breakers : Int32) (t_clauses : Int32) (t_learned : Int32) (t_rounds : Int32) : va_W := [(A_t, .inr (3, [.int t_variables, .int t_breakers, .int t_clauses, .ref A_t_positive, .ref A_t_negative, .int t_learned, .int t_rounds]))]
def L_X3_playIn_7 (N : Nat) (t_variables : Int32) (t_breakers : Int32) (p0 : Int32) (kont : Int32 → Option (Int32)) : Nat → Int32 → Int32 → Int32 → Option (Int32)
  | 0, _, _, _ => none
  | n + 1, v2_1, v3_2, v4_3 => (if t_variables ≤ v4_3 then kont v2_1 else ob1 (F_X3_ownerOf N v4_3 t_breakers) (fun r_6 => (if r_6 = (1 : Int32) then ob1 (F_X4_bit N p0 v4_3) (fun r_9 => L_X3_playIn_7 N t_variables t_breakers p0 kont n (v2_1 ||| (r_9 <<< (v3_2 &&& 31))) (v3_2 + 1) (v4_3 + 1)) else L_X3_playIn_7 N t_variables t_breakers p0 kont n v2_1 v3_2 (v4_3 + 1))))
def F_X3_playIn (N : Nat) (p0 : Int32) (t_variables : Int32) (t_breakers : Int32) : Option (Int32) :=
  (L_X3_playIn_7 N t_variables t_breakers p0 (fun u2_4 => some u2_4) N 0 0 0)
set_option maxHeartbeats 4000000 in
set_option maxRecDepth 100000 in
theorem c_X3_playIn (l : Launch) (D : va_G) (cy : Nat → ClassId) (s0 tW N : Nat) (A_t : Nat) (A_t_positive : Nat) (A_t_negative : Nat) (p0 : Int32) (t_variables : Int32) (t_breakers : Int32) (t_clauses : Int32) (t_learned : Int32) (t_rounds : Int32) (sz : Nat) {r9 : Int32} (hF : F_X3_playIn N p0 t_variables t_breakers = some r9) : KM l D cy s0 tW yX3_playIn cX3_playIn 5 (some .int) 1 21 [.ref A_t, .int p0] sz (w_X3_playIn cy A_t A_t_positive A_t_negative t_variables t_breakers t_clauses t_learned t_rounds) (some (.int r9)) (w_X3_playIn cy A_t A_t_positive A_t_negative t_variables t_breakers t_clauses t_learned t_rounds) := by
  refine KM.intro rfl (Nat.le_of_ble_eq_true rfl) ?_
  intro p e s m args below meth c A ls hx hb hr hml hown hts hlocks hE hP hD hS hA hAs hl
  have hK := hE.1
  have hl : lv_has ls 5 [(0, .ref A_t), (1, .int p0)] := hl
  unfold F_X3_playIn at hF
  refine lv_iconst (v := 0) hx hb dX3_playIn_0 (by decide) ?_
  refine lv_istore_n (lv' := [(2, .int 0), (0, .ref A_t), (1, .int p0)]) hx hb dX3_playIn_1 rfl hl (by decide) rfl (fun ls hl => ?_)
  refine lv_iconst (v := 0) hx hb dX3_playIn_2 (by decide) ?_
  refine lv_istore_n (lv' := [(3, .int 0), (2, .int 0), (0, .ref A_t), (1, .int p0)]) hx hb dX3_playIn_3 rfl hl (by decide) rfl (fun ls hl => ?_)
  refine lv_iconst (v := 0) hx hb dX3_playIn_4 (by decide) ?_
  refine lv_istore (lv' := [(4, .int 0), (3, .int 0), (2, .int 0), (0, .ref A_t), (1, .int p0)]) hx hb dX3_playIn_5 hl (by decide) rfl (fun ls hl => ?_)
  have hloop_7 : ∀ (kont : Int32 → Option (Int32)), (∀ (u2_4 : Int32) (H : Heap) (locs : List Loc) (ls : Array Slot), kont u2_4 = some r9 → va_P D vwCl (w_X3_playIn cy A_t A_t_positive A_t_negative t_variables t_breakers t_clauses t_learned t_rounds) H → va_D A (w_X3_playIn cy A_t A_t_positive A_t_negative t_variables t_breakers t_clauses t_learned t_rounds) → va_S A s.heap H locs → lv_has ls 5 [(2, .int u2_4)] → W p l e (rmK 1 21) s m args below meth c H locs 0 0 (MQ below (kQ (some (.int r9)) D A (w_X3_playIn cy A_t A_t_positive A_t_negative t_variables t_breakers t_clauses t_learned t_rounds)) args s 0 0 A) (F0 m 46 ls [])) → ∀ (n : Nat) (v2_1 : Int32) (v3_2 : Int32) (v4_3 : Int32) (H : Heap) (locs : List Loc) (ls : Array Slot), L_X3_playIn_7 N t_variables t_breakers p0 kont n v2_1 v3_2 v4_3 = some r9 → va_P D vwCl (w_X3_playIn cy A_t A_t_positive A_t_negative t_variables t_breakers t_clauses t_learned t_rounds) H → va_D A (w_X3_playIn cy A_t A_t_positive A_t_negative t_variables t_breakers t_clauses t_learned t_rounds) → va_S A s.heap H locs → lv_has ls 5 [(0, .ref A_t), (1, .int p0), (2, .int v2_1), (3, .int v3_2), (4, .int v4_3)] → W p l e (rmK 1 21) s m args below meth c H locs 0 0 (MQ below (kQ (some (.int r9)) D A (w_X3_playIn cy A_t A_t_positive A_t_negative t_variables t_breakers t_clauses t_learned t_rounds)) args s 0 0 A) (F0 m 7 ls []) := by
    intro kont hexit_7 n
    induction n with
    | zero =>
      intro v2_1 v3_2 v4_3 H locs ls hF
      rw [L_X3_playIn_7] at hF
      cases hF
    | succ n ih =>
      intro v2_1 v3_2 v4_3 H locs ls hF hP hD hS hl
      rw [L_X3_playIn_7] at hF
      refine lv_iload hx hb dX3_playIn_7 (lv_at hl 4 rfl) ?_
      refine lv_aload_n hx hb dX3_playIn_9 rfl (lv_at hl 0 rfl) ?_
      refine va_get (D := D) (ci := 3) (v := .int t_variables) (C := RX3) (T := TX3) (N := 7) hx hb hts inX3 hown hK hP 0 rfl rfl 0 (by decide) (hts _ q_61) (fun _ h9 => h9) rfl dX3_playIn_10 ?_
      refine lv_icmp_ge (tgt := 46) hx hb dX3_playIn_13 (by decide) (fun c_5 => ?_) (fun c_5 => ?_)
      · replace hF := ite_t c_5 hF
        exact hexit_7 v2_1 H locs ls hF hP hD hS (lv_sub hl [2] rfl)
      · replace hF := ite_f c_5 hF
        refine lv_aload_n hx hb dX3_playIn_16 rfl (lv_at hl 0 rfl) ?_
        refine lv_iload hx hb dX3_playIn_17 (lv_at hl 4 rfl) ?_
        obtain ⟨r_6, hF_7, hF⟩ := ob1_some hF
        refine kcV (q := (RX3, TX3, 7)) (ci := 3) (q0 := 0) (As := [.int v4_3]) (rest := []) (wr := []) (wsN := (w_X3_playIn cy A_t A_t_positive A_t_negative t_variables t_breakers t_clauses t_learned t_rounds)) ⟨hx, hb, hml, hown, hts⟩ hE hP hD hS hA hAs [0] [] [0] (c_X3_ownerOf l D cy s0 tW N A_t A_t_positive A_t_negative v4_3 t_variables t_breakers t_clauses t_learned t_rounds _ hF_7) (gV q_212 q_214 q_8 q_36 q_215) hd_X3_ownerOf ⟨Nat.le_of_ble_eq_true rfl, Nat.le_of_ble_eq_true rfl⟩ rfl rfl rfl rfl rfl rfl rfl rfl rfl hl.1 rfl (Nat.le_of_ble_eq_true rfl) dX3_playIn_19 ⟨Nat.zero_le _, Nat.zero_le _⟩ (fun H locs hP hD hS => ?_)
        refine W.eq (g2 := F0 m 22 ls [.int r_6]) rfl ?_
        refine lv_iconst (v := 1) hx hb dX3_playIn_22 (by decide) ?_
        refine lv_icmp_ne (tgt := 40) hx hb dX3_playIn_23 (by decide) (fun c_8 => ?_) (fun c_8 => ?_)
        · replace hF := ite_f c_8 hF
          refine lv_iinc (v := (v4_3 + 1)) (lv' := [(4, .int (v4_3 + 1)), (0, .ref A_t), (1, .int p0), (2, .int v2_1), (3, .int v3_2)]) hx hb dX3_playIn_40 hl (k := 4) rfl (by first | rfl | decide) (by decide) rfl (fun ls hl => ?_)
          refine lv_goto (tgt := 7) hx hb dX3_playIn_43 (by decide) ?_
          exact ih v2_1 v3_2 (v4_3 + 1) H locs ls hF hP hD hS (lv_sub hl [1, 2, 3, 4, 0] rfl)
        · replace hF := ite_t c_8 hF
          refine lv_iload_n hx hb dX3_playIn_26 rfl (lv_at hl 2 rfl) ?_
          refine lv_iload_n hx hb dX3_playIn_27 rfl (lv_at hl 1 rfl) ?_
          refine lv_iload hx hb dX3_playIn_28 (lv_at hl 4 rfl) ?_
          obtain ⟨r_9, hF_10, hF⟩ := ob1_some hF
          refine kcSN (As := [.int p0, .int v4_3]) (rest := [.int v2_1]) (wr := [(A_t, .inr (3, [.int t_variables, .int t_breakers, .int t_clauses, .ref A_t_positive, .ref A_t_negative, .int t_learned, .int t_rounds]))]) (wsN := (w_X3_playIn cy A_t A_t_positive A_t_negative t_variables t_breakers t_clauses t_learned t_rounds)) ⟨hx, hb, hml, hown, hts⟩ hE hP hD hS hA hAs [] [0] [0] (c_X4_bit l D cy s0 tW N p0 v4_3 _ hF_10) q_218 q_35 q_217 (nq_216 hE.2.1) hd_X4_bit.2 ⟨Nat.le_of_ble_eq_true rfl, Nat.le_of_ble_eq_true rfl⟩ rfl rfl rfl rfl rfl rfl rfl hl.1 rfl (Nat.le_of_ble_eq_true rfl) dX3_playIn_30 ⟨Nat.zero_le _, Nat.zero_le _⟩ (fun H locs hP hD hS => ?_)
          refine W.eq (g2 := F0 m 33 ls [.int r_9, .int v2_1]) rfl ?_
          refine lv_iload_n hx hb dX3_playIn_33 rfl (lv_at hl 3 rfl) ?_
          refine lv_ishl hx hb dX3_playIn_34 ?_
          refine lv_ior hx hb dX3_playIn_35 ?_
          refine lv_istore_n (lv' := [(2, .int (v2_1 ||| (r_9 <<< (v3_2 &&& 31)))), (0, .ref A_t), (1, .int p0), (3, .int v3_2), (4, .int v4_3)]) hx hb dX3_playIn_36 rfl hl (by decide) rfl (fun ls hl => ?_)
          refine lv_iinc (v := (v3_2 + 1)) (lv' := [(3, .int (v3_2 + 1)), (2, .int (v2_1 ||| (r_9 <<< (v3_2 &&& 31)))), (0, .ref A_t), (1, .int p0), (4, .int v4_3)]) hx hb dX3_playIn_37 hl (k := 3) rfl (by first | rfl | decide) (by decide) rfl (fun ls hl => ?_)
          refine lv_iinc (v := (v4_3 + 1)) (lv' := [(4, .int (v4_3 + 1)), (3, .int (v3_2 + 1)), (2, .int (v2_1 ||| (r_9 <<< (v3_2 &&& 31)))), (0, .ref A_t), (1, .int p0)]) hx hb dX3_playIn_40 hl (k := 4) rfl (by first | rfl | decide) (by decide) rfl (fun ls hl => ?_)
          refine lv_goto (tgt := 7) hx hb dX3_playIn_43 (by decide) ?_
          exact ih (v2_1 ||| (r_9 <<< (v3_2 &&& 31))) (v3_2 + 1) (v4_3 + 1) H locs ls hF hP hD hS (lv_sub hl [3, 4, 2, 1, 0] rfl)
  refine hloop_7 _ (fun u2_4 H locs ls hF hP hD hS hl => ?_) N 0 0 0 _ _ ls hF hP hD hS (lv_sub hl [3, 4, 2, 1, 0] rfl)
  refine lv_iload_n hx hb dX3_playIn_46 rfl (lv_at hl 0 rfl) ?_
  cases hF
  exact kret_i hx hb hr hlocks hP hD hS dX3_playIn_47

abbrev w_X3_copyFrom (cy : Nat → ClassId) (A_t : Nat) (A_t_positive : Nat) (A_t_negative : Nat) (A_p0 : Nat) (A_p0_positive : Nat) (A_p0_negative : Nat) (t_variables : Int32) (t_breakers : Int32) (t_clauses : Int32) (t_learned : Int32) (t_rounds : Int32) (t_positive : Nat → Int32) (t_negative : Nat → Int32) (p0_variables : Int32) (p0_breakers : Int32) (p0_clauses : Int32) (p0_learned : Int32) (p0_rounds : Int32) (p0_positive : Nat → Int32) (p0_negative : Nat → Int32) : va_W := [(A_t, .inr (3, [.int t_variables, .int t_breakers, .int t_clauses, .ref A_t_positive, .ref A_t_negative, .int t_learned, .int t_rounds])), (A_t_positive, .inl (cy 0, 20, .inl t_positive)), (A_t_negative, .inl (cy 0, 20, .inl t_negative)), (A_p0, .inr (3, [.int p0_variables, .int p0_breakers, .int p0_clauses, .ref A_p0_positive, .ref A_p0_negative, .int p0_learned, .int p0_rounds])), (A_p0_positive, .inl (cy 0, 20, .inl p0_positive)), (A_p0_negative, .inl (cy 0, 20, .inl p0_negative))]
def L_X3_copyFrom_26 (N : Nat) (p0_clauses : Int32) (p0_positive : Nat → Int32) (p0_negative : Nat → Int32) (kont : (Nat → Int32) → (Nat → Int32) → Option (Int32 × Int32 × Int32 × (Nat → Int32) × (Nat → Int32) × Int32 × Int32)) : Nat → Int32 → (Nat → Int32) → (Nat → Int32) → Option (Int32 × Int32 × Int32 × (Nat → Int32) × (Nat → Int32) × Int32 × Int32)
  | 0, _, _, _ => none
  | n + 1, v2_1, t_positive_2, t_negative_3 => (if p0_clauses ≤ v2_1 then kont t_positive_2 t_negative_3 else ob1 (F_X4_read N 20 v2_1 p0_positive) (fun r_7 => ob1 (F_X4_write N 20 v2_1 r_7 t_positive_2) (fun t_positive_9 => ob1 (F_X4_read N 20 v2_1 p0_negative) (fun r_11 => ob1 (F_X4_write N 20 v2_1 r_11 t_negative_3) (fun t_negative_13 => L_X3_copyFrom_26 N p0_clauses p0_positive p0_negative kont n (v2_1 + 1) t_positive_9 t_negative_13)))))
def F_X3_copyFrom (N : Nat) (t_variables : Int32) (t_breakers : Int32) (t_clauses : Int32) (t_positive : Nat → Int32) (t_negative : Nat → Int32) (t_learned : Int32) (t_rounds : Int32) (p0_variables : Int32) (p0_breakers : Int32) (p0_clauses : Int32) (p0_positive : Nat → Int32) (p0_negative : Nat → Int32) (p0_learned : Int32) (p0_rounds : Int32) : Option (Int32 × Int32 × Int32 × (Nat → Int32) × (Nat → Int32) × Int32 × Int32) :=
  (L_X3_copyFrom_26 N p0_clauses p0_positive p0_negative (fun t_positive_4 t_negative_5 => some (p0_variables, p0_breakers, p0_clauses, t_positive_4, t_negative_5, p0_learned, p0_rounds)) N 0 t_positive t_negative)
set_option maxHeartbeats 4000000 in
set_option maxRecDepth 100000 in
theorem c_X3_copyFrom (l : Launch) (D : va_G) (cy : Nat → ClassId) (s0 tW N : Nat) (A_t : Nat) (A_t_positive : Nat) (A_t_negative : Nat) (A_p0 : Nat) (A_p0_positive : Nat) (A_p0_negative : Nat) (t_variables : Int32) (t_breakers : Int32) (t_clauses : Int32) (t_learned : Int32) (t_rounds : Int32) (t_positive : Nat → Int32) (t_negative : Nat → Int32) (p0_variables : Int32) (p0_breakers : Int32) (p0_clauses : Int32) (p0_learned : Int32) (p0_rounds : Int32) (p0_positive : Nat → Int32) (p0_negative : Nat → Int32) (sz : Nat) {t_variables9 : Int32} {t_breakers9 : Int32} {t_clauses9 : Int32} {t_positive9 : Nat → Int32} {t_negative9 : Nat → Int32} {t_learned9 : Int32} {t_rounds9 : Int32} (hF : F_X3_copyFrom N t_variables t_breakers t_clauses t_positive t_negative t_learned t_rounds p0_variables p0_breakers p0_clauses p0_positive p0_negative p0_learned p0_rounds = some (t_variables9, t_breakers9, t_clauses9, t_positive9, t_negative9, t_learned9, t_rounds9)) : KM l D cy s0 tW yX3_copyFrom cX3_copyFrom 3 none 1 22 [.ref A_t, .ref A_p0] sz (w_X3_copyFrom cy A_t A_t_positive A_t_negative A_p0 A_p0_positive A_p0_negative t_variables t_breakers t_clauses t_learned t_rounds t_positive t_negative p0_variables p0_breakers p0_clauses p0_learned p0_rounds p0_positive p0_negative) none (w_X3_copyFrom cy A_t A_t_positive A_t_negative A_p0 A_p0_positive A_p0_negative t_variables9 t_breakers9 t_clauses9 t_learned9 t_rounds9 t_positive9 t_negative9 p0_variables p0_breakers p0_clauses p0_learned p0_rounds p0_positive p0_negative) := by
  refine KM.intro rfl (Nat.le_of_ble_eq_true rfl) ?_
  intro p e s m args below meth c A ls hx hb hr hml hown hts hlocks hE hP hD hS hA hAs hl
  have hK := hE.1
  have hl : lv_has ls 3 [(0, .ref A_t), (1, .ref A_p0)] := hl
  unfold F_X3_copyFrom at hF
  refine lv_aload_n hx hb dX3_copyFrom_0 rfl (lv_at hl 0 rfl) ?_
  refine lv_aload_n hx hb dX3_copyFrom_1 rfl (lv_at hl 1 rfl) ?_
  refine va_get (D := D) (ci := 3) (v := .int p0_variables) (C := RX3) (T := TX3) (N := 7) hx hb hts inX3 hown hK hP 3 rfl rfl 0 (by decide) (hts _ q_61) (fun _ h9 => h9) rfl dX3_copyFrom_2 ?_
  refine ka_put (ci := 3) (v := .int p0_variables) (ty := .int) (C := RX3) (T := TX3) (N := 7) (wsN := (w_X3_copyFrom cy A_t A_t_positive A_t_negative A_p0 A_p0_positive A_p0_negative p0_variables t_breakers t_clauses t_learned t_rounds t_positive t_negative p0_variables p0_breakers p0_clauses p0_learned p0_rounds p0_positive p0_negative)) hx hb hts inX3 tyX3 tyX3_ok nmX3 hown hK hP hD hS 0 rfl rfl 0 (by decide) (hts _ q_61) (fun _ h9 => h9) rfl (by decide +kernel) rfl rfl (Nat.le_of_ble_eq_true rfl) rfl dX3_copyFrom_5 (fun H locs hP hD hS => ?_)
  refine lv_aload_n hx hb dX3_copyFrom_8 rfl (lv_at hl 0 rfl) ?_
  refine lv_aload_n hx hb dX3_copyFrom_9 rfl (lv_at hl 1 rfl) ?_
  refine va_get (D := D) (ci := 3) (v := .int p0_breakers) (C := RX3) (T := TX3) (N := 7) hx hb hts inX3 hown hK hP 3 rfl rfl 1 (by decide) (hts _ q_64) (fun _ h9 => h9) rfl dX3_copyFrom_10 ?_
  refine ka_put (ci := 3) (v := .int p0_breakers) (ty := .int) (C := RX3) (T := TX3) (N := 7) (wsN := (w_X3_copyFrom cy A_t A_t_positive A_t_negative A_p0 A_p0_positive A_p0_negative p0_variables p0_breakers t_clauses t_learned t_rounds t_positive t_negative p0_variables p0_breakers p0_clauses p0_learned p0_rounds p0_positive p0_negative)) hx hb hts inX3 tyX3 tyX3_ok nmX3 hown hK hP hD hS 0 rfl rfl 1 (by decide) (hts _ q_64) (fun _ h9 => h9) rfl (by decide +kernel) rfl rfl (Nat.le_of_ble_eq_true rfl) rfl dX3_copyFrom_13 (fun H locs hP hD hS => ?_)
  refine lv_aload_n hx hb dX3_copyFrom_16 rfl (lv_at hl 0 rfl) ?_
  refine lv_aload_n hx hb dX3_copyFrom_17 rfl (lv_at hl 1 rfl) ?_
  refine va_get (D := D) (ci := 3) (v := .int p0_clauses) (C := RX3) (T := TX3) (N := 7) hx hb hts inX3 hown hK hP 3 rfl rfl 2 (by decide) (hts _ q_66) (fun _ h9 => h9) rfl dX3_copyFrom_18 ?_
  refine ka_put (ci := 3) (v := .int p0_clauses) (ty := .int) (C := RX3) (T := TX3) (N := 7) (wsN := (w_X3_copyFrom cy A_t A_t_positive A_t_negative A_p0 A_p0_positive A_p0_negative p0_variables p0_breakers p0_clauses t_learned t_rounds t_positive t_negative p0_variables p0_breakers p0_clauses p0_learned p0_rounds p0_positive p0_negative)) hx hb hts inX3 tyX3 tyX3_ok nmX3 hown hK hP hD hS 0 rfl rfl 2 (by decide) (hts _ q_66) (fun _ h9 => h9) rfl (by decide +kernel) rfl rfl (Nat.le_of_ble_eq_true rfl) rfl dX3_copyFrom_21 (fun H locs hP hD hS => ?_)
  refine lv_iconst (v := 0) hx hb dX3_copyFrom_24 (by decide) ?_
  refine lv_istore_n (lv' := [(2, .int 0), (0, .ref A_t), (1, .ref A_p0)]) hx hb dX3_copyFrom_25 rfl hl (by decide) rfl (fun ls hl => ?_)
  have hloop_26 : ∀ (kont : (Nat → Int32) → (Nat → Int32) → Option (Int32 × Int32 × Int32 × (Nat → Int32) × (Nat → Int32) × Int32 × Int32)), (∀ (t_positive_4 : Nat → Int32) (t_negative_5 : Nat → Int32) (H : Heap) (locs : List Loc) (ls : Array Slot), kont t_positive_4 t_negative_5 = some (t_variables9, t_breakers9, t_clauses9, t_positive9, t_negative9, t_learned9, t_rounds9) → va_P D vwCl (w_X3_copyFrom cy A_t A_t_positive A_t_negative A_p0 A_p0_positive A_p0_negative p0_variables p0_breakers p0_clauses t_learned t_rounds t_positive_4 t_negative_5 p0_variables p0_breakers p0_clauses p0_learned p0_rounds p0_positive p0_negative) H → va_D A (w_X3_copyFrom cy A_t A_t_positive A_t_negative A_p0 A_p0_positive A_p0_negative p0_variables p0_breakers p0_clauses t_learned t_rounds t_positive_4 t_negative_5 p0_variables p0_breakers p0_clauses p0_learned p0_rounds p0_positive p0_negative) → va_S A s.heap H locs → lv_has ls 3 [(0, .ref A_t), (1, .ref A_p0)] → W p l e (rmK 1 22) s m args below meth c H locs 0 0 (MQ below (kQ none D A (w_X3_copyFrom cy A_t A_t_positive A_t_negative A_p0 A_p0_positive A_p0_negative t_variables9 t_breakers9 t_clauses9 t_learned9 t_rounds9 t_positive9 t_negative9 p0_variables p0_breakers p0_clauses p0_learned p0_rounds p0_positive p0_negative)) args s 0 0 A) (F0 m 72 ls [])) → ∀ (n : Nat) (v2_1 : Int32) (t_positive_2 : Nat → Int32) (t_negative_3 : Nat → Int32) (H : Heap) (locs : List Loc) (ls : Array Slot), L_X3_copyFrom_26 N p0_clauses p0_positive p0_negative kont n v2_1 t_positive_2 t_negative_3 = some (t_variables9, t_breakers9, t_clauses9, t_positive9, t_negative9, t_learned9, t_rounds9) → va_P D vwCl (w_X3_copyFrom cy A_t A_t_positive A_t_negative A_p0 A_p0_positive A_p0_negative p0_variables p0_breakers p0_clauses t_learned t_rounds t_positive_2 t_negative_3 p0_variables p0_breakers p0_clauses p0_learned p0_rounds p0_positive p0_negative) H → va_D A (w_X3_copyFrom cy A_t A_t_positive A_t_negative A_p0 A_p0_positive A_p0_negative p0_variables p0_breakers p0_clauses t_learned t_rounds t_positive_2 t_negative_3 p0_variables p0_breakers p0_clauses p0_learned p0_rounds p0_positive p0_negative) → va_S A s.heap H locs → lv_has ls 3 [(0, .ref A_t), (1, .ref A_p0), (2, .int v2_1)] → W p l e (rmK 1 22) s m args below meth c H locs 0 0 (MQ below (kQ none D A (w_X3_copyFrom cy A_t A_t_positive A_t_negative A_p0 A_p0_positive A_p0_negative t_variables9 t_breakers9 t_clauses9 t_learned9 t_rounds9 t_positive9 t_negative9 p0_variables p0_breakers p0_clauses p0_learned p0_rounds p0_positive p0_negative)) args s 0 0 A) (F0 m 26 ls []) := by
    intro kont hexit_26 n
    induction n with
    | zero =>
      intro v2_1 t_positive_2 t_negative_3 H locs ls hF
      rw [L_X3_copyFrom_26] at hF
      cases hF
    | succ n ih =>
      intro v2_1 t_positive_2 t_negative_3 H locs ls hF hP hD hS hl
      rw [L_X3_copyFrom_26] at hF
      refine lv_iload_n hx hb dX3_copyFrom_26 rfl (lv_at hl 2 rfl) ?_
      refine lv_aload_n hx hb dX3_copyFrom_27 rfl (lv_at hl 0 rfl) ?_
      refine va_get (D := D) (ci := 3) (v := .int p0_clauses) (C := RX3) (T := TX3) (N := 7) hx hb hts inX3 hown hK hP 0 rfl rfl 2 (by decide) (hts _ q_66) (fun _ h9 => h9) rfl dX3_copyFrom_28 ?_
      refine lv_icmp_ge (tgt := 72) hx hb dX3_copyFrom_31 (by decide) (fun c_6 => ?_) (fun c_6 => ?_)
      · replace hF := ite_t c_6 hF
        exact hexit_26 t_positive_2 t_negative_3 H locs ls hF hP hD hS (lv_sub hl [0, 1] rfl)
      · replace hF := ite_f c_6 hF
        refine lv_aload_n hx hb dX3_copyFrom_34 rfl (lv_at hl 0 rfl) ?_
        refine va_get (D := D) (ci := 3) (v := .ref A_t_positive) (C := RX3) (T := TX3) (N := 7) hx hb hts inX3 hown hK hP 0 rfl rfl 3 (by decide) (hts _ q_68) (fun _ h9 => h9) rfl dX3_copyFrom_35 ?_
        refine lv_iload_n hx hb dX3_copyFrom_38 rfl (lv_at hl 2 rfl) ?_
        refine lv_aload_n hx hb dX3_copyFrom_39 rfl (lv_at hl 1 rfl) ?_
        refine va_get (D := D) (ci := 3) (v := .ref A_p0_positive) (C := RX3) (T := TX3) (N := 7) hx hb hts inX3 hown hK hP 3 rfl rfl 3 (by decide) (hts _ q_68) (fun _ h9 => h9) rfl dX3_copyFrom_40 ?_
        refine lv_iload_n hx hb dX3_copyFrom_43 rfl (lv_at hl 2 rfl) ?_
        obtain ⟨r_7, hF_8, hF⟩ := ob1_some hF
        refine kcSN (As := [.ref A_p0_positive, .int v2_1]) (rest := [.int v2_1, .ref A_t_positive]) (wr := [(A_t, .inr (3, [.int p0_variables, .int p0_breakers, .int p0_clauses, .ref A_t_positive, .ref A_t_negative, .int t_learned, .int t_rounds])), (A_t_positive, .inl (cy 0, 20, .inl t_positive_2)), (A_t_negative, .inl (cy 0, 20, .inl t_negative_3)), (A_p0, .inr (3, [.int p0_variables, .int p0_breakers, .int p0_clauses, .ref A_p0_positive, .ref A_p0_negative, .int p0_learned, .int p0_rounds])), (A_p0_negative, .inl (cy 0, 20, .inl p0_negative))]) (wsN := (w_X3_copyFrom cy A_t A_t_positive A_t_negative A_p0 A_p0_positive A_p0_negative p0_variables p0_breakers p0_clauses t_learned t_rounds t_positive_2 t_negative_3 p0_variables p0_breakers p0_clauses p0_learned p0_rounds p0_positive p0_negative)) ⟨hx, hb, hml, hown, hts⟩ hE hP hD hS hA hAs [4] [0, 1, 2, 3, 5] [0, 1, 2, 3, 5, 4] (c_X4_read l D cy s0 tW N A_p0_positive 20 v2_1 p0_positive _ hF_8) q_181 q_35 q_180 (nq_179 hE.2.1) hd_X4_read.2 ⟨Nat.le_of_ble_eq_true rfl, Nat.le_of_ble_eq_true rfl⟩ rfl rfl rfl rfl rfl rfl rfl hl.1 rfl (Nat.le_of_ble_eq_true rfl) dX3_copyFrom_44 ⟨Nat.zero_le _, Nat.zero_le _⟩ (fun H locs hP hD hS => ?_)
        refine W.eq (g2 := F0 m 47 ls [.int r_7, .int v2_1, .ref A_t_positive]) rfl ?_
        obtain ⟨t_positive_9, hF_10, hF⟩ := ob1_some hF
        refine kcSN (As := [.ref A_t_positive, .int v2_1, .int r_7]) (rest := []) (wr := [(A_t, .inr (3, [.int p0_variables, .int p0_breakers, .int p0_clauses, .ref A_t_positive, .ref A_t_negative, .int t_learned, .int t_rounds])), (A_t_negative, .inl (cy 0, 20, .inl t_negative_3)), (A_p0, .inr (3, [.int p0_variables, .int p0_breakers, .int p0_clauses, .ref A_p0_positive, .ref A_p0_negative, .int p0_learned, .int p0_rounds])), (A_p0_positive, .inl (cy 0, 20, .inl p0_positive)), (A_p0_negative, .inl (cy 0, 20, .inl p0_negative))]) (wsN := (w_X3_copyFrom cy A_t A_t_positive A_t_negative A_p0 A_p0_positive A_p0_negative p0_variables p0_breakers p0_clauses t_learned t_rounds t_positive_9 t_negative_3 p0_variables p0_breakers p0_clauses p0_learned p0_rounds p0_positive p0_negative)) ⟨hx, hb, hml, hown, hts⟩ hE hP hD hS hA hAs [1] [0, 2, 3, 4, 5] [0, 5, 1, 2, 3, 4] (c_X4_write l D cy s0 tW N A_t_positive 20 v2_1 r_7 t_positive_2 _ hF_10) q_184 q_35 q_183 (nq_182 hE.2.1) hd_X4_write.2 ⟨Nat.le_of_ble_eq_true rfl, Nat.le_of_ble_eq_true rfl⟩ rfl rfl rfl rfl rfl rfl rfl hl.1 rfl (Nat.le_of_ble_eq_true rfl) dX3_copyFrom_47 ⟨Nat.zero_le _, Nat.zero_le _⟩ (fun H locs hP hD hS => ?_)
        refine W.eq (g2 := F0 m 50 ls []) rfl ?_
        refine lv_aload_n hx hb dX3_copyFrom_50 rfl (lv_at hl 0 rfl) ?_
        refine va_get (D := D) (ci := 3) (v := .ref A_t_negative) (C := RX3) (T := TX3) (N := 7) hx hb hts inX3 hown hK hP 0 rfl rfl 4 (by decide) (hts _ q_69) (fun _ h9 => h9) rfl dX3_copyFrom_51 ?_
        refine lv_iload_n hx hb dX3_copyFrom_54 rfl (lv_at hl 2 rfl) ?_
        refine lv_aload_n hx hb dX3_copyFrom_55 rfl (lv_at hl 1 rfl) ?_
        refine va_get (D := D) (ci := 3) (v := .ref A_p0_negative) (C := RX3) (T := TX3) (N := 7) hx hb hts inX3 hown hK hP 3 rfl rfl 4 (by decide) (hts _ q_69) (fun _ h9 => h9) rfl dX3_copyFrom_56 ?_
        refine lv_iload_n hx hb dX3_copyFrom_59 rfl (lv_at hl 2 rfl) ?_
        obtain ⟨r_11, hF_12, hF⟩ := ob1_some hF
        refine kcSN (As := [.ref A_p0_negative, .int v2_1]) (rest := [.int v2_1, .ref A_t_negative]) (wr := [(A_t, .inr (3, [.int p0_variables, .int p0_breakers, .int p0_clauses, .ref A_t_positive, .ref A_t_negative, .int t_learned, .int t_rounds])), (A_t_positive, .inl (cy 0, 20, .inl t_positive_9)), (A_t_negative, .inl (cy 0, 20, .inl t_negative_3)), (A_p0, .inr (3, [.int p0_variables, .int p0_breakers, .int p0_clauses, .ref A_p0_positive, .ref A_p0_negative, .int p0_learned, .int p0_rounds])), (A_p0_positive, .inl (cy 0, 20, .inl p0_positive))]) (wsN := (w_X3_copyFrom cy A_t A_t_positive A_t_negative A_p0 A_p0_positive A_p0_negative p0_variables p0_breakers p0_clauses t_learned t_rounds t_positive_9 t_negative_3 p0_variables p0_breakers p0_clauses p0_learned p0_rounds p0_positive p0_negative)) ⟨hx, hb, hml, hown, hts⟩ hE hP hD hS hA hAs [5] [0, 1, 2, 3, 4] [0, 1, 2, 3, 4, 5] (c_X4_read l D cy s0 tW N A_p0_negative 20 v2_1 p0_negative _ hF_12) q_181 q_35 q_180 (nq_179 hE.2.1) hd_X4_read.2 ⟨Nat.le_of_ble_eq_true rfl, Nat.le_of_ble_eq_true rfl⟩ rfl rfl rfl rfl rfl rfl rfl hl.1 rfl (Nat.le_of_ble_eq_true rfl) dX3_copyFrom_60 ⟨Nat.zero_le _, Nat.zero_le _⟩ (fun H locs hP hD hS => ?_)
        refine W.eq (g2 := F0 m 63 ls [.int r_11, .int v2_1, .ref A_t_negative]) rfl ?_
        obtain ⟨t_negative_13, hF_14, hF⟩ := ob1_some hF
        refine kcSN (As := [.ref A_t_negative, .int v2_1, .int r_11]) (rest := []) (wr := [(A_t, .inr (3, [.int p0_variables, .int p0_breakers, .int p0_clauses, .ref A_t_positive, .ref A_t_negative, .int t_learned, .int t_rounds])), (A_t_positive, .inl (cy 0, 20, .inl t_positive_9)), (A_p0, .inr (3, [.int p0_variables, .int p0_breakers, .int p0_clauses, .ref A_p0_positive, .ref A_p0_negative, .int p0_learned, .int p0_rounds])), (A_p0_positive, .inl (cy 0, 20, .inl p0_positive)), (A_p0_negative, .inl (cy 0, 20, .inl p0_negative))]) (wsN := (w_X3_copyFrom cy A_t A_t_positive A_t_negative A_p0 A_p0_positive A_p0_negative p0_variables p0_breakers p0_clauses t_learned t_rounds t_positive_9 t_negative_13 p0_variables p0_breakers p0_clauses p0_learned p0_rounds p0_positive p0_negative)) ⟨hx, hb, hml, hown, hts⟩ hE hP hD hS hA hAs [2] [0, 1, 3, 4, 5] [0, 1, 5, 2, 3, 4] (c_X4_write l D cy s0 tW N A_t_negative 20 v2_1 r_11 t_negative_3 _ hF_14) q_184 q_35 q_183 (nq_182 hE.2.1) hd_X4_write.2 ⟨Nat.le_of_ble_eq_true rfl, Nat.le_of_ble_eq_true rfl⟩ rfl rfl rfl rfl rfl rfl rfl hl.1 rfl (Nat.le_of_ble_eq_true rfl) dX3_copyFrom_63 ⟨Nat.zero_le _, Nat.zero_le _⟩ (fun H locs hP hD hS => ?_)
        refine W.eq (g2 := F0 m 66 ls []) rfl ?_
        refine lv_iinc (v := (v2_1 + 1)) (lv' := [(2, .int (v2_1 + 1)), (0, .ref A_t), (1, .ref A_p0)]) hx hb dX3_copyFrom_66 hl (k := 2) rfl (by first | rfl | decide) (by decide) rfl (fun ls hl => ?_)
        refine lv_goto (tgt := 26) hx hb dX3_copyFrom_69 (by decide) ?_
        exact ih (v2_1 + 1) t_positive_9 t_negative_13 H locs ls hF hP hD hS (lv_sub hl [1, 2, 0] rfl)
  refine hloop_26 _ (fun t_positive_4 t_negative_5 H locs ls hF hP hD hS hl => ?_) N 0 t_positive t_negative _ _ ls hF hP hD hS (lv_sub hl [1, 2, 0] rfl)
  refine lv_aload_n hx hb dX3_copyFrom_72 rfl (lv_at hl 0 rfl) ?_
  refine lv_aload_n hx hb dX3_copyFrom_73 rfl (lv_at hl 1 rfl) ?_
  refine va_get (D := D) (ci := 3) (v := .int p0_learned) (C := RX3) (T := TX3) (N := 7) hx hb hts inX3 hown hK hP 3 rfl rfl 5 (by decide) (hts _ q_70) (fun _ h9 => h9) rfl dX3_copyFrom_74 ?_
  refine ka_put (ci := 3) (v := .int p0_learned) (ty := .int) (C := RX3) (T := TX3) (N := 7) (wsN := (w_X3_copyFrom cy A_t A_t_positive A_t_negative A_p0 A_p0_positive A_p0_negative p0_variables p0_breakers p0_clauses p0_learned t_rounds t_positive_4 t_negative_5 p0_variables p0_breakers p0_clauses p0_learned p0_rounds p0_positive p0_negative)) hx hb hts inX3 tyX3 tyX3_ok nmX3 hown hK hP hD hS 0 rfl rfl 5 (by decide) (hts _ q_70) (fun _ h9 => h9) rfl (by decide +kernel) rfl rfl (Nat.le_of_ble_eq_true rfl) rfl dX3_copyFrom_77 (fun H locs hP hD hS => ?_)
  refine lv_aload_n hx hb dX3_copyFrom_80 rfl (lv_at hl 0 rfl) ?_
  refine lv_aload_n hx hb dX3_copyFrom_81 rfl (lv_at hl 1 rfl) ?_
  refine va_get (D := D) (ci := 3) (v := .int p0_rounds) (C := RX3) (T := TX3) (N := 7) hx hb hts inX3 hown hK hP 3 rfl rfl 6 (by decide) (hts _ q_72) (fun _ h9 => h9) rfl dX3_copyFrom_82 ?_
  refine ka_put (ci := 3) (v := .int p0_rounds) (ty := .int) (C := RX3) (T := TX3) (N := 7) (wsN := (w_X3_copyFrom cy A_t A_t_positive A_t_negative A_p0 A_p0_positive A_p0_negative p0_variables p0_breakers p0_clauses p0_learned p0_rounds t_positive_4 t_negative_5 p0_variables p0_breakers p0_clauses p0_learned p0_rounds p0_positive p0_negative)) hx hb hts inX3 tyX3 tyX3_ok nmX3 hown hK hP hD hS 0 rfl rfl 6 (by decide) (hts _ q_72) (fun _ h9 => h9) rfl (by decide +kernel) rfl rfl (Nat.le_of_ble_eq_true rfl) rfl dX3_copyFrom_85 (fun H locs hP hD hS => ?_)
  cases hF
  exact kret_v hx hb hr hlocks hP hD hS dX3_copyFrom_88
