def F_X0_wordOf (N : Nat) (p0 : Int32) (p1 : Int32) : Option (Int32) :=
  some ((((1 : Int32) <<< (p0 &&& 31)) + p1) * 4)
set_option maxHeartbeats 4000000 in
set_option maxRecDepth 100000 in
theorem c_X0_wordOf (l : Launch) (D : va_G) (cy : Nat → ClassId) (s0 tW N : Nat) (p0 : Int32) (p1 : Int32) (sz : Nat) {r9 : Int32} (hF : F_X0_wordOf N p0 p1 = some r9) : KM l D cy s0 tW yX0_wordOf cX0_wordOf 2 (some .int) 0 0 [.int p0, .int p1] sz [] (some (.int r9)) [] := by
  refine KM.intro rfl (Nat.le_of_ble_eq_true rfl) ?_
  intro p e s m args below meth c A ls hx hb hr hml hown hts hlocks hE hP hD hS hA hAs hl
  have hK := hE.1
  have hl : lv_has ls 2 [(0, .int p0), (1, .int p1)] := hl
  unfold F_X0_wordOf at hF
  refine lv_iconst (v := 1) hx hb dX0_wordOf_0 (by decide) ?_
  refine lv_iload_n hx hb dX0_wordOf_1 rfl (lv_at hl 0 rfl) ?_
  refine lv_ishl hx hb dX0_wordOf_2 ?_
  refine lv_iload_n hx hb dX0_wordOf_3 rfl (lv_at hl 1 rfl) ?_
  refine lv_iadd hx hb dX0_wordOf_4 ?_
  refine lv_iconst (v := 4) hx hb dX0_wordOf_5 (by decide) ?_
  refine lv_imul hx hb dX0_wordOf_6 ?_
  cases hF
  exact kret_i hx hb hr hlocks hP hD hS dX0_wordOf_7

theorem q_38 : Cond.initialized RX0 ∈ wAll := wAll_mem 38 (by decide +kernel) (by decide +kernel)
theorem q_116 : Cond.fieldLink RX0 11 "ForAllGame$BeatenSets" "bits" "[J" ∈ wAll := wAll_mem 116 (by decide +kernel) (by decide +kernel)
theorem q_201 : Cond.methodLink RX0 19 yX0_wordOf ∈ wAll := wAll_mem 201 (by decide +kernel) (by decide +kernel)
theorem q_202 : Cond.static yX0_wordOf ∈ wAll := wAll_mem 202 (by decide +kernel) (by decide +kernel)
theorem q_203 : Cond.code yX0_wordOf cX0_wordOf 2 (some .int) ∈ wAll := wAll_mem 203 (by decide +kernel) (by decide +kernel)
theorem q_226 : Cond.static yX4_readLong ∈ wAll := wAll_mem 226 (by decide +kernel) (by decide +kernel)
theorem q_227 : Cond.code yX4_readLong cX4_readLong 2 (some .long) ∈ wAll := wAll_mem 227 (by decide +kernel) (by decide +kernel)
theorem nq_225 {s : State} (h : NW s) : va_Nw (Cond.methodLinkNest RX0 23 yX4_readLong "ForAllGame") s := h.at 225 (by decide +kernel) rfl
theorem hd_X0_wordOf : yX0_wordOf.cls = RX0 ∧ yX0_wordOf.cls ≠ "java/lang/invoke/MethodHandle" ∧ yX0_wordOf.cls ≠ "java/lang/invoke/VarHandle" ∧ (parseMethodDescriptor yX0_wordOf.desc).map (fun d => d.parameters.length) = some 2 := by decide +kernel
theorem hd_X4_readLong : yX4_readLong.cls = RX4 ∧ yX4_readLong.cls ≠ "java/lang/invoke/MethodHandle" ∧ yX4_readLong.cls ≠ "java/lang/invoke/VarHandle" ∧ (parseMethodDescriptor yX4_readLong.desc).map (fun d => d.parameters.length) = some 2 := by decide +kernel
abbrev w_X0_has (cy : Nat → ClassId) (A_t : Nat) (A_t_bits : Nat) (t_stale : Bool) (t_bits : Nat → Int64) : va_W := [(A_t, .inr (0, [.ref A_t_bits, .int (bI t_stale)])), (A_t_bits, .inl (cy 1, 4096, .inr (.inl t_bits)))]
def F_X0_has (N : Nat) (p0 : Int32) (p1 : Int32) (p2 : Int32) (t_bits : Nat → Int64) : Option (Bool) :=
  ob1 (F_X0_wordOf N p0 p1) (fun r_1 => ob1 (F_X4_readLong N 4096 (r_1 + (p2 >>> (6 &&& 31))) t_bits) (fun r_3 => (if (lg_cmp ((r_3 >>> ((p2 &&& 63).toInt64 &&& 63)) &&& 1) 1) = (0 : Int32) then some true else some false)))
set_option maxHeartbeats 4000000 in
set_option maxRecDepth 100000 in
theorem c_X0_has (l : Launch) (D : va_G) (cy : Nat → ClassId) (s0 tW N : Nat) (A_t : Nat) (A_t_bits : Nat) (p0 : Int32) (p1 : Int32) (p2 : Int32) (t_stale : Bool) (t_bits : Nat → Int64) (sz : Nat) {r9 : Bool} (hF : F_X0_has N p0 p1 p2 t_bits = some r9) : KM l D cy s0 tW yX0_has cX0_has 6 (some .boolean) 1 21 [.ref A_t, .int p0, .int p1, .int p2] sz (w_X0_has cy A_t A_t_bits t_stale t_bits) (some (.int (bI r9))) (w_X0_has cy A_t A_t_bits t_stale t_bits) := by
  refine KM.intro rfl (Nat.le_of_ble_eq_true rfl) ?_
  intro p e s m args below meth c A ls hx hb hr hml hown hts hlocks hE hP hD hS hA hAs hl
  have hK := hE.1
  have hl : lv_has ls 6 [(0, .ref A_t), (1, .int p0), (2, .int p1), (3, .int p2)] := hl
  unfold F_X0_has at hF
  refine lv_aload_n hx hb dX0_has_0 rfl (lv_at hl 0 rfl) ?_
  refine va_get (D := D) (ci := 0) (v := .ref A_t_bits) (C := RX0) (T := TX0) (N := 2) hx hb hts inX0 hown hK hP 0 rfl rfl 0 (by decide) (hts _ q_116) (fun _ h9 => h9) rfl dX0_has_1 ?_
  refine lv_iload_n hx hb dX0_has_4 rfl (lv_at hl 1 rfl) ?_
  refine lv_iload_n hx hb dX0_has_5 rfl (lv_at hl 2 rfl) ?_
  obtain ⟨r_1, hF_2, hF⟩ := ob1_some hF
  refine kcS (As := [.int p0, .int p1]) (rest := [.ref A_t_bits]) (wr := [(A_t, .inr (0, [.ref A_t_bits, .int (bI t_stale)])), (A_t_bits, .inl (cy 1, 4096, .inr (.inl t_bits)))]) (wsN := (w_X0_has cy A_t A_t_bits t_stale t_bits)) ⟨hx, hb, hml, hown, hts⟩ hE hP hD hS hA hAs [] [0, 1] [0, 1] (c_X0_wordOf l D cy s0 tW N p0 p1 _ hF_2) (gS q_201 q_202 q_38 q_203) hd_X0_wordOf.2 ⟨Nat.le_of_ble_eq_true rfl, Nat.le_of_ble_eq_true rfl⟩ rfl rfl rfl rfl rfl rfl rfl hl.1 rfl (Nat.le_of_ble_eq_true rfl) dX0_has_6 ⟨Nat.zero_le _, Nat.zero_le _⟩ (fun H locs hP hD hS => ?_)
  refine W.eq (g2 := F0 m 9 ls [.int r_1, .ref A_t_bits]) rfl ?_
  refine lv_iload_n hx hb dX0_has_9 rfl (lv_at hl 3 rfl) ?_
  refine lv_bipush (v := 6) hx hb dX0_has_10 (by decide) ?_
  refine lv_ishr hx hb dX0_has_12 ?_
  refine lv_iadd hx hb dX0_has_13 ?_
  obtain ⟨r_3, hF_4, hF⟩ := ob1_some hF
  refine kcSN (As := [.ref A_t_bits, .int (r_1 + (p2 >>> (6 &&& 31)))]) (rest := []) (wr := [(A_t, .inr (0, [.ref A_t_bits, .int (bI t_stale)]))]) (wsN := (w_X0_has cy A_t A_t_bits t_stale t_bits)) ⟨hx, hb, hml, hown, hts⟩ hE hP hD hS hA hAs [1] [0] [0, 1] (c_X4_readLong l D cy s0 tW N A_t_bits 4096 (r_1 + (p2 >>> (6 &&& 31))) t_bits _ hF_4) q_227 q_35 q_226 (nq_225 hE.2.1) hd_X4_readLong.2 ⟨Nat.le_of_ble_eq_true rfl, Nat.le_of_ble_eq_true rfl⟩ rfl rfl rfl rfl rfl rfl rfl hl.1 rfl (Nat.le_of_ble_eq_true rfl) dX0_has_14 ⟨Nat.zero_le _, Nat.zero_le _⟩ (fun H locs hP hD hS => ?_)
  refine W.eq (g2 := F0 m 17 ls [.long r_3]) rfl ?_
  refine lv_lstore (lv' := [(4, .long r_3), (0, .ref A_t), (1, .int p0), (2, .int p1), (3, .int p2)]) hx hb dX0_has_17 hl (by decide) rfl (fun ls hl => ?_)
  refine lv_lload hx hb dX0_has_19 (lv_at hl 0 rfl) ?_
  refine lv_iload_n hx hb dX0_has_21 rfl (lv_at hl 4 rfl) ?_
  refine lv_bipush (v := 63) hx hb dX0_has_22 (by decide) ?_
  refine lv_iand hx hb dX0_has_24 ?_
  refine lv_lshr (v := (r_3 >>> ((p2 &&& 63).toInt64 &&& 63))) hx hb dX0_has_25 rfl ?_
  refine lv_lconst (v := 1) hx hb dX0_has_26 (by decide) ?_
  refine lv_land hx hb dX0_has_27 ?_
  refine lv_lconst (v := 1) hx hb dX0_has_28 (by decide) ?_
  refine W.lcmp hx hb dX0_has_29 ?_
  refine lv_if_ne (tgt := 37) hx hb dX0_has_30 (by decide) (fun c_5 => ?_) (fun c_5 => ?_)
  · replace hF := ite_f c_5 hF
    refine lv_iconst (v := 0) hx hb dX0_has_37 (by decide) ?_
    cases hF
    exact kret_z hx hb hr hlocks hP hD hS dX0_has_38
  · replace hF := ite_t c_5 hF
    refine lv_iconst (v := 1) hx hb dX0_has_33 (by decide) ?_
    refine lv_goto (tgt := 38) hx hb dX0_has_34 (by decide) ?_
    cases hF
    exact kret_z hx hb hr hlocks hP hD hS dX0_has_38

theorem q_219 : Cond.constantLong RX0 52 (-1) ∈ wAll := wAll_mem 219 (by decide +kernel) (by decide +kernel)
theorem q_223 : Cond.fieldLink RX0 62 "ForAllGame$BeatenSets" "WITHOUT" "[J" ∈ wAll := wAll_mem 223 (by decide +kernel) (by decide +kernel)
theorem nq_228 {s : State} (h : NW s) : va_Nw (Cond.methodLinkNest RX0 65 yX4_bit "ForAllGame") s := h.at 228 (by decide +kernel) rfl
def F_X0_setsWithout (N : Nat) (p0 : Int32) (p1 : Int32) : Option (Int64) :=
  (if (6 : Int32) ≤ p0 then ob1 (F_X4_bit N p1 (p0 - 6)) (fun r_2 => (if r_2 = (0 : Int32) then some (-1) else some 0)) else ob1 (F_X4_readLong_W N p0) (fun r_5 => some r_5))
set_option maxHeartbeats 4000000 in
set_option maxRecDepth 100000 in
theorem c_X0_setsWithout (l : Launch) (D : va_G) (cy : Nat → ClassId) (s0 tW N : Nat) (p0 : Int32) (p1 : Int32) (sz : Nat) {r9 : Int64} (hF : F_X0_setsWithout N p0 p1 = some r9) : KM l D cy s0 tW yX0_setsWithout cX0_setsWithout 2 (some .long) 1 21 [.int p0, .int p1] sz [] (some (.long r9)) [] := by
  refine KM.intro rfl (Nat.le_of_ble_eq_true rfl) ?_
  intro p e s m args below meth c A ls hx hb hr hml hown hts hlocks hE hP hD hS hA hAs hl
  have hK := hE.1
  have hl : lv_has ls 2 [(0, .int p0), (1, .int p1)] := hl
  unfold F_X0_setsWithout at hF
  refine lv_iload_n hx hb dX0_setsWithout_0 rfl (lv_at hl 0 rfl) ?_
  refine va_gets (C := RX0) (n := "WITHOUT") (d := "[J") (v := .ref tW) hx hb (va_Z.narrow hE.2.2.1 hAs) hS hown (hts _ q_223) (fun _ h9 => h9) dX0_setsWithout_1 ?_
  refine va_tlen (v := 6) hx hb (va_T.narrow hE.2.2.2 hAs) hS rfl dX0_setsWithout_4 ?_
  refine lv_icmp_ge (tgt := 16) hx hb dX0_setsWithout_5 (by decide) (fun c_1 => ?_) (fun c_1 => ?_)
  · replace hF := ite_t c_1 hF
    refine lv_iload_n hx hb dX0_setsWithout_16 rfl (lv_at hl 1 rfl) ?_
    refine lv_iload_n hx hb dX0_setsWithout_17 rfl (lv_at hl 0 rfl) ?_
    refine va_gets (C := RX0) (n := "WITHOUT") (d := "[J") (v := .ref tW) hx hb (va_Z.narrow hE.2.2.1 hAs) hS hown (hts _ q_223) (fun _ h9 => h9) dX0_setsWithout_18 ?_
    refine va_tlen (v := 6) hx hb (va_T.narrow hE.2.2.2 hAs) hS rfl dX0_setsWithout_21 ?_
    refine lv_isub hx hb dX0_setsWithout_22 ?_
    obtain ⟨r_2, hF_3, hF⟩ := ob1_some hF
    refine kcSN (As := [.int p1, .int (p0 - 6)]) (rest := []) (wr := []) (wsN := []) ⟨hx, hb, hml, hown, hts⟩ hE hP hD hS hA hAs [] [] [] (c_X4_bit l D cy s0 tW N p1 (p0 - 6) _ hF_3) q_218 q_35 q_217 (nq_228 hE.2.1) hd_X4_bit.2 ⟨Nat.le_of_ble_eq_true rfl, Nat.le_of_ble_eq_true rfl⟩ rfl rfl rfl rfl rfl rfl rfl hl.1 rfl (Nat.le_of_ble_eq_true rfl) dX0_setsWithout_23 ⟨Nat.zero_le _, Nat.zero_le _⟩ (fun H locs hP hD hS => ?_)
    refine W.eq (g2 := F0 m 26 ls [.int r_2]) rfl ?_
    refine lv_if_ne (tgt := 35) hx hb dX0_setsWithout_26 (by decide) (fun c_4 => ?_) (fun c_4 => ?_)
    · replace hF := ite_f c_4 hF
      refine lv_lconst (v := 0) hx hb dX0_setsWithout_35 (by decide) ?_
      cases hF
      exact kret_l hx hb hr hlocks hP hD hS dX0_setsWithout_36
    · replace hF := ite_t c_4 hF
      refine lv_ldc2 (v := (-1)) hx hb hown (hts _ q_219) dX0_setsWithout_29 ?_
      refine lv_goto (tgt := 36) hx hb dX0_setsWithout_32 (by decide) ?_
      cases hF
      exact kret_l hx hb hr hlocks hP hD hS dX0_setsWithout_36
  · replace hF := ite_f c_1 hF
    refine va_gets (C := RX0) (n := "WITHOUT") (d := "[J") (v := .ref tW) hx hb (va_Z.narrow hE.2.2.1 hAs) hS hown (hts _ q_223) (fun _ h9 => h9) dX0_setsWithout_8 ?_
    refine lv_iload_n hx hb dX0_setsWithout_11 rfl (lv_at hl 0 rfl) ?_
    obtain ⟨r_5, hF_6, hF⟩ := ob1_some hF
    refine kcSN (As := [.ref tW, .int p0]) (rest := []) (wr := []) (wsN := []) ⟨hx, hb, hml, hown, hts⟩ hE hP hD hS hA hAs [] [] [] (c_X4_readLong_W l D cy s0 tW N p0 _ hF_6) q_227 q_35 q_226 (nq_225 hE.2.1) hd_X4_readLong.2 ⟨Nat.le_of_ble_eq_true rfl, Nat.le_of_ble_eq_true rfl⟩ rfl rfl rfl rfl rfl rfl rfl hl.1 rfl (Nat.le_of_ble_eq_true rfl) dX0_setsWithout_12 ⟨Nat.zero_le _, Nat.zero_le _⟩ (fun H locs hP hD hS => ?_)
    refine W.eq (g2 := F0 m 15 ls [.long r_5]) rfl ?_
    cases hF
    exact kret_l hx hb hr hlocks hP hD hS dX0_setsWithout_15

theorem q_6 : Cond.selects RX3 yX3_holds yX3_holds ∈ wAll := wAll_mem 6 (by decide +kernel) (by decide +kernel)
theorem q_7 : Cond.selects RX3 yX3_playIn yX3_playIn ∈ wAll := wAll_mem 7 (by decide +kernel) (by decide +kernel)
theorem q_206 : Cond.instanceMethod yX3_holds ∈ wAll := wAll_mem 206 (by decide +kernel) (by decide +kernel)
theorem q_207 : Cond.code yX3_holds cX3_holds 4 (some .boolean) ∈ wAll := wAll_mem 207 (by decide +kernel) (by decide +kernel)
theorem q_210 : Cond.instanceMethod yX3_playIn ∈ wAll := wAll_mem 210 (by decide +kernel) (by decide +kernel)
theorem q_211 : Cond.code yX3_playIn cX3_playIn 5 (some .int) ∈ wAll := wAll_mem 211 (by decide +kernel) (by decide +kernel)
theorem q_220 : Cond.methodLink RX0 54 yX0_setsWithout ∈ wAll := wAll_mem 220 (by decide +kernel) (by decide +kernel)
theorem q_221 : Cond.static yX0_setsWithout ∈ wAll := wAll_mem 221 (by decide +kernel) (by decide +kernel)
theorem q_222 : Cond.code yX0_setsWithout cX0_setsWithout 2 (some .long) ∈ wAll := wAll_mem 222 (by decide +kernel) (by decide +kernel)
theorem q_230 : Cond.static yX4_writeLong ∈ wAll := wAll_mem 230 (by decide +kernel) (by decide +kernel)
theorem q_231 : Cond.code yX4_writeLong cX4_writeLong 4 none ∈ wAll := wAll_mem 231 (by decide +kernel) (by decide +kernel)
theorem nq_63 {s : State} (h : NW s) : va_Nw (Cond.fieldLinkNest RX0 27 "ForAllGame$State" "variables" "I" "ForAllGame") s := h.at 63 (by decide +kernel) rfl
theorem nq_204 {s : State} (h : NW s) : va_Nw (Cond.methodLinkNest RX0 45 yX3_holds "ForAllGame") s := h.at 204 (by decide +kernel) rfl
theorem nq_208 {s : State} (h : NW s) : va_Nw (Cond.methodLinkNest RX0 49 yX3_playIn "ForAllGame") s := h.at 208 (by decide +kernel) rfl
theorem nq_229 {s : State} (h : NW s) : va_Nw (Cond.methodLinkNest RX0 58 yX4_writeLong "ForAllGame") s := h.at 229 (by decide +kernel) rfl
theorem hd_X0_setsWithout : yX0_setsWithout.cls = RX0 ∧ yX0_setsWithout.cls ≠ "java/lang/invoke/MethodHandle" ∧ yX0_setsWithout.cls ≠ "java/lang/invoke/VarHandle" ∧ (parseMethodDescriptor yX0_setsWithout.desc).map (fun d => d.parameters.length) = some 2 := by decide +kernel
theorem hd_X3_holds : yX3_holds.cls = RX3 ∧ yX3_holds.cls ≠ "java/lang/invoke/MethodHandle" ∧ yX3_holds.cls ≠ "java/lang/invoke/VarHandle" ∧ (parseMethodDescriptor yX3_holds.desc).map (fun d => d.parameters.length) = some 1 := by decide +kernel
theorem hd_X3_playIn : yX3_playIn.cls = RX3 ∧ yX3_playIn.cls ≠ "java/lang/invoke/MethodHandle" ∧ yX3_playIn.cls ≠ "java/lang/invoke/VarHandle" ∧ (parseMethodDescriptor yX3_playIn.desc).map (fun d => d.parameters.length) = some 1 := by decide +kernel
theorem hd_X4_writeLong : yX4_writeLong.cls = RX4 ∧ yX4_writeLong.cls ≠ "java/lang/invoke/MethodHandle" ∧ yX4_writeLong.cls ≠ "java/lang/invoke/VarHandle" ∧ (parseMethodDescriptor yX4_writeLong.desc).map (fun d => d.parameters.length) = some 3 := by decide +kernel
abbrev w_X0_setEnd (cy : Nat → ClassId) (A_t : Nat) (A_t_bits : Nat) (A_p0 : Nat) (A_p0_positive : Nat) (A_p0_negative : Nat) (t_stale : Bool) (t_bits : Nat → Int64) (p0_variables : Int32) (p0_breakers : Int32) (p0_clauses : Int32) (p0_learned : Int32) (p0_rounds : Int32) (p0_positive : Nat → Int32) (p0_negative : Nat → Int32) : va_W := [(A_t, .inr (0, [.ref A_t_bits, .int (bI t_stale)])), (A_t_bits, .inl (cy 1, 4096, .inr (.inl t_bits))), (A_p0, .inr (3, [.int p0_variables, .int p0_breakers, .int p0_clauses, .ref A_p0_positive, .ref A_p0_negative, .int p0_learned, .int p0_rounds])), (A_p0_positive, .inl (cy 0, 20, .inl p0_positive)), (A_p0_negative, .inl (cy 0, 20, .inl p0_negative))]
def L_X0_setEnd_26 (N : Nat) (r_1 : Int32) (r_3 : Bool) (r_5 : Int32) (kont : (Nat → Int64) → Option ((Nat → Int64))) : Nat → Int32 → (Nat → Int64) → Option ((Nat → Int64))
  | 0, _, _ => none
  | n + 1, v6_7, t_bits_8 => (if (4 : Int32) ≤ v6_7 then kont t_bits_8 else (if r_3 = true then ob1 (F_X4_writeLong N 4096 (r_1 + v6_7) (-1) t_bits_8) (fun t_bits_16 => L_X0_setEnd_26 N r_1 r_3 r_5 kont n (v6_7 + 1) t_bits_16) else ob1 (F_X0_setsWithout N r_5 v6_7) (fun r_12 => ob1 (F_X4_writeLong N 4096 (r_1 + v6_7) r_12 t_bits_8) (fun t_bits_14 => L_X0_setEnd_26 N r_1 r_3 r_5 kont n (v6_7 + 1) t_bits_14))))
def F_X0_setEnd (N : Nat) (p1 : Int32) (t_bits : Nat → Int64) (p0_variables : Int32) (p0_breakers : Int32) (p0_clauses : Int32) (p0_positive : Nat → Int32) (p0_negative : Nat → Int32) : Option ((Nat → Int64)) :=
  ob1 (F_X0_wordOf N p0_variables p1) (fun r_1 => ob1 (F_X3_holds N p1 p0_clauses p0_positive p0_negative) (fun r_3 => ob1 (F_X3_playIn N p1 p0_variables p0_breakers) (fun r_5 => (L_X0_setEnd_26 N r_1 r_3 r_5 (fun t_bits_9 => some t_bits_9) N 0 t_bits))))
set_option maxHeartbeats 4000000 in
set_option maxRecDepth 100000 in
theorem c_X0_setEnd (l : Launch) (D : va_G) (cy : Nat → ClassId) (s0 tW N : Nat) (A_t : Nat) (A_t_bits : Nat) (A_p0 : Nat) (A_p0_positive : Nat) (A_p0_negative : Nat) (p1 : Int32) (t_stale : Bool) (t_bits : Nat → Int64) (p0_variables : Int32) (p0_breakers : Int32) (p0_clauses : Int32) (p0_learned : Int32) (p0_rounds : Int32) (p0_positive : Nat → Int32) (p0_negative : Nat → Int32) (sz : Nat) {t_bits9 : Nat → Int64} (hF : F_X0_setEnd N p1 t_bits p0_variables p0_breakers p0_clauses p0_positive p0_negative = some t_bits9) : KM l D cy s0 tW yX0_setEnd cX0_setEnd 7 none 2 45 [.ref A_t, .ref A_p0, .int p1] sz (w_X0_setEnd cy A_t A_t_bits A_p0 A_p0_positive A_p0_negative t_stale t_bits p0_variables p0_breakers p0_clauses p0_learned p0_rounds p0_positive p0_negative) none (w_X0_setEnd cy A_t A_t_bits A_p0 A_p0_positive A_p0_negative t_stale t_bits9 p0_variables p0_breakers p0_clauses p0_learned p0_rounds p0_positive p0_negative) := by
  refine KM.intro rfl (Nat.le_of_ble_eq_true rfl) ?_
  intro p e s m args below meth c A ls hx hb hr hml hown hts hlocks hE hP hD hS hA hAs hl
  have hK := hE.1
  have hl : lv_has ls 7 [(0, .ref A_t), (1, .ref A_p0), (2, .int p1)] := hl
  unfold F_X0_setEnd at hF
  refine lv_aload_n hx hb dX0_setEnd_0 rfl (lv_at hl 1 rfl) ?_
  refine va_getN (D := D) (ci := 3) (v := .int p0_variables) (C := RX3) (T := TX3) (N := 7) hx hb hts inX3 hown hK hP 2 rfl rfl 0 (by decide) (va_Nw.use rfl (nq_63 hE.2.1)) (fun _ h9 => h9) rfl dX0_setEnd_1 ?_
  refine lv_iload_n hx hb dX0_setEnd_4 rfl (lv_at hl 2 rfl) ?_
  obtain ⟨r_1, hF_2, hF⟩ := ob1_some hF
  refine kcS (As := [.int p0_variables, .int p1]) (rest := []) (wr := [(A_t, .inr (0, [.ref A_t_bits, .int (bI t_stale)])), (A_t_bits, .inl (cy 1, 4096, .inr (.inl t_bits))), (A_p0, .inr (3, [.int p0_variables, .int p0_breakers, .int p0_clauses, .ref A_p0_positive, .ref A_p0_negative, .int p0_learned, .int p0_rounds])), (A_p0_positive, .inl (cy 0, 20, .inl p0_positive)), (A_p0_negative, .inl (cy 0, 20, .inl p0_negative))]) (wsN := (w_X0_setEnd cy A_t A_t_bits A_p0 A_p0_positive A_p0_negative t_stale t_bits p0_variables p0_breakers p0_clauses p0_learned p0_rounds p0_positive p0_negative)) ⟨hx, hb, hml, hown, hts⟩ hE hP hD hS hA hAs [] [0, 1, 2, 3, 4] [0, 1, 2, 3, 4] (c_X0_wordOf l D cy s0 tW N p0_variables p1 _ hF_2) (gS q_201 q_202 q_38 q_203) hd_X0_wordOf.2 ⟨Nat.le_of_ble_eq_true rfl, Nat.le_of_ble_eq_true rfl⟩ rfl rfl rfl rfl rfl rfl rfl hl.1 rfl (Nat.le_of_ble_eq_true rfl) dX0_setEnd_5 ⟨Nat.zero_le _, Nat.zero_le _⟩ (fun H locs hP hD hS => ?_)
  refine W.eq (g2 := F0 m 8 ls [.int r_1]) rfl ?_
  refine lv_istore_n (lv' := [(3, .int r_1), (0, .ref A_t), (1, .ref A_p0), (2, .int p1)]) hx hb dX0_setEnd_8 rfl hl (by decide) rfl (fun ls hl => ?_)
  refine lv_aload_n hx hb dX0_setEnd_9 rfl (lv_at hl 2 rfl) ?_
  refine lv_iload_n hx hb dX0_setEnd_10 rfl (lv_at hl 3 rfl) ?_
  obtain ⟨r_3, hF_4, hF⟩ := ob1_some hF
  refine kcVN (q := (RX3, TX3, 7)) (ci := 3) (q0 := 2) (As := [.int p1]) (rest := []) (wr := [(A_t, .inr (0, [.ref A_t_bits, .int (bI t_stale)])), (A_t_bits, .inl (cy 1, 4096, .inr (.inl t_bits)))]) (wsN := (w_X0_setEnd cy A_t A_t_bits A_p0 A_p0_positive A_p0_negative t_stale t_bits p0_variables p0_breakers p0_clauses p0_learned p0_rounds p0_positive p0_negative)) ⟨hx, hb, hml, hown, hts⟩ hE hP hD hS hA hAs [2, 3, 4] [0, 1] [0, 1, 2, 3, 4] (c_X3_holds l D cy s0 tW N A_p0 A_p0_positive A_p0_negative p1 p0_variables p0_breakers p0_clauses p0_learned p0_rounds p0_positive p0_negative _ hF_4) q_207 q_36 q_206 q_6 (nq_204 hE.2.1) hd_X3_holds.2 ⟨Nat.le_of_ble_eq_true rfl, Nat.le_of_ble_eq_true rfl⟩ rfl rfl rfl rfl rfl rfl rfl rfl rfl hl.1 rfl (Nat.le_of_ble_eq_true rfl) dX0_setEnd_11 ⟨Nat.zero_le _, Nat.zero_le _⟩ (fun H locs hP hD hS => ?_)
  refine W.eq (g2 := F0 m 14 ls [.int (bI r_3)]) rfl ?_
  refine lv_istore (lv' := [(4, .int (bI r_3)), (3, .int r_1), (0, .ref A_t), (1, .ref A_p0), (2, .int p1)]) hx hb dX0_setEnd_14 hl (by decide) rfl (fun ls hl => ?_)
  refine lv_aload_n hx hb dX0_setEnd_16 rfl (lv_at hl 3 rfl) ?_
  refine lv_iload_n hx hb dX0_setEnd_17 rfl (lv_at hl 4 rfl) ?_
  obtain ⟨r_5, hF_6, hF⟩ := ob1_some hF
  refine kcVN (q := (RX3, TX3, 7)) (ci := 3) (q0 := 2) (As := [.int p1]) (rest := []) (wr := [(A_t, .inr (0, [.ref A_t_bits, .int (bI t_stale)])), (A_t_bits, .inl (cy 1, 4096, .inr (.inl t_bits))), (A_p0_positive, .inl (cy 0, 20, .inl p0_positive)), (A_p0_negative, .inl (cy 0, 20, .inl p0_negative))]) (wsN := (w_X0_setEnd cy A_t A_t_bits A_p0 A_p0_positive A_p0_negative t_stale t_bits p0_variables p0_breakers p0_clauses p0_learned p0_rounds p0_positive p0_negative)) ⟨hx, hb, hml, hown, hts⟩ hE hP hD hS hA hAs [2] [0, 1, 3, 4] [0, 1, 4, 2, 3] (c_X3_playIn l D cy s0 tW N A_p0 A_p0_positive A_p0_negative p1 p0_variables p0_breakers p0_clauses p0_learned p0_rounds _ hF_6) q_211 q_36 q_210 q_7 (nq_208 hE.2.1) hd_X3_playIn.2 ⟨Nat.le_of_ble_eq_true rfl, Nat.le_of_ble_eq_true rfl⟩ rfl rfl rfl rfl rfl rfl rfl rfl rfl hl.1 rfl (Nat.le_of_ble_eq_true rfl) dX0_setEnd_18 ⟨Nat.zero_le _, Nat.zero_le _⟩ (fun H locs hP hD hS => ?_)
  refine W.eq (g2 := F0 m 21 ls [.int r_5]) rfl ?_
  refine lv_istore (lv' := [(5, .int r_5), (4, .int (bI r_3)), (3, .int r_1), (0, .ref A_t), (1, .ref A_p0), (2, .int p1)]) hx hb dX0_setEnd_21 hl (by decide) rfl (fun ls hl => ?_)
  refine lv_iconst (v := 0) hx hb dX0_setEnd_23 (by decide) ?_
  refine lv_istore (lv' := [(6, .int 0), (5, .int r_5), (4, .int (bI r_3)), (3, .int r_1), (0, .ref A_t), (1, .ref A_p0), (2, .int p1)]) hx hb dX0_setEnd_24 hl (by decide) rfl (fun ls hl => ?_)
  have hloop_26 : ∀ (kont : (Nat → Int64) → Option ((Nat → Int64))), (∀ (t_bits_9 : Nat → Int64) (H : Heap) (locs : List Loc) (ls : Array Slot), kont t_bits_9 = some t_bits9 → va_P D vwCl (w_X0_setEnd cy A_t A_t_bits A_p0 A_p0_positive A_p0_negative t_stale t_bits_9 p0_variables p0_breakers p0_clauses p0_learned p0_rounds p0_positive p0_negative) H → va_D A (w_X0_setEnd cy A_t A_t_bits A_p0 A_p0_positive A_p0_negative t_stale t_bits_9 p0_variables p0_breakers p0_clauses p0_learned p0_rounds p0_positive p0_negative) → va_S A s.heap H locs → lv_has ls 7 [] → W p l e (rmK 2 45) s m args below meth c H locs 0 0 (MQ below (kQ none D A (w_X0_setEnd cy A_t A_t_bits A_p0 A_p0_positive A_p0_negative t_stale t_bits9 p0_variables p0_breakers p0_clauses p0_learned p0_rounds p0_positive p0_negative)) args s 0 0 A) (F0 m 67 ls [])) → ∀ (n : Nat) (v6_7 : Int32) (t_bits_8 : Nat → Int64) (H : Heap) (locs : List Loc) (ls : Array Slot), L_X0_setEnd_26 N r_1 r_3 r_5 kont n v6_7 t_bits_8 = some t_bits9 → va_P D vwCl (w_X0_setEnd cy A_t A_t_bits A_p0 A_p0_positive A_p0_negative t_stale t_bits_8 p0_variables p0_breakers p0_clauses p0_learned p0_rounds p0_positive p0_negative) H → va_D A (w_X0_setEnd cy A_t A_t_bits A_p0 A_p0_positive A_p0_negative t_stale t_bits_8 p0_variables p0_breakers p0_clauses p0_learned p0_rounds p0_positive p0_negative) → va_S A s.heap H locs → lv_has ls 7 [(0, .ref A_t), (3, .int r_1), (4, .int (bI r_3)), (5, .int r_5), (6, .int v6_7)] → W p l e (rmK 2 45) s m args below meth c H locs 0 0 (MQ below (kQ none D A (w_X0_setEnd cy A_t A_t_bits A_p0 A_p0_positive A_p0_negative t_stale t_bits9 p0_variables p0_breakers p0_clauses p0_learned p0_rounds p0_positive p0_negative)) args s 0 0 A) (F0 m 26 ls []) := by
    intro kont hexit_26 n
    induction n with
    | zero =>
      intro v6_7 t_bits_8 H locs ls hF
      rw [L_X0_setEnd_26] at hF
      cases hF
    | succ n ih =>
      intro v6_7 t_bits_8 H locs ls hF hP hD hS hl
      rw [L_X0_setEnd_26] at hF
      refine lv_iload hx hb dX0_setEnd_26 (lv_at hl 4 rfl) ?_
      refine lv_iconst (v := 4) hx hb dX0_setEnd_28 (by decide) ?_
      refine lv_icmp_ge (tgt := 67) hx hb dX0_setEnd_29 (by decide) (fun c_10 => ?_) (fun c_10 => ?_)
      · replace hF := ite_t c_10 hF
        exact hexit_26 t_bits_8 H locs ls hF hP hD hS (lv_sub hl [] rfl)
      · replace hF := ite_f c_10 hF
        refine lv_aload_n hx hb dX0_setEnd_32 rfl (lv_at hl 0 rfl) ?_
        refine va_get (D := D) (ci := 0) (v := .ref A_t_bits) (C := RX0) (T := TX0) (N := 2) hx hb hts inX0 hown hK hP 0 rfl rfl 0 (by decide) (hts _ q_116) (fun _ h9 => h9) rfl dX0_setEnd_33 ?_
        refine lv_iload_n hx hb dX0_setEnd_36 rfl (lv_at hl 1 rfl) ?_
        refine lv_iload hx hb dX0_setEnd_37 (lv_at hl 4 rfl) ?_
        refine lv_iadd hx hb dX0_setEnd_39 ?_
        refine lv_iload hx hb dX0_setEnd_40 (lv_at hl 2 rfl) ?_
        refine lv_if_eq (tgt := 51) hx hb dX0_setEnd_42 (by decide) (fun c_11 => ?_) (fun c_11 => ?_)
        · replace hF := ite_f (bI_f c_11) hF
          refine lv_iload hx hb dX0_setEnd_51 (lv_at hl 3 rfl) ?_
          refine lv_iload hx hb dX0_setEnd_53 (lv_at hl 4 rfl) ?_
          obtain ⟨r_12, hF_13, hF⟩ := ob1_some hF
          refine kcS (As := [.int r_5, .int v6_7]) (rest := [.int (r_1 + v6_7), .ref A_t_bits]) (wr := [(A_t, .inr (0, [.ref A_t_bits, .int (bI t_stale)])), (A_t_bits, .inl (cy 1, 4096, .inr (.inl t_bits_8))), (A_p0, .inr (3, [.int p0_variables, .int p0_breakers, .int p0_clauses, .ref A_p0_positive, .ref A_p0_negative, .int p0_learned, .int p0_rounds])), (A_p0_positive, .inl (cy 0, 20, .inl p0_positive)), (A_p0_negative, .inl (cy 0, 20, .inl p0_negative))]) (wsN := (w_X0_setEnd cy A_t A_t_bits A_p0 A_p0_positive A_p0_negative t_stale t_bits_8 p0_variables p0_breakers p0_clauses p0_learned p0_rounds p0_positive p0_negative)) ⟨hx, hb, hml, hown, hts⟩ hE hP hD hS hA hAs [] [0, 1, 2, 3, 4] [0, 1, 2, 3, 4] (c_X0_setsWithout l D cy s0 tW N r_5 v6_7 _ hF_13) (gS q_220 q_221 q_38 q_222) hd_X0_setsWithout.2 ⟨Nat.le_of_ble_eq_true rfl, Nat.le_of_ble_eq_true rfl⟩ rfl rfl rfl rfl rfl rfl rfl hl.1 rfl (Nat.le_of_ble_eq_true rfl) dX0_setEnd_55 ⟨Nat.zero_le _, Nat.zero_le _⟩ (fun H locs hP hD hS => ?_)
          refine W.eq (g2 := F0 m 58 ls [.long r_12, .int (r_1 + v6_7), .ref A_t_bits]) rfl ?_
          obtain ⟨t_bits_14, hF_15, hF⟩ := ob1_some hF
          refine kcSN (As := [.ref A_t_bits, .int (r_1 + v6_7), .long r_12]) (rest := []) (wr := [(A_t, .inr (0, [.ref A_t_bits, .int (bI t_stale)])), (A_p0, .inr (3, [.int p0_variables, .int p0_breakers, .int p0_clauses, .ref A_p0_positive, .ref A_p0_negative, .int p0_learned, .int p0_rounds])), (A_p0_positive, .inl (cy 0, 20, .inl p0_positive)), (A_p0_negative, .inl (cy 0, 20, .inl p0_negative))]) (wsN := (w_X0_setEnd cy A_t A_t_bits A_p0 A_p0_positive A_p0_negative t_stale t_bits_14 p0_variables p0_breakers p0_clauses p0_learned p0_rounds p0_positive p0_negative)) ⟨hx, hb, hml, hown, hts⟩ hE hP hD hS hA hAs [1] [0, 2, 3, 4] [0, 4, 1, 2, 3] (c_X4_writeLong l D cy s0 tW N A_t_bits 4096 (r_1 + v6_7) r_12 t_bits_8 _ hF_15) q_231 q_35 q_230 (nq_229 hE.2.1) hd_X4_writeLong.2 ⟨Nat.le_of_ble_eq_true rfl, Nat.le_of_ble_eq_true rfl⟩ rfl rfl rfl rfl rfl rfl rfl hl.1 rfl (Nat.le_of_ble_eq_true rfl) dX0_setEnd_58 ⟨Nat.zero_le _, Nat.zero_le _⟩ (fun H locs hP hD hS => ?_)
          refine W.eq (g2 := F0 m 61 ls []) rfl ?_
          refine lv_iinc (v := (v6_7 + 1)) (lv' := [(6, .int (v6_7 + 1)), (0, .ref A_t), (3, .int r_1), (4, .int (bI r_3)), (5, .int r_5)]) hx hb dX0_setEnd_61 hl (k := 4) rfl (by first | rfl | decide) (by decide) rfl (fun ls hl => ?_)
          refine lv_goto (tgt := 26) hx hb dX0_setEnd_64 (by decide) ?_
          exact ih (v6_7 + 1) t_bits_14 H locs ls hF hP hD hS (lv_sub hl [1, 2, 3, 4, 0] rfl)
        · replace hF := ite_t (bI_t c_11) hF
          refine lv_ldc2 (v := (-1)) hx hb hown (hts _ q_219) dX0_setEnd_45 ?_
          refine lv_goto (tgt := 58) hx hb dX0_setEnd_48 (by decide) ?_
          obtain ⟨t_bits_16, hF_17, hF⟩ := ob1_some hF
          refine kcSN (As := [.ref A_t_bits, .int (r_1 + v6_7), .long (-1)]) (rest := []) (wr := [(A_t, .inr (0, [.ref A_t_bits, .int (bI t_stale)])), (A_p0, .inr (3, [.int p0_variables, .int p0_breakers, .int p0_clauses, .ref A_p0_positive, .ref A_p0_negative, .int p0_learned, .int p0_rounds])), (A_p0_positive, .inl (cy 0, 20, .inl p0_positive)), (A_p0_negative, .inl (cy 0, 20, .inl p0_negative))]) (wsN := (w_X0_setEnd cy A_t A_t_bits A_p0 A_p0_positive A_p0_negative t_stale t_bits_16 p0_variables p0_breakers p0_clauses p0_learned p0_rounds p0_positive p0_negative)) ⟨hx, hb, hml, hown, hts⟩ hE hP hD hS hA hAs [1] [0, 2, 3, 4] [0, 4, 1, 2, 3] (c_X4_writeLong l D cy s0 tW N A_t_bits 4096 (r_1 + v6_7) (-1) t_bits_8 _ hF_17) q_231 q_35 q_230 (nq_229 hE.2.1) hd_X4_writeLong.2 ⟨Nat.le_of_ble_eq_true rfl, Nat.le_of_ble_eq_true rfl⟩ rfl rfl rfl rfl rfl rfl rfl hl.1 rfl (Nat.le_of_ble_eq_true rfl) dX0_setEnd_58 ⟨Nat.zero_le _, Nat.zero_le _⟩ (fun H locs hP hD hS => ?_)
          refine W.eq (g2 := F0 m 61 ls []) rfl ?_
          refine lv_iinc (v := (v6_7 + 1)) (lv' := [(6, .int (v6_7 + 1)), (0, .ref A_t), (3, .int r_1), (4, .int (bI r_3)), (5, .int r_5)]) hx hb dX0_setEnd_61 hl (k := 4) rfl (by first | rfl | decide) (by decide) rfl (fun ls hl => ?_)
          refine lv_goto (tgt := 26) hx hb dX0_setEnd_64 (by decide) ?_
          exact ih (v6_7 + 1) t_bits_16 H locs ls hF hP hD hS (lv_sub hl [1, 2, 3, 4, 0] rfl)
  refine hloop_26 _ (fun t_bits_9 H locs ls hF hP hD hS hl => ?_) N 0 t_bits _ _ ls hF hP hD hS (lv_sub hl [4, 3, 2, 1, 0] rfl)
  cases hF
  exact kret_v hx hb hr hlocks hP hD hS dX0_setEnd_67

abbrev w_X0_join (cy : Nat → ClassId) (A_t : Nat) (A_t_bits : Nat) (t_stale : Bool) (t_bits : Nat → Int64) : va_W := [(A_t, .inr (0, [.ref A_t_bits, .int (bI t_stale)])), (A_t_bits, .inl (cy 1, 4096, .inr (.inl t_bits)))]
def L_X0_join_32 (N : Nat) (p2 : Bool) (r_1 : Int32) (r_3 : Int32) (r_5 : Int32) (kont : (Nat → Int64) → Option ((Nat → Int64))) : Nat → Int32 → (Nat → Int64) → Option ((Nat → Int64))
  | 0, _, _ => none
  | n + 1, v7_7, t_bits_8 => (if (4 : Int32) ≤ v7_7 then kont t_bits_8 else ob1 (F_X4_readLong N 4096 (r_3 + v7_7) t_bits_8) (fun r_11 => ob1 (F_X4_readLong N 4096 (r_5 + v7_7) t_bits_8) (fun r_13 => (if p2 = true then ob1 (F_X4_writeLong N 4096 (r_1 + v7_7) (r_11 &&& r_13) t_bits_8) (fun t_bits_18 => L_X0_join_32 N p2 r_1 r_3 r_5 kont n (v7_7 + 1) t_bits_18) else ob1 (F_X4_writeLong N 4096 (r_1 + v7_7) (r_11 ||| r_13) t_bits_8) (fun t_bits_16 => L_X0_join_32 N p2 r_1 r_3 r_5 kont n (v7_7 + 1) t_bits_16)))))
def F_X0_join (N : Nat) (p0 : Int32) (p1 : Int32) (p2 : Bool) (t_bits : Nat → Int64) : Option ((Nat → Int64)) :=
  ob1 (F_X0_wordOf N p0 p1) (fun r_1 => ob1 (F_X0_wordOf N (p0 + 1) p1) (fun r_3 => ob1 (F_X0_wordOf N (p0 + 1) (p1 ||| ((1 : Int32) <<< (p0 &&& 31)))) (fun r_5 => (L_X0_join_32 N p2 r_1 r_3 r_5 (fun t_bits_9 => some t_bits_9) N 0 t_bits))))
set_option maxHeartbeats 4000000 in
set_option maxRecDepth 100000 in
theorem c_X0_join (l : Launch) (D : va_G) (cy : Nat → ClassId) (s0 tW N : Nat) (A_t : Nat) (A_t_bits : Nat) (p0 : Int32) (p1 : Int32) (p2 : Bool) (t_stale : Bool) (t_bits : Nat → Int64) (sz : Nat) {t_bits9 : Nat → Int64} (hF : F_X0_join N p0 p1 p2 t_bits = some t_bits9) : KM l D cy s0 tW yX0_join cX0_join 12 none 1 23 [.ref A_t, .int p0, .int p1, .int (bI p2)] sz (w_X0_join cy A_t A_t_bits t_stale t_bits) none (w_X0_join cy A_t A_t_bits t_stale t_bits9) := by
  refine KM.intro rfl (Nat.le_of_ble_eq_true rfl) ?_
  intro p e s m args below meth c A ls hx hb hr hml hown hts hlocks hE hP hD hS hA hAs hl
  have hK := hE.1
  have hl : lv_has ls 12 [(0, .ref A_t), (1, .int p0), (2, .int p1), (3, .int (bI p2))] := hl
  unfold F_X0_join at hF
  refine lv_iload_n hx hb dX0_join_0 rfl (lv_at hl 1 rfl) ?_
  refine lv_iload_n hx hb dX0_join_1 rfl (lv_at hl 2 rfl) ?_
  obtain ⟨r_1, hF_2, hF⟩ := ob1_some hF
  refine kcS (As := [.int p0, .int p1]) (rest := []) (wr := [(A_t, .inr (0, [.ref A_t_bits, .int (bI t_stale)])), (A_t_bits, .inl (cy 1, 4096, .inr (.inl t_bits)))]) (wsN := (w_X0_join cy A_t A_t_bits t_stale t_bits)) ⟨hx, hb, hml, hown, hts⟩ hE hP hD hS hA hAs [] [0, 1] [0, 1] (c_X0_wordOf l D cy s0 tW N p0 p1 _ hF_2) (gS q_201 q_202 q_38 q_203) hd_X0_wordOf.2 ⟨Nat.le_of_ble_eq_true rfl, Nat.le_of_ble_eq_true rfl⟩ rfl rfl rfl rfl rfl rfl rfl hl.1 rfl (Nat.le_of_ble_eq_true rfl) dX0_join_2 ⟨Nat.zero_le _, Nat.zero_le _⟩ (fun H locs hP hD hS => ?_)
  refine W.eq (g2 := F0 m 5 ls [.int r_1]) rfl ?_
  refine lv_istore (lv' := [(4, .int r_1), (0, .ref A_t), (1, .int p0), (2, .int p1), (3, .int (bI p2))]) hx hb dX0_join_5 hl (by decide) rfl (fun ls hl => ?_)
  refine lv_iload_n hx hb dX0_join_7 rfl (lv_at hl 2 rfl) ?_
  refine lv_iconst (v := 1) hx hb dX0_join_8 (by decide) ?_
  refine lv_iadd hx hb dX0_join_9 ?_
  refine lv_iload_n hx hb dX0_join_10 rfl (lv_at hl 3 rfl) ?_
  obtain ⟨r_3, hF_4, hF⟩ := ob1_some hF
  refine kcS (As := [.int (p0 + 1), .int p1]) (rest := []) (wr := [(A_t, .inr (0, [.ref A_t_bits, .int (bI t_stale)])), (A_t_bits, .inl (cy 1, 4096, .inr (.inl t_bits)))]) (wsN := (w_X0_join cy A_t A_t_bits t_stale t_bits)) ⟨hx, hb, hml, hown, hts⟩ hE hP hD hS hA hAs [] [0, 1] [0, 1] (c_X0_wordOf l D cy s0 tW N (p0 + 1) p1 _ hF_4) (gS q_201 q_202 q_38 q_203) hd_X0_wordOf.2 ⟨Nat.le_of_ble_eq_true rfl, Nat.le_of_ble_eq_true rfl⟩ rfl rfl rfl rfl rfl rfl rfl hl.1 rfl (Nat.le_of_ble_eq_true rfl) dX0_join_11 ⟨Nat.zero_le _, Nat.zero_le _⟩ (fun H locs hP hD hS => ?_)
  refine W.eq (g2 := F0 m 14 ls [.int r_3]) rfl ?_
  refine lv_istore (lv' := [(5, .int r_3), (4, .int r_1), (0, .ref A_t), (1, .int p0), (2, .int p1), (3, .int (bI p2))]) hx hb dX0_join_14 hl (by decide) rfl (fun ls hl => ?_)
  refine lv_iload_n hx hb dX0_join_16 rfl (lv_at hl 3 rfl) ?_
  refine lv_iconst (v := 1) hx hb dX0_join_17 (by decide) ?_
  refine lv_iadd hx hb dX0_join_18 ?_
  refine lv_iload_n hx hb dX0_join_19 rfl (lv_at hl 4 rfl) ?_
  refine lv_iconst (v := 1) hx hb dX0_join_20 (by decide) ?_
  refine lv_iload_n hx hb dX0_join_21 rfl (lv_at hl 3 rfl) ?_
  refine lv_ishl hx hb dX0_join_22 ?_
  refine lv_ior hx hb dX0_join_23 ?_
  obtain ⟨r_5, hF_6, hF⟩ := ob1_some hF
  refine kcS (As := [.int (p0 + 1), .int (p1 ||| ((1 : Int32) <<< (p0 &&& 31)))]) (rest := []) (wr := [(A_t, .inr (0, [.ref A_t_bits, .int (bI t_stale)])), (A_t_bits, .inl (cy 1, 4096, .inr (.inl t_bits)))]) (wsN := (w_X0_join cy A_t A_t_bits t_stale t_bits)) ⟨hx, hb, hml, hown, hts⟩ hE hP hD hS hA hAs [] [0, 1] [0, 1] (c_X0_wordOf l D cy s0 tW N (p0 + 1) (p1 ||| ((1 : Int32) <<< (p0 &&& 31))) _ hF_6) (gS q_201 q_202 q_38 q_203) hd_X0_wordOf.2 ⟨Nat.le_of_ble_eq_true rfl, Nat.le_of_ble_eq_true rfl⟩ rfl rfl rfl rfl rfl rfl rfl hl.1 rfl (Nat.le_of_ble_eq_true rfl) dX0_join_24 ⟨Nat.zero_le _, Nat.zero_le _⟩ (fun H locs hP hD hS => ?_)
  refine W.eq (g2 := F0 m 27 ls [.int r_5]) rfl ?_
  refine lv_istore (lv' := [(6, .int r_5), (5, .int r_3), (4, .int r_1), (0, .ref A_t), (1, .int p0), (2, .int p1), (3, .int (bI p2))]) hx hb dX0_join_27 hl (by decide) rfl (fun ls hl => ?_)
  refine lv_iconst (v := 0) hx hb dX0_join_29 (by decide) ?_
  refine lv_istore (lv' := [(7, .int 0), (6, .int r_5), (5, .int r_3), (4, .int r_1), (0, .ref A_t), (1, .int p0), (2, .int p1), (3, .int (bI p2))]) hx hb dX0_join_30 hl (by decide) rfl (fun ls hl => ?_)
  have hloop_32 : ∀ (kont : (Nat → Int64) → Option ((Nat → Int64))), (∀ (t_bits_9 : Nat → Int64) (H : Heap) (locs : List Loc) (ls : Array Slot), kont t_bits_9 = some t_bits9 → va_P D vwCl (w_X0_join cy A_t A_t_bits t_stale t_bits_9) H → va_D A (w_X0_join cy A_t A_t_bits t_stale t_bits_9) → va_S A s.heap H locs → lv_has ls 12 [] → W p l e (rmK 1 23) s m args below meth c H locs 0 0 (MQ below (kQ none D A (w_X0_join cy A_t A_t_bits t_stale t_bits9)) args s 0 0 A) (F0 m 101 ls [])) → ∀ (n : Nat) (v7_7 : Int32) (t_bits_8 : Nat → Int64) (H : Heap) (locs : List Loc) (ls : Array Slot), L_X0_join_32 N p2 r_1 r_3 r_5 kont n v7_7 t_bits_8 = some t_bits9 → va_P D vwCl (w_X0_join cy A_t A_t_bits t_stale t_bits_8) H → va_D A (w_X0_join cy A_t A_t_bits t_stale t_bits_8) → va_S A s.heap H locs → lv_has ls 12 [(0, .ref A_t), (3, .int (bI p2)), (4, .int r_1), (5, .int r_3), (6, .int r_5), (7, .int v7_7)] → W p l e (rmK 1 23) s m args below meth c H locs 0 0 (MQ below (kQ none D A (w_X0_join cy A_t A_t_bits t_stale t_bits9)) args s 0 0 A) (F0 m 32 ls []) := by
    intro kont hexit_32 n
    induction n with
    | zero =>
      intro v7_7 t_bits_8 H locs ls hF
      rw [L_X0_join_32] at hF
      cases hF
    | succ n ih =>
      intro v7_7 t_bits_8 H locs ls hF hP hD hS hl
      rw [L_X0_join_32] at hF
      refine lv_iload hx hb dX0_join_32 (lv_at hl 5 rfl) ?_
      refine lv_iconst (v := 4) hx hb dX0_join_34 (by decide) ?_
      refine lv_icmp_ge (tgt := 101) hx hb dX0_join_35 (by decide) (fun c_10 => ?_) (fun c_10 => ?_)
      · replace hF := ite_t c_10 hF
        exact hexit_32 t_bits_8 H locs ls hF hP hD hS (lv_sub hl [] rfl)
      · replace hF := ite_f c_10 hF
        refine lv_aload_n hx hb dX0_join_38 rfl (lv_at hl 0 rfl) ?_
        refine va_get (D := D) (ci := 0) (v := .ref A_t_bits) (C := RX0) (T := TX0) (N := 2) hx hb hts inX0 hown hK hP 0 rfl rfl 0 (by decide) (hts _ q_116) (fun _ h9 => h9) rfl dX0_join_39 ?_
        refine lv_iload hx hb dX0_join_42 (lv_at hl 3 rfl) ?_
        refine lv_iload hx hb dX0_join_44 (lv_at hl 5 rfl) ?_
        refine lv_iadd hx hb dX0_join_46 ?_
        obtain ⟨r_11, hF_12, hF⟩ := ob1_some hF
        refine kcSN (As := [.ref A_t_bits, .int (r_3 + v7_7)]) (rest := []) (wr := [(A_t, .inr (0, [.ref A_t_bits, .int (bI t_stale)]))]) (wsN := (w_X0_join cy A_t A_t_bits t_stale t_bits_8)) ⟨hx, hb, hml, hown, hts⟩ hE hP hD hS hA hAs [1] [0] [0, 1] (c_X4_readLong l D cy s0 tW N A_t_bits 4096 (r_3 + v7_7) t_bits_8 _ hF_12) q_227 q_35 q_226 (nq_225 hE.2.1) hd_X4_readLong.2 ⟨Nat.le_of_ble_eq_true rfl, Nat.le_of_ble_eq_true rfl⟩ rfl rfl rfl rfl rfl rfl rfl hl.1 rfl (Nat.le_of_ble_eq_true rfl) dX0_join_47 ⟨Nat.zero_le _, Nat.zero_le _⟩ (fun H locs hP hD hS => ?_)
        refine W.eq (g2 := F0 m 50 ls [.long r_11]) rfl ?_
        refine lv_lstore (lv' := [(8, .long r_11), (0, .ref A_t), (3, .int (bI p2)), (4, .int r_1), (5, .int r_3), (6, .int r_5), (7, .int v7_7)]) hx hb dX0_join_50 hl (by decide) rfl (fun ls hl => ?_)
        refine lv_aload_n hx hb dX0_join_52 rfl (lv_at hl 1 rfl) ?_
        refine va_get (D := D) (ci := 0) (v := .ref A_t_bits) (C := RX0) (T := TX0) (N := 2) hx hb hts inX0 hown hK hP 0 rfl rfl 0 (by decide) (hts _ q_116) (fun _ h9 => h9) rfl dX0_join_53 ?_
        refine lv_iload hx hb dX0_join_56 (lv_at hl 5 rfl) ?_
        refine lv_iload hx hb dX0_join_58 (lv_at hl 6 rfl) ?_
        refine lv_iadd hx hb dX0_join_60 ?_
        obtain ⟨r_13, hF_14, hF⟩ := ob1_some hF
        refine kcSN (As := [.ref A_t_bits, .int (r_5 + v7_7)]) (rest := []) (wr := [(A_t, .inr (0, [.ref A_t_bits, .int (bI t_stale)]))]) (wsN := (w_X0_join cy A_t A_t_bits t_stale t_bits_8)) ⟨hx, hb, hml, hown, hts⟩ hE hP hD hS hA hAs [1] [0] [0, 1] (c_X4_readLong l D cy s0 tW N A_t_bits 4096 (r_5 + v7_7) t_bits_8 _ hF_14) q_227 q_35 q_226 (nq_225 hE.2.1) hd_X4_readLong.2 ⟨Nat.le_of_ble_eq_true rfl, Nat.le_of_ble_eq_true rfl⟩ rfl rfl rfl rfl rfl rfl rfl hl.1 rfl (Nat.le_of_ble_eq_true rfl) dX0_join_61 ⟨Nat.zero_le _, Nat.zero_le _⟩ (fun H locs hP hD hS => ?_)
        refine W.eq (g2 := F0 m 64 ls [.long r_13]) rfl ?_
        refine lv_lstore (lv' := [(10, .long r_13), (8, .long r_11), (0, .ref A_t), (3, .int (bI p2)), (4, .int r_1), (5, .int r_3), (6, .int r_5), (7, .int v7_7)]) hx hb dX0_join_64 hl (by decide) rfl (fun ls hl => ?_)
        refine lv_aload_n hx hb dX0_join_66 rfl (lv_at hl 2 rfl) ?_
        refine va_get (D := D) (ci := 0) (v := .ref A_t_bits) (C := RX0) (T := TX0) (N := 2) hx hb hts inX0 hown hK hP 0 rfl rfl 0 (by decide) (hts _ q_116) (fun _ h9 => h9) rfl dX0_join_67 ?_
        refine lv_iload hx hb dX0_join_70 (lv_at hl 4 rfl) ?_
        refine lv_iload hx hb dX0_join_72 (lv_at hl 7 rfl) ?_
        refine lv_iadd hx hb dX0_join_74 ?_
        refine lv_iload_n hx hb dX0_join_75 rfl (lv_at hl 3 rfl) ?_
        refine lv_if_eq (tgt := 87) hx hb dX0_join_76 (by decide) (fun c_15 => ?_) (fun c_15 => ?_)
        · replace hF := ite_f (bI_f c_15) hF
          refine lv_lload hx hb dX0_join_87 (lv_at hl 1 rfl) ?_
          refine lv_lload hx hb dX0_join_89 (lv_at hl 0 rfl) ?_
          refine lv_lor hx hb dX0_join_91 ?_
          obtain ⟨t_bits_16, hF_17, hF⟩ := ob1_some hF
          refine kcSN (As := [.ref A_t_bits, .int (r_1 + v7_7), .long (r_11 ||| r_13)]) (rest := []) (wr := [(A_t, .inr (0, [.ref A_t_bits, .int (bI t_stale)]))]) (wsN := (w_X0_join cy A_t A_t_bits t_stale t_bits_16)) ⟨hx, hb, hml, hown, hts⟩ hE hP hD hS hA hAs [1] [0] [0, 1] (c_X4_writeLong l D cy s0 tW N A_t_bits 4096 (r_1 + v7_7) (r_11 ||| r_13) t_bits_8 _ hF_17) q_231 q_35 q_230 (nq_229 hE.2.1) hd_X4_writeLong.2 ⟨Nat.le_of_ble_eq_true rfl, Nat.le_of_ble_eq_true rfl⟩ rfl rfl rfl rfl rfl rfl rfl hl.1 rfl (Nat.le_of_ble_eq_true rfl) dX0_join_92 ⟨Nat.zero_le _, Nat.zero_le _⟩ (fun H locs hP hD hS => ?_)
          refine W.eq (g2 := F0 m 95 ls []) rfl ?_
          refine lv_iinc (v := (v7_7 + 1)) (lv' := [(7, .int (v7_7 + 1)), (10, .long r_13), (8, .long r_11), (0, .ref A_t), (3, .int (bI p2)), (4, .int r_1), (5, .int r_3), (6, .int r_5)]) hx hb dX0_join_95 hl (k := 7) rfl (by first | rfl | decide) (by decide) rfl (fun ls hl => ?_)
          refine lv_goto (tgt := 32) hx hb dX0_join_98 (by decide) ?_
          exact ih (v7_7 + 1) t_bits_16 H locs ls hF hP hD hS (lv_sub hl [3, 4, 5, 6, 7, 0] rfl)
        · replace hF := ite_t (bI_t c_15) hF
          refine lv_lload hx hb dX0_join_79 (lv_at hl 1 rfl) ?_
          refine lv_lload hx hb dX0_join_81 (lv_at hl 0 rfl) ?_
          refine lv_land hx hb dX0_join_83 ?_
          refine lv_goto (tgt := 92) hx hb dX0_join_84 (by decide) ?_
          obtain ⟨t_bits_18, hF_19, hF⟩ := ob1_some hF
          refine kcSN (As := [.ref A_t_bits, .int (r_1 + v7_7), .long (r_11 &&& r_13)]) (rest := []) (wr := [(A_t, .inr (0, [.ref A_t_bits, .int (bI t_stale)]))]) (wsN := (w_X0_join cy A_t A_t_bits t_stale t_bits_18)) ⟨hx, hb, hml, hown, hts⟩ hE hP hD hS hA hAs [1] [0] [0, 1] (c_X4_writeLong l D cy s0 tW N A_t_bits 4096 (r_1 + v7_7) (r_11 &&& r_13) t_bits_8 _ hF_19) q_231 q_35 q_230 (nq_229 hE.2.1) hd_X4_writeLong.2 ⟨Nat.le_of_ble_eq_true rfl, Nat.le_of_ble_eq_true rfl⟩ rfl rfl rfl rfl rfl rfl rfl hl.1 rfl (Nat.le_of_ble_eq_true rfl) dX0_join_92 ⟨Nat.zero_le _, Nat.zero_le _⟩ (fun H locs hP hD hS => ?_)
          refine W.eq (g2 := F0 m 95 ls []) rfl ?_
          refine lv_iinc (v := (v7_7 + 1)) (lv' := [(7, .int (v7_7 + 1)), (10, .long r_13), (8, .long r_11), (0, .ref A_t), (3, .int (bI p2)), (4, .int r_1), (5, .int r_3), (6, .int r_5)]) hx hb dX0_join_95 hl (k := 7) rfl (by first | rfl | decide) (by decide) rfl (fun ls hl => ?_)
          refine lv_goto (tgt := 32) hx hb dX0_join_98 (by decide) ?_
          exact ih (v7_7 + 1) t_bits_18 H locs ls hF hP hD hS (lv_sub hl [3, 4, 5, 6, 7, 0] rfl)
  refine hloop_32 _ (fun t_bits_9 H locs ls hF hP hD hS hl => ?_) N 0 t_bits _ _ ls hF hP hD hS (lv_sub hl [4, 7, 3, 2, 1, 0] rfl)
  cases hF
  exact kret_v hx hb hr hlocks hP hD hS dX0_join_101

theorem q_5 : Cond.selects RX0 yX0_setEnd yX0_setEnd ∈ wAll := wAll_mem 5 (by decide +kernel) (by decide +kernel)
theorem q_9 : Cond.selects RX0 yX0_join yX0_join ∈ wAll := wAll_mem 9 (by decide +kernel) (by decide +kernel)
theorem q_117 : Cond.fieldLink RX0 15 "ForAllGame$BeatenSets" "stale" "Z" ∈ wAll := wAll_mem 117 (by decide +kernel) (by decide +kernel)
theorem q_197 : Cond.methodLink RX0 33 yX0_setEnd ∈ wAll := wAll_mem 197 (by decide +kernel) (by decide +kernel)
theorem q_199 : Cond.instanceMethod yX0_setEnd ∈ wAll := wAll_mem 199 (by decide +kernel) (by decide +kernel)
theorem q_200 : Cond.code yX0_setEnd cX0_setEnd 7 none ∈ wAll := wAll_mem 200 (by decide +kernel) (by decide +kernel)
theorem q_233 : Cond.methodLink RX0 41 yX0_join ∈ wAll := wAll_mem 233 (by decide +kernel) (by decide +kernel)
theorem q_235 : Cond.instanceMethod yX0_join ∈ wAll := wAll_mem 235 (by decide +kernel) (by decide +kernel)
theorem q_236 : Cond.code yX0_join cX0_join 12 none ∈ wAll := wAll_mem 236 (by decide +kernel) (by decide +kernel)
theorem nq_232 {s : State} (h : NW s) : va_Nw (Cond.methodLinkNest RX0 37 yX3_ownerOf "ForAllGame") s := h.at 232 (by decide +kernel) rfl
theorem hd_X0_join : yX0_join.cls = RX0 ∧ yX0_join.cls ≠ "java/lang/invoke/MethodHandle" ∧ yX0_join.cls ≠ "java/lang/invoke/VarHandle" ∧ (parseMethodDescriptor yX0_join.desc).map (fun d => d.parameters.length) = some 3 := by decide +kernel
theorem hd_X0_setEnd : yX0_setEnd.cls = RX0 ∧ yX0_setEnd.cls ≠ "java/lang/invoke/MethodHandle" ∧ yX0_setEnd.cls ≠ "java/lang/invoke/VarHandle" ∧ (parseMethodDescriptor yX0_setEnd.desc).map (fun d => d.parameters.length) = some 2 := by decide +kernel
abbrev w_X0_bringUpToDate (cy : Nat → ClassId) (A_t : Nat) (A_t_bits : Nat) (A_p0 : Nat) (A_p0_positive : Nat) (A_p0_negative : Nat) (t_stale : Bool) (t_bits : Nat → Int64) (p0_variables : Int32) (p0_breakers : Int32) (p0_clauses : Int32) (p0_learned : Int32) (p0_rounds : Int32) (p0_positive : Nat → Int32) (p0_negative : Nat → Int32) : va_W := [(A_t, .inr (0, [.ref A_t_bits, .int (bI t_stale)])), (A_t_bits, .inl (cy 1, 4096, .inr (.inl t_bits))), (A_p0, .inr (3, [.int p0_variables, .int p0_breakers, .int p0_clauses, .ref A_p0_positive, .ref A_p0_negative, .int p0_learned, .int p0_rounds])), (A_p0_positive, .inl (cy 0, 20, .inl p0_positive)), (A_p0_negative, .inl (cy 0, 20, .inl p0_negative))]
def L_X0_bringUpToDate_22 (N : Nat) (p0_variables : Int32) (p0_breakers : Int32) (p0_clauses : Int32) (p0_positive : Nat → Int32) (p0_negative : Nat → Int32) (kont : (Nat → Int64) → Option ((Nat → Int64) × Bool)) : Nat → Int32 → (Nat → Int64) → Option ((Nat → Int64) × Bool)
  | 0, _, _ => none
  | n + 1, v3_2, t_bits_3 => (if ((1 : Int32) <<< (p0_variables &&& 31)) ≤ v3_2 then kont t_bits_3 else ob1 (F_X0_setEnd N v3_2 t_bits_3 p0_variables p0_breakers p0_clauses p0_positive p0_negative) (fun t_bits_6 => L_X0_bringUpToDate_22 N p0_variables p0_breakers p0_clauses p0_positive p0_negative kont n (v3_2 + 1) t_bits_6))
def L_X0_bringUpToDate_69 (N : Nat) (v3_8 : Int32) (kont : (Nat → Int64) → Option ((Nat → Int64) × Bool)) : Nat → Bool → Int32 → (Nat → Int64) → Option ((Nat → Int64) × Bool)
  | 0, _, _, _ => none
  | n + 1, v4_15, v5_16, t_bits_17 => (if ((1 : Int32) <<< (v3_8 &&& 31)) ≤ v5_16 then kont t_bits_17 else ob1 (F_X0_join N v3_8 v5_16 v4_15 t_bits_17) (fun t_bits_20 => L_X0_bringUpToDate_69 N v3_8 kont n v4_15 (v5_16 + 1) t_bits_20))
def L_X0_bringUpToDate_46 (N : Nat) (p0_breakers : Int32) (kont : (Nat → Int64) → Option ((Nat → Int64) × Bool)) : Nat → Int32 → (Nat → Int64) → Option ((Nat → Int64) × Bool)
  | 0, _, _ => none
  | n + 1, v3_8, t_bits_9 => (if v3_8 < (0 : Int32) then kont t_bits_9 else ob1 (F_X3_ownerOf N v3_8 p0_breakers) (fun r_12 => (if r_12 = (1 : Int32) then (L_X0_bringUpToDate_69 N v3_8 (fun t_bits_25 => L_X0_bringUpToDate_46 N p0_breakers kont n (v3_8 + (-1)) t_bits_25) N true 0 t_bits_9) else (L_X0_bringUpToDate_69 N v3_8 (fun t_bits_18 => L_X0_bringUpToDate_46 N p0_breakers kont n (v3_8 + (-1)) t_bits_18) N false 0 t_bits_9))))
def F_X0_bringUpToDate (N : Nat) (t_bits : Nat → Int64) (t_stale : Bool) (p0_variables : Int32) (p0_breakers : Int32) (p0_clauses : Int32) (p0_positive : Nat → Int32) (p0_negative : Nat → Int32) : Option ((Nat → Int64) × Bool) :=
  (if t_stale = true then (L_X0_bringUpToDate_22 N p0_variables p0_breakers p0_clauses p0_positive p0_negative (fun t_bits_4 => (L_X0_bringUpToDate_46 N p0_breakers (fun t_bits_10 => some (t_bits_10, false)) N (p0_variables - 1) t_bits_4)) N 0 t_bits) else some (t_bits, t_stale))
set_option maxHeartbeats 4000000 in
set_option maxRecDepth 100000 in
theorem c_X0_bringUpToDate (l : Launch) (D : va_G) (cy : Nat → ClassId) (s0 tW N : Nat) (A_t : Nat) (A_t_bits : Nat) (A_p0 : Nat) (A_p0_positive : Nat) (A_p0_negative : Nat) (t_stale : Bool) (t_bits : Nat → Int64) (p0_variables : Int32) (p0_breakers : Int32) (p0_clauses : Int32) (p0_learned : Int32) (p0_rounds : Int32) (p0_positive : Nat → Int32) (p0_negative : Nat → Int32) (sz : Nat) {t_bits9 : Nat → Int64} {t_stale9 : Bool} (hF : F_X0_bringUpToDate N t_bits t_stale p0_variables p0_breakers p0_clauses p0_positive p0_negative = some (t_bits9, t_stale9)) : KM l D cy s0 tW yX0_bringUpToDate cX0_bringUpToDate 6 none 3 71 [.ref A_t, .ref A_p0] sz (w_X0_bringUpToDate cy A_t A_t_bits A_p0 A_p0_positive A_p0_negative t_stale t_bits p0_variables p0_breakers p0_clauses p0_learned p0_rounds p0_positive p0_negative) none (w_X0_bringUpToDate cy A_t A_t_bits A_p0 A_p0_positive A_p0_negative t_stale9 t_bits9 p0_variables p0_breakers p0_clauses p0_learned p0_rounds p0_positive p0_negative) := by
  refine KM.intro rfl (Nat.le_of_ble_eq_true rfl) ?_
  intro p e s m args below meth c A ls hx hb hr hml hown hts hlocks hE hP hD hS hA hAs hl
  have hK := hE.1
  have hl : lv_has ls 6 [(0, .ref A_t), (1, .ref A_p0)] := hl
  unfold F_X0_bringUpToDate at hF
  refine lv_aload_n hx hb dX0_bringUpToDate_0 rfl (lv_at hl 0 rfl) ?_
  refine va_get (D := D) (ci := 0) (v := .int (bI t_stale)) (C := RX0) (T := TX0) (N := 2) hx hb hts inX0 hown hK hP 0 rfl rfl 1 (by decide) (hts _ q_117) (fun _ h9 => h9) rfl dX0_bringUpToDate_1 ?_
  refine lv_if_ne (tgt := 8) hx hb dX0_bringUpToDate_4 (by decide) (fun c_1 => ?_) (fun c_1 => ?_)
  · replace hF := ite_t (bI_t c_1) hF
    refine lv_aload_n hx hb dX0_bringUpToDate_8 rfl (lv_at hl 0 rfl) ?_
    refine lv_iconst (v := 0) hx hb dX0_bringUpToDate_9 (by decide) ?_
    refine ka_put (ci := 0) (v := .int (bI false)) (ty := .boolean) (C := RX0) (T := TX0) (N := 2) (wsN := (w_X0_bringUpToDate cy A_t A_t_bits A_p0 A_p0_positive A_p0_negative false t_bits p0_variables p0_breakers p0_clauses p0_learned p0_rounds p0_positive p0_negative)) hx hb hts inX0 tyX0 tyX0_ok nmX0 hown hK hP hD hS 0 rfl rfl 1 (by decide) (hts _ q_117) (fun _ h9 => h9) rfl (by decide +kernel) (bI_nar _) (bI_fit _) (Nat.le_of_ble_eq_true rfl) rfl dX0_bringUpToDate_10 (fun H locs hP hD hS => ?_)
    refine lv_iconst (v := 1) hx hb dX0_bringUpToDate_13 (by decide) ?_
    refine lv_aload_n hx hb dX0_bringUpToDate_14 rfl (lv_at hl 1 rfl) ?_
    refine va_getN (D := D) (ci := 3) (v := .int p0_variables) (C := RX3) (T := TX3) (N := 7) hx hb hts inX3 hown hK hP 2 rfl rfl 0 (by decide) (va_Nw.use rfl (nq_63 hE.2.1)) (fun _ h9 => h9) rfl dX0_bringUpToDate_15 ?_
    refine lv_ishl hx hb dX0_bringUpToDate_18 ?_
    refine lv_istore_n (lv' := [(2, .int ((1 : Int32) <<< (p0_variables &&& 31))), (0, .ref A_t), (1, .ref A_p0)]) hx hb dX0_bringUpToDate_19 rfl hl (by decide) rfl (fun ls hl => ?_)
    refine lv_iconst (v := 0) hx hb dX0_bringUpToDate_20 (by decide) ?_
    refine lv_istore_n (lv' := [(3, .int 0), (2, .int ((1 : Int32) <<< (p0_variables &&& 31))), (0, .ref A_t), (1, .ref A_p0)]) hx hb dX0_bringUpToDate_21 rfl hl (by decide) rfl (fun ls hl => ?_)
    have hloop_22 : ∀ (kont : (Nat → Int64) → Option ((Nat → Int64) × Bool)), (∀ (t_bits_4 : Nat → Int64) (H : Heap) (locs : List Loc) (ls : Array Slot), kont t_bits_4 = some (t_bits9, t_stale9) → va_P D vwCl (w_X0_bringUpToDate cy A_t A_t_bits A_p0 A_p0_positive A_p0_negative false t_bits_4 p0_variables p0_breakers p0_clauses p0_learned p0_rounds p0_positive p0_negative) H → va_D A (w_X0_bringUpToDate cy A_t A_t_bits A_p0 A_p0_positive A_p0_negative false t_bits_4 p0_variables p0_breakers p0_clauses p0_learned p0_rounds p0_positive p0_negative) → va_S A s.heap H locs → lv_has ls 6 [(0, .ref A_t), (1, .ref A_p0)] → W p l e (rmK 3 71) s m args below meth c H locs 0 0 (MQ below (kQ none D A (w_X0_bringUpToDate cy A_t A_t_bits A_p0 A_p0_positive A_p0_negative t_stale9 t_bits9 p0_variables p0_breakers p0_clauses p0_learned p0_rounds p0_positive p0_negative)) args s 0 0 A) (F0 m 39 ls [])) → ∀ (n : Nat) (v3_2 : Int32) (t_bits_3 : Nat → Int64) (H : Heap) (locs : List Loc) (ls : Array Slot), L_X0_bringUpToDate_22 N p0_variables p0_breakers p0_clauses p0_positive p0_negative kont n v3_2 t_bits_3 = some (t_bits9, t_stale9) → va_P D vwCl (w_X0_bringUpToDate cy A_t A_t_bits A_p0 A_p0_positive A_p0_negative false t_bits_3 p0_variables p0_breakers p0_clauses p0_learned p0_rounds p0_positive p0_negative) H → va_D A (w_X0_bringUpToDate cy A_t A_t_bits A_p0 A_p0_positive A_p0_negative false t_bits_3 p0_variables p0_breakers p0_clauses p0_learned p0_rounds p0_positive p0_negative) → va_S A s.heap H locs → lv_has ls 6 [(0, .ref A_t), (1, .ref A_p0), (2, .int ((1 : Int32) <<< (p0_variables &&& 31))), (3, .int v3_2)] → W p l e (rmK 3 71) s m args below meth c H locs 0 0 (MQ below (kQ none D A (w_X0_bringUpToDate cy A_t A_t_bits A_p0 A_p0_positive A_p0_negative t_stale9 t_bits9 p0_variables p0_breakers p0_clauses p0_learned p0_rounds p0_positive p0_negative)) args s 0 0 A) (F0 m 22 ls []) := by
      intro kont hexit_22 n
      induction n with
      | zero =>
        intro v3_2 t_bits_3 H locs ls hF
        rw [L_X0_bringUpToDate_22] at hF
        cases hF
      | succ n ih =>
        intro v3_2 t_bits_3 H locs ls hF hP hD hS hl
        rw [L_X0_bringUpToDate_22] at hF
        refine lv_iload_n hx hb dX0_bringUpToDate_22 rfl (lv_at hl 3 rfl) ?_
        refine lv_iload_n hx hb dX0_bringUpToDate_23 rfl (lv_at hl 2 rfl) ?_
        refine lv_icmp_ge (tgt := 39) hx hb dX0_bringUpToDate_24 (by decide) (fun c_5 => ?_) (fun c_5 => ?_)
        · replace hF := ite_t c_5 hF
          exact hexit_22 t_bits_3 H locs ls hF hP hD hS (lv_sub hl [0, 1] rfl)
        · replace hF := ite_f c_5 hF
          refine lv_aload_n hx hb dX0_bringUpToDate_27 rfl (lv_at hl 0 rfl) ?_
          refine lv_aload_n hx hb dX0_bringUpToDate_28 rfl (lv_at hl 1 rfl) ?_
          refine lv_iload_n hx hb dX0_bringUpToDate_29 rfl (lv_at hl 3 rfl) ?_
          obtain ⟨t_bits_6, hF_7, hF⟩ := ob1_some hF
          refine kcV (q := (RX0, TX0, 2)) (ci := 0) (q0 := 0) (As := [.ref A_p0, .int v3_2]) (rest := []) (wr := []) (wsN := (w_X0_bringUpToDate cy A_t A_t_bits A_p0 A_p0_positive A_p0_negative false t_bits_6 p0_variables p0_breakers p0_clauses p0_learned p0_rounds p0_positive p0_negative)) ⟨hx, hb, hml, hown, hts⟩ hE hP hD hS hA hAs [0, 1, 2, 3, 4] [] [0, 1, 2, 3, 4] (c_X0_setEnd l D cy s0 tW N A_t A_t_bits A_p0 A_p0_positive A_p0_negative v3_2 false t_bits_3 p0_variables p0_breakers p0_clauses p0_learned p0_rounds p0_positive p0_negative _ hF_7) (gV q_197 q_199 q_5 q_38 q_200) hd_X0_setEnd ⟨Nat.le_of_ble_eq_true rfl, Nat.le_of_ble_eq_true rfl⟩ rfl rfl rfl rfl rfl rfl rfl rfl rfl hl.1 rfl (Nat.le_of_ble_eq_true rfl) dX0_bringUpToDate_30 ⟨Nat.zero_le _, Nat.zero_le _⟩ (fun H locs hP hD hS => ?_)
          refine W.eq (g2 := F0 m 33 ls []) rfl ?_
          refine lv_iinc (v := (v3_2 + 1)) (lv' := [(3, .int (v3_2 + 1)), (0, .ref A_t), (1, .ref A_p0), (2, .int ((1 : Int32) <<< (p0_variables &&& 31)))]) hx hb dX0_bringUpToDate_33 hl (k := 3) rfl (by first | rfl | decide) (by decide) rfl (fun ls hl => ?_)
          refine lv_goto (tgt := 22) hx hb dX0_bringUpToDate_36 (by decide) ?_
          exact ih (v3_2 + 1) t_bits_6 H locs ls hF hP hD hS (lv_sub hl [1, 2, 3, 0] rfl)
    refine hloop_22 _ (fun t_bits_4 H locs ls hF hP hD hS hl => ?_) N 0 t_bits _ _ ls hF hP hD hS (lv_sub hl [2, 3, 1, 0] rfl)
    refine lv_aload_n hx hb dX0_bringUpToDate_39 rfl (lv_at hl 1 rfl) ?_
    refine va_getN (D := D) (ci := 3) (v := .int p0_variables) (C := RX3) (T := TX3) (N := 7) hx hb hts inX3 hown hK hP 2 rfl rfl 0 (by decide) (va_Nw.use rfl (nq_63 hE.2.1)) (fun _ h9 => h9) rfl dX0_bringUpToDate_40 ?_
    refine lv_iconst (v := 1) hx hb dX0_bringUpToDate_43 (by decide) ?_
    refine lv_isub hx hb dX0_bringUpToDate_44 ?_
    refine lv_istore_n (lv' := [(3, .int (p0_variables - 1)), (0, .ref A_t), (1, .ref A_p0)]) hx hb dX0_bringUpToDate_45 rfl hl (by decide) rfl (fun ls hl => ?_)
    have hloop_46 : ∀ (kont : (Nat → Int64) → Option ((Nat → Int64) × Bool)), (∀ (t_bits_10 : Nat → Int64) (H : Heap) (locs : List Loc) (ls : Array Slot), kont t_bits_10 = some (t_bits9, t_stale9) → va_P D vwCl (w_X0_bringUpToDate cy A_t A_t_bits A_p0 A_p0_positive A_p0_negative false t_bits_10 p0_variables p0_breakers p0_clauses p0_learned p0_rounds p0_positive p0_negative) H → va_D A (w_X0_bringUpToDate cy A_t A_t_bits A_p0 A_p0_positive A_p0_negative false t_bits_10 p0_variables p0_breakers p0_clauses p0_learned p0_rounds p0_positive p0_negative) → va_S A s.heap H locs → lv_has ls 6 [] → W p l e (rmK 3 71) s m args below meth c H locs 0 0 (MQ below (kQ none D A (w_X0_bringUpToDate cy A_t A_t_bits A_p0 A_p0_positive A_p0_negative t_stale9 t_bits9 p0_variables p0_breakers p0_clauses p0_learned p0_rounds p0_positive p0_negative)) args s 0 0 A) (F0 m 98 ls [])) → ∀ (n : Nat) (v3_8 : Int32) (t_bits_9 : Nat → Int64) (H : Heap) (locs : List Loc) (ls : Array Slot), L_X0_bringUpToDate_46 N p0_breakers kont n v3_8 t_bits_9 = some (t_bits9, t_stale9) → va_P D vwCl (w_X0_bringUpToDate cy A_t A_t_bits A_p0 A_p0_positive A_p0_negative false t_bits_9 p0_variables p0_breakers p0_clauses p0_learned p0_rounds p0_positive p0_negative) H → va_D A (w_X0_bringUpToDate cy A_t A_t_bits A_p0 A_p0_positive A_p0_negative false t_bits_9 p0_variables p0_breakers p0_clauses p0_learned p0_rounds p0_positive p0_negative) → va_S A s.heap H locs → lv_has ls 6 [(0, .ref A_t), (1, .ref A_p0), (3, .int v3_8)] → W p l e (rmK 3 71) s m args below meth c H locs 0 0 (MQ below (kQ none D A (w_X0_bringUpToDate cy A_t A_t_bits A_p0 A_p0_positive A_p0_negative t_stale9 t_bits9 p0_variables p0_breakers p0_clauses p0_learned p0_rounds p0_positive p0_negative)) args s 0 0 A) (F0 m 46 ls []) := by
      intro kont hexit_46 n
      induction n with
      | zero =>
        intro v3_8 t_bits_9 H locs ls hF
        rw [L_X0_bringUpToDate_46] at hF
        cases hF
      | succ n ih =>
        intro v3_8 t_bits_9 H locs ls hF hP hD hS hl
        rw [L_X0_bringUpToDate_46] at hF
        refine lv_iload_n hx hb dX0_bringUpToDate_46 rfl (lv_at hl 2 rfl) ?_
        refine lv_if_lt (tgt := 98) hx hb dX0_bringUpToDate_47 (by decide) (fun c_11 => ?_) (fun c_11 => ?_)
        · replace hF := ite_t c_11 hF
          exact hexit_46 t_bits_9 H locs ls hF hP hD hS (lv_sub hl [] rfl)
        · replace hF := ite_f c_11 hF
          refine lv_aload_n hx hb dX0_bringUpToDate_50 rfl (lv_at hl 1 rfl) ?_
          refine lv_iload_n hx hb dX0_bringUpToDate_51 rfl (lv_at hl 2 rfl) ?_
          obtain ⟨r_12, hF_13, hF⟩ := ob1_some hF
          refine kcVN (q := (RX3, TX3, 7)) (ci := 3) (q0 := 2) (As := [.int v3_8]) (rest := []) (wr := [(A_t, .inr (0, [.ref A_t_bits, .int (bI false)])), (A_t_bits, .inl (cy 1, 4096, .inr (.inl t_bits_9))), (A_p0_positive, .inl (cy 0, 20, .inl p0_positive)), (A_p0_negative, .inl (cy 0, 20, .inl p0_negative))]) (wsN := (w_X0_bringUpToDate cy A_t A_t_bits A_p0 A_p0_positive A_p0_negative false t_bits_9 p0_variables p0_breakers p0_clauses p0_learned p0_rounds p0_positive p0_negative)) ⟨hx, hb, hml, hown, hts⟩ hE hP hD hS hA hAs [2] [0, 1, 3, 4] [0, 1, 4, 2, 3] (c_X3_ownerOf l D cy s0 tW N A_p0 A_p0_positive A_p0_negative v3_8 p0_variables p0_breakers p0_clauses p0_learned p0_rounds _ hF_13) q_215 q_36 q_214 q_8 (nq_232 hE.2.1) hd_X3_ownerOf.2 ⟨Nat.le_of_ble_eq_true rfl, Nat.le_of_ble_eq_true rfl⟩ rfl rfl rfl rfl rfl rfl rfl rfl rfl hl.1 rfl (Nat.le_of_ble_eq_true rfl) dX0_bringUpToDate_52 ⟨Nat.zero_le _, Nat.zero_le _⟩ (fun H locs hP hD hS => ?_)
          refine W.eq (g2 := F0 m 55 ls [.int r_12]) rfl ?_
          refine lv_iconst (v := 1) hx hb dX0_bringUpToDate_55 (by decide) ?_
          refine lv_icmp_ne (tgt := 63) hx hb dX0_bringUpToDate_56 (by decide) (fun c_14 => ?_) (fun c_14 => ?_)
          · replace hF := ite_f c_14 hF
            refine lv_iconst (v := 0) hx hb dX0_bringUpToDate_63 (by decide) ?_
            refine lv_istore (lv' := [(4, .int 0), (0, .ref A_t), (1, .ref A_p0), (3, .int v3_8)]) hx hb dX0_bringUpToDate_64 hl (by decide) rfl (fun ls hl => ?_)
            refine lv_iconst (v := 0) hx hb dX0_bringUpToDate_66 (by decide) ?_
            refine lv_istore (lv' := [(5, .int 0), (4, .int 0), (0, .ref A_t), (1, .ref A_p0), (3, .int v3_8)]) hx hb dX0_bringUpToDate_67 hl (by decide) rfl (fun ls hl => ?_)
            have hloop_69 : ∀ (kont : (Nat → Int64) → Option ((Nat → Int64) × Bool)), (∀ (t_bits_18 : Nat → Int64) (H : Heap) (locs : List Loc) (ls : Array Slot), kont t_bits_18 = some (t_bits9, t_stale9) → va_P D vwCl (w_X0_bringUpToDate cy A_t A_t_bits A_p0 A_p0_positive A_p0_negative false t_bits_18 p0_variables p0_breakers p0_clauses p0_learned p0_rounds p0_positive p0_negative) H → va_D A (w_X0_bringUpToDate cy A_t A_t_bits A_p0 A_p0_positive A_p0_negative false t_bits_18 p0_variables p0_breakers p0_clauses p0_learned p0_rounds p0_positive p0_negative) → va_S A s.heap H locs → lv_has ls 6 [(0, .ref A_t), (1, .ref A_p0), (3, .int v3_8)] → W p l e (rmK 3 71) s m args below meth c H locs 0 0 (MQ below (kQ none D A (w_X0_bringUpToDate cy A_t A_t_bits A_p0 A_p0_positive A_p0_negative t_stale9 t_bits9 p0_variables p0_breakers p0_clauses p0_learned p0_rounds p0_positive p0_negative)) args s 0 0 A) (F0 m 92 ls [])) → ∀ (n : Nat) (v4_15 : Bool) (v5_16 : Int32) (t_bits_17 : Nat → Int64) (H : Heap) (locs : List Loc) (ls : Array Slot), L_X0_bringUpToDate_69 N v3_8 kont n v4_15 v5_16 t_bits_17 = some (t_bits9, t_stale9) → va_P D vwCl (w_X0_bringUpToDate cy A_t A_t_bits A_p0 A_p0_positive A_p0_negative false t_bits_17 p0_variables p0_breakers p0_clauses p0_learned p0_rounds p0_positive p0_negative) H → va_D A (w_X0_bringUpToDate cy A_t A_t_bits A_p0 A_p0_positive A_p0_negative false t_bits_17 p0_variables p0_breakers p0_clauses p0_learned p0_rounds p0_positive p0_negative) → va_S A s.heap H locs → lv_has ls 6 [(0, .ref A_t), (1, .ref A_p0), (3, .int v3_8), (4, .int (bI v4_15)), (5, .int v5_16)] → W p l e (rmK 3 71) s m args below meth c H locs 0 0 (MQ below (kQ none D A (w_X0_bringUpToDate cy A_t A_t_bits A_p0 A_p0_positive A_p0_negative t_stale9 t_bits9 p0_variables p0_breakers p0_clauses p0_learned p0_rounds p0_positive p0_negative)) args s 0 0 A) (F0 m 69 ls []) := by
              intro kont hexit_69 n
              induction n with
              | zero =>
                intro v4_15 v5_16 t_bits_17 H locs ls hF
                rw [L_X0_bringUpToDate_69] at hF
                cases hF
              | succ n ih =>
                intro v4_15 v5_16 t_bits_17 H locs ls hF hP hD hS hl
                rw [L_X0_bringUpToDate_69] at hF
                refine lv_iload hx hb dX0_bringUpToDate_69 (lv_at hl 4 rfl) ?_
                refine lv_iconst (v := 1) hx hb dX0_bringUpToDate_71 (by decide) ?_
                refine lv_iload_n hx hb dX0_bringUpToDate_72 rfl (lv_at hl 2 rfl) ?_
                refine lv_ishl hx hb dX0_bringUpToDate_73 ?_
                refine lv_icmp_ge (tgt := 92) hx hb dX0_bringUpToDate_74 (by decide) (fun c_19 => ?_) (fun c_19 => ?_)
                · replace hF := ite_t c_19 hF
                  exact hexit_69 t_bits_17 H locs ls hF hP hD hS (lv_sub hl [0, 1, 2] rfl)
                · replace hF := ite_f c_19 hF
                  refine lv_aload_n hx hb dX0_bringUpToDate_77 rfl (lv_at hl 0 rfl) ?_
                  refine lv_iload_n hx hb dX0_bringUpToDate_78 rfl (lv_at hl 2 rfl) ?_
                  refine lv_iload hx hb dX0_bringUpToDate_79 (lv_at hl 4 rfl) ?_
                  refine lv_iload hx hb dX0_bringUpToDate_81 (lv_at hl 3 rfl) ?_
                  obtain ⟨t_bits_20, hF_21, hF⟩ := ob1_some hF
                  refine kcV (q := (RX0, TX0, 2)) (ci := 0) (q0 := 0) (As := [.int v3_8, .int v5_16, .int (bI v4_15)]) (rest := []) (wr := [(A_p0, .inr (3, [.int p0_variables, .int p0_breakers, .int p0_clauses, .ref A_p0_positive, .ref A_p0_negative, .int p0_learned, .int p0_rounds])), (A_p0_positive, .inl (cy 0, 20, .inl p0_positive)), (A_p0_negative, .inl (cy 0, 20, .inl p0_negative))]) (wsN := (w_X0_bringUpToDate cy A_t A_t_bits A_p0 A_p0_positive A_p0_negative false t_bits_20 p0_variables p0_breakers p0_clauses p0_learned p0_rounds p0_positive p0_negative)) ⟨hx, hb, hml, hown, hts⟩ hE hP hD hS hA hAs [0, 1] [2, 3, 4] [3, 4, 0, 1, 2] (c_X0_join l D cy s0 tW N A_t A_t_bits v3_8 v5_16 v4_15 false t_bits_17 _ hF_21) (gV q_233 q_235 q_9 q_38 q_236) hd_X0_join ⟨Nat.le_of_ble_eq_true rfl, Nat.le_of_ble_eq_true rfl⟩ rfl rfl rfl rfl rfl rfl rfl rfl rfl hl.1 rfl (Nat.le_of_ble_eq_true rfl) dX0_bringUpToDate_83 ⟨Nat.zero_le _, Nat.zero_le _⟩ (fun H locs hP hD hS => ?_)
                  refine W.eq (g2 := F0 m 86 ls []) rfl ?_
                  refine lv_iinc (v := (v5_16 + 1)) (lv' := [(5, .int (v5_16 + 1)), (0, .ref A_t), (1, .ref A_p0), (3, .int v3_8), (4, .int (bI v4_15))]) hx hb dX0_bringUpToDate_86 hl (k := 4) rfl (by first | rfl | decide) (by decide) rfl (fun ls hl => ?_)
                  refine lv_goto (tgt := 69) hx hb dX0_bringUpToDate_89 (by decide) ?_
                  exact ih v4_15 (v5_16 + 1) t_bits_20 H locs ls hF hP hD hS (lv_sub hl [1, 2, 3, 4, 0] rfl)
            refine hloop_69 _ (fun t_bits_18 H locs ls hF hP hD hS hl => ?_) N false 0 t_bits_9 _ _ ls hF hP hD hS (lv_sub hl [2, 3, 4, 1, 0] rfl)
            refine lv_iinc (v := (v3_8 + (-1))) (lv' := [(3, .int (v3_8 + (-1))), (0, .ref A_t), (1, .ref A_p0)]) hx hb dX0_bringUpToDate_92 hl (k := 2) rfl (by first | rfl | decide) (by decide) rfl (fun ls hl => ?_)
            refine lv_goto (tgt := 46) hx hb dX0_bringUpToDate_95 (by decide) ?_
            exact ih (v3_8 + (-1)) t_bits_18 H locs ls hF hP hD hS (lv_sub hl [1, 2, 0] rfl)
          · replace hF := ite_t c_14 hF
            refine lv_iconst (v := 1) hx hb dX0_bringUpToDate_59 (by decide) ?_
            refine lv_goto (tgt := 64) hx hb dX0_bringUpToDate_60 (by decide) ?_
            refine lv_istore (lv' := [(4, .int 1), (0, .ref A_t), (1, .ref A_p0), (3, .int v3_8)]) hx hb dX0_bringUpToDate_64 hl (by decide) rfl (fun ls hl => ?_)
            refine lv_iconst (v := 0) hx hb dX0_bringUpToDate_66 (by decide) ?_
            refine lv_istore (lv' := [(5, .int 0), (4, .int 1), (0, .ref A_t), (1, .ref A_p0), (3, .int v3_8)]) hx hb dX0_bringUpToDate_67 hl (by decide) rfl (fun ls hl => ?_)
            have hloop_69 : ∀ (kont : (Nat → Int64) → Option ((Nat → Int64) × Bool)), (∀ (t_bits_25 : Nat → Int64) (H : Heap) (locs : List Loc) (ls : Array Slot), kont t_bits_25 = some (t_bits9, t_stale9) → va_P D vwCl (w_X0_bringUpToDate cy A_t A_t_bits A_p0 A_p0_positive A_p0_negative false t_bits_25 p0_variables p0_breakers p0_clauses p0_learned p0_rounds p0_positive p0_negative) H → va_D A (w_X0_bringUpToDate cy A_t A_t_bits A_p0 A_p0_positive A_p0_negative false t_bits_25 p0_variables p0_breakers p0_clauses p0_learned p0_rounds p0_positive p0_negative) → va_S A s.heap H locs → lv_has ls 6 [(0, .ref A_t), (1, .ref A_p0), (3, .int v3_8)] → W p l e (rmK 3 71) s m args below meth c H locs 0 0 (MQ below (kQ none D A (w_X0_bringUpToDate cy A_t A_t_bits A_p0 A_p0_positive A_p0_negative t_stale9 t_bits9 p0_variables p0_breakers p0_clauses p0_learned p0_rounds p0_positive p0_negative)) args s 0 0 A) (F0 m 92 ls [])) → ∀ (n : Nat) (v4_22 : Bool) (v5_23 : Int32) (t_bits_24 : Nat → Int64) (H : Heap) (locs : List Loc) (ls : Array Slot), L_X0_bringUpToDate_69 N v3_8 kont n v4_22 v5_23 t_bits_24 = some (t_bits9, t_stale9) → va_P D vwCl (w_X0_bringUpToDate cy A_t A_t_bits A_p0 A_p0_positive A_p0_negative false t_bits_24 p0_variables p0_breakers p0_clauses p0_learned p0_rounds p0_positive p0_negative) H → va_D A (w_X0_bringUpToDate cy A_t A_t_bits A_p0 A_p0_positive A_p0_negative false t_bits_24 p0_variables p0_breakers p0_clauses p0_learned p0_rounds p0_positive p0_negative) → va_S A s.heap H locs → lv_has ls 6 [(0, .ref A_t), (1, .ref A_p0), (3, .int v3_8), (4, .int (bI v4_22)), (5, .int v5_23)] → W p l e (rmK 3 71) s m args below meth c H locs 0 0 (MQ below (kQ none D A (w_X0_bringUpToDate cy A_t A_t_bits A_p0 A_p0_positive A_p0_negative t_stale9 t_bits9 p0_variables p0_breakers p0_clauses p0_learned p0_rounds p0_positive p0_negative)) args s 0 0 A) (F0 m 69 ls []) := by
              intro kont hexit_69 n
              induction n with
              | zero =>
                intro v4_22 v5_23 t_bits_24 H locs ls hF
                rw [L_X0_bringUpToDate_69] at hF
                cases hF
              | succ n ih =>
                intro v4_22 v5_23 t_bits_24 H locs ls hF hP hD hS hl
                rw [L_X0_bringUpToDate_69] at hF
                refine lv_iload hx hb dX0_bringUpToDate_69 (lv_at hl 4 rfl) ?_
                refine lv_iconst (v := 1) hx hb dX0_bringUpToDate_71 (by decide) ?_
                refine lv_iload_n hx hb dX0_bringUpToDate_72 rfl (lv_at hl 2 rfl) ?_
                refine lv_ishl hx hb dX0_bringUpToDate_73 ?_
                refine lv_icmp_ge (tgt := 92) hx hb dX0_bringUpToDate_74 (by decide) (fun c_26 => ?_) (fun c_26 => ?_)
                · replace hF := ite_t c_26 hF
                  exact hexit_69 t_bits_24 H locs ls hF hP hD hS (lv_sub hl [0, 1, 2] rfl)
                · replace hF := ite_f c_26 hF
                  refine lv_aload_n hx hb dX0_bringUpToDate_77 rfl (lv_at hl 0 rfl) ?_
                  refine lv_iload_n hx hb dX0_bringUpToDate_78 rfl (lv_at hl 2 rfl) ?_
                  refine lv_iload hx hb dX0_bringUpToDate_79 (lv_at hl 4 rfl) ?_
                  refine lv_iload hx hb dX0_bringUpToDate_81 (lv_at hl 3 rfl) ?_
                  obtain ⟨t_bits_27, hF_28, hF⟩ := ob1_some hF
                  refine kcV (q := (RX0, TX0, 2)) (ci := 0) (q0 := 0) (As := [.int v3_8, .int v5_23, .int (bI v4_22)]) (rest := []) (wr := [(A_p0, .inr (3, [.int p0_variables, .int p0_breakers, .int p0_clauses, .ref A_p0_positive, .ref A_p0_negative, .int p0_learned, .int p0_rounds])), (A_p0_positive, .inl (cy 0, 20, .inl p0_positive)), (A_p0_negative, .inl (cy 0, 20, .inl p0_negative))]) (wsN := (w_X0_bringUpToDate cy A_t A_t_bits A_p0 A_p0_positive A_p0_negative false t_bits_27 p0_variables p0_breakers p0_clauses p0_learned p0_rounds p0_positive p0_negative)) ⟨hx, hb, hml, hown, hts⟩ hE hP hD hS hA hAs [0, 1] [2, 3, 4] [3, 4, 0, 1, 2] (c_X0_join l D cy s0 tW N A_t A_t_bits v3_8 v5_23 v4_22 false t_bits_24 _ hF_28) (gV q_233 q_235 q_9 q_38 q_236) hd_X0_join ⟨Nat.le_of_ble_eq_true rfl, Nat.le_of_ble_eq_true rfl⟩ rfl rfl rfl rfl rfl rfl rfl rfl rfl hl.1 rfl (Nat.le_of_ble_eq_true rfl) dX0_bringUpToDate_83 ⟨Nat.zero_le _, Nat.zero_le _⟩ (fun H locs hP hD hS => ?_)
                  refine W.eq (g2 := F0 m 86 ls []) rfl ?_
                  refine lv_iinc (v := (v5_23 + 1)) (lv' := [(5, .int (v5_23 + 1)), (0, .ref A_t), (1, .ref A_p0), (3, .int v3_8), (4, .int (bI v4_22))]) hx hb dX0_bringUpToDate_86 hl (k := 4) rfl (by first | rfl | decide) (by decide) rfl (fun ls hl => ?_)
                  refine lv_goto (tgt := 69) hx hb dX0_bringUpToDate_89 (by decide) ?_
                  exact ih v4_22 (v5_23 + 1) t_bits_27 H locs ls hF hP hD hS (lv_sub hl [1, 2, 3, 4, 0] rfl)
            refine hloop_69 _ (fun t_bits_25 H locs ls hF hP hD hS hl => ?_) N true 0 t_bits_9 _ _ ls hF hP hD hS (lv_sub hl [2, 3, 4, 1, 0] rfl)
            refine lv_iinc (v := (v3_8 + (-1))) (lv' := [(3, .int (v3_8 + (-1))), (0, .ref A_t), (1, .ref A_p0)]) hx hb dX0_bringUpToDate_92 hl (k := 2) rfl (by first | rfl | decide) (by decide) rfl (fun ls hl => ?_)
            refine lv_goto (tgt := 46) hx hb dX0_bringUpToDate_95 (by decide) ?_
            exact ih (v3_8 + (-1)) t_bits_25 H locs ls hF hP hD hS (lv_sub hl [1, 2, 0] rfl)
    refine hloop_46 _ (fun t_bits_10 H locs ls hF hP hD hS hl => ?_) N (p0_variables - 1) t_bits_4 _ _ ls hF hP hD hS (lv_sub hl [1, 2, 0] rfl)
    cases hF
    exact kret_v hx hb hr hlocks hP hD hS dX0_bringUpToDate_98
  · replace hF := ite_f (bI_f c_1) hF
    cases hF
    exact kret_v hx hb hr hlocks hP hD hS dX0_bringUpToDate_7
