theorem q_11 : Cond.selects RX0 yX0_has yX0_has ∈ wAll := wAll_mem 11 (by decide +kernel) (by decide +kernel)
theorem q_315 : Cond.instanceMethod yX0_has ∈ wAll := wAll_mem 315 (by decide +kernel) (by decide +kernel)
theorem q_316 : Cond.code yX0_has cX0_has 6 (some .boolean) ∈ wAll := wAll_mem 316 (by decide +kernel) (by decide +kernel)
theorem q_327 : Cond.methodLink RX4 176 yX4_bit ∈ wAll := wAll_mem 327 (by decide +kernel) (by decide +kernel)
theorem nq_313 {s : State} (h : NW s) : va_Nw (Cond.methodLinkNest RX4 167 yX0_has "ForAllGame") s := h.at 313 (by decide +kernel) rfl
theorem nq_326 {s : State} (h : NW s) : va_Nw (Cond.methodLinkNest RX4 122 yX3_ownerOf "ForAllGame") s := h.at 326 (by decide +kernel) rfl
theorem hd_X0_has : yX0_has.cls = RX0 ∧ yX0_has.cls ≠ "java/lang/invoke/MethodHandle" ∧ yX0_has.cls ≠ "java/lang/invoke/VarHandle" ∧ (parseMethodDescriptor yX0_has.desc).map (fun d => d.parameters.length) = some 3 := by decide +kernel
abbrev w_X4_valuesAgainst (cy : Nat → ClassId) (A_t : Nat) (A_t_state : Nat) (A_t_saved : Nat) (A_t_beaten : Nat) (A_t_text : Nat) (A_t_state_positive : Nat) (A_t_state_negative : Nat) (A_t_beaten_bits : Nat) (t_state_variables : Int32) (t_state_breakers : Int32) (t_state_clauses : Int32) (t_state_learned : Int32) (t_state_rounds : Int32) (t_beaten_stale : Bool) (t_beaten_bits : Nat → Int64) : va_W := [(A_t, .inr (4, [.ref A_t_state, .ref A_t_saved, .ref A_t_beaten, .ref A_t_text])), (A_t_state, .inr (3, [.int t_state_variables, .int t_state_breakers, .int t_state_clauses, .ref A_t_state_positive, .ref A_t_state_negative, .int t_state_learned, .int t_state_rounds])), (A_t_beaten, .inr (0, [.ref A_t_beaten_bits, .int (bI t_beaten_stale)])), (A_t_beaten_bits, .inl (cy 1, 4096, .inr (.inl t_beaten_bits)))]
def L_X4_valuesAgainst_7 (N : Nat) (t_state_variables : Int32) (t_state_breakers : Int32) (t_state_learned : Int32) (t_beaten_bits : Nat → Int64) (p0 : Int32) (kont : Int32 → Option (Int32)) : Nat → Int32 → Int32 → Int32 → Option (Int32)
  | 0, _, _, _ => none
  | n + 1, v2_1, v3_2, v4_3 => (if t_state_variables ≤ v4_3 then kont v2_1 else ob1 (F_X3_ownerOf N v4_3 t_state_breakers) (fun r_6 => (if r_6 = (1 : Int32) then ob1 (F_X4_bit N p0 v3_2) (fun r_12 => L_X4_valuesAgainst_7 N t_state_variables t_state_breakers t_state_learned t_beaten_bits p0 kont n (v2_1 ||| (r_12 <<< (v4_3 &&& 31))) (v3_2 + 1) (v4_3 + 1)) else ob1 (F_X0_has N (v4_3 + 1) v2_1 t_state_learned t_beaten_bits) (fun r_9 => (if r_9 = true then L_X4_valuesAgainst_7 N t_state_variables t_state_breakers t_state_learned t_beaten_bits p0 kont n (v2_1 ||| ((0 : Int32) <<< (v4_3 &&& 31))) v3_2 (v4_3 + 1) else L_X4_valuesAgainst_7 N t_state_variables t_state_breakers t_state_learned t_beaten_bits p0 kont n (v2_1 ||| ((1 : Int32) <<< (v4_3 &&& 31))) v3_2 (v4_3 + 1))))))
def F_X4_valuesAgainst (N : Nat) (p0 : Int32) (t_state_variables : Int32) (t_state_breakers : Int32) (t_state_learned : Int32) (t_beaten_bits : Nat → Int64) : Option (Int32) :=
  (L_X4_valuesAgainst_7 N t_state_variables t_state_breakers t_state_learned t_beaten_bits p0 (fun u2_4 => some u2_4) N 0 0 0)
set_option maxHeartbeats 4000000 in
set_option maxRecDepth 100000 in
theorem c_X4_valuesAgainst (l : Launch) (D : va_G) (cy : Nat → ClassId) (s0 tW N : Nat) (A_t : Nat) (A_t_state : Nat) (A_t_saved : Nat) (A_t_beaten : Nat) (A_t_text : Nat) (A_t_state_positive : Nat) (A_t_state_negative : Nat) (A_t_beaten_bits : Nat) (p0 : Int32) (t_state_variables : Int32) (t_state_breakers : Int32) (t_state_clauses : Int32) (t_state_learned : Int32) (t_state_rounds : Int32) (t_beaten_stale : Bool) (t_beaten_bits : Nat → Int64) (sz : Nat) {r9 : Int32} (hF : F_X4_valuesAgainst N p0 t_state_variables t_state_breakers t_state_learned t_beaten_bits = some r9) : KM l D cy s0 tW yX4_valuesAgainst cX4_valuesAgainst 6 (some .int) 2 46 [.ref A_t, .int p0] sz (w_X4_valuesAgainst cy A_t A_t_state A_t_saved A_t_beaten A_t_text A_t_state_positive A_t_state_negative A_t_beaten_bits t_state_variables t_state_breakers t_state_clauses t_state_learned t_state_rounds t_beaten_stale t_beaten_bits) (some (.int r9)) (w_X4_valuesAgainst cy A_t A_t_state A_t_saved A_t_beaten A_t_text A_t_state_positive A_t_state_negative A_t_beaten_bits t_state_variables t_state_breakers t_state_clauses t_state_learned t_state_rounds t_beaten_stale t_beaten_bits) := by
  refine KM.intro rfl (Nat.le_of_ble_eq_true rfl) ?_
  intro p e s m args below meth c A ls hx hb hr hml hown hts hlocks hE hP hD hS hA hAs hl
  have hK := hE.1
  have hl : lv_has ls 6 [(0, .ref A_t), (1, .int p0)] := hl
  unfold F_X4_valuesAgainst at hF
  refine lv_iconst (v := 0) hx hb dX4_valuesAgainst_0 (by decide) ?_
  refine lv_istore_n (lv' := [(2, .int 0), (0, .ref A_t), (1, .int p0)]) hx hb dX4_valuesAgainst_1 rfl hl (by decide) rfl (fun ls hl => ?_)
  refine lv_iconst (v := 0) hx hb dX4_valuesAgainst_2 (by decide) ?_
  refine lv_istore_n (lv' := [(3, .int 0), (2, .int 0), (0, .ref A_t), (1, .int p0)]) hx hb dX4_valuesAgainst_3 rfl hl (by decide) rfl (fun ls hl => ?_)
  refine lv_iconst (v := 0) hx hb dX4_valuesAgainst_4 (by decide) ?_
  refine lv_istore (lv' := [(4, .int 0), (3, .int 0), (2, .int 0), (0, .ref A_t), (1, .int p0)]) hx hb dX4_valuesAgainst_5 hl (by decide) rfl (fun ls hl => ?_)
  have hloop_7 : ∀ (kont : Int32 → Option (Int32)), (∀ (u2_4 : Int32) (H : Heap) (locs : List Loc) (ls : Array Slot), kont u2_4 = some r9 → va_P D vwCl (w_X4_valuesAgainst cy A_t A_t_state A_t_saved A_t_beaten A_t_text A_t_state_positive A_t_state_negative A_t_beaten_bits t_state_variables t_state_breakers t_state_clauses t_state_learned t_state_rounds t_beaten_stale t_beaten_bits) H → va_D A (w_X4_valuesAgainst cy A_t A_t_state A_t_saved A_t_beaten A_t_text A_t_state_positive A_t_state_negative A_t_beaten_bits t_state_variables t_state_breakers t_state_clauses t_state_learned t_state_rounds t_beaten_stale t_beaten_bits) → va_S A s.heap H locs → lv_has ls 6 [(2, .int u2_4)] → W p l e (rmK 2 46) s m args below meth c H locs 0 0 (MQ below (kQ (some (.int r9)) D A (w_X4_valuesAgainst cy A_t A_t_state A_t_saved A_t_beaten A_t_text A_t_state_positive A_t_state_negative A_t_beaten_bits t_state_variables t_state_breakers t_state_clauses t_state_learned t_state_rounds t_beaten_stale t_beaten_bits)) args s 0 0 A) (F0 m 88 ls [])) → ∀ (n : Nat) (v2_1 : Int32) (v3_2 : Int32) (v4_3 : Int32) (H : Heap) (locs : List Loc) (ls : Array Slot), L_X4_valuesAgainst_7 N t_state_variables t_state_breakers t_state_learned t_beaten_bits p0 kont n v2_1 v3_2 v4_3 = some r9 → va_P D vwCl (w_X4_valuesAgainst cy A_t A_t_state A_t_saved A_t_beaten A_t_text A_t_state_positive A_t_state_negative A_t_beaten_bits t_state_variables t_state_breakers t_state_clauses t_state_learned t_state_rounds t_beaten_stale t_beaten_bits) H → va_D A (w_X4_valuesAgainst cy A_t A_t_state A_t_saved A_t_beaten A_t_text A_t_state_positive A_t_state_negative A_t_beaten_bits t_state_variables t_state_breakers t_state_clauses t_state_learned t_state_rounds t_beaten_stale t_beaten_bits) → va_S A s.heap H locs → lv_has ls 6 [(0, .ref A_t), (1, .int p0), (2, .int v2_1), (3, .int v3_2), (4, .int v4_3)] → W p l e (rmK 2 46) s m args below meth c H locs 0 0 (MQ below (kQ (some (.int r9)) D A (w_X4_valuesAgainst cy A_t A_t_state A_t_saved A_t_beaten A_t_text A_t_state_positive A_t_state_negative A_t_beaten_bits t_state_variables t_state_breakers t_state_clauses t_state_learned t_state_rounds t_beaten_stale t_beaten_bits)) args s 0 0 A) (F0 m 7 ls []) := by
    intro kont hexit_7 n
    induction n with
    | zero =>
      intro v2_1 v3_2 v4_3 H locs ls hF
      rw [L_X4_valuesAgainst_7] at hF
      cases hF
    | succ n ih =>
      intro v2_1 v3_2 v4_3 H locs ls hF hP hD hS hl
      rw [L_X4_valuesAgainst_7] at hF
      refine lv_iload hx hb dX4_valuesAgainst_7 (lv_at hl 4 rfl) ?_
      refine lv_aload_n hx hb dX4_valuesAgainst_9 rfl (lv_at hl 0 rfl) ?_
      refine va_get (D := D) (ci := 4) (v := .ref A_t_state) (C := RX4) (T := TX4) (N := 4) hx hb hts inX4 hown hK hP 0 rfl rfl 0 (by decide) (hts _ q_212) (fun _ h9 => h9) rfl dX4_valuesAgainst_10 ?_
      refine va_getN (D := D) (ci := 3) (v := .int t_state_variables) (C := RX3) (T := TX3) (N := 7) hx hb hts inX3 hown hK hP 1 rfl rfl 0 (by decide) (va_Nw.use rfl (nq_111 hE.2.1)) (fun _ h9 => h9) rfl dX4_valuesAgainst_13 ?_
      refine lv_icmp_ge (tgt := 88) hx hb dX4_valuesAgainst_16 (by decide) (fun c_5 => ?_) (fun c_5 => ?_)
      · replace hF := ite_t c_5 hF
        exact hexit_7 v2_1 H locs ls hF hP hD hS (lv_sub hl [2] rfl)
      · replace hF := ite_f c_5 hF
        refine lv_aload_n hx hb dX4_valuesAgainst_19 rfl (lv_at hl 0 rfl) ?_
        refine va_get (D := D) (ci := 4) (v := .ref A_t_state) (C := RX4) (T := TX4) (N := 4) hx hb hts inX4 hown hK hP 0 rfl rfl 0 (by decide) (hts _ q_212) (fun _ h9 => h9) rfl dX4_valuesAgainst_20 ?_
        refine lv_iload hx hb dX4_valuesAgainst_23 (lv_at hl 4 rfl) ?_
        obtain ⟨r_6, hF_7, hF⟩ := ob1_some hF
        refine kcVN (q := (RX3, TX3, 7)) (ci := 3) (q0 := 1) (As := [.int v4_3]) (rest := []) (wr := [(A_t, .inr (4, [.ref A_t_state, .ref A_t_saved, .ref A_t_beaten, .ref A_t_text])), (A_t_beaten, .inr (0, [.ref A_t_beaten_bits, .int (bI t_beaten_stale)])), (A_t_beaten_bits, .inl (cy 1, 4096, .inr (.inl t_beaten_bits)))]) (wsN := (w_X4_valuesAgainst cy A_t A_t_state A_t_saved A_t_beaten A_t_text A_t_state_positive A_t_state_negative A_t_beaten_bits t_state_variables t_state_breakers t_state_clauses t_state_learned t_state_rounds t_beaten_stale t_beaten_bits)) ⟨hx, hb, hml, hown, hts⟩ hE hP hD hS hA hAs [1] [0, 2, 3] [0, 3, 1, 2] (c_X3_ownerOf l D cy s0 tW N A_t_state A_t_state_positive A_t_state_negative v4_3 t_state_variables t_state_breakers t_state_clauses t_state_learned t_state_rounds _ hF_7) q_291 q_84 q_290 q_9 (nq_326 hE.2.1) hd_X3_ownerOf.2 ⟨Nat.le_of_ble_eq_true rfl, Nat.le_of_ble_eq_true rfl⟩ rfl rfl rfl rfl rfl rfl rfl rfl rfl hl.1 rfl (Nat.le_of_ble_eq_true rfl) dX4_valuesAgainst_25 ⟨Nat.zero_le _, Nat.zero_le _⟩ (fun H locs hP hD hS => ?_)
        refine W.eq (g2 := F0 m 28 ls [.int r_6]) rfl ?_
        refine lv_iconst (v := 1) hx hb dX4_valuesAgainst_28 (by decide) ?_
        refine lv_icmp_ne (tgt := 45) hx hb dX4_valuesAgainst_29 (by decide) (fun c_8 => ?_) (fun c_8 => ?_)
        · replace hF := ite_f c_8 hF
          refine lv_aload_n hx hb dX4_valuesAgainst_45 rfl (lv_at hl 0 rfl) ?_
          refine va_get (D := D) (ci := 4) (v := .ref A_t_beaten) (C := RX4) (T := TX4) (N := 4) hx hb hts inX4 hown hK hP 0 rfl rfl 2 (by decide) (hts _ q_214) (fun _ h9 => h9) rfl dX4_valuesAgainst_46 ?_
          refine lv_iload hx hb dX4_valuesAgainst_49 (lv_at hl 4 rfl) ?_
          refine lv_iconst (v := 1) hx hb dX4_valuesAgainst_51 (by decide) ?_
          refine lv_iadd hx hb dX4_valuesAgainst_52 ?_
          refine lv_iload_n hx hb dX4_valuesAgainst_53 rfl (lv_at hl 2 rfl) ?_
          refine lv_aload_n hx hb dX4_valuesAgainst_54 rfl (lv_at hl 0 rfl) ?_
          refine va_get (D := D) (ci := 4) (v := .ref A_t_state) (C := RX4) (T := TX4) (N := 4) hx hb hts inX4 hown hK hP 0 rfl rfl 0 (by decide) (hts _ q_212) (fun _ h9 => h9) rfl dX4_valuesAgainst_55 ?_
          refine va_getN (D := D) (ci := 3) (v := .int t_state_learned) (C := RX3) (T := TX3) (N := 7) hx hb hts inX3 hown hK hP 1 rfl rfl 5 (by decide) (va_Nw.use rfl (nq_122 hE.2.1)) (fun _ h9 => h9) rfl dX4_valuesAgainst_58 ?_
          obtain ⟨r_9, hF_10, hF⟩ := ob1_some hF
          refine kcVN (q := (RX0, TX0, 2)) (ci := 0) (q0 := 2) (As := [.int (v4_3 + 1), .int v2_1, .int t_state_learned]) (rest := []) (wr := [(A_t, .inr (4, [.ref A_t_state, .ref A_t_saved, .ref A_t_beaten, .ref A_t_text])), (A_t_state, .inr (3, [.int t_state_variables, .int t_state_breakers, .int t_state_clauses, .ref A_t_state_positive, .ref A_t_state_negative, .int t_state_learned, .int t_state_rounds]))]) (wsN := (w_X4_valuesAgainst cy A_t A_t_state A_t_saved A_t_beaten A_t_text A_t_state_positive A_t_state_negative A_t_beaten_bits t_state_variables t_state_breakers t_state_clauses t_state_learned t_state_rounds t_beaten_stale t_beaten_bits)) ⟨hx, hb, hml, hown, hts⟩ hE hP hD hS hA hAs [2, 3] [0, 1] [0, 1, 2, 3] (c_X0_has l D cy s0 tW N A_t_beaten A_t_beaten_bits (v4_3 + 1) v2_1 t_state_learned t_beaten_stale t_beaten_bits _ hF_10) q_316 q_86 q_315 q_11 (nq_313 hE.2.1) hd_X0_has.2 ⟨Nat.le_of_ble_eq_true rfl, Nat.le_of_ble_eq_true rfl⟩ rfl rfl rfl rfl rfl rfl rfl rfl rfl hl.1 rfl (Nat.le_of_ble_eq_true rfl) dX4_valuesAgainst_61 ⟨Nat.zero_le _, Nat.zero_le _⟩ (fun H locs hP hD hS => ?_)
          refine W.eq (g2 := F0 m 64 ls [.int (bI r_9)]) rfl ?_
          refine lv_if_eq (tgt := 71) hx hb dX4_valuesAgainst_64 (by decide) (fun c_11 => ?_) (fun c_11 => ?_)
          · replace hF := ite_f (bI_f c_11) hF
            refine lv_iconst (v := 1) hx hb dX4_valuesAgainst_71 (by decide) ?_
            refine lv_istore (lv' := [(5, .int 1), (0, .ref A_t), (1, .int p0), (2, .int v2_1), (3, .int v3_2), (4, .int v4_3)]) hx hb dX4_valuesAgainst_72 hl (by decide) rfl (fun ls hl => ?_)
            refine lv_iload_n hx hb dX4_valuesAgainst_74 rfl (lv_at hl 3 rfl) ?_
            refine lv_iload hx hb dX4_valuesAgainst_75 (lv_at hl 0 rfl) ?_
            refine lv_iload hx hb dX4_valuesAgainst_77 (lv_at hl 5 rfl) ?_
            refine lv_ishl hx hb dX4_valuesAgainst_79 ?_
            refine lv_ior hx hb dX4_valuesAgainst_80 ?_
            refine lv_istore_n (lv' := [(2, .int (v2_1 ||| ((1 : Int32) <<< (v4_3 &&& 31)))), (5, .int 1), (0, .ref A_t), (1, .int p0), (3, .int v3_2), (4, .int v4_3)]) hx hb dX4_valuesAgainst_81 rfl hl (by decide) rfl (fun ls hl => ?_)
            refine lv_iinc (v := (v4_3 + 1)) (lv' := [(4, .int (v4_3 + 1)), (2, .int (v2_1 ||| ((1 : Int32) <<< (v4_3 &&& 31)))), (5, .int 1), (0, .ref A_t), (1, .int p0), (3, .int v3_2)]) hx hb dX4_valuesAgainst_82 hl (k := 5) rfl (by first | rfl | decide) (by decide) rfl (fun ls hl => ?_)
            refine lv_goto (tgt := 7) hx hb dX4_valuesAgainst_85 (by decide) ?_
            exact ih (v2_1 ||| ((1 : Int32) <<< (v4_3 &&& 31))) v3_2 (v4_3 + 1) H locs ls hF hP hD hS (lv_sub hl [3, 4, 1, 5, 0] rfl)
          · replace hF := ite_t (bI_t c_11) hF
            refine lv_iconst (v := 0) hx hb dX4_valuesAgainst_67 (by decide) ?_
            refine lv_goto (tgt := 72) hx hb dX4_valuesAgainst_68 (by decide) ?_
            refine lv_istore (lv' := [(5, .int 0), (0, .ref A_t), (1, .int p0), (2, .int v2_1), (3, .int v3_2), (4, .int v4_3)]) hx hb dX4_valuesAgainst_72 hl (by decide) rfl (fun ls hl => ?_)
            refine lv_iload_n hx hb dX4_valuesAgainst_74 rfl (lv_at hl 3 rfl) ?_
            refine lv_iload hx hb dX4_valuesAgainst_75 (lv_at hl 0 rfl) ?_
            refine lv_iload hx hb dX4_valuesAgainst_77 (lv_at hl 5 rfl) ?_
            refine lv_ishl hx hb dX4_valuesAgainst_79 ?_
            refine lv_ior hx hb dX4_valuesAgainst_80 ?_
            refine lv_istore_n (lv' := [(2, .int (v2_1 ||| ((0 : Int32) <<< (v4_3 &&& 31)))), (5, .int 0), (0, .ref A_t), (1, .int p0), (3, .int v3_2), (4, .int v4_3)]) hx hb dX4_valuesAgainst_81 rfl hl (by decide) rfl (fun ls hl => ?_)
            refine lv_iinc (v := (v4_3 + 1)) (lv' := [(4, .int (v4_3 + 1)), (2, .int (v2_1 ||| ((0 : Int32) <<< (v4_3 &&& 31)))), (5, .int 0), (0, .ref A_t), (1, .int p0), (3, .int v3_2)]) hx hb dX4_valuesAgainst_82 hl (k := 5) rfl (by first | rfl | decide) (by decide) rfl (fun ls hl => ?_)
            refine lv_goto (tgt := 7) hx hb dX4_valuesAgainst_85 (by decide) ?_
            exact ih (v2_1 ||| ((0 : Int32) <<< (v4_3 &&& 31))) v3_2 (v4_3 + 1) H locs ls hF hP hD hS (lv_sub hl [3, 4, 1, 5, 0] rfl)
        · replace hF := ite_t c_8 hF
          refine lv_iload_n hx hb dX4_valuesAgainst_32 rfl (lv_at hl 1 rfl) ?_
          refine lv_iload_n hx hb dX4_valuesAgainst_33 rfl (lv_at hl 3 rfl) ?_
          obtain ⟨r_12, hF_13, hF⟩ := ob1_some hF
          refine kcS (As := [.int p0, .int v3_2]) (rest := []) (wr := [(A_t, .inr (4, [.ref A_t_state, .ref A_t_saved, .ref A_t_beaten, .ref A_t_text])), (A_t_state, .inr (3, [.int t_state_variables, .int t_state_breakers, .int t_state_clauses, .ref A_t_state_positive, .ref A_t_state_negative, .int t_state_learned, .int t_state_rounds])), (A_t_beaten, .inr (0, [.ref A_t_beaten_bits, .int (bI t_beaten_stale)])), (A_t_beaten_bits, .inl (cy 1, 4096, .inr (.inl t_beaten_bits)))]) (wsN := (w_X4_valuesAgainst cy A_t A_t_state A_t_saved A_t_beaten A_t_text A_t_state_positive A_t_state_negative A_t_beaten_bits t_state_variables t_state_breakers t_state_clauses t_state_learned t_state_rounds t_beaten_stale t_beaten_bits)) ⟨hx, hb, hml, hown, hts⟩ hE hP hD hS hA hAs [] [0, 1, 2, 3] [0, 1, 2, 3] (c_X4_bit l D cy s0 tW N p0 v3_2 _ hF_13) (gS q_327 q_293 q_83 q_294) hd_X4_bit.2 ⟨Nat.le_of_ble_eq_true rfl, Nat.le_of_ble_eq_true rfl⟩ rfl rfl rfl rfl rfl rfl rfl hl.1 rfl (Nat.le_of_ble_eq_true rfl) dX4_valuesAgainst_34 ⟨Nat.zero_le _, Nat.zero_le _⟩ (fun H locs hP hD hS => ?_)
          refine W.eq (g2 := F0 m 37 ls [.int r_12]) rfl ?_
          refine lv_istore (lv' := [(5, .int r_12), (0, .ref A_t), (1, .int p0), (2, .int v2_1), (3, .int v3_2), (4, .int v4_3)]) hx hb dX4_valuesAgainst_37 hl (by decide) rfl (fun ls hl => ?_)
          refine lv_iinc (v := (v3_2 + 1)) (lv' := [(3, .int (v3_2 + 1)), (5, .int r_12), (0, .ref A_t), (1, .int p0), (2, .int v2_1), (4, .int v4_3)]) hx hb dX4_valuesAgainst_39 hl (k := 4) rfl (by first | rfl | decide) (by decide) rfl (fun ls hl => ?_)
          refine lv_goto (tgt := 74) hx hb dX4_valuesAgainst_42 (by decide) ?_
          refine lv_iload_n hx hb dX4_valuesAgainst_74 rfl (lv_at hl 4 rfl) ?_
          refine lv_iload hx hb dX4_valuesAgainst_75 (lv_at hl 1 rfl) ?_
          refine lv_iload hx hb dX4_valuesAgainst_77 (lv_at hl 5 rfl) ?_
          refine lv_ishl hx hb dX4_valuesAgainst_79 ?_
          refine lv_ior hx hb dX4_valuesAgainst_80 ?_
          refine lv_istore_n (lv' := [(2, .int (v2_1 ||| (r_12 <<< (v4_3 &&& 31)))), (3, .int (v3_2 + 1)), (5, .int r_12), (0, .ref A_t), (1, .int p0), (4, .int v4_3)]) hx hb dX4_valuesAgainst_81 rfl hl (by decide) rfl (fun ls hl => ?_)
          refine lv_iinc (v := (v4_3 + 1)) (lv' := [(4, .int (v4_3 + 1)), (2, .int (v2_1 ||| (r_12 <<< (v4_3 &&& 31)))), (3, .int (v3_2 + 1)), (5, .int r_12), (0, .ref A_t), (1, .int p0)]) hx hb dX4_valuesAgainst_82 hl (k := 5) rfl (by first | rfl | decide) (by decide) rfl (fun ls hl => ?_)
          refine lv_goto (tgt := 7) hx hb dX4_valuesAgainst_85 (by decide) ?_
          exact ih (v2_1 ||| (r_12 <<< (v4_3 &&& 31))) (v3_2 + 1) (v4_3 + 1) H locs ls hF hP hD hS (lv_sub hl [4, 5, 1, 2, 0] rfl)
  refine hloop_7 _ (fun u2_4 H locs ls hF hP hD hS hl => ?_) N 0 0 0 _ _ ls hF hP hD hS (lv_sub hl [3, 4, 2, 1, 0] rfl)
  refine lv_iload_n hx hb dX4_valuesAgainst_88 rfl (lv_at hl 0 rfl) ?_
  cases hF
  exact kret_i hx hb hr hlocks hP hD hS dX4_valuesAgainst_89

theorem q_5 : Cond.selects RX0 yX0_bringUpToDate yX0_bringUpToDate ∈ wAll := wAll_mem 5 (by decide +kernel) (by decide +kernel)
theorem q_13 : Cond.selects RX4 yX4_valuesAgainst yX4_valuesAgainst ∈ wAll := wAll_mem 13 (by decide +kernel) (by decide +kernel)
theorem q_271 : Cond.instanceMethod yX0_bringUpToDate ∈ wAll := wAll_mem 271 (by decide +kernel) (by decide +kernel)
theorem q_272 : Cond.code yX0_bringUpToDate cX0_bringUpToDate 6 none ∈ wAll := wAll_mem 272 (by decide +kernel) (by decide +kernel)
theorem q_322 : Cond.methodLink RX4 173 yX4_valuesAgainst ∈ wAll := wAll_mem 322 (by decide +kernel) (by decide +kernel)
theorem q_324 : Cond.instanceMethod yX4_valuesAgainst ∈ wAll := wAll_mem 324 (by decide +kernel) (by decide +kernel)
theorem q_325 : Cond.code yX4_valuesAgainst cX4_valuesAgainst 6 (some .int) ∈ wAll := wAll_mem 325 (by decide +kernel) (by decide +kernel)
theorem nq_124 {s : State} (h : NW s) : va_Nw (Cond.fieldLinkNest RX4 146 "ForAllGame$State" "rounds" "I" "ForAllGame") s := h.at 124 (by decide +kernel) rfl
theorem nq_269 {s : State} (h : NW s) : va_Nw (Cond.methodLinkNest RX4 149 yX0_bringUpToDate "ForAllGame") s := h.at 269 (by decide +kernel) rfl
theorem nq_317 {s : State} (h : NW s) : va_Nw (Cond.methodLinkNest RX4 116 yX3_plays "ForAllGame") s := h.at 317 (by decide +kernel) rfl
theorem nq_328 {s : State} (h : NW s) : va_Nw (Cond.methodLinkNest RX4 140 yX3_holds "ForAllGame") s := h.at 328 (by decide +kernel) rfl
theorem hd_X0_bringUpToDate : yX0_bringUpToDate.cls = RX0 ∧ yX0_bringUpToDate.cls ≠ "java/lang/invoke/MethodHandle" ∧ yX0_bringUpToDate.cls ≠ "java/lang/invoke/VarHandle" ∧ (parseMethodDescriptor yX0_bringUpToDate.desc).map (fun d => d.parameters.length) = some 1 := by decide +kernel
theorem hd_X4_valuesAgainst : yX4_valuesAgainst.cls = RX4 ∧ yX4_valuesAgainst.cls ≠ "java/lang/invoke/MethodHandle" ∧ yX4_valuesAgainst.cls ≠ "java/lang/invoke/VarHandle" ∧ (parseMethodDescriptor yX4_valuesAgainst.desc).map (fun d => d.parameters.length) = some 1 := by decide +kernel
abbrev w_X4_makeRound (cy : Nat → ClassId) (A_t : Nat) (A_t_state : Nat) (A_t_saved : Nat) (A_t_beaten : Nat) (A_t_text : Nat) (A_t_state_positive : Nat) (A_t_state_negative : Nat) (A_t_beaten_bits : Nat) (t_state_variables : Int32) (t_state_breakers : Int32) (t_state_clauses : Int32) (t_state_learned : Int32) (t_state_rounds : Int32) (t_state_positive : Nat → Int32) (t_state_negative : Nat → Int32) (t_beaten_stale : Bool) (t_beaten_bits : Nat → Int64) : va_W := [(A_t, .inr (4, [.ref A_t_state, .ref A_t_saved, .ref A_t_beaten, .ref A_t_text])), (A_t_state, .inr (3, [.int t_state_variables, .int t_state_breakers, .int t_state_clauses, .ref A_t_state_positive, .ref A_t_state_negative, .int t_state_learned, .int t_state_rounds])), (A_t_state_positive, .inl (cy 0, 20, .inl t_state_positive)), (A_t_state_negative, .inl (cy 0, 20, .inl t_state_negative)), (A_t_beaten, .inr (0, [.ref A_t_beaten_bits, .int (bI t_beaten_stale)])), (A_t_beaten_bits, .inl (cy 1, 4096, .inr (.inl t_beaten_bits)))]
def L_X4_makeRound_55 (N : Nat) (t_state_variables : Int32) (t_state_breakers : Int32) (t_state_clauses : Int32) (t_state_rounds : Int32) (t_state_positive : Nat → Int32) (t_state_negative : Nat → Int32) (t_beaten_bits_1 : Nat → Int64) (t_beaten_stale_2 : Bool) (r_7 : Int32) (kont : Int32 → Option (Int32 × Int32 × Int32 × (Nat → Int64) × Bool)) : Nat → Int32 → Int32 → Option (Int32 × Int32 × Int32 × (Nat → Int64) × Bool)
  | 0, _, _ => none
  | n + 1, v2_9, t_state_learned_10 => (if r_7 ≤ v2_9 then kont t_state_learned_10 else ob1 (F_X4_valuesAgainst N v2_9 t_state_variables t_state_breakers t_state_learned_10 t_beaten_bits_1) (fun r_13 => ob1 (F_X3_holds N r_13 t_state_clauses t_state_positive t_state_negative) (fun r_15 => (if r_15 = true then L_X4_makeRound_55 N t_state_variables t_state_breakers t_state_clauses t_state_rounds t_state_positive t_state_negative t_beaten_bits_1 t_beaten_stale_2 r_7 kont n (v2_9 + 1) t_state_learned_10 else some (v2_9, (t_state_learned_10 ||| ((1 : Int32) <<< (v2_9 &&& 31))), (t_state_rounds + 1), t_beaten_bits_1, t_beaten_stale_2)))))
def F_X4_makeRound (N : Nat) (t_state_variables : Int32) (t_state_breakers : Int32) (t_state_clauses : Int32) (t_state_positive : Nat → Int32) (t_state_negative : Nat → Int32) (t_state_learned : Int32) (t_state_rounds : Int32) (t_beaten_bits : Nat → Int64) (t_beaten_stale : Bool) : Option (Int32 × Int32 × Int32 × (Nat → Int64) × Bool) :=
  ob2 (F_X0_bringUpToDate N t_beaten_bits t_beaten_stale t_state_variables t_state_breakers t_state_clauses t_state_positive t_state_negative) (fun t_beaten_bits_1 t_beaten_stale_2 => ob1 (F_X0_has N 0 0 t_state_learned t_beaten_bits_1) (fun r_4 => (if r_4 = true then ob1 (F_X3_plays N t_state_breakers) (fun r_7 => (L_X4_makeRound_55 N t_state_variables t_state_breakers t_state_clauses t_state_rounds t_state_positive t_state_negative t_beaten_bits_1 t_beaten_stale_2 r_7 (fun t_state_learned_11 => some ((-2), t_state_learned_11, (t_state_rounds + 1), t_beaten_bits_1, t_beaten_stale_2)) N 0 t_state_learned)) else some ((-1), t_state_learned, (t_state_rounds + 1), t_beaten_bits_1, t_beaten_stale_2))))
set_option maxHeartbeats 4000000 in
set_option maxRecDepth 100000 in
theorem c_X4_makeRound (l : Launch) (D : va_G) (cy : Nat → ClassId) (s0 tW N : Nat) (A_t : Nat) (A_t_state : Nat) (A_t_saved : Nat) (A_t_beaten : Nat) (A_t_text : Nat) (A_t_state_positive : Nat) (A_t_state_negative : Nat) (A_t_beaten_bits : Nat) (t_state_variables : Int32) (t_state_breakers : Int32) (t_state_clauses : Int32) (t_state_learned : Int32) (t_state_rounds : Int32) (t_state_positive : Nat → Int32) (t_state_negative : Nat → Int32) (t_beaten_stale : Bool) (t_beaten_bits : Nat → Int64) (sz : Nat) {r9 : Int32} {t_state_learned9 : Int32} {t_state_rounds9 : Int32} {t_beaten_bits9 : Nat → Int64} {t_beaten_stale9 : Bool} (hF : F_X4_makeRound N t_state_variables t_state_breakers t_state_clauses t_state_positive t_state_negative t_state_learned t_state_rounds t_beaten_bits t_beaten_stale = some (r9, t_state_learned9, t_state_rounds9, t_beaten_bits9, t_beaten_stale9)) : KM l D cy s0 tW yX4_makeRound cX4_makeRound 3 (some .int) 4 96 [.ref A_t] sz (w_X4_makeRound cy A_t A_t_state A_t_saved A_t_beaten A_t_text A_t_state_positive A_t_state_negative A_t_beaten_bits t_state_variables t_state_breakers t_state_clauses t_state_learned t_state_rounds t_state_positive t_state_negative t_beaten_stale t_beaten_bits) (some (.int r9)) (w_X4_makeRound cy A_t A_t_state A_t_saved A_t_beaten A_t_text A_t_state_positive A_t_state_negative A_t_beaten_bits t_state_variables t_state_breakers t_state_clauses t_state_learned9 t_state_rounds9 t_state_positive t_state_negative t_beaten_stale9 t_beaten_bits9) := by
  refine KM.intro rfl (Nat.le_of_ble_eq_true rfl) ?_
  intro p e s m args below meth c A ls hx hb hr hml hown hts hlocks hE hP hD hS hA hAs hl
  have hK := hE.1
  have hl : lv_has ls 3 [(0, .ref A_t)] := hl
  unfold F_X4_makeRound at hF
  refine lv_aload_n hx hb dX4_makeRound_0 rfl (lv_at hl 0 rfl) ?_
  refine va_get (D := D) (ci := 4) (v := .ref A_t_beaten) (C := RX4) (T := TX4) (N := 4) hx hb hts inX4 hown hK hP 0 rfl rfl 2 (by decide) (hts _ q_214) (fun _ h9 => h9) rfl dX4_makeRound_1 ?_
  refine lv_aload_n hx hb dX4_makeRound_4 rfl (lv_at hl 0 rfl) ?_
  refine va_get (D := D) (ci := 4) (v := .ref A_t_state) (C := RX4) (T := TX4) (N := 4) hx hb hts inX4 hown hK hP 0 rfl rfl 0 (by decide) (hts _ q_212) (fun _ h9 => h9) rfl dX4_makeRound_5 ?_
  obtain ⟨t_beaten_bits_1, t_beaten_stale_2, hF_3, hF⟩ := ob2_some hF
  refine kcVN (q := (RX0, TX0, 2)) (ci := 0) (q0 := 4) (As := [.ref A_t_state]) (rest := []) (wr := [(A_t, .inr (4, [.ref A_t_state, .ref A_t_saved, .ref A_t_beaten, .ref A_t_text]))]) (wsN := (w_X4_makeRound cy A_t A_t_state A_t_saved A_t_beaten A_t_text A_t_state_positive A_t_state_negative A_t_beaten_bits t_state_variables t_state_breakers t_state_clauses t_state_learned t_state_rounds t_state_positive t_state_negative t_beaten_stale_2 t_beaten_bits_1)) ⟨hx, hb, hml, hown, hts⟩ hE hP hD hS hA hAs [4, 5, 1, 2, 3] [0] [0, 3, 4, 5, 1, 2] (c_X0_bringUpToDate l D cy s0 tW N A_t_beaten A_t_beaten_bits A_t_state A_t_state_positive A_t_state_negative t_beaten_stale t_beaten_bits t_state_variables t_state_breakers t_state_clauses t_state_learned t_state_rounds t_state_positive t_state_negative _ hF_3) q_272 q_86 q_271 q_5 (nq_269 hE.2.1) hd_X0_bringUpToDate.2 ⟨Nat.le_of_ble_eq_true rfl, Nat.le_of_ble_eq_true rfl⟩ rfl rfl rfl rfl rfl rfl rfl rfl rfl hl.1 rfl (Nat.le_of_ble_eq_true rfl) dX4_makeRound_8 ⟨Nat.zero_le _, Nat.zero_le _⟩ (fun H locs hP hD hS => ?_)
  refine W.eq (g2 := F0 m 11 ls []) rfl ?_
  refine lv_aload_n hx hb dX4_makeRound_11 rfl (lv_at hl 0 rfl) ?_
  refine va_get (D := D) (ci := 4) (v := .ref A_t_state) (C := RX4) (T := TX4) (N := 4) hx hb hts inX4 hown hK hP 0 rfl rfl 0 (by decide) (hts _ q_212) (fun _ h9 => h9) rfl dX4_makeRound_12 ?_
  refine lv_dup hx hb dX4_makeRound_15 rfl ?_
  refine va_getN (D := D) (ci := 3) (v := .int t_state_rounds) (C := RX3) (T := TX3) (N := 7) hx hb hts inX3 hown hK hP 1 rfl rfl 6 (by decide) (va_Nw.use rfl (nq_124 hE.2.1)) (fun _ h9 => h9) rfl dX4_makeRound_16 ?_
  refine lv_iconst (v := 1) hx hb dX4_makeRound_19 (by decide) ?_
  refine lv_iadd hx hb dX4_makeRound_20 ?_
  refine ka_putN (ci := 3) (v := .int (t_state_rounds + 1)) (ty := .int) (C := RX3) (T := TX3) (N := 7) (wsN := (w_X4_makeRound cy A_t A_t_state A_t_saved A_t_beaten A_t_text A_t_state_positive A_t_state_negative A_t_beaten_bits t_state_variables t_state_breakers t_state_clauses t_state_learned (t_state_rounds + 1) t_state_positive t_state_negative t_beaten_stale_2 t_beaten_bits_1)) hx hb hts inX3 tyX3 tyX3_ok nmX3 hown hK hP hD hS 1 rfl rfl 6 (by decide) (va_Nw.use rfl (nq_124 hE.2.1)) (fun _ h9 => h9) rfl (by decide +kernel) rfl rfl (Nat.le_of_ble_eq_true rfl) rfl dX4_makeRound_21 (fun H locs hP hD hS => ?_)
  refine lv_aload_n hx hb dX4_makeRound_24 rfl (lv_at hl 0 rfl) ?_
  refine va_get (D := D) (ci := 4) (v := .ref A_t_beaten) (C := RX4) (T := TX4) (N := 4) hx hb hts inX4 hown hK hP 0 rfl rfl 2 (by decide) (hts _ q_214) (fun _ h9 => h9) rfl dX4_makeRound_25 ?_
  refine lv_iconst (v := 0) hx hb dX4_makeRound_28 (by decide) ?_
  refine lv_iconst (v := 0) hx hb dX4_makeRound_29 (by decide) ?_
  refine lv_aload_n hx hb dX4_makeRound_30 rfl (lv_at hl 0 rfl) ?_
  refine va_get (D := D) (ci := 4) (v := .ref A_t_state) (C := RX4) (T := TX4) (N := 4) hx hb hts inX4 hown hK hP 0 rfl rfl 0 (by decide) (hts _ q_212) (fun _ h9 => h9) rfl dX4_makeRound_31 ?_
  refine va_getN (D := D) (ci := 3) (v := .int t_state_learned) (C := RX3) (T := TX3) (N := 7) hx hb hts inX3 hown hK hP 1 rfl rfl 5 (by decide) (va_Nw.use rfl (nq_122 hE.2.1)) (fun _ h9 => h9) rfl dX4_makeRound_34 ?_
  obtain ⟨r_4, hF_5, hF⟩ := ob1_some hF
  refine kcVN (q := (RX0, TX0, 2)) (ci := 0) (q0 := 4) (As := [.int 0, .int 0, .int t_state_learned]) (rest := []) (wr := [(A_t, .inr (4, [.ref A_t_state, .ref A_t_saved, .ref A_t_beaten, .ref A_t_text])), (A_t_state, .inr (3, [.int t_state_variables, .int t_state_breakers, .int t_state_clauses, .ref A_t_state_positive, .ref A_t_state_negative, .int t_state_learned, .int (t_state_rounds + 1)])), (A_t_state_positive, .inl (cy 0, 20, .inl t_state_positive)), (A_t_state_negative, .inl (cy 0, 20, .inl t_state_negative))]) (wsN := (w_X4_makeRound cy A_t A_t_state A_t_saved A_t_beaten A_t_text A_t_state_positive A_t_state_negative A_t_beaten_bits t_state_variables t_state_breakers t_state_clauses t_state_learned (t_state_rounds + 1) t_state_positive t_state_negative t_beaten_stale_2 t_beaten_bits_1)) ⟨hx, hb, hml, hown, hts⟩ hE hP hD hS hA hAs [4, 5] [0, 1, 2, 3] [0, 1, 2, 3, 4, 5] (c_X0_has l D cy s0 tW N A_t_beaten A_t_beaten_bits 0 0 t_state_learned t_beaten_stale_2 t_beaten_bits_1 _ hF_5) q_316 q_86 q_315 q_11 (nq_313 hE.2.1) hd_X0_has.2 ⟨Nat.le_of_ble_eq_true rfl, Nat.le_of_ble_eq_true rfl⟩ rfl rfl rfl rfl rfl rfl rfl rfl rfl hl.1 rfl (Nat.le_of_ble_eq_true rfl) dX4_makeRound_37 ⟨Nat.zero_le _, Nat.zero_le _⟩ (fun H locs hP hD hS => ?_)
  refine W.eq (g2 := F0 m 40 ls [.int (bI r_4)]) rfl ?_
  refine lv_if_ne (tgt := 45) hx hb dX4_makeRound_40 (by decide) (fun c_6 => ?_) (fun c_6 => ?_)
  · replace hF := ite_t (bI_t c_6) hF
    refine lv_aload_n hx hb dX4_makeRound_45 rfl (lv_at hl 0 rfl) ?_
    refine va_get (D := D) (ci := 4) (v := .ref A_t_state) (C := RX4) (T := TX4) (N := 4) hx hb hts inX4 hown hK hP 0 rfl rfl 0 (by decide) (hts _ q_212) (fun _ h9 => h9) rfl dX4_makeRound_46 ?_
    obtain ⟨r_7, hF_8, hF⟩ := ob1_some hF
    refine kcVN (q := (RX3, TX3, 7)) (ci := 3) (q0 := 1) (As := []) (rest := []) (wr := [(A_t, .inr (4, [.ref A_t_state, .ref A_t_saved, .ref A_t_beaten, .ref A_t_text])), (A_t_state_positive, .inl (cy 0, 20, .inl t_state_positive)), (A_t_state_negative, .inl (cy 0, 20, .inl t_state_negative)), (A_t_beaten, .inr (0, [.ref A_t_beaten_bits, .int (bI t_beaten_stale_2)])), (A_t_beaten_bits, .inl (cy 1, 4096, .inr (.inl t_beaten_bits_1)))]) (wsN := (w_X4_makeRound cy A_t A_t_state A_t_saved A_t_beaten A_t_text A_t_state_positive A_t_state_negative A_t_beaten_bits t_state_variables t_state_breakers t_state_clauses t_state_learned (t_state_rounds + 1) t_state_positive t_state_negative t_beaten_stale_2 t_beaten_bits_1)) ⟨hx, hb, hml, hown, hts⟩ hE hP hD hS hA hAs [1] [0, 2, 3, 4, 5] [0, 5, 1, 2, 3, 4] (c_X3_plays l D cy s0 tW N A_t_state A_t_state_positive A_t_state_negative t_state_variables t_state_breakers t_state_clauses t_state_learned (t_state_rounds + 1) _ hF_8) q_320 q_84 q_319 q_12 (nq_317 hE.2.1) hd_X3_plays.2 ⟨Nat.le_of_ble_eq_true rfl, Nat.le_of_ble_eq_true rfl⟩ rfl rfl rfl rfl rfl rfl rfl rfl rfl hl.1 rfl (Nat.le_of_ble_eq_true rfl) dX4_makeRound_49 ⟨Nat.zero_le _, Nat.zero_le _⟩ (fun H locs hP hD hS => ?_)
    refine W.eq (g2 := F0 m 52 ls [.int r_7]) rfl ?_
    refine lv_istore_n (lv' := [(1, .int r_7), (0, .ref A_t)]) hx hb dX4_makeRound_52 rfl hl (by decide) rfl (fun ls hl => ?_)
    refine lv_iconst (v := 0) hx hb dX4_makeRound_53 (by decide) ?_
    refine lv_istore_n (lv' := [(2, .int 0), (1, .int r_7), (0, .ref A_t)]) hx hb dX4_makeRound_54 rfl hl (by decide) rfl (fun ls hl => ?_)
    have hloop_55 : ∀ (kont : Int32 → Option (Int32 × Int32 × Int32 × (Nat → Int64) × Bool)), (∀ (t_state_learned_11 : Int32) (H : Heap) (locs : List Loc) (ls : Array Slot), kont t_state_learned_11 = some (r9, t_state_learned9, t_state_rounds9, t_beaten_bits9, t_beaten_stale9) → va_P D vwCl (w_X4_makeRound cy A_t A_t_state A_t_saved A_t_beaten A_t_text A_t_state_positive A_t_state_negative A_t_beaten_bits t_state_variables t_state_breakers t_state_clauses t_state_learned_11 (t_state_rounds + 1) t_state_positive t_state_negative t_beaten_stale_2 t_beaten_bits_1) H → va_D A (w_X4_makeRound cy A_t A_t_state A_t_saved A_t_beaten A_t_text A_t_state_positive A_t_state_negative A_t_beaten_bits t_state_variables t_state_breakers t_state_clauses t_state_learned_11 (t_state_rounds + 1) t_state_positive t_state_negative t_beaten_stale_2 t_beaten_bits_1) → va_S A s.heap H locs → lv_has ls 3 [] → W p l e (rmK 4 96) s m args below meth c H locs 0 0 (MQ below (kQ (some (.int r9)) D A (w_X4_makeRound cy A_t A_t_state A_t_saved A_t_beaten A_t_text A_t_state_positive A_t_state_negative A_t_beaten_bits t_state_variables t_state_breakers t_state_clauses t_state_learned9 t_state_rounds9 t_state_positive t_state_negative t_beaten_stale9 t_beaten_bits9)) args s 0 0 A) (F0 m 98 ls [])) → ∀ (n : Nat) (v2_9 : Int32) (t_state_learned_10 : Int32) (H : Heap) (locs : List Loc) (ls : Array Slot), L_X4_makeRound_55 N t_state_variables t_state_breakers t_state_clauses t_state_rounds t_state_positive t_state_negative t_beaten_bits_1 t_beaten_stale_2 r_7 kont n v2_9 t_state_learned_10 = some (r9, t_state_learned9, t_state_rounds9, t_beaten_bits9, t_beaten_stale9) → va_P D vwCl (w_X4_makeRound cy A_t A_t_state A_t_saved A_t_beaten A_t_text A_t_state_positive A_t_state_negative A_t_beaten_bits t_state_variables t_state_breakers t_state_clauses t_state_learned_10 (t_state_rounds + 1) t_state_positive t_state_negative t_beaten_stale_2 t_beaten_bits_1) H → va_D A (w_X4_makeRound cy A_t A_t_state A_t_saved A_t_beaten A_t_text A_t_state_positive A_t_state_negative A_t_beaten_bits t_state_variables t_state_breakers t_state_clauses t_state_learned_10 (t_state_rounds + 1) t_state_positive t_state_negative t_beaten_stale_2 t_beaten_bits_1) → va_S A s.heap H locs → lv_has ls 3 [(0, .ref A_t), (1, .int r_7), (2, .int v2_9)] → W p l e (rmK 4 96) s m args below meth c H locs 0 0 (MQ below (kQ (some (.int r9)) D A (w_X4_makeRound cy A_t A_t_state A_t_saved A_t_beaten A_t_text A_t_state_positive A_t_state_negative A_t_beaten_bits t_state_variables t_state_breakers t_state_clauses t_state_learned9 t_state_rounds9 t_state_positive t_state_negative t_beaten_stale9 t_beaten_bits9)) args s 0 0 A) (F0 m 55 ls []) := by
      intro kont hexit_55 n
      induction n with
      | zero =>
        intro v2_9 t_state_learned_10 H locs ls hF
        rw [L_X4_makeRound_55] at hF
        cases hF
      | succ n ih =>
        intro v2_9 t_state_learned_10 H locs ls hF hP hD hS hl
        rw [L_X4_makeRound_55] at hF
        refine lv_iload_n hx hb dX4_makeRound_55 rfl (lv_at hl 2 rfl) ?_
        refine lv_iload_n hx hb dX4_makeRound_56 rfl (lv_at hl 1 rfl) ?_
        refine lv_icmp_ge (tgt := 98) hx hb dX4_makeRound_57 (by decide) (fun c_12 => ?_) (fun c_12 => ?_)
        · replace hF := ite_t c_12 hF
          exact hexit_55 t_state_learned_10 H locs ls hF hP hD hS (lv_sub hl [] rfl)
        · replace hF := ite_f c_12 hF
          refine lv_aload_n hx hb dX4_makeRound_60 rfl (lv_at hl 0 rfl) ?_
          refine va_get (D := D) (ci := 4) (v := .ref A_t_state) (C := RX4) (T := TX4) (N := 4) hx hb hts inX4 hown hK hP 0 rfl rfl 0 (by decide) (hts _ q_212) (fun _ h9 => h9) rfl dX4_makeRound_61 ?_
          refine lv_aload_n hx hb dX4_makeRound_64 rfl (lv_at hl 0 rfl) ?_
          refine lv_iload_n hx hb dX4_makeRound_65 rfl (lv_at hl 2 rfl) ?_
          obtain ⟨r_13, hF_14, hF⟩ := ob1_some hF
          refine kcV (q := (RX4, TX4, 4)) (ci := 4) (q0 := 0) (As := [.int v2_9]) (rest := [.ref A_t_state]) (wr := [(A_t_state_positive, .inl (cy 0, 20, .inl t_state_positive)), (A_t_state_negative, .inl (cy 0, 20, .inl t_state_negative))]) (wsN := (w_X4_makeRound cy A_t A_t_state A_t_saved A_t_beaten A_t_text A_t_state_positive A_t_state_negative A_t_beaten_bits t_state_variables t_state_breakers t_state_clauses t_state_learned_10 (t_state_rounds + 1) t_state_positive t_state_negative t_beaten_stale_2 t_beaten_bits_1)) ⟨hx, hb, hml, hown, hts⟩ hE hP hD hS hA hAs [0, 1, 4, 5] [2, 3] [2, 3, 0, 1, 4, 5] (c_X4_valuesAgainst l D cy s0 tW N A_t A_t_state A_t_saved A_t_beaten A_t_text A_t_state_positive A_t_state_negative A_t_beaten_bits v2_9 t_state_variables t_state_breakers t_state_clauses t_state_learned_10 (t_state_rounds + 1) t_beaten_stale_2 t_beaten_bits_1 _ hF_14) (gV q_322 q_324 q_13 q_83 q_325) hd_X4_valuesAgainst ⟨Nat.le_of_ble_eq_true rfl, Nat.le_of_ble_eq_true rfl⟩ rfl rfl rfl rfl rfl rfl rfl rfl rfl hl.1 rfl (Nat.le_of_ble_eq_true rfl) dX4_makeRound_66 ⟨Nat.zero_le _, Nat.zero_le _⟩ (fun H locs hP hD hS => ?_)
          refine W.eq (g2 := F0 m 69 ls [.int r_13, .ref A_t_state]) rfl ?_
          obtain ⟨r_15, hF_16, hF⟩ := ob1_some hF
          refine kcVN (q := (RX3, TX3, 7)) (ci := 3) (q0 := 1) (As := [.int r_13]) (rest := []) (wr := [(A_t, .inr (4, [.ref A_t_state, .ref A_t_saved, .ref A_t_beaten, .ref A_t_text])), (A_t_beaten, .inr (0, [.ref A_t_beaten_bits, .int (bI t_beaten_stale_2)])), (A_t_beaten_bits, .inl (cy 1, 4096, .inr (.inl t_beaten_bits_1)))]) (wsN := (w_X4_makeRound cy A_t A_t_state A_t_saved A_t_beaten A_t_text A_t_state_positive A_t_state_negative A_t_beaten_bits t_state_variables t_state_breakers t_state_clauses t_state_learned_10 (t_state_rounds + 1) t_state_positive t_state_negative t_beaten_stale_2 t_beaten_bits_1)) ⟨hx, hb, hml, hown, hts⟩ hE hP hD hS hA hAs [1, 2, 3] [0, 4, 5] [0, 3, 4, 5, 1, 2] (c_X3_holds l D cy s0 tW N A_t_state A_t_state_positive A_t_state_negative r_13 t_state_variables t_state_breakers t_state_clauses t_state_learned_10 (t_state_rounds + 1) t_state_positive t_state_negative _ hF_16) q_283 q_84 q_282 q_7 (nq_328 hE.2.1) hd_X3_holds.2 ⟨Nat.le_of_ble_eq_true rfl, Nat.le_of_ble_eq_true rfl⟩ rfl rfl rfl rfl rfl rfl rfl rfl rfl hl.1 rfl (Nat.le_of_ble_eq_true rfl) dX4_makeRound_69 ⟨Nat.zero_le _, Nat.zero_le _⟩ (fun H locs hP hD hS => ?_)
          refine W.eq (g2 := F0 m 72 ls [.int (bI r_15)]) rfl ?_
          refine lv_if_ne (tgt := 92) hx hb dX4_makeRound_72 (by decide) (fun c_17 => ?_) (fun c_17 => ?_)
          · replace hF := ite_t (bI_t c_17) hF
            refine lv_iinc (v := (v2_9 + 1)) (lv' := [(2, .int (v2_9 + 1)), (0, .ref A_t), (1, .int r_7)]) hx hb dX4_makeRound_92 hl (k := 2) rfl (by first | rfl | decide) (by decide) rfl (fun ls hl => ?_)
            refine lv_goto (tgt := 55) hx hb dX4_makeRound_95 (by decide) ?_
            exact ih (v2_9 + 1) t_state_learned_10 H locs ls hF hP hD hS (lv_sub hl [1, 2, 0] rfl)
          · replace hF := ite_f (bI_f c_17) hF
            refine lv_aload_n hx hb dX4_makeRound_75 rfl (lv_at hl 0 rfl) ?_
            refine va_get (D := D) (ci := 4) (v := .ref A_t_state) (C := RX4) (T := TX4) (N := 4) hx hb hts inX4 hown hK hP 0 rfl rfl 0 (by decide) (hts _ q_212) (fun _ h9 => h9) rfl dX4_makeRound_76 ?_
            refine lv_dup hx hb dX4_makeRound_79 rfl ?_
            refine va_getN (D := D) (ci := 3) (v := .int t_state_learned_10) (C := RX3) (T := TX3) (N := 7) hx hb hts inX3 hown hK hP 1 rfl rfl 5 (by decide) (va_Nw.use rfl (nq_122 hE.2.1)) (fun _ h9 => h9) rfl dX4_makeRound_80 ?_
            refine lv_iconst (v := 1) hx hb dX4_makeRound_83 (by decide) ?_
            refine lv_iload_n hx hb dX4_makeRound_84 rfl (lv_at hl 2 rfl) ?_
            refine lv_ishl hx hb dX4_makeRound_85 ?_
            refine lv_ior hx hb dX4_makeRound_86 ?_
            refine ka_putN (ci := 3) (v := .int (t_state_learned_10 ||| ((1 : Int32) <<< (v2_9 &&& 31)))) (ty := .int) (C := RX3) (T := TX3) (N := 7) (wsN := (w_X4_makeRound cy A_t A_t_state A_t_saved A_t_beaten A_t_text A_t_state_positive A_t_state_negative A_t_beaten_bits t_state_variables t_state_breakers t_state_clauses (t_state_learned_10 ||| ((1 : Int32) <<< (v2_9 &&& 31))) (t_state_rounds + 1) t_state_positive t_state_negative t_beaten_stale_2 t_beaten_bits_1)) hx hb hts inX3 tyX3 tyX3_ok nmX3 hown hK hP hD hS 1 rfl rfl 5 (by decide) (va_Nw.use rfl (nq_122 hE.2.1)) (fun _ h9 => h9) rfl (by decide +kernel) rfl rfl (Nat.le_of_ble_eq_true rfl) rfl dX4_makeRound_87 (fun H locs hP hD hS => ?_)
            refine lv_iload_n hx hb dX4_makeRound_90 rfl (lv_at hl 2 rfl) ?_
            cases hF
            exact kret_i hx hb hr hlocks hP hD hS dX4_makeRound_91
    refine hloop_55 _ (fun t_state_learned_11 H locs ls hF hP hD hS hl => ?_) N 0 t_state_learned _ _ ls hF hP hD hS (lv_sub hl [2, 1, 0] rfl)
    refine lv_bipush (v := (-2)) hx hb dX4_makeRound_98 (by decide) ?_
    cases hF
    exact kret_i hx hb hr hlocks hP hD hS dX4_makeRound_100
  · replace hF := ite_f (bI_f c_6) hF
    refine lv_iconst (v := (-1)) hx hb dX4_makeRound_43 (by decide) ?_
    cases hF
    exact kret_i hx hb hr hlocks hP hD hS dX4_makeRound_44

theorem q_4 : Cond.selects RX4 yX4_makeRound yX4_makeRound ∈ wAll := wAll_mem 4 (by decide +kernel) (by decide +kernel)
theorem q_265 : Cond.methodLink RX4 112 yX4_makeRound ∈ wAll := wAll_mem 265 (by decide +kernel) (by decide +kernel)
theorem q_267 : Cond.instanceMethod yX4_makeRound ∈ wAll := wAll_mem 267 (by decide +kernel) (by decide +kernel)
theorem q_268 : Cond.code yX4_makeRound cX4_makeRound 3 (some .int) ∈ wAll := wAll_mem 268 (by decide +kernel) (by decide +kernel)
theorem hd_X4_makeRound : yX4_makeRound.cls = RX4 ∧ yX4_makeRound.cls ≠ "java/lang/invoke/MethodHandle" ∧ yX4_makeRound.cls ≠ "java/lang/invoke/VarHandle" ∧ (parseMethodDescriptor yX4_makeRound.desc).map (fun d => d.parameters.length) = some 0 := by decide +kernel
abbrev w_X4_round (cy : Nat → ClassId) (A_t : Nat) (A_t_state : Nat) (A_t_saved : Nat) (A_t_beaten : Nat) (A_t_text : Nat) (A_t_state_positive : Nat) (A_t_state_negative : Nat) (A_t_saved_ring : Nat → Nat) (A_t_beaten_bits : Nat) (t_state_variables : Int32) (t_state_breakers : Int32) (t_state_clauses : Int32) (t_state_learned : Int32) (t_state_rounds : Int32) (t_state_positive : Nat → Int32) (t_state_negative : Nat → Int32) (t_saved_oldest : Int32) (t_saved_count : Int32) (t_saved_ring : Nat → StT) (t_beaten_stale : Bool) (t_beaten_bits : Nat → Int64) : va_W := [(A_t, .inr (4, [.ref A_t_state, .ref A_t_saved, .ref A_t_beaten, .ref A_t_text])), (A_t_state, .inr (3, [.int t_state_variables, .int t_state_breakers, .int t_state_clauses, .ref A_t_state_positive, .ref A_t_state_negative, .int t_state_learned, .int t_state_rounds])), (A_t_state_positive, .inl (cy 0, 20, .inl t_state_positive)), (A_t_state_negative, .inl (cy 0, 20, .inl t_state_negative)), (A_t_saved, .inr (2, [.ref (A_t_saved_ring 0), .int t_saved_oldest, .int t_saved_count])), (A_t_saved_ring 0, .inl (cy 4, 4, .inr (.inr (.inr (.inr (rg4 A_t_saved_ring)))))), (A_t_saved_ring 1, .inr (3, [.int (t_saved_ring 0).1, .int (t_saved_ring 0).2.1, .int (t_saved_ring 0).2.2.1, .ref (A_t_saved_ring 2), .ref (A_t_saved_ring 3), .int (t_saved_ring 0).2.2.2.2.2.1, .int (t_saved_ring 0).2.2.2.2.2.2])), (A_t_saved_ring 2, .inl (cy 0, 20, .inl (t_saved_ring 0).2.2.2.1)), (A_t_saved_ring 3, .inl (cy 0, 20, .inl (t_saved_ring 0).2.2.2.2.1)), (A_t_saved_ring 4, .inr (3, [.int (t_saved_ring 1).1, .int (t_saved_ring 1).2.1, .int (t_saved_ring 1).2.2.1, .ref (A_t_saved_ring 5), .ref (A_t_saved_ring 6), .int (t_saved_ring 1).2.2.2.2.2.1, .int (t_saved_ring 1).2.2.2.2.2.2])), (A_t_saved_ring 5, .inl (cy 0, 20, .inl (t_saved_ring 1).2.2.2.1)), (A_t_saved_ring 6, .inl (cy 0, 20, .inl (t_saved_ring 1).2.2.2.2.1)), (A_t_saved_ring 7, .inr (3, [.int (t_saved_ring 2).1, .int (t_saved_ring 2).2.1, .int (t_saved_ring 2).2.2.1, .ref (A_t_saved_ring 8), .ref (A_t_saved_ring 9), .int (t_saved_ring 2).2.2.2.2.2.1, .int (t_saved_ring 2).2.2.2.2.2.2])), (A_t_saved_ring 8, .inl (cy 0, 20, .inl (t_saved_ring 2).2.2.2.1)), (A_t_saved_ring 9, .inl (cy 0, 20, .inl (t_saved_ring 2).2.2.2.2.1)), (A_t_saved_ring 10, .inr (3, [.int (t_saved_ring 3).1, .int (t_saved_ring 3).2.1, .int (t_saved_ring 3).2.2.1, .ref (A_t_saved_ring 11), .ref (A_t_saved_ring 12), .int (t_saved_ring 3).2.2.2.2.2.1, .int (t_saved_ring 3).2.2.2.2.2.2])), (A_t_saved_ring 11, .inl (cy 0, 20, .inl (t_saved_ring 3).2.2.2.1)), (A_t_saved_ring 12, .inl (cy 0, 20, .inl (t_saved_ring 3).2.2.2.2.1)), (A_t_beaten, .inr (0, [.ref A_t_beaten_bits, .int (bI t_beaten_stale)])), (A_t_beaten_bits, .inl (cy 1, 4096, .inr (.inl t_beaten_bits)))]
def F_X4_round (N : Nat) (t_state_variables : Int32) (t_state_breakers : Int32) (t_state_clauses : Int32) (t_state_positive : Nat → Int32) (t_state_negative : Nat → Int32) (t_state_learned : Int32) (t_state_rounds : Int32) (t_saved_ring : Nat → StT) (t_saved_oldest : Int32) (t_saved_count : Int32) (t_beaten_bits : Nat → Int64) (t_beaten_stale : Bool) : Option (Int32 × Int32 × Int32 × (Nat → StT) × Int32 × Int32 × (Nat → Int64) × Bool) :=
  ob3 (F_X2_push N t_saved_ring t_saved_oldest t_saved_count t_state_variables t_state_breakers t_state_clauses t_state_positive t_state_negative t_state_learned t_state_rounds) (fun t_saved_ring_1 t_saved_oldest_2 t_saved_count_3 => ob5 (F_X4_makeRound N t_state_variables t_state_breakers t_state_clauses t_state_positive t_state_negative t_state_learned t_state_rounds t_beaten_bits t_beaten_stale) (fun r_5 t_state_learned_6 t_state_rounds_7 t_beaten_bits_8 t_beaten_stale_9 => some (r_5, t_state_learned_6, t_state_rounds_7, t_saved_ring_1, t_saved_oldest_2, t_saved_count_3, t_beaten_bits_8, t_beaten_stale_9)))
set_option maxHeartbeats 4000000 in
set_option maxRecDepth 100000 in
theorem c_X4_round (l : Launch) (D : va_G) (cy : Nat → ClassId) (s0 tW N : Nat) (A_t : Nat) (A_t_state : Nat) (A_t_saved : Nat) (A_t_beaten : Nat) (A_t_text : Nat) (A_t_state_positive : Nat) (A_t_state_negative : Nat) (A_t_saved_ring : Nat → Nat) (A_t_beaten_bits : Nat) (t_state_variables : Int32) (t_state_breakers : Int32) (t_state_clauses : Int32) (t_state_learned : Int32) (t_state_rounds : Int32) (t_state_positive : Nat → Int32) (t_state_negative : Nat → Int32) (t_saved_oldest : Int32) (t_saved_count : Int32) (t_saved_ring : Nat → StT) (t_beaten_stale : Bool) (t_beaten_bits : Nat → Int64) (sz : Nat) {r9 : Int32} {t_state_learned9 : Int32} {t_state_rounds9 : Int32} {t_saved_ring9 : Nat → StT} {t_saved_oldest9 : Int32} {t_saved_count9 : Int32} {t_beaten_bits9 : Nat → Int64} {t_beaten_stale9 : Bool} (hF : F_X4_round N t_state_variables t_state_breakers t_state_clauses t_state_positive t_state_negative t_state_learned t_state_rounds t_saved_ring t_saved_oldest t_saved_count t_beaten_bits t_beaten_stale = some (r9, t_state_learned9, t_state_rounds9, t_saved_ring9, t_saved_oldest9, t_saved_count9, t_beaten_bits9, t_beaten_stale9)) : KM l D cy s0 tW yX4_round cX4_round 1 (some .int) 5 118 [.ref A_t] sz (w_X4_round cy A_t A_t_state A_t_saved A_t_beaten A_t_text A_t_state_positive A_t_state_negative A_t_saved_ring A_t_beaten_bits t_state_variables t_state_breakers t_state_clauses t_state_learned t_state_rounds t_state_positive t_state_negative t_saved_oldest t_saved_count t_saved_ring t_beaten_stale t_beaten_bits) (some (.int r9)) (w_X4_round cy A_t A_t_state A_t_saved A_t_beaten A_t_text A_t_state_positive A_t_state_negative A_t_saved_ring A_t_beaten_bits t_state_variables t_state_breakers t_state_clauses t_state_learned9 t_state_rounds9 t_state_positive t_state_negative t_saved_oldest9 t_saved_count9 t_saved_ring9 t_beaten_stale9 t_beaten_bits9) := by
  refine KM.intro rfl (Nat.le_of_ble_eq_true rfl) ?_
  intro p e s m args below meth c A ls hx hb hr hml hown hts hlocks hE hP hD hS hA hAs hl
  have hK := hE.1
  have hl : lv_has ls 1 [(0, .ref A_t)] := hl
  unfold F_X4_round at hF
  refine lv_aload_n hx hb dX4_round_0 rfl (lv_at hl 0 rfl) ?_
  refine va_get (D := D) (ci := 4) (v := .ref A_t_saved) (C := RX4) (T := TX4) (N := 4) hx hb hts inX4 hown hK hP 0 rfl rfl 1 (by decide) (hts _ q_213) (fun _ h9 => h9) rfl dX4_round_1 ?_
  refine lv_aload_n hx hb dX4_round_4 rfl (lv_at hl 0 rfl) ?_
  refine va_get (D := D) (ci := 4) (v := .ref A_t_state) (C := RX4) (T := TX4) (N := 4) hx hb hts inX4 hown hK hP 0 rfl rfl 0 (by decide) (hts _ q_212) (fun _ h9 => h9) rfl dX4_round_5 ?_
  obtain ⟨t_saved_ring_1, t_saved_oldest_2, t_saved_count_3, hF_4, hF⟩ := ob3_some hF
  refine kcVN (q := (RX2, TX2, 3)) (ci := 2) (q0 := 4) (As := [.ref A_t_state]) (rest := []) (wr := [(A_t, .inr (4, [.ref A_t_state, .ref A_t_saved, .ref A_t_beaten, .ref A_t_text])), (A_t_beaten, .inr (0, [.ref A_t_beaten_bits, .int (bI t_beaten_stale)])), (A_t_beaten_bits, .inl (cy 1, 4096, .inr (.inl t_beaten_bits)))]) (wsN := (w_X4_round cy A_t A_t_state A_t_saved A_t_beaten A_t_text A_t_state_positive A_t_state_negative A_t_saved_ring A_t_beaten_bits t_state_variables t_state_breakers t_state_clauses t_state_learned t_state_rounds t_state_positive t_state_negative t_saved_oldest_2 t_saved_count_3 t_saved_ring_1 t_beaten_stale t_beaten_bits)) ⟨hx, hb, hml, hown, hts⟩ hE hP hD hS hA hAs [4, 5, 6, 7, 8, 9, 10, 11, 12, 13, 14, 15, 16, 17, 1, 2, 3] [0, 18, 19] [0, 17, 18, 19, 3, 4, 5, 6, 7, 8, 9, 10, 11, 12, 13, 14, 15, 16, 1, 2] (c_X2_push l D cy s0 tW N A_t_saved A_t_saved_ring A_t_state A_t_state_positive A_t_state_negative t_saved_oldest t_saved_count t_saved_ring t_state_variables t_state_breakers t_state_clauses t_state_learned t_state_rounds t_state_positive t_state_negative _ hF_4) q_232 q_85 q_231 q_0 (nq_229 hE.2.1) hd_X2_push.2 ⟨Nat.le_of_ble_eq_true rfl, Nat.le_of_ble_eq_true rfl⟩ rfl rfl rfl rfl rfl rfl rfl rfl rfl hl.1 rfl (Nat.le_of_ble_eq_true rfl) dX4_round_8 ⟨Nat.zero_le _, Nat.zero_le _⟩ (fun H locs hP hD hS => ?_)
  refine W.eq (g2 := F0 m 11 ls []) rfl ?_
  refine lv_aload_n hx hb dX4_round_11 rfl (lv_at hl 0 rfl) ?_
  obtain ⟨r_5, t_state_learned_6, t_state_rounds_7, t_beaten_bits_8, t_beaten_stale_9, hF_10, hF⟩ := ob5_some hF
  refine kcV (q := (RX4, TX4, 4)) (ci := 4) (q0 := 0) (As := []) (rest := []) (wr := [(A_t_saved, .inr (2, [.ref (A_t_saved_ring 0), .int t_saved_oldest_2, .int t_saved_count_3])), (A_t_saved_ring 0, .inl (cy 4, 4, .inr (.inr (.inr (.inr (rg4 A_t_saved_ring)))))), (A_t_saved_ring 1, .inr (3, [.int (t_saved_ring_1 0).1, .int (t_saved_ring_1 0).2.1, .int (t_saved_ring_1 0).2.2.1, .ref (A_t_saved_ring 2), .ref (A_t_saved_ring 3), .int (t_saved_ring_1 0).2.2.2.2.2.1, .int (t_saved_ring_1 0).2.2.2.2.2.2])), (A_t_saved_ring 2, .inl (cy 0, 20, .inl (t_saved_ring_1 0).2.2.2.1)), (A_t_saved_ring 3, .inl (cy 0, 20, .inl (t_saved_ring_1 0).2.2.2.2.1)), (A_t_saved_ring 4, .inr (3, [.int (t_saved_ring_1 1).1, .int (t_saved_ring_1 1).2.1, .int (t_saved_ring_1 1).2.2.1, .ref (A_t_saved_ring 5), .ref (A_t_saved_ring 6), .int (t_saved_ring_1 1).2.2.2.2.2.1, .int (t_saved_ring_1 1).2.2.2.2.2.2])), (A_t_saved_ring 5, .inl (cy 0, 20, .inl (t_saved_ring_1 1).2.2.2.1)), (A_t_saved_ring 6, .inl (cy 0, 20, .inl (t_saved_ring_1 1).2.2.2.2.1)), (A_t_saved_ring 7, .inr (3, [.int (t_saved_ring_1 2).1, .int (t_saved_ring_1 2).2.1, .int (t_saved_ring_1 2).2.2.1, .ref (A_t_saved_ring 8), .ref (A_t_saved_ring 9), .int (t_saved_ring_1 2).2.2.2.2.2.1, .int (t_saved_ring_1 2).2.2.2.2.2.2])), (A_t_saved_ring 8, .inl (cy 0, 20, .inl (t_saved_ring_1 2).2.2.2.1)), (A_t_saved_ring 9, .inl (cy 0, 20, .inl (t_saved_ring_1 2).2.2.2.2.1)), (A_t_saved_ring 10, .inr (3, [.int (t_saved_ring_1 3).1, .int (t_saved_ring_1 3).2.1, .int (t_saved_ring_1 3).2.2.1, .ref (A_t_saved_ring 11), .ref (A_t_saved_ring 12), .int (t_saved_ring_1 3).2.2.2.2.2.1, .int (t_saved_ring_1 3).2.2.2.2.2.2])), (A_t_saved_ring 11, .inl (cy 0, 20, .inl (t_saved_ring_1 3).2.2.2.1)), (A_t_saved_ring 12, .inl (cy 0, 20, .inl (t_saved_ring_1 3).2.2.2.2.1))]) (wsN := (w_X4_round cy A_t A_t_state A_t_saved A_t_beaten A_t_text A_t_state_positive A_t_state_negative A_t_saved_ring A_t_beaten_bits t_state_variables t_state_breakers t_state_clauses t_state_learned_6 t_state_rounds_7 t_state_positive t_state_negative t_saved_oldest_2 t_saved_count_3 t_saved_ring_1 t_beaten_stale_9 t_beaten_bits_8)) ⟨hx, hb, hml, hown, hts⟩ hE hP hD hS hA hAs [0, 1, 2, 3, 18, 19] [4, 5, 6, 7, 8, 9, 10, 11, 12, 13, 14, 15, 16, 17] [14, 15, 16, 17, 0, 1, 2, 3, 4, 5, 6, 7, 8, 9, 10, 11, 12, 13, 18, 19] (c_X4_makeRound l D cy s0 tW N A_t A_t_state A_t_saved A_t_beaten A_t_text A_t_state_positive A_t_state_negative A_t_beaten_bits t_state_variables t_state_breakers t_state_clauses t_state_learned t_state_rounds t_state_positive t_state_negative t_beaten_stale t_beaten_bits _ hF_10) (gV q_265 q_267 q_4 q_83 q_268) hd_X4_makeRound ⟨Nat.le_of_ble_eq_true rfl, Nat.le_of_ble_eq_true rfl⟩ rfl rfl rfl rfl rfl rfl rfl rfl rfl hl.1 rfl (Nat.le_of_ble_eq_true rfl) dX4_round_12 ⟨Nat.zero_le _, Nat.zero_le _⟩ (fun H locs hP hD hS => ?_)
  refine W.eq (g2 := F0 m 15 ls [.int r_5]) rfl ?_
  cases hF
  exact kret_i hx hb hr hlocks hP hD hS dX4_round_15

abbrev w_X4_learnAll (cy : Nat → ClassId) (A_t : Nat) (A_t_state : Nat) (A_t_saved : Nat) (A_t_beaten : Nat) (A_t_text : Nat) (A_t_state_positive : Nat) (A_t_state_negative : Nat) (A_t_saved_ring : Nat → Nat) (A_t_beaten_bits : Nat) (t_state_variables : Int32) (t_state_breakers : Int32) (t_state_clauses : Int32) (t_state_learned : Int32) (t_state_rounds : Int32) (t_state_positive : Nat → Int32) (t_state_negative : Nat → Int32) (t_saved_oldest : Int32) (t_saved_count : Int32) (t_saved_ring : Nat → StT) (t_beaten_stale : Bool) (t_beaten_bits : Nat → Int64) : va_W := [(A_t, .inr (4, [.ref A_t_state, .ref A_t_saved, .ref A_t_beaten, .ref A_t_text])), (A_t_state, .inr (3, [.int t_state_variables, .int t_state_breakers, .int t_state_clauses, .ref A_t_state_positive, .ref A_t_state_negative, .int t_state_learned, .int t_state_rounds])), (A_t_state_positive, .inl (cy 0, 20, .inl t_state_positive)), (A_t_state_negative, .inl (cy 0, 20, .inl t_state_negative)), (A_t_saved, .inr (2, [.ref (A_t_saved_ring 0), .int t_saved_oldest, .int t_saved_count])), (A_t_saved_ring 0, .inl (cy 4, 4, .inr (.inr (.inr (.inr (rg4 A_t_saved_ring)))))), (A_t_saved_ring 1, .inr (3, [.int (t_saved_ring 0).1, .int (t_saved_ring 0).2.1, .int (t_saved_ring 0).2.2.1, .ref (A_t_saved_ring 2), .ref (A_t_saved_ring 3), .int (t_saved_ring 0).2.2.2.2.2.1, .int (t_saved_ring 0).2.2.2.2.2.2])), (A_t_saved_ring 2, .inl (cy 0, 20, .inl (t_saved_ring 0).2.2.2.1)), (A_t_saved_ring 3, .inl (cy 0, 20, .inl (t_saved_ring 0).2.2.2.2.1)), (A_t_saved_ring 4, .inr (3, [.int (t_saved_ring 1).1, .int (t_saved_ring 1).2.1, .int (t_saved_ring 1).2.2.1, .ref (A_t_saved_ring 5), .ref (A_t_saved_ring 6), .int (t_saved_ring 1).2.2.2.2.2.1, .int (t_saved_ring 1).2.2.2.2.2.2])), (A_t_saved_ring 5, .inl (cy 0, 20, .inl (t_saved_ring 1).2.2.2.1)), (A_t_saved_ring 6, .inl (cy 0, 20, .inl (t_saved_ring 1).2.2.2.2.1)), (A_t_saved_ring 7, .inr (3, [.int (t_saved_ring 2).1, .int (t_saved_ring 2).2.1, .int (t_saved_ring 2).2.2.1, .ref (A_t_saved_ring 8), .ref (A_t_saved_ring 9), .int (t_saved_ring 2).2.2.2.2.2.1, .int (t_saved_ring 2).2.2.2.2.2.2])), (A_t_saved_ring 8, .inl (cy 0, 20, .inl (t_saved_ring 2).2.2.2.1)), (A_t_saved_ring 9, .inl (cy 0, 20, .inl (t_saved_ring 2).2.2.2.2.1)), (A_t_saved_ring 10, .inr (3, [.int (t_saved_ring 3).1, .int (t_saved_ring 3).2.1, .int (t_saved_ring 3).2.2.1, .ref (A_t_saved_ring 11), .ref (A_t_saved_ring 12), .int (t_saved_ring 3).2.2.2.2.2.1, .int (t_saved_ring 3).2.2.2.2.2.2])), (A_t_saved_ring 11, .inl (cy 0, 20, .inl (t_saved_ring 3).2.2.2.1)), (A_t_saved_ring 12, .inl (cy 0, 20, .inl (t_saved_ring 3).2.2.2.2.1)), (A_t_beaten, .inr (0, [.ref A_t_beaten_bits, .int (bI t_beaten_stale)])), (A_t_beaten_bits, .inl (cy 1, 4096, .inr (.inl t_beaten_bits)))]
def L_X4_learnAll_21 (N : Nat) (t_state_variables : Int32) (t_state_breakers : Int32) (t_state_clauses : Int32) (t_state_positive : Nat → Int32) (t_state_negative : Nat → Int32) (r_5 : Int32) (kont : Int32 → Int32 → Int32 → (Nat → Int64) → Bool → Option (Int32 × Int32 × Int32 × (Nat → StT) × Int32 × Int32 × (Nat → Int64) × Bool)) : Nat → Int32 → Int32 → Int32 → (Nat → Int64) → Bool → Option (Int32 × Int32 × Int32 × (Nat → StT) × Int32 × Int32 × (Nat → Int64) × Bool)
  | 0, _, _, _, _, _ => none
  | n + 1, v2_7, t_state_learned_8, t_state_rounds_9, t_beaten_bits_10, t_beaten_stale_11 => (if r_5 < v2_7 then kont v2_7 t_state_learned_8 t_state_rounds_9 t_beaten_bits_10 t_beaten_stale_11 else ob5 (F_X4_makeRound N t_state_variables t_state_breakers t_state_clauses t_state_positive t_state_negative t_state_learned_8 t_state_rounds_9 t_beaten_bits_10 t_beaten_stale_11) (fun r_18 t_state_learned_19 t_state_rounds_20 t_beaten_bits_21 t_beaten_stale_22 => (if r_18 < (0 : Int32) then kont v2_7 t_state_learned_19 t_state_rounds_20 t_beaten_bits_21 t_beaten_stale_22 else L_X4_learnAll_21 N t_state_variables t_state_breakers t_state_clauses t_state_positive t_state_negative r_5 kont n (v2_7 + 1) t_state_learned_19 t_state_rounds_20 t_beaten_bits_21 t_beaten_stale_22)))
def F_X4_learnAll (N : Nat) (t_state_variables : Int32) (t_state_breakers : Int32) (t_state_clauses : Int32) (t_state_positive : Nat → Int32) (t_state_negative : Nat → Int32) (t_state_learned : Int32) (t_state_rounds : Int32) (t_saved_ring : Nat → StT) (t_saved_oldest : Int32) (t_saved_count : Int32) (t_beaten_bits : Nat → Int64) (t_beaten_stale : Bool) : Option (Int32 × Int32 × Int32 × (Nat → StT) × Int32 × Int32 × (Nat → Int64) × Bool) :=
  ob3 (F_X2_push N t_saved_ring t_saved_oldest t_saved_count t_state_variables t_state_breakers t_state_clauses t_state_positive t_state_negative t_state_learned t_state_rounds) (fun t_saved_ring_1 t_saved_oldest_2 t_saved_count_3 => ob1 (F_X3_plays N t_state_breakers) (fun r_5 => (L_X4_learnAll_21 N t_state_variables t_state_breakers t_state_clauses t_state_positive t_state_negative r_5 (fun u2_12 t_state_learned_13 t_state_rounds_14 t_beaten_bits_15 t_beaten_stale_16 => some (u2_12, t_state_learned_13, t_state_rounds_14, t_saved_ring_1, t_saved_oldest_2, t_saved_count_3, t_beaten_bits_15, t_beaten_stale_16)) N 0 t_state_learned t_state_rounds t_beaten_bits t_beaten_stale)))
set_option maxHeartbeats 4000000 in
set_option maxRecDepth 100000 in
theorem c_X4_learnAll (l : Launch) (D : va_G) (cy : Nat → ClassId) (s0 tW N : Nat) (A_t : Nat) (A_t_state : Nat) (A_t_saved : Nat) (A_t_beaten : Nat) (A_t_text : Nat) (A_t_state_positive : Nat) (A_t_state_negative : Nat) (A_t_saved_ring : Nat → Nat) (A_t_beaten_bits : Nat) (t_state_variables : Int32) (t_state_breakers : Int32) (t_state_clauses : Int32) (t_state_learned : Int32) (t_state_rounds : Int32) (t_state_positive : Nat → Int32) (t_state_negative : Nat → Int32) (t_saved_oldest : Int32) (t_saved_count : Int32) (t_saved_ring : Nat → StT) (t_beaten_stale : Bool) (t_beaten_bits : Nat → Int64) (sz : Nat) {r9 : Int32} {t_state_learned9 : Int32} {t_state_rounds9 : Int32} {t_saved_ring9 : Nat → StT} {t_saved_oldest9 : Int32} {t_saved_count9 : Int32} {t_beaten_bits9 : Nat → Int64} {t_beaten_stale9 : Bool} (hF : F_X4_learnAll N t_state_variables t_state_breakers t_state_clauses t_state_positive t_state_negative t_state_learned t_state_rounds t_saved_ring t_saved_oldest t_saved_count t_beaten_bits t_beaten_stale = some (r9, t_state_learned9, t_state_rounds9, t_saved_ring9, t_saved_oldest9, t_saved_count9, t_beaten_bits9, t_beaten_stale9)) : KM l D cy s0 tW yX4_learnAll cX4_learnAll 3 (some .int) 5 118 [.ref A_t] sz (w_X4_learnAll cy A_t A_t_state A_t_saved A_t_beaten A_t_text A_t_state_positive A_t_state_negative A_t_saved_ring A_t_beaten_bits t_state_variables t_state_breakers t_state_clauses t_state_learned t_state_rounds t_state_positive t_state_negative t_saved_oldest t_saved_count t_saved_ring t_beaten_stale t_beaten_bits) (some (.int r9)) (w_X4_learnAll cy A_t A_t_state A_t_saved A_t_beaten A_t_text A_t_state_positive A_t_state_negative A_t_saved_ring A_t_beaten_bits t_state_variables t_state_breakers t_state_clauses t_state_learned9 t_state_rounds9 t_state_positive t_state_negative t_saved_oldest9 t_saved_count9 t_saved_ring9 t_beaten_stale9 t_beaten_bits9) := by
  refine KM.intro rfl (Nat.le_of_ble_eq_true rfl) ?_
  intro p e s m args below meth c A ls hx hb hr hml hown hts hlocks hE hP hD hS hA hAs hl
  have hK := hE.1
  have hl : lv_has ls 3 [(0, .ref A_t)] := hl
  unfold F_X4_learnAll at hF
  refine lv_aload_n hx hb dX4_learnAll_0 rfl (lv_at hl 0 rfl) ?_
  refine va_get (D := D) (ci := 4) (v := .ref A_t_saved) (C := RX4) (T := TX4) (N := 4) hx hb hts inX4 hown hK hP 0 rfl rfl 1 (by decide) (hts _ q_213) (fun _ h9 => h9) rfl dX4_learnAll_1 ?_
  refine lv_aload_n hx hb dX4_learnAll_4 rfl (lv_at hl 0 rfl) ?_
  refine va_get (D := D) (ci := 4) (v := .ref A_t_state) (C := RX4) (T := TX4) (N := 4) hx hb hts inX4 hown hK hP 0 rfl rfl 0 (by decide) (hts _ q_212) (fun _ h9 => h9) rfl dX4_learnAll_5 ?_
  obtain ⟨t_saved_ring_1, t_saved_oldest_2, t_saved_count_3, hF_4, hF⟩ := ob3_some hF
  refine kcVN (q := (RX2, TX2, 3)) (ci := 2) (q0 := 4) (As := [.ref A_t_state]) (rest := []) (wr := [(A_t, .inr (4, [.ref A_t_state, .ref A_t_saved, .ref A_t_beaten, .ref A_t_text])), (A_t_beaten, .inr (0, [.ref A_t_beaten_bits, .int (bI t_beaten_stale)])), (A_t_beaten_bits, .inl (cy 1, 4096, .inr (.inl t_beaten_bits)))]) (wsN := (w_X4_learnAll cy A_t A_t_state A_t_saved A_t_beaten A_t_text A_t_state_positive A_t_state_negative A_t_saved_ring A_t_beaten_bits t_state_variables t_state_breakers t_state_clauses t_state_learned t_state_rounds t_state_positive t_state_negative t_saved_oldest_2 t_saved_count_3 t_saved_ring_1 t_beaten_stale t_beaten_bits)) ⟨hx, hb, hml, hown, hts⟩ hE hP hD hS hA hAs [4, 5, 6, 7, 8, 9, 10, 11, 12, 13, 14, 15, 16, 17, 1, 2, 3] [0, 18, 19] [0, 17, 18, 19, 3, 4, 5, 6, 7, 8, 9, 10, 11, 12, 13, 14, 15, 16, 1, 2] (c_X2_push l D cy s0 tW N A_t_saved A_t_saved_ring A_t_state A_t_state_positive A_t_state_negative t_saved_oldest t_saved_count t_saved_ring t_state_variables t_state_breakers t_state_clauses t_state_learned t_state_rounds t_state_positive t_state_negative _ hF_4) q_232 q_85 q_231 q_0 (nq_229 hE.2.1) hd_X2_push.2 ⟨Nat.le_of_ble_eq_true rfl, Nat.le_of_ble_eq_true rfl⟩ rfl rfl rfl rfl rfl rfl rfl rfl rfl hl.1 rfl (Nat.le_of_ble_eq_true rfl) dX4_learnAll_8 ⟨Nat.zero_le _, Nat.zero_le _⟩ (fun H locs hP hD hS => ?_)
  refine W.eq (g2 := F0 m 11 ls []) rfl ?_
  refine lv_aload_n hx hb dX4_learnAll_11 rfl (lv_at hl 0 rfl) ?_
  refine va_get (D := D) (ci := 4) (v := .ref A_t_state) (C := RX4) (T := TX4) (N := 4) hx hb hts inX4 hown hK hP 0 rfl rfl 0 (by decide) (hts _ q_212) (fun _ h9 => h9) rfl dX4_learnAll_12 ?_
  obtain ⟨r_5, hF_6, hF⟩ := ob1_some hF
  refine kcVN (q := (RX3, TX3, 7)) (ci := 3) (q0 := 1) (As := []) (rest := []) (wr := [(A_t, .inr (4, [.ref A_t_state, .ref A_t_saved, .ref A_t_beaten, .ref A_t_text])), (A_t_state_positive, .inl (cy 0, 20, .inl t_state_positive)), (A_t_state_negative, .inl (cy 0, 20, .inl t_state_negative)), (A_t_saved, .inr (2, [.ref (A_t_saved_ring 0), .int t_saved_oldest_2, .int t_saved_count_3])), (A_t_saved_ring 0, .inl (cy 4, 4, .inr (.inr (.inr (.inr (rg4 A_t_saved_ring)))))), (A_t_saved_ring 1, .inr (3, [.int (t_saved_ring_1 0).1, .int (t_saved_ring_1 0).2.1, .int (t_saved_ring_1 0).2.2.1, .ref (A_t_saved_ring 2), .ref (A_t_saved_ring 3), .int (t_saved_ring_1 0).2.2.2.2.2.1, .int (t_saved_ring_1 0).2.2.2.2.2.2])), (A_t_saved_ring 2, .inl (cy 0, 20, .inl (t_saved_ring_1 0).2.2.2.1)), (A_t_saved_ring 3, .inl (cy 0, 20, .inl (t_saved_ring_1 0).2.2.2.2.1)), (A_t_saved_ring 4, .inr (3, [.int (t_saved_ring_1 1).1, .int (t_saved_ring_1 1).2.1, .int (t_saved_ring_1 1).2.2.1, .ref (A_t_saved_ring 5), .ref (A_t_saved_ring 6), .int (t_saved_ring_1 1).2.2.2.2.2.1, .int (t_saved_ring_1 1).2.2.2.2.2.2])), (A_t_saved_ring 5, .inl (cy 0, 20, .inl (t_saved_ring_1 1).2.2.2.1)), (A_t_saved_ring 6, .inl (cy 0, 20, .inl (t_saved_ring_1 1).2.2.2.2.1)), (A_t_saved_ring 7, .inr (3, [.int (t_saved_ring_1 2).1, .int (t_saved_ring_1 2).2.1, .int (t_saved_ring_1 2).2.2.1, .ref (A_t_saved_ring 8), .ref (A_t_saved_ring 9), .int (t_saved_ring_1 2).2.2.2.2.2.1, .int (t_saved_ring_1 2).2.2.2.2.2.2])), (A_t_saved_ring 8, .inl (cy 0, 20, .inl (t_saved_ring_1 2).2.2.2.1)), (A_t_saved_ring 9, .inl (cy 0, 20, .inl (t_saved_ring_1 2).2.2.2.2.1)), (A_t_saved_ring 10, .inr (3, [.int (t_saved_ring_1 3).1, .int (t_saved_ring_1 3).2.1, .int (t_saved_ring_1 3).2.2.1, .ref (A_t_saved_ring 11), .ref (A_t_saved_ring 12), .int (t_saved_ring_1 3).2.2.2.2.2.1, .int (t_saved_ring_1 3).2.2.2.2.2.2])), (A_t_saved_ring 11, .inl (cy 0, 20, .inl (t_saved_ring_1 3).2.2.2.1)), (A_t_saved_ring 12, .inl (cy 0, 20, .inl (t_saved_ring_1 3).2.2.2.2.1)), (A_t_beaten, .inr (0, [.ref A_t_beaten_bits, .int (bI t_beaten_stale)])), (A_t_beaten_bits, .inl (cy 1, 4096, .inr (.inl t_beaten_bits)))]) (wsN := (w_X4_learnAll cy A_t A_t_state A_t_saved A_t_beaten A_t_text A_t_state_positive A_t_state_negative A_t_saved_ring A_t_beaten_bits t_state_variables t_state_breakers t_state_clauses t_state_learned t_state_rounds t_state_positive t_state_negative t_saved_oldest_2 t_saved_count_3 t_saved_ring_1 t_beaten_stale t_beaten_bits)) ⟨hx, hb, hml, hown, hts⟩ hE hP hD hS hA hAs [1] [0, 2, 3, 4, 5, 6, 7, 8, 9, 10, 11, 12, 13, 14, 15, 16, 17, 18, 19] [0, 19, 1, 2, 3, 4, 5, 6, 7, 8, 9, 10, 11, 12, 13, 14, 15, 16, 17, 18] (c_X3_plays l D cy s0 tW N A_t_state A_t_state_positive A_t_state_negative t_state_variables t_state_breakers t_state_clauses t_state_learned t_state_rounds _ hF_6) q_320 q_84 q_319 q_12 (nq_317 hE.2.1) hd_X3_plays.2 ⟨Nat.le_of_ble_eq_true rfl, Nat.le_of_ble_eq_true rfl⟩ rfl rfl rfl rfl rfl rfl rfl rfl rfl hl.1 rfl (Nat.le_of_ble_eq_true rfl) dX4_learnAll_15 ⟨Nat.zero_le _, Nat.zero_le _⟩ (fun H locs hP hD hS => ?_)
  refine W.eq (g2 := F0 m 18 ls [.int r_5]) rfl ?_
  refine lv_istore_n (lv' := [(1, .int r_5), (0, .ref A_t)]) hx hb dX4_learnAll_18 rfl hl (by decide) rfl (fun ls hl => ?_)
  refine lv_iconst (v := 0) hx hb dX4_learnAll_19 (by decide) ?_
  refine lv_istore_n (lv' := [(2, .int 0), (1, .int r_5), (0, .ref A_t)]) hx hb dX4_learnAll_20 rfl hl (by decide) rfl (fun ls hl => ?_)
  have hloop_21 : ∀ (kont : Int32 → Int32 → Int32 → (Nat → Int64) → Bool → Option (Int32 × Int32 × Int32 × (Nat → StT) × Int32 × Int32 × (Nat → Int64) × Bool)), (∀ (u2_12 : Int32) (t_state_learned_13 : Int32) (t_state_rounds_14 : Int32) (t_beaten_bits_15 : Nat → Int64) (t_beaten_stale_16 : Bool) (H : Heap) (locs : List Loc) (ls : Array Slot), kont u2_12 t_state_learned_13 t_state_rounds_14 t_beaten_bits_15 t_beaten_stale_16 = some (r9, t_state_learned9, t_state_rounds9, t_saved_ring9, t_saved_oldest9, t_saved_count9, t_beaten_bits9, t_beaten_stale9) → va_P D vwCl (w_X4_learnAll cy A_t A_t_state A_t_saved A_t_beaten A_t_text A_t_state_positive A_t_state_negative A_t_saved_ring A_t_beaten_bits t_state_variables t_state_breakers t_state_clauses t_state_learned_13 t_state_rounds_14 t_state_positive t_state_negative t_saved_oldest_2 t_saved_count_3 t_saved_ring_1 t_beaten_stale_16 t_beaten_bits_15) H → va_D A (w_X4_learnAll cy A_t A_t_state A_t_saved A_t_beaten A_t_text A_t_state_positive A_t_state_negative A_t_saved_ring A_t_beaten_bits t_state_variables t_state_breakers t_state_clauses t_state_learned_13 t_state_rounds_14 t_state_positive t_state_negative t_saved_oldest_2 t_saved_count_3 t_saved_ring_1 t_beaten_stale_16 t_beaten_bits_15) → va_S A s.heap H locs → lv_has ls 3 [(2, .int u2_12)] → W p l e (rmK 5 118) s m args below meth c H locs 0 0 (MQ below (kQ (some (.int r9)) D A (w_X4_learnAll cy A_t A_t_state A_t_saved A_t_beaten A_t_text A_t_state_positive A_t_state_negative A_t_saved_ring A_t_beaten_bits t_state_variables t_state_breakers t_state_clauses t_state_learned9 t_state_rounds9 t_state_positive t_state_negative t_saved_oldest9 t_saved_count9 t_saved_ring9 t_beaten_stale9 t_beaten_bits9)) args s 0 0 A) (F0 m 39 ls [])) → ∀ (n : Nat) (v2_7 : Int32) (t_state_learned_8 : Int32) (t_state_rounds_9 : Int32) (t_beaten_bits_10 : Nat → Int64) (t_beaten_stale_11 : Bool) (H : Heap) (locs : List Loc) (ls : Array Slot), L_X4_learnAll_21 N t_state_variables t_state_breakers t_state_clauses t_state_positive t_state_negative r_5 kont n v2_7 t_state_learned_8 t_state_rounds_9 t_beaten_bits_10 t_beaten_stale_11 = some (r9, t_state_learned9, t_state_rounds9, t_saved_ring9, t_saved_oldest9, t_saved_count9, t_beaten_bits9, t_beaten_stale9) → va_P D vwCl (w_X4_learnAll cy A_t A_t_state A_t_saved A_t_beaten A_t_text A_t_state_positive A_t_state_negative A_t_saved_ring A_t_beaten_bits t_state_variables t_state_breakers t_state_clauses t_state_learned_8 t_state_rounds_9 t_state_positive t_state_negative t_saved_oldest_2 t_saved_count_3 t_saved_ring_1 t_beaten_stale_11 t_beaten_bits_10) H → va_D A (w_X4_learnAll cy A_t A_t_state A_t_saved A_t_beaten A_t_text A_t_state_positive A_t_state_negative A_t_saved_ring A_t_beaten_bits t_state_variables t_state_breakers t_state_clauses t_state_learned_8 t_state_rounds_9 t_state_positive t_state_negative t_saved_oldest_2 t_saved_count_3 t_saved_ring_1 t_beaten_stale_11 t_beaten_bits_10) → va_S A s.heap H locs → lv_has ls 3 [(0, .ref A_t), (1, .int r_5), (2, .int v2_7)] → W p l e (rmK 5 118) s m args below meth c H locs 0 0 (MQ below (kQ (some (.int r9)) D A (w_X4_learnAll cy A_t A_t_state A_t_saved A_t_beaten A_t_text A_t_state_positive A_t_state_negative A_t_saved_ring A_t_beaten_bits t_state_variables t_state_breakers t_state_clauses t_state_learned9 t_state_rounds9 t_state_positive t_state_negative t_saved_oldest9 t_saved_count9 t_saved_ring9 t_beaten_stale9 t_beaten_bits9)) args s 0 0 A) (F0 m 21 ls []) := by
    intro kont hexit_21 n
    induction n with
    | zero =>
      intro v2_7 t_state_learned_8 t_state_rounds_9 t_beaten_bits_10 t_beaten_stale_11 H locs ls hF
      rw [L_X4_learnAll_21] at hF
      cases hF
    | succ n ih =>
      intro v2_7 t_state_learned_8 t_state_rounds_9 t_beaten_bits_10 t_beaten_stale_11 H locs ls hF hP hD hS hl
      rw [L_X4_learnAll_21] at hF
      refine lv_iload_n hx hb dX4_learnAll_21 rfl (lv_at hl 2 rfl) ?_
      refine lv_iload_n hx hb dX4_learnAll_22 rfl (lv_at hl 1 rfl) ?_
      refine lv_icmp_gt (tgt := 39) hx hb dX4_learnAll_23 (by decide) (fun c_17 => ?_) (fun c_17 => ?_)
      · replace hF := ite_t c_17 hF
        exact hexit_21 v2_7 t_state_learned_8 t_state_rounds_9 t_beaten_bits_10 t_beaten_stale_11 H locs ls hF hP hD hS (lv_sub hl [2] rfl)
      · replace hF := ite_f c_17 hF
        refine lv_aload_n hx hb dX4_learnAll_26 rfl (lv_at hl 0 rfl) ?_
        obtain ⟨r_18, t_state_learned_19, t_state_rounds_20, t_beaten_bits_21, t_beaten_stale_22, hF_23, hF⟩ := ob5_some hF
        refine kcV (q := (RX4, TX4, 4)) (ci := 4) (q0 := 0) (As := []) (rest := []) (wr := [(A_t_saved, .inr (2, [.ref (A_t_saved_ring 0), .int t_saved_oldest_2, .int t_saved_count_3])), (A_t_saved_ring 0, .inl (cy 4, 4, .inr (.inr (.inr (.inr (rg4 A_t_saved_ring)))))), (A_t_saved_ring 1, .inr (3, [.int (t_saved_ring_1 0).1, .int (t_saved_ring_1 0).2.1, .int (t_saved_ring_1 0).2.2.1, .ref (A_t_saved_ring 2), .ref (A_t_saved_ring 3), .int (t_saved_ring_1 0).2.2.2.2.2.1, .int (t_saved_ring_1 0).2.2.2.2.2.2])), (A_t_saved_ring 2, .inl (cy 0, 20, .inl (t_saved_ring_1 0).2.2.2.1)), (A_t_saved_ring 3, .inl (cy 0, 20, .inl (t_saved_ring_1 0).2.2.2.2.1)), (A_t_saved_ring 4, .inr (3, [.int (t_saved_ring_1 1).1, .int (t_saved_ring_1 1).2.1, .int (t_saved_ring_1 1).2.2.1, .ref (A_t_saved_ring 5), .ref (A_t_saved_ring 6), .int (t_saved_ring_1 1).2.2.2.2.2.1, .int (t_saved_ring_1 1).2.2.2.2.2.2])), (A_t_saved_ring 5, .inl (cy 0, 20, .inl (t_saved_ring_1 1).2.2.2.1)), (A_t_saved_ring 6, .inl (cy 0, 20, .inl (t_saved_ring_1 1).2.2.2.2.1)), (A_t_saved_ring 7, .inr (3, [.int (t_saved_ring_1 2).1, .int (t_saved_ring_1 2).2.1, .int (t_saved_ring_1 2).2.2.1, .ref (A_t_saved_ring 8), .ref (A_t_saved_ring 9), .int (t_saved_ring_1 2).2.2.2.2.2.1, .int (t_saved_ring_1 2).2.2.2.2.2.2])), (A_t_saved_ring 8, .inl (cy 0, 20, .inl (t_saved_ring_1 2).2.2.2.1)), (A_t_saved_ring 9, .inl (cy 0, 20, .inl (t_saved_ring_1 2).2.2.2.2.1)), (A_t_saved_ring 10, .inr (3, [.int (t_saved_ring_1 3).1, .int (t_saved_ring_1 3).2.1, .int (t_saved_ring_1 3).2.2.1, .ref (A_t_saved_ring 11), .ref (A_t_saved_ring 12), .int (t_saved_ring_1 3).2.2.2.2.2.1, .int (t_saved_ring_1 3).2.2.2.2.2.2])), (A_t_saved_ring 11, .inl (cy 0, 20, .inl (t_saved_ring_1 3).2.2.2.1)), (A_t_saved_ring 12, .inl (cy 0, 20, .inl (t_saved_ring_1 3).2.2.2.2.1))]) (wsN := (w_X4_learnAll cy A_t A_t_state A_t_saved A_t_beaten A_t_text A_t_state_positive A_t_state_negative A_t_saved_ring A_t_beaten_bits t_state_variables t_state_breakers t_state_clauses t_state_learned_19 t_state_rounds_20 t_state_positive t_state_negative t_saved_oldest_2 t_saved_count_3 t_saved_ring_1 t_beaten_stale_22 t_beaten_bits_21)) ⟨hx, hb, hml, hown, hts⟩ hE hP hD hS hA hAs [0, 1, 2, 3, 18, 19] [4, 5, 6, 7, 8, 9, 10, 11, 12, 13, 14, 15, 16, 17] [14, 15, 16, 17, 0, 1, 2, 3, 4, 5, 6, 7, 8, 9, 10, 11, 12, 13, 18, 19] (c_X4_makeRound l D cy s0 tW N A_t A_t_state A_t_saved A_t_beaten A_t_text A_t_state_positive A_t_state_negative A_t_beaten_bits t_state_variables t_state_breakers t_state_clauses t_state_learned_8 t_state_rounds_9 t_state_positive t_state_negative t_beaten_stale_11 t_beaten_bits_10 _ hF_23) (gV q_265 q_267 q_4 q_83 q_268) hd_X4_makeRound ⟨Nat.le_of_ble_eq_true rfl, Nat.le_of_ble_eq_true rfl⟩ rfl rfl rfl rfl rfl rfl rfl rfl rfl hl.1 rfl (Nat.le_of_ble_eq_true rfl) dX4_learnAll_27 ⟨Nat.zero_le _, Nat.zero_le _⟩ (fun H locs hP hD hS => ?_)
        refine W.eq (g2 := F0 m 30 ls [.int r_18]) rfl ?_
        refine lv_if_lt (tgt := 39) hx hb dX4_learnAll_30 (by decide) (fun c_24 => ?_) (fun c_24 => ?_)
        · replace hF := ite_t c_24 hF
          exact hexit_21 v2_7 t_state_learned_19 t_state_rounds_20 t_beaten_bits_21 t_beaten_stale_22 H locs ls hF hP hD hS (lv_sub hl [2] rfl)
        · replace hF := ite_f c_24 hF
          refine lv_iinc (v := (v2_7 + 1)) (lv' := [(2, .int (v2_7 + 1)), (0, .ref A_t), (1, .int r_5)]) hx hb dX4_learnAll_33 hl (k := 2) rfl (by first | rfl | decide) (by decide) rfl (fun ls hl => ?_)
          refine lv_goto (tgt := 21) hx hb dX4_learnAll_36 (by decide) ?_
          exact ih (v2_7 + 1) t_state_learned_19 t_state_rounds_20 t_beaten_bits_21 t_beaten_stale_22 H locs ls hF hP hD hS (lv_sub hl [1, 2, 0] rfl)
  refine hloop_21 _ (fun u2_12 t_state_learned_13 t_state_rounds_14 t_beaten_bits_15 t_beaten_stale_16 H locs ls hF hP hD hS hl => ?_) N 0 t_state_learned t_state_rounds t_beaten_bits t_beaten_stale _ _ ls hF hP hD hS (lv_sub hl [2, 1, 0] rfl)
  refine lv_iload_n hx hb dX4_learnAll_39 rfl (lv_at hl 0 rfl) ?_
  cases hF
  exact kret_i hx hb hr hlocks hP hD hS dX4_learnAll_40

theorem q_42 : Cond.selects RX4 yX4_requireVariable yX4_requireVariable ∈ wAll := wAll_mem 42 (by decide +kernel) (by decide +kernel)
theorem q_636 : Cond.methodLink RX4 119 yX4_requireVariable ∈ wAll := wAll_mem 636 (by decide +kernel) (by decide +kernel)
theorem q_638 : Cond.instanceMethod yX4_requireVariable ∈ wAll := wAll_mem 638 (by decide +kernel) (by decide +kernel)
theorem q_639 : Cond.code yX4_requireVariable cX4_requireVariable 2 none ∈ wAll := wAll_mem 639 (by decide +kernel) (by decide +kernel)
theorem hd_X4_requireVariable : yX4_requireVariable.cls = RX4 ∧ yX4_requireVariable.cls ≠ "java/lang/invoke/MethodHandle" ∧ yX4_requireVariable.cls ≠ "java/lang/invoke/VarHandle" ∧ (parseMethodDescriptor yX4_requireVariable.desc).map (fun d => d.parameters.length) = some 1 := by decide +kernel
abbrev w_X4_isBreakers (cy : Nat → ClassId) (A_t : Nat) (A_t_state : Nat) (A_t_saved : Nat) (A_t_beaten : Nat) (A_t_text : Nat) (A_t_state_positive : Nat) (A_t_state_negative : Nat) (t_state_variables : Int32) (t_state_breakers : Int32) (t_state_clauses : Int32) (t_state_learned : Int32) (t_state_rounds : Int32) : va_W := [(A_t, .inr (4, [.ref A_t_state, .ref A_t_saved, .ref A_t_beaten, .ref A_t_text])), (A_t_state, .inr (3, [.int t_state_variables, .int t_state_breakers, .int t_state_clauses, .ref A_t_state_positive, .ref A_t_state_negative, .int t_state_learned, .int t_state_rounds]))]
def F_X4_isBreakers (N : Nat) (p0 : Int32) (t_state_variables : Int32) (t_state_breakers : Int32) : Option (Bool) :=
  ob0 (F_X4_requireVariable N p0 t_state_variables) (ob1 (F_X3_ownerOf N p0 t_state_breakers) (fun r_2 => (if r_2 = (1 : Int32) then some true else some false)))
set_option maxHeartbeats 4000000 in
set_option maxRecDepth 100000 in
theorem c_X4_isBreakers (l : Launch) (D : va_G) (cy : Nat → ClassId) (s0 tW N : Nat) (A_t : Nat) (A_t_state : Nat) (A_t_saved : Nat) (A_t_beaten : Nat) (A_t_text : Nat) (A_t_state_positive : Nat) (A_t_state_negative : Nat) (p0 : Int32) (t_state_variables : Int32) (t_state_breakers : Int32) (t_state_clauses : Int32) (t_state_learned : Int32) (t_state_rounds : Int32) (sz : Nat) {r9 : Bool} (hF : F_X4_isBreakers N p0 t_state_variables t_state_breakers = some r9) : KM l D cy s0 tW yX4_isBreakers cX4_isBreakers 2 (some .boolean) 1 21 [.ref A_t, .int p0] sz (w_X4_isBreakers cy A_t A_t_state A_t_saved A_t_beaten A_t_text A_t_state_positive A_t_state_negative t_state_variables t_state_breakers t_state_clauses t_state_learned t_state_rounds) (some (.int (bI r9))) (w_X4_isBreakers cy A_t A_t_state A_t_saved A_t_beaten A_t_text A_t_state_positive A_t_state_negative t_state_variables t_state_breakers t_state_clauses t_state_learned t_state_rounds) := by
  refine KM.intro rfl (Nat.le_of_ble_eq_true rfl) ?_
  intro p e s m args below meth c A ls hx hb hr hml hown hts hlocks hE hP hD hS hA hAs hl
  have hK := hE.1
  have hl : lv_has ls 2 [(0, .ref A_t), (1, .int p0)] := hl
  unfold F_X4_isBreakers at hF
  refine lv_aload_n hx hb dX4_isBreakers_0 rfl (lv_at hl 0 rfl) ?_
  refine lv_iload_n hx hb dX4_isBreakers_1 rfl (lv_at hl 1 rfl) ?_
  obtain ⟨hF_1, hF⟩ := ob0_some hF
  refine kcV (q := (RX4, TX4, 4)) (ci := 4) (q0 := 0) (As := [.int p0]) (rest := []) (wr := []) (wsN := (w_X4_isBreakers cy A_t A_t_state A_t_saved A_t_beaten A_t_text A_t_state_positive A_t_state_negative t_state_variables t_state_breakers t_state_clauses t_state_learned t_state_rounds)) ⟨hx, hb, hml, hown, hts⟩ hE hP hD hS hA hAs [0, 1] [] [0, 1] (c_X4_requireVariable l D cy s0 tW N A_t A_t_state A_t_saved A_t_beaten A_t_text A_t_state_positive A_t_state_negative p0 t_state_variables t_state_breakers t_state_clauses t_state_learned t_state_rounds _ hF_1) (gV q_636 q_638 q_42 q_83 q_639) hd_X4_requireVariable ⟨Nat.le_of_ble_eq_true rfl, Nat.le_of_ble_eq_true rfl⟩ rfl rfl rfl rfl rfl rfl rfl rfl rfl hl.1 rfl (Nat.le_of_ble_eq_true rfl) dX4_isBreakers_2 ⟨Nat.zero_le _, Nat.zero_le _⟩ (fun H locs hP hD hS => ?_)
  refine W.eq (g2 := F0 m 5 ls []) rfl ?_
  refine lv_aload_n hx hb dX4_isBreakers_5 rfl (lv_at hl 0 rfl) ?_
  refine va_get (D := D) (ci := 4) (v := .ref A_t_state) (C := RX4) (T := TX4) (N := 4) hx hb hts inX4 hown hK hP 0 rfl rfl 0 (by decide) (hts _ q_212) (fun _ h9 => h9) rfl dX4_isBreakers_6 ?_
  refine lv_iload_n hx hb dX4_isBreakers_9 rfl (lv_at hl 1 rfl) ?_
  obtain ⟨r_2, hF_3, hF⟩ := ob1_some hF
  refine kcVN (q := (RX3, TX3, 7)) (ci := 3) (q0 := 1) (As := [.int p0]) (rest := []) (wr := [(A_t, .inr (4, [.ref A_t_state, .ref A_t_saved, .ref A_t_beaten, .ref A_t_text]))]) (wsN := (w_X4_isBreakers cy A_t A_t_state A_t_saved A_t_beaten A_t_text A_t_state_positive A_t_state_negative t_state_variables t_state_breakers t_state_clauses t_state_learned t_state_rounds)) ⟨hx, hb, hml, hown, hts⟩ hE hP hD hS hA hAs [1] [0] [0, 1] (c_X3_ownerOf l D cy s0 tW N A_t_state A_t_state_positive A_t_state_negative p0 t_state_variables t_state_breakers t_state_clauses t_state_learned t_state_rounds _ hF_3) q_291 q_84 q_290 q_9 (nq_326 hE.2.1) hd_X3_ownerOf.2 ⟨Nat.le_of_ble_eq_true rfl, Nat.le_of_ble_eq_true rfl⟩ rfl rfl rfl rfl rfl rfl rfl rfl rfl hl.1 rfl (Nat.le_of_ble_eq_true rfl) dX4_isBreakers_10 ⟨Nat.zero_le _, Nat.zero_le _⟩ (fun H locs hP hD hS => ?_)
  refine W.eq (g2 := F0 m 13 ls [.int r_2]) rfl ?_
  refine lv_iconst (v := 1) hx hb dX4_isBreakers_13 (by decide) ?_
  refine lv_icmp_ne (tgt := 21) hx hb dX4_isBreakers_14 (by decide) (fun c_4 => ?_) (fun c_4 => ?_)
  · replace hF := ite_f c_4 hF
    refine lv_iconst (v := 0) hx hb dX4_isBreakers_21 (by decide) ?_
    cases hF
    exact kret_z hx hb hr hlocks hP hD hS dX4_isBreakers_22
  · replace hF := ite_t c_4 hF
    refine lv_iconst (v := 1) hx hb dX4_isBreakers_17 (by decide) ?_
    refine lv_goto (tgt := 22) hx hb dX4_isBreakers_18 (by decide) ?_
    cases hF
    exact kret_z hx hb hr hlocks hP hD hS dX4_isBreakers_22

theorem q_567 : Cond.methodLink RX4 131 yX4_read ∈ wAll := wAll_mem 567 (by decide +kernel) (by decide +kernel)
theorem nq_118 {s : State} (h : NW s) : va_Nw (Cond.fieldLinkNest RX4 127 "ForAllGame$State" "positive" "[I" "ForAllGame") s := h.at 118 (by decide +kernel) rfl
theorem nq_120 {s : State} (h : NW s) : va_Nw (Cond.fieldLinkNest RX4 135 "ForAllGame$State" "negative" "[I" "ForAllGame") s := h.at 120 (by decide +kernel) rfl
abbrev w_X4_clause (cy : Nat → ClassId) (A_t : Nat) (A_t_state : Nat) (A_t_saved : Nat) (A_t_beaten : Nat) (A_t_text : Nat) (A_t_state_positive : Nat) (A_t_state_negative : Nat) (t_state_variables : Int32) (t_state_breakers : Int32) (t_state_clauses : Int32) (t_state_learned : Int32) (t_state_rounds : Int32) (t_state_positive : Nat → Int32) (t_state_negative : Nat → Int32) : va_W := [(A_t, .inr (4, [.ref A_t_state, .ref A_t_saved, .ref A_t_beaten, .ref A_t_text])), (A_t_state, .inr (3, [.int t_state_variables, .int t_state_breakers, .int t_state_clauses, .ref A_t_state_positive, .ref A_t_state_negative, .int t_state_learned, .int t_state_rounds])), (A_t_state_positive, .inl (cy 0, 20, .inl t_state_positive)), (A_t_state_negative, .inl (cy 0, 20, .inl t_state_negative))]
def F_X4_clause (N : Nat) (p0 : Int32) (p1 : Int32) (t_state_clauses : Int32) (t_state_positive : Nat → Int32) (t_state_negative : Nat → Int32) : Option (Int32) :=
  ob0 (F_X4_requireClause N p0 t_state_clauses) ((if p1 < (0 : Int32) then none else (if p1 ≤ (2 : Int32) then ob1 (F_X4_read N 20 p0 t_state_positive) (fun r_4 => ob1 (F_X4_read N 20 p0 t_state_negative) (fun r_6 => (if p1 = (0 : Int32) then some r_4 else (if p1 = (1 : Int32) then some r_6 else (if (r_4 &&& r_6) = (0 : Int32) then some 0 else some 1))))) else none)))
set_option maxHeartbeats 4000000 in
set_option maxRecDepth 100000 in
theorem c_X4_clause (l : Launch) (D : va_G) (cy : Nat → ClassId) (s0 tW N : Nat) (A_t : Nat) (A_t_state : Nat) (A_t_saved : Nat) (A_t_beaten : Nat) (A_t_text : Nat) (A_t_state_positive : Nat) (A_t_state_negative : Nat) (p0 : Int32) (p1 : Int32) (t_state_variables : Int32) (t_state_breakers : Int32) (t_state_clauses : Int32) (t_state_learned : Int32) (t_state_rounds : Int32) (t_state_positive : Nat → Int32) (t_state_negative : Nat → Int32) (sz : Nat) {r9 : Int32} (hF : F_X4_clause N p0 p1 t_state_clauses t_state_positive t_state_negative = some r9) : KM l D cy s0 tW yX4_clause cX4_clause 5 (some .int) 1 21 [.ref A_t, .int p0, .int p1] sz (w_X4_clause cy A_t A_t_state A_t_saved A_t_beaten A_t_text A_t_state_positive A_t_state_negative t_state_variables t_state_breakers t_state_clauses t_state_learned t_state_rounds t_state_positive t_state_negative) (some (.int r9)) (w_X4_clause cy A_t A_t_state A_t_saved A_t_beaten A_t_text A_t_state_positive A_t_state_negative t_state_variables t_state_breakers t_state_clauses t_state_learned t_state_rounds t_state_positive t_state_negative) := by
  refine KM.intro rfl (Nat.le_of_ble_eq_true rfl) ?_
  intro p e s m args below meth c A ls hx hb hr hml hown hts hlocks hE hP hD hS hA hAs hl
  have hK := hE.1
  have hl : lv_has ls 5 [(0, .ref A_t), (1, .int p0), (2, .int p1)] := hl
  unfold F_X4_clause at hF
  refine lv_aload_n hx hb dX4_clause_0 rfl (lv_at hl 0 rfl) ?_
  refine lv_iload_n hx hb dX4_clause_1 rfl (lv_at hl 1 rfl) ?_
  obtain ⟨hF_1, hF⟩ := ob0_some hF
  refine kcV (q := (RX4, TX4, 4)) (ci := 4) (q0 := 0) (As := [.int p0]) (rest := []) (wr := [(A_t_state_positive, .inl (cy 0, 20, .inl t_state_positive)), (A_t_state_negative, .inl (cy 0, 20, .inl t_state_negative))]) (wsN := (w_X4_clause cy A_t A_t_state A_t_saved A_t_beaten A_t_text A_t_state_positive A_t_state_negative t_state_variables t_state_breakers t_state_clauses t_state_learned t_state_rounds t_state_positive t_state_negative)) ⟨hx, hb, hml, hown, hts⟩ hE hP hD hS hA hAs [0, 1] [2, 3] [2, 3, 0, 1] (c_X4_requireClause l D cy s0 tW N A_t A_t_state A_t_saved A_t_beaten A_t_text A_t_state_positive A_t_state_negative p0 t_state_variables t_state_breakers t_state_clauses t_state_learned t_state_rounds _ hF_1) (gV q_547 q_549 q_39 q_83 q_550) hd_X4_requireClause ⟨Nat.le_of_ble_eq_true rfl, Nat.le_of_ble_eq_true rfl⟩ rfl rfl rfl rfl rfl rfl rfl rfl rfl hl.1 rfl (Nat.le_of_ble_eq_true rfl) dX4_clause_2 ⟨Nat.zero_le _, Nat.zero_le _⟩ (fun H locs hP hD hS => ?_)
  refine W.eq (g2 := F0 m 5 ls []) rfl ?_
  refine lv_iload_n hx hb dX4_clause_5 rfl (lv_at hl 2 rfl) ?_
  refine lv_if_lt (tgt := 14) hx hb dX4_clause_6 (by decide) (fun c_2 => ?_) (fun c_2 => ?_)
  · replace hF := ite_t c_2 hF
    cases hF
  · replace hF := ite_f c_2 hF
    refine lv_iload_n hx hb dX4_clause_9 rfl (lv_at hl 2 rfl) ?_
    refine lv_iconst (v := 2) hx hb dX4_clause_10 (by decide) ?_
    refine lv_icmp_le (tgt := 24) hx hb dX4_clause_11 (by decide) (fun c_3 => ?_) (fun c_3 => ?_)
    · replace hF := ite_t c_3 hF
      refine lv_aload_n hx hb dX4_clause_24 rfl (lv_at hl 0 rfl) ?_
      refine va_get (D := D) (ci := 4) (v := .ref A_t_state) (C := RX4) (T := TX4) (N := 4) hx hb hts inX4 hown hK hP 0 rfl rfl 0 (by decide) (hts _ q_212) (fun _ h9 => h9) rfl dX4_clause_25 ?_
      refine va_getN (D := D) (ci := 3) (v := .ref A_t_state_positive) (C := RX3) (T := TX3) (N := 7) hx hb hts inX3 hown hK hP 1 rfl rfl 3 (by decide) (va_Nw.use rfl (nq_118 hE.2.1)) (fun _ h9 => h9) rfl dX4_clause_28 ?_
      refine lv_iload_n hx hb dX4_clause_31 rfl (lv_at hl 1 rfl) ?_
      obtain ⟨r_4, hF_5, hF⟩ := ob1_some hF
      refine kcS (As := [.ref A_t_state_positive, .int p0]) (rest := []) (wr := [(A_t, .inr (4, [.ref A_t_state, .ref A_t_saved, .ref A_t_beaten, .ref A_t_text])), (A_t_state, .inr (3, [.int t_state_variables, .int t_state_breakers, .int t_state_clauses, .ref A_t_state_positive, .ref A_t_state_negative, .int t_state_learned, .int t_state_rounds])), (A_t_state_negative, .inl (cy 0, 20, .inl t_state_negative))]) (wsN := (w_X4_clause cy A_t A_t_state A_t_saved A_t_beaten A_t_text A_t_state_positive A_t_state_negative t_state_variables t_state_breakers t_state_clauses t_state_learned t_state_rounds t_state_positive t_state_negative)) ⟨hx, hb, hml, hown, hts⟩ hE hP hD hS hA hAs [2] [0, 1, 3] [0, 1, 3, 2] (c_X4_read l D cy s0 tW N A_t_state_positive 20 p0 t_state_positive _ hF_5) (gS q_567 q_242 q_83 q_243) hd_X4_read.2 ⟨Nat.le_of_ble_eq_true rfl, Nat.le_of_ble_eq_true rfl⟩ rfl rfl rfl rfl rfl rfl rfl hl.1 rfl (Nat.le_of_ble_eq_true rfl) dX4_clause_32 ⟨Nat.zero_le _, Nat.zero_le _⟩ (fun H locs hP hD hS => ?_)
      refine W.eq (g2 := F0 m 35 ls [.int r_4]) rfl ?_
      refine lv_istore_n (lv' := [(3, .int r_4), (0, .ref A_t), (1, .int p0), (2, .int p1)]) hx hb dX4_clause_35 rfl hl (by decide) rfl (fun ls hl => ?_)
      refine lv_aload_n hx hb dX4_clause_36 rfl (lv_at hl 1 rfl) ?_
      refine va_get (D := D) (ci := 4) (v := .ref A_t_state) (C := RX4) (T := TX4) (N := 4) hx hb hts inX4 hown hK hP 0 rfl rfl 0 (by decide) (hts _ q_212) (fun _ h9 => h9) rfl dX4_clause_37 ?_
      refine va_getN (D := D) (ci := 3) (v := .ref A_t_state_negative) (C := RX3) (T := TX3) (N := 7) hx hb hts inX3 hown hK hP 1 rfl rfl 4 (by decide) (va_Nw.use rfl (nq_120 hE.2.1)) (fun _ h9 => h9) rfl dX4_clause_40 ?_
      refine lv_iload_n hx hb dX4_clause_43 rfl (lv_at hl 2 rfl) ?_
      obtain ⟨r_6, hF_7, hF⟩ := ob1_some hF
      refine kcS (As := [.ref A_t_state_negative, .int p0]) (rest := []) (wr := [(A_t, .inr (4, [.ref A_t_state, .ref A_t_saved, .ref A_t_beaten, .ref A_t_text])), (A_t_state, .inr (3, [.int t_state_variables, .int t_state_breakers, .int t_state_clauses, .ref A_t_state_positive, .ref A_t_state_negative, .int t_state_learned, .int t_state_rounds])), (A_t_state_positive, .inl (cy 0, 20, .inl t_state_positive))]) (wsN := (w_X4_clause cy A_t A_t_state A_t_saved A_t_beaten A_t_text A_t_state_positive A_t_state_negative t_state_variables t_state_breakers t_state_clauses t_state_learned t_state_rounds t_state_positive t_state_negative)) ⟨hx, hb, hml, hown, hts⟩ hE hP hD hS hA hAs [3] [0, 1, 2] [0, 1, 2, 3] (c_X4_read l D cy s0 tW N A_t_state_negative 20 p0 t_state_negative _ hF_7) (gS q_567 q_242 q_83 q_243) hd_X4_read.2 ⟨Nat.le_of_ble_eq_true rfl, Nat.le_of_ble_eq_true rfl⟩ rfl rfl rfl rfl rfl rfl rfl hl.1 rfl (Nat.le_of_ble_eq_true rfl) dX4_clause_44 ⟨Nat.zero_le _, Nat.zero_le _⟩ (fun H locs hP hD hS => ?_)
      refine W.eq (g2 := F0 m 47 ls [.int r_6]) rfl ?_
      refine lv_istore (lv' := [(4, .int r_6), (3, .int r_4), (0, .ref A_t), (1, .int p0), (2, .int p1)]) hx hb dX4_clause_47 hl (by decide) rfl (fun ls hl => ?_)
      refine lv_iload_n hx hb dX4_clause_49 rfl (lv_at hl 4 rfl) ?_
      refine lv_if_ne (tgt := 55) hx hb dX4_clause_50 (by decide) (fun c_8 => ?_) (fun c_8 => ?_)
      · replace hF := ite_f c_8 hF
        refine lv_iload_n hx hb dX4_clause_55 rfl (lv_at hl 4 rfl) ?_
        refine lv_iconst (v := 1) hx hb dX4_clause_56 (by decide) ?_
        refine lv_icmp_ne (tgt := 63) hx hb dX4_clause_57 (by decide) (fun c_9 => ?_) (fun c_9 => ?_)
        · replace hF := ite_f c_9 hF
          refine lv_iload_n hx hb dX4_clause_63 rfl (lv_at hl 1 rfl) ?_
          refine lv_iload hx hb dX4_clause_64 (lv_at hl 0 rfl) ?_
          refine lv_iand hx hb dX4_clause_66 ?_
          refine lv_if_eq (tgt := 74) hx hb dX4_clause_67 (by decide) (fun c_10 => ?_) (fun c_10 => ?_)
          · replace hF := ite_t c_10 hF
            refine lv_iconst (v := 0) hx hb dX4_clause_74 (by decide) ?_
            cases hF
            exact kret_i hx hb hr hlocks hP hD hS dX4_clause_75
          · replace hF := ite_f c_10 hF
            refine lv_iconst (v := 1) hx hb dX4_clause_70 (by decide) ?_
            refine lv_goto (tgt := 75) hx hb dX4_clause_71 (by decide) ?_
            cases hF
            exact kret_i hx hb hr hlocks hP hD hS dX4_clause_75
        · replace hF := ite_t c_9 hF
          refine lv_iload hx hb dX4_clause_60 (lv_at hl 0 rfl) ?_
          cases hF
          exact kret_i hx hb hr hlocks hP hD hS dX4_clause_62
      · replace hF := ite_t c_8 hF
        refine lv_iload_n hx hb dX4_clause_53 rfl (lv_at hl 1 rfl) ?_
        cases hF
        exact kret_i hx hb hr hlocks hP hD hS dX4_clause_54
    · replace hF := ite_f c_3 hF
      cases hF

abbrev w_X4_isTrue (cy : Nat → ClassId) (A_t : Nat) (A_t_state : Nat) (A_t_saved : Nat) (A_t_beaten : Nat) (A_t_text : Nat) (A_t_state_positive : Nat) (A_t_state_negative : Nat) (t_state_variables : Int32) (t_state_breakers : Int32) (t_state_clauses : Int32) (t_state_learned : Int32) (t_state_rounds : Int32) (t_state_positive : Nat → Int32) (t_state_negative : Nat → Int32) : va_W := [(A_t, .inr (4, [.ref A_t_state, .ref A_t_saved, .ref A_t_beaten, .ref A_t_text])), (A_t_state, .inr (3, [.int t_state_variables, .int t_state_breakers, .int t_state_clauses, .ref A_t_state_positive, .ref A_t_state_negative, .int t_state_learned, .int t_state_rounds])), (A_t_state_positive, .inl (cy 0, 20, .inl t_state_positive)), (A_t_state_negative, .inl (cy 0, 20, .inl t_state_negative))]
def F_X4_isTrue (N : Nat) (p0 : Int32) (t_state_variables : Int32) (t_state_clauses : Int32) (t_state_positive : Nat → Int32) (t_state_negative : Nat → Int32) : Option (Bool) :=
  ob1 (F_X3_hasVariables N p0 t_state_variables) (fun r_1 => (if r_1 = true then ob1 (F_X3_holds N p0 t_state_clauses t_state_positive t_state_negative) (fun r_4 => some r_4) else none))
set_option maxHeartbeats 4000000 in
set_option maxRecDepth 100000 in
theorem c_X4_isTrue (l : Launch) (D : va_G) (cy : Nat → ClassId) (s0 tW N : Nat) (A_t : Nat) (A_t_state : Nat) (A_t_saved : Nat) (A_t_beaten : Nat) (A_t_text : Nat) (A_t_state_positive : Nat) (A_t_state_negative : Nat) (p0 : Int32) (t_state_variables : Int32) (t_state_breakers : Int32) (t_state_clauses : Int32) (t_state_learned : Int32) (t_state_rounds : Int32) (t_state_positive : Nat → Int32) (t_state_negative : Nat → Int32) (sz : Nat) {r9 : Bool} (hF : F_X4_isTrue N p0 t_state_variables t_state_clauses t_state_positive t_state_negative = some r9) : KM l D cy s0 tW yX4_isTrue cX4_isTrue 2 (some .boolean) 2 44 [.ref A_t, .int p0] sz (w_X4_isTrue cy A_t A_t_state A_t_saved A_t_beaten A_t_text A_t_state_positive A_t_state_negative t_state_variables t_state_breakers t_state_clauses t_state_learned t_state_rounds t_state_positive t_state_negative) (some (.int (bI r9))) (w_X4_isTrue cy A_t A_t_state A_t_saved A_t_beaten A_t_text A_t_state_positive A_t_state_negative t_state_variables t_state_breakers t_state_clauses t_state_learned t_state_rounds t_state_positive t_state_negative) := by
  refine KM.intro rfl (Nat.le_of_ble_eq_true rfl) ?_
  intro p e s m args below meth c A ls hx hb hr hml hown hts hlocks hE hP hD hS hA hAs hl
  have hK := hE.1
  have hl : lv_has ls 2 [(0, .ref A_t), (1, .int p0)] := hl
  unfold F_X4_isTrue at hF
  refine lv_aload_n hx hb dX4_isTrue_0 rfl (lv_at hl 0 rfl) ?_
  refine va_get (D := D) (ci := 4) (v := .ref A_t_state) (C := RX4) (T := TX4) (N := 4) hx hb hts inX4 hown hK hP 0 rfl rfl 0 (by decide) (hts _ q_212) (fun _ h9 => h9) rfl dX4_isTrue_1 ?_
  refine lv_iload_n hx hb dX4_isTrue_4 rfl (lv_at hl 1 rfl) ?_
  obtain ⟨r_1, hF_2, hF⟩ := ob1_some hF
  refine kcVN (q := (RX3, TX3, 7)) (ci := 3) (q0 := 1) (As := [.int p0]) (rest := []) (wr := [(A_t, .inr (4, [.ref A_t_state, .ref A_t_saved, .ref A_t_beaten, .ref A_t_text])), (A_t_state_positive, .inl (cy 0, 20, .inl t_state_positive)), (A_t_state_negative, .inl (cy 0, 20, .inl t_state_negative))]) (wsN := (w_X4_isTrue cy A_t A_t_state A_t_saved A_t_beaten A_t_text A_t_state_positive A_t_state_negative t_state_variables t_state_breakers t_state_clauses t_state_learned t_state_rounds t_state_positive t_state_negative)) ⟨hx, hb, hml, hown, hts⟩ hE hP hD hS hA hAs [1] [0, 2, 3] [0, 3, 1, 2] (c_X3_hasVariables l D cy s0 tW N A_t_state A_t_state_positive A_t_state_negative p0 t_state_variables t_state_breakers t_state_clauses t_state_learned t_state_rounds _ hF_2) q_448 q_84 q_447 q_33 (nq_445 hE.2.1) hd_X3_hasVariables.2 ⟨Nat.le_of_ble_eq_true rfl, Nat.le_of_ble_eq_true rfl⟩ rfl rfl rfl rfl rfl rfl rfl rfl rfl hl.1 rfl (Nat.le_of_ble_eq_true rfl) dX4_isTrue_5 ⟨Nat.zero_le _, Nat.zero_le _⟩ (fun H locs hP hD hS => ?_)
  refine W.eq (g2 := F0 m 8 ls [.int (bI r_1)]) rfl ?_
  refine lv_if_ne (tgt := 21) hx hb dX4_isTrue_8 (by decide) (fun c_3 => ?_) (fun c_3 => ?_)
  · replace hF := ite_t (bI_t c_3) hF
    refine lv_aload_n hx hb dX4_isTrue_21 rfl (lv_at hl 0 rfl) ?_
    refine va_get (D := D) (ci := 4) (v := .ref A_t_state) (C := RX4) (T := TX4) (N := 4) hx hb hts inX4 hown hK hP 0 rfl rfl 0 (by decide) (hts _ q_212) (fun _ h9 => h9) rfl dX4_isTrue_22 ?_
    refine lv_iload_n hx hb dX4_isTrue_25 rfl (lv_at hl 1 rfl) ?_
    obtain ⟨r_4, hF_5, hF⟩ := ob1_some hF
    refine kcVN (q := (RX3, TX3, 7)) (ci := 3) (q0 := 1) (As := [.int p0]) (rest := []) (wr := [(A_t, .inr (4, [.ref A_t_state, .ref A_t_saved, .ref A_t_beaten, .ref A_t_text]))]) (wsN := (w_X4_isTrue cy A_t A_t_state A_t_saved A_t_beaten A_t_text A_t_state_positive A_t_state_negative t_state_variables t_state_breakers t_state_clauses t_state_learned t_state_rounds t_state_positive t_state_negative)) ⟨hx, hb, hml, hown, hts⟩ hE hP hD hS hA hAs [1, 2, 3] [0] [0, 1, 2, 3] (c_X3_holds l D cy s0 tW N A_t_state A_t_state_positive A_t_state_negative p0 t_state_variables t_state_breakers t_state_clauses t_state_learned t_state_rounds t_state_positive t_state_negative _ hF_5) q_283 q_84 q_282 q_7 (nq_328 hE.2.1) hd_X3_holds.2 ⟨Nat.le_of_ble_eq_true rfl, Nat.le_of_ble_eq_true rfl⟩ rfl rfl rfl rfl rfl rfl rfl rfl rfl hl.1 rfl (Nat.le_of_ble_eq_true rfl) dX4_isTrue_26 ⟨Nat.zero_le _, Nat.zero_le _⟩ (fun H locs hP hD hS => ?_)
    refine W.eq (g2 := F0 m 29 ls [.int (bI r_4)]) rfl ?_
    cases hF
    exact kret_z hx hb hr hlocks hP hD hS dX4_isTrue_29
  · replace hF := ite_f (bI_f c_3) hF
    cases hF

theorem nq_114 {s : State} (h : NW s) : va_Nw (Cond.fieldLinkNest RX4 143 "ForAllGame$State" "breakers" "I" "ForAllGame") s := h.at 114 (by decide +kernel) rfl
abbrev w_X4_value (cy : Nat → ClassId) (A_t : Nat) (A_t_state : Nat) (A_t_saved : Nat) (A_t_beaten : Nat) (A_t_text : Nat) (A_t_state_positive : Nat) (A_t_state_negative : Nat) (t_state_variables : Int32) (t_state_breakers : Int32) (t_state_clauses : Int32) (t_state_learned : Int32) (t_state_rounds : Int32) : va_W := [(A_t, .inr (4, [.ref A_t_state, .ref A_t_saved, .ref A_t_beaten, .ref A_t_text])), (A_t_state, .inr (3, [.int t_state_variables, .int t_state_breakers, .int t_state_clauses, .ref A_t_state_positive, .ref A_t_state_negative, .int t_state_learned, .int t_state_rounds]))]
def F_X4_value (N : Nat) (p0 : Int32) (t_state_variables : Int32) (t_state_breakers : Int32) (t_state_clauses : Int32) (t_state_learned : Int32) (t_state_rounds : Int32) : Option (Int32) :=
  (if p0 < (0 : Int32) then none else (if p0 ≤ (6 : Int32) then (if p0 = (0 : Int32) then some t_state_variables else (if p0 = (1 : Int32) then ob1 (F_J6_bitCount_0f7a4 N t_state_breakers) (fun r_8 => some r_8) else (if p0 = (2 : Int32) then some t_state_clauses else (if p0 = (3 : Int32) then ob1 (F_J6_bitCount_0f7a4 N t_state_learned) (fun r_6 => some r_6) else (if p0 = (4 : Int32) then some t_state_learned else (if p0 = (5 : Int32) then some t_state_rounds else ob1 (F_X3_plays N t_state_breakers) (fun r_4 => some r_4))))))) else none))
set_option maxHeartbeats 4000000 in
set_option maxRecDepth 100000 in
theorem c_X4_value (l : Launch) (D : va_G) (cy : Nat → ClassId) (s0 tW N : Nat) (A_t : Nat) (A_t_state : Nat) (A_t_saved : Nat) (A_t_beaten : Nat) (A_t_text : Nat) (A_t_state_positive : Nat) (A_t_state_negative : Nat) (p0 : Int32) (t_state_variables : Int32) (t_state_breakers : Int32) (t_state_clauses : Int32) (t_state_learned : Int32) (t_state_rounds : Int32) (sz : Nat) {r9 : Int32} (hF : F_X4_value N p0 t_state_variables t_state_breakers t_state_clauses t_state_learned t_state_rounds = some r9) : KM l D cy s0 tW yX4_value cX4_value 2 (some .int) 2 40 [.ref A_t, .int p0] sz (w_X4_value cy A_t A_t_state A_t_saved A_t_beaten A_t_text A_t_state_positive A_t_state_negative t_state_variables t_state_breakers t_state_clauses t_state_learned t_state_rounds) (some (.int r9)) (w_X4_value cy A_t A_t_state A_t_saved A_t_beaten A_t_text A_t_state_positive A_t_state_negative t_state_variables t_state_breakers t_state_clauses t_state_learned t_state_rounds) := by
  refine KM.intro rfl (Nat.le_of_ble_eq_true rfl) ?_
  intro p e s m args below meth c A ls hx hb hr hml hown hts hlocks hE hP hD hS hA hAs hl
  have hK := hE.1
  have hl : lv_has ls 2 [(0, .ref A_t), (1, .int p0)] := hl
  unfold F_X4_value at hF
  refine lv_iload_n hx hb dX4_value_0 rfl (lv_at hl 1 rfl) ?_
  refine lv_if_lt (tgt := 10) hx hb dX4_value_1 (by decide) (fun c_1 => ?_) (fun c_1 => ?_)
  · replace hF := ite_t c_1 hF
    cases hF
  · replace hF := ite_f c_1 hF
    refine lv_iload_n hx hb dX4_value_4 rfl (lv_at hl 1 rfl) ?_
    refine lv_bipush (v := 6) hx hb dX4_value_5 (by decide) ?_
    refine lv_icmp_le (tgt := 20) hx hb dX4_value_7 (by decide) (fun c_2 => ?_) (fun c_2 => ?_)
    · replace hF := ite_t c_2 hF
      refine lv_iload_n hx hb dX4_value_20 rfl (lv_at hl 1 rfl) ?_
      by_cases c_3_0 : p0 = (0 : Int32)
      · replace hF := ite_t c_3_0 hF
        refine lv_tableIn (tgt := 60) hx hb dX4_value_21 (by rw [c_3_0]; decide) (by rw [c_3_0]; decide) (by rw [c_3_0]; rfl) (by decide) ?_
        refine lv_aload_n hx hb dX4_value_60 rfl (lv_at hl 0 rfl) ?_
        refine va_get (D := D) (ci := 4) (v := .ref A_t_state) (C := RX4) (T := TX4) (N := 4) hx hb hts inX4 hown hK hP 0 rfl rfl 0 (by decide) (hts _ q_212) (fun _ h9 => h9) rfl dX4_value_61 ?_
        refine va_getN (D := D) (ci := 3) (v := .int t_state_variables) (C := RX3) (T := TX3) (N := 7) hx hb hts inX3 hown hK hP 1 rfl rfl 0 (by decide) (va_Nw.use rfl (nq_111 hE.2.1)) (fun _ h9 => h9) rfl dX4_value_64 ?_
        cases hF
        exact kret_i hx hb hr hlocks hP hD hS dX4_value_67
      · replace hF := ite_f c_3_0 hF
        by_cases c_3_1 : p0 = (1 : Int32)
        · replace hF := ite_t c_3_1 hF
          refine lv_tableIn (tgt := 68) hx hb dX4_value_21 (by rw [c_3_1]; decide) (by rw [c_3_1]; decide) (by rw [c_3_1]; rfl) (by decide) ?_
          refine lv_aload_n hx hb dX4_value_68 rfl (lv_at hl 0 rfl) ?_
          refine va_get (D := D) (ci := 4) (v := .ref A_t_state) (C := RX4) (T := TX4) (N := 4) hx hb hts inX4 hown hK hP 0 rfl rfl 0 (by decide) (hts _ q_212) (fun _ h9 => h9) rfl dX4_value_69 ?_
          refine va_getN (D := D) (ci := 3) (v := .int t_state_breakers) (C := RX3) (T := TX3) (N := 7) hx hb hts inX3 hown hK hP 1 rfl rfl 1 (by decide) (va_Nw.use rfl (nq_114 hE.2.1)) (fun _ h9 => h9) rfl dX4_value_72 ?_
          obtain ⟨r_8, hF_9, hF⟩ := ob1_some hF
          refine kcS (As := [.int t_state_breakers]) (rest := []) (wr := [(A_t, .inr (4, [.ref A_t_state, .ref A_t_saved, .ref A_t_beaten, .ref A_t_text])), (A_t_state, .inr (3, [.int t_state_variables, .int t_state_breakers, .int t_state_clauses, .ref A_t_state_positive, .ref A_t_state_negative, .int t_state_learned, .int t_state_rounds]))]) (wsN := (w_X4_value cy A_t A_t_state A_t_saved A_t_beaten A_t_text A_t_state_positive A_t_state_negative t_state_variables t_state_breakers t_state_clauses t_state_learned t_state_rounds)) ⟨hx, hb, hml, hown, hts⟩ hE hP hD hS hA hAs [] [0, 1] [0, 1] (c_J6_bitCount_0f7a4 l D cy s0 tW N t_state_breakers _ hF_9) (gS q_255 q_256 q_89 q_257) hd_J6_bitCount_0f7a4.2 ⟨Nat.le_of_ble_eq_true rfl, Nat.le_of_ble_eq_true rfl⟩ rfl rfl rfl rfl rfl rfl rfl hl.1 rfl (Nat.le_of_ble_eq_true rfl) dX4_value_75 ⟨Nat.zero_le _, Nat.zero_le _⟩ (fun H locs hP hD hS => ?_)
          refine W.eq (g2 := F0 m 78 ls [.int r_8]) rfl ?_
          cases hF
          exact kret_i hx hb hr hlocks hP hD hS dX4_value_78
        · replace hF := ite_f c_3_1 hF
          by_cases c_3_2 : p0 = (2 : Int32)
          · replace hF := ite_t c_3_2 hF
            refine lv_tableIn (tgt := 79) hx hb dX4_value_21 (by rw [c_3_2]; decide) (by rw [c_3_2]; decide) (by rw [c_3_2]; rfl) (by decide) ?_
            refine lv_aload_n hx hb dX4_value_79 rfl (lv_at hl 0 rfl) ?_
            refine va_get (D := D) (ci := 4) (v := .ref A_t_state) (C := RX4) (T := TX4) (N := 4) hx hb hts inX4 hown hK hP 0 rfl rfl 0 (by decide) (hts _ q_212) (fun _ h9 => h9) rfl dX4_value_80 ?_
            refine va_getN (D := D) (ci := 3) (v := .int t_state_clauses) (C := RX3) (T := TX3) (N := 7) hx hb hts inX3 hown hK hP 1 rfl rfl 2 (by decide) (va_Nw.use rfl (nq_116 hE.2.1)) (fun _ h9 => h9) rfl dX4_value_83 ?_
            cases hF
            exact kret_i hx hb hr hlocks hP hD hS dX4_value_86
          · replace hF := ite_f c_3_2 hF
            by_cases c_3_3 : p0 = (3 : Int32)
            · replace hF := ite_t c_3_3 hF
              refine lv_tableIn (tgt := 87) hx hb dX4_value_21 (by rw [c_3_3]; decide) (by rw [c_3_3]; decide) (by rw [c_3_3]; rfl) (by decide) ?_
              refine lv_aload_n hx hb dX4_value_87 rfl (lv_at hl 0 rfl) ?_
              refine va_get (D := D) (ci := 4) (v := .ref A_t_state) (C := RX4) (T := TX4) (N := 4) hx hb hts inX4 hown hK hP 0 rfl rfl 0 (by decide) (hts _ q_212) (fun _ h9 => h9) rfl dX4_value_88 ?_
              refine va_getN (D := D) (ci := 3) (v := .int t_state_learned) (C := RX3) (T := TX3) (N := 7) hx hb hts inX3 hown hK hP 1 rfl rfl 5 (by decide) (va_Nw.use rfl (nq_122 hE.2.1)) (fun _ h9 => h9) rfl dX4_value_91 ?_
              obtain ⟨r_6, hF_7, hF⟩ := ob1_some hF
              refine kcS (As := [.int t_state_learned]) (rest := []) (wr := [(A_t, .inr (4, [.ref A_t_state, .ref A_t_saved, .ref A_t_beaten, .ref A_t_text])), (A_t_state, .inr (3, [.int t_state_variables, .int t_state_breakers, .int t_state_clauses, .ref A_t_state_positive, .ref A_t_state_negative, .int t_state_learned, .int t_state_rounds]))]) (wsN := (w_X4_value cy A_t A_t_state A_t_saved A_t_beaten A_t_text A_t_state_positive A_t_state_negative t_state_variables t_state_breakers t_state_clauses t_state_learned t_state_rounds)) ⟨hx, hb, hml, hown, hts⟩ hE hP hD hS hA hAs [] [0, 1] [0, 1] (c_J6_bitCount_0f7a4 l D cy s0 tW N t_state_learned _ hF_7) (gS q_255 q_256 q_89 q_257) hd_J6_bitCount_0f7a4.2 ⟨Nat.le_of_ble_eq_true rfl, Nat.le_of_ble_eq_true rfl⟩ rfl rfl rfl rfl rfl rfl rfl hl.1 rfl (Nat.le_of_ble_eq_true rfl) dX4_value_94 ⟨Nat.zero_le _, Nat.zero_le _⟩ (fun H locs hP hD hS => ?_)
              refine W.eq (g2 := F0 m 97 ls [.int r_6]) rfl ?_
              cases hF
              exact kret_i hx hb hr hlocks hP hD hS dX4_value_97
            · replace hF := ite_f c_3_3 hF
              by_cases c_3_4 : p0 = (4 : Int32)
              · replace hF := ite_t c_3_4 hF
                refine lv_tableIn (tgt := 98) hx hb dX4_value_21 (by rw [c_3_4]; decide) (by rw [c_3_4]; decide) (by rw [c_3_4]; rfl) (by decide) ?_
                refine lv_aload_n hx hb dX4_value_98 rfl (lv_at hl 0 rfl) ?_
                refine va_get (D := D) (ci := 4) (v := .ref A_t_state) (C := RX4) (T := TX4) (N := 4) hx hb hts inX4 hown hK hP 0 rfl rfl 0 (by decide) (hts _ q_212) (fun _ h9 => h9) rfl dX4_value_99 ?_
                refine va_getN (D := D) (ci := 3) (v := .int t_state_learned) (C := RX3) (T := TX3) (N := 7) hx hb hts inX3 hown hK hP 1 rfl rfl 5 (by decide) (va_Nw.use rfl (nq_122 hE.2.1)) (fun _ h9 => h9) rfl dX4_value_102 ?_
                cases hF
                exact kret_i hx hb hr hlocks hP hD hS dX4_value_105
              · replace hF := ite_f c_3_4 hF
                by_cases c_3_5 : p0 = (5 : Int32)
                · replace hF := ite_t c_3_5 hF
                  refine lv_tableIn (tgt := 106) hx hb dX4_value_21 (by rw [c_3_5]; decide) (by rw [c_3_5]; decide) (by rw [c_3_5]; rfl) (by decide) ?_
                  refine lv_aload_n hx hb dX4_value_106 rfl (lv_at hl 0 rfl) ?_
                  refine va_get (D := D) (ci := 4) (v := .ref A_t_state) (C := RX4) (T := TX4) (N := 4) hx hb hts inX4 hown hK hP 0 rfl rfl 0 (by decide) (hts _ q_212) (fun _ h9 => h9) rfl dX4_value_107 ?_
                  refine va_getN (D := D) (ci := 3) (v := .int t_state_rounds) (C := RX3) (T := TX3) (N := 7) hx hb hts inX3 hown hK hP 1 rfl rfl 6 (by decide) (va_Nw.use rfl (nq_124 hE.2.1)) (fun _ h9 => h9) rfl dX4_value_110 ?_
                  cases hF
                  exact kret_i hx hb hr hlocks hP hD hS dX4_value_113
                · replace hF := ite_f c_3_5 hF
                  have ho_21 : (p0 : Int32).toInt < 0 ∨ 5 < (p0 : Int32).toInt := by
                    have g0 := sw_ne (a := 0) c_3_0 rfl
                    have g1 := sw_ne (a := 1) c_3_1 rfl
                    have g2 := sw_ne (a := 2) c_3_2 rfl
                    have g3 := sw_ne (a := 3) c_3_3 rfl
                    have g4 := sw_ne (a := 4) c_3_4 rfl
                    have g5 := sw_ne (a := 5) c_3_5 rfl
                    omega
                  refine lv_tableOut (tgt := 114) hx hb dX4_value_21 ho_21 (by decide) ?_
                  refine lv_aload_n hx hb dX4_value_114 rfl (lv_at hl 0 rfl) ?_
                  refine va_get (D := D) (ci := 4) (v := .ref A_t_state) (C := RX4) (T := TX4) (N := 4) hx hb hts inX4 hown hK hP 0 rfl rfl 0 (by decide) (hts _ q_212) (fun _ h9 => h9) rfl dX4_value_115 ?_
                  obtain ⟨r_4, hF_5, hF⟩ := ob1_some hF
                  refine kcVN (q := (RX3, TX3, 7)) (ci := 3) (q0 := 1) (As := []) (rest := []) (wr := [(A_t, .inr (4, [.ref A_t_state, .ref A_t_saved, .ref A_t_beaten, .ref A_t_text]))]) (wsN := (w_X4_value cy A_t A_t_state A_t_saved A_t_beaten A_t_text A_t_state_positive A_t_state_negative t_state_variables t_state_breakers t_state_clauses t_state_learned t_state_rounds)) ⟨hx, hb, hml, hown, hts⟩ hE hP hD hS hA hAs [1] [0] [0, 1] (c_X3_plays l D cy s0 tW N A_t_state A_t_state_positive A_t_state_negative t_state_variables t_state_breakers t_state_clauses t_state_learned t_state_rounds _ hF_5) q_320 q_84 q_319 q_12 (nq_317 hE.2.1) hd_X3_plays.2 ⟨Nat.le_of_ble_eq_true rfl, Nat.le_of_ble_eq_true rfl⟩ rfl rfl rfl rfl rfl rfl rfl rfl rfl hl.1 rfl (Nat.le_of_ble_eq_true rfl) dX4_value_118 ⟨Nat.zero_le _, Nat.zero_le _⟩ (fun H locs hP hD hS => ?_)
                  refine W.eq (g2 := F0 m 121 ls [.int r_4]) rfl ?_
                  cases hF
                  exact kret_i hx hb hr hlocks hP hD hS dX4_value_121
    · replace hF := ite_f c_2 hF
      cases hF

theorem q_15 : Cond.selects RX3 yX3_allPlays yX3_allPlays ∈ wAll := wAll_mem 15 (by decide +kernel) (by decide +kernel)
theorem q_343 : Cond.instanceMethod yX3_allPlays ∈ wAll := wAll_mem 343 (by decide +kernel) (by decide +kernel)
theorem q_344 : Cond.code yX3_allPlays cX3_allPlays 1 (some .int) ∈ wAll := wAll_mem 344 (by decide +kernel) (by decide +kernel)
theorem nq_341 {s : State} (h : NW s) : va_Nw (Cond.methodLinkNest RX4 162 yX3_allPlays "ForAllGame") s := h.at 341 (by decide +kernel) rfl
theorem hd_X3_allPlays : yX3_allPlays.cls = RX3 ∧ yX3_allPlays.cls ≠ "java/lang/invoke/MethodHandle" ∧ yX3_allPlays.cls ≠ "java/lang/invoke/VarHandle" ∧ (parseMethodDescriptor yX3_allPlays.desc).map (fun d => d.parameters.length) = some 0 := by decide +kernel
abbrev w_X4_winnerIn (cy : Nat → ClassId) (A_t : Nat) (A_t_state : Nat) (A_t_saved : Nat) (A_t_beaten : Nat) (A_t_text : Nat) (A_t_state_positive : Nat) (A_t_state_negative : Nat) (A_t_beaten_bits : Nat) (t_state_variables : Int32) (t_state_breakers : Int32) (t_state_clauses : Int32) (t_state_learned : Int32) (t_state_rounds : Int32) (t_beaten_stale : Bool) (t_beaten_bits : Nat → Int64) : va_W := [(A_t, .inr (4, [.ref A_t_state, .ref A_t_saved, .ref A_t_beaten, .ref A_t_text])), (A_t_state, .inr (3, [.int t_state_variables, .int t_state_breakers, .int t_state_clauses, .ref A_t_state_positive, .ref A_t_state_negative, .int t_state_learned, .int t_state_rounds])), (A_t_beaten, .inr (0, [.ref A_t_beaten_bits, .int (bI t_beaten_stale)])), (A_t_beaten_bits, .inl (cy 1, 4096, .inr (.inl t_beaten_bits)))]
def F_X4_winnerIn (N : Nat) (p0 : Int32) (p1 : Int32) (t_state_breakers : Int32) (t_beaten_bits : Nat → Int64) : Option (Int32) :=
  ob1 (F_X3_allPlays N t_state_breakers) (fun r_1 => ob1 (F_X0_has N p0 p1 r_1 t_beaten_bits) (fun r_3 => (if r_3 = true then some 0 else some 1)))
set_option maxHeartbeats 4000000 in
set_option maxRecDepth 100000 in
theorem c_X4_winnerIn (l : Launch) (D : va_G) (cy : Nat → ClassId) (s0 tW N : Nat) (A_t : Nat) (A_t_state : Nat) (A_t_saved : Nat) (A_t_beaten : Nat) (A_t_text : Nat) (A_t_state_positive : Nat) (A_t_state_negative : Nat) (A_t_beaten_bits : Nat) (p0 : Int32) (p1 : Int32) (t_state_variables : Int32) (t_state_breakers : Int32) (t_state_clauses : Int32) (t_state_learned : Int32) (t_state_rounds : Int32) (t_beaten_stale : Bool) (t_beaten_bits : Nat → Int64) (sz : Nat) {r9 : Int32} (hF : F_X4_winnerIn N p0 p1 t_state_breakers t_beaten_bits = some r9) : KM l D cy s0 tW yX4_winnerIn cX4_winnerIn 3 (some .int) 3 60 [.ref A_t, .int p0, .int p1] sz (w_X4_winnerIn cy A_t A_t_state A_t_saved A_t_beaten A_t_text A_t_state_positive A_t_state_negative A_t_beaten_bits t_state_variables t_state_breakers t_state_clauses t_state_learned t_state_rounds t_beaten_stale t_beaten_bits) (some (.int r9)) (w_X4_winnerIn cy A_t A_t_state A_t_saved A_t_beaten A_t_text A_t_state_positive A_t_state_negative A_t_beaten_bits t_state_variables t_state_breakers t_state_clauses t_state_learned t_state_rounds t_beaten_stale t_beaten_bits) := by
  refine KM.intro rfl (Nat.le_of_ble_eq_true rfl) ?_
  intro p e s m args below meth c A ls hx hb hr hml hown hts hlocks hE hP hD hS hA hAs hl
  have hK := hE.1
  have hl : lv_has ls 3 [(0, .ref A_t), (1, .int p0), (2, .int p1)] := hl
  unfold F_X4_winnerIn at hF
  refine lv_aload_n hx hb dX4_winnerIn_0 rfl (lv_at hl 0 rfl) ?_
  refine va_get (D := D) (ci := 4) (v := .ref A_t_beaten) (C := RX4) (T := TX4) (N := 4) hx hb hts inX4 hown hK hP 0 rfl rfl 2 (by decide) (hts _ q_214) (fun _ h9 => h9) rfl dX4_winnerIn_1 ?_
  refine lv_iload_n hx hb dX4_winnerIn_4 rfl (lv_at hl 1 rfl) ?_
  refine lv_iload_n hx hb dX4_winnerIn_5 rfl (lv_at hl 2 rfl) ?_
  refine lv_aload_n hx hb dX4_winnerIn_6 rfl (lv_at hl 0 rfl) ?_
  refine va_get (D := D) (ci := 4) (v := .ref A_t_state) (C := RX4) (T := TX4) (N := 4) hx hb hts inX4 hown hK hP 0 rfl rfl 0 (by decide) (hts _ q_212) (fun _ h9 => h9) rfl dX4_winnerIn_7 ?_
  obtain ⟨r_1, hF_2, hF⟩ := ob1_some hF
  refine kcVN (q := (RX3, TX3, 7)) (ci := 3) (q0 := 1) (As := []) (rest := [.int p1, .int p0, .ref A_t_beaten]) (wr := [(A_t, .inr (4, [.ref A_t_state, .ref A_t_saved, .ref A_t_beaten, .ref A_t_text])), (A_t_beaten, .inr (0, [.ref A_t_beaten_bits, .int (bI t_beaten_stale)])), (A_t_beaten_bits, .inl (cy 1, 4096, .inr (.inl t_beaten_bits)))]) (wsN := (w_X4_winnerIn cy A_t A_t_state A_t_saved A_t_beaten A_t_text A_t_state_positive A_t_state_negative A_t_beaten_bits t_state_variables t_state_breakers t_state_clauses t_state_learned t_state_rounds t_beaten_stale t_beaten_bits)) ⟨hx, hb, hml, hown, hts⟩ hE hP hD hS hA hAs [1] [0, 2, 3] [0, 3, 1, 2] (c_X3_allPlays l D cy s0 tW N A_t_state A_t_state_positive A_t_state_negative t_state_variables t_state_breakers t_state_clauses t_state_learned t_state_rounds _ hF_2) q_344 q_84 q_343 q_15 (nq_341 hE.2.1) hd_X3_allPlays.2 ⟨Nat.le_of_ble_eq_true rfl, Nat.le_of_ble_eq_true rfl⟩ rfl rfl rfl rfl rfl rfl rfl rfl rfl hl.1 rfl (Nat.le_of_ble_eq_true rfl) dX4_winnerIn_10 ⟨Nat.zero_le _, Nat.zero_le _⟩ (fun H locs hP hD hS => ?_)
  refine W.eq (g2 := F0 m 13 ls [.int r_1, .int p1, .int p0, .ref A_t_beaten]) rfl ?_
  obtain ⟨r_3, hF_4, hF⟩ := ob1_some hF
  refine kcVN (q := (RX0, TX0, 2)) (ci := 0) (q0 := 2) (As := [.int p0, .int p1, .int r_1]) (rest := []) (wr := [(A_t, .inr (4, [.ref A_t_state, .ref A_t_saved, .ref A_t_beaten, .ref A_t_text])), (A_t_state, .inr (3, [.int t_state_variables, .int t_state_breakers, .int t_state_clauses, .ref A_t_state_positive, .ref A_t_state_negative, .int t_state_learned, .int t_state_rounds]))]) (wsN := (w_X4_winnerIn cy A_t A_t_state A_t_saved A_t_beaten A_t_text A_t_state_positive A_t_state_negative A_t_beaten_bits t_state_variables t_state_breakers t_state_clauses t_state_learned t_state_rounds t_beaten_stale t_beaten_bits)) ⟨hx, hb, hml, hown, hts⟩ hE hP hD hS hA hAs [2, 3] [0, 1] [0, 1, 2, 3] (c_X0_has l D cy s0 tW N A_t_beaten A_t_beaten_bits p0 p1 r_1 t_beaten_stale t_beaten_bits _ hF_4) q_316 q_86 q_315 q_11 (nq_313 hE.2.1) hd_X0_has.2 ⟨Nat.le_of_ble_eq_true rfl, Nat.le_of_ble_eq_true rfl⟩ rfl rfl rfl rfl rfl rfl rfl rfl rfl hl.1 rfl (Nat.le_of_ble_eq_true rfl) dX4_winnerIn_13 ⟨Nat.zero_le _, Nat.zero_le _⟩ (fun H locs hP hD hS => ?_)
  refine W.eq (g2 := F0 m 16 ls [.int (bI r_3)]) rfl ?_
  refine lv_if_eq (tgt := 23) hx hb dX4_winnerIn_16 (by decide) (fun c_5 => ?_) (fun c_5 => ?_)
  · replace hF := ite_f (bI_f c_5) hF
    refine lv_iconst (v := 1) hx hb dX4_winnerIn_23 (by decide) ?_
    cases hF
    exact kret_i hx hb hr hlocks hP hD hS dX4_winnerIn_24
  · replace hF := ite_t (bI_t c_5) hF
    refine lv_iconst (v := 0) hx hb dX4_winnerIn_19 (by decide) ?_
    refine lv_goto (tgt := 24) hx hb dX4_winnerIn_20 (by decide) ?_
    cases hF
    exact kret_i hx hb hr hlocks hP hD hS dX4_winnerIn_24

theorem q_14 : Cond.selects RX4 yX4_winnerIn yX4_winnerIn ∈ wAll := wAll_mem 14 (by decide +kernel) (by decide +kernel)
theorem q_337 : Cond.methodLink RX4 152 yX4_winnerIn ∈ wAll := wAll_mem 337 (by decide +kernel) (by decide +kernel)
theorem q_339 : Cond.instanceMethod yX4_winnerIn ∈ wAll := wAll_mem 339 (by decide +kernel) (by decide +kernel)
theorem q_340 : Cond.code yX4_winnerIn cX4_winnerIn 3 (some .int) ∈ wAll := wAll_mem 340 (by decide +kernel) (by decide +kernel)
theorem hd_X4_winnerIn : yX4_winnerIn.cls = RX4 ∧ yX4_winnerIn.cls ≠ "java/lang/invoke/MethodHandle" ∧ yX4_winnerIn.cls ≠ "java/lang/invoke/VarHandle" ∧ (parseMethodDescriptor yX4_winnerIn.desc).map (fun d => d.parameters.length) = some 2 := by decide +kernel
abbrev w_X4_winner (cy : Nat → ClassId) (A_t : Nat) (A_t_state : Nat) (A_t_saved : Nat) (A_t_beaten : Nat) (A_t_text : Nat) (A_t_state_positive : Nat) (A_t_state_negative : Nat) (A_t_beaten_bits : Nat) (t_state_variables : Int32) (t_state_breakers : Int32) (t_state_clauses : Int32) (t_state_learned : Int32) (t_state_rounds : Int32) (t_state_positive : Nat → Int32) (t_state_negative : Nat → Int32) (t_beaten_stale : Bool) (t_beaten_bits : Nat → Int64) : va_W := [(A_t, .inr (4, [.ref A_t_state, .ref A_t_saved, .ref A_t_beaten, .ref A_t_text])), (A_t_state, .inr (3, [.int t_state_variables, .int t_state_breakers, .int t_state_clauses, .ref A_t_state_positive, .ref A_t_state_negative, .int t_state_learned, .int t_state_rounds])), (A_t_state_positive, .inl (cy 0, 20, .inl t_state_positive)), (A_t_state_negative, .inl (cy 0, 20, .inl t_state_negative)), (A_t_beaten, .inr (0, [.ref A_t_beaten_bits, .int (bI t_beaten_stale)])), (A_t_beaten_bits, .inl (cy 1, 4096, .inr (.inl t_beaten_bits)))]
def F_X4_winner (N : Nat) (t_state_variables : Int32) (t_state_breakers : Int32) (t_state_clauses : Int32) (t_state_positive : Nat → Int32) (t_state_negative : Nat → Int32) (t_beaten_bits : Nat → Int64) (t_beaten_stale : Bool) : Option (Int32 × (Nat → Int64) × Bool) :=
  ob2 (F_X0_bringUpToDate N t_beaten_bits t_beaten_stale t_state_variables t_state_breakers t_state_clauses t_state_positive t_state_negative) (fun t_beaten_bits_1 t_beaten_stale_2 => ob1 (F_X4_winnerIn N 0 0 t_state_breakers t_beaten_bits_1) (fun r_4 => some (r_4, t_beaten_bits_1, t_beaten_stale_2)))
set_option maxHeartbeats 4000000 in
set_option maxRecDepth 100000 in
theorem c_X4_winner (l : Launch) (D : va_G) (cy : Nat → ClassId) (s0 tW N : Nat) (A_t : Nat) (A_t_state : Nat) (A_t_saved : Nat) (A_t_beaten : Nat) (A_t_text : Nat) (A_t_state_positive : Nat) (A_t_state_negative : Nat) (A_t_beaten_bits : Nat) (t_state_variables : Int32) (t_state_breakers : Int32) (t_state_clauses : Int32) (t_state_learned : Int32) (t_state_rounds : Int32) (t_state_positive : Nat → Int32) (t_state_negative : Nat → Int32) (t_beaten_stale : Bool) (t_beaten_bits : Nat → Int64) (sz : Nat) {r9 : Int32} {t_beaten_bits9 : Nat → Int64} {t_beaten_stale9 : Bool} (hF : F_X4_winner N t_state_variables t_state_breakers t_state_clauses t_state_positive t_state_negative t_beaten_bits t_beaten_stale = some (r9, t_beaten_bits9, t_beaten_stale9)) : KM l D cy s0 tW yX4_winner cX4_winner 1 (some .int) 4 96 [.ref A_t] sz (w_X4_winner cy A_t A_t_state A_t_saved A_t_beaten A_t_text A_t_state_positive A_t_state_negative A_t_beaten_bits t_state_variables t_state_breakers t_state_clauses t_state_learned t_state_rounds t_state_positive t_state_negative t_beaten_stale t_beaten_bits) (some (.int r9)) (w_X4_winner cy A_t A_t_state A_t_saved A_t_beaten A_t_text A_t_state_positive A_t_state_negative A_t_beaten_bits t_state_variables t_state_breakers t_state_clauses t_state_learned t_state_rounds t_state_positive t_state_negative t_beaten_stale9 t_beaten_bits9) := by
  refine KM.intro rfl (Nat.le_of_ble_eq_true rfl) ?_
  intro p e s m args below meth c A ls hx hb hr hml hown hts hlocks hE hP hD hS hA hAs hl
  have hK := hE.1
  have hl : lv_has ls 1 [(0, .ref A_t)] := hl
  unfold F_X4_winner at hF
  refine lv_aload_n hx hb dX4_winner_0 rfl (lv_at hl 0 rfl) ?_
  refine va_get (D := D) (ci := 4) (v := .ref A_t_beaten) (C := RX4) (T := TX4) (N := 4) hx hb hts inX4 hown hK hP 0 rfl rfl 2 (by decide) (hts _ q_214) (fun _ h9 => h9) rfl dX4_winner_1 ?_
  refine lv_aload_n hx hb dX4_winner_4 rfl (lv_at hl 0 rfl) ?_
  refine va_get (D := D) (ci := 4) (v := .ref A_t_state) (C := RX4) (T := TX4) (N := 4) hx hb hts inX4 hown hK hP 0 rfl rfl 0 (by decide) (hts _ q_212) (fun _ h9 => h9) rfl dX4_winner_5 ?_
  obtain ⟨t_beaten_bits_1, t_beaten_stale_2, hF_3, hF⟩ := ob2_some hF
  refine kcVN (q := (RX0, TX0, 2)) (ci := 0) (q0 := 4) (As := [.ref A_t_state]) (rest := []) (wr := [(A_t, .inr (4, [.ref A_t_state, .ref A_t_saved, .ref A_t_beaten, .ref A_t_text]))]) (wsN := (w_X4_winner cy A_t A_t_state A_t_saved A_t_beaten A_t_text A_t_state_positive A_t_state_negative A_t_beaten_bits t_state_variables t_state_breakers t_state_clauses t_state_learned t_state_rounds t_state_positive t_state_negative t_beaten_stale_2 t_beaten_bits_1)) ⟨hx, hb, hml, hown, hts⟩ hE hP hD hS hA hAs [4, 5, 1, 2, 3] [0] [0, 3, 4, 5, 1, 2] (c_X0_bringUpToDate l D cy s0 tW N A_t_beaten A_t_beaten_bits A_t_state A_t_state_positive A_t_state_negative t_beaten_stale t_beaten_bits t_state_variables t_state_breakers t_state_clauses t_state_learned t_state_rounds t_state_positive t_state_negative _ hF_3) q_272 q_86 q_271 q_5 (nq_269 hE.2.1) hd_X0_bringUpToDate.2 ⟨Nat.le_of_ble_eq_true rfl, Nat.le_of_ble_eq_true rfl⟩ rfl rfl rfl rfl rfl rfl rfl rfl rfl hl.1 rfl (Nat.le_of_ble_eq_true rfl) dX4_winner_8 ⟨Nat.zero_le _, Nat.zero_le _⟩ (fun H locs hP hD hS => ?_)
  refine W.eq (g2 := F0 m 11 ls []) rfl ?_
  refine lv_aload_n hx hb dX4_winner_11 rfl (lv_at hl 0 rfl) ?_
  refine lv_iconst (v := 0) hx hb dX4_winner_12 (by decide) ?_
  refine lv_iconst (v := 0) hx hb dX4_winner_13 (by decide) ?_
  obtain ⟨r_4, hF_5, hF⟩ := ob1_some hF
  refine kcV (q := (RX4, TX4, 4)) (ci := 4) (q0 := 0) (As := [.int 0, .int 0]) (rest := []) (wr := [(A_t_state_positive, .inl (cy 0, 20, .inl t_state_positive)), (A_t_state_negative, .inl (cy 0, 20, .inl t_state_negative))]) (wsN := (w_X4_winner cy A_t A_t_state A_t_saved A_t_beaten A_t_text A_t_state_positive A_t_state_negative A_t_beaten_bits t_state_variables t_state_breakers t_state_clauses t_state_learned t_state_rounds t_state_positive t_state_negative t_beaten_stale_2 t_beaten_bits_1)) ⟨hx, hb, hml, hown, hts⟩ hE hP hD hS hA hAs [0, 1, 4, 5] [2, 3] [2, 3, 0, 1, 4, 5] (c_X4_winnerIn l D cy s0 tW N A_t A_t_state A_t_saved A_t_beaten A_t_text A_t_state_positive A_t_state_negative A_t_beaten_bits 0 0 t_state_variables t_state_breakers t_state_clauses t_state_learned t_state_rounds t_beaten_stale_2 t_beaten_bits_1 _ hF_5) (gV q_337 q_339 q_14 q_83 q_340) hd_X4_winnerIn ⟨Nat.le_of_ble_eq_true rfl, Nat.le_of_ble_eq_true rfl⟩ rfl rfl rfl rfl rfl rfl rfl rfl rfl hl.1 rfl (Nat.le_of_ble_eq_true rfl) dX4_winner_14 ⟨Nat.zero_le _, Nat.zero_le _⟩ (fun H locs hP hD hS => ?_)
  refine W.eq (g2 := F0 m 17 ls [.int r_4]) rfl ?_
  cases hF
  exact kret_i hx hb hr hlocks hP hD hS dX4_winner_17

theorem q_43 : Cond.selects RX4 yX4_requireHistory yX4_requireHistory ∈ wAll := wAll_mem 43 (by decide +kernel) (by decide +kernel)
theorem q_664 : Cond.methodLink RX4 156 yX4_requireHistory ∈ wAll := wAll_mem 664 (by decide +kernel) (by decide +kernel)
theorem q_666 : Cond.instanceMethod yX4_requireHistory ∈ wAll := wAll_mem 666 (by decide +kernel) (by decide +kernel)
theorem q_667 : Cond.code yX4_requireHistory cX4_requireHistory 3 none ∈ wAll := wAll_mem 667 (by decide +kernel) (by decide +kernel)
theorem hd_X4_requireHistory : yX4_requireHistory.cls = RX4 ∧ yX4_requireHistory.cls ≠ "java/lang/invoke/MethodHandle" ∧ yX4_requireHistory.cls ≠ "java/lang/invoke/VarHandle" ∧ (parseMethodDescriptor yX4_requireHistory.desc).map (fun d => d.parameters.length) = some 2 := by decide +kernel
abbrev w_X4_winnerAt (cy : Nat → ClassId) (A_t : Nat) (A_t_state : Nat) (A_t_saved : Nat) (A_t_beaten : Nat) (A_t_text : Nat) (A_t_state_positive : Nat) (A_t_state_negative : Nat) (A_t_beaten_bits : Nat) (t_state_variables : Int32) (t_state_breakers : Int32) (t_state_clauses : Int32) (t_state_learned : Int32) (t_state_rounds : Int32) (t_state_positive : Nat → Int32) (t_state_negative : Nat → Int32) (t_beaten_stale : Bool) (t_beaten_bits : Nat → Int64) : va_W := [(A_t, .inr (4, [.ref A_t_state, .ref A_t_saved, .ref A_t_beaten, .ref A_t_text])), (A_t_state, .inr (3, [.int t_state_variables, .int t_state_breakers, .int t_state_clauses, .ref A_t_state_positive, .ref A_t_state_negative, .int t_state_learned, .int t_state_rounds])), (A_t_state_positive, .inl (cy 0, 20, .inl t_state_positive)), (A_t_state_negative, .inl (cy 0, 20, .inl t_state_negative)), (A_t_beaten, .inr (0, [.ref A_t_beaten_bits, .int (bI t_beaten_stale)])), (A_t_beaten_bits, .inl (cy 1, 4096, .inr (.inl t_beaten_bits)))]
def F_X4_winnerAt (N : Nat) (p0 : Int32) (p1 : Int32) (t_state_variables : Int32) (t_state_breakers : Int32) (t_state_clauses : Int32) (t_state_positive : Nat → Int32) (t_state_negative : Nat → Int32) (t_beaten_bits : Nat → Int64) (t_beaten_stale : Bool) : Option (Int32 × (Nat → Int64) × Bool) :=
  ob0 (F_X4_requireVariable N p0 t_state_variables) (ob0 (F_X4_requireHistory N p0 p1) (ob2 (F_X0_bringUpToDate N t_beaten_bits t_beaten_stale t_state_variables t_state_breakers t_state_clauses t_state_positive t_state_negative) (fun t_beaten_bits_3 t_beaten_stale_4 => ob1 (F_X4_winnerIn N p0 p1 t_state_breakers t_beaten_bits_3) (fun r_6 => some (r_6, t_beaten_bits_3, t_beaten_stale_4)))))
set_option maxHeartbeats 4000000 in
set_option maxRecDepth 100000 in
theorem c_X4_winnerAt (l : Launch) (D : va_G) (cy : Nat → ClassId) (s0 tW N : Nat) (A_t : Nat) (A_t_state : Nat) (A_t_saved : Nat) (A_t_beaten : Nat) (A_t_text : Nat) (A_t_state_positive : Nat) (A_t_state_negative : Nat) (A_t_beaten_bits : Nat) (p0 : Int32) (p1 : Int32) (t_state_variables : Int32) (t_state_breakers : Int32) (t_state_clauses : Int32) (t_state_learned : Int32) (t_state_rounds : Int32) (t_state_positive : Nat → Int32) (t_state_negative : Nat → Int32) (t_beaten_stale : Bool) (t_beaten_bits : Nat → Int64) (sz : Nat) {r9 : Int32} {t_beaten_bits9 : Nat → Int64} {t_beaten_stale9 : Bool} (hF : F_X4_winnerAt N p0 p1 t_state_variables t_state_breakers t_state_clauses t_state_positive t_state_negative t_beaten_bits t_beaten_stale = some (r9, t_beaten_bits9, t_beaten_stale9)) : KM l D cy s0 tW yX4_winnerAt cX4_winnerAt 3 (some .int) 4 96 [.ref A_t, .int p0, .int p1] sz (w_X4_winnerAt cy A_t A_t_state A_t_saved A_t_beaten A_t_text A_t_state_positive A_t_state_negative A_t_beaten_bits t_state_variables t_state_breakers t_state_clauses t_state_learned t_state_rounds t_state_positive t_state_negative t_beaten_stale t_beaten_bits) (some (.int r9)) (w_X4_winnerAt cy A_t A_t_state A_t_saved A_t_beaten A_t_text A_t_state_positive A_t_state_negative A_t_beaten_bits t_state_variables t_state_breakers t_state_clauses t_state_learned t_state_rounds t_state_positive t_state_negative t_beaten_stale9 t_beaten_bits9) := by
  refine KM.intro rfl (Nat.le_of_ble_eq_true rfl) ?_
  intro p e s m args below meth c A ls hx hb hr hml hown hts hlocks hE hP hD hS hA hAs hl
  have hK := hE.1
  have hl : lv_has ls 3 [(0, .ref A_t), (1, .int p0), (2, .int p1)] := hl
  unfold F_X4_winnerAt at hF
  refine lv_aload_n hx hb dX4_winnerAt_0 rfl (lv_at hl 0 rfl) ?_
  refine lv_iload_n hx hb dX4_winnerAt_1 rfl (lv_at hl 1 rfl) ?_
  obtain ⟨hF_1, hF⟩ := ob0_some hF
  refine kcV (q := (RX4, TX4, 4)) (ci := 4) (q0 := 0) (As := [.int p0]) (rest := []) (wr := [(A_t_state_positive, .inl (cy 0, 20, .inl t_state_positive)), (A_t_state_negative, .inl (cy 0, 20, .inl t_state_negative)), (A_t_beaten, .inr (0, [.ref A_t_beaten_bits, .int (bI t_beaten_stale)])), (A_t_beaten_bits, .inl (cy 1, 4096, .inr (.inl t_beaten_bits)))]) (wsN := (w_X4_winnerAt cy A_t A_t_state A_t_saved A_t_beaten A_t_text A_t_state_positive A_t_state_negative A_t_beaten_bits t_state_variables t_state_breakers t_state_clauses t_state_learned t_state_rounds t_state_positive t_state_negative t_beaten_stale t_beaten_bits)) ⟨hx, hb, hml, hown, hts⟩ hE hP hD hS hA hAs [0, 1] [2, 3, 4, 5] [4, 5, 0, 1, 2, 3] (c_X4_requireVariable l D cy s0 tW N A_t A_t_state A_t_saved A_t_beaten A_t_text A_t_state_positive A_t_state_negative p0 t_state_variables t_state_breakers t_state_clauses t_state_learned t_state_rounds _ hF_1) (gV q_636 q_638 q_42 q_83 q_639) hd_X4_requireVariable ⟨Nat.le_of_ble_eq_true rfl, Nat.le_of_ble_eq_true rfl⟩ rfl rfl rfl rfl rfl rfl rfl rfl rfl hl.1 rfl (Nat.le_of_ble_eq_true rfl) dX4_winnerAt_2 ⟨Nat.zero_le _, Nat.zero_le _⟩ (fun H locs hP hD hS => ?_)
  refine W.eq (g2 := F0 m 5 ls []) rfl ?_
  refine lv_aload_n hx hb dX4_winnerAt_5 rfl (lv_at hl 0 rfl) ?_
  refine lv_iload_n hx hb dX4_winnerAt_6 rfl (lv_at hl 1 rfl) ?_
  refine lv_iload_n hx hb dX4_winnerAt_7 rfl (lv_at hl 2 rfl) ?_
  obtain ⟨hF_2, hF⟩ := ob0_some hF
  refine kcV (q := (RX4, TX4, 4)) (ci := 4) (q0 := 0) (As := [.int p0, .int p1]) (rest := []) (wr := [(A_t, .inr (4, [.ref A_t_state, .ref A_t_saved, .ref A_t_beaten, .ref A_t_text])), (A_t_state, .inr (3, [.int t_state_variables, .int t_state_breakers, .int t_state_clauses, .ref A_t_state_positive, .ref A_t_state_negative, .int t_state_learned, .int t_state_rounds])), (A_t_state_positive, .inl (cy 0, 20, .inl t_state_positive)), (A_t_state_negative, .inl (cy 0, 20, .inl t_state_negative)), (A_t_beaten, .inr (0, [.ref A_t_beaten_bits, .int (bI t_beaten_stale)])), (A_t_beaten_bits, .inl (cy 1, 4096, .inr (.inl t_beaten_bits)))]) (wsN := (w_X4_winnerAt cy A_t A_t_state A_t_saved A_t_beaten A_t_text A_t_state_positive A_t_state_negative A_t_beaten_bits t_state_variables t_state_breakers t_state_clauses t_state_learned t_state_rounds t_state_positive t_state_negative t_beaten_stale t_beaten_bits)) ⟨hx, hb, hml, hown, hts⟩ hE hP hD hS hA hAs [] [0, 1, 2, 3, 4, 5] [0, 1, 2, 3, 4, 5] (c_X4_requireHistory l D cy s0 tW N A_t p0 p1 _ hF_2) (gV q_664 q_666 q_43 q_83 q_667) hd_X4_requireHistory ⟨Nat.le_of_ble_eq_true rfl, Nat.le_of_ble_eq_true rfl⟩ rfl rfl rfl rfl rfl rfl rfl rfl rfl hl.1 rfl (Nat.le_of_ble_eq_true rfl) dX4_winnerAt_8 ⟨Nat.zero_le _, Nat.zero_le _⟩ (fun H locs hP hD hS => ?_)
  refine W.eq (g2 := F0 m 11 ls []) rfl ?_
  refine lv_aload_n hx hb dX4_winnerAt_11 rfl (lv_at hl 0 rfl) ?_
  refine va_get (D := D) (ci := 4) (v := .ref A_t_beaten) (C := RX4) (T := TX4) (N := 4) hx hb hts inX4 hown hK hP 0 rfl rfl 2 (by decide) (hts _ q_214) (fun _ h9 => h9) rfl dX4_winnerAt_12 ?_
  refine lv_aload_n hx hb dX4_winnerAt_15 rfl (lv_at hl 0 rfl) ?_
  refine va_get (D := D) (ci := 4) (v := .ref A_t_state) (C := RX4) (T := TX4) (N := 4) hx hb hts inX4 hown hK hP 0 rfl rfl 0 (by decide) (hts _ q_212) (fun _ h9 => h9) rfl dX4_winnerAt_16 ?_
  obtain ⟨t_beaten_bits_3, t_beaten_stale_4, hF_5, hF⟩ := ob2_some hF
  refine kcVN (q := (RX0, TX0, 2)) (ci := 0) (q0 := 4) (As := [.ref A_t_state]) (rest := []) (wr := [(A_t, .inr (4, [.ref A_t_state, .ref A_t_saved, .ref A_t_beaten, .ref A_t_text]))]) (wsN := (w_X4_winnerAt cy A_t A_t_state A_t_saved A_t_beaten A_t_text A_t_state_positive A_t_state_negative A_t_beaten_bits t_state_variables t_state_breakers t_state_clauses t_state_learned t_state_rounds t_state_positive t_state_negative t_beaten_stale_4 t_beaten_bits_3)) ⟨hx, hb, hml, hown, hts⟩ hE hP hD hS hA hAs [4, 5, 1, 2, 3] [0] [0, 3, 4, 5, 1, 2] (c_X0_bringUpToDate l D cy s0 tW N A_t_beaten A_t_beaten_bits A_t_state A_t_state_positive A_t_state_negative t_beaten_stale t_beaten_bits t_state_variables t_state_breakers t_state_clauses t_state_learned t_state_rounds t_state_positive t_state_negative _ hF_5) q_272 q_86 q_271 q_5 (nq_269 hE.2.1) hd_X0_bringUpToDate.2 ⟨Nat.le_of_ble_eq_true rfl, Nat.le_of_ble_eq_true rfl⟩ rfl rfl rfl rfl rfl rfl rfl rfl rfl hl.1 rfl (Nat.le_of_ble_eq_true rfl) dX4_winnerAt_19 ⟨Nat.zero_le _, Nat.zero_le _⟩ (fun H locs hP hD hS => ?_)
  refine W.eq (g2 := F0 m 22 ls []) rfl ?_
  refine lv_aload_n hx hb dX4_winnerAt_22 rfl (lv_at hl 0 rfl) ?_
  refine lv_iload_n hx hb dX4_winnerAt_23 rfl (lv_at hl 1 rfl) ?_
  refine lv_iload_n hx hb dX4_winnerAt_24 rfl (lv_at hl 2 rfl) ?_
  obtain ⟨r_6, hF_7, hF⟩ := ob1_some hF
  refine kcV (q := (RX4, TX4, 4)) (ci := 4) (q0 := 0) (As := [.int p0, .int p1]) (rest := []) (wr := [(A_t_state_positive, .inl (cy 0, 20, .inl t_state_positive)), (A_t_state_negative, .inl (cy 0, 20, .inl t_state_negative))]) (wsN := (w_X4_winnerAt cy A_t A_t_state A_t_saved A_t_beaten A_t_text A_t_state_positive A_t_state_negative A_t_beaten_bits t_state_variables t_state_breakers t_state_clauses t_state_learned t_state_rounds t_state_positive t_state_negative t_beaten_stale_4 t_beaten_bits_3)) ⟨hx, hb, hml, hown, hts⟩ hE hP hD hS hA hAs [0, 1, 4, 5] [2, 3] [2, 3, 0, 1, 4, 5] (c_X4_winnerIn l D cy s0 tW N A_t A_t_state A_t_saved A_t_beaten A_t_text A_t_state_positive A_t_state_negative A_t_beaten_bits p0 p1 t_state_variables t_state_breakers t_state_clauses t_state_learned t_state_rounds t_beaten_stale_4 t_beaten_bits_3 _ hF_7) (gV q_337 q_339 q_14 q_83 q_340) hd_X4_winnerIn ⟨Nat.le_of_ble_eq_true rfl, Nat.le_of_ble_eq_true rfl⟩ rfl rfl rfl rfl rfl rfl rfl rfl rfl hl.1 rfl (Nat.le_of_ble_eq_true rfl) dX4_winnerAt_25 ⟨Nat.zero_le _, Nat.zero_le _⟩ (fun H locs hP hD hS => ?_)
  refine W.eq (g2 := F0 m 28 ls [.int r_6]) rfl ?_
  cases hF
  exact kret_i hx hb hr hlocks hP hD hS dX4_winnerAt_28

abbrev w_X4_move (cy : Nat → ClassId) (A_t : Nat) (A_t_state : Nat) (A_t_saved : Nat) (A_t_beaten : Nat) (A_t_text : Nat) (A_t_state_positive : Nat) (A_t_state_negative : Nat) (A_t_beaten_bits : Nat) (t_state_variables : Int32) (t_state_breakers : Int32) (t_state_clauses : Int32) (t_state_learned : Int32) (t_state_rounds : Int32) (t_state_positive : Nat → Int32) (t_state_negative : Nat → Int32) (t_beaten_stale : Bool) (t_beaten_bits : Nat → Int64) : va_W := [(A_t, .inr (4, [.ref A_t_state, .ref A_t_saved, .ref A_t_beaten, .ref A_t_text])), (A_t_state, .inr (3, [.int t_state_variables, .int t_state_breakers, .int t_state_clauses, .ref A_t_state_positive, .ref A_t_state_negative, .int t_state_learned, .int t_state_rounds])), (A_t_state_positive, .inl (cy 0, 20, .inl t_state_positive)), (A_t_state_negative, .inl (cy 0, 20, .inl t_state_negative)), (A_t_beaten, .inr (0, [.ref A_t_beaten_bits, .int (bI t_beaten_stale)])), (A_t_beaten_bits, .inl (cy 1, 4096, .inr (.inl t_beaten_bits)))]
def F_X4_move (N : Nat) (p0 : Int32) (p1 : Int32) (t_state_variables : Int32) (t_state_breakers : Int32) (t_state_clauses : Int32) (t_state_positive : Nat → Int32) (t_state_negative : Nat → Int32) (t_beaten_bits : Nat → Int64) (t_beaten_stale : Bool) : Option (Int32 × (Nat → Int64) × Bool) :=
  ob0 (F_X4_requireVariable N p0 t_state_variables) (ob0 (F_X4_requireHistory N p0 p1) (ob2 (F_X0_bringUpToDate N t_beaten_bits t_beaten_stale t_state_variables t_state_breakers t_state_clauses t_state_positive t_state_negative) (fun t_beaten_bits_3 t_beaten_stale_4 => ob1 (F_X3_ownerOf N p0 t_state_breakers) (fun r_6 => ob1 (F_X4_winnerIn N (p0 + 1) p1 t_state_breakers t_beaten_bits_3) (fun r_8 => (if r_8 = r_6 then some (0, t_beaten_bits_3, t_beaten_stale_4) else ob1 (F_X4_winnerIn N (p0 + 1) (p1 ||| ((1 : Int32) <<< (p0 &&& 31))) t_state_breakers t_beaten_bits_3) (fun r_11 => (if r_11 = r_6 then some (1, t_beaten_bits_3, t_beaten_stale_4) else some ((-1), t_beaten_bits_3, t_beaten_stale_4)))))))))
set_option maxHeartbeats 4000000 in
set_option maxRecDepth 100000 in
theorem c_X4_move (l : Launch) (D : va_G) (cy : Nat → ClassId) (s0 tW N : Nat) (A_t : Nat) (A_t_state : Nat) (A_t_saved : Nat) (A_t_beaten : Nat) (A_t_text : Nat) (A_t_state_positive : Nat) (A_t_state_negative : Nat) (A_t_beaten_bits : Nat) (p0 : Int32) (p1 : Int32) (t_state_variables : Int32) (t_state_breakers : Int32) (t_state_clauses : Int32) (t_state_learned : Int32) (t_state_rounds : Int32) (t_state_positive : Nat → Int32) (t_state_negative : Nat → Int32) (t_beaten_stale : Bool) (t_beaten_bits : Nat → Int64) (sz : Nat) {r9 : Int32} {t_beaten_bits9 : Nat → Int64} {t_beaten_stale9 : Bool} (hF : F_X4_move N p0 p1 t_state_variables t_state_breakers t_state_clauses t_state_positive t_state_negative t_beaten_bits t_beaten_stale = some (r9, t_beaten_bits9, t_beaten_stale9)) : KM l D cy s0 tW yX4_move cX4_move 4 (some .int) 4 96 [.ref A_t, .int p0, .int p1] sz (w_X4_move cy A_t A_t_state A_t_saved A_t_beaten A_t_text A_t_state_positive A_t_state_negative A_t_beaten_bits t_state_variables t_state_breakers t_state_clauses t_state_learned t_state_rounds t_state_positive t_state_negative t_beaten_stale t_beaten_bits) (some (.int r9)) (w_X4_move cy A_t A_t_state A_t_saved A_t_beaten A_t_text A_t_state_positive A_t_state_negative A_t_beaten_bits t_state_variables t_state_breakers t_state_clauses t_state_learned t_state_rounds t_state_positive t_state_negative t_beaten_stale9 t_beaten_bits9) := by
  refine KM.intro rfl (Nat.le_of_ble_eq_true rfl) ?_
  intro p e s m args below meth c A ls hx hb hr hml hown hts hlocks hE hP hD hS hA hAs hl
  have hK := hE.1
  have hl : lv_has ls 4 [(0, .ref A_t), (1, .int p0), (2, .int p1)] := hl
  unfold F_X4_move at hF
  refine lv_aload_n hx hb dX4_move_0 rfl (lv_at hl 0 rfl) ?_
  refine lv_iload_n hx hb dX4_move_1 rfl (lv_at hl 1 rfl) ?_
  obtain ⟨hF_1, hF⟩ := ob0_some hF
  refine kcV (q := (RX4, TX4, 4)) (ci := 4) (q0 := 0) (As := [.int p0]) (rest := []) (wr := [(A_t_state_positive, .inl (cy 0, 20, .inl t_state_positive)), (A_t_state_negative, .inl (cy 0, 20, .inl t_state_negative)), (A_t_beaten, .inr (0, [.ref A_t_beaten_bits, .int (bI t_beaten_stale)])), (A_t_beaten_bits, .inl (cy 1, 4096, .inr (.inl t_beaten_bits)))]) (wsN := (w_X4_move cy A_t A_t_state A_t_saved A_t_beaten A_t_text A_t_state_positive A_t_state_negative A_t_beaten_bits t_state_variables t_state_breakers t_state_clauses t_state_learned t_state_rounds t_state_positive t_state_negative t_beaten_stale t_beaten_bits)) ⟨hx, hb, hml, hown, hts⟩ hE hP hD hS hA hAs [0, 1] [2, 3, 4, 5] [4, 5, 0, 1, 2, 3] (c_X4_requireVariable l D cy s0 tW N A_t A_t_state A_t_saved A_t_beaten A_t_text A_t_state_positive A_t_state_negative p0 t_state_variables t_state_breakers t_state_clauses t_state_learned t_state_rounds _ hF_1) (gV q_636 q_638 q_42 q_83 q_639) hd_X4_requireVariable ⟨Nat.le_of_ble_eq_true rfl, Nat.le_of_ble_eq_true rfl⟩ rfl rfl rfl rfl rfl rfl rfl rfl rfl hl.1 rfl (Nat.le_of_ble_eq_true rfl) dX4_move_2 ⟨Nat.zero_le _, Nat.zero_le _⟩ (fun H locs hP hD hS => ?_)
  refine W.eq (g2 := F0 m 5 ls []) rfl ?_
  refine lv_aload_n hx hb dX4_move_5 rfl (lv_at hl 0 rfl) ?_
  refine lv_iload_n hx hb dX4_move_6 rfl (lv_at hl 1 rfl) ?_
  refine lv_iload_n hx hb dX4_move_7 rfl (lv_at hl 2 rfl) ?_
  obtain ⟨hF_2, hF⟩ := ob0_some hF
  refine kcV (q := (RX4, TX4, 4)) (ci := 4) (q0 := 0) (As := [.int p0, .int p1]) (rest := []) (wr := [(A_t, .inr (4, [.ref A_t_state, .ref A_t_saved, .ref A_t_beaten, .ref A_t_text])), (A_t_state, .inr (3, [.int t_state_variables, .int t_state_breakers, .int t_state_clauses, .ref A_t_state_positive, .ref A_t_state_negative, .int t_state_learned, .int t_state_rounds])), (A_t_state_positive, .inl (cy 0, 20, .inl t_state_positive)), (A_t_state_negative, .inl (cy 0, 20, .inl t_state_negative)), (A_t_beaten, .inr (0, [.ref A_t_beaten_bits, .int (bI t_beaten_stale)])), (A_t_beaten_bits, .inl (cy 1, 4096, .inr (.inl t_beaten_bits)))]) (wsN := (w_X4_move cy A_t A_t_state A_t_saved A_t_beaten A_t_text A_t_state_positive A_t_state_negative A_t_beaten_bits t_state_variables t_state_breakers t_state_clauses t_state_learned t_state_rounds t_state_positive t_state_negative t_beaten_stale t_beaten_bits)) ⟨hx, hb, hml, hown, hts⟩ hE hP hD hS hA hAs [] [0, 1, 2, 3, 4, 5] [0, 1, 2, 3, 4, 5] (c_X4_requireHistory l D cy s0 tW N A_t p0 p1 _ hF_2) (gV q_664 q_666 q_43 q_83 q_667) hd_X4_requireHistory ⟨Nat.le_of_ble_eq_true rfl, Nat.le_of_ble_eq_true rfl⟩ rfl rfl rfl rfl rfl rfl rfl rfl rfl hl.1 rfl (Nat.le_of_ble_eq_true rfl) dX4_move_8 ⟨Nat.zero_le _, Nat.zero_le _⟩ (fun H locs hP hD hS => ?_)
  refine W.eq (g2 := F0 m 11 ls []) rfl ?_
  refine lv_aload_n hx hb dX4_move_11 rfl (lv_at hl 0 rfl) ?_
  refine va_get (D := D) (ci := 4) (v := .ref A_t_beaten) (C := RX4) (T := TX4) (N := 4) hx hb hts inX4 hown hK hP 0 rfl rfl 2 (by decide) (hts _ q_214) (fun _ h9 => h9) rfl dX4_move_12 ?_
  refine lv_aload_n hx hb dX4_move_15 rfl (lv_at hl 0 rfl) ?_
  refine va_get (D := D) (ci := 4) (v := .ref A_t_state) (C := RX4) (T := TX4) (N := 4) hx hb hts inX4 hown hK hP 0 rfl rfl 0 (by decide) (hts _ q_212) (fun _ h9 => h9) rfl dX4_move_16 ?_
  obtain ⟨t_beaten_bits_3, t_beaten_stale_4, hF_5, hF⟩ := ob2_some hF
  refine kcVN (q := (RX0, TX0, 2)) (ci := 0) (q0 := 4) (As := [.ref A_t_state]) (rest := []) (wr := [(A_t, .inr (4, [.ref A_t_state, .ref A_t_saved, .ref A_t_beaten, .ref A_t_text]))]) (wsN := (w_X4_move cy A_t A_t_state A_t_saved A_t_beaten A_t_text A_t_state_positive A_t_state_negative A_t_beaten_bits t_state_variables t_state_breakers t_state_clauses t_state_learned t_state_rounds t_state_positive t_state_negative t_beaten_stale_4 t_beaten_bits_3)) ⟨hx, hb, hml, hown, hts⟩ hE hP hD hS hA hAs [4, 5, 1, 2, 3] [0] [0, 3, 4, 5, 1, 2] (c_X0_bringUpToDate l D cy s0 tW N A_t_beaten A_t_beaten_bits A_t_state A_t_state_positive A_t_state_negative t_beaten_stale t_beaten_bits t_state_variables t_state_breakers t_state_clauses t_state_learned t_state_rounds t_state_positive t_state_negative _ hF_5) q_272 q_86 q_271 q_5 (nq_269 hE.2.1) hd_X0_bringUpToDate.2 ⟨Nat.le_of_ble_eq_true rfl, Nat.le_of_ble_eq_true rfl⟩ rfl rfl rfl rfl rfl rfl rfl rfl rfl hl.1 rfl (Nat.le_of_ble_eq_true rfl) dX4_move_19 ⟨Nat.zero_le _, Nat.zero_le _⟩ (fun H locs hP hD hS => ?_)
  refine W.eq (g2 := F0 m 22 ls []) rfl ?_
  refine lv_aload_n hx hb dX4_move_22 rfl (lv_at hl 0 rfl) ?_
  refine va_get (D := D) (ci := 4) (v := .ref A_t_state) (C := RX4) (T := TX4) (N := 4) hx hb hts inX4 hown hK hP 0 rfl rfl 0 (by decide) (hts _ q_212) (fun _ h9 => h9) rfl dX4_move_23 ?_
  refine lv_iload_n hx hb dX4_move_26 rfl (lv_at hl 1 rfl) ?_
  obtain ⟨r_6, hF_7, hF⟩ := ob1_some hF
  refine kcVN (q := (RX3, TX3, 7)) (ci := 3) (q0 := 1) (As := [.int p0]) (rest := []) (wr := [(A_t, .inr (4, [.ref A_t_state, .ref A_t_saved, .ref A_t_beaten, .ref A_t_text])), (A_t_state_positive, .inl (cy 0, 20, .inl t_state_positive)), (A_t_state_negative, .inl (cy 0, 20, .inl t_state_negative)), (A_t_beaten, .inr (0, [.ref A_t_beaten_bits, .int (bI t_beaten_stale_4)])), (A_t_beaten_bits, .inl (cy 1, 4096, .inr (.inl t_beaten_bits_3)))]) (wsN := (w_X4_move cy A_t A_t_state A_t_saved A_t_beaten A_t_text A_t_state_positive A_t_state_negative A_t_beaten_bits t_state_variables t_state_breakers t_state_clauses t_state_learned t_state_rounds t_state_positive t_state_negative t_beaten_stale_4 t_beaten_bits_3)) ⟨hx, hb, hml, hown, hts⟩ hE hP hD hS hA hAs [1] [0, 2, 3, 4, 5] [0, 5, 1, 2, 3, 4] (c_X3_ownerOf l D cy s0 tW N A_t_state A_t_state_positive A_t_state_negative p0 t_state_variables t_state_breakers t_state_clauses t_state_learned t_state_rounds _ hF_7) q_291 q_84 q_290 q_9 (nq_326 hE.2.1) hd_X3_ownerOf.2 ⟨Nat.le_of_ble_eq_true rfl, Nat.le_of_ble_eq_true rfl⟩ rfl rfl rfl rfl rfl rfl rfl rfl rfl hl.1 rfl (Nat.le_of_ble_eq_true rfl) dX4_move_27 ⟨Nat.zero_le _, Nat.zero_le _⟩ (fun H locs hP hD hS => ?_)
  refine W.eq (g2 := F0 m 30 ls [.int r_6]) rfl ?_
  refine lv_istore_n (lv' := [(3, .int r_6), (0, .ref A_t), (1, .int p0), (2, .int p1)]) hx hb dX4_move_30 rfl hl (by decide) rfl (fun ls hl => ?_)
  refine lv_aload_n hx hb dX4_move_31 rfl (lv_at hl 1 rfl) ?_
  refine lv_iload_n hx hb dX4_move_32 rfl (lv_at hl 2 rfl) ?_
  refine lv_iconst (v := 1) hx hb dX4_move_33 (by decide) ?_
  refine lv_iadd hx hb dX4_move_34 ?_
  refine lv_iload_n hx hb dX4_move_35 rfl (lv_at hl 3 rfl) ?_
  obtain ⟨r_8, hF_9, hF⟩ := ob1_some hF
  refine kcV (q := (RX4, TX4, 4)) (ci := 4) (q0 := 0) (As := [.int (p0 + 1), .int p1]) (rest := []) (wr := [(A_t_state_positive, .inl (cy 0, 20, .inl t_state_positive)), (A_t_state_negative, .inl (cy 0, 20, .inl t_state_negative))]) (wsN := (w_X4_move cy A_t A_t_state A_t_saved A_t_beaten A_t_text A_t_state_positive A_t_state_negative A_t_beaten_bits t_state_variables t_state_breakers t_state_clauses t_state_learned t_state_rounds t_state_positive t_state_negative t_beaten_stale_4 t_beaten_bits_3)) ⟨hx, hb, hml, hown, hts⟩ hE hP hD hS hA hAs [0, 1, 4, 5] [2, 3] [2, 3, 0, 1, 4, 5] (c_X4_winnerIn l D cy s0 tW N A_t A_t_state A_t_saved A_t_beaten A_t_text A_t_state_positive A_t_state_negative A_t_beaten_bits (p0 + 1) p1 t_state_variables t_state_breakers t_state_clauses t_state_learned t_state_rounds t_beaten_stale_4 t_beaten_bits_3 _ hF_9) (gV q_337 q_339 q_14 q_83 q_340) hd_X4_winnerIn ⟨Nat.le_of_ble_eq_true rfl, Nat.le_of_ble_eq_true rfl⟩ rfl rfl rfl rfl rfl rfl rfl rfl rfl hl.1 rfl (Nat.le_of_ble_eq_true rfl) dX4_move_36 ⟨Nat.zero_le _, Nat.zero_le _⟩ (fun H locs hP hD hS => ?_)
  refine W.eq (g2 := F0 m 39 ls [.int r_8]) rfl ?_
  refine lv_iload_n hx hb dX4_move_39 rfl (lv_at hl 0 rfl) ?_
  refine lv_icmp_ne (tgt := 45) hx hb dX4_move_40 (by decide) (fun c_10 => ?_) (fun c_10 => ?_)
  · replace hF := ite_f c_10 hF
    refine lv_aload_n hx hb dX4_move_45 rfl (lv_at hl 1 rfl) ?_
    refine lv_iload_n hx hb dX4_move_46 rfl (lv_at hl 2 rfl) ?_
    refine lv_iconst (v := 1) hx hb dX4_move_47 (by decide) ?_
    refine lv_iadd hx hb dX4_move_48 ?_
    refine lv_iload_n hx hb dX4_move_49 rfl (lv_at hl 3 rfl) ?_
    refine lv_iconst (v := 1) hx hb dX4_move_50 (by decide) ?_
    refine lv_iload_n hx hb dX4_move_51 rfl (lv_at hl 2 rfl) ?_
    refine lv_ishl hx hb dX4_move_52 ?_
    refine lv_ior hx hb dX4_move_53 ?_
    obtain ⟨r_11, hF_12, hF⟩ := ob1_some hF
    refine kcV (q := (RX4, TX4, 4)) (ci := 4) (q0 := 0) (As := [.int (p0 + 1), .int (p1 ||| ((1 : Int32) <<< (p0 &&& 31)))]) (rest := []) (wr := [(A_t_state_positive, .inl (cy 0, 20, .inl t_state_positive)), (A_t_state_negative, .inl (cy 0, 20, .inl t_state_negative))]) (wsN := (w_X4_move cy A_t A_t_state A_t_saved A_t_beaten A_t_text A_t_state_positive A_t_state_negative A_t_beaten_bits t_state_variables t_state_breakers t_state_clauses t_state_learned t_state_rounds t_state_positive t_state_negative t_beaten_stale_4 t_beaten_bits_3)) ⟨hx, hb, hml, hown, hts⟩ hE hP hD hS hA hAs [0, 1, 4, 5] [2, 3] [2, 3, 0, 1, 4, 5] (c_X4_winnerIn l D cy s0 tW N A_t A_t_state A_t_saved A_t_beaten A_t_text A_t_state_positive A_t_state_negative A_t_beaten_bits (p0 + 1) (p1 ||| ((1 : Int32) <<< (p0 &&& 31))) t_state_variables t_state_breakers t_state_clauses t_state_learned t_state_rounds t_beaten_stale_4 t_beaten_bits_3 _ hF_12) (gV q_337 q_339 q_14 q_83 q_340) hd_X4_winnerIn ⟨Nat.le_of_ble_eq_true rfl, Nat.le_of_ble_eq_true rfl⟩ rfl rfl rfl rfl rfl rfl rfl rfl rfl hl.1 rfl (Nat.le_of_ble_eq_true rfl) dX4_move_54 ⟨Nat.zero_le _, Nat.zero_le _⟩ (fun H locs hP hD hS => ?_)
    refine W.eq (g2 := F0 m 57 ls [.int r_11]) rfl ?_
    refine lv_iload_n hx hb dX4_move_57 rfl (lv_at hl 0 rfl) ?_
    refine lv_icmp_ne (tgt := 63) hx hb dX4_move_58 (by decide) (fun c_13 => ?_) (fun c_13 => ?_)
    · replace hF := ite_f c_13 hF
      refine lv_iconst (v := (-1)) hx hb dX4_move_63 (by decide) ?_
      cases hF
      exact kret_i hx hb hr hlocks hP hD hS dX4_move_64
    · replace hF := ite_t c_13 hF
      refine lv_iconst (v := 1) hx hb dX4_move_61 (by decide) ?_
      cases hF
      exact kret_i hx hb hr hlocks hP hD hS dX4_move_62
  · replace hF := ite_t c_10 hF
    refine lv_iconst (v := 0) hx hb dX4_move_43 (by decide) ?_
    cases hF
    exact kret_i hx hb hr hlocks hP hD hS dX4_move_44

theorem nq_374 {s : State} (h : NW s) : va_Nw (Cond.methodLinkNest RX4 159 yX3_playIn "ForAllGame") s := h.at 374 (by decide +kernel) rfl
abbrev w_X4_ways (cy : Nat → ClassId) (A_t : Nat) (A_t_state : Nat) (A_t_saved : Nat) (A_t_beaten : Nat) (A_t_text : Nat) (A_t_state_positive : Nat) (A_t_state_negative : Nat) (t_state_variables : Int32) (t_state_breakers : Int32) (t_state_clauses : Int32) (t_state_learned : Int32) (t_state_rounds : Int32) (t_state_positive : Nat → Int32) (t_state_negative : Nat → Int32) : va_W := [(A_t, .inr (4, [.ref A_t_state, .ref A_t_saved, .ref A_t_beaten, .ref A_t_text])), (A_t_state, .inr (3, [.int t_state_variables, .int t_state_breakers, .int t_state_clauses, .ref A_t_state_positive, .ref A_t_state_negative, .int t_state_learned, .int t_state_rounds])), (A_t_state_positive, .inl (cy 0, 20, .inl t_state_positive)), (A_t_state_negative, .inl (cy 0, 20, .inl t_state_negative))]
def L_X4_ways_20 (N : Nat) (t_state_variables : Int32) (t_state_breakers : Int32) (t_state_clauses : Int32) (t_state_positive : Nat → Int32) (t_state_negative : Nat → Int32) (p0 : Int32) (kont : Int32 → Option (Int32)) : Nat → Int32 → Int32 → Option (Int32)
  | 0, _, _ => none
  | n + 1, v2_2, v4_3 => (if ((1 : Int32) <<< (t_state_variables &&& 31)) ≤ v4_3 then kont v2_2 else ob1 (F_X3_playIn N v4_3 t_state_variables t_state_breakers) (fun r_6 => (if r_6 = p0 then ob1 (F_X3_holds N v4_3 t_state_clauses t_state_positive t_state_negative) (fun r_9 => (if r_9 = true then L_X4_ways_20 N t_state_variables t_state_breakers t_state_clauses t_state_positive t_state_negative p0 kont n (v2_2 + 1) (v4_3 + 1) else L_X4_ways_20 N t_state_variables t_state_breakers t_state_clauses t_state_positive t_state_negative p0 kont n v2_2 (v4_3 + 1))) else L_X4_ways_20 N t_state_variables t_state_breakers t_state_clauses t_state_positive t_state_negative p0 kont n v2_2 (v4_3 + 1))))
def F_X4_ways (N : Nat) (p0 : Int32) (t_state_variables : Int32) (t_state_breakers : Int32) (t_state_clauses : Int32) (t_state_positive : Nat → Int32) (t_state_negative : Nat → Int32) : Option (Int32) :=
  ob0 (F_X4_requirePlay N p0 t_state_breakers) ((L_X4_ways_20 N t_state_variables t_state_breakers t_state_clauses t_state_positive t_state_negative p0 (fun u2_4 => some u2_4) N 0 0))
set_option maxHeartbeats 4000000 in
set_option maxRecDepth 100000 in
theorem c_X4_ways (l : Launch) (D : va_G) (cy : Nat → ClassId) (s0 tW N : Nat) (A_t : Nat) (A_t_state : Nat) (A_t_saved : Nat) (A_t_beaten : Nat) (A_t_text : Nat) (A_t_state_positive : Nat) (A_t_state_negative : Nat) (p0 : Int32) (t_state_variables : Int32) (t_state_breakers : Int32) (t_state_clauses : Int32) (t_state_learned : Int32) (t_state_rounds : Int32) (t_state_positive : Nat → Int32) (t_state_negative : Nat → Int32) (sz : Nat) {r9 : Int32} (hF : F_X4_ways N p0 t_state_variables t_state_breakers t_state_clauses t_state_positive t_state_negative = some r9) : KM l D cy s0 tW yX4_ways cX4_ways 5 (some .int) 4 82 [.ref A_t, .int p0] sz (w_X4_ways cy A_t A_t_state A_t_saved A_t_beaten A_t_text A_t_state_positive A_t_state_negative t_state_variables t_state_breakers t_state_clauses t_state_learned t_state_rounds t_state_positive t_state_negative) (some (.int r9)) (w_X4_ways cy A_t A_t_state A_t_saved A_t_beaten A_t_text A_t_state_positive A_t_state_negative t_state_variables t_state_breakers t_state_clauses t_state_learned t_state_rounds t_state_positive t_state_negative) := by
  refine KM.intro rfl (Nat.le_of_ble_eq_true rfl) ?_
  intro p e s m args below meth c A ls hx hb hr hml hown hts hlocks hE hP hD hS hA hAs hl
  have hK := hE.1
  have hl : lv_has ls 5 [(0, .ref A_t), (1, .int p0)] := hl
  unfold F_X4_ways at hF
  refine lv_aload_n hx hb dX4_ways_0 rfl (lv_at hl 0 rfl) ?_
  refine lv_iload_n hx hb dX4_ways_1 rfl (lv_at hl 1 rfl) ?_
  obtain ⟨hF_1, hF⟩ := ob0_some hF
  refine kcV (q := (RX4, TX4, 4)) (ci := 4) (q0 := 0) (As := [.int p0]) (rest := []) (wr := [(A_t_state_positive, .inl (cy 0, 20, .inl t_state_positive)), (A_t_state_negative, .inl (cy 0, 20, .inl t_state_negative))]) (wsN := (w_X4_ways cy A_t A_t_state A_t_saved A_t_beaten A_t_text A_t_state_positive A_t_state_negative t_state_variables t_state_breakers t_state_clauses t_state_learned t_state_rounds t_state_positive t_state_negative)) ⟨hx, hb, hml, hown, hts⟩ hE hP hD hS hA hAs [0, 1] [2, 3] [2, 3, 0, 1] (c_X4_requirePlay l D cy s0 tW N A_t A_t_state A_t_saved A_t_beaten A_t_text A_t_state_positive A_t_state_negative p0 t_state_variables t_state_breakers t_state_clauses t_state_learned t_state_rounds _ hF_1) (gV q_623 q_625 q_41 q_83 q_626) hd_X4_requirePlay ⟨Nat.le_of_ble_eq_true rfl, Nat.le_of_ble_eq_true rfl⟩ rfl rfl rfl rfl rfl rfl rfl rfl rfl hl.1 rfl (Nat.le_of_ble_eq_true rfl) dX4_ways_2 ⟨Nat.zero_le _, Nat.zero_le _⟩ (fun H locs hP hD hS => ?_)
  refine W.eq (g2 := F0 m 5 ls []) rfl ?_
  refine lv_iconst (v := 0) hx hb dX4_ways_5 (by decide) ?_
  refine lv_istore_n (lv' := [(2, .int 0), (0, .ref A_t), (1, .int p0)]) hx hb dX4_ways_6 rfl hl (by decide) rfl (fun ls hl => ?_)
  refine lv_iconst (v := 1) hx hb dX4_ways_7 (by decide) ?_
  refine lv_aload_n hx hb dX4_ways_8 rfl (lv_at hl 1 rfl) ?_
  refine va_get (D := D) (ci := 4) (v := .ref A_t_state) (C := RX4) (T := TX4) (N := 4) hx hb hts inX4 hown hK hP 0 rfl rfl 0 (by decide) (hts _ q_212) (fun _ h9 => h9) rfl dX4_ways_9 ?_
  refine va_getN (D := D) (ci := 3) (v := .int t_state_variables) (C := RX3) (T := TX3) (N := 7) hx hb hts inX3 hown hK hP 1 rfl rfl 0 (by decide) (va_Nw.use rfl (nq_111 hE.2.1)) (fun _ h9 => h9) rfl dX4_ways_12 ?_
  refine lv_ishl hx hb dX4_ways_15 ?_
  refine lv_istore_n (lv' := [(3, .int ((1 : Int32) <<< (t_state_variables &&& 31))), (2, .int 0), (0, .ref A_t), (1, .int p0)]) hx hb dX4_ways_16 rfl hl (by decide) rfl (fun ls hl => ?_)
  refine lv_iconst (v := 0) hx hb dX4_ways_17 (by decide) ?_
  refine lv_istore (lv' := [(4, .int 0), (3, .int ((1 : Int32) <<< (t_state_variables &&& 31))), (2, .int 0), (0, .ref A_t), (1, .int p0)]) hx hb dX4_ways_18 hl (by decide) rfl (fun ls hl => ?_)
  have hloop_20 : ∀ (kont : Int32 → Option (Int32)), (∀ (u2_4 : Int32) (H : Heap) (locs : List Loc) (ls : Array Slot), kont u2_4 = some r9 → va_P D vwCl (w_X4_ways cy A_t A_t_state A_t_saved A_t_beaten A_t_text A_t_state_positive A_t_state_negative t_state_variables t_state_breakers t_state_clauses t_state_learned t_state_rounds t_state_positive t_state_negative) H → va_D A (w_X4_ways cy A_t A_t_state A_t_saved A_t_beaten A_t_text A_t_state_positive A_t_state_negative t_state_variables t_state_breakers t_state_clauses t_state_learned t_state_rounds t_state_positive t_state_negative) → va_S A s.heap H locs → lv_has ls 5 [(2, .int u2_4)] → W p l e (rmK 4 82) s m args below meth c H locs 0 0 (MQ below (kQ (some (.int r9)) D A (w_X4_ways cy A_t A_t_state A_t_saved A_t_beaten A_t_text A_t_state_positive A_t_state_negative t_state_variables t_state_breakers t_state_clauses t_state_learned t_state_rounds t_state_positive t_state_negative)) args s 0 0 A) (F0 m 60 ls [])) → ∀ (n : Nat) (v2_2 : Int32) (v4_3 : Int32) (H : Heap) (locs : List Loc) (ls : Array Slot), L_X4_ways_20 N t_state_variables t_state_breakers t_state_clauses t_state_positive t_state_negative p0 kont n v2_2 v4_3 = some r9 → va_P D vwCl (w_X4_ways cy A_t A_t_state A_t_saved A_t_beaten A_t_text A_t_state_positive A_t_state_negative t_state_variables t_state_breakers t_state_clauses t_state_learned t_state_rounds t_state_positive t_state_negative) H → va_D A (w_X4_ways cy A_t A_t_state A_t_saved A_t_beaten A_t_text A_t_state_positive A_t_state_negative t_state_variables t_state_breakers t_state_clauses t_state_learned t_state_rounds t_state_positive t_state_negative) → va_S A s.heap H locs → lv_has ls 5 [(0, .ref A_t), (1, .int p0), (2, .int v2_2), (3, .int ((1 : Int32) <<< (t_state_variables &&& 31))), (4, .int v4_3)] → W p l e (rmK 4 82) s m args below meth c H locs 0 0 (MQ below (kQ (some (.int r9)) D A (w_X4_ways cy A_t A_t_state A_t_saved A_t_beaten A_t_text A_t_state_positive A_t_state_negative t_state_variables t_state_breakers t_state_clauses t_state_learned t_state_rounds t_state_positive t_state_negative)) args s 0 0 A) (F0 m 20 ls []) := by
    intro kont hexit_20 n
    induction n with
    | zero =>
      intro v2_2 v4_3 H locs ls hF
      rw [L_X4_ways_20] at hF
      cases hF
    | succ n ih =>
      intro v2_2 v4_3 H locs ls hF hP hD hS hl
      rw [L_X4_ways_20] at hF
      refine lv_iload hx hb dX4_ways_20 (lv_at hl 4 rfl) ?_
      refine lv_iload_n hx hb dX4_ways_22 rfl (lv_at hl 3 rfl) ?_
      refine lv_icmp_ge (tgt := 60) hx hb dX4_ways_23 (by decide) (fun c_5 => ?_) (fun c_5 => ?_)
      · replace hF := ite_t c_5 hF
        exact hexit_20 v2_2 H locs ls hF hP hD hS (lv_sub hl [2] rfl)
      · replace hF := ite_f c_5 hF
        refine lv_aload_n hx hb dX4_ways_26 rfl (lv_at hl 0 rfl) ?_
        refine va_get (D := D) (ci := 4) (v := .ref A_t_state) (C := RX4) (T := TX4) (N := 4) hx hb hts inX4 hown hK hP 0 rfl rfl 0 (by decide) (hts _ q_212) (fun _ h9 => h9) rfl dX4_ways_27 ?_
        refine lv_iload hx hb dX4_ways_30 (lv_at hl 4 rfl) ?_
        obtain ⟨r_6, hF_7, hF⟩ := ob1_some hF
        refine kcVN (q := (RX3, TX3, 7)) (ci := 3) (q0 := 1) (As := [.int v4_3]) (rest := []) (wr := [(A_t, .inr (4, [.ref A_t_state, .ref A_t_saved, .ref A_t_beaten, .ref A_t_text])), (A_t_state_positive, .inl (cy 0, 20, .inl t_state_positive)), (A_t_state_negative, .inl (cy 0, 20, .inl t_state_negative))]) (wsN := (w_X4_ways cy A_t A_t_state A_t_saved A_t_beaten A_t_text A_t_state_positive A_t_state_negative t_state_variables t_state_breakers t_state_clauses t_state_learned t_state_rounds t_state_positive t_state_negative)) ⟨hx, hb, hml, hown, hts⟩ hE hP hD hS hA hAs [1] [0, 2, 3] [0, 3, 1, 2] (c_X3_playIn l D cy s0 tW N A_t_state A_t_state_positive A_t_state_negative v4_3 t_state_variables t_state_breakers t_state_clauses t_state_learned t_state_rounds _ hF_7) q_287 q_84 q_286 q_8 (nq_374 hE.2.1) hd_X3_playIn.2 ⟨Nat.le_of_ble_eq_true rfl, Nat.le_of_ble_eq_true rfl⟩ rfl rfl rfl rfl rfl rfl rfl rfl rfl hl.1 rfl (Nat.le_of_ble_eq_true rfl) dX4_ways_32 ⟨Nat.zero_le _, Nat.zero_le _⟩ (fun H locs hP hD hS => ?_)
        refine W.eq (g2 := F0 m 35 ls [.int r_6]) rfl ?_
        refine lv_iload_n hx hb dX4_ways_35 rfl (lv_at hl 1 rfl) ?_
        refine lv_icmp_ne (tgt := 54) hx hb dX4_ways_36 (by decide) (fun c_8 => ?_) (fun c_8 => ?_)
        · replace hF := ite_f c_8 hF
          refine lv_iinc (v := (v4_3 + 1)) (lv' := [(4, .int (v4_3 + 1)), (0, .ref A_t), (1, .int p0), (2, .int v2_2), (3, .int ((1 : Int32) <<< (t_state_variables &&& 31)))]) hx hb dX4_ways_54 hl (k := 4) rfl (by first | rfl | decide) (by decide) rfl (fun ls hl => ?_)
          refine lv_goto (tgt := 20) hx hb dX4_ways_57 (by decide) ?_
          exact ih v2_2 (v4_3 + 1) H locs ls hF hP hD hS (lv_sub hl [1, 2, 3, 4, 0] rfl)
        · replace hF := ite_t c_8 hF
          refine lv_aload_n hx hb dX4_ways_39 rfl (lv_at hl 0 rfl) ?_
          refine va_get (D := D) (ci := 4) (v := .ref A_t_state) (C := RX4) (T := TX4) (N := 4) hx hb hts inX4 hown hK hP 0 rfl rfl 0 (by decide) (hts _ q_212) (fun _ h9 => h9) rfl dX4_ways_40 ?_
          refine lv_iload hx hb dX4_ways_43 (lv_at hl 4 rfl) ?_
          obtain ⟨r_9, hF_10, hF⟩ := ob1_some hF
          refine kcVN (q := (RX3, TX3, 7)) (ci := 3) (q0 := 1) (As := [.int v4_3]) (rest := []) (wr := [(A_t, .inr (4, [.ref A_t_state, .ref A_t_saved, .ref A_t_beaten, .ref A_t_text]))]) (wsN := (w_X4_ways cy A_t A_t_state A_t_saved A_t_beaten A_t_text A_t_state_positive A_t_state_negative t_state_variables t_state_breakers t_state_clauses t_state_learned t_state_rounds t_state_positive t_state_negative)) ⟨hx, hb, hml, hown, hts⟩ hE hP hD hS hA hAs [1, 2, 3] [0] [0, 1, 2, 3] (c_X3_holds l D cy s0 tW N A_t_state A_t_state_positive A_t_state_negative v4_3 t_state_variables t_state_breakers t_state_clauses t_state_learned t_state_rounds t_state_positive t_state_negative _ hF_10) q_283 q_84 q_282 q_7 (nq_328 hE.2.1) hd_X3_holds.2 ⟨Nat.le_of_ble_eq_true rfl, Nat.le_of_ble_eq_true rfl⟩ rfl rfl rfl rfl rfl rfl rfl rfl rfl hl.1 rfl (Nat.le_of_ble_eq_true rfl) dX4_ways_45 ⟨Nat.zero_le _, Nat.zero_le _⟩ (fun H locs hP hD hS => ?_)
          refine W.eq (g2 := F0 m 48 ls [.int (bI r_9)]) rfl ?_
          refine lv_if_eq (tgt := 54) hx hb dX4_ways_48 (by decide) (fun c_11 => ?_) (fun c_11 => ?_)
          · replace hF := ite_f (bI_f c_11) hF
            refine lv_iinc (v := (v4_3 + 1)) (lv' := [(4, .int (v4_3 + 1)), (0, .ref A_t), (1, .int p0), (2, .int v2_2), (3, .int ((1 : Int32) <<< (t_state_variables &&& 31)))]) hx hb dX4_ways_54 hl (k := 4) rfl (by first | rfl | decide) (by decide) rfl (fun ls hl => ?_)
            refine lv_goto (tgt := 20) hx hb dX4_ways_57 (by decide) ?_
            exact ih v2_2 (v4_3 + 1) H locs ls hF hP hD hS (lv_sub hl [1, 2, 3, 4, 0] rfl)
          · replace hF := ite_t (bI_t c_11) hF
            refine lv_iinc (v := (v2_2 + 1)) (lv' := [(2, .int (v2_2 + 1)), (0, .ref A_t), (1, .int p0), (3, .int ((1 : Int32) <<< (t_state_variables &&& 31))), (4, .int v4_3)]) hx hb dX4_ways_51 hl (k := 2) rfl (by first | rfl | decide) (by decide) rfl (fun ls hl => ?_)
            refine lv_iinc (v := (v4_3 + 1)) (lv' := [(4, .int (v4_3 + 1)), (2, .int (v2_2 + 1)), (0, .ref A_t), (1, .int p0), (3, .int ((1 : Int32) <<< (t_state_variables &&& 31)))]) hx hb dX4_ways_54 hl (k := 4) rfl (by first | rfl | decide) (by decide) rfl (fun ls hl => ?_)
            refine lv_goto (tgt := 20) hx hb dX4_ways_57 (by decide) ?_
            exact ih (v2_2 + 1) (v4_3 + 1) H locs ls hF hP hD hS (lv_sub hl [2, 3, 1, 4, 0] rfl)
  refine hloop_20 _ (fun u2_4 H locs ls hF hP hD hS hl => ?_) N 0 0 _ _ ls hF hP hD hS (lv_sub hl [3, 4, 2, 1, 0] rfl)
  refine lv_iload_n hx hb dX4_ways_60 rfl (lv_at hl 0 rfl) ?_
  cases hF
  exact kret_i hx hb hr hlocks hP hD hS dX4_ways_61

abbrev w_X4_beats (cy : Nat → ClassId) (A_t : Nat) (A_t_state : Nat) (A_t_saved : Nat) (A_t_beaten : Nat) (A_t_text : Nat) (A_t_state_positive : Nat) (A_t_state_negative : Nat) (A_t_beaten_bits : Nat) (t_state_variables : Int32) (t_state_breakers : Int32) (t_state_clauses : Int32) (t_state_learned : Int32) (t_state_rounds : Int32) (t_state_positive : Nat → Int32) (t_state_negative : Nat → Int32) (t_beaten_stale : Bool) (t_beaten_bits : Nat → Int64) : va_W := [(A_t, .inr (4, [.ref A_t_state, .ref A_t_saved, .ref A_t_beaten, .ref A_t_text])), (A_t_state, .inr (3, [.int t_state_variables, .int t_state_breakers, .int t_state_clauses, .ref A_t_state_positive, .ref A_t_state_negative, .int t_state_learned, .int t_state_rounds])), (A_t_state_positive, .inl (cy 0, 20, .inl t_state_positive)), (A_t_state_negative, .inl (cy 0, 20, .inl t_state_negative)), (A_t_beaten, .inr (0, [.ref A_t_beaten_bits, .int (bI t_beaten_stale)])), (A_t_beaten_bits, .inl (cy 1, 4096, .inr (.inl t_beaten_bits)))]
def F_X4_beats (N : Nat) (p0 : Int32) (t_state_variables : Int32) (t_state_breakers : Int32) (t_state_clauses : Int32) (t_state_positive : Nat → Int32) (t_state_negative : Nat → Int32) (t_beaten_bits : Nat → Int64) (t_beaten_stale : Bool) : Option (Bool × (Nat → Int64) × Bool) :=
  (if p0 < (0 : Int32) then none else ob1 (F_X3_allPlays N t_state_breakers) (fun r_2 => (if p0 ≤ r_2 then ob2 (F_X0_bringUpToDate N t_beaten_bits t_beaten_stale t_state_variables t_state_breakers t_state_clauses t_state_positive t_state_negative) (fun t_beaten_bits_5 t_beaten_stale_6 => ob1 (F_X0_has N 0 0 p0 t_beaten_bits_5) (fun r_8 => some (r_8, t_beaten_bits_5, t_beaten_stale_6))) else none)))
set_option maxHeartbeats 4000000 in
set_option maxRecDepth 100000 in
theorem c_X4_beats (l : Launch) (D : va_G) (cy : Nat → ClassId) (s0 tW N : Nat) (A_t : Nat) (A_t_state : Nat) (A_t_saved : Nat) (A_t_beaten : Nat) (A_t_text : Nat) (A_t_state_positive : Nat) (A_t_state_negative : Nat) (A_t_beaten_bits : Nat) (p0 : Int32) (t_state_variables : Int32) (t_state_breakers : Int32) (t_state_clauses : Int32) (t_state_learned : Int32) (t_state_rounds : Int32) (t_state_positive : Nat → Int32) (t_state_negative : Nat → Int32) (t_beaten_stale : Bool) (t_beaten_bits : Nat → Int64) (sz : Nat) {r9 : Bool} {t_beaten_bits9 : Nat → Int64} {t_beaten_stale9 : Bool} (hF : F_X4_beats N p0 t_state_variables t_state_breakers t_state_clauses t_state_positive t_state_negative t_beaten_bits t_beaten_stale = some (r9, t_beaten_bits9, t_beaten_stale9)) : KM l D cy s0 tW yX4_beats cX4_beats 2 (some .boolean) 4 96 [.ref A_t, .int p0] sz (w_X4_beats cy A_t A_t_state A_t_saved A_t_beaten A_t_text A_t_state_positive A_t_state_negative A_t_beaten_bits t_state_variables t_state_breakers t_state_clauses t_state_learned t_state_rounds t_state_positive t_state_negative t_beaten_stale t_beaten_bits) (some (.int (bI r9))) (w_X4_beats cy A_t A_t_state A_t_saved A_t_beaten A_t_text A_t_state_positive A_t_state_negative A_t_beaten_bits t_state_variables t_state_breakers t_state_clauses t_state_learned t_state_rounds t_state_positive t_state_negative t_beaten_stale9 t_beaten_bits9) := by
  refine KM.intro rfl (Nat.le_of_ble_eq_true rfl) ?_
  intro p e s m args below meth c A ls hx hb hr hml hown hts hlocks hE hP hD hS hA hAs hl
  have hK := hE.1
  have hl : lv_has ls 2 [(0, .ref A_t), (1, .int p0)] := hl
  unfold F_X4_beats at hF
  refine lv_iload_n hx hb dX4_beats_0 rfl (lv_at hl 1 rfl) ?_
  refine lv_if_lt (tgt := 15) hx hb dX4_beats_1 (by decide) (fun c_1 => ?_) (fun c_1 => ?_)
  · replace hF := ite_t c_1 hF
    cases hF
  · replace hF := ite_f c_1 hF
    refine lv_iload_n hx hb dX4_beats_4 rfl (lv_at hl 1 rfl) ?_
    refine lv_aload_n hx hb dX4_beats_5 rfl (lv_at hl 0 rfl) ?_
    refine va_get (D := D) (ci := 4) (v := .ref A_t_state) (C := RX4) (T := TX4) (N := 4) hx hb hts inX4 hown hK hP 0 rfl rfl 0 (by decide) (hts _ q_212) (fun _ h9 => h9) rfl dX4_beats_6 ?_
    obtain ⟨r_2, hF_3, hF⟩ := ob1_some hF
    refine kcVN (q := (RX3, TX3, 7)) (ci := 3) (q0 := 1) (As := []) (rest := [.int p0]) (wr := [(A_t, .inr (4, [.ref A_t_state, .ref A_t_saved, .ref A_t_beaten, .ref A_t_text])), (A_t_state_positive, .inl (cy 0, 20, .inl t_state_positive)), (A_t_state_negative, .inl (cy 0, 20, .inl t_state_negative)), (A_t_beaten, .inr (0, [.ref A_t_beaten_bits, .int (bI t_beaten_stale)])), (A_t_beaten_bits, .inl (cy 1, 4096, .inr (.inl t_beaten_bits)))]) (wsN := (w_X4_beats cy A_t A_t_state A_t_saved A_t_beaten A_t_text A_t_state_positive A_t_state_negative A_t_beaten_bits t_state_variables t_state_breakers t_state_clauses t_state_learned t_state_rounds t_state_positive t_state_negative t_beaten_stale t_beaten_bits)) ⟨hx, hb, hml, hown, hts⟩ hE hP hD hS hA hAs [1] [0, 2, 3, 4, 5] [0, 5, 1, 2, 3, 4] (c_X3_allPlays l D cy s0 tW N A_t_state A_t_state_positive A_t_state_negative t_state_variables t_state_breakers t_state_clauses t_state_learned t_state_rounds _ hF_3) q_344 q_84 q_343 q_15 (nq_341 hE.2.1) hd_X3_allPlays.2 ⟨Nat.le_of_ble_eq_true rfl, Nat.le_of_ble_eq_true rfl⟩ rfl rfl rfl rfl rfl rfl rfl rfl rfl hl.1 rfl (Nat.le_of_ble_eq_true rfl) dX4_beats_9 ⟨Nat.zero_le _, Nat.zero_le _⟩ (fun H locs hP hD hS => ?_)
    refine W.eq (g2 := F0 m 12 ls [.int r_2, .int p0]) rfl ?_
    refine lv_icmp_le (tgt := 25) hx hb dX4_beats_12 (by decide) (fun c_4 => ?_) (fun c_4 => ?_)
    · replace hF := ite_t c_4 hF
      refine lv_aload_n hx hb dX4_beats_25 rfl (lv_at hl 0 rfl) ?_
      refine va_get (D := D) (ci := 4) (v := .ref A_t_beaten) (C := RX4) (T := TX4) (N := 4) hx hb hts inX4 hown hK hP 0 rfl rfl 2 (by decide) (hts _ q_214) (fun _ h9 => h9) rfl dX4_beats_26 ?_
      refine lv_aload_n hx hb dX4_beats_29 rfl (lv_at hl 0 rfl) ?_
      refine va_get (D := D) (ci := 4) (v := .ref A_t_state) (C := RX4) (T := TX4) (N := 4) hx hb hts inX4 hown hK hP 0 rfl rfl 0 (by decide) (hts _ q_212) (fun _ h9 => h9) rfl dX4_beats_30 ?_
      obtain ⟨t_beaten_bits_5, t_beaten_stale_6, hF_7, hF⟩ := ob2_some hF
      refine kcVN (q := (RX0, TX0, 2)) (ci := 0) (q0 := 4) (As := [.ref A_t_state]) (rest := []) (wr := [(A_t, .inr (4, [.ref A_t_state, .ref A_t_saved, .ref A_t_beaten, .ref A_t_text]))]) (wsN := (w_X4_beats cy A_t A_t_state A_t_saved A_t_beaten A_t_text A_t_state_positive A_t_state_negative A_t_beaten_bits t_state_variables t_state_breakers t_state_clauses t_state_learned t_state_rounds t_state_positive t_state_negative t_beaten_stale_6 t_beaten_bits_5)) ⟨hx, hb, hml, hown, hts⟩ hE hP hD hS hA hAs [4, 5, 1, 2, 3] [0] [0, 3, 4, 5, 1, 2] (c_X0_bringUpToDate l D cy s0 tW N A_t_beaten A_t_beaten_bits A_t_state A_t_state_positive A_t_state_negative t_beaten_stale t_beaten_bits t_state_variables t_state_breakers t_state_clauses t_state_learned t_state_rounds t_state_positive t_state_negative _ hF_7) q_272 q_86 q_271 q_5 (nq_269 hE.2.1) hd_X0_bringUpToDate.2 ⟨Nat.le_of_ble_eq_true rfl, Nat.le_of_ble_eq_true rfl⟩ rfl rfl rfl rfl rfl rfl rfl rfl rfl hl.1 rfl (Nat.le_of_ble_eq_true rfl) dX4_beats_33 ⟨Nat.zero_le _, Nat.zero_le _⟩ (fun H locs hP hD hS => ?_)
      refine W.eq (g2 := F0 m 36 ls []) rfl ?_
      refine lv_aload_n hx hb dX4_beats_36 rfl (lv_at hl 0 rfl) ?_
      refine va_get (D := D) (ci := 4) (v := .ref A_t_beaten) (C := RX4) (T := TX4) (N := 4) hx hb hts inX4 hown hK hP 0 rfl rfl 2 (by decide) (hts _ q_214) (fun _ h9 => h9) rfl dX4_beats_37 ?_
      refine lv_iconst (v := 0) hx hb dX4_beats_40 (by decide) ?_
      refine lv_iconst (v := 0) hx hb dX4_beats_41 (by decide) ?_
      refine lv_iload_n hx hb dX4_beats_42 rfl (lv_at hl 1 rfl) ?_
      obtain ⟨r_8, hF_9, hF⟩ := ob1_some hF
      refine kcVN (q := (RX0, TX0, 2)) (ci := 0) (q0 := 4) (As := [.int 0, .int 0, .int p0]) (rest := []) (wr := [(A_t, .inr (4, [.ref A_t_state, .ref A_t_saved, .ref A_t_beaten, .ref A_t_text])), (A_t_state, .inr (3, [.int t_state_variables, .int t_state_breakers, .int t_state_clauses, .ref A_t_state_positive, .ref A_t_state_negative, .int t_state_learned, .int t_state_rounds])), (A_t_state_positive, .inl (cy 0, 20, .inl t_state_positive)), (A_t_state_negative, .inl (cy 0, 20, .inl t_state_negative))]) (wsN := (w_X4_beats cy A_t A_t_state A_t_saved A_t_beaten A_t_text A_t_state_positive A_t_state_negative A_t_beaten_bits t_state_variables t_state_breakers t_state_clauses t_state_learned t_state_rounds t_state_positive t_state_negative t_beaten_stale_6 t_beaten_bits_5)) ⟨hx, hb, hml, hown, hts⟩ hE hP hD hS hA hAs [4, 5] [0, 1, 2, 3] [0, 1, 2, 3, 4, 5] (c_X0_has l D cy s0 tW N A_t_beaten A_t_beaten_bits 0 0 p0 t_beaten_stale_6 t_beaten_bits_5 _ hF_9) q_316 q_86 q_315 q_11 (nq_313 hE.2.1) hd_X0_has.2 ⟨Nat.le_of_ble_eq_true rfl, Nat.le_of_ble_eq_true rfl⟩ rfl rfl rfl rfl rfl rfl rfl rfl rfl hl.1 rfl (Nat.le_of_ble_eq_true rfl) dX4_beats_43 ⟨Nat.zero_le _, Nat.zero_le _⟩ (fun H locs hP hD hS => ?_)
      refine W.eq (g2 := F0 m 46 ls [.int (bI r_8)]) rfl ?_
      cases hF
      exact kret_z hx hb hr hlocks hP hD hS dX4_beats_46
    · replace hF := ite_f c_4 hF
      cases hF

abbrev w_X4_answer (cy : Nat → ClassId) (A_t : Nat) (A_t_state : Nat) (A_t_saved : Nat) (A_t_beaten : Nat) (A_t_text : Nat) (A_t_state_positive : Nat) (A_t_state_negative : Nat) (A_t_beaten_bits : Nat) (t_state_variables : Int32) (t_state_breakers : Int32) (t_state_clauses : Int32) (t_state_learned : Int32) (t_state_rounds : Int32) (t_state_positive : Nat → Int32) (t_state_negative : Nat → Int32) (t_beaten_stale : Bool) (t_beaten_bits : Nat → Int64) : va_W := [(A_t, .inr (4, [.ref A_t_state, .ref A_t_saved, .ref A_t_beaten, .ref A_t_text])), (A_t_state, .inr (3, [.int t_state_variables, .int t_state_breakers, .int t_state_clauses, .ref A_t_state_positive, .ref A_t_state_negative, .int t_state_learned, .int t_state_rounds])), (A_t_state_positive, .inl (cy 0, 20, .inl t_state_positive)), (A_t_state_negative, .inl (cy 0, 20, .inl t_state_negative)), (A_t_beaten, .inr (0, [.ref A_t_beaten_bits, .int (bI t_beaten_stale)])), (A_t_beaten_bits, .inl (cy 1, 4096, .inr (.inl t_beaten_bits)))]
def F_X4_answer (N : Nat) (p0 : Int32) (p1 : Int32) (t_state_variables : Int32) (t_state_breakers : Int32) (t_state_clauses : Int32) (t_state_positive : Nat → Int32) (t_state_negative : Nat → Int32) (t_state_learned : Int32) (t_beaten_bits : Nat → Int64) (t_beaten_stale : Bool) : Option (Int32 × (Nat → Int64) × Bool) :=
  ob0 (F_X4_requireVariable N p0 t_state_variables) (ob1 (F_X3_ownerOf N p0 t_state_breakers) (fun r_2 => (if r_2 = (1 : Int32) then none else ob0 (F_X4_requirePlay N p1 t_state_breakers) (ob2 (F_X0_bringUpToDate N t_beaten_bits t_beaten_stale t_state_variables t_state_breakers t_state_clauses t_state_positive t_state_negative) (fun t_beaten_bits_6 t_beaten_stale_7 => ob1 (F_X0_has N 0 0 t_state_learned t_beaten_bits_6) (fun r_9 => (if r_9 = true then ob1 (F_X4_valuesAgainst N p1 t_state_variables t_state_breakers t_state_learned t_beaten_bits_6) (fun r_12 => ob1 (F_X4_bit N r_12 p0) (fun r_14 => some (r_14, t_beaten_bits_6, t_beaten_stale_7))) else some ((-1), t_beaten_bits_6, t_beaten_stale_7))))))))
set_option maxHeartbeats 4000000 in
set_option maxRecDepth 100000 in
theorem c_X4_answer (l : Launch) (D : va_G) (cy : Nat → ClassId) (s0 tW N : Nat) (A_t : Nat) (A_t_state : Nat) (A_t_saved : Nat) (A_t_beaten : Nat) (A_t_text : Nat) (A_t_state_positive : Nat) (A_t_state_negative : Nat) (A_t_beaten_bits : Nat) (p0 : Int32) (p1 : Int32) (t_state_variables : Int32) (t_state_breakers : Int32) (t_state_clauses : Int32) (t_state_learned : Int32) (t_state_rounds : Int32) (t_state_positive : Nat → Int32) (t_state_negative : Nat → Int32) (t_beaten_stale : Bool) (t_beaten_bits : Nat → Int64) (sz : Nat) {r9 : Int32} {t_beaten_bits9 : Nat → Int64} {t_beaten_stale9 : Bool} (hF : F_X4_answer N p0 p1 t_state_variables t_state_breakers t_state_clauses t_state_positive t_state_negative t_state_learned t_beaten_bits t_beaten_stale = some (r9, t_beaten_bits9, t_beaten_stale9)) : KM l D cy s0 tW yX4_answer cX4_answer 3 (some .int) 4 96 [.ref A_t, .int p0, .int p1] sz (w_X4_answer cy A_t A_t_state A_t_saved A_t_beaten A_t_text A_t_state_positive A_t_state_negative A_t_beaten_bits t_state_variables t_state_breakers t_state_clauses t_state_learned t_state_rounds t_state_positive t_state_negative t_beaten_stale t_beaten_bits) (some (.int r9)) (w_X4_answer cy A_t A_t_state A_t_saved A_t_beaten A_t_text A_t_state_positive A_t_state_negative A_t_beaten_bits t_state_variables t_state_breakers t_state_clauses t_state_learned t_state_rounds t_state_positive t_state_negative t_beaten_stale9 t_beaten_bits9) := by
  refine KM.intro rfl (Nat.le_of_ble_eq_true rfl) ?_
  intro p e s m args below meth c A ls hx hb hr hml hown hts hlocks hE hP hD hS hA hAs hl
  have hK := hE.1
  have hl : lv_has ls 3 [(0, .ref A_t), (1, .int p0), (2, .int p1)] := hl
  unfold F_X4_answer at hF
  refine lv_aload_n hx hb dX4_answer_0 rfl (lv_at hl 0 rfl) ?_
  refine lv_iload_n hx hb dX4_answer_1 rfl (lv_at hl 1 rfl) ?_
  obtain ⟨hF_1, hF⟩ := ob0_some hF
  refine kcV (q := (RX4, TX4, 4)) (ci := 4) (q0 := 0) (As := [.int p0]) (rest := []) (wr := [(A_t_state_positive, .inl (cy 0, 20, .inl t_state_positive)), (A_t_state_negative, .inl (cy 0, 20, .inl t_state_negative)), (A_t_beaten, .inr (0, [.ref A_t_beaten_bits, .int (bI t_beaten_stale)])), (A_t_beaten_bits, .inl (cy 1, 4096, .inr (.inl t_beaten_bits)))]) (wsN := (w_X4_answer cy A_t A_t_state A_t_saved A_t_beaten A_t_text A_t_state_positive A_t_state_negative A_t_beaten_bits t_state_variables t_state_breakers t_state_clauses t_state_learned t_state_rounds t_state_positive t_state_negative t_beaten_stale t_beaten_bits)) ⟨hx, hb, hml, hown, hts⟩ hE hP hD hS hA hAs [0, 1] [2, 3, 4, 5] [4, 5, 0, 1, 2, 3] (c_X4_requireVariable l D cy s0 tW N A_t A_t_state A_t_saved A_t_beaten A_t_text A_t_state_positive A_t_state_negative p0 t_state_variables t_state_breakers t_state_clauses t_state_learned t_state_rounds _ hF_1) (gV q_636 q_638 q_42 q_83 q_639) hd_X4_requireVariable ⟨Nat.le_of_ble_eq_true rfl, Nat.le_of_ble_eq_true rfl⟩ rfl rfl rfl rfl rfl rfl rfl rfl rfl hl.1 rfl (Nat.le_of_ble_eq_true rfl) dX4_answer_2 ⟨Nat.zero_le _, Nat.zero_le _⟩ (fun H locs hP hD hS => ?_)
  refine W.eq (g2 := F0 m 5 ls []) rfl ?_
  refine lv_aload_n hx hb dX4_answer_5 rfl (lv_at hl 0 rfl) ?_
  refine va_get (D := D) (ci := 4) (v := .ref A_t_state) (C := RX4) (T := TX4) (N := 4) hx hb hts inX4 hown hK hP 0 rfl rfl 0 (by decide) (hts _ q_212) (fun _ h9 => h9) rfl dX4_answer_6 ?_
  refine lv_iload_n hx hb dX4_answer_9 rfl (lv_at hl 1 rfl) ?_
  obtain ⟨r_2, hF_3, hF⟩ := ob1_some hF
  refine kcVN (q := (RX3, TX3, 7)) (ci := 3) (q0 := 1) (As := [.int p0]) (rest := []) (wr := [(A_t, .inr (4, [.ref A_t_state, .ref A_t_saved, .ref A_t_beaten, .ref A_t_text])), (A_t_state_positive, .inl (cy 0, 20, .inl t_state_positive)), (A_t_state_negative, .inl (cy 0, 20, .inl t_state_negative)), (A_t_beaten, .inr (0, [.ref A_t_beaten_bits, .int (bI t_beaten_stale)])), (A_t_beaten_bits, .inl (cy 1, 4096, .inr (.inl t_beaten_bits)))]) (wsN := (w_X4_answer cy A_t A_t_state A_t_saved A_t_beaten A_t_text A_t_state_positive A_t_state_negative A_t_beaten_bits t_state_variables t_state_breakers t_state_clauses t_state_learned t_state_rounds t_state_positive t_state_negative t_beaten_stale t_beaten_bits)) ⟨hx, hb, hml, hown, hts⟩ hE hP hD hS hA hAs [1] [0, 2, 3, 4, 5] [0, 5, 1, 2, 3, 4] (c_X3_ownerOf l D cy s0 tW N A_t_state A_t_state_positive A_t_state_negative p0 t_state_variables t_state_breakers t_state_clauses t_state_learned t_state_rounds _ hF_3) q_291 q_84 q_290 q_9 (nq_326 hE.2.1) hd_X3_ownerOf.2 ⟨Nat.le_of_ble_eq_true rfl, Nat.le_of_ble_eq_true rfl⟩ rfl rfl rfl rfl rfl rfl rfl rfl rfl hl.1 rfl (Nat.le_of_ble_eq_true rfl) dX4_answer_10 ⟨Nat.zero_le _, Nat.zero_le _⟩ (fun H locs hP hD hS => ?_)
  refine W.eq (g2 := F0 m 13 ls [.int r_2]) rfl ?_
  refine lv_iconst (v := 1) hx hb dX4_answer_13 (by decide) ?_
  refine lv_icmp_ne (tgt := 27) hx hb dX4_answer_14 (by decide) (fun c_4 => ?_) (fun c_4 => ?_)
  · replace hF := ite_f c_4 hF
    refine lv_aload_n hx hb dX4_answer_27 rfl (lv_at hl 0 rfl) ?_
    refine lv_iload_n hx hb dX4_answer_28 rfl (lv_at hl 2 rfl) ?_
    obtain ⟨hF_5, hF⟩ := ob0_some hF
    refine kcV (q := (RX4, TX4, 4)) (ci := 4) (q0 := 0) (As := [.int p1]) (rest := []) (wr := [(A_t_state_positive, .inl (cy 0, 20, .inl t_state_positive)), (A_t_state_negative, .inl (cy 0, 20, .inl t_state_negative)), (A_t_beaten, .inr (0, [.ref A_t_beaten_bits, .int (bI t_beaten_stale)])), (A_t_beaten_bits, .inl (cy 1, 4096, .inr (.inl t_beaten_bits)))]) (wsN := (w_X4_answer cy A_t A_t_state A_t_saved A_t_beaten A_t_text A_t_state_positive A_t_state_negative A_t_beaten_bits t_state_variables t_state_breakers t_state_clauses t_state_learned t_state_rounds t_state_positive t_state_negative t_beaten_stale t_beaten_bits)) ⟨hx, hb, hml, hown, hts⟩ hE hP hD hS hA hAs [0, 1] [2, 3, 4, 5] [4, 5, 0, 1, 2, 3] (c_X4_requirePlay l D cy s0 tW N A_t A_t_state A_t_saved A_t_beaten A_t_text A_t_state_positive A_t_state_negative p1 t_state_variables t_state_breakers t_state_clauses t_state_learned t_state_rounds _ hF_5) (gV q_623 q_625 q_41 q_83 q_626) hd_X4_requirePlay ⟨Nat.le_of_ble_eq_true rfl, Nat.le_of_ble_eq_true rfl⟩ rfl rfl rfl rfl rfl rfl rfl rfl rfl hl.1 rfl (Nat.le_of_ble_eq_true rfl) dX4_answer_29 ⟨Nat.zero_le _, Nat.zero_le _⟩ (fun H locs hP hD hS => ?_)
    refine W.eq (g2 := F0 m 32 ls []) rfl ?_
    refine lv_aload_n hx hb dX4_answer_32 rfl (lv_at hl 0 rfl) ?_
    refine va_get (D := D) (ci := 4) (v := .ref A_t_beaten) (C := RX4) (T := TX4) (N := 4) hx hb hts inX4 hown hK hP 0 rfl rfl 2 (by decide) (hts _ q_214) (fun _ h9 => h9) rfl dX4_answer_33 ?_
    refine lv_aload_n hx hb dX4_answer_36 rfl (lv_at hl 0 rfl) ?_
    refine va_get (D := D) (ci := 4) (v := .ref A_t_state) (C := RX4) (T := TX4) (N := 4) hx hb hts inX4 hown hK hP 0 rfl rfl 0 (by decide) (hts _ q_212) (fun _ h9 => h9) rfl dX4_answer_37 ?_
    obtain ⟨t_beaten_bits_6, t_beaten_stale_7, hF_8, hF⟩ := ob2_some hF
    refine kcVN (q := (RX0, TX0, 2)) (ci := 0) (q0 := 4) (As := [.ref A_t_state]) (rest := []) (wr := [(A_t, .inr (4, [.ref A_t_state, .ref A_t_saved, .ref A_t_beaten, .ref A_t_text]))]) (wsN := (w_X4_answer cy A_t A_t_state A_t_saved A_t_beaten A_t_text A_t_state_positive A_t_state_negative A_t_beaten_bits t_state_variables t_state_breakers t_state_clauses t_state_learned t_state_rounds t_state_positive t_state_negative t_beaten_stale_7 t_beaten_bits_6)) ⟨hx, hb, hml, hown, hts⟩ hE hP hD hS hA hAs [4, 5, 1, 2, 3] [0] [0, 3, 4, 5, 1, 2] (c_X0_bringUpToDate l D cy s0 tW N A_t_beaten A_t_beaten_bits A_t_state A_t_state_positive A_t_state_negative t_beaten_stale t_beaten_bits t_state_variables t_state_breakers t_state_clauses t_state_learned t_state_rounds t_state_positive t_state_negative _ hF_8) q_272 q_86 q_271 q_5 (nq_269 hE.2.1) hd_X0_bringUpToDate.2 ⟨Nat.le_of_ble_eq_true rfl, Nat.le_of_ble_eq_true rfl⟩ rfl rfl rfl rfl rfl rfl rfl rfl rfl hl.1 rfl (Nat.le_of_ble_eq_true rfl) dX4_answer_40 ⟨Nat.zero_le _, Nat.zero_le _⟩ (fun H locs hP hD hS => ?_)
    refine W.eq (g2 := F0 m 43 ls []) rfl ?_
    refine lv_aload_n hx hb dX4_answer_43 rfl (lv_at hl 0 rfl) ?_
    refine va_get (D := D) (ci := 4) (v := .ref A_t_beaten) (C := RX4) (T := TX4) (N := 4) hx hb hts inX4 hown hK hP 0 rfl rfl 2 (by decide) (hts _ q_214) (fun _ h9 => h9) rfl dX4_answer_44 ?_
    refine lv_iconst (v := 0) hx hb dX4_answer_47 (by decide) ?_
    refine lv_iconst (v := 0) hx hb dX4_answer_48 (by decide) ?_
    refine lv_aload_n hx hb dX4_answer_49 rfl (lv_at hl 0 rfl) ?_
    refine va_get (D := D) (ci := 4) (v := .ref A_t_state) (C := RX4) (T := TX4) (N := 4) hx hb hts inX4 hown hK hP 0 rfl rfl 0 (by decide) (hts _ q_212) (fun _ h9 => h9) rfl dX4_answer_50 ?_
    refine va_getN (D := D) (ci := 3) (v := .int t_state_learned) (C := RX3) (T := TX3) (N := 7) hx hb hts inX3 hown hK hP 1 rfl rfl 5 (by decide) (va_Nw.use rfl (nq_122 hE.2.1)) (fun _ h9 => h9) rfl dX4_answer_53 ?_
    obtain ⟨r_9, hF_10, hF⟩ := ob1_some hF
    refine kcVN (q := (RX0, TX0, 2)) (ci := 0) (q0 := 4) (As := [.int 0, .int 0, .int t_state_learned]) (rest := []) (wr := [(A_t, .inr (4, [.ref A_t_state, .ref A_t_saved, .ref A_t_beaten, .ref A_t_text])), (A_t_state, .inr (3, [.int t_state_variables, .int t_state_breakers, .int t_state_clauses, .ref A_t_state_positive, .ref A_t_state_negative, .int t_state_learned, .int t_state_rounds])), (A_t_state_positive, .inl (cy 0, 20, .inl t_state_positive)), (A_t_state_negative, .inl (cy 0, 20, .inl t_state_negative))]) (wsN := (w_X4_answer cy A_t A_t_state A_t_saved A_t_beaten A_t_text A_t_state_positive A_t_state_negative A_t_beaten_bits t_state_variables t_state_breakers t_state_clauses t_state_learned t_state_rounds t_state_positive t_state_negative t_beaten_stale_7 t_beaten_bits_6)) ⟨hx, hb, hml, hown, hts⟩ hE hP hD hS hA hAs [4, 5] [0, 1, 2, 3] [0, 1, 2, 3, 4, 5] (c_X0_has l D cy s0 tW N A_t_beaten A_t_beaten_bits 0 0 t_state_learned t_beaten_stale_7 t_beaten_bits_6 _ hF_10) q_316 q_86 q_315 q_11 (nq_313 hE.2.1) hd_X0_has.2 ⟨Nat.le_of_ble_eq_true rfl, Nat.le_of_ble_eq_true rfl⟩ rfl rfl rfl rfl rfl rfl rfl rfl rfl hl.1 rfl (Nat.le_of_ble_eq_true rfl) dX4_answer_56 ⟨Nat.zero_le _, Nat.zero_le _⟩ (fun H locs hP hD hS => ?_)
    refine W.eq (g2 := F0 m 59 ls [.int (bI r_9)]) rfl ?_
    refine lv_if_ne (tgt := 64) hx hb dX4_answer_59 (by decide) (fun c_11 => ?_) (fun c_11 => ?_)
    · replace hF := ite_t (bI_t c_11) hF
      refine lv_aload_n hx hb dX4_answer_64 rfl (lv_at hl 0 rfl) ?_
      refine lv_iload_n hx hb dX4_answer_65 rfl (lv_at hl 2 rfl) ?_
      obtain ⟨r_12, hF_13, hF⟩ := ob1_some hF
      refine kcV (q := (RX4, TX4, 4)) (ci := 4) (q0 := 0) (As := [.int p1]) (rest := []) (wr := [(A_t_state_positive, .inl (cy 0, 20, .inl t_state_positive)), (A_t_state_negative, .inl (cy 0, 20, .inl t_state_negative))]) (wsN := (w_X4_answer cy A_t A_t_state A_t_saved A_t_beaten A_t_text A_t_state_positive A_t_state_negative A_t_beaten_bits t_state_variables t_state_breakers t_state_clauses t_state_learned t_state_rounds t_state_positive t_state_negative t_beaten_stale_7 t_beaten_bits_6)) ⟨hx, hb, hml, hown, hts⟩ hE hP hD hS hA hAs [0, 1, 4, 5] [2, 3] [2, 3, 0, 1, 4, 5] (c_X4_valuesAgainst l D cy s0 tW N A_t A_t_state A_t_saved A_t_beaten A_t_text A_t_state_positive A_t_state_negative A_t_beaten_bits p1 t_state_variables t_state_breakers t_state_clauses t_state_learned t_state_rounds t_beaten_stale_7 t_beaten_bits_6 _ hF_13) (gV q_322 q_324 q_13 q_83 q_325) hd_X4_valuesAgainst ⟨Nat.le_of_ble_eq_true rfl, Nat.le_of_ble_eq_true rfl⟩ rfl rfl rfl rfl rfl rfl rfl rfl rfl hl.1 rfl (Nat.le_of_ble_eq_true rfl) dX4_answer_66 ⟨Nat.zero_le _, Nat.zero_le _⟩ (fun H locs hP hD hS => ?_)
      refine W.eq (g2 := F0 m 69 ls [.int r_12]) rfl ?_
      refine lv_iload_n hx hb dX4_answer_69 rfl (lv_at hl 1 rfl) ?_
      obtain ⟨r_14, hF_15, hF⟩ := ob1_some hF
      refine kcS (As := [.int r_12, .int p0]) (rest := []) (wr := [(A_t, .inr (4, [.ref A_t_state, .ref A_t_saved, .ref A_t_beaten, .ref A_t_text])), (A_t_state, .inr (3, [.int t_state_variables, .int t_state_breakers, .int t_state_clauses, .ref A_t_state_positive, .ref A_t_state_negative, .int t_state_learned, .int t_state_rounds])), (A_t_state_positive, .inl (cy 0, 20, .inl t_state_positive)), (A_t_state_negative, .inl (cy 0, 20, .inl t_state_negative)), (A_t_beaten, .inr (0, [.ref A_t_beaten_bits, .int (bI t_beaten_stale_7)])), (A_t_beaten_bits, .inl (cy 1, 4096, .inr (.inl t_beaten_bits_6)))]) (wsN := (w_X4_answer cy A_t A_t_state A_t_saved A_t_beaten A_t_text A_t_state_positive A_t_state_negative A_t_beaten_bits t_state_variables t_state_breakers t_state_clauses t_state_learned t_state_rounds t_state_positive t_state_negative t_beaten_stale_7 t_beaten_bits_6)) ⟨hx, hb, hml, hown, hts⟩ hE hP hD hS hA hAs [] [0, 1, 2, 3, 4, 5] [0, 1, 2, 3, 4, 5] (c_X4_bit l D cy s0 tW N r_12 p0 _ hF_15) (gS q_327 q_293 q_83 q_294) hd_X4_bit.2 ⟨Nat.le_of_ble_eq_true rfl, Nat.le_of_ble_eq_true rfl⟩ rfl rfl rfl rfl rfl rfl rfl hl.1 rfl (Nat.le_of_ble_eq_true rfl) dX4_answer_70 ⟨Nat.zero_le _, Nat.zero_le _⟩ (fun H locs hP hD hS => ?_)
      refine W.eq (g2 := F0 m 73 ls [.int r_14]) rfl ?_
      cases hF
      exact kret_i hx hb hr hlocks hP hD hS dX4_answer_73
    · replace hF := ite_f (bI_f c_11) hF
      refine lv_iconst (v := (-1)) hx hb dX4_answer_62 (by decide) ?_
      cases hF
      exact kret_i hx hb hr hlocks hP hD hS dX4_answer_63
  · replace hF := ite_t c_4 hF
    cases hF
