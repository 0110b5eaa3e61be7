theorem q_95 : Cond.initialized exIOB ∈ wAll := wAll_mem 95 (by decide +kernel) (by decide +kernel)
theorem q_551 : Cond.classLink RX4 232 exIOB ∈ wAll := wAll_mem 551 (by decide +kernel) (by decide +kernel)
abbrev wt_X4_requireVariable (cy : Nat → ClassId) (A_t : Nat) (A_t_state : Nat) (A_t_saved : Nat) (A_t_beaten : Nat) (A_t_text : Nat) (A_t_state_positive : Nat) (A_t_state_negative : Nat) (t_state_variables : Int32) (t_state_breakers : Int32) (t_state_clauses : Int32) (t_state_learned : Int32) (t_state_rounds : Int32) : va_W := [(A_t, .inr (4, [.ref A_t_state, .ref A_t_saved, .ref A_t_beaten, .ref A_t_text])), (A_t_state, .inr (3, [.int t_state_variables, .int t_state_breakers, .int t_state_clauses, .ref A_t_state_positive, .ref A_t_state_negative, .int t_state_learned, .int t_state_rounds]))]
def T_X4_requireVariable (N : Nat) (p0 : Int32) (t_state_variables : Int32) : Option Nat :=
  (if p0 < (0 : Int32) then some 3 else (if p0 < t_state_variables then none else some 3))
set_option maxHeartbeats 4000000 in
set_option maxRecDepth 100000 in
theorem x_X4_requireVariable (l : Launch) (D : va_G) (cy : Nat → ClassId) (s0 tW N : Nat) (A_t : Nat) (A_t_state : Nat) (A_t_saved : Nat) (A_t_beaten : Nat) (A_t_text : Nat) (A_t_state_positive : Nat) (A_t_state_negative : Nat) (p0 : Int32) (t_state_variables : Int32) (t_state_breakers : Int32) (t_state_clauses : Int32) (t_state_learned : Int32) (t_state_rounds : Int32) (sz : Nat) {e9 : Nat} (hl9 : l.stackTraces = false) (hF : T_X4_requireVariable N p0 t_state_variables = some e9) : KX l D cy s0 tW yX4_requireVariable cX4_requireVariable 2 none 6 90 [.ref A_t, .int p0] sz (wt_X4_requireVariable cy A_t A_t_state A_t_saved A_t_beaten A_t_text A_t_state_positive A_t_state_negative t_state_variables t_state_breakers t_state_clauses t_state_learned t_state_rounds) (exN e9) := by
  refine KX.intro rfl (Nat.le_of_ble_eq_true rfl) ?_
  intro p e s m args below meth c A ls hx hb hr hml hown hts hlocks hE hP hD hS hA hAs hl hX hno
  have hK := hE.1
  have hl : lv_has ls 2 [(0, .ref A_t), (1, .int p0)] := hl
  unfold T_X4_requireVariable at hF
  refine lv_iload_n hx hb dX4_requireVariable_0 rfl (lv_at hl 1 rfl) ?_
  refine lv_if_lt (tgt := 15) hx hb dX4_requireVariable_1 (by decide) (fun c_1 => ?_) (fun c_1 => ?_)
  · replace hF := ite_t c_1 hF
    cases hF
    exact kthrow (text := "no such variable") (cls := exIOB) hl9 hx hb hown hts hX hno hlocks hP hD hS hAs hml hl.1 (by decide +kernel) q_551 q_95 (by decide +kernel) (hat_IOB hts hE.2.1) (by decide +kernel) dX4_requireVariable_15 dX4_requireVariable_18 dX4_requireVariable_19 dX4_requireVariable_21 dX4_requireVariable_24 (by decide) (Nat.le_of_ble_eq_true rfl)
  · replace hF := ite_f c_1 hF
    refine lv_iload_n hx hb dX4_requireVariable_4 rfl (lv_at hl 1 rfl) ?_
    refine lv_aload_n hx hb dX4_requireVariable_5 rfl (lv_at hl 0 rfl) ?_
    refine va_get (D := D) (ci := 4) (v := .ref A_t_state) (C := RX4) (T := TX4) (N := 4) hx hb hts inX4 hown hK hP 0 rfl rfl 0 (by decide) (hts _ q_212) (fun _ h9 => h9) rfl dX4_requireVariable_6 ?_
    refine va_getN (D := D) (ci := 3) (v := .int t_state_variables) (C := RX3) (T := TX3) (N := 7) hx hb hts inX3 hown hK hP 1 rfl rfl 0 (by decide) (va_Nw.use rfl (nq_111 hE.2.1)) (fun _ h9 => h9) rfl dX4_requireVariable_9 ?_
    refine lv_icmp_lt (tgt := 25) hx hb dX4_requireVariable_12 (by decide) (fun c_2 => ?_) (fun c_2 => ?_)
    · replace hF := ite_t c_2 hF
      cases hF
    · replace hF := ite_f c_2 hF
      cases hF
      exact kthrow (text := "no such variable") (cls := exIOB) hl9 hx hb hown hts hX hno hlocks hP hD hS hAs hml hl.1 (by decide +kernel) q_551 q_95 (by decide +kernel) (hat_IOB hts hE.2.1) (by decide +kernel) dX4_requireVariable_15 dX4_requireVariable_18 dX4_requireVariable_19 dX4_requireVariable_21 dX4_requireVariable_24 (by decide) (Nat.le_of_ble_eq_true rfl)

abbrev wt_X4_requireClause (cy : Nat → ClassId) (A_t : Nat) (A_t_state : Nat) (A_t_saved : Nat) (A_t_beaten : Nat) (A_t_text : Nat) (A_t_state_positive : Nat) (A_t_state_negative : Nat) (t_state_variables : Int32) (t_state_breakers : Int32) (t_state_clauses : Int32) (t_state_learned : Int32) (t_state_rounds : Int32) : va_W := [(A_t, .inr (4, [.ref A_t_state, .ref A_t_saved, .ref A_t_beaten, .ref A_t_text])), (A_t_state, .inr (3, [.int t_state_variables, .int t_state_breakers, .int t_state_clauses, .ref A_t_state_positive, .ref A_t_state_negative, .int t_state_learned, .int t_state_rounds]))]
def T_X4_requireClause (N : Nat) (p0 : Int32) (t_state_clauses : Int32) : Option Nat :=
  (if p0 < (0 : Int32) then some 3 else (if p0 < t_state_clauses then none else some 3))
set_option maxHeartbeats 4000000 in
set_option maxRecDepth 100000 in
theorem x_X4_requireClause (l : Launch) (D : va_G) (cy : Nat → ClassId) (s0 tW N : Nat) (A_t : Nat) (A_t_state : Nat) (A_t_saved : Nat) (A_t_beaten : Nat) (A_t_text : Nat) (A_t_state_positive : Nat) (A_t_state_negative : Nat) (p0 : Int32) (t_state_variables : Int32) (t_state_breakers : Int32) (t_state_clauses : Int32) (t_state_learned : Int32) (t_state_rounds : Int32) (sz : Nat) {e9 : Nat} (hl9 : l.stackTraces = false) (hF : T_X4_requireClause N p0 t_state_clauses = some e9) : KX l D cy s0 tW yX4_requireClause cX4_requireClause 2 none 6 90 [.ref A_t, .int p0] sz (wt_X4_requireClause cy A_t A_t_state A_t_saved A_t_beaten A_t_text A_t_state_positive A_t_state_negative t_state_variables t_state_breakers t_state_clauses t_state_learned t_state_rounds) (exN e9) := by
  refine KX.intro rfl (Nat.le_of_ble_eq_true rfl) ?_
  intro p e s m args below meth c A ls hx hb hr hml hown hts hlocks hE hP hD hS hA hAs hl hX hno
  have hK := hE.1
  have hl : lv_has ls 2 [(0, .ref A_t), (1, .int p0)] := hl
  unfold T_X4_requireClause at hF
  refine lv_iload_n hx hb dX4_requireClause_0 rfl (lv_at hl 1 rfl) ?_
  refine lv_if_lt (tgt := 15) hx hb dX4_requireClause_1 (by decide) (fun c_1 => ?_) (fun c_1 => ?_)
  · replace hF := ite_t c_1 hF
    cases hF
    exact kthrow (text := "no such clause") (cls := exIOB) hl9 hx hb hown hts hX hno hlocks hP hD hS hAs hml hl.1 (by decide +kernel) q_551 q_95 (by decide +kernel) (hat_IOB hts hE.2.1) (by decide +kernel) dX4_requireClause_15 dX4_requireClause_18 dX4_requireClause_19 dX4_requireClause_21 dX4_requireClause_24 (by decide) (Nat.le_of_ble_eq_true rfl)
  · replace hF := ite_f c_1 hF
    refine lv_iload_n hx hb dX4_requireClause_4 rfl (lv_at hl 1 rfl) ?_
    refine lv_aload_n hx hb dX4_requireClause_5 rfl (lv_at hl 0 rfl) ?_
    refine va_get (D := D) (ci := 4) (v := .ref A_t_state) (C := RX4) (T := TX4) (N := 4) hx hb hts inX4 hown hK hP 0 rfl rfl 0 (by decide) (hts _ q_212) (fun _ h9 => h9) rfl dX4_requireClause_6 ?_
    refine va_getN (D := D) (ci := 3) (v := .int t_state_clauses) (C := RX3) (T := TX3) (N := 7) hx hb hts inX3 hown hK hP 1 rfl rfl 2 (by decide) (va_Nw.use rfl (nq_116 hE.2.1)) (fun _ h9 => h9) rfl dX4_requireClause_9 ?_
    refine lv_icmp_lt (tgt := 25) hx hb dX4_requireClause_12 (by decide) (fun c_2 => ?_) (fun c_2 => ?_)
    · replace hF := ite_t c_2 hF
      cases hF
    · replace hF := ite_f c_2 hF
      cases hF
      exact kthrow (text := "no such clause") (cls := exIOB) hl9 hx hb hown hts hX hno hlocks hP hD hS hAs hml hl.1 (by decide +kernel) q_551 q_95 (by decide +kernel) (hat_IOB hts hE.2.1) (by decide +kernel) dX4_requireClause_15 dX4_requireClause_18 dX4_requireClause_19 dX4_requireClause_21 dX4_requireClause_24 (by decide) (Nat.le_of_ble_eq_true rfl)

theorem q_94 : Cond.initialized exIAE ∈ wAll := wAll_mem 94 (by decide +kernel) (by decide +kernel)
theorem q_475 : Cond.classLink RX4 71 exIAE ∈ wAll := wAll_mem 475 (by decide +kernel) (by decide +kernel)
abbrev wt_X4_requirePlay (cy : Nat → ClassId) (A_t : Nat) (A_t_state : Nat) (A_t_saved : Nat) (A_t_beaten : Nat) (A_t_text : Nat) (A_t_state_positive : Nat) (A_t_state_negative : Nat) (t_state_variables : Int32) (t_state_breakers : Int32) (t_state_clauses : Int32) (t_state_learned : Int32) (t_state_rounds : Int32) : va_W := [(A_t, .inr (4, [.ref A_t_state, .ref A_t_saved, .ref A_t_beaten, .ref A_t_text])), (A_t_state, .inr (3, [.int t_state_variables, .int t_state_breakers, .int t_state_clauses, .ref A_t_state_positive, .ref A_t_state_negative, .int t_state_learned, .int t_state_rounds]))]
def T_X4_requirePlay (N : Nat) (p0 : Int32) (t_state_breakers : Int32) : Option Nat :=
  ob1 (F_X3_hasPlay N p0 t_state_breakers) (fun r_1 => (if r_1 = true then none else some 1))
set_option maxHeartbeats 4000000 in
set_option maxRecDepth 100000 in
theorem x_X4_requirePlay (l : Launch) (D : va_G) (cy : Nat → ClassId) (s0 tW N : Nat) (A_t : Nat) (A_t_state : Nat) (A_t_saved : Nat) (A_t_beaten : Nat) (A_t_text : Nat) (A_t_state_positive : Nat) (A_t_state_negative : Nat) (p0 : Int32) (t_state_variables : Int32) (t_state_breakers : Int32) (t_state_clauses : Int32) (t_state_learned : Int32) (t_state_rounds : Int32) (sz : Nat) {e9 : Nat} (hl9 : l.stackTraces = false) (hF : T_X4_requirePlay N p0 t_state_breakers = some e9) : KX l D cy s0 tW yX4_requirePlay cX4_requirePlay 2 none 6 90 [.ref A_t, .int p0] sz (wt_X4_requirePlay cy A_t A_t_state A_t_saved A_t_beaten A_t_text A_t_state_positive A_t_state_negative t_state_variables t_state_breakers t_state_clauses t_state_learned t_state_rounds) (exN e9) := by
  refine KX.intro rfl (Nat.le_of_ble_eq_true rfl) ?_
  intro p e s m args below meth c A ls hx hb hr hml hown hts hlocks hE hP hD hS hA hAs hl hX hno
  have hK := hE.1
  have hl : lv_has ls 2 [(0, .ref A_t), (1, .int p0)] := hl
  unfold T_X4_requirePlay at hF
  refine lv_aload_n hx hb dX4_requirePlay_0 rfl (lv_at hl 0 rfl) ?_
  refine va_get (D := D) (ci := 4) (v := .ref A_t_state) (C := RX4) (T := TX4) (N := 4) hx hb hts inX4 hown hK hP 0 rfl rfl 0 (by decide) (hts _ q_212) (fun _ h9 => h9) rfl dX4_requirePlay_1 ?_
  refine lv_iload_n hx hb dX4_requirePlay_4 rfl (lv_at hl 1 rfl) ?_
  obtain ⟨r_1, hF_2, hF⟩ := ob1_some hF
  refine kcVN (q := (RX3, TX3, 7)) (ci := 3) (q0 := 1) (As := [.int p0]) (rest := []) (wr := [(A_t, .inr (4, [.ref A_t_state, .ref A_t_saved, .ref A_t_beaten, .ref A_t_text]))]) (wsN := (wt_X4_requirePlay cy A_t A_t_state A_t_saved A_t_beaten A_t_text A_t_state_positive A_t_state_negative t_state_variables t_state_breakers t_state_clauses t_state_learned t_state_rounds)) ⟨hx, hb, hml, hown, hts⟩ hE hP hD hS hA hAs [1] [0] [0, 1] (c_X3_hasPlay l D cy s0 tW N A_t_state A_t_state_positive A_t_state_negative p0 t_state_variables t_state_breakers t_state_clauses t_state_learned t_state_rounds _ hF_2) q_464 q_84 q_463 q_37 (nq_461 hE.2.1) hd_X3_hasPlay.2 ⟨Nat.le_of_ble_eq_true rfl, Nat.le_of_ble_eq_true rfl⟩ rfl rfl rfl rfl rfl rfl rfl rfl rfl hl.1 rfl (Nat.le_of_ble_eq_true rfl) dX4_requirePlay_5 ⟨Nat.zero_le _, Nat.zero_le _⟩ (fun H locs hP hD hS => ?_)
  refine W.eq (g2 := F0 m 8 ls [.int (bI r_1)]) rfl ?_
  refine lv_if_ne (tgt := 21) hx hb dX4_requirePlay_8 (by decide) (fun c_3 => ?_) (fun c_3 => ?_)
  · replace hF := ite_t (bI_t c_3) hF
    cases hF
  · replace hF := ite_f (bI_f c_3) hF
    cases hF
    exact kthrow (text := "no such play") (cls := exIAE) hl9 hx hb hown hts hX hno hlocks hP hD hS hAs hml hl.1 (by decide +kernel) q_475 q_94 (by decide +kernel) (hat_IAE hts hE.2.1) (by decide +kernel) dX4_requirePlay_11 dX4_requirePlay_14 dX4_requirePlay_15 dX4_requirePlay_17 dX4_requirePlay_20 (by decide) (Nat.le_of_ble_eq_true rfl)

def T_X4_requireHistory (N : Nat) (p0 : Int32) (p1 : Int32) : Option Nat :=
  (if p1 < (0 : Int32) then some 1 else (if (p1 >>> (p0 &&& 31)) = (0 : Int32) then none else some 1))
set_option maxHeartbeats 4000000 in
set_option maxRecDepth 100000 in
theorem x_X4_requireHistory (l : Launch) (D : va_G) (cy : Nat → ClassId) (s0 tW N : Nat) (A_t : Nat) (p0 : Int32) (p1 : Int32) (sz : Nat) {e9 : Nat} (hl9 : l.stackTraces = false) (hF : T_X4_requireHistory N p0 p1 = some e9) : KX l D cy s0 tW yX4_requireHistory cX4_requireHistory 3 none 6 90 [.ref A_t, .int p0, .int p1] sz [] (exN e9) := by
  refine KX.intro rfl (Nat.le_of_ble_eq_true rfl) ?_
  intro p e s m args below meth c A ls hx hb hr hml hown hts hlocks hE hP hD hS hA hAs hl hX hno
  have hK := hE.1
  have hl : lv_has ls 3 [(0, .ref A_t), (1, .int p0), (2, .int p1)] := hl
  unfold T_X4_requireHistory at hF
  refine lv_iload_n hx hb dX4_requireHistory_0 rfl (lv_at hl 2 rfl) ?_
  refine lv_if_lt (tgt := 10) hx hb dX4_requireHistory_1 (by decide) (fun c_1 => ?_) (fun c_1 => ?_)
  · replace hF := ite_t c_1 hF
    cases hF
    exact kthrow (text := "no such history") (cls := exIAE) hl9 hx hb hown hts hX hno hlocks hP hD hS hAs hml hl.1 (by decide +kernel) q_475 q_94 (by decide +kernel) (hat_IAE hts hE.2.1) (by decide +kernel) dX4_requireHistory_10 dX4_requireHistory_13 dX4_requireHistory_14 dX4_requireHistory_16 dX4_requireHistory_19 (by decide) (Nat.le_of_ble_eq_true rfl)
  · replace hF := ite_f c_1 hF
    refine lv_iload_n hx hb dX4_requireHistory_4 rfl (lv_at hl 2 rfl) ?_
    refine lv_iload_n hx hb dX4_requireHistory_5 rfl (lv_at hl 1 rfl) ?_
    refine lv_ishr hx hb dX4_requireHistory_6 ?_
    refine lv_if_eq (tgt := 20) hx hb dX4_requireHistory_7 (by decide) (fun c_2 => ?_) (fun c_2 => ?_)
    · replace hF := ite_t c_2 hF
      cases hF
    · replace hF := ite_f c_2 hF
      cases hF
      exact kthrow (text := "no such history") (cls := exIAE) hl9 hx hb hown hts hX hno hlocks hP hD hS hAs hml hl.1 (by decide +kernel) q_475 q_94 (by decide +kernel) (hat_IAE hts hE.2.1) (by decide +kernel) dX4_requireHistory_10 dX4_requireHistory_13 dX4_requireHistory_14 dX4_requireHistory_16 dX4_requireHistory_19 (by decide) (Nat.le_of_ble_eq_true rfl)

theorem q_93 : Cond.initialized exISE ∈ wAll := wAll_mem 93 (by decide +kernel) (by decide +kernel)
theorem q_578 : Cond.classLink RX4 56 exISE ∈ wAll := wAll_mem 578 (by decide +kernel) (by decide +kernel)
abbrev wt_X4_addVariable (cy : Nat → ClassId) (A_t : Nat) (A_t_state : Nat) (A_t_saved : Nat) (A_t_beaten : Nat) (A_t_text : Nat) (A_t_state_positive : Nat) (A_t_state_negative : Nat) (t_state_variables : Int32) (t_state_breakers : Int32) (t_state_clauses : Int32) (t_state_learned : Int32) (t_state_rounds : Int32) : va_W := [(A_t, .inr (4, [.ref A_t_state, .ref A_t_saved, .ref A_t_beaten, .ref A_t_text])), (A_t_state, .inr (3, [.int t_state_variables, .int t_state_breakers, .int t_state_clauses, .ref A_t_state_positive, .ref A_t_state_negative, .int t_state_learned, .int t_state_rounds]))]
def T_X4_addVariable (N : Nat) (p0 : Bool) (t_state_variables : Int32) (t_state_breakers : Int32) : Option Nat :=
  ob1 (F_X3_hasRoomFor N p0 t_state_variables t_state_breakers) (fun r_1 => (if r_1 = true then none else some 2))
set_option maxHeartbeats 4000000 in
set_option maxRecDepth 100000 in
theorem x_X4_addVariable (l : Launch) (D : va_G) (cy : Nat → ClassId) (s0 tW N : Nat) (A_t : Nat) (A_t_state : Nat) (A_t_saved : Nat) (A_t_beaten : Nat) (A_t_text : Nat) (A_t_state_positive : Nat) (A_t_state_negative : Nat) (p0 : Bool) (t_state_variables : Int32) (t_state_breakers : Int32) (t_state_clauses : Int32) (t_state_learned : Int32) (t_state_rounds : Int32) (sz : Nat) {e9 : Nat} (hl9 : l.stackTraces = false) (hF : T_X4_addVariable N p0 t_state_variables t_state_breakers = some e9) : KX l D cy s0 tW yX4_addVariable cX4_addVariable 2 (some .int) 6 90 [.ref A_t, .int (bI p0)] sz (wt_X4_addVariable cy A_t A_t_state A_t_saved A_t_beaten A_t_text A_t_state_positive A_t_state_negative t_state_variables t_state_breakers t_state_clauses t_state_learned t_state_rounds) (exN e9) := by
  refine KX.intro rfl (Nat.le_of_ble_eq_true rfl) ?_
  intro p e s m args below meth c A ls hx hb hr hml hown hts hlocks hE hP hD hS hA hAs hl hX hno
  have hK := hE.1
  have hl : lv_has ls 2 [(0, .ref A_t), (1, .int (bI p0))] := hl
  unfold T_X4_addVariable at hF
  refine lv_aload_n hx hb dX4_addVariable_0 rfl (lv_at hl 0 rfl) ?_
  refine va_get (D := D) (ci := 4) (v := .ref A_t_state) (C := RX4) (T := TX4) (N := 4) hx hb hts inX4 hown hK hP 0 rfl rfl 0 (by decide) (hts _ q_212) (fun _ h9 => h9) rfl dX4_addVariable_1 ?_
  refine lv_iload_n hx hb dX4_addVariable_4 rfl (lv_at hl 1 rfl) ?_
  obtain ⟨r_1, hF_2, hF⟩ := ob1_some hF
  refine kcVN (q := (RX3, TX3, 7)) (ci := 3) (q0 := 1) (As := [.int (bI p0)]) (rest := []) (wr := [(A_t, .inr (4, [.ref A_t_state, .ref A_t_saved, .ref A_t_beaten, .ref A_t_text]))]) (wsN := (wt_X4_addVariable cy A_t A_t_state A_t_saved A_t_beaten A_t_text A_t_state_positive A_t_state_negative t_state_variables t_state_breakers t_state_clauses t_state_learned t_state_rounds)) ⟨hx, hb, hml, hown, hts⟩ hE hP hD hS hA hAs [1] [0] [0, 1] (c_X3_hasRoomFor l D cy s0 tW N A_t_state A_t_state_positive A_t_state_negative p0 t_state_variables t_state_breakers t_state_clauses t_state_learned t_state_rounds _ hF_2) q_428 q_84 q_427 q_28 (nq_425 hE.2.1) hd_X3_hasRoomFor.2 ⟨Nat.le_of_ble_eq_true rfl, Nat.le_of_ble_eq_true rfl⟩ rfl rfl rfl rfl rfl rfl rfl rfl rfl hl.1 rfl (Nat.le_of_ble_eq_true rfl) dX4_addVariable_5 ⟨Nat.zero_le _, Nat.zero_le _⟩ (fun H locs hP hD hS => ?_)
  refine W.eq (g2 := F0 m 8 ls [.int (bI r_1)]) rfl ?_
  refine lv_if_ne (tgt := 21) hx hb dX4_addVariable_8 (by decide) (fun c_3 => ?_) (fun c_3 => ?_)
  · replace hF := ite_t (bI_t c_3) hF
    cases hF
  · replace hF := ite_f (bI_f c_3) hF
    cases hF
    exact kthrow (text := "the player has all variables already") (cls := exISE) hl9 hx hb hown hts hX hno hlocks hP hD hS hAs hml hl.1 (by decide +kernel) q_578 q_93 (by decide +kernel) (hat_ISE hts hE.2.1) (by decide +kernel) dX4_addVariable_11 dX4_addVariable_14 dX4_addVariable_15 dX4_addVariable_17 dX4_addVariable_20 (by decide) (Nat.le_of_ble_eq_true rfl)

abbrev wt_X4_addClause (cy : Nat → ClassId) (A_t : Nat) (A_t_state : Nat) (A_t_saved : Nat) (A_t_beaten : Nat) (A_t_text : Nat) (A_t_state_positive : Nat) (A_t_state_negative : Nat) (t_state_variables : Int32) (t_state_breakers : Int32) (t_state_clauses : Int32) (t_state_learned : Int32) (t_state_rounds : Int32) : va_W := [(A_t, .inr (4, [.ref A_t_state, .ref A_t_saved, .ref A_t_beaten, .ref A_t_text])), (A_t_state, .inr (3, [.int t_state_variables, .int t_state_breakers, .int t_state_clauses, .ref A_t_state_positive, .ref A_t_state_negative, .int t_state_learned, .int t_state_rounds]))]
def T_X4_addClause (N : Nat) (p0 : Int32) (p1 : Int32) (t_state_variables : Int32) (t_state_clauses : Int32) : Option Nat :=
  ob1 (F_X3_hasVariables N p0 t_state_variables) (fun r_1 => (if r_1 = true then ob1 (F_X3_hasVariables N p1 t_state_variables) (fun r_4 => (if r_4 = true then (if t_state_clauses < (20 : Int32) then none else some 2) else some 1)) else some 1))
set_option maxHeartbeats 4000000 in
set_option maxRecDepth 100000 in
theorem x_X4_addClause (l : Launch) (D : va_G) (cy : Nat → ClassId) (s0 tW N : Nat) (A_t : Nat) (A_t_state : Nat) (A_t_saved : Nat) (A_t_beaten : Nat) (A_t_text : Nat) (A_t_state_positive : Nat) (A_t_state_negative : Nat) (p0 : Int32) (p1 : Int32) (t_state_variables : Int32) (t_state_breakers : Int32) (t_state_clauses : Int32) (t_state_learned : Int32) (t_state_rounds : Int32) (sz : Nat) {e9 : Nat} (hl9 : l.stackTraces = false) (hF : T_X4_addClause N p0 p1 t_state_variables t_state_clauses = some e9) : KX l D cy s0 tW yX4_addClause cX4_addClause 3 (some .int) 6 90 [.ref A_t, .int p0, .int p1] sz (wt_X4_addClause cy A_t A_t_state A_t_saved A_t_beaten A_t_text A_t_state_positive A_t_state_negative t_state_variables t_state_breakers t_state_clauses t_state_learned t_state_rounds) (exN e9) := by
  refine KX.intro rfl (Nat.le_of_ble_eq_true rfl) ?_
  intro p e s m args below meth c A ls hx hb hr hml hown hts hlocks hE hP hD hS hA hAs hl hX hno
  have hK := hE.1
  have hl : lv_has ls 3 [(0, .ref A_t), (1, .int p0), (2, .int p1)] := hl
  unfold T_X4_addClause at hF
  refine lv_aload_n hx hb dX4_addClause_0 rfl (lv_at hl 0 rfl) ?_
  refine va_get (D := D) (ci := 4) (v := .ref A_t_state) (C := RX4) (T := TX4) (N := 4) hx hb hts inX4 hown hK hP 0 rfl rfl 0 (by decide) (hts _ q_212) (fun _ h9 => h9) rfl dX4_addClause_1 ?_
  refine lv_iload_n hx hb dX4_addClause_4 rfl (lv_at hl 1 rfl) ?_
  obtain ⟨r_1, hF_2, hF⟩ := ob1_some hF
  refine kcVN (q := (RX3, TX3, 7)) (ci := 3) (q0 := 1) (As := [.int p0]) (rest := []) (wr := [(A_t, .inr (4, [.ref A_t_state, .ref A_t_saved, .ref A_t_beaten, .ref A_t_text]))]) (wsN := (wt_X4_addClause cy A_t A_t_state A_t_saved A_t_beaten A_t_text A_t_state_positive A_t_state_negative t_state_variables t_state_breakers t_state_clauses t_state_learned t_state_rounds)) ⟨hx, hb, hml, hown, hts⟩ hE hP hD hS hA hAs [1] [0] [0, 1] (c_X3_hasVariables l D cy s0 tW N A_t_state A_t_state_positive A_t_state_negative p0 t_state_variables t_state_breakers t_state_clauses t_state_learned t_state_rounds _ hF_2) q_448 q_84 q_447 q_33 (nq_445 hE.2.1) hd_X3_hasVariables.2 ⟨Nat.le_of_ble_eq_true rfl, Nat.le_of_ble_eq_true rfl⟩ rfl rfl rfl rfl rfl rfl rfl rfl rfl hl.1 rfl (Nat.le_of_ble_eq_true rfl) dX4_addClause_5 ⟨Nat.zero_le _, Nat.zero_le _⟩ (fun H locs hP hD hS => ?_)
  refine W.eq (g2 := F0 m 8 ls [.int (bI r_1)]) rfl ?_
  refine lv_if_eq (tgt := 22) hx hb dX4_addClause_8 (by decide) (fun c_3 => ?_) (fun c_3 => ?_)
  · replace hF := ite_f (bI_f c_3) hF
    cases hF
    exact kthrow (text := "no such set of variables") (cls := exIAE) hl9 hx hb hown hts hX hno hlocks hP hD hS hAs hml hl.1 (by decide +kernel) q_475 q_94 (by decide +kernel) (hat_IAE hts hE.2.1) (by decide +kernel) dX4_addClause_22 dX4_addClause_25 dX4_addClause_26 dX4_addClause_28 dX4_addClause_31 (by decide) (Nat.le_of_ble_eq_true rfl)
  · replace hF := ite_t (bI_t c_3) hF
    refine lv_aload_n hx hb dX4_addClause_11 rfl (lv_at hl 0 rfl) ?_
    refine va_get (D := D) (ci := 4) (v := .ref A_t_state) (C := RX4) (T := TX4) (N := 4) hx hb hts inX4 hown hK hP 0 rfl rfl 0 (by decide) (hts _ q_212) (fun _ h9 => h9) rfl dX4_addClause_12 ?_
    refine lv_iload_n hx hb dX4_addClause_15 rfl (lv_at hl 2 rfl) ?_
    obtain ⟨r_4, hF_5, hF⟩ := ob1_some hF
    refine kcVN (q := (RX3, TX3, 7)) (ci := 3) (q0 := 1) (As := [.int p1]) (rest := []) (wr := [(A_t, .inr (4, [.ref A_t_state, .ref A_t_saved, .ref A_t_beaten, .ref A_t_text]))]) (wsN := (wt_X4_addClause cy A_t A_t_state A_t_saved A_t_beaten A_t_text A_t_state_positive A_t_state_negative t_state_variables t_state_breakers t_state_clauses t_state_learned t_state_rounds)) ⟨hx, hb, hml, hown, hts⟩ hE hP hD hS hA hAs [1] [0] [0, 1] (c_X3_hasVariables l D cy s0 tW N A_t_state A_t_state_positive A_t_state_negative p1 t_state_variables t_state_breakers t_state_clauses t_state_learned t_state_rounds _ hF_5) q_448 q_84 q_447 q_33 (nq_445 hE.2.1) hd_X3_hasVariables.2 ⟨Nat.le_of_ble_eq_true rfl, Nat.le_of_ble_eq_true rfl⟩ rfl rfl rfl rfl rfl rfl rfl rfl rfl hl.1 rfl (Nat.le_of_ble_eq_true rfl) dX4_addClause_16 ⟨Nat.zero_le _, Nat.zero_le _⟩ (fun H locs hP hD hS => ?_)
    refine W.eq (g2 := F0 m 19 ls [.int (bI r_4)]) rfl ?_
    refine lv_if_ne (tgt := 32) hx hb dX4_addClause_19 (by decide) (fun c_6 => ?_) (fun c_6 => ?_)
    · replace hF := ite_t (bI_t c_6) hF
      refine lv_aload_n hx hb dX4_addClause_32 rfl (lv_at hl 0 rfl) ?_
      refine va_get (D := D) (ci := 4) (v := .ref A_t_state) (C := RX4) (T := TX4) (N := 4) hx hb hts inX4 hown hK hP 0 rfl rfl 0 (by decide) (hts _ q_212) (fun _ h9 => h9) rfl dX4_addClause_33 ?_
      refine va_getN (D := D) (ci := 3) (v := .int t_state_clauses) (C := RX3) (T := TX3) (N := 7) hx hb hts inX3 hown hK hP 1 rfl rfl 2 (by decide) (va_Nw.use rfl (nq_116 hE.2.1)) (fun _ h9 => h9) rfl dX4_addClause_36 ?_
      refine lv_bipush (v := 20) hx hb dX4_addClause_39 (by decide) ?_
      refine lv_icmp_lt (tgt := 54) hx hb dX4_addClause_41 (by decide) (fun c_7 => ?_) (fun c_7 => ?_)
      · replace hF := ite_t c_7 hF
        cases hF
      · replace hF := ite_f c_7 hF
        cases hF
        exact kthrow (text := "no room for a clause") (cls := exISE) hl9 hx hb hown hts hX hno hlocks hP hD hS hAs hml hl.1 (by decide +kernel) q_578 q_93 (by decide +kernel) (hat_ISE hts hE.2.1) (by decide +kernel) dX4_addClause_44 dX4_addClause_47 dX4_addClause_48 dX4_addClause_50 dX4_addClause_53 (by decide) (Nat.le_of_ble_eq_true rfl)
    · replace hF := ite_f (bI_f c_6) hF
      cases hF
      exact kthrow (text := "no such set of variables") (cls := exIAE) hl9 hx hb hown hts hX hno hlocks hP hD hS hAs hml hl.1 (by decide +kernel) q_475 q_94 (by decide +kernel) (hat_IAE hts hE.2.1) (by decide +kernel) dX4_addClause_22 dX4_addClause_25 dX4_addClause_26 dX4_addClause_28 dX4_addClause_31 (by decide) (Nat.le_of_ble_eq_true rfl)

abbrev wt_X4_removeClause (cy : Nat → ClassId) (A_t : Nat) (A_t_state : Nat) (A_t_saved : Nat) (A_t_beaten : Nat) (A_t_text : Nat) (A_t_state_positive : Nat) (A_t_state_negative : Nat) (t_state_variables : Int32) (t_state_breakers : Int32) (t_state_clauses : Int32) (t_state_learned : Int32) (t_state_rounds : Int32) : va_W := [(A_t, .inr (4, [.ref A_t_state, .ref A_t_saved, .ref A_t_beaten, .ref A_t_text])), (A_t_state, .inr (3, [.int t_state_variables, .int t_state_breakers, .int t_state_clauses, .ref A_t_state_positive, .ref A_t_state_negative, .int t_state_learned, .int t_state_rounds]))]
def T_X4_removeClause (N : Nat) (p0 : Int32) (t_state_clauses : Int32) : Option Nat :=
  xb (T_X4_requireClause N p0 t_state_clauses) none
set_option maxHeartbeats 4000000 in
set_option maxRecDepth 100000 in
theorem x_X4_removeClause (l : Launch) (D : va_G) (cy : Nat → ClassId) (s0 tW N : Nat) (A_t : Nat) (A_t_state : Nat) (A_t_saved : Nat) (A_t_beaten : Nat) (A_t_text : Nat) (A_t_state_positive : Nat) (A_t_state_negative : Nat) (p0 : Int32) (t_state_variables : Int32) (t_state_breakers : Int32) (t_state_clauses : Int32) (t_state_learned : Int32) (t_state_rounds : Int32) (sz : Nat) {e9 : Nat} (hl9 : l.stackTraces = false) (hF : T_X4_removeClause N p0 t_state_clauses = some e9) : KX l D cy s0 tW yX4_removeClause cX4_removeClause 2 (some .int) 7 111 [.ref A_t, .int p0] sz (wt_X4_removeClause cy A_t A_t_state A_t_saved A_t_beaten A_t_text A_t_state_positive A_t_state_negative t_state_variables t_state_breakers t_state_clauses t_state_learned t_state_rounds) (exN e9) := by
  refine KX.intro rfl (Nat.le_of_ble_eq_true rfl) ?_
  intro p e s m args below meth c A ls hx hb hr hml hown hts hlocks hE hP hD hS hA hAs hl hX hno
  have hK := hE.1
  have hl : lv_has ls 2 [(0, .ref A_t), (1, .int p0)] := hl
  unfold T_X4_removeClause at hF
  refine lv_aload_n hx hb dX4_removeClause_0 rfl (lv_at hl 0 rfl) ?_
  refine lv_iload_n hx hb dX4_removeClause_1 rfl (lv_at hl 1 rfl) ?_
  cases hT_1 : T_X4_requireClause N p0 t_state_clauses with
  | some e_1 =>
    rw [hT_1] at hF
    cases hF
    refine kxV (q := (RX4, TX4, 4)) (ci := 4) (q0 := 0) (As := [.int p0]) (rest := []) (wr := []) (wsN := (wt_X4_removeClause cy A_t A_t_state A_t_saved A_t_beaten A_t_text A_t_state_positive A_t_state_negative t_state_variables t_state_breakers t_state_clauses t_state_learned t_state_rounds)) ⟨hx, hb, hml, hown, hts⟩ hE hX hP hD hS hA hAs [0, 1] [] [0, 1] (x_X4_requireClause l D cy s0 tW N A_t A_t_state A_t_saved A_t_beaten A_t_text A_t_state_positive A_t_state_negative p0 t_state_variables t_state_breakers t_state_clauses t_state_learned t_state_rounds _ hl9 hT_1) (gV q_547 q_549 q_39 q_83 q_550) hd_X4_requireClause ⟨Nat.le_of_ble_eq_true rfl, Nat.le_of_ble_eq_true rfl⟩ rfl rfl rfl rfl rfl rfl rfl rfl rfl hl.1 rfl (Nat.le_of_ble_eq_true rfl) dX4_removeClause_2 ⟨Nat.le_of_ble_eq_true rfl, Nat.le_of_ble_eq_true rfl⟩ (fun q9 ce H locs hP hD hS hce hcv hcl => ?_)
    exact kprop hno hlocks hP hD hS hce hcv hcl
  | none =>
    rw [hT_1] at hF
    cases hF

abbrev wt_X4_learn (cy : Nat → ClassId) (A_t : Nat) (A_t_state : Nat) (A_t_saved : Nat) (A_t_beaten : Nat) (A_t_text : Nat) (A_t_state_positive : Nat) (A_t_state_negative : Nat) (t_state_variables : Int32) (t_state_breakers : Int32) (t_state_clauses : Int32) (t_state_learned : Int32) (t_state_rounds : Int32) : va_W := [(A_t, .inr (4, [.ref A_t_state, .ref A_t_saved, .ref A_t_beaten, .ref A_t_text])), (A_t_state, .inr (3, [.int t_state_variables, .int t_state_breakers, .int t_state_clauses, .ref A_t_state_positive, .ref A_t_state_negative, .int t_state_learned, .int t_state_rounds]))]
def T_X4_learn (N : Nat) (p0 : Int32) (t_state_breakers : Int32) (t_state_learned : Int32) : Option Nat :=
  xb (T_X4_requirePlay N p0 t_state_breakers) (ob0 (F_X4_requirePlay N p0 t_state_breakers) (ob1 (F_X3_hasLearned N p0 t_state_learned) (fun r_3 => (if r_3 = true then some 2 else none))))
set_option maxHeartbeats 4000000 in
set_option maxRecDepth 100000 in
theorem x_X4_learn (l : Launch) (D : va_G) (cy : Nat → ClassId) (s0 tW N : Nat) (A_t : Nat) (A_t_state : Nat) (A_t_saved : Nat) (A_t_beaten : Nat) (A_t_text : Nat) (A_t_state_positive : Nat) (A_t_state_negative : Nat) (p0 : Int32) (t_state_variables : Int32) (t_state_breakers : Int32) (t_state_clauses : Int32) (t_state_learned : Int32) (t_state_rounds : Int32) (sz : Nat) {e9 : Nat} (hl9 : l.stackTraces = false) (hF : T_X4_learn N p0 t_state_breakers t_state_learned = some e9) : KX l D cy s0 tW yX4_learn cX4_learn 2 (some .int) 7 111 [.ref A_t, .int p0] sz (wt_X4_learn cy A_t A_t_state A_t_saved A_t_beaten A_t_text A_t_state_positive A_t_state_negative t_state_variables t_state_breakers t_state_clauses t_state_learned t_state_rounds) (exN e9) := by
  refine KX.intro rfl (Nat.le_of_ble_eq_true rfl) ?_
  intro p e s m args below meth c A ls hx hb hr hml hown hts hlocks hE hP hD hS hA hAs hl hX hno
  have hK := hE.1
  have hl : lv_has ls 2 [(0, .ref A_t), (1, .int p0)] := hl
  unfold T_X4_learn at hF
  refine lv_aload_n hx hb dX4_learn_0 rfl (lv_at hl 0 rfl) ?_
  refine lv_iload_n hx hb dX4_learn_1 rfl (lv_at hl 1 rfl) ?_
  cases hT_1 : T_X4_requirePlay N p0 t_state_breakers with
  | some e_1 =>
    rw [hT_1] at hF
    cases hF
    refine kxV (q := (RX4, TX4, 4)) (ci := 4) (q0 := 0) (As := [.int p0]) (rest := []) (wr := []) (wsN := (wt_X4_learn cy A_t A_t_state A_t_saved A_t_beaten A_t_text A_t_state_positive A_t_state_negative t_state_variables t_state_breakers t_state_clauses t_state_learned t_state_rounds)) ⟨hx, hb, hml, hown, hts⟩ hE hX hP hD hS hA hAs [0, 1] [] [0, 1] (x_X4_requirePlay l D cy s0 tW N A_t A_t_state A_t_saved A_t_beaten A_t_text A_t_state_positive A_t_state_negative p0 t_state_variables t_state_breakers t_state_clauses t_state_learned t_state_rounds _ hl9 hT_1) (gV q_623 q_625 q_41 q_83 q_626) hd_X4_requirePlay ⟨Nat.le_of_ble_eq_true rfl, Nat.le_of_ble_eq_true rfl⟩ rfl rfl rfl rfl rfl rfl rfl rfl rfl hl.1 rfl (Nat.le_of_ble_eq_true rfl) dX4_learn_2 ⟨Nat.le_of_ble_eq_true rfl, Nat.le_of_ble_eq_true rfl⟩ (fun q9 ce H locs hP hD hS hce hcv hcl => ?_)
    exact kprop hno hlocks hP hD hS hce hcv hcl
  | none =>
    rw [hT_1] at hF
    replace hF := xb_none hF
    obtain ⟨hF_2, hF⟩ := ob0_some hF
    refine kcV (q := (RX4, TX4, 4)) (ci := 4) (q0 := 0) (As := [.int p0]) (rest := []) (wr := []) (wsN := (wt_X4_learn cy A_t A_t_state A_t_saved A_t_beaten A_t_text A_t_state_positive A_t_state_negative t_state_variables t_state_breakers t_state_clauses t_state_learned t_state_rounds)) ⟨hx, hb, hml, hown, hts⟩ hE hP hD hS hA hAs [0, 1] [] [0, 1] (c_X4_requirePlay l D cy s0 tW N A_t A_t_state A_t_saved A_t_beaten A_t_text A_t_state_positive A_t_state_negative p0 t_state_variables t_state_breakers t_state_clauses t_state_learned t_state_rounds _ hF_2) (gV q_623 q_625 q_41 q_83 q_626) hd_X4_requirePlay ⟨Nat.le_of_ble_eq_true rfl, Nat.le_of_ble_eq_true rfl⟩ rfl rfl rfl rfl rfl rfl rfl rfl rfl hl.1 rfl (Nat.le_of_ble_eq_true rfl) dX4_learn_2 ⟨Nat.zero_le _, Nat.zero_le _⟩ (fun H locs hP hD hS => ?_)
    refine W.eq (g2 := F0 m 5 ls []) rfl ?_
    refine lv_aload_n hx hb dX4_learn_5 rfl (lv_at hl 0 rfl) ?_
    refine va_get (D := D) (ci := 4) (v := .ref A_t_state) (C := RX4) (T := TX4) (N := 4) hx hb hts inX4 hown hK hP 0 rfl rfl 0 (by decide) (hts _ q_212) (fun _ h9 => h9) rfl dX4_learn_6 ?_
    refine lv_iload_n hx hb dX4_learn_9 rfl (lv_at hl 1 rfl) ?_
    obtain ⟨r_3, hF_4, hF⟩ := ob1_some hF
    refine kcVN (q := (RX3, TX3, 7)) (ci := 3) (q0 := 1) (As := [.int p0]) (rest := []) (wr := [(A_t, .inr (4, [.ref A_t_state, .ref A_t_saved, .ref A_t_beaten, .ref A_t_text]))]) (wsN := (wt_X4_learn cy A_t A_t_state A_t_saved A_t_beaten A_t_text A_t_state_positive A_t_state_negative t_state_variables t_state_breakers t_state_clauses t_state_learned t_state_rounds)) ⟨hx, hb, hml, hown, hts⟩ hE hP hD hS hA hAs [1] [0] [0, 1] (c_X3_hasLearned l D cy s0 tW N A_t_state A_t_state_positive A_t_state_negative p0 t_state_variables t_state_breakers t_state_clauses t_state_learned t_state_rounds _ hF_4) q_357 q_84 q_356 q_17 (nq_354 hE.2.1) hd_X3_hasLearned.2 ⟨Nat.le_of_ble_eq_true rfl, Nat.le_of_ble_eq_true rfl⟩ rfl rfl rfl rfl rfl rfl rfl rfl rfl hl.1 rfl (Nat.le_of_ble_eq_true rfl) dX4_learn_10 ⟨Nat.zero_le _, Nat.zero_le _⟩ (fun H locs hP hD hS => ?_)
    refine W.eq (g2 := F0 m 13 ls [.int (bI r_3)]) rfl ?_
    refine lv_if_eq (tgt := 26) hx hb dX4_learn_13 (by decide) (fun c_5 => ?_) (fun c_5 => ?_)
    · replace hF := ite_f (bI_f c_5) hF
      cases hF
    · replace hF := ite_t (bI_t c_5) hF
      cases hF
      exact kthrow (text := "learned already") (cls := exISE) hl9 hx hb hown hts hX hno hlocks hP hD hS hAs hml hl.1 (by decide +kernel) q_578 q_93 (by decide +kernel) (hat_ISE hts hE.2.1) (by decide +kernel) dX4_learn_16 dX4_learn_19 dX4_learn_20 dX4_learn_22 dX4_learn_25 (by decide) (Nat.le_of_ble_eq_true rfl)

abbrev wt_X4_isBreakers (cy : Nat → ClassId) (A_t : Nat) (A_t_state : Nat) (A_t_saved : Nat) (A_t_beaten : Nat) (A_t_text : Nat) (A_t_state_positive : Nat) (A_t_state_negative : Nat) (t_state_variables : Int32) (t_state_breakers : Int32) (t_state_clauses : Int32) (t_state_learned : Int32) (t_state_rounds : Int32) : va_W := [(A_t, .inr (4, [.ref A_t_state, .ref A_t_saved, .ref A_t_beaten, .ref A_t_text])), (A_t_state, .inr (3, [.int t_state_variables, .int t_state_breakers, .int t_state_clauses, .ref A_t_state_positive, .ref A_t_state_negative, .int t_state_learned, .int t_state_rounds]))]
def T_X4_isBreakers (N : Nat) (p0 : Int32) (t_state_variables : Int32) : Option Nat :=
  xb (T_X4_requireVariable N p0 t_state_variables) none
set_option maxHeartbeats 4000000 in
set_option maxRecDepth 100000 in
theorem x_X4_isBreakers (l : Launch) (D : va_G) (cy : Nat → ClassId) (s0 tW N : Nat) (A_t : Nat) (A_t_state : Nat) (A_t_saved : Nat) (A_t_beaten : Nat) (A_t_text : Nat) (A_t_state_positive : Nat) (A_t_state_negative : Nat) (p0 : Int32) (t_state_variables : Int32) (t_state_breakers : Int32) (t_state_clauses : Int32) (t_state_learned : Int32) (t_state_rounds : Int32) (sz : Nat) {e9 : Nat} (hl9 : l.stackTraces = false) (hF : T_X4_isBreakers N p0 t_state_variables = some e9) : KX l D cy s0 tW yX4_isBreakers cX4_isBreakers 2 (some .boolean) 7 111 [.ref A_t, .int p0] sz (wt_X4_isBreakers cy A_t A_t_state A_t_saved A_t_beaten A_t_text A_t_state_positive A_t_state_negative t_state_variables t_state_breakers t_state_clauses t_state_learned t_state_rounds) (exN e9) := by
  refine KX.intro rfl (Nat.le_of_ble_eq_true rfl) ?_
  intro p e s m args below meth c A ls hx hb hr hml hown hts hlocks hE hP hD hS hA hAs hl hX hno
  have hK := hE.1
  have hl : lv_has ls 2 [(0, .ref A_t), (1, .int p0)] := hl
  unfold T_X4_isBreakers at hF
  refine lv_aload_n hx hb dX4_isBreakers_0 rfl (lv_at hl 0 rfl) ?_
  refine lv_iload_n hx hb dX4_isBreakers_1 rfl (lv_at hl 1 rfl) ?_
  cases hT_1 : T_X4_requireVariable N p0 t_state_variables with
  | some e_1 =>
    rw [hT_1] at hF
    cases hF
    refine kxV (q := (RX4, TX4, 4)) (ci := 4) (q0 := 0) (As := [.int p0]) (rest := []) (wr := []) (wsN := (wt_X4_isBreakers cy A_t A_t_state A_t_saved A_t_beaten A_t_text A_t_state_positive A_t_state_negative t_state_variables t_state_breakers t_state_clauses t_state_learned t_state_rounds)) ⟨hx, hb, hml, hown, hts⟩ hE hX hP hD hS hA hAs [0, 1] [] [0, 1] (x_X4_requireVariable l D cy s0 tW N A_t A_t_state A_t_saved A_t_beaten A_t_text A_t_state_positive A_t_state_negative p0 t_state_variables t_state_breakers t_state_clauses t_state_learned t_state_rounds _ hl9 hT_1) (gV q_636 q_638 q_42 q_83 q_639) hd_X4_requireVariable ⟨Nat.le_of_ble_eq_true rfl, Nat.le_of_ble_eq_true rfl⟩ rfl rfl rfl rfl rfl rfl rfl rfl rfl hl.1 rfl (Nat.le_of_ble_eq_true rfl) dX4_isBreakers_2 ⟨Nat.le_of_ble_eq_true rfl, Nat.le_of_ble_eq_true rfl⟩ (fun q9 ce H locs hP hD hS hce hcv hcl => ?_)
    exact kprop hno hlocks hP hD hS hce hcv hcl
  | none =>
    rw [hT_1] at hF
    cases hF

abbrev wt_X4_clause (cy : Nat → ClassId) (A_t : Nat) (A_t_state : Nat) (A_t_saved : Nat) (A_t_beaten : Nat) (A_t_text : Nat) (A_t_state_positive : Nat) (A_t_state_negative : Nat) (t_state_variables : Int32) (t_state_breakers : Int32) (t_state_clauses : Int32) (t_state_learned : Int32) (t_state_rounds : Int32) : va_W := [(A_t, .inr (4, [.ref A_t_state, .ref A_t_saved, .ref A_t_beaten, .ref A_t_text])), (A_t_state, .inr (3, [.int t_state_variables, .int t_state_breakers, .int t_state_clauses, .ref A_t_state_positive, .ref A_t_state_negative, .int t_state_learned, .int t_state_rounds]))]
def T_X4_clause (N : Nat) (p0 : Int32) (p1 : Int32) (t_state_clauses : Int32) : Option Nat :=
  xb (T_X4_requireClause N p0 t_state_clauses) (ob0 (F_X4_requireClause N p0 t_state_clauses) ((if p1 < (0 : Int32) then some 1 else (if p1 ≤ (2 : Int32) then none else some 1))))
set_option maxHeartbeats 4000000 in
set_option maxRecDepth 100000 in
theorem x_X4_clause (l : Launch) (D : va_G) (cy : Nat → ClassId) (s0 tW N : Nat) (A_t : Nat) (A_t_state : Nat) (A_t_saved : Nat) (A_t_beaten : Nat) (A_t_text : Nat) (A_t_state_positive : Nat) (A_t_state_negative : Nat) (p0 : Int32) (p1 : Int32) (t_state_variables : Int32) (t_state_breakers : Int32) (t_state_clauses : Int32) (t_state_learned : Int32) (t_state_rounds : Int32) (sz : Nat) {e9 : Nat} (hl9 : l.stackTraces = false) (hF : T_X4_clause N p0 p1 t_state_clauses = some e9) : KX l D cy s0 tW yX4_clause cX4_clause 5 (some .int) 7 111 [.ref A_t, .int p0, .int p1] sz (wt_X4_clause cy A_t A_t_state A_t_saved A_t_beaten A_t_text A_t_state_positive A_t_state_negative t_state_variables t_state_breakers t_state_clauses t_state_learned t_state_rounds) (exN e9) := by
  refine KX.intro rfl (Nat.le_of_ble_eq_true rfl) ?_
  intro p e s m args below meth c A ls hx hb hr hml hown hts hlocks hE hP hD hS hA hAs hl hX hno
  have hK := hE.1
  have hl : lv_has ls 5 [(0, .ref A_t), (1, .int p0), (2, .int p1)] := hl
  unfold T_X4_clause at hF
  refine lv_aload_n hx hb dX4_clause_0 rfl (lv_at hl 0 rfl) ?_
  refine lv_iload_n hx hb dX4_clause_1 rfl (lv_at hl 1 rfl) ?_
  cases hT_1 : T_X4_requireClause N p0 t_state_clauses with
  | some e_1 =>
    rw [hT_1] at hF
    cases hF
    refine kxV (q := (RX4, TX4, 4)) (ci := 4) (q0 := 0) (As := [.int p0]) (rest := []) (wr := []) (wsN := (wt_X4_clause cy A_t A_t_state A_t_saved A_t_beaten A_t_text A_t_state_positive A_t_state_negative t_state_variables t_state_breakers t_state_clauses t_state_learned t_state_rounds)) ⟨hx, hb, hml, hown, hts⟩ hE hX hP hD hS hA hAs [0, 1] [] [0, 1] (x_X4_requireClause l D cy s0 tW N A_t A_t_state A_t_saved A_t_beaten A_t_text A_t_state_positive A_t_state_negative p0 t_state_variables t_state_breakers t_state_clauses t_state_learned t_state_rounds _ hl9 hT_1) (gV q_547 q_549 q_39 q_83 q_550) hd_X4_requireClause ⟨Nat.le_of_ble_eq_true rfl, Nat.le_of_ble_eq_true rfl⟩ rfl rfl rfl rfl rfl rfl rfl rfl rfl hl.1 rfl (Nat.le_of_ble_eq_true rfl) dX4_clause_2 ⟨Nat.le_of_ble_eq_true rfl, Nat.le_of_ble_eq_true rfl⟩ (fun q9 ce H locs hP hD hS hce hcv hcl => ?_)
    exact kprop hno hlocks hP hD hS hce hcv hcl
  | none =>
    rw [hT_1] at hF
    replace hF := xb_none hF
    obtain ⟨hF_2, hF⟩ := ob0_some hF
    refine kcV (q := (RX4, TX4, 4)) (ci := 4) (q0 := 0) (As := [.int p0]) (rest := []) (wr := []) (wsN := (wt_X4_clause cy A_t A_t_state A_t_saved A_t_beaten A_t_text A_t_state_positive A_t_state_negative t_state_variables t_state_breakers t_state_clauses t_state_learned t_state_rounds)) ⟨hx, hb, hml, hown, hts⟩ hE hP hD hS hA hAs [0, 1] [] [0, 1] (c_X4_requireClause l D cy s0 tW N A_t A_t_state A_t_saved A_t_beaten A_t_text A_t_state_positive A_t_state_negative p0 t_state_variables t_state_breakers t_state_clauses t_state_learned t_state_rounds _ hF_2) (gV q_547 q_549 q_39 q_83 q_550) hd_X4_requireClause ⟨Nat.le_of_ble_eq_true rfl, Nat.le_of_ble_eq_true rfl⟩ rfl rfl rfl rfl rfl rfl rfl rfl rfl hl.1 rfl (Nat.le_of_ble_eq_true rfl) dX4_clause_2 ⟨Nat.zero_le _, Nat.zero_le _⟩ (fun H locs hP hD hS => ?_)
    refine W.eq (g2 := F0 m 5 ls []) rfl ?_
    refine lv_iload_n hx hb dX4_clause_5 rfl (lv_at hl 2 rfl) ?_
    refine lv_if_lt (tgt := 14) hx hb dX4_clause_6 (by decide) (fun c_3 => ?_) (fun c_3 => ?_)
    · replace hF := ite_t c_3 hF
      cases hF
      exact kthrow (text := "what is out of range") (cls := exIAE) hl9 hx hb hown hts hX hno hlocks hP hD hS hAs hml hl.1 (by decide +kernel) q_475 q_94 (by decide +kernel) (hat_IAE hts hE.2.1) (by decide +kernel) dX4_clause_14 dX4_clause_17 dX4_clause_18 dX4_clause_20 dX4_clause_23 (by decide) (Nat.le_of_ble_eq_true rfl)
    · replace hF := ite_f c_3 hF
      refine lv_iload_n hx hb dX4_clause_9 rfl (lv_at hl 2 rfl) ?_
      refine lv_iconst (v := 2) hx hb dX4_clause_10 (by decide) ?_
      refine lv_icmp_le (tgt := 24) hx hb dX4_clause_11 (by decide) (fun c_4 => ?_) (fun c_4 => ?_)
      · replace hF := ite_t c_4 hF
        cases hF
      · replace hF := ite_f c_4 hF
        cases hF
        exact kthrow (text := "what is out of range") (cls := exIAE) hl9 hx hb hown hts hX hno hlocks hP hD hS hAs hml hl.1 (by decide +kernel) q_475 q_94 (by decide +kernel) (hat_IAE hts hE.2.1) (by decide +kernel) dX4_clause_14 dX4_clause_17 dX4_clause_18 dX4_clause_20 dX4_clause_23 (by decide) (Nat.le_of_ble_eq_true rfl)

abbrev wt_X4_isTrue (cy : Nat → ClassId) (A_t : Nat) (A_t_state : Nat) (A_t_saved : Nat) (A_t_beaten : Nat) (A_t_text : Nat) (A_t_state_positive : Nat) (A_t_state_negative : Nat) (t_state_variables : Int32) (t_state_breakers : Int32) (t_state_clauses : Int32) (t_state_learned : Int32) (t_state_rounds : Int32) : va_W := [(A_t, .inr (4, [.ref A_t_state, .ref A_t_saved, .ref A_t_beaten, .ref A_t_text])), (A_t_state, .inr (3, [.int t_state_variables, .int t_state_breakers, .int t_state_clauses, .ref A_t_state_positive, .ref A_t_state_negative, .int t_state_learned, .int t_state_rounds]))]
def T_X4_isTrue (N : Nat) (p0 : Int32) (t_state_variables : Int32) : Option Nat :=
  ob1 (F_X3_hasVariables N p0 t_state_variables) (fun r_1 => (if r_1 = true then none else some 1))
set_option maxHeartbeats 4000000 in
set_option maxRecDepth 100000 in
theorem x_X4_isTrue (l : Launch) (D : va_G) (cy : Nat → ClassId) (s0 tW N : Nat) (A_t : Nat) (A_t_state : Nat) (A_t_saved : Nat) (A_t_beaten : Nat) (A_t_text : Nat) (A_t_state_positive : Nat) (A_t_state_negative : Nat) (p0 : Int32) (t_state_variables : Int32) (t_state_breakers : Int32) (t_state_clauses : Int32) (t_state_learned : Int32) (t_state_rounds : Int32) (sz : Nat) {e9 : Nat} (hl9 : l.stackTraces = false) (hF : T_X4_isTrue N p0 t_state_variables = some e9) : KX l D cy s0 tW yX4_isTrue cX4_isTrue 2 (some .boolean) 6 90 [.ref A_t, .int p0] sz (wt_X4_isTrue cy A_t A_t_state A_t_saved A_t_beaten A_t_text A_t_state_positive A_t_state_negative t_state_variables t_state_breakers t_state_clauses t_state_learned t_state_rounds) (exN e9) := by
  refine KX.intro rfl (Nat.le_of_ble_eq_true rfl) ?_
  intro p e s m args below meth c A ls hx hb hr hml hown hts hlocks hE hP hD hS hA hAs hl hX hno
  have hK := hE.1
  have hl : lv_has ls 2 [(0, .ref A_t), (1, .int p0)] := hl
  unfold T_X4_isTrue at hF
  refine lv_aload_n hx hb dX4_isTrue_0 rfl (lv_at hl 0 rfl) ?_
  refine va_get (D := D) (ci := 4) (v := .ref A_t_state) (C := RX4) (T := TX4) (N := 4) hx hb hts inX4 hown hK hP 0 rfl rfl 0 (by decide) (hts _ q_212) (fun _ h9 => h9) rfl dX4_isTrue_1 ?_
  refine lv_iload_n hx hb dX4_isTrue_4 rfl (lv_at hl 1 rfl) ?_
  obtain ⟨r_1, hF_2, hF⟩ := ob1_some hF
  refine kcVN (q := (RX3, TX3, 7)) (ci := 3) (q0 := 1) (As := [.int p0]) (rest := []) (wr := [(A_t, .inr (4, [.ref A_t_state, .ref A_t_saved, .ref A_t_beaten, .ref A_t_text]))]) (wsN := (wt_X4_isTrue cy A_t A_t_state A_t_saved A_t_beaten A_t_text A_t_state_positive A_t_state_negative t_state_variables t_state_breakers t_state_clauses t_state_learned t_state_rounds)) ⟨hx, hb, hml, hown, hts⟩ hE hP hD hS hA hAs [1] [0] [0, 1] (c_X3_hasVariables l D cy s0 tW N A_t_state A_t_state_positive A_t_state_negative p0 t_state_variables t_state_breakers t_state_clauses t_state_learned t_state_rounds _ hF_2) q_448 q_84 q_447 q_33 (nq_445 hE.2.1) hd_X3_hasVariables.2 ⟨Nat.le_of_ble_eq_true rfl, Nat.le_of_ble_eq_true rfl⟩ rfl rfl rfl rfl rfl rfl rfl rfl rfl hl.1 rfl (Nat.le_of_ble_eq_true rfl) dX4_isTrue_5 ⟨Nat.zero_le _, Nat.zero_le _⟩ (fun H locs hP hD hS => ?_)
  refine W.eq (g2 := F0 m 8 ls [.int (bI r_1)]) rfl ?_
  refine lv_if_ne (tgt := 21) hx hb dX4_isTrue_8 (by decide) (fun c_3 => ?_) (fun c_3 => ?_)
  · replace hF := ite_t (bI_t c_3) hF
    cases hF
  · replace hF := ite_f (bI_f c_3) hF
    cases hF
    exact kthrow (text := "no such values") (cls := exIAE) hl9 hx hb hown hts hX hno hlocks hP hD hS hAs hml hl.1 (by decide +kernel) q_475 q_94 (by decide +kernel) (hat_IAE hts hE.2.1) (by decide +kernel) dX4_isTrue_11 dX4_isTrue_14 dX4_isTrue_15 dX4_isTrue_17 dX4_isTrue_20 (by decide) (Nat.le_of_ble_eq_true rfl)

def T_X4_value (N : Nat) (p0 : Int32) : Option Nat :=
  (if p0 < (0 : Int32) then some 1 else (if p0 ≤ (6 : Int32) then none else some 1))
set_option maxHeartbeats 4000000 in
set_option maxRecDepth 100000 in
theorem x_X4_value (l : Launch) (D : va_G) (cy : Nat → ClassId) (s0 tW N : Nat) (A_t : Nat) (p0 : Int32) (sz : Nat) {e9 : Nat} (hl9 : l.stackTraces = false) (hF : T_X4_value N p0 = some e9) : KX l D cy s0 tW yX4_value cX4_value 2 (some .int) 6 90 [.ref A_t, .int p0] sz [] (exN e9) := by
  refine KX.intro rfl (Nat.le_of_ble_eq_true rfl) ?_
  intro p e s m args below meth c A ls hx hb hr hml hown hts hlocks hE hP hD hS hA hAs hl hX hno
  have hK := hE.1
  have hl : lv_has ls 2 [(0, .ref A_t), (1, .int p0)] := hl
  unfold T_X4_value at hF
  refine lv_iload_n hx hb dX4_value_0 rfl (lv_at hl 1 rfl) ?_
  refine lv_if_lt (tgt := 10) hx hb dX4_value_1 (by decide) (fun c_1 => ?_) (fun c_1 => ?_)
  · replace hF := ite_t c_1 hF
    cases hF
    exact kthrow (text := "what is out of range") (cls := exIAE) hl9 hx hb hown hts hX hno hlocks hP hD hS hAs hml hl.1 (by decide +kernel) q_475 q_94 (by decide +kernel) (hat_IAE hts hE.2.1) (by decide +kernel) dX4_value_10 dX4_value_13 dX4_value_14 dX4_value_16 dX4_value_19 (by decide) (Nat.le_of_ble_eq_true rfl)
  · replace hF := ite_f c_1 hF
    refine lv_iload_n hx hb dX4_value_4 rfl (lv_at hl 1 rfl) ?_
    refine lv_bipush (v := 6) hx hb dX4_value_5 (by decide) ?_
    refine lv_icmp_le (tgt := 20) hx hb dX4_value_7 (by decide) (fun c_2 => ?_) (fun c_2 => ?_)
    · replace hF := ite_t c_2 hF
      cases hF
    · replace hF := ite_f c_2 hF
      cases hF
      exact kthrow (text := "what is out of range") (cls := exIAE) hl9 hx hb hown hts hX hno hlocks hP hD hS hAs hml hl.1 (by decide +kernel) q_475 q_94 (by decide +kernel) (hat_IAE hts hE.2.1) (by decide +kernel) dX4_value_10 dX4_value_13 dX4_value_14 dX4_value_16 dX4_value_19 (by decide) (Nat.le_of_ble_eq_true rfl)

abbrev wt_X4_winnerAt (cy : Nat → ClassId) (A_t : Nat) (A_t_state : Nat) (A_t_saved : Nat) (A_t_beaten : Nat) (A_t_text : Nat) (A_t_state_positive : Nat) (A_t_state_negative : Nat) (t_state_variables : Int32) (t_state_breakers : Int32) (t_state_clauses : Int32) (t_state_learned : Int32) (t_state_rounds : Int32) : va_W := [(A_t, .inr (4, [.ref A_t_state, .ref A_t_saved, .ref A_t_beaten, .ref A_t_text])), (A_t_state, .inr (3, [.int t_state_variables, .int t_state_breakers, .int t_state_clauses, .ref A_t_state_positive, .ref A_t_state_negative, .int t_state_learned, .int t_state_rounds]))]
def T_X4_winnerAt (N : Nat) (p0 : Int32) (p1 : Int32) (t_state_variables : Int32) : Option Nat :=
  xb (T_X4_requireVariable N p0 t_state_variables) (ob0 (F_X4_requireVariable N p0 t_state_variables) (xb (T_X4_requireHistory N p0 p1) none))
set_option maxHeartbeats 4000000 in
set_option maxRecDepth 100000 in
theorem x_X4_winnerAt (l : Launch) (D : va_G) (cy : Nat → ClassId) (s0 tW N : Nat) (A_t : Nat) (A_t_state : Nat) (A_t_saved : Nat) (A_t_beaten : Nat) (A_t_text : Nat) (A_t_state_positive : Nat) (A_t_state_negative : Nat) (p0 : Int32) (p1 : Int32) (t_state_variables : Int32) (t_state_breakers : Int32) (t_state_clauses : Int32) (t_state_learned : Int32) (t_state_rounds : Int32) (sz : Nat) {e9 : Nat} (hl9 : l.stackTraces = false) (hF : T_X4_winnerAt N p0 p1 t_state_variables = some e9) : KX l D cy s0 tW yX4_winnerAt cX4_winnerAt 3 (some .int) 7 112 [.ref A_t, .int p0, .int p1] sz (wt_X4_winnerAt cy A_t A_t_state A_t_saved A_t_beaten A_t_text A_t_state_positive A_t_state_negative t_state_variables t_state_breakers t_state_clauses t_state_learned t_state_rounds) (exN e9) := by
  refine KX.intro rfl (Nat.le_of_ble_eq_true rfl) ?_
  intro p e s m args below meth c A ls hx hb hr hml hown hts hlocks hE hP hD hS hA hAs hl hX hno
  have hK := hE.1
  have hl : lv_has ls 3 [(0, .ref A_t), (1, .int p0), (2, .int p1)] := hl
  unfold T_X4_winnerAt at hF
  refine lv_aload_n hx hb dX4_winnerAt_0 rfl (lv_at hl 0 rfl) ?_
  refine lv_iload_n hx hb dX4_winnerAt_1 rfl (lv_at hl 1 rfl) ?_
  cases hT_1 : T_X4_requireVariable N p0 t_state_variables with
  | some e_1 =>
    rw [hT_1] at hF
    cases hF
    refine kxV (q := (RX4, TX4, 4)) (ci := 4) (q0 := 0) (As := [.int p0]) (rest := []) (wr := []) (wsN := (wt_X4_winnerAt cy A_t A_t_state A_t_saved A_t_beaten A_t_text A_t_state_positive A_t_state_negative t_state_variables t_state_breakers t_state_clauses t_state_learned t_state_rounds)) ⟨hx, hb, hml, hown, hts⟩ hE hX hP hD hS hA hAs [0, 1] [] [0, 1] (x_X4_requireVariable l D cy s0 tW N A_t A_t_state A_t_saved A_t_beaten A_t_text A_t_state_positive A_t_state_negative p0 t_state_variables t_state_breakers t_state_clauses t_state_learned t_state_rounds _ hl9 hT_1) (gV q_636 q_638 q_42 q_83 q_639) hd_X4_requireVariable ⟨Nat.le_of_ble_eq_true rfl, Nat.le_of_ble_eq_true rfl⟩ rfl rfl rfl rfl rfl rfl rfl rfl rfl hl.1 rfl (Nat.le_of_ble_eq_true rfl) dX4_winnerAt_2 ⟨Nat.le_of_ble_eq_true rfl, Nat.le_of_ble_eq_true rfl⟩ (fun q9 ce H locs hP hD hS hce hcv hcl => ?_)
    exact kprop hno hlocks hP hD hS hce hcv hcl
  | none =>
    rw [hT_1] at hF
    replace hF := xb_none hF
    obtain ⟨hF_2, hF⟩ := ob0_some hF
    refine kcV (q := (RX4, TX4, 4)) (ci := 4) (q0 := 0) (As := [.int p0]) (rest := []) (wr := []) (wsN := (wt_X4_winnerAt cy A_t A_t_state A_t_saved A_t_beaten A_t_text A_t_state_positive A_t_state_negative t_state_variables t_state_breakers t_state_clauses t_state_learned t_state_rounds)) ⟨hx, hb, hml, hown, hts⟩ hE hP hD hS hA hAs [0, 1] [] [0, 1] (c_X4_requireVariable l D cy s0 tW N A_t A_t_state A_t_saved A_t_beaten A_t_text A_t_state_positive A_t_state_negative p0 t_state_variables t_state_breakers t_state_clauses t_state_learned t_state_rounds _ hF_2) (gV q_636 q_638 q_42 q_83 q_639) hd_X4_requireVariable ⟨Nat.le_of_ble_eq_true rfl, Nat.le_of_ble_eq_true rfl⟩ rfl rfl rfl rfl rfl rfl rfl rfl rfl hl.1 rfl (Nat.le_of_ble_eq_true rfl) dX4_winnerAt_2 ⟨Nat.zero_le _, Nat.zero_le _⟩ (fun H locs hP hD hS => ?_)
    refine W.eq (g2 := F0 m 5 ls []) rfl ?_
    refine lv_aload_n hx hb dX4_winnerAt_5 rfl (lv_at hl 0 rfl) ?_
    refine lv_iload_n hx hb dX4_winnerAt_6 rfl (lv_at hl 1 rfl) ?_
    refine lv_iload_n hx hb dX4_winnerAt_7 rfl (lv_at hl 2 rfl) ?_
    cases hT_3 : T_X4_requireHistory N p0 p1 with
    | some e_3 =>
      rw [hT_3] at hF
      cases hF
      refine kxV (q := (RX4, TX4, 4)) (ci := 4) (q0 := 0) (As := [.int p0, .int p1]) (rest := []) (wr := [(A_t, .inr (4, [.ref A_t_state, .ref A_t_saved, .ref A_t_beaten, .ref A_t_text])), (A_t_state, .inr (3, [.int t_state_variables, .int t_state_breakers, .int t_state_clauses, .ref A_t_state_positive, .ref A_t_state_negative, .int t_state_learned, .int t_state_rounds]))]) (wsN := (wt_X4_winnerAt cy A_t A_t_state A_t_saved A_t_beaten A_t_text A_t_state_positive A_t_state_negative t_state_variables t_state_breakers t_state_clauses t_state_learned t_state_rounds)) ⟨hx, hb, hml, hown, hts⟩ hE hX hP hD hS hA hAs [] [0, 1] [0, 1] (x_X4_requireHistory l D cy s0 tW N A_t p0 p1 _ hl9 hT_3) (gV q_664 q_666 q_43 q_83 q_667) hd_X4_requireHistory ⟨Nat.le_of_ble_eq_true rfl, Nat.le_of_ble_eq_true rfl⟩ rfl rfl rfl rfl rfl rfl rfl rfl rfl hl.1 rfl (Nat.le_of_ble_eq_true rfl) dX4_winnerAt_8 ⟨Nat.le_of_ble_eq_true rfl, Nat.le_of_ble_eq_true rfl⟩ (fun q9 ce H locs hP hD hS hce hcv hcl => ?_)
      exact kprop hno hlocks hP hD hS hce hcv hcl
    | none =>
      rw [hT_3] at hF
      cases hF

abbrev wt_X4_move (cy : Nat → ClassId) (A_t : Nat) (A_t_state : Nat) (A_t_saved : Nat) (A_t_beaten : Nat) (A_t_text : Nat) (A_t_state_positive : Nat) (A_t_state_negative : Nat) (t_state_variables : Int32) (t_state_breakers : Int32) (t_state_clauses : Int32) (t_state_learned : Int32) (t_state_rounds : Int32) : va_W := [(A_t, .inr (4, [.ref A_t_state, .ref A_t_saved, .ref A_t_beaten, .ref A_t_text])), (A_t_state, .inr (3, [.int t_state_variables, .int t_state_breakers, .int t_state_clauses, .ref A_t_state_positive, .ref A_t_state_negative, .int t_state_learned, .int t_state_rounds]))]
def T_X4_move (N : Nat) (p0 : Int32) (p1 : Int32) (t_state_variables : Int32) : Option Nat :=
  xb (T_X4_requireVariable N p0 t_state_variables) (ob0 (F_X4_requireVariable N p0 t_state_variables) (xb (T_X4_requireHistory N p0 p1) none))
set_option maxHeartbeats 4000000 in
set_option maxRecDepth 100000 in
theorem x_X4_move (l : Launch) (D : va_G) (cy : Nat → ClassId) (s0 tW N : Nat) (A_t : Nat) (A_t_state : Nat) (A_t_saved : Nat) (A_t_beaten : Nat) (A_t_text : Nat) (A_t_state_positive : Nat) (A_t_state_negative : Nat) (p0 : Int32) (p1 : Int32) (t_state_variables : Int32) (t_state_breakers : Int32) (t_state_clauses : Int32) (t_state_learned : Int32) (t_state_rounds : Int32) (sz : Nat) {e9 : Nat} (hl9 : l.stackTraces = false) (hF : T_X4_move N p0 p1 t_state_variables = some e9) : KX l D cy s0 tW yX4_move cX4_move 4 (some .int) 7 112 [.ref A_t, .int p0, .int p1] sz (wt_X4_move cy A_t A_t_state A_t_saved A_t_beaten A_t_text A_t_state_positive A_t_state_negative t_state_variables t_state_breakers t_state_clauses t_state_learned t_state_rounds) (exN e9) := by
  refine KX.intro rfl (Nat.le_of_ble_eq_true rfl) ?_
  intro p e s m args below meth c A ls hx hb hr hml hown hts hlocks hE hP hD hS hA hAs hl hX hno
  have hK := hE.1
  have hl : lv_has ls 4 [(0, .ref A_t), (1, .int p0), (2, .int p1)] := hl
  unfold T_X4_move at hF
  refine lv_aload_n hx hb dX4_move_0 rfl (lv_at hl 0 rfl) ?_
  refine lv_iload_n hx hb dX4_move_1 rfl (lv_at hl 1 rfl) ?_
  cases hT_1 : T_X4_requireVariable N p0 t_state_variables with
  | some e_1 =>
    rw [hT_1] at hF
    cases hF
    refine kxV (q := (RX4, TX4, 4)) (ci := 4) (q0 := 0) (As := [.int p0]) (rest := []) (wr := []) (wsN := (wt_X4_move cy A_t A_t_state A_t_saved A_t_beaten A_t_text A_t_state_positive A_t_state_negative t_state_variables t_state_breakers t_state_clauses t_state_learned t_state_rounds)) ⟨hx, hb, hml, hown, hts⟩ hE hX hP hD hS hA hAs [0, 1] [] [0, 1] (x_X4_requireVariable l D cy s0 tW N A_t A_t_state A_t_saved A_t_beaten A_t_text A_t_state_positive A_t_state_negative p0 t_state_variables t_state_breakers t_state_clauses t_state_learned t_state_rounds _ hl9 hT_1) (gV q_636 q_638 q_42 q_83 q_639) hd_X4_requireVariable ⟨Nat.le_of_ble_eq_true rfl, Nat.le_of_ble_eq_true rfl⟩ rfl rfl rfl rfl rfl rfl rfl rfl rfl hl.1 rfl (Nat.le_of_ble_eq_true rfl) dX4_move_2 ⟨Nat.le_of_ble_eq_true rfl, Nat.le_of_ble_eq_true rfl⟩ (fun q9 ce H locs hP hD hS hce hcv hcl => ?_)
    exact kprop hno hlocks hP hD hS hce hcv hcl
  | none =>
    rw [hT_1] at hF
    replace hF := xb_none hF
    obtain ⟨hF_2, hF⟩ := ob0_some hF
    refine kcV (q := (RX4, TX4, 4)) (ci := 4) (q0 := 0) (As := [.int p0]) (rest := []) (wr := []) (wsN := (wt_X4_move cy A_t A_t_state A_t_saved A_t_beaten A_t_text A_t_state_positive A_t_state_negative t_state_variables t_state_breakers t_state_clauses t_state_learned t_state_rounds)) ⟨hx, hb, hml, hown, hts⟩ hE hP hD hS hA hAs [0, 1] [] [0, 1] (c_X4_requireVariable l D cy s0 tW N A_t A_t_state A_t_saved A_t_beaten A_t_text A_t_state_positive A_t_state_negative p0 t_state_variables t_state_breakers t_state_clauses t_state_learned t_state_rounds _ hF_2) (gV q_636 q_638 q_42 q_83 q_639) hd_X4_requireVariable ⟨Nat.le_of_ble_eq_true rfl, Nat.le_of_ble_eq_true rfl⟩ rfl rfl rfl rfl rfl rfl rfl rfl rfl hl.1 rfl (Nat.le_of_ble_eq_true rfl) dX4_move_2 ⟨Nat.zero_le _, Nat.zero_le _⟩ (fun H locs hP hD hS => ?_)
    refine W.eq (g2 := F0 m 5 ls []) rfl ?_
    refine lv_aload_n hx hb dX4_move_5 rfl (lv_at hl 0 rfl) ?_
    refine lv_iload_n hx hb dX4_move_6 rfl (lv_at hl 1 rfl) ?_
    refine lv_iload_n hx hb dX4_move_7 rfl (lv_at hl 2 rfl) ?_
    cases hT_3 : T_X4_requireHistory N p0 p1 with
    | some e_3 =>
      rw [hT_3] at hF
      cases hF
      refine kxV (q := (RX4, TX4, 4)) (ci := 4) (q0 := 0) (As := [.int p0, .int p1]) (rest := []) (wr := [(A_t, .inr (4, [.ref A_t_state, .ref A_t_saved, .ref A_t_beaten, .ref A_t_text])), (A_t_state, .inr (3, [.int t_state_variables, .int t_state_breakers, .int t_state_clauses, .ref A_t_state_positive, .ref A_t_state_negative, .int t_state_learned, .int t_state_rounds]))]) (wsN := (wt_X4_move cy A_t A_t_state A_t_saved A_t_beaten A_t_text A_t_state_positive A_t_state_negative t_state_variables t_state_breakers t_state_clauses t_state_learned t_state_rounds)) ⟨hx, hb, hml, hown, hts⟩ hE hX hP hD hS hA hAs [] [0, 1] [0, 1] (x_X4_requireHistory l D cy s0 tW N A_t p0 p1 _ hl9 hT_3) (gV q_664 q_666 q_43 q_83 q_667) hd_X4_requireHistory ⟨Nat.le_of_ble_eq_true rfl, Nat.le_of_ble_eq_true rfl⟩ rfl rfl rfl rfl rfl rfl rfl rfl rfl hl.1 rfl (Nat.le_of_ble_eq_true rfl) dX4_move_8 ⟨Nat.le_of_ble_eq_true rfl, Nat.le_of_ble_eq_true rfl⟩ (fun q9 ce H locs hP hD hS hce hcv hcl => ?_)
      exact kprop hno hlocks hP hD hS hce hcv hcl
    | none =>
      rw [hT_3] at hF
      cases hF

abbrev wt_X4_ways (cy : Nat → ClassId) (A_t : Nat) (A_t_state : Nat) (A_t_saved : Nat) (A_t_beaten : Nat) (A_t_text : Nat) (A_t_state_positive : Nat) (A_t_state_negative : Nat) (t_state_variables : Int32) (t_state_breakers : Int32) (t_state_clauses : Int32) (t_state_learned : Int32) (t_state_rounds : Int32) : va_W := [(A_t, .inr (4, [.ref A_t_state, .ref A_t_saved, .ref A_t_beaten, .ref A_t_text])), (A_t_state, .inr (3, [.int t_state_variables, .int t_state_breakers, .int t_state_clauses, .ref A_t_state_positive, .ref A_t_state_negative, .int t_state_learned, .int t_state_rounds]))]
def T_X4_ways (N : Nat) (p0 : Int32) (t_state_breakers : Int32) : Option Nat :=
  xb (T_X4_requirePlay N p0 t_state_breakers) none
set_option maxHeartbeats 4000000 in
set_option maxRecDepth 100000 in
theorem x_X4_ways (l : Launch) (D : va_G) (cy : Nat → ClassId) (s0 tW N : Nat) (A_t : Nat) (A_t_state : Nat) (A_t_saved : Nat) (A_t_beaten : Nat) (A_t_text : Nat) (A_t_state_positive : Nat) (A_t_state_negative : Nat) (p0 : Int32) (t_state_variables : Int32) (t_state_breakers : Int32) (t_state_clauses : Int32) (t_state_learned : Int32) (t_state_rounds : Int32) (sz : Nat) {e9 : Nat} (hl9 : l.stackTraces = false) (hF : T_X4_ways N p0 t_state_breakers = some e9) : KX l D cy s0 tW yX4_ways cX4_ways 5 (some .int) 7 111 [.ref A_t, .int p0] sz (wt_X4_ways cy A_t A_t_state A_t_saved A_t_beaten A_t_text A_t_state_positive A_t_state_negative t_state_variables t_state_breakers t_state_clauses t_state_learned t_state_rounds) (exN e9) := by
  refine KX.intro rfl (Nat.le_of_ble_eq_true rfl) ?_
  intro p e s m args below meth c A ls hx hb hr hml hown hts hlocks hE hP hD hS hA hAs hl hX hno
  have hK := hE.1
  have hl : lv_has ls 5 [(0, .ref A_t), (1, .int p0)] := hl
  unfold T_X4_ways at hF
  refine lv_aload_n hx hb dX4_ways_0 rfl (lv_at hl 0 rfl) ?_
  refine lv_iload_n hx hb dX4_ways_1 rfl (lv_at hl 1 rfl) ?_
  cases hT_1 : T_X4_requirePlay N p0 t_state_breakers with
  | some e_1 =>
    rw [hT_1] at hF
    cases hF
    refine kxV (q := (RX4, TX4, 4)) (ci := 4) (q0 := 0) (As := [.int p0]) (rest := []) (wr := []) (wsN := (wt_X4_ways cy A_t A_t_state A_t_saved A_t_beaten A_t_text A_t_state_positive A_t_state_negative t_state_variables t_state_breakers t_state_clauses t_state_learned t_state_rounds)) ⟨hx, hb, hml, hown, hts⟩ hE hX hP hD hS hA hAs [0, 1] [] [0, 1] (x_X4_requirePlay l D cy s0 tW N A_t A_t_state A_t_saved A_t_beaten A_t_text A_t_state_positive A_t_state_negative p0 t_state_variables t_state_breakers t_state_clauses t_state_learned t_state_rounds _ hl9 hT_1) (gV q_623 q_625 q_41 q_83 q_626) hd_X4_requirePlay ⟨Nat.le_of_ble_eq_true rfl, Nat.le_of_ble_eq_true rfl⟩ rfl rfl rfl rfl rfl rfl rfl rfl rfl hl.1 rfl (Nat.le_of_ble_eq_true rfl) dX4_ways_2 ⟨Nat.le_of_ble_eq_true rfl, Nat.le_of_ble_eq_true rfl⟩ (fun q9 ce H locs hP hD hS hce hcv hcl => ?_)
    exact kprop hno hlocks hP hD hS hce hcv hcl
  | none =>
    rw [hT_1] at hF
    cases hF

abbrev wt_X4_beats (cy : Nat → ClassId) (A_t : Nat) (A_t_state : Nat) (A_t_saved : Nat) (A_t_beaten : Nat) (A_t_text : Nat) (A_t_state_positive : Nat) (A_t_state_negative : Nat) (t_state_variables : Int32) (t_state_breakers : Int32) (t_state_clauses : Int32) (t_state_learned : Int32) (t_state_rounds : Int32) : va_W := [(A_t, .inr (4, [.ref A_t_state, .ref A_t_saved, .ref A_t_beaten, .ref A_t_text])), (A_t_state, .inr (3, [.int t_state_variables, .int t_state_breakers, .int t_state_clauses, .ref A_t_state_positive, .ref A_t_state_negative, .int t_state_learned, .int t_state_rounds]))]
def T_X4_beats (N : Nat) (p0 : Int32) (t_state_breakers : Int32) : Option Nat :=
  (if p0 < (0 : Int32) then some 1 else ob1 (F_X3_allPlays N t_state_breakers) (fun r_2 => (if p0 ≤ r_2 then none else some 1)))
set_option maxHeartbeats 4000000 in
set_option maxRecDepth 100000 in
theorem x_X4_beats (l : Launch) (D : va_G) (cy : Nat → ClassId) (s0 tW N : Nat) (A_t : Nat) (A_t_state : Nat) (A_t_saved : Nat) (A_t_beaten : Nat) (A_t_text : Nat) (A_t_state_positive : Nat) (A_t_state_negative : Nat) (p0 : Int32) (t_state_variables : Int32) (t_state_breakers : Int32) (t_state_clauses : Int32) (t_state_learned : Int32) (t_state_rounds : Int32) (sz : Nat) {e9 : Nat} (hl9 : l.stackTraces = false) (hF : T_X4_beats N p0 t_state_breakers = some e9) : KX l D cy s0 tW yX4_beats cX4_beats 2 (some .boolean) 6 90 [.ref A_t, .int p0] sz (wt_X4_beats cy A_t A_t_state A_t_saved A_t_beaten A_t_text A_t_state_positive A_t_state_negative t_state_variables t_state_breakers t_state_clauses t_state_learned t_state_rounds) (exN e9) := by
  refine KX.intro rfl (Nat.le_of_ble_eq_true rfl) ?_
  intro p e s m args below meth c A ls hx hb hr hml hown hts hlocks hE hP hD hS hA hAs hl hX hno
  have hK := hE.1
  have hl : lv_has ls 2 [(0, .ref A_t), (1, .int p0)] := hl
  unfold T_X4_beats at hF
  refine lv_iload_n hx hb dX4_beats_0 rfl (lv_at hl 1 rfl) ?_
  refine lv_if_lt (tgt := 15) hx hb dX4_beats_1 (by decide) (fun c_1 => ?_) (fun c_1 => ?_)
  · replace hF := ite_t c_1 hF
    cases hF
    exact kthrow (text := "no such set of plays") (cls := exIAE) hl9 hx hb hown hts hX hno hlocks hP hD hS hAs hml hl.1 (by decide +kernel) q_475 q_94 (by decide +kernel) (hat_IAE hts hE.2.1) (by decide +kernel) dX4_beats_15 dX4_beats_18 dX4_beats_19 dX4_beats_21 dX4_beats_24 (by decide) (Nat.le_of_ble_eq_true rfl)
  · replace hF := ite_f c_1 hF
    refine lv_iload_n hx hb dX4_beats_4 rfl (lv_at hl 1 rfl) ?_
    refine lv_aload_n hx hb dX4_beats_5 rfl (lv_at hl 0 rfl) ?_
    refine va_get (D := D) (ci := 4) (v := .ref A_t_state) (C := RX4) (T := TX4) (N := 4) hx hb hts inX4 hown hK hP 0 rfl rfl 0 (by decide) (hts _ q_212) (fun _ h9 => h9) rfl dX4_beats_6 ?_
    obtain ⟨r_2, hF_3, hF⟩ := ob1_some hF
    refine kcVN (q := (RX3, TX3, 7)) (ci := 3) (q0 := 1) (As := []) (rest := [.int p0]) (wr := [(A_t, .inr (4, [.ref A_t_state, .ref A_t_saved, .ref A_t_beaten, .ref A_t_text]))]) (wsN := (wt_X4_beats cy A_t A_t_state A_t_saved A_t_beaten A_t_text A_t_state_positive A_t_state_negative t_state_variables t_state_breakers t_state_clauses t_state_learned t_state_rounds)) ⟨hx, hb, hml, hown, hts⟩ hE hP hD hS hA hAs [1] [0] [0, 1] (c_X3_allPlays l D cy s0 tW N A_t_state A_t_state_positive A_t_state_negative t_state_variables t_state_breakers t_state_clauses t_state_learned t_state_rounds _ hF_3) q_344 q_84 q_343 q_15 (nq_341 hE.2.1) hd_X3_allPlays.2 ⟨Nat.le_of_ble_eq_true rfl, Nat.le_of_ble_eq_true rfl⟩ rfl rfl rfl rfl rfl rfl rfl rfl rfl hl.1 rfl (Nat.le_of_ble_eq_true rfl) dX4_beats_9 ⟨Nat.zero_le _, Nat.zero_le _⟩ (fun H locs hP hD hS => ?_)
    refine W.eq (g2 := F0 m 12 ls [.int r_2, .int p0]) rfl ?_
    refine lv_icmp_le (tgt := 25) hx hb dX4_beats_12 (by decide) (fun c_4 => ?_) (fun c_4 => ?_)
    · replace hF := ite_t c_4 hF
      cases hF
    · replace hF := ite_f c_4 hF
      cases hF
      exact kthrow (text := "no such set of plays") (cls := exIAE) hl9 hx hb hown hts hX hno hlocks hP hD hS hAs hml hl.1 (by decide +kernel) q_475 q_94 (by decide +kernel) (hat_IAE hts hE.2.1) (by decide +kernel) dX4_beats_15 dX4_beats_18 dX4_beats_19 dX4_beats_21 dX4_beats_24 (by decide) (Nat.le_of_ble_eq_true rfl)

abbrev wt_X4_answer (cy : Nat → ClassId) (A_t : Nat) (A_t_state : Nat) (A_t_saved : Nat) (A_t_beaten : Nat) (A_t_text : Nat) (A_t_state_positive : Nat) (A_t_state_negative : Nat) (t_state_variables : Int32) (t_state_breakers : Int32) (t_state_clauses : Int32) (t_state_learned : Int32) (t_state_rounds : Int32) : va_W := [(A_t, .inr (4, [.ref A_t_state, .ref A_t_saved, .ref A_t_beaten, .ref A_t_text])), (A_t_state, .inr (3, [.int t_state_variables, .int t_state_breakers, .int t_state_clauses, .ref A_t_state_positive, .ref A_t_state_negative, .int t_state_learned, .int t_state_rounds]))]
def T_X4_answer (N : Nat) (p0 : Int32) (p1 : Int32) (t_state_variables : Int32) (t_state_breakers : Int32) : Option Nat :=
  xb (T_X4_requireVariable N p0 t_state_variables) (ob0 (F_X4_requireVariable N p0 t_state_variables) (ob1 (F_X3_ownerOf N p0 t_state_breakers) (fun r_3 => (if r_3 = (1 : Int32) then some 1 else xb (T_X4_requirePlay N p1 t_state_breakers) none))))
set_option maxHeartbeats 4000000 in
set_option maxRecDepth 100000 in
theorem x_X4_answer (l : Launch) (D : va_G) (cy : Nat → ClassId) (s0 tW N : Nat) (A_t : Nat) (A_t_state : Nat) (A_t_saved : Nat) (A_t_beaten : Nat) (A_t_text : Nat) (A_t_state_positive : Nat) (A_t_state_negative : Nat) (p0 : Int32) (p1 : Int32) (t_state_variables : Int32) (t_state_breakers : Int32) (t_state_clauses : Int32) (t_state_learned : Int32) (t_state_rounds : Int32) (sz : Nat) {e9 : Nat} (hl9 : l.stackTraces = false) (hF : T_X4_answer N p0 p1 t_state_variables t_state_breakers = some e9) : KX l D cy s0 tW yX4_answer cX4_answer 3 (some .int) 7 111 [.ref A_t, .int p0, .int p1] sz (wt_X4_answer cy A_t A_t_state A_t_saved A_t_beaten A_t_text A_t_state_positive A_t_state_negative t_state_variables t_state_breakers t_state_clauses t_state_learned t_state_rounds) (exN e9) := by
  refine KX.intro rfl (Nat.le_of_ble_eq_true rfl) ?_
  intro p e s m args below meth c A ls hx hb hr hml hown hts hlocks hE hP hD hS hA hAs hl hX hno
  have hK := hE.1
  have hl : lv_has ls 3 [(0, .ref A_t), (1, .int p0), (2, .int p1)] := hl
  unfold T_X4_answer at hF
  refine lv_aload_n hx hb dX4_answer_0 rfl (lv_at hl 0 rfl) ?_
  refine lv_iload_n hx hb dX4_answer_1 rfl (lv_at hl 1 rfl) ?_
  cases hT_1 : T_X4_requireVariable N p0 t_state_variables with
  | some e_1 =>
    rw [hT_1] at hF
    cases hF
    refine kxV (q := (RX4, TX4, 4)) (ci := 4) (q0 := 0) (As := [.int p0]) (rest := []) (wr := []) (wsN := (wt_X4_answer cy A_t A_t_state A_t_saved A_t_beaten A_t_text A_t_state_positive A_t_state_negative t_state_variables t_state_breakers t_state_clauses t_state_learned t_state_rounds)) ⟨hx, hb, hml, hown, hts⟩ hE hX hP hD hS hA hAs [0, 1] [] [0, 1] (x_X4_requireVariable l D cy s0 tW N A_t A_t_state A_t_saved A_t_beaten A_t_text A_t_state_positive A_t_state_negative p0 t_state_variables t_state_breakers t_state_clauses t_state_learned t_state_rounds _ hl9 hT_1) (gV q_636 q_638 q_42 q_83 q_639) hd_X4_requireVariable ⟨Nat.le_of_ble_eq_true rfl, Nat.le_of_ble_eq_true rfl⟩ rfl rfl rfl rfl rfl rfl rfl rfl rfl hl.1 rfl (Nat.le_of_ble_eq_true rfl) dX4_answer_2 ⟨Nat.le_of_ble_eq_true rfl, Nat.le_of_ble_eq_true rfl⟩ (fun q9 ce H locs hP hD hS hce hcv hcl => ?_)
    exact kprop hno hlocks hP hD hS hce hcv hcl
  | none =>
    rw [hT_1] at hF
    replace hF := xb_none hF
    obtain ⟨hF_2, hF⟩ := ob0_some hF
    refine kcV (q := (RX4, TX4, 4)) (ci := 4) (q0 := 0) (As := [.int p0]) (rest := []) (wr := []) (wsN := (wt_X4_answer cy A_t A_t_state A_t_saved A_t_beaten A_t_text A_t_state_positive A_t_state_negative t_state_variables t_state_breakers t_state_clauses t_state_learned t_state_rounds)) ⟨hx, hb, hml, hown, hts⟩ hE hP hD hS hA hAs [0, 1] [] [0, 1] (c_X4_requireVariable l D cy s0 tW N A_t A_t_state A_t_saved A_t_beaten A_t_text A_t_state_positive A_t_state_negative p0 t_state_variables t_state_breakers t_state_clauses t_state_learned t_state_rounds _ hF_2) (gV q_636 q_638 q_42 q_83 q_639) hd_X4_requireVariable ⟨Nat.le_of_ble_eq_true rfl, Nat.le_of_ble_eq_true rfl⟩ rfl rfl rfl rfl rfl rfl rfl rfl rfl hl.1 rfl (Nat.le_of_ble_eq_true rfl) dX4_answer_2 ⟨Nat.zero_le _, Nat.zero_le _⟩ (fun H locs hP hD hS => ?_)
    refine W.eq (g2 := F0 m 5 ls []) rfl ?_
    refine lv_aload_n hx hb dX4_answer_5 rfl (lv_at hl 0 rfl) ?_
    refine va_get (D := D) (ci := 4) (v := .ref A_t_state) (C := RX4) (T := TX4) (N := 4) hx hb hts inX4 hown hK hP 0 rfl rfl 0 (by decide) (hts _ q_212) (fun _ h9 => h9) rfl dX4_answer_6 ?_
    refine lv_iload_n hx hb dX4_answer_9 rfl (lv_at hl 1 rfl) ?_
    obtain ⟨r_3, hF_4, hF⟩ := ob1_some hF
    refine kcVN (q := (RX3, TX3, 7)) (ci := 3) (q0 := 1) (As := [.int p0]) (rest := []) (wr := [(A_t, .inr (4, [.ref A_t_state, .ref A_t_saved, .ref A_t_beaten, .ref A_t_text]))]) (wsN := (wt_X4_answer cy A_t A_t_state A_t_saved A_t_beaten A_t_text A_t_state_positive A_t_state_negative t_state_variables t_state_breakers t_state_clauses t_state_learned t_state_rounds)) ⟨hx, hb, hml, hown, hts⟩ hE hP hD hS hA hAs [1] [0] [0, 1] (c_X3_ownerOf l D cy s0 tW N A_t_state A_t_state_positive A_t_state_negative p0 t_state_variables t_state_breakers t_state_clauses t_state_learned t_state_rounds _ hF_4) q_291 q_84 q_290 q_9 (nq_326 hE.2.1) hd_X3_ownerOf.2 ⟨Nat.le_of_ble_eq_true rfl, Nat.le_of_ble_eq_true rfl⟩ rfl rfl rfl rfl rfl rfl rfl rfl rfl hl.1 rfl (Nat.le_of_ble_eq_true rfl) dX4_answer_10 ⟨Nat.zero_le _, Nat.zero_le _⟩ (fun H locs hP hD hS => ?_)
    refine W.eq (g2 := F0 m 13 ls [.int r_3]) rfl ?_
    refine lv_iconst (v := 1) hx hb dX4_answer_13 (by decide) ?_
    refine lv_icmp_ne (tgt := 27) hx hb dX4_answer_14 (by decide) (fun c_5 => ?_) (fun c_5 => ?_)
    · replace hF := ite_f c_5 hF
      refine lv_aload_n hx hb dX4_answer_27 rfl (lv_at hl 0 rfl) ?_
      refine lv_iload_n hx hb dX4_answer_28 rfl (lv_at hl 2 rfl) ?_
      cases hT_6 : T_X4_requirePlay N p1 t_state_breakers with
      | some e_6 =>
        rw [hT_6] at hF
        cases hF
        refine kxV (q := (RX4, TX4, 4)) (ci := 4) (q0 := 0) (As := [.int p1]) (rest := []) (wr := []) (wsN := (wt_X4_answer cy A_t A_t_state A_t_saved A_t_beaten A_t_text A_t_state_positive A_t_state_negative t_state_variables t_state_breakers t_state_clauses t_state_learned t_state_rounds)) ⟨hx, hb, hml, hown, hts⟩ hE hX hP hD hS hA hAs [0, 1] [] [0, 1] (x_X4_requirePlay l D cy s0 tW N A_t A_t_state A_t_saved A_t_beaten A_t_text A_t_state_positive A_t_state_negative p1 t_state_variables t_state_breakers t_state_clauses t_state_learned t_state_rounds _ hl9 hT_6) (gV q_623 q_625 q_41 q_83 q_626) hd_X4_requirePlay ⟨Nat.le_of_ble_eq_true rfl, Nat.le_of_ble_eq_true rfl⟩ rfl rfl rfl rfl rfl rfl rfl rfl rfl hl.1 rfl (Nat.le_of_ble_eq_true rfl) dX4_answer_29 ⟨Nat.le_of_ble_eq_true rfl, Nat.le_of_ble_eq_true rfl⟩ (fun q9 ce H locs hP hD hS hce hcv hcl => ?_)
        exact kprop hno hlocks hP hD hS hce hcv hcl
      | none =>
        rw [hT_6] at hF
        cases hF
    · replace hF := ite_t c_5 hF
      cases hF
      exact kthrow (text := "the variable is the breaker's") (cls := exIAE) hl9 hx hb hown hts hX hno hlocks hP hD hS hAs hml hl.1 (by decide +kernel) q_475 q_94 (by decide +kernel) (hat_IAE hts hE.2.1) (by decide +kernel) dX4_answer_17 dX4_answer_20 dX4_answer_21 dX4_answer_23 dX4_answer_26 (by decide) (Nat.le_of_ble_eq_true rfl)

abbrev wt_X4_append (cy : Nat → ClassId) (A_t : Nat) (A_t_state : Nat) (A_t_saved : Nat) (A_t_beaten : Nat) (A_t_text : Nat) (A_t_text_bytes : Nat) (t_text_length : Int32) (t_text_at : Int32) (t_text_error : Int32) (t_text_kind : Int32) (t_text_positive : Int32) (t_text_negative : Int32) (t_text_play : Int32) : va_W := [(A_t, .inr (4, [.ref A_t_state, .ref A_t_saved, .ref A_t_beaten, .ref A_t_text])), (A_t_text, .inr (1, [.ref A_t_text_bytes, .int t_text_length, .int t_text_at, .int t_text_error, .int t_text_kind, .int t_text_positive, .int t_text_negative, .int t_text_play]))]
def T_X4_append (N : Nat) (p0 : Int32) (t_text_length : Int32) : Option Nat :=
  (if p0 < (0 : Int32) then some 1 else (if p0 ≤ (127 : Int32) then (if t_text_length < (100 : Int32) then none else some 2) else some 1))
set_option maxHeartbeats 4000000 in
set_option maxRecDepth 100000 in
theorem x_X4_append (l : Launch) (D : va_G) (cy : Nat → ClassId) (s0 tW N : Nat) (A_t : Nat) (A_t_state : Nat) (A_t_saved : Nat) (A_t_beaten : Nat) (A_t_text : Nat) (A_t_text_bytes : Nat) (p0 : Int32) (t_text_length : Int32) (t_text_at : Int32) (t_text_error : Int32) (t_text_kind : Int32) (t_text_positive : Int32) (t_text_negative : Int32) (t_text_play : Int32) (sz : Nat) {e9 : Nat} (hl9 : l.stackTraces = false) (hF : T_X4_append N p0 t_text_length = some e9) : KX l D cy s0 tW yX4_append cX4_append 2 (some .int) 6 90 [.ref A_t, .int p0] sz (wt_X4_append cy A_t A_t_state A_t_saved A_t_beaten A_t_text A_t_text_bytes t_text_length t_text_at t_text_error t_text_kind t_text_positive t_text_negative t_text_play) (exN e9) := by
  refine KX.intro rfl (Nat.le_of_ble_eq_true rfl) ?_
  intro p e s m args below meth c A ls hx hb hr hml hown hts hlocks hE hP hD hS hA hAs hl hX hno
  have hK := hE.1
  have hl : lv_has ls 2 [(0, .ref A_t), (1, .int p0)] := hl
  unfold T_X4_append at hF
  refine lv_iload_n hx hb dX4_append_0 rfl (lv_at hl 1 rfl) ?_
  refine lv_if_lt (tgt := 10) hx hb dX4_append_1 (by decide) (fun c_1 => ?_) (fun c_1 => ?_)
  · replace hF := ite_t c_1 hF
    cases hF
    exact kthrow (text := "no such byte") (cls := exIAE) hl9 hx hb hown hts hX hno hlocks hP hD hS hAs hml hl.1 (by decide +kernel) q_475 q_94 (by decide +kernel) (hat_IAE hts hE.2.1) (by decide +kernel) dX4_append_10 dX4_append_13 dX4_append_14 dX4_append_16 dX4_append_19 (by decide) (Nat.le_of_ble_eq_true rfl)
  · replace hF := ite_f c_1 hF
    refine lv_iload_n hx hb dX4_append_4 rfl (lv_at hl 1 rfl) ?_
    refine lv_bipush (v := 127) hx hb dX4_append_5 (by decide) ?_
    refine lv_icmp_le (tgt := 20) hx hb dX4_append_7 (by decide) (fun c_2 => ?_) (fun c_2 => ?_)
    · replace hF := ite_t c_2 hF
      refine lv_aload_n hx hb dX4_append_20 rfl (lv_at hl 0 rfl) ?_
      refine va_get (D := D) (ci := 4) (v := .ref A_t_text) (C := RX4) (T := TX4) (N := 4) hx hb hts inX4 hown hK hP 0 rfl rfl 3 (by decide) (hts _ q_215) (fun _ h9 => h9) rfl dX4_append_21 ?_
      refine va_getN (D := D) (ci := 1) (v := .int t_text_length) (C := RX1) (T := TX1) (N := 8) hx hb hts inX1 hown hK hP 1 rfl rfl 1 (by decide) (va_Nw.use rfl (nq_184 hE.2.1)) (fun _ h9 => h9) rfl dX4_append_24 ?_
      refine lv_bipush (v := 100) hx hb dX4_append_27 (by decide) ?_
      refine lv_icmp_lt (tgt := 42) hx hb dX4_append_29 (by decide) (fun c_3 => ?_) (fun c_3 => ?_)
      · replace hF := ite_t c_3 hF
        cases hF
      · replace hF := ite_f c_3 hF
        cases hF
        exact kthrow (text := "the text is full") (cls := exISE) hl9 hx hb hown hts hX hno hlocks hP hD hS hAs hml hl.1 (by decide +kernel) q_578 q_93 (by decide +kernel) (hat_ISE hts hE.2.1) (by decide +kernel) dX4_append_32 dX4_append_35 dX4_append_36 dX4_append_38 dX4_append_41 (by decide) (Nat.le_of_ble_eq_true rfl)
    · replace hF := ite_f c_2 hF
      cases hF
      exact kthrow (text := "no such byte") (cls := exIAE) hl9 hx hb hown hts hX hno hlocks hP hD hS hAs hml hl.1 (by decide +kernel) q_475 q_94 (by decide +kernel) (hat_IAE hts hE.2.1) (by decide +kernel) dX4_append_10 dX4_append_13 dX4_append_14 dX4_append_16 dX4_append_19 (by decide) (Nat.le_of_ble_eq_true rfl)

abbrev wt_X4_undo (cy : Nat → ClassId) (A_t : Nat) (A_t_state : Nat) (A_t_saved : Nat) (A_t_beaten : Nat) (A_t_text : Nat) (A_t_saved_ring : Nat → Nat) (t_saved_oldest : Int32) (t_saved_count : Int32) : va_W := [(A_t, .inr (4, [.ref A_t_state, .ref A_t_saved, .ref A_t_beaten, .ref A_t_text])), (A_t_saved, .inr (2, [.ref (A_t_saved_ring 0), .int t_saved_oldest, .int t_saved_count]))]
def T_X4_undo (N : Nat) (t_saved_count : Int32) : Option Nat :=
  (if t_saved_count = (0 : Int32) then some 2 else none)
set_option maxHeartbeats 4000000 in
set_option maxRecDepth 100000 in
theorem x_X4_undo (l : Launch) (D : va_G) (cy : Nat → ClassId) (s0 tW N : Nat) (A_t : Nat) (A_t_state : Nat) (A_t_saved : Nat) (A_t_beaten : Nat) (A_t_text : Nat) (A_t_saved_ring : Nat → Nat) (t_saved_oldest : Int32) (t_saved_count : Int32) (sz : Nat) {e9 : Nat} (hl9 : l.stackTraces = false) (hF : T_X4_undo N t_saved_count = some e9) : KX l D cy s0 tW yX4_undo cX4_undo 1 (some .int) 6 90 [.ref A_t] sz (wt_X4_undo cy A_t A_t_state A_t_saved A_t_beaten A_t_text A_t_saved_ring t_saved_oldest t_saved_count) (exN e9) := by
  refine KX.intro rfl (Nat.le_of_ble_eq_true rfl) ?_
  intro p e s m args below meth c A ls hx hb hr hml hown hts hlocks hE hP hD hS hA hAs hl hX hno
  have hK := hE.1
  have hl : lv_has ls 1 [(0, .ref A_t)] := hl
  unfold T_X4_undo at hF
  refine lv_aload_n hx hb dX4_undo_0 rfl (lv_at hl 0 rfl) ?_
  refine va_get (D := D) (ci := 4) (v := .ref A_t_saved) (C := RX4) (T := TX4) (N := 4) hx hb hts inX4 hown hK hP 0 rfl rfl 1 (by decide) (hts _ q_213) (fun _ h9 => h9) rfl dX4_undo_1 ?_
  refine va_getN (D := D) (ci := 2) (v := .int t_saved_count) (C := RX2) (T := TX2) (N := 3) hx hb hts inX2 hown hK hP 1 rfl rfl 2 (by decide) (va_Nw.use rfl (nq_153 hE.2.1)) (fun _ h9 => h9) rfl dX4_undo_4 ?_
  refine lv_if_ne (tgt := 20) hx hb dX4_undo_7 (by decide) (fun c_1 => ?_) (fun c_1 => ?_)
  · replace hF := ite_f c_1 hF
    cases hF
  · replace hF := ite_t c_1 hF
    cases hF
    exact kthrow (text := "no saved state") (cls := exISE) hl9 hx hb hown hts hX hno hlocks hP hD hS hAs hml hl.1 (by decide +kernel) q_578 q_93 (by decide +kernel) (hat_ISE hts hE.2.1) (by decide +kernel) dX4_undo_10 dX4_undo_13 dX4_undo_14 dX4_undo_16 dX4_undo_19 (by decide) (Nat.le_of_ble_eq_true rfl)
