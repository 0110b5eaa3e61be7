theorem q_45 : Cond.initialized exISE ∈ wAll := wAll_mem 45 (by decide +kernel) (by decide +kernel)
theorem q_275 : Cond.classLink RX4 56 exISE ∈ wAll := wAll_mem 275 (by decide +kernel) (by decide +kernel)
abbrev wt_X4_addVariable (cy : Nat → ClassId) (A_t : Nat) (A_t_state : Nat) (A_t_saved : Nat) (A_t_beaten : Nat) (A_t_text : Nat) (A_t_state_positive : Nat) (A_t_state_negative : Nat) (t_state_variables : Int32) (t_state_breakers : Int32) (t_state_clauses : Int32) (t_state_learned : Int32) (t_state_rounds : Int32) : va_W := [(A_t, .inr (4, [.ref A_t_state, .ref A_t_saved, .ref A_t_beaten, .ref A_t_text])), (A_t_state, .inr (3, [.int t_state_variables, .int t_state_breakers, .int t_state_clauses, .ref A_t_state_positive, .ref A_t_state_negative, .int t_state_learned, .int t_state_rounds]))]
def T_X4_addVariable (N : Nat) (p0 : Bool) (t_state_variables : Int32) (t_state_breakers : Int32) : Option Nat :=
  ob1 (F_X3_hasRoomFor N p0 t_state_variables t_state_breakers) (fun r_1 => (if r_1 = true then none else some 2))
set_option maxHeartbeats 4000000 in
set_option maxRecDepth 100000 in
theorem x_X4_addVariable (l : Launch) (D : va_G) (cy : Nat → ClassId) (s0 tW N : Nat) (A_t : Nat) (A_t_state : Nat) (A_t_saved : Nat) (A_t_beaten : Nat) (A_t_text : Nat) (A_t_state_positive : Nat) (A_t_state_negative : Nat) (p0 : Bool) (t_state_variables : Int32) (t_state_breakers : Int32) (t_state_clauses : Int32) (t_state_learned : Int32) (t_state_rounds : Int32) (sz : Nat) {e9 : Nat} (hl9 : l.stackTraces = false) (hF : T_X4_addVariable N p0 t_state_variables t_state_breakers = some e9) : KX l D cy s0 tW yX4_addVariable cX4_addVariable 2 (some .int) 6 90 [.ref A_t, .int (bI p0)] sz (wt_X4_addVariable cy A_t A_t_state A_t_saved A_t_beaten A_t_text A_t_state_positive A_t_state_negative t_state_variables t_state_breakers t_state_clauses t_state_learned t_state_rounds) (exN e9) := by
  refine KX.intro rfl (Nat.le_of_ble_eq_true rfl) ?_
  intro p e s m args below meth c A ls hx hb hr hml hown hts hlocks hE hP hD hS hA hAs hl hX hno
  have hK := hE.1
  have hl : lv_has ls 2 [(0, .ref A_t), (1, .int (bI p0))] := hl
  unfold T_X4_addVariable at hF
  refine lv_aload_n hx hb dX4_addVariable_0 rfl (lv_at hl 0 rfl) ?_
  refine va_get (D := D) (ci := 4) (v := .ref A_t_state) (C := RX4) (T := TX4) (N := 4) hx hb hts inX4 hown hK hP 0 rfl rfl 0 (by decide) (hts _ q_150) (fun _ h9 => h9) rfl dX4_addVariable_1 ?_
  refine lv_iload_n hx hb dX4_addVariable_4 rfl (lv_at hl 1 rfl) ?_
  obtain ⟨r_1, hF_2, hF⟩ := ob1_some hF
  refine kcVN (q := (RX3, TX3, 7)) (ci := 3) (q0 := 1) (As := [.int (bI p0)]) (rest := []) (wr := [(A_t, .inr (4, [.ref A_t_state, .ref A_t_saved, .ref A_t_beaten, .ref A_t_text]))]) (wsN := (wt_X4_addVariable cy A_t A_t_state A_t_saved A_t_beaten A_t_text A_t_state_positive A_t_state_negative t_state_variables t_state_breakers t_state_clauses t_state_learned t_state_rounds)) ⟨hx, hb, hml, hown, hts⟩ hE hP hD hS hA hAs [1] [0] [0, 1] (c_X3_hasRoomFor l D cy s0 tW N A_t_state A_t_state_positive A_t_state_negative p0 t_state_variables t_state_breakers t_state_clauses t_state_learned t_state_rounds _ hF_2) q_274 q_36 q_273 q_14 (nq_271 hE.2.1) hd_X3_hasRoomFor.2 ⟨Nat.le_of_ble_eq_true rfl, Nat.le_of_ble_eq_true rfl⟩ rfl rfl rfl rfl rfl rfl rfl rfl rfl hl.1 rfl (Nat.le_of_ble_eq_true rfl) dX4_addVariable_5 ⟨Nat.zero_le _, Nat.zero_le _⟩ (fun H locs hP hD hS => ?_)
  refine W.eq (g2 := F0 m 8 ls [.int (bI r_1)]) rfl ?_
  refine lv_if_ne (tgt := 21) hx hb dX4_addVariable_8 (by decide) (fun c_3 => ?_) (fun c_3 => ?_)
  · replace hF := ite_t (bI_t c_3) hF
    cases hF
  · replace hF := ite_f (bI_f c_3) hF
    cases hF
    exact kthrow (text := "the player has all variables already") (cls := exISE) hl9 hx hb hown hts hX hno hlocks hP hD hS hAs hml hl.1 (by decide +kernel) q_275 q_45 (by decide +kernel) (hat_ISE hts hE.2.1) (by decide +kernel) dX4_addVariable_11 dX4_addVariable_14 dX4_addVariable_15 dX4_addVariable_17 dX4_addVariable_20 (by decide) (Nat.le_of_ble_eq_true rfl)
