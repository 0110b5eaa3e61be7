abbrev w_X5_isMade (cy : Nat → ClassId) (A_t : Nat) (A_t_s : Nat) (A_t_past : Nat) (A_t_begun : Nat) (A_t_text : Nat) (A_t_wins : Nat) (A_t_fits : Nat) (t_pasts : Int32) (t_thrown : Int32) (t_typed : Int32) (t_at : Int32) (t_letter : Int32) (t_one : Int32) (t_other : Int32) (t_s : Nat → Int32) : va_W := [(A_t, .inr (5, [.ref A_t_s, .ref A_t_past, .ref A_t_begun, .int t_pasts, .int t_thrown, .ref A_t_text, .int t_typed, .int t_at, .int t_letter, .int t_one, .int t_other, .ref A_t_wins, .ref A_t_fits])), (A_t_s, .inl (cy 0, 45, .inl t_s))]
def L_X5_isMade_4 (N : Nat) (t_s : Nat → Int32) (p0 : Int32) (kont : Bool → Option (Bool)) : Nat → Bool → Int32 → Option (Bool)
  | 0, _, _ => none
  | n + 1, v2_1, v3_2 => (if (t_s 2) ≤ v3_2 then kont v2_1 else (if v2_1 = true then gd (inb (5 + v3_2) 45) ((if ((t_s ((5 + v3_2).toNatClampNeg)) &&& p0) = (0 : Int32) then gd (inb (25 + v3_2) 45) ((if ((t_s ((25 + v3_2).toNatClampNeg)) &&& (p0 ^^^ (-1))) = (0 : Int32) then L_X5_isMade_4 N t_s p0 kont n false (v3_2 + 1) else L_X5_isMade_4 N t_s p0 kont n true (v3_2 + 1))) else L_X5_isMade_4 N t_s p0 kont n true (v3_2 + 1))) else L_X5_isMade_4 N t_s p0 kont n false (v3_2 + 1)))
def F_X5_isMade (N : Nat) (p0 : Int32) (t_s : Nat → Int32) : Option (Bool) :=
  (L_X5_isMade_4 N t_s p0 (fun u2_3 => some u2_3) N true 0)
set_option maxHeartbeats 4000000 in
set_option maxRecDepth 100000 in
theorem c_X5_isMade (l : Launch) (D : va_G) (cy : Nat → ClassId) (s0 tW N : Nat) (A_t : Nat) (A_t_s : Nat) (A_t_past : Nat) (A_t_begun : Nat) (A_t_text : Nat) (A_t_wins : Nat) (A_t_fits : Nat) (p0 : Int32) (t_pasts : Int32) (t_thrown : Int32) (t_typed : Int32) (t_at : Int32) (t_letter : Int32) (t_one : Int32) (t_other : Int32) (t_s : Nat → Int32) (sz : Nat) {r9 : Bool} (hF : F_X5_isMade N p0 t_s = some r9) : KM l D cy s0 tW yX5_isMade cX5_isMade 4 (some .boolean) 0 0 [.ref A_t, .int p0] sz (w_X5_isMade cy A_t A_t_s A_t_past A_t_begun A_t_text A_t_wins A_t_fits t_pasts t_thrown t_typed t_at t_letter t_one t_other t_s) (some (.int (bI r9))) (w_X5_isMade cy A_t A_t_s A_t_past A_t_begun A_t_text A_t_wins A_t_fits t_pasts t_thrown t_typed t_at t_letter t_one t_other t_s) := by
  refine KM.intro rfl (Nat.le_of_ble_eq_true rfl) ?_
  intro p e s m args below meth c A ls hx hb hr hml hown hts hlocks hE hP hD hS hA hAs hl
  have hK := hE.1
  have hl : lv_has ls 4 [(0, .ref A_t), (1, .int p0)] := hl
  unfold F_X5_isMade at hF
  refine lv_iconst (v := 1) hx hb dX5_isMade_0 (by decide) ?_
  refine lv_istore_n (lv' := [(2, .int 1), (0, .ref A_t), (1, .int p0)]) hx hb dX5_isMade_1 rfl hl (by decide) rfl (fun ls hl => ?_)
  refine lv_iconst (v := 0) hx hb dX5_isMade_2 (by decide) ?_
  refine lv_istore_n (lv' := [(3, .int 0), (2, .int 1), (0, .ref A_t), (1, .int p0)]) hx hb dX5_isMade_3 rfl hl (by decide) rfl (fun ls hl => ?_)
  have hloop_4 : ∀ (kont : Bool → Option (Bool)), (∀ (u2_3 : Bool) (H : Heap) (locs : List Loc) (ls : Array Slot), kont u2_3 = some r9 → va_P D vwCl (w_X5_isMade cy A_t A_t_s A_t_past A_t_begun A_t_text A_t_wins A_t_fits t_pasts t_thrown t_typed t_at t_letter t_one t_other t_s) H → va_D A (w_X5_isMade cy A_t A_t_s A_t_past A_t_begun A_t_text A_t_wins A_t_fits t_pasts t_thrown t_typed t_at t_letter t_one t_other t_s) → va_S A s.heap H locs → lv_has ls 4 [(2, .int (bI u2_3))] → W p l e (rmK 0 0) s m args below meth c H locs 0 0 (MQ below (kQ (some (.int (bI r9))) D A (w_X5_isMade cy A_t A_t_s A_t_past A_t_begun A_t_text A_t_wins A_t_fits t_pasts t_thrown t_typed t_at t_letter t_one t_other t_s)) args s 0 0 A) (F0 m 59 ls [])) → ∀ (n : Nat) (v2_1 : Bool) (v3_2 : Int32) (H : Heap) (locs : List Loc) (ls : Array Slot), L_X5_isMade_4 N t_s p0 kont n v2_1 v3_2 = some r9 → va_P D vwCl (w_X5_isMade cy A_t A_t_s A_t_past A_t_begun A_t_text A_t_wins A_t_fits t_pasts t_thrown t_typed t_at t_letter t_one t_other t_s) H → va_D A (w_X5_isMade cy A_t A_t_s A_t_past A_t_begun A_t_text A_t_wins A_t_fits t_pasts t_thrown t_typed t_at t_letter t_one t_other t_s) → va_S A s.heap H locs → lv_has ls 4 [(0, .ref A_t), (1, .int p0), (2, .int (bI v2_1)), (3, .int v3_2)] → W p l e (rmK 0 0) s m args below meth c H locs 0 0 (MQ below (kQ (some (.int (bI r9))) D A (w_X5_isMade cy A_t A_t_s A_t_past A_t_begun A_t_text A_t_wins A_t_fits t_pasts t_thrown t_typed t_at t_letter t_one t_other t_s)) args s 0 0 A) (F0 m 4 ls []) := by
    intro kont hexit_4 n
    induction n with
    | zero =>
      intro v2_1 v3_2 H locs ls hF
      rw [L_X5_isMade_4] at hF
      cases hF
    | succ n ih =>
      intro v2_1 v3_2 H locs ls hF hP hD hS hl
      rw [L_X5_isMade_4] at hF
      refine lv_iload_n hx hb dX5_isMade_4 rfl (lv_at hl 3 rfl) ?_
      refine lv_aload_n hx hb dX5_isMade_5 rfl (lv_at hl 0 rfl) ?_
      refine va_get (D := D) (ci := 5) (v := .ref A_t_s) (C := RX5) (T := TX5) (N := 13) hx hb hts inX5 hown hK hP 0 rfl rfl 0 (by decide) (hts _ q_731) (fun _ h9 => h9) rfl dX5_isMade_6 ?_
      refine lv_iconst (v := 2) hx hb dX5_isMade_9 (by decide) ?_
      refine ka_iald hx hb hK hP 1 rfl (2) rfl (inb_in (by decide)) dX5_isMade_10 ?_
      refine lv_icmp_ge (tgt := 59) hx hb dX5_isMade_11 (by decide) (fun c_4 => ?_) (fun c_4 => ?_)
      · replace hF := ite_t c_4 hF
        exact hexit_4 v2_1 H locs ls hF hP hD hS (lv_sub hl [2] rfl)
      · replace hF := ite_f c_4 hF
        refine lv_iload_n hx hb dX5_isMade_14 rfl (lv_at hl 2 rfl) ?_
        refine lv_if_eq (tgt := 51) hx hb dX5_isMade_15 (by decide) (fun c_5 => ?_) (fun c_5 => ?_)
        · replace hF := ite_f (bI_f c_5) hF
          refine lv_iconst (v := 0) hx hb dX5_isMade_51 (by decide) ?_
          refine lv_istore_n (lv' := [(2, .int 0), (0, .ref A_t), (1, .int p0), (3, .int v3_2)]) hx hb dX5_isMade_52 rfl hl (by decide) rfl (fun ls hl => ?_)
          refine lv_iinc (v := (v3_2 + 1)) (lv' := [(3, .int (v3_2 + 1)), (2, .int 0), (0, .ref A_t), (1, .int p0)]) hx hb dX5_isMade_53 hl (k := 3) rfl (by first | rfl | decide) (by decide) rfl (fun ls hl => ?_)
          refine lv_goto (tgt := 4) hx hb dX5_isMade_56 (by decide) ?_
          exact ih false (v3_2 + 1) H locs ls hF hP hD hS (lv_sub hl [2, 3, 1, 0] rfl)
        · replace hF := ite_t (bI_t c_5) hF
          refine lv_aload_n hx hb dX5_isMade_18 rfl (lv_at hl 0 rfl) ?_
          refine va_get (D := D) (ci := 5) (v := .ref A_t_s) (C := RX5) (T := TX5) (N := 13) hx hb hts inX5 hown hK hP 0 rfl rfl 0 (by decide) (hts _ q_731) (fun _ h9 => h9) rfl dX5_isMade_19 ?_
          refine lv_iconst (v := 5) hx hb dX5_isMade_22 (by decide) ?_
          refine lv_iload_n hx hb dX5_isMade_23 rfl (lv_at hl 3 rfl) ?_
          refine lv_iadd hx hb dX5_isMade_24 ?_
          obtain ⟨hi_6, hF⟩ := gd_some hF
          refine ka_iald hx hb hK hP 1 rfl ((5 + v3_2).toNatClampNeg) rfl (inb_in hi_6) dX5_isMade_25 ?_
          refine lv_iload_n hx hb dX5_isMade_26 rfl (lv_at hl 1 rfl) ?_
          refine lv_iand hx hb dX5_isMade_27 ?_
          refine lv_if_ne (tgt := 47) hx hb dX5_isMade_28 (by decide) (fun c_7 => ?_) (fun c_7 => ?_)
          · replace hF := ite_f c_7 hF
            refine lv_iconst (v := 1) hx hb dX5_isMade_47 (by decide) ?_
            refine lv_goto (tgt := 52) hx hb dX5_isMade_48 (by decide) ?_
            refine lv_istore_n (lv' := [(2, .int 1), (0, .ref A_t), (1, .int p0), (3, .int v3_2)]) hx hb dX5_isMade_52 rfl hl (by decide) rfl (fun ls hl => ?_)
            refine lv_iinc (v := (v3_2 + 1)) (lv' := [(3, .int (v3_2 + 1)), (2, .int 1), (0, .ref A_t), (1, .int p0)]) hx hb dX5_isMade_53 hl (k := 3) rfl (by first | rfl | decide) (by decide) rfl (fun ls hl => ?_)
            refine lv_goto (tgt := 4) hx hb dX5_isMade_56 (by decide) ?_
            exact ih true (v3_2 + 1) H locs ls hF hP hD hS (lv_sub hl [2, 3, 1, 0] rfl)
          · replace hF := ite_t c_7 hF
            refine lv_aload_n hx hb dX5_isMade_31 rfl (lv_at hl 0 rfl) ?_
            refine va_get (D := D) (ci := 5) (v := .ref A_t_s) (C := RX5) (T := TX5) (N := 13) hx hb hts inX5 hown hK hP 0 rfl rfl 0 (by decide) (hts _ q_731) (fun _ h9 => h9) rfl dX5_isMade_32 ?_
            refine lv_bipush (v := 25) hx hb dX5_isMade_35 (by decide) ?_
            refine lv_iload_n hx hb dX5_isMade_37 rfl (lv_at hl 3 rfl) ?_
            refine lv_iadd hx hb dX5_isMade_38 ?_
            obtain ⟨hi_8, hF⟩ := gd_some hF
            refine ka_iald hx hb hK hP 1 rfl ((25 + v3_2).toNatClampNeg) rfl (inb_in hi_8) dX5_isMade_39 ?_
            refine lv_iload_n hx hb dX5_isMade_40 rfl (lv_at hl 1 rfl) ?_
            refine lv_iconst (v := (-1)) hx hb dX5_isMade_41 (by decide) ?_
            refine lv_ixor hx hb dX5_isMade_42 ?_
            refine lv_iand hx hb dX5_isMade_43 ?_
            refine lv_if_eq (tgt := 51) hx hb dX5_isMade_44 (by decide) (fun c_9 => ?_) (fun c_9 => ?_)
            · replace hF := ite_t c_9 hF
              refine lv_iconst (v := 0) hx hb dX5_isMade_51 (by decide) ?_
              refine lv_istore_n (lv' := [(2, .int 0), (0, .ref A_t), (1, .int p0), (3, .int v3_2)]) hx hb dX5_isMade_52 rfl hl (by decide) rfl (fun ls hl => ?_)
              refine lv_iinc (v := (v3_2 + 1)) (lv' := [(3, .int (v3_2 + 1)), (2, .int 0), (0, .ref A_t), (1, .int p0)]) hx hb dX5_isMade_53 hl (k := 3) rfl (by first | rfl | decide) (by decide) rfl (fun ls hl => ?_)
              refine lv_goto (tgt := 4) hx hb dX5_isMade_56 (by decide) ?_
              exact ih false (v3_2 + 1) H locs ls hF hP hD hS (lv_sub hl [2, 3, 1, 0] rfl)
            · replace hF := ite_f c_9 hF
              refine lv_iconst (v := 1) hx hb dX5_isMade_47 (by decide) ?_
              refine lv_goto (tgt := 52) hx hb dX5_isMade_48 (by decide) ?_
              refine lv_istore_n (lv' := [(2, .int 1), (0, .ref A_t), (1, .int p0), (3, .int v3_2)]) hx hb dX5_isMade_52 rfl hl (by decide) rfl (fun ls hl => ?_)
              refine lv_iinc (v := (v3_2 + 1)) (lv' := [(3, .int (v3_2 + 1)), (2, .int 1), (0, .ref A_t), (1, .int p0)]) hx hb dX5_isMade_53 hl (k := 3) rfl (by first | rfl | decide) (by decide) rfl (fun ls hl => ?_)
              refine lv_goto (tgt := 4) hx hb dX5_isMade_56 (by decide) ?_
              exact ih true (v3_2 + 1) H locs ls hF hP hD hS (lv_sub hl [2, 3, 1, 0] rfl)
  refine hloop_4 _ (fun u2_3 H locs ls hF hP hD hS hl => ?_) N true 0 _ _ ls hF hP hD hS (lv_sub hl [2, 3, 1, 0] rfl)
  refine lv_iload_n hx hb dX5_isMade_59 rfl (lv_at hl 0 rfl) ?_
  cases hF
  exact kret_z hx hb hr hlocks hP hD hS dX5_isMade_60

theorem q_62 : Cond.selects RX5 yX5_isBreakersOwn yX5_isBreakersOwn ∈ wAll := wAll_mem 62 (by decide +kernel) (by decide +kernel)
theorem q_64 : Cond.selects RX5 yX5_isMade yX5_isMade ∈ wAll := wAll_mem 64 (by decide +kernel) (by decide +kernel)
theorem q_742 : Cond.fieldLink RX5 23 "ForAllGameModel" "wins" "[Z" ∈ wAll := wAll_mem 742 (by decide +kernel) (by decide +kernel)
theorem q_874 : Cond.methodLink RX5 86 yX5_isBreakersOwn ∈ wAll := wAll_mem 874 (by decide +kernel) (by decide +kernel)
theorem q_876 : Cond.instanceMethod yX5_isBreakersOwn ∈ wAll := wAll_mem 876 (by decide +kernel) (by decide +kernel)
theorem q_877 : Cond.code yX5_isBreakersOwn cX5_isBreakersOwn 2 (some .boolean) ∈ wAll := wAll_mem 877 (by decide +kernel) (by decide +kernel)
theorem q_882 : Cond.methodLink RX5 83 yX5_isMade ∈ wAll := wAll_mem 882 (by decide +kernel) (by decide +kernel)
theorem q_884 : Cond.instanceMethod yX5_isMade ∈ wAll := wAll_mem 884 (by decide +kernel) (by decide +kernel)
theorem q_885 : Cond.code yX5_isMade cX5_isMade 4 (some .boolean) ∈ wAll := wAll_mem 885 (by decide +kernel) (by decide +kernel)
theorem hd_X5_isBreakersOwn : yX5_isBreakersOwn.cls = RX5 ∧ yX5_isBreakersOwn.cls ≠ "java/lang/invoke/MethodHandle" ∧ yX5_isBreakersOwn.cls ≠ "java/lang/invoke/VarHandle" ∧ (parseMethodDescriptor yX5_isBreakersOwn.desc).map (fun d => d.parameters.length) = some 1 := by decide +kernel
theorem hd_X5_isMade : yX5_isMade.cls = RX5 ∧ yX5_isMade.cls ≠ "java/lang/invoke/MethodHandle" ∧ yX5_isMade.cls ≠ "java/lang/invoke/VarHandle" ∧ (parseMethodDescriptor yX5_isMade.desc).map (fun d => d.parameters.length) = some 1 := by decide +kernel
abbrev w_X5_lays (cy : Nat → ClassId) (A_t : Nat) (A_t_s : Nat) (A_t_past : Nat) (A_t_begun : Nat) (A_t_text : Nat) (A_t_wins : Nat) (A_t_fits : Nat) (t_pasts : Int32) (t_thrown : Int32) (t_typed : Int32) (t_at : Int32) (t_letter : Int32) (t_one : Int32) (t_other : Int32) (t_s : Nat → Int32) (t_wins : Nat → Bool) : va_W := [(A_t, .inr (5, [.ref A_t_s, .ref A_t_past, .ref A_t_begun, .int t_pasts, .int t_thrown, .ref A_t_text, .int t_typed, .int t_at, .int t_letter, .int t_one, .int t_other, .ref A_t_wins, .ref A_t_fits])), (A_t_s, .inl (cy 0, 45, .inl t_s)), (A_t_wins, .inl (cy 3, 1024, .inl (fun j => bI (t_wins j))))]
def L_X5_lays_2 (N : Nat) (t_s : Nat → Int32) (p0 : Int32) (kont : (Nat → Bool) → Option ((Nat → Bool))) : Nat → Int32 → (Nat → Bool) → Option ((Nat → Bool))
  | 0, _, _ => none
  | n + 1, v2_1, t_wins_2 => (if ((1 : Int32) <<< (p0 &&& 31)) ≤ v2_1 then kont t_wins_2 else ob1 (F_X5_isMade N v2_1 t_s) (fun r_5 => gd (inb (((1 : Int32) <<< (p0 &&& 31)) + v2_1) 1024) (L_X5_lays_2 N t_s p0 kont n (v2_1 + 1) (updB t_wins_2 ((((1 : Int32) <<< (p0 &&& 31)) + v2_1).toNatClampNeg) r_5))))
def L_X5_lays_40 (N : Nat) (t_s : Nat → Int32) (v2_8 : Int32) (kont : (Nat → Bool) → Option ((Nat → Bool))) : Nat → Int32 → (Nat → Bool) → Option ((Nat → Bool))
  | 0, _, _ => none
  | n + 1, v3_12, t_wins_13 => (if ((1 : Int32) <<< (v2_8 &&& 31)) ≤ v3_12 then kont t_wins_13 else gd (inb (((2 : Int32) <<< (v2_8 &&& 31)) + v3_12) 1024) (gd (inb ((((2 : Int32) <<< (v2_8 &&& 31)) + v3_12) + ((1 : Int32) <<< (v2_8 &&& 31))) 1024) (ob1 (F_X5_isBreakersOwn N v2_8 t_s) (fun r_18 => (if r_18 = true then (if (t_wins_13 ((((2 : Int32) <<< (v2_8 &&& 31)) + v3_12).toNatClampNeg)) = true then (if (t_wins_13 (((((2 : Int32) <<< (v2_8 &&& 31)) + v3_12) + ((1 : Int32) <<< (v2_8 &&& 31))).toNatClampNeg)) = true then gd (inb (((1 : Int32) <<< (v2_8 &&& 31)) + v3_12) 1024) (L_X5_lays_40 N t_s v2_8 kont n (v3_12 + 1) (updB t_wins_13 ((((1 : Int32) <<< (v2_8 &&& 31)) + v3_12).toNatClampNeg) true)) else gd (inb (((1 : Int32) <<< (v2_8 &&& 31)) + v3_12) 1024) (L_X5_lays_40 N t_s v2_8 kont n (v3_12 + 1) (updB t_wins_13 ((((1 : Int32) <<< (v2_8 &&& 31)) + v3_12).toNatClampNeg) false))) else gd (inb (((1 : Int32) <<< (v2_8 &&& 31)) + v3_12) 1024) (L_X5_lays_40 N t_s v2_8 kont n (v3_12 + 1) (updB t_wins_13 ((((1 : Int32) <<< (v2_8 &&& 31)) + v3_12).toNatClampNeg) false))) else (if (t_wins_13 ((((2 : Int32) <<< (v2_8 &&& 31)) + v3_12).toNatClampNeg)) = true then gd (inb (((1 : Int32) <<< (v2_8 &&& 31)) + v3_12) 1024) (L_X5_lays_40 N t_s v2_8 kont n (v3_12 + 1) (updB t_wins_13 ((((1 : Int32) <<< (v2_8 &&& 31)) + v3_12).toNatClampNeg) true)) else (if (t_wins_13 (((((2 : Int32) <<< (v2_8 &&& 31)) + v3_12) + ((1 : Int32) <<< (v2_8 &&& 31))).toNatClampNeg)) = true then gd (inb (((1 : Int32) <<< (v2_8 &&& 31)) + v3_12) 1024) (L_X5_lays_40 N t_s v2_8 kont n (v3_12 + 1) (updB t_wins_13 ((((1 : Int32) <<< (v2_8 &&& 31)) + v3_12).toNatClampNeg) true)) else gd (inb (((1 : Int32) <<< (v2_8 &&& 31)) + v3_12) 1024) (L_X5_lays_40 N t_s v2_8 kont n (v3_12 + 1) (updB t_wins_13 ((((1 : Int32) <<< (v2_8 &&& 31)) + v3_12).toNatClampNeg) false)))))))))
def L_X5_lays_34 (N : Nat) (t_s : Nat → Int32) (kont : (Nat → Bool) → Option ((Nat → Bool))) : Nat → Int32 → (Nat → Bool) → Option ((Nat → Bool))
  | 0, _, _ => none
  | n + 1, v2_8, t_wins_9 => (if v2_8 < (0 : Int32) then kont t_wins_9 else (L_X5_lays_40 N t_s v2_8 (fun t_wins_14 => L_X5_lays_34 N t_s kont n (v2_8 + (-1)) t_wins_14) N 0 t_wins_9))
def F_X5_lays (N : Nat) (p0 : Int32) (t_s : Nat → Int32) (t_wins : Nat → Bool) : Option ((Nat → Bool)) :=
  (L_X5_lays_2 N t_s p0 (fun t_wins_3 => (L_X5_lays_34 N t_s (fun t_wins_10 => some t_wins_10) N (p0 - 1) t_wins_3)) N 0 t_wins)
set_option maxHeartbeats 4000000 in
set_option maxRecDepth 100000 in
theorem c_X5_lays (l : Launch) (D : va_G) (cy : Nat → ClassId) (s0 tW N : Nat) (A_t : Nat) (A_t_s : Nat) (A_t_past : Nat) (A_t_begun : Nat) (A_t_text : Nat) (A_t_wins : Nat) (A_t_fits : Nat) (p0 : Int32) (t_pasts : Int32) (t_thrown : Int32) (t_typed : Int32) (t_at : Int32) (t_letter : Int32) (t_one : Int32) (t_other : Int32) (t_s : Nat → Int32) (t_wins : Nat → Bool) (sz : Nat) {t_wins9 : Nat → Bool} (hF : F_X5_lays N p0 t_s t_wins = some t_wins9) : KM l D cy s0 tW yX5_lays cX5_lays 6 none 1 23 [.ref A_t, .int p0] sz (w_X5_lays cy A_t A_t_s A_t_past A_t_begun A_t_text A_t_wins A_t_fits t_pasts t_thrown t_typed t_at t_letter t_one t_other t_s t_wins) none (w_X5_lays cy A_t A_t_s A_t_past A_t_begun A_t_text A_t_wins A_t_fits t_pasts t_thrown t_typed t_at t_letter t_one t_other t_s t_wins9) := by
  refine KM.intro rfl (Nat.le_of_ble_eq_true rfl) ?_
  intro p e s m args below meth c A ls hx hb hr hml hown hts hlocks hE hP hD hS hA hAs hl
  have hK := hE.1
  have hl : lv_has ls 6 [(0, .ref A_t), (1, .int p0)] := hl
  unfold F_X5_lays at hF
  refine lv_iconst (v := 0) hx hb dX5_lays_0 (by decide) ?_
  refine lv_istore_n (lv' := [(2, .int 0), (0, .ref A_t), (1, .int p0)]) hx hb dX5_lays_1 rfl hl (by decide) rfl (fun ls hl => ?_)
  have hloop_2 : ∀ (kont : (Nat → Bool) → Option ((Nat → Bool))), (∀ (t_wins_3 : Nat → Bool) (H : Heap) (locs : List Loc) (ls : Array Slot), kont t_wins_3 = some t_wins9 → va_P D vwCl (w_X5_lays cy A_t A_t_s A_t_past A_t_begun A_t_text A_t_wins A_t_fits t_pasts t_thrown t_typed t_at t_letter t_one t_other t_s t_wins_3) H → va_D A (w_X5_lays cy A_t A_t_s A_t_past A_t_begun A_t_text A_t_wins A_t_fits t_pasts t_thrown t_typed t_at t_letter t_one t_other t_s t_wins_3) → va_S A s.heap H locs → lv_has ls 6 [(0, .ref A_t), (1, .int p0)] → W p l e (rmK 1 23) s m args below meth c H locs 0 0 (MQ below (kQ none D A (w_X5_lays cy A_t A_t_s A_t_past A_t_begun A_t_text A_t_wins A_t_fits t_pasts t_thrown t_typed t_at t_letter t_one t_other t_s t_wins9)) args s 0 0 A) (F0 m 30 ls [])) → ∀ (n : Nat) (v2_1 : Int32) (t_wins_2 : Nat → Bool) (H : Heap) (locs : List Loc) (ls : Array Slot), L_X5_lays_2 N t_s p0 kont n v2_1 t_wins_2 = some t_wins9 → va_P D vwCl (w_X5_lays cy A_t A_t_s A_t_past A_t_begun A_t_text A_t_wins A_t_fits t_pasts t_thrown t_typed t_at t_letter t_one t_other t_s t_wins_2) H → va_D A (w_X5_lays cy A_t A_t_s A_t_past A_t_begun A_t_text A_t_wins A_t_fits t_pasts t_thrown t_typed t_at t_letter t_one t_other t_s t_wins_2) → va_S A s.heap H locs → lv_has ls 6 [(0, .ref A_t), (1, .int p0), (2, .int v2_1)] → W p l e (rmK 1 23) s m args below meth c H locs 0 0 (MQ below (kQ none D A (w_X5_lays cy A_t A_t_s A_t_past A_t_begun A_t_text A_t_wins A_t_fits t_pasts t_thrown t_typed t_at t_letter t_one t_other t_s t_wins9)) args s 0 0 A) (F0 m 2 ls []) := by
    intro kont hexit_2 n
    induction n with
    | zero =>
      intro v2_1 t_wins_2 H locs ls hF
      rw [L_X5_lays_2] at hF
      cases hF
    | succ n ih =>
      intro v2_1 t_wins_2 H locs ls hF hP hD hS hl
      rw [L_X5_lays_2] at hF
      refine lv_iload_n hx hb dX5_lays_2 rfl (lv_at hl 2 rfl) ?_
      refine lv_iconst (v := 1) hx hb dX5_lays_3 (by decide) ?_
      refine lv_iload_n hx hb dX5_lays_4 rfl (lv_at hl 1 rfl) ?_
      refine lv_ishl hx hb dX5_lays_5 ?_
      refine lv_icmp_ge (tgt := 30) hx hb dX5_lays_6 (by decide) (fun c_4 => ?_) (fun c_4 => ?_)
      · replace hF := ite_t c_4 hF
        exact hexit_2 t_wins_2 H locs ls hF hP hD hS (lv_sub hl [0, 1] rfl)
      · replace hF := ite_f c_4 hF
        refine lv_aload_n hx hb dX5_lays_9 rfl (lv_at hl 0 rfl) ?_
        refine va_get (D := D) (ci := 5) (v := .ref A_t_wins) (C := RX5) (T := TX5) (N := 13) hx hb hts inX5 hown hK hP 0 rfl rfl 11 (by decide) (hts _ q_742) (fun _ h9 => h9) rfl dX5_lays_10 ?_
        refine lv_iconst (v := 1) hx hb dX5_lays_13 (by decide) ?_
        refine lv_iload_n hx hb dX5_lays_14 rfl (lv_at hl 1 rfl) ?_
        refine lv_ishl hx hb dX5_lays_15 ?_
        refine lv_iload_n hx hb dX5_lays_16 rfl (lv_at hl 2 rfl) ?_
        refine lv_iadd hx hb dX5_lays_17 ?_
        refine lv_aload_n hx hb dX5_lays_18 rfl (lv_at hl 0 rfl) ?_
        refine lv_iload_n hx hb dX5_lays_19 rfl (lv_at hl 2 rfl) ?_
        obtain ⟨r_5, hF_6, hF⟩ := ob1_some hF
        refine kcV (q := (RX5, TX5, 13)) (ci := 5) (q0 := 0) (As := [.int v2_1]) (rest := [.int (((1 : Int32) <<< (p0 &&& 31)) + v2_1), .ref A_t_wins]) (wr := [(A_t_wins, .inl (cy 3, 1024, .inl (fun j => bI (t_wins_2 j))))]) (wsN := (w_X5_lays cy A_t A_t_s A_t_past A_t_begun A_t_text A_t_wins A_t_fits t_pasts t_thrown t_typed t_at t_letter t_one t_other t_s t_wins_2)) ⟨hx, hb, hml, hown, hts⟩ hE hP hD hS hA hAs [0, 1] [2] [1, 2, 0] (c_X5_isMade l D cy s0 tW N A_t A_t_s A_t_past A_t_begun A_t_text A_t_wins A_t_fits v2_1 t_pasts t_thrown t_typed t_at t_letter t_one t_other t_s _ hF_6) (gV q_882 q_884 q_64 q_88 q_885) hd_X5_isMade ⟨Nat.le_of_ble_eq_true rfl, Nat.le_of_ble_eq_true rfl⟩ rfl rfl rfl rfl rfl rfl rfl rfl rfl hl.1 rfl (Nat.le_of_ble_eq_true rfl) dX5_lays_20 ⟨Nat.zero_le _, Nat.zero_le _⟩ (fun H locs hP hD hS => ?_)
        refine W.eq (g2 := F0 m 23 ls [.int (bI r_5), .int (((1 : Int32) <<< (p0 &&& 31)) + v2_1), .ref A_t_wins]) rfl ?_
        obtain ⟨hi_7, hF⟩ := gd_some hF
        refine ka_zast (x := r_5) (wsN := (w_X5_lays cy A_t A_t_s A_t_past A_t_begun A_t_text A_t_wins A_t_fits t_pasts t_thrown t_typed t_at t_letter t_one t_other t_s (updB t_wins_2 ((((1 : Int32) <<< (p0 &&& 31)) + v2_1).toNatClampNeg) r_5))) hx hb hK hP hD hS 2 rfl ((((1 : Int32) <<< (p0 &&& 31)) + v2_1).toNatClampNeg) rfl (inb_in hi_7) rfl dX5_lays_23 (fun H locs hP hD hS => ?_)
        refine lv_iinc (v := (v2_1 + 1)) (lv' := [(2, .int (v2_1 + 1)), (0, .ref A_t), (1, .int p0)]) hx hb dX5_lays_24 hl (k := 2) rfl (by first | rfl | decide) (by decide) rfl (fun ls hl => ?_)
        refine lv_goto (tgt := 2) hx hb dX5_lays_27 (by decide) ?_
        exact ih (v2_1 + 1) (updB t_wins_2 ((((1 : Int32) <<< (p0 &&& 31)) + v2_1).toNatClampNeg) r_5) H locs ls hF hP hD hS (lv_sub hl [1, 2, 0] rfl)
  refine hloop_2 _ (fun t_wins_3 H locs ls hF hP hD hS hl => ?_) N 0 t_wins _ _ ls hF hP hD hS (lv_sub hl [1, 2, 0] rfl)
  refine lv_iload_n hx hb dX5_lays_30 rfl (lv_at hl 1 rfl) ?_
  refine lv_iconst (v := 1) hx hb dX5_lays_31 (by decide) ?_
  refine lv_isub hx hb dX5_lays_32 ?_
  refine lv_istore_n (lv' := [(2, .int (p0 - 1)), (0, .ref A_t), (1, .int p0)]) hx hb dX5_lays_33 rfl hl (by decide) rfl (fun ls hl => ?_)
  have hloop_34 : ∀ (kont : (Nat → Bool) → Option ((Nat → Bool))), (∀ (t_wins_10 : Nat → Bool) (H : Heap) (locs : List Loc) (ls : Array Slot), kont t_wins_10 = some t_wins9 → va_P D vwCl (w_X5_lays cy A_t A_t_s A_t_past A_t_begun A_t_text A_t_wins A_t_fits t_pasts t_thrown t_typed t_at t_letter t_one t_other t_s t_wins_10) H → va_D A (w_X5_lays cy A_t A_t_s A_t_past A_t_begun A_t_text A_t_wins A_t_fits t_pasts t_thrown t_typed t_at t_letter t_one t_other t_s t_wins_10) → va_S A s.heap H locs → lv_has ls 6 [] → W p l e (rmK 1 23) s m args below meth c H locs 0 0 (MQ below (kQ none D A (w_X5_lays cy A_t A_t_s A_t_past A_t_begun A_t_text A_t_wins A_t_fits t_pasts t_thrown t_typed t_at t_letter t_one t_other t_s t_wins9)) args s 0 0 A) (F0 m 138 ls [])) → ∀ (n : Nat) (v2_8 : Int32) (t_wins_9 : Nat → Bool) (H : Heap) (locs : List Loc) (ls : Array Slot), L_X5_lays_34 N t_s kont n v2_8 t_wins_9 = some t_wins9 → va_P D vwCl (w_X5_lays cy A_t A_t_s A_t_past A_t_begun A_t_text A_t_wins A_t_fits t_pasts t_thrown t_typed t_at t_letter t_one t_other t_s t_wins_9) H → va_D A (w_X5_lays cy A_t A_t_s A_t_past A_t_begun A_t_text A_t_wins A_t_fits t_pasts t_thrown t_typed t_at t_letter t_one t_other t_s t_wins_9) → va_S A s.heap H locs → lv_has ls 6 [(0, .ref A_t), (2, .int v2_8)] → W p l e (rmK 1 23) s m args below meth c H locs 0 0 (MQ below (kQ none D A (w_X5_lays cy A_t A_t_s A_t_past A_t_begun A_t_text A_t_wins A_t_fits t_pasts t_thrown t_typed t_at t_letter t_one t_other t_s t_wins9)) args s 0 0 A) (F0 m 34 ls []) := by
    intro kont hexit_34 n
    induction n with
    | zero =>
      intro v2_8 t_wins_9 H locs ls hF
      rw [L_X5_lays_34] at hF
      cases hF
    | succ n ih =>
      intro v2_8 t_wins_9 H locs ls hF hP hD hS hl
      rw [L_X5_lays_34] at hF
      refine lv_iload_n hx hb dX5_lays_34 rfl (lv_at hl 1 rfl) ?_
      refine lv_if_lt (tgt := 138) hx hb dX5_lays_35 (by decide) (fun c_11 => ?_) (fun c_11 => ?_)
      · replace hF := ite_t c_11 hF
        exact hexit_34 t_wins_9 H locs ls hF hP hD hS (lv_sub hl [] rfl)
      · replace hF := ite_f c_11 hF
        refine lv_iconst (v := 0) hx hb dX5_lays_38 (by decide) ?_
        refine lv_istore_n (lv' := [(3, .int 0), (0, .ref A_t), (2, .int v2_8)]) hx hb dX5_lays_39 rfl hl (by decide) rfl (fun ls hl => ?_)
        have hloop_40 : ∀ (kont : (Nat → Bool) → Option ((Nat → Bool))), (∀ (t_wins_14 : Nat → Bool) (H : Heap) (locs : List Loc) (ls : Array Slot), kont t_wins_14 = some t_wins9 → va_P D vwCl (w_X5_lays cy A_t A_t_s A_t_past A_t_begun A_t_text A_t_wins A_t_fits t_pasts t_thrown t_typed t_at t_letter t_one t_other t_s t_wins_14) H → va_D A (w_X5_lays cy A_t A_t_s A_t_past A_t_begun A_t_text A_t_wins A_t_fits t_pasts t_thrown t_typed t_at t_letter t_one t_other t_s t_wins_14) → va_S A s.heap H locs → lv_has ls 6 [(0, .ref A_t), (2, .int v2_8)] → W p l e (rmK 1 23) s m args below meth c H locs 0 0 (MQ below (kQ none D A (w_X5_lays cy A_t A_t_s A_t_past A_t_begun A_t_text A_t_wins A_t_fits t_pasts t_thrown t_typed t_at t_letter t_one t_other t_s t_wins9)) args s 0 0 A) (F0 m 132 ls [])) → ∀ (n : Nat) (v3_12 : Int32) (t_wins_13 : Nat → Bool) (H : Heap) (locs : List Loc) (ls : Array Slot), L_X5_lays_40 N t_s v2_8 kont n v3_12 t_wins_13 = some t_wins9 → va_P D vwCl (w_X5_lays cy A_t A_t_s A_t_past A_t_begun A_t_text A_t_wins A_t_fits t_pasts t_thrown t_typed t_at t_letter t_one t_other t_s t_wins_13) H → va_D A (w_X5_lays cy A_t A_t_s A_t_past A_t_begun A_t_text A_t_wins A_t_fits t_pasts t_thrown t_typed t_at t_letter t_one t_other t_s t_wins_13) → va_S A s.heap H locs → lv_has ls 6 [(0, .ref A_t), (2, .int v2_8), (3, .int v3_12)] → W p l e (rmK 1 23) s m args below meth c H locs 0 0 (MQ below (kQ none D A (w_X5_lays cy A_t A_t_s A_t_past A_t_begun A_t_text A_t_wins A_t_fits t_pasts t_thrown t_typed t_at t_letter t_one t_other t_s t_wins9)) args s 0 0 A) (F0 m 40 ls []) := by
          intro kont hexit_40 n
          induction n with
          | zero =>
            intro v3_12 t_wins_13 H locs ls hF
            rw [L_X5_lays_40] at hF
            cases hF
          | succ n ih =>
            intro v3_12 t_wins_13 H locs ls hF hP hD hS hl
            rw [L_X5_lays_40] at hF
            refine lv_iload_n hx hb dX5_lays_40 rfl (lv_at hl 2 rfl) ?_
            refine lv_iconst (v := 1) hx hb dX5_lays_41 (by decide) ?_
            refine lv_iload_n hx hb dX5_lays_42 rfl (lv_at hl 1 rfl) ?_
            refine lv_ishl hx hb dX5_lays_43 ?_
            refine lv_icmp_ge (tgt := 132) hx hb dX5_lays_44 (by decide) (fun c_15 => ?_) (fun c_15 => ?_)
            · replace hF := ite_t c_15 hF
              exact hexit_40 t_wins_13 H locs ls hF hP hD hS (lv_sub hl [0, 1] rfl)
            · replace hF := ite_f c_15 hF
              refine lv_aload_n hx hb dX5_lays_47 rfl (lv_at hl 0 rfl) ?_
              refine va_get (D := D) (ci := 5) (v := .ref A_t_wins) (C := RX5) (T := TX5) (N := 13) hx hb hts inX5 hown hK hP 0 rfl rfl 11 (by decide) (hts _ q_742) (fun _ h9 => h9) rfl dX5_lays_48 ?_
              refine lv_iconst (v := 2) hx hb dX5_lays_51 (by decide) ?_
              refine lv_iload_n hx hb dX5_lays_52 rfl (lv_at hl 1 rfl) ?_
              refine lv_ishl hx hb dX5_lays_53 ?_
              refine lv_iload_n hx hb dX5_lays_54 rfl (lv_at hl 2 rfl) ?_
              refine lv_iadd hx hb dX5_lays_55 ?_
              obtain ⟨hi_16, hF⟩ := gd_some hF
              refine ka_zald hx hb hK hP 2 rfl ((((2 : Int32) <<< (v2_8 &&& 31)) + v3_12).toNatClampNeg) rfl (inb_in hi_16) dX5_lays_56 ?_
              refine lv_istore (lv' := [(4, .int (bI (t_wins_13 ((((2 : Int32) <<< (v2_8 &&& 31)) + v3_12).toNatClampNeg)))), (0, .ref A_t), (2, .int v2_8), (3, .int v3_12)]) hx hb dX5_lays_57 hl (by decide) rfl (fun ls hl => ?_)
              refine lv_aload_n hx hb dX5_lays_59 rfl (lv_at hl 1 rfl) ?_
              refine va_get (D := D) (ci := 5) (v := .ref A_t_wins) (C := RX5) (T := TX5) (N := 13) hx hb hts inX5 hown hK hP 0 rfl rfl 11 (by decide) (hts _ q_742) (fun _ h9 => h9) rfl dX5_lays_60 ?_
              refine lv_iconst (v := 2) hx hb dX5_lays_63 (by decide) ?_
              refine lv_iload_n hx hb dX5_lays_64 rfl (lv_at hl 2 rfl) ?_
              refine lv_ishl hx hb dX5_lays_65 ?_
              refine lv_iload_n hx hb dX5_lays_66 rfl (lv_at hl 3 rfl) ?_
              refine lv_iadd hx hb dX5_lays_67 ?_
              refine lv_iconst (v := 1) hx hb dX5_lays_68 (by decide) ?_
              refine lv_iload_n hx hb dX5_lays_69 rfl (lv_at hl 2 rfl) ?_
              refine lv_ishl hx hb dX5_lays_70 ?_
              refine lv_iadd hx hb dX5_lays_71 ?_
              obtain ⟨hi_17, hF⟩ := gd_some hF
              refine ka_zald hx hb hK hP 2 rfl (((((2 : Int32) <<< (v2_8 &&& 31)) + v3_12) + ((1 : Int32) <<< (v2_8 &&& 31))).toNatClampNeg) rfl (inb_in hi_17) dX5_lays_72 ?_
              refine lv_istore (lv' := [(5, .int (bI (t_wins_13 (((((2 : Int32) <<< (v2_8 &&& 31)) + v3_12) + ((1 : Int32) <<< (v2_8 &&& 31))).toNatClampNeg)))), (4, .int (bI (t_wins_13 ((((2 : Int32) <<< (v2_8 &&& 31)) + v3_12).toNatClampNeg)))), (0, .ref A_t), (2, .int v2_8), (3, .int v3_12)]) hx hb dX5_lays_73 hl (by decide) rfl (fun ls hl => ?_)
              refine lv_aload_n hx hb dX5_lays_75 rfl (lv_at hl 2 rfl) ?_
              refine va_get (D := D) (ci := 5) (v := .ref A_t_wins) (C := RX5) (T := TX5) (N := 13) hx hb hts inX5 hown hK hP 0 rfl rfl 11 (by decide) (hts _ q_742) (fun _ h9 => h9) rfl dX5_lays_76 ?_
              refine lv_iconst (v := 1) hx hb dX5_lays_79 (by decide) ?_
              refine lv_iload_n hx hb dX5_lays_80 rfl (lv_at hl 3 rfl) ?_
              refine lv_ishl hx hb dX5_lays_81 ?_
              refine lv_iload_n hx hb dX5_lays_82 rfl (lv_at hl 4 rfl) ?_
              refine lv_iadd hx hb dX5_lays_83 ?_
              refine lv_aload_n hx hb dX5_lays_84 rfl (lv_at hl 2 rfl) ?_
              refine lv_iload_n hx hb dX5_lays_85 rfl (lv_at hl 3 rfl) ?_
              obtain ⟨r_18, hF_19, hF⟩ := ob1_some hF
              refine kcV (q := (RX5, TX5, 13)) (ci := 5) (q0 := 0) (As := [.int v2_8]) (rest := [.int (((1 : Int32) <<< (v2_8 &&& 31)) + v3_12), .ref A_t_wins]) (wr := [(A_t_wins, .inl (cy 3, 1024, .inl (fun j => bI (t_wins_13 j))))]) (wsN := (w_X5_lays cy A_t A_t_s A_t_past A_t_begun A_t_text A_t_wins A_t_fits t_pasts t_thrown t_typed t_at t_letter t_one t_other t_s t_wins_13)) ⟨hx, hb, hml, hown, hts⟩ hE hP hD hS hA hAs [0, 1] [2] [1, 2, 0] (c_X5_isBreakersOwn l D cy s0 tW N A_t A_t_s A_t_past A_t_begun A_t_text A_t_wins A_t_fits v2_8 t_pasts t_thrown t_typed t_at t_letter t_one t_other t_s _ hF_19) (gV q_874 q_876 q_62 q_88 q_877) hd_X5_isBreakersOwn ⟨Nat.le_of_ble_eq_true rfl, Nat.le_of_ble_eq_true rfl⟩ rfl rfl rfl rfl rfl rfl rfl rfl rfl hl.1 rfl (Nat.le_of_ble_eq_true rfl) dX5_lays_86 ⟨Nat.zero_le _, Nat.zero_le _⟩ (fun H locs hP hD hS => ?_)
              refine W.eq (g2 := F0 m 89 ls [.int (bI r_18), .int (((1 : Int32) <<< (v2_8 &&& 31)) + v3_12), .ref A_t_wins]) rfl ?_
              refine lv_if_eq (tgt := 110) hx hb dX5_lays_89 (by decide) (fun c_20 => ?_) (fun c_20 => ?_)
              · replace hF := ite_f (bI_f c_20) hF
                refine lv_iload hx hb dX5_lays_110 (lv_at hl 1 rfl) ?_
                refine lv_if_ne (tgt := 120) hx hb dX5_lays_112 (by decide) (fun c_21 => ?_) (fun c_21 => ?_)
                · replace hF := ite_t (bI_t c_21) hF
                  refine lv_iconst (v := 1) hx hb dX5_lays_120 (by decide) ?_
                  refine lv_goto (tgt := 125) hx hb dX5_lays_121 (by decide) ?_
                  obtain ⟨hi_22, hF⟩ := gd_some hF
                  refine ka_zast (x := true) (wsN := (w_X5_lays cy A_t A_t_s A_t_past A_t_begun A_t_text A_t_wins A_t_fits t_pasts t_thrown t_typed t_at t_letter t_one t_other t_s (updB t_wins_13 ((((1 : Int32) <<< (v2_8 &&& 31)) + v3_12).toNatClampNeg) true))) hx hb hK hP hD hS 2 rfl ((((1 : Int32) <<< (v2_8 &&& 31)) + v3_12).toNatClampNeg) rfl (inb_in hi_22) rfl dX5_lays_125 (fun H locs hP hD hS => ?_)
                  refine lv_iinc (v := (v3_12 + 1)) (lv' := [(3, .int (v3_12 + 1)), (5, .int (bI (t_wins_13 (((((2 : Int32) <<< (v2_8 &&& 31)) + v3_12) + ((1 : Int32) <<< (v2_8 &&& 31))).toNatClampNeg)))), (4, .int (bI (t_wins_13 ((((2 : Int32) <<< (v2_8 &&& 31)) + v3_12).toNatClampNeg)))), (0, .ref A_t), (2, .int v2_8)]) hx hb dX5_lays_126 hl (k := 4) rfl (by first | rfl | decide) (by decide) rfl (fun ls hl => ?_)
                  refine lv_goto (tgt := 40) hx hb dX5_lays_129 (by decide) ?_
                  exact ih (v3_12 + 1) (updB t_wins_13 ((((1 : Int32) <<< (v2_8 &&& 31)) + v3_12).toNatClampNeg) true) H locs ls hF hP hD hS (lv_sub hl [3, 4, 0] rfl)
                · replace hF := ite_f (bI_f c_21) hF
                  refine lv_iload hx hb dX5_lays_115 (lv_at hl 0 rfl) ?_
                  refine lv_if_eq (tgt := 124) hx hb dX5_lays_117 (by decide) (fun c_23 => ?_) (fun c_23 => ?_)
                  · replace hF := ite_f (bI_f c_23) hF
                    refine lv_iconst (v := 0) hx hb dX5_lays_124 (by decide) ?_
                    obtain ⟨hi_24, hF⟩ := gd_some hF
                    refine ka_zast (x := false) (wsN := (w_X5_lays cy A_t A_t_s A_t_past A_t_begun A_t_text A_t_wins A_t_fits t_pasts t_thrown t_typed t_at t_letter t_one t_other t_s (updB t_wins_13 ((((1 : Int32) <<< (v2_8 &&& 31)) + v3_12).toNatClampNeg) false))) hx hb hK hP hD hS 2 rfl ((((1 : Int32) <<< (v2_8 &&& 31)) + v3_12).toNatClampNeg) rfl (inb_in hi_24) rfl dX5_lays_125 (fun H locs hP hD hS => ?_)
                    refine lv_iinc (v := (v3_12 + 1)) (lv' := [(3, .int (v3_12 + 1)), (5, .int (bI (t_wins_13 (((((2 : Int32) <<< (v2_8 &&& 31)) + v3_12) + ((1 : Int32) <<< (v2_8 &&& 31))).toNatClampNeg)))), (4, .int (bI (t_wins_13 ((((2 : Int32) <<< (v2_8 &&& 31)) + v3_12).toNatClampNeg)))), (0, .ref A_t), (2, .int v2_8)]) hx hb dX5_lays_126 hl (k := 4) rfl (by first | rfl | decide) (by decide) rfl (fun ls hl => ?_)
                    refine lv_goto (tgt := 40) hx hb dX5_lays_129 (by decide) ?_
                    exact ih (v3_12 + 1) (updB t_wins_13 ((((1 : Int32) <<< (v2_8 &&& 31)) + v3_12).toNatClampNeg) false) H locs ls hF hP hD hS (lv_sub hl [3, 4, 0] rfl)
                  · replace hF := ite_t (bI_t c_23) hF
                    refine lv_iconst (v := 1) hx hb dX5_lays_120 (by decide) ?_
                    refine lv_goto (tgt := 125) hx hb dX5_lays_121 (by decide) ?_
                    obtain ⟨hi_25, hF⟩ := gd_some hF
                    refine ka_zast (x := true) (wsN := (w_X5_lays cy A_t A_t_s A_t_past A_t_begun A_t_text A_t_wins A_t_fits t_pasts t_thrown t_typed t_at t_letter t_one t_other t_s (updB t_wins_13 ((((1 : Int32) <<< (v2_8 &&& 31)) + v3_12).toNatClampNeg) true))) hx hb hK hP hD hS 2 rfl ((((1 : Int32) <<< (v2_8 &&& 31)) + v3_12).toNatClampNeg) rfl (inb_in hi_25) rfl dX5_lays_125 (fun H locs hP hD hS => ?_)
                    refine lv_iinc (v := (v3_12 + 1)) (lv' := [(3, .int (v3_12 + 1)), (5, .int (bI (t_wins_13 (((((2 : Int32) <<< (v2_8 &&& 31)) + v3_12) + ((1 : Int32) <<< (v2_8 &&& 31))).toNatClampNeg)))), (4, .int (bI (t_wins_13 ((((2 : Int32) <<< (v2_8 &&& 31)) + v3_12).toNatClampNeg)))), (0, .ref A_t), (2, .int v2_8)]) hx hb dX5_lays_126 hl (k := 4) rfl (by first | rfl | decide) (by decide) rfl (fun ls hl => ?_)
                    refine lv_goto (tgt := 40) hx hb dX5_lays_129 (by decide) ?_
                    exact ih (v3_12 + 1) (updB t_wins_13 ((((1 : Int32) <<< (v2_8 &&& 31)) + v3_12).toNatClampNeg) true) H locs ls hF hP hD hS (lv_sub hl [3, 4, 0] rfl)
              · replace hF := ite_t (bI_t c_20) hF
                refine lv_iload hx hb dX5_lays_92 (lv_at hl 1 rfl) ?_
                refine lv_if_eq (tgt := 106) hx hb dX5_lays_94 (by decide) (fun c_26 => ?_) (fun c_26 => ?_)
                · replace hF := ite_f (bI_f c_26) hF
                  refine lv_iconst (v := 0) hx hb dX5_lays_106 (by decide) ?_
                  refine lv_goto (tgt := 125) hx hb dX5_lays_107 (by decide) ?_
                  obtain ⟨hi_27, hF⟩ := gd_some hF
                  refine ka_zast (x := false) (wsN := (w_X5_lays cy A_t A_t_s A_t_past A_t_begun A_t_text A_t_wins A_t_fits t_pasts t_thrown t_typed t_at t_letter t_one t_other t_s (updB t_wins_13 ((((1 : Int32) <<< (v2_8 &&& 31)) + v3_12).toNatClampNeg) false))) hx hb hK hP hD hS 2 rfl ((((1 : Int32) <<< (v2_8 &&& 31)) + v3_12).toNatClampNeg) rfl (inb_in hi_27) rfl dX5_lays_125 (fun H locs hP hD hS => ?_)
                  refine lv_iinc (v := (v3_12 + 1)) (lv' := [(3, .int (v3_12 + 1)), (5, .int (bI (t_wins_13 (((((2 : Int32) <<< (v2_8 &&& 31)) + v3_12) + ((1 : Int32) <<< (v2_8 &&& 31))).toNatClampNeg)))), (4, .int (bI (t_wins_13 ((((2 : Int32) <<< (v2_8 &&& 31)) + v3_12).toNatClampNeg)))), (0, .ref A_t), (2, .int v2_8)]) hx hb dX5_lays_126 hl (k := 4) rfl (by first | rfl | decide) (by decide) rfl (fun ls hl => ?_)
                  refine lv_goto (tgt := 40) hx hb dX5_lays_129 (by decide) ?_
                  exact ih (v3_12 + 1) (updB t_wins_13 ((((1 : Int32) <<< (v2_8 &&& 31)) + v3_12).toNatClampNeg) false) H locs ls hF hP hD hS (lv_sub hl [3, 4, 0] rfl)
                · replace hF := ite_t (bI_t c_26) hF
                  refine lv_iload hx hb dX5_lays_97 (lv_at hl 0 rfl) ?_
                  refine lv_if_eq (tgt := 106) hx hb dX5_lays_99 (by decide) (fun c_28 => ?_) (fun c_28 => ?_)
                  · replace hF := ite_f (bI_f c_28) hF
                    refine lv_iconst (v := 0) hx hb dX5_lays_106 (by decide) ?_
                    refine lv_goto (tgt := 125) hx hb dX5_lays_107 (by decide) ?_
                    obtain ⟨hi_29, hF⟩ := gd_some hF
                    refine ka_zast (x := false) (wsN := (w_X5_lays cy A_t A_t_s A_t_past A_t_begun A_t_text A_t_wins A_t_fits t_pasts t_thrown t_typed t_at t_letter t_one t_other t_s (updB t_wins_13 ((((1 : Int32) <<< (v2_8 &&& 31)) + v3_12).toNatClampNeg) false))) hx hb hK hP hD hS 2 rfl ((((1 : Int32) <<< (v2_8 &&& 31)) + v3_12).toNatClampNeg) rfl (inb_in hi_29) rfl dX5_lays_125 (fun H locs hP hD hS => ?_)
                    refine lv_iinc (v := (v3_12 + 1)) (lv' := [(3, .int (v3_12 + 1)), (5, .int (bI (t_wins_13 (((((2 : Int32) <<< (v2_8 &&& 31)) + v3_12) + ((1 : Int32) <<< (v2_8 &&& 31))).toNatClampNeg)))), (4, .int (bI (t_wins_13 ((((2 : Int32) <<< (v2_8 &&& 31)) + v3_12).toNatClampNeg)))), (0, .ref A_t), (2, .int v2_8)]) hx hb dX5_lays_126 hl (k := 4) rfl (by first | rfl | decide) (by decide) rfl (fun ls hl => ?_)
                    refine lv_goto (tgt := 40) hx hb dX5_lays_129 (by decide) ?_
                    exact ih (v3_12 + 1) (updB t_wins_13 ((((1 : Int32) <<< (v2_8 &&& 31)) + v3_12).toNatClampNeg) false) H locs ls hF hP hD hS (lv_sub hl [3, 4, 0] rfl)
                  · replace hF := ite_t (bI_t c_28) hF
                    refine lv_iconst (v := 1) hx hb dX5_lays_102 (by decide) ?_
                    refine lv_goto (tgt := 125) hx hb dX5_lays_103 (by decide) ?_
                    obtain ⟨hi_30, hF⟩ := gd_some hF
                    refine ka_zast (x := true) (wsN := (w_X5_lays cy A_t A_t_s A_t_past A_t_begun A_t_text A_t_wins A_t_fits t_pasts t_thrown t_typed t_at t_letter t_one t_other t_s (updB t_wins_13 ((((1 : Int32) <<< (v2_8 &&& 31)) + v3_12).toNatClampNeg) true))) hx hb hK hP hD hS 2 rfl ((((1 : Int32) <<< (v2_8 &&& 31)) + v3_12).toNatClampNeg) rfl (inb_in hi_30) rfl dX5_lays_125 (fun H locs hP hD hS => ?_)
                    refine lv_iinc (v := (v3_12 + 1)) (lv' := [(3, .int (v3_12 + 1)), (5, .int (bI (t_wins_13 (((((2 : Int32) <<< (v2_8 &&& 31)) + v3_12) + ((1 : Int32) <<< (v2_8 &&& 31))).toNatClampNeg)))), (4, .int (bI (t_wins_13 ((((2 : Int32) <<< (v2_8 &&& 31)) + v3_12).toNatClampNeg)))), (0, .ref A_t), (2, .int v2_8)]) hx hb dX5_lays_126 hl (k := 4) rfl (by first | rfl | decide) (by decide) rfl (fun ls hl => ?_)
                    refine lv_goto (tgt := 40) hx hb dX5_lays_129 (by decide) ?_
                    exact ih (v3_12 + 1) (updB t_wins_13 ((((1 : Int32) <<< (v2_8 &&& 31)) + v3_12).toNatClampNeg) true) H locs ls hF hP hD hS (lv_sub hl [3, 4, 0] rfl)
        refine hloop_40 _ (fun t_wins_14 H locs ls hF hP hD hS hl => ?_) N 0 t_wins_9 _ _ ls hF hP hD hS (lv_sub hl [1, 2, 0] rfl)
        refine lv_iinc (v := (v2_8 + (-1))) (lv' := [(2, .int (v2_8 + (-1))), (0, .ref A_t)]) hx hb dX5_lays_132 hl (k := 1) rfl (by first | rfl | decide) (by decide) rfl (fun ls hl => ?_)
        refine lv_goto (tgt := 34) hx hb dX5_lays_135 (by decide) ?_
        exact ih (v2_8 + (-1)) t_wins_14 H locs ls hF hP hD hS (lv_sub hl [1, 0] rfl)
  refine hloop_34 _ (fun t_wins_10 H locs ls hF hP hD hS hl => ?_) N (p0 - 1) t_wins_3 _ _ ls hF hP hD hS (lv_sub hl [1, 0] rfl)
  cases hF
  exact kret_v hx hb hr hlocks hP hD hS dX5_lays_138

abbrev w_X5_isAs (cy : Nat → ClassId) (A_t : Nat) (A_t_s : Nat) (A_t_past : Nat) (A_t_begun : Nat) (A_t_text : Nat) (A_t_wins : Nat) (A_t_fits : Nat) (t_pasts : Int32) (t_thrown : Int32) (t_typed : Int32) (t_at : Int32) (t_letter : Int32) (t_one : Int32) (t_other : Int32) (t_s : Nat → Int32) : va_W := [(A_t, .inr (5, [.ref A_t_s, .ref A_t_past, .ref A_t_begun, .int t_pasts, .int t_thrown, .ref A_t_text, .int t_typed, .int t_at, .int t_letter, .int t_one, .int t_other, .ref A_t_wins, .ref A_t_fits])), (A_t_s, .inl (cy 0, 45, .inl t_s))]
def L_X5_isAs_9 (N : Nat) (t_s : Nat → Int32) (p0 : Int32) (p1 : Int32) (p2 : Int32) (kont : Bool → Option (Bool)) : Nat → Bool → Int32 → Int32 → Option (Bool)
  | 0, _, _, _ => none
  | n + 1, v4_1, v5_2, v6_3 => (if p1 ≤ v6_3 then kont v4_1 else ob1 (F_X5_isBreakersOwn N v6_3 t_s) (fun r_6 => (if r_6 = true then (if v4_1 = true then (if ((p0 >>> (v5_2 &&& 31)) &&& 1) = ((p2 >>> (v6_3 &&& 31)) &&& 1) then L_X5_isAs_9 N t_s p0 p1 p2 kont n true (v5_2 + 1) (v6_3 + 1) else L_X5_isAs_9 N t_s p0 p1 p2 kont n false (v5_2 + 1) (v6_3 + 1)) else L_X5_isAs_9 N t_s p0 p1 p2 kont n false (v5_2 + 1) (v6_3 + 1)) else L_X5_isAs_9 N t_s p0 p1 p2 kont n v4_1 v5_2 (v6_3 + 1))))
def F_X5_isAs (N : Nat) (p0 : Int32) (p1 : Int32) (p2 : Int32) (t_s : Nat → Int32) : Option (Bool) :=
  (L_X5_isAs_9 N t_s p0 p1 p2 (fun u4_4 => some u4_4) N true 0 0)
set_option maxHeartbeats 4000000 in
set_option maxRecDepth 100000 in
theorem c_X5_isAs (l : Launch) (D : va_G) (cy : Nat → ClassId) (s0 tW N : Nat) (A_t : Nat) (A_t_s : Nat) (A_t_past : Nat) (A_t_begun : Nat) (A_t_text : Nat) (A_t_wins : Nat) (A_t_fits : Nat) (p0 : Int32) (p1 : Int32) (p2 : Int32) (t_pasts : Int32) (t_thrown : Int32) (t_typed : Int32) (t_at : Int32) (t_letter : Int32) (t_one : Int32) (t_other : Int32) (t_s : Nat → Int32) (sz : Nat) {r9 : Bool} (hF : F_X5_isAs N p0 p1 p2 t_s = some r9) : KM l D cy s0 tW yX5_isAs cX5_isAs 7 (some .boolean) 1 21 [.ref A_t, .int p0, .int p1, .int p2] sz (w_X5_isAs cy A_t A_t_s A_t_past A_t_begun A_t_text A_t_wins A_t_fits t_pasts t_thrown t_typed t_at t_letter t_one t_other t_s) (some (.int (bI r9))) (w_X5_isAs cy A_t A_t_s A_t_past A_t_begun A_t_text A_t_wins A_t_fits t_pasts t_thrown t_typed t_at t_letter t_one t_other t_s) := by
  refine KM.intro rfl (Nat.le_of_ble_eq_true rfl) ?_
  intro p e s m args below meth c A ls hx hb hr hml hown hts hlocks hE hP hD hS hA hAs hl
  have hK := hE.1
  have hl : lv_has ls 7 [(0, .ref A_t), (1, .int p0), (2, .int p1), (3, .int p2)] := hl
  unfold F_X5_isAs at hF
  refine lv_iconst (v := 1) hx hb dX5_isAs_0 (by decide) ?_
  refine lv_istore (lv' := [(4, .int 1), (0, .ref A_t), (1, .int p0), (2, .int p1), (3, .int p2)]) hx hb dX5_isAs_1 hl (by decide) rfl (fun ls hl => ?_)
  refine lv_iconst (v := 0) hx hb dX5_isAs_3 (by decide) ?_
  refine lv_istore (lv' := [(5, .int 0), (4, .int 1), (0, .ref A_t), (1, .int p0), (2, .int p1), (3, .int p2)]) hx hb dX5_isAs_4 hl (by decide) rfl (fun ls hl => ?_)
  refine lv_iconst (v := 0) hx hb dX5_isAs_6 (by decide) ?_
  refine lv_istore (lv' := [(6, .int 0), (5, .int 0), (4, .int 1), (0, .ref A_t), (1, .int p0), (2, .int p1), (3, .int p2)]) hx hb dX5_isAs_7 hl (by decide) rfl (fun ls hl => ?_)
  have hloop_9 : ∀ (kont : Bool → Option (Bool)), (∀ (u4_4 : Bool) (H : Heap) (locs : List Loc) (ls : Array Slot), kont u4_4 = some r9 → va_P D vwCl (w_X5_isAs cy A_t A_t_s A_t_past A_t_begun A_t_text A_t_wins A_t_fits t_pasts t_thrown t_typed t_at t_letter t_one t_other t_s) H → va_D A (w_X5_isAs cy A_t A_t_s A_t_past A_t_begun A_t_text A_t_wins A_t_fits t_pasts t_thrown t_typed t_at t_letter t_one t_other t_s) → va_S A s.heap H locs → lv_has ls 7 [(4, .int (bI u4_4))] → W p l e (rmK 1 21) s m args below meth c H locs 0 0 (MQ below (kQ (some (.int (bI r9))) D A (w_X5_isAs cy A_t A_t_s A_t_past A_t_begun A_t_text A_t_wins A_t_fits t_pasts t_thrown t_typed t_at t_letter t_one t_other t_s)) args s 0 0 A) (F0 m 60 ls [])) → ∀ (n : Nat) (v4_1 : Bool) (v5_2 : Int32) (v6_3 : Int32) (H : Heap) (locs : List Loc) (ls : Array Slot), L_X5_isAs_9 N t_s p0 p1 p2 kont n v4_1 v5_2 v6_3 = some r9 → va_P D vwCl (w_X5_isAs cy A_t A_t_s A_t_past A_t_begun A_t_text A_t_wins A_t_fits t_pasts t_thrown t_typed t_at t_letter t_one t_other t_s) H → va_D A (w_X5_isAs cy A_t A_t_s A_t_past A_t_begun A_t_text A_t_wins A_t_fits t_pasts t_thrown t_typed t_at t_letter t_one t_other t_s) → va_S A s.heap H locs → lv_has ls 7 [(0, .ref A_t), (1, .int p0), (2, .int p1), (3, .int p2), (4, .int (bI v4_1)), (5, .int v5_2), (6, .int v6_3)] → W p l e (rmK 1 21) s m args below meth c H locs 0 0 (MQ below (kQ (some (.int (bI r9))) D A (w_X5_isAs cy A_t A_t_s A_t_past A_t_begun A_t_text A_t_wins A_t_fits t_pasts t_thrown t_typed t_at t_letter t_one t_other t_s)) args s 0 0 A) (F0 m 9 ls []) := by
    intro kont hexit_9 n
    induction n with
    | zero =>
      intro v4_1 v5_2 v6_3 H locs ls hF
      rw [L_X5_isAs_9] at hF
      cases hF
    | succ n ih =>
      intro v4_1 v5_2 v6_3 H locs ls hF hP hD hS hl
      rw [L_X5_isAs_9] at hF
      refine lv_iload hx hb dX5_isAs_9 (lv_at hl 6 rfl) ?_
      refine lv_iload_n hx hb dX5_isAs_11 rfl (lv_at hl 2 rfl) ?_
      refine lv_icmp_ge (tgt := 60) hx hb dX5_isAs_12 (by decide) (fun c_5 => ?_) (fun c_5 => ?_)
      · replace hF := ite_t c_5 hF
        exact hexit_9 v4_1 H locs ls hF hP hD hS (lv_sub hl [4] rfl)
      · replace hF := ite_f c_5 hF
        refine lv_aload_n hx hb dX5_isAs_15 rfl (lv_at hl 0 rfl) ?_
        refine lv_iload hx hb dX5_isAs_16 (lv_at hl 6 rfl) ?_
        obtain ⟨r_6, hF_7, hF⟩ := ob1_some hF
        refine kcV (q := (RX5, TX5, 13)) (ci := 5) (q0 := 0) (As := [.int v6_3]) (rest := []) (wr := []) (wsN := (w_X5_isAs cy A_t A_t_s A_t_past A_t_begun A_t_text A_t_wins A_t_fits t_pasts t_thrown t_typed t_at t_letter t_one t_other t_s)) ⟨hx, hb, hml, hown, hts⟩ hE hP hD hS hA hAs [0, 1] [] [0, 1] (c_X5_isBreakersOwn l D cy s0 tW N A_t A_t_s A_t_past A_t_begun A_t_text A_t_wins A_t_fits v6_3 t_pasts t_thrown t_typed t_at t_letter t_one t_other t_s _ hF_7) (gV q_874 q_876 q_62 q_88 q_877) hd_X5_isBreakersOwn ⟨Nat.le_of_ble_eq_true rfl, Nat.le_of_ble_eq_true rfl⟩ rfl rfl rfl rfl rfl rfl rfl rfl rfl hl.1 rfl (Nat.le_of_ble_eq_true rfl) dX5_isAs_18 ⟨Nat.zero_le _, Nat.zero_le _⟩ (fun H locs hP hD hS => ?_)
        refine W.eq (g2 := F0 m 21 ls [.int (bI r_6)]) rfl ?_
        refine lv_if_eq (tgt := 54) hx hb dX5_isAs_21 (by decide) (fun c_8 => ?_) (fun c_8 => ?_)
        · replace hF := ite_f (bI_f c_8) hF
          refine lv_iinc (v := (v6_3 + 1)) (lv' := [(6, .int (v6_3 + 1)), (0, .ref A_t), (1, .int p0), (2, .int p1), (3, .int p2), (4, .int (bI v4_1)), (5, .int v5_2)]) hx hb dX5_isAs_54 hl (k := 6) rfl (by first | rfl | decide) (by decide) rfl (fun ls hl => ?_)
          refine lv_goto (tgt := 9) hx hb dX5_isAs_57 (by decide) ?_
          exact ih v4_1 v5_2 (v6_3 + 1) H locs ls hF hP hD hS (lv_sub hl [1, 2, 3, 4, 5, 6, 0] rfl)
        · replace hF := ite_t (bI_t c_8) hF
          refine lv_iload hx hb dX5_isAs_24 (lv_at hl 4 rfl) ?_
          refine lv_if_eq (tgt := 48) hx hb dX5_isAs_26 (by decide) (fun c_9 => ?_) (fun c_9 => ?_)
          · replace hF := ite_f (bI_f c_9) hF
            refine lv_iconst (v := 0) hx hb dX5_isAs_48 (by decide) ?_
            refine lv_istore (lv' := [(4, .int 0), (0, .ref A_t), (1, .int p0), (2, .int p1), (3, .int p2), (5, .int v5_2), (6, .int v6_3)]) hx hb dX5_isAs_49 hl (by decide) rfl (fun ls hl => ?_)
            refine lv_iinc (v := (v5_2 + 1)) (lv' := [(5, .int (v5_2 + 1)), (4, .int 0), (0, .ref A_t), (1, .int p0), (2, .int p1), (3, .int p2), (6, .int v6_3)]) hx hb dX5_isAs_51 hl (k := 5) rfl (by first | rfl | decide) (by decide) rfl (fun ls hl => ?_)
            refine lv_iinc (v := (v6_3 + 1)) (lv' := [(6, .int (v6_3 + 1)), (5, .int (v5_2 + 1)), (4, .int 0), (0, .ref A_t), (1, .int p0), (2, .int p1), (3, .int p2)]) hx hb dX5_isAs_54 hl (k := 6) rfl (by first | rfl | decide) (by decide) rfl (fun ls hl => ?_)
            refine lv_goto (tgt := 9) hx hb dX5_isAs_57 (by decide) ?_
            exact ih false (v5_2 + 1) (v6_3 + 1) H locs ls hF hP hD hS (lv_sub hl [3, 4, 5, 6, 2, 1, 0] rfl)
          · replace hF := ite_t (bI_t c_9) hF
            refine lv_iload_n hx hb dX5_isAs_29 rfl (lv_at hl 1 rfl) ?_
            refine lv_iload hx hb dX5_isAs_30 (lv_at hl 5 rfl) ?_
            refine lv_ishr hx hb dX5_isAs_32 ?_
            refine lv_iconst (v := 1) hx hb dX5_isAs_33 (by decide) ?_
            refine lv_iand hx hb dX5_isAs_34 ?_
            refine lv_iload_n hx hb dX5_isAs_35 rfl (lv_at hl 3 rfl) ?_
            refine lv_iload hx hb dX5_isAs_36 (lv_at hl 6 rfl) ?_
            refine lv_ishr hx hb dX5_isAs_38 ?_
            refine lv_iconst (v := 1) hx hb dX5_isAs_39 (by decide) ?_
            refine lv_iand hx hb dX5_isAs_40 ?_
            refine lv_icmp_ne (tgt := 48) hx hb dX5_isAs_41 (by decide) (fun c_10 => ?_) (fun c_10 => ?_)
            · replace hF := ite_f c_10 hF
              refine lv_iconst (v := 0) hx hb dX5_isAs_48 (by decide) ?_
              refine lv_istore (lv' := [(4, .int 0), (0, .ref A_t), (1, .int p0), (2, .int p1), (3, .int p2), (5, .int v5_2), (6, .int v6_3)]) hx hb dX5_isAs_49 hl (by decide) rfl (fun ls hl => ?_)
              refine lv_iinc (v := (v5_2 + 1)) (lv' := [(5, .int (v5_2 + 1)), (4, .int 0), (0, .ref A_t), (1, .int p0), (2, .int p1), (3, .int p2), (6, .int v6_3)]) hx hb dX5_isAs_51 hl (k := 5) rfl (by first | rfl | decide) (by decide) rfl (fun ls hl => ?_)
              refine lv_iinc (v := (v6_3 + 1)) (lv' := [(6, .int (v6_3 + 1)), (5, .int (v5_2 + 1)), (4, .int 0), (0, .ref A_t), (1, .int p0), (2, .int p1), (3, .int p2)]) hx hb dX5_isAs_54 hl (k := 6) rfl (by first | rfl | decide) (by decide) rfl (fun ls hl => ?_)
              refine lv_goto (tgt := 9) hx hb dX5_isAs_57 (by decide) ?_
              exact ih false (v5_2 + 1) (v6_3 + 1) H locs ls hF hP hD hS (lv_sub hl [3, 4, 5, 6, 2, 1, 0] rfl)
            · replace hF := ite_t c_10 hF
              refine lv_iconst (v := 1) hx hb dX5_isAs_44 (by decide) ?_
              refine lv_goto (tgt := 49) hx hb dX5_isAs_45 (by decide) ?_
              refine lv_istore (lv' := [(4, .int 1), (0, .ref A_t), (1, .int p0), (2, .int p1), (3, .int p2), (5, .int v5_2), (6, .int v6_3)]) hx hb dX5_isAs_49 hl (by decide) rfl (fun ls hl => ?_)
              refine lv_iinc (v := (v5_2 + 1)) (lv' := [(5, .int (v5_2 + 1)), (4, .int 1), (0, .ref A_t), (1, .int p0), (2, .int p1), (3, .int p2), (6, .int v6_3)]) hx hb dX5_isAs_51 hl (k := 5) rfl (by first | rfl | decide) (by decide) rfl (fun ls hl => ?_)
              refine lv_iinc (v := (v6_3 + 1)) (lv' := [(6, .int (v6_3 + 1)), (5, .int (v5_2 + 1)), (4, .int 1), (0, .ref A_t), (1, .int p0), (2, .int p1), (3, .int p2)]) hx hb dX5_isAs_54 hl (k := 6) rfl (by first | rfl | decide) (by decide) rfl (fun ls hl => ?_)
              refine lv_goto (tgt := 9) hx hb dX5_isAs_57 (by decide) ?_
              exact ih true (v5_2 + 1) (v6_3 + 1) H locs ls hF hP hD hS (lv_sub hl [3, 4, 5, 6, 2, 1, 0] rfl)
  refine hloop_9 _ (fun u4_4 H locs ls hF hP hD hS hl => ?_) N true 0 0 _ _ ls hF hP hD hS (lv_sub hl [3, 4, 5, 6, 2, 1, 0] rfl)
  refine lv_iload hx hb dX5_isAs_60 (lv_at hl 0 rfl) ?_
  cases hF
  exact kret_z hx hb hr hlocks hP hD hS dX5_isAs_62

theorem q_61 : Cond.selects RX5 yX5_isAs yX5_isAs ∈ wAll := wAll_mem 61 (by decide +kernel) (by decide +kernel)
theorem q_743 : Cond.fieldLink RX5 27 "ForAllGameModel" "fits" "[I" ∈ wAll := wAll_mem 743 (by decide +kernel) (by decide +kernel)
theorem q_870 : Cond.methodLink RX5 89 yX5_isAs ∈ wAll := wAll_mem 870 (by decide +kernel) (by decide +kernel)
theorem q_872 : Cond.instanceMethod yX5_isAs ∈ wAll := wAll_mem 872 (by decide +kernel) (by decide +kernel)
theorem q_873 : Cond.code yX5_isAs cX5_isAs 7 (some .boolean) ∈ wAll := wAll_mem 873 (by decide +kernel) (by decide +kernel)
theorem hd_X5_isAs : yX5_isAs.cls = RX5 ∧ yX5_isAs.cls ≠ "java/lang/invoke/MethodHandle" ∧ yX5_isAs.cls ≠ "java/lang/invoke/VarHandle" ∧ (parseMethodDescriptor yX5_isAs.desc).map (fun d => d.parameters.length) = some 3 := by decide +kernel
abbrev w_X5_finds (cy : Nat → ClassId) (A_t : Nat) (A_t_s : Nat) (A_t_past : Nat) (A_t_begun : Nat) (A_t_text : Nat) (A_t_wins : Nat) (A_t_fits : Nat) (t_pasts : Int32) (t_thrown : Int32) (t_typed : Int32) (t_at : Int32) (t_letter : Int32) (t_one : Int32) (t_other : Int32) (t_s : Nat → Int32) (t_fits : Nat → Int32) : va_W := [(A_t, .inr (5, [.ref A_t_s, .ref A_t_past, .ref A_t_begun, .int t_pasts, .int t_thrown, .ref A_t_text, .int t_typed, .int t_at, .int t_letter, .int t_one, .int t_other, .ref A_t_wins, .ref A_t_fits])), (A_t_s, .inl (cy 0, 45, .inl t_s)), (A_t_fits, .inl (cy 0, 1024, .inl t_fits))]
def L_X5_finds_26 (N : Nat) (t_s : Nat → Int32) (v1_1 : Int32) (v2_5 : Int32) (kont : Int32 → Option ((Nat → Int32))) : Nat → Int32 → Int32 → Option ((Nat → Int32))
  | 0, _, _ => none
  | n + 1, v3_9, v4_10 => ob1 (F_X5_plays N t_s) (fun r_12 => (if r_12 ≤ v4_10 then kont v3_9 else ob1 (F_X5_isAs N v4_10 v1_1 v2_5 t_s) (fun r_15 => (if r_15 = true then L_X5_finds_26 N t_s v1_1 v2_5 kont n (v3_9 ||| ((1 : Int32) <<< (v4_10 &&& 31))) (v4_10 + 1) else L_X5_finds_26 N t_s v1_1 v2_5 kont n (v3_9 ||| 0) (v4_10 + 1)))))
def L_X5_finds_14 (N : Nat) (t_s : Nat → Int32) (v1_1 : Int32) (kont : (Nat → Int32) → Option ((Nat → Int32))) : Nat → Int32 → (Nat → Int32) → Option ((Nat → Int32))
  | 0, _, _ => none
  | n + 1, v2_5, t_fits_6 => (if ((1 : Int32) <<< (v1_1 &&& 31)) ≤ v2_5 then kont t_fits_6 else (L_X5_finds_26 N t_s v1_1 v2_5 (fun u3_11 => gd (inb (((1 : Int32) <<< (v1_1 &&& 31)) + v2_5) 1024) (L_X5_finds_14 N t_s v1_1 kont n (v2_5 + 1) (upd t_fits_6 ((((1 : Int32) <<< (v1_1 &&& 31)) + v2_5).toNatClampNeg) u3_11))) N 0 0))
def L_X5_finds_2 (N : Nat) (t_s : Nat → Int32) (kont : (Nat → Int32) → Option ((Nat → Int32))) : Nat → Int32 → (Nat → Int32) → Option ((Nat → Int32))
  | 0, _, _ => none
  | n + 1, v1_1, t_fits_2 => (if (t_s 0) < v1_1 then kont t_fits_2 else (L_X5_finds_14 N t_s v1_1 (fun t_fits_7 => L_X5_finds_2 N t_s kont n (v1_1 + 1) t_fits_7) N 0 t_fits_2))
def F_X5_finds (N : Nat) (t_s : Nat → Int32) (t_fits : Nat → Int32) : Option ((Nat → Int32)) :=
  (L_X5_finds_2 N t_s (fun t_fits_3 => some t_fits_3) N 0 t_fits)
set_option maxHeartbeats 4000000 in
set_option maxRecDepth 100000 in
theorem c_X5_finds (l : Launch) (D : va_G) (cy : Nat → ClassId) (s0 tW N : Nat) (A_t : Nat) (A_t_s : Nat) (A_t_past : Nat) (A_t_begun : Nat) (A_t_text : Nat) (A_t_wins : Nat) (A_t_fits : Nat) (t_pasts : Int32) (t_thrown : Int32) (t_typed : Int32) (t_at : Int32) (t_letter : Int32) (t_one : Int32) (t_other : Int32) (t_s : Nat → Int32) (t_fits : Nat → Int32) (sz : Nat) {t_fits9 : Nat → Int32} (hF : F_X5_finds N t_s t_fits = some t_fits9) : KM l D cy s0 tW yX5_finds cX5_finds 5 none 2 47 [.ref A_t] sz (w_X5_finds cy A_t A_t_s A_t_past A_t_begun A_t_text A_t_wins A_t_fits t_pasts t_thrown t_typed t_at t_letter t_one t_other t_s t_fits) none (w_X5_finds cy A_t A_t_s A_t_past A_t_begun A_t_text A_t_wins A_t_fits t_pasts t_thrown t_typed t_at t_letter t_one t_other t_s t_fits9) := by
  refine KM.intro rfl (Nat.le_of_ble_eq_true rfl) ?_
  intro p e s m args below meth c A ls hx hb hr hml hown hts hlocks hE hP hD hS hA hAs hl
  have hK := hE.1
  have hl : lv_has ls 5 [(0, .ref A_t)] := hl
  unfold F_X5_finds at hF
  refine lv_iconst (v := 0) hx hb dX5_finds_0 (by decide) ?_
  refine lv_istore_n (lv' := [(1, .int 0), (0, .ref A_t)]) hx hb dX5_finds_1 rfl hl (by decide) rfl (fun ls hl => ?_)
  have hloop_2 : ∀ (kont : (Nat → Int32) → Option ((Nat → Int32))), (∀ (t_fits_3 : Nat → Int32) (H : Heap) (locs : List Loc) (ls : Array Slot), kont t_fits_3 = some t_fits9 → va_P D vwCl (w_X5_finds cy A_t A_t_s A_t_past A_t_begun A_t_text A_t_wins A_t_fits t_pasts t_thrown t_typed t_at t_letter t_one t_other t_s t_fits_3) H → va_D A (w_X5_finds cy A_t A_t_s A_t_past A_t_begun A_t_text A_t_wins A_t_fits t_pasts t_thrown t_typed t_at t_letter t_one t_other t_s t_fits_3) → va_S A s.heap H locs → lv_has ls 5 [] → W p l e (rmK 2 47) s m args below meth c H locs 0 0 (MQ below (kQ none D A (w_X5_finds cy A_t A_t_s A_t_past A_t_begun A_t_text A_t_wins A_t_fits t_pasts t_thrown t_typed t_at t_letter t_one t_other t_s t_fits9)) args s 0 0 A) (F0 m 86 ls [])) → ∀ (n : Nat) (v1_1 : Int32) (t_fits_2 : Nat → Int32) (H : Heap) (locs : List Loc) (ls : Array Slot), L_X5_finds_2 N t_s kont n v1_1 t_fits_2 = some t_fits9 → va_P D vwCl (w_X5_finds cy A_t A_t_s A_t_past A_t_begun A_t_text A_t_wins A_t_fits t_pasts t_thrown t_typed t_at t_letter t_one t_other t_s t_fits_2) H → va_D A (w_X5_finds cy A_t A_t_s A_t_past A_t_begun A_t_text A_t_wins A_t_fits t_pasts t_thrown t_typed t_at t_letter t_one t_other t_s t_fits_2) → va_S A s.heap H locs → lv_has ls 5 [(0, .ref A_t), (1, .int v1_1)] → W p l e (rmK 2 47) s m args below meth c H locs 0 0 (MQ below (kQ none D A (w_X5_finds cy A_t A_t_s A_t_past A_t_begun A_t_text A_t_wins A_t_fits t_pasts t_thrown t_typed t_at t_letter t_one t_other t_s t_fits9)) args s 0 0 A) (F0 m 2 ls []) := by
    intro kont hexit_2 n
    induction n with
    | zero =>
      intro v1_1 t_fits_2 H locs ls hF
      rw [L_X5_finds_2] at hF
      cases hF
    | succ n ih =>
      intro v1_1 t_fits_2 H locs ls hF hP hD hS hl
      rw [L_X5_finds_2] at hF
      refine lv_iload_n hx hb dX5_finds_2 rfl (lv_at hl 1 rfl) ?_
      refine lv_aload_n hx hb dX5_finds_3 rfl (lv_at hl 0 rfl) ?_
      refine va_get (D := D) (ci := 5) (v := .ref A_t_s) (C := RX5) (T := TX5) (N := 13) hx hb hts inX5 hown hK hP 0 rfl rfl 0 (by decide) (hts _ q_731) (fun _ h9 => h9) rfl dX5_finds_4 ?_
      refine lv_iconst (v := 0) hx hb dX5_finds_7 (by decide) ?_
      refine ka_iald hx hb hK hP 1 rfl (0) rfl (inb_in (by decide)) dX5_finds_8 ?_
      refine lv_icmp_gt (tgt := 86) hx hb dX5_finds_9 (by decide) (fun c_4 => ?_) (fun c_4 => ?_)
      · replace hF := ite_t c_4 hF
        exact hexit_2 t_fits_2 H locs ls hF hP hD hS (lv_sub hl [] rfl)
      · replace hF := ite_f c_4 hF
        refine lv_iconst (v := 0) hx hb dX5_finds_12 (by decide) ?_
        refine lv_istore_n (lv' := [(2, .int 0), (0, .ref A_t), (1, .int v1_1)]) hx hb dX5_finds_13 rfl hl (by decide) rfl (fun ls hl => ?_)
        have hloop_14 : ∀ (kont : (Nat → Int32) → Option ((Nat → Int32))), (∀ (t_fits_7 : Nat → Int32) (H : Heap) (locs : List Loc) (ls : Array Slot), kont t_fits_7 = some t_fits9 → va_P D vwCl (w_X5_finds cy A_t A_t_s A_t_past A_t_begun A_t_text A_t_wins A_t_fits t_pasts t_thrown t_typed t_at t_letter t_one t_other t_s t_fits_7) H → va_D A (w_X5_finds cy A_t A_t_s A_t_past A_t_begun A_t_text A_t_wins A_t_fits t_pasts t_thrown t_typed t_at t_letter t_one t_other t_s t_fits_7) → va_S A s.heap H locs → lv_has ls 5 [(0, .ref A_t), (1, .int v1_1)] → W p l e (rmK 2 47) s m args below meth c H locs 0 0 (MQ below (kQ none D A (w_X5_finds cy A_t A_t_s A_t_past A_t_begun A_t_text A_t_wins A_t_fits t_pasts t_thrown t_typed t_at t_letter t_one t_other t_s t_fits9)) args s 0 0 A) (F0 m 80 ls [])) → ∀ (n : Nat) (v2_5 : Int32) (t_fits_6 : Nat → Int32) (H : Heap) (locs : List Loc) (ls : Array Slot), L_X5_finds_14 N t_s v1_1 kont n v2_5 t_fits_6 = some t_fits9 → va_P D vwCl (w_X5_finds cy A_t A_t_s A_t_past A_t_begun A_t_text A_t_wins A_t_fits t_pasts t_thrown t_typed t_at t_letter t_one t_other t_s t_fits_6) H → va_D A (w_X5_finds cy A_t A_t_s A_t_past A_t_begun A_t_text A_t_wins A_t_fits t_pasts t_thrown t_typed t_at t_letter t_one t_other t_s t_fits_6) → va_S A s.heap H locs → lv_has ls 5 [(0, .ref A_t), (1, .int v1_1), (2, .int v2_5)] → W p l e (rmK 2 47) s m args below meth c H locs 0 0 (MQ below (kQ none D A (w_X5_finds cy A_t A_t_s A_t_past A_t_begun A_t_text A_t_wins A_t_fits t_pasts t_thrown t_typed t_at t_letter t_one t_other t_s t_fits9)) args s 0 0 A) (F0 m 14 ls []) := by
          intro kont hexit_14 n
          induction n with
          | zero =>
            intro v2_5 t_fits_6 H locs ls hF
            rw [L_X5_finds_14] at hF
            cases hF
          | succ n ih =>
            intro v2_5 t_fits_6 H locs ls hF hP hD hS hl
            rw [L_X5_finds_14] at hF
            refine lv_iload_n hx hb dX5_finds_14 rfl (lv_at hl 2 rfl) ?_
            refine lv_iconst (v := 1) hx hb dX5_finds_15 (by decide) ?_
            refine lv_iload_n hx hb dX5_finds_16 rfl (lv_at hl 1 rfl) ?_
            refine lv_ishl hx hb dX5_finds_17 ?_
            refine lv_icmp_ge (tgt := 80) hx hb dX5_finds_18 (by decide) (fun c_8 => ?_) (fun c_8 => ?_)
            · replace hF := ite_t c_8 hF
              exact hexit_14 t_fits_6 H locs ls hF hP hD hS (lv_sub hl [0, 1] rfl)
            · replace hF := ite_f c_8 hF
              refine lv_iconst (v := 0) hx hb dX5_finds_21 (by decide) ?_
              refine lv_istore_n (lv' := [(3, .int 0), (0, .ref A_t), (1, .int v1_1), (2, .int v2_5)]) hx hb dX5_finds_22 rfl hl (by decide) rfl (fun ls hl => ?_)
              refine lv_iconst (v := 0) hx hb dX5_finds_23 (by decide) ?_
              refine lv_istore (lv' := [(4, .int 0), (3, .int 0), (0, .ref A_t), (1, .int v1_1), (2, .int v2_5)]) hx hb dX5_finds_24 hl (by decide) rfl (fun ls hl => ?_)
              have hloop_26 : ∀ (kont : Int32 → Option ((Nat → Int32))), (∀ (u3_11 : Int32) (H : Heap) (locs : List Loc) (ls : Array Slot), kont u3_11 = some t_fits9 → va_P D vwCl (w_X5_finds cy A_t A_t_s A_t_past A_t_begun A_t_text A_t_wins A_t_fits t_pasts t_thrown t_typed t_at t_letter t_one t_other t_s t_fits_6) H → va_D A (w_X5_finds cy A_t A_t_s A_t_past A_t_begun A_t_text A_t_wins A_t_fits t_pasts t_thrown t_typed t_at t_letter t_one t_other t_s t_fits_6) → va_S A s.heap H locs → lv_has ls 5 [(0, .ref A_t), (1, .int v1_1), (2, .int v2_5), (3, .int u3_11)] → W p l e (rmK 2 47) s m args below meth c H locs 0 0 (MQ below (kQ none D A (w_X5_finds cy A_t A_t_s A_t_past A_t_begun A_t_text A_t_wins A_t_fits t_pasts t_thrown t_typed t_at t_letter t_one t_other t_s t_fits9)) args s 0 0 A) (F0 m 63 ls [])) → ∀ (n : Nat) (v3_9 : Int32) (v4_10 : Int32) (H : Heap) (locs : List Loc) (ls : Array Slot), L_X5_finds_26 N t_s v1_1 v2_5 kont n v3_9 v4_10 = some t_fits9 → va_P D vwCl (w_X5_finds cy A_t A_t_s A_t_past A_t_begun A_t_text A_t_wins A_t_fits t_pasts t_thrown t_typed t_at t_letter t_one t_other t_s t_fits_6) H → va_D A (w_X5_finds cy A_t A_t_s A_t_past A_t_begun A_t_text A_t_wins A_t_fits t_pasts t_thrown t_typed t_at t_letter t_one t_other t_s t_fits_6) → va_S A s.heap H locs → lv_has ls 5 [(0, .ref A_t), (1, .int v1_1), (2, .int v2_5), (3, .int v3_9), (4, .int v4_10)] → W p l e (rmK 2 47) s m args below meth c H locs 0 0 (MQ below (kQ none D A (w_X5_finds cy A_t A_t_s A_t_past A_t_begun A_t_text A_t_wins A_t_fits t_pasts t_thrown t_typed t_at t_letter t_one t_other t_s t_fits9)) args s 0 0 A) (F0 m 26 ls []) := by
                intro kont hexit_26 n
                induction n with
                | zero =>
                  intro v3_9 v4_10 H locs ls hF
                  rw [L_X5_finds_26] at hF
                  cases hF
                | succ n ih =>
                  intro v3_9 v4_10 H locs ls hF hP hD hS hl
                  rw [L_X5_finds_26] at hF
                  refine lv_iload hx hb dX5_finds_26 (lv_at hl 4 rfl) ?_
                  refine lv_aload_n hx hb dX5_finds_28 rfl (lv_at hl 0 rfl) ?_
                  obtain ⟨r_12, hF_13, hF⟩ := ob1_some hF
                  refine kcV (q := (RX5, TX5, 13)) (ci := 5) (q0 := 0) (As := []) (rest := [.int v4_10]) (wr := [(A_t_fits, .inl (cy 0, 1024, .inl t_fits_6))]) (wsN := (w_X5_finds cy A_t A_t_s A_t_past A_t_begun A_t_text A_t_wins A_t_fits t_pasts t_thrown t_typed t_at t_letter t_one t_other t_s t_fits_6)) ⟨hx, hb, hml, hown, hts⟩ hE hP hD hS hA hAs [0, 1] [2] [1, 2, 0] (c_X5_plays l D cy s0 tW N A_t A_t_s A_t_past A_t_begun A_t_text A_t_wins A_t_fits t_pasts t_thrown t_typed t_at t_letter t_one t_other t_s _ hF_13) (gV q_850 q_852 q_58 q_88 q_853) hd_X5_plays ⟨Nat.le_of_ble_eq_true rfl, Nat.le_of_ble_eq_true rfl⟩ rfl rfl rfl rfl rfl rfl rfl rfl rfl hl.1 rfl (Nat.le_of_ble_eq_true rfl) dX5_finds_29 ⟨Nat.zero_le _, Nat.zero_le _⟩ (fun H locs hP hD hS => ?_)
                  refine W.eq (g2 := F0 m 32 ls [.int r_12, .int v4_10]) rfl ?_
                  refine lv_icmp_ge (tgt := 63) hx hb dX5_finds_32 (by decide) (fun c_14 => ?_) (fun c_14 => ?_)
                  · replace hF := ite_t c_14 hF
                    exact hexit_26 v3_9 H locs ls hF hP hD hS (lv_sub hl [0, 1, 2, 3] rfl)
                  · replace hF := ite_f c_14 hF
                    refine lv_iload_n hx hb dX5_finds_35 rfl (lv_at hl 3 rfl) ?_
                    refine lv_aload_n hx hb dX5_finds_36 rfl (lv_at hl 0 rfl) ?_
                    refine lv_iload hx hb dX5_finds_37 (lv_at hl 4 rfl) ?_
                    refine lv_iload_n hx hb dX5_finds_39 rfl (lv_at hl 1 rfl) ?_
                    refine lv_iload_n hx hb dX5_finds_40 rfl (lv_at hl 2 rfl) ?_
                    obtain ⟨r_15, hF_16, hF⟩ := ob1_some hF
                    refine kcV (q := (RX5, TX5, 13)) (ci := 5) (q0 := 0) (As := [.int v4_10, .int v1_1, .int v2_5]) (rest := [.int v3_9]) (wr := [(A_t_fits, .inl (cy 0, 1024, .inl t_fits_6))]) (wsN := (w_X5_finds cy A_t A_t_s A_t_past A_t_begun A_t_text A_t_wins A_t_fits t_pasts t_thrown t_typed t_at t_letter t_one t_other t_s t_fits_6)) ⟨hx, hb, hml, hown, hts⟩ hE hP hD hS hA hAs [0, 1] [2] [1, 2, 0] (c_X5_isAs l D cy s0 tW N A_t A_t_s A_t_past A_t_begun A_t_text A_t_wins A_t_fits v4_10 v1_1 v2_5 t_pasts t_thrown t_typed t_at t_letter t_one t_other t_s _ hF_16) (gV q_870 q_872 q_61 q_88 q_873) hd_X5_isAs ⟨Nat.le_of_ble_eq_true rfl, Nat.le_of_ble_eq_true rfl⟩ rfl rfl rfl rfl rfl rfl rfl rfl rfl hl.1 rfl (Nat.le_of_ble_eq_true rfl) dX5_finds_41 ⟨Nat.zero_le _, Nat.zero_le _⟩ (fun H locs hP hD hS => ?_)
                    refine W.eq (g2 := F0 m 44 ls [.int (bI r_15), .int v3_9]) rfl ?_
                    refine lv_if_eq (tgt := 54) hx hb dX5_finds_44 (by decide) (fun c_17 => ?_) (fun c_17 => ?_)
                    · replace hF := ite_f (bI_f c_17) hF
                      refine lv_iconst (v := 0) hx hb dX5_finds_54 (by decide) ?_
                      refine lv_ior hx hb dX5_finds_55 ?_
                      refine lv_istore_n (lv' := [(3, .int (v3_9 ||| 0)), (0, .ref A_t), (1, .int v1_1), (2, .int v2_5), (4, .int v4_10)]) hx hb dX5_finds_56 rfl hl (by decide) rfl (fun ls hl => ?_)
                      refine lv_iinc (v := (v4_10 + 1)) (lv' := [(4, .int (v4_10 + 1)), (3, .int (v3_9 ||| 0)), (0, .ref A_t), (1, .int v1_1), (2, .int v2_5)]) hx hb dX5_finds_57 hl (k := 4) rfl (by first | rfl | decide) (by decide) rfl (fun ls hl => ?_)
                      refine lv_goto (tgt := 26) hx hb dX5_finds_60 (by decide) ?_
                      exact ih (v3_9 ||| 0) (v4_10 + 1) H locs ls hF hP hD hS (lv_sub hl [2, 3, 4, 1, 0] rfl)
                    · replace hF := ite_t (bI_t c_17) hF
                      refine lv_iconst (v := 1) hx hb dX5_finds_47 (by decide) ?_
                      refine lv_iload hx hb dX5_finds_48 (lv_at hl 4 rfl) ?_
                      refine lv_ishl hx hb dX5_finds_50 ?_
                      refine lv_goto (tgt := 55) hx hb dX5_finds_51 (by decide) ?_
                      refine lv_ior hx hb dX5_finds_55 ?_
                      refine lv_istore_n (lv' := [(3, .int (v3_9 ||| ((1 : Int32) <<< (v4_10 &&& 31)))), (0, .ref A_t), (1, .int v1_1), (2, .int v2_5), (4, .int v4_10)]) hx hb dX5_finds_56 rfl hl (by decide) rfl (fun ls hl => ?_)
                      refine lv_iinc (v := (v4_10 + 1)) (lv' := [(4, .int (v4_10 + 1)), (3, .int (v3_9 ||| ((1 : Int32) <<< (v4_10 &&& 31)))), (0, .ref A_t), (1, .int v1_1), (2, .int v2_5)]) hx hb dX5_finds_57 hl (k := 4) rfl (by first | rfl | decide) (by decide) rfl (fun ls hl => ?_)
                      refine lv_goto (tgt := 26) hx hb dX5_finds_60 (by decide) ?_
                      exact ih (v3_9 ||| ((1 : Int32) <<< (v4_10 &&& 31))) (v4_10 + 1) H locs ls hF hP hD hS (lv_sub hl [2, 3, 4, 1, 0] rfl)
              refine hloop_26 _ (fun u3_11 H locs ls hF hP hD hS hl => ?_) N 0 0 _ _ ls hF hP hD hS (lv_sub hl [2, 3, 4, 1, 0] rfl)
              refine lv_aload_n hx hb dX5_finds_63 rfl (lv_at hl 0 rfl) ?_
              refine va_get (D := D) (ci := 5) (v := .ref A_t_fits) (C := RX5) (T := TX5) (N := 13) hx hb hts inX5 hown hK hP 0 rfl rfl 12 (by decide) (hts _ q_743) (fun _ h9 => h9) rfl dX5_finds_64 ?_
              refine lv_iconst (v := 1) hx hb dX5_finds_67 (by decide) ?_
              refine lv_iload_n hx hb dX5_finds_68 rfl (lv_at hl 1 rfl) ?_
              refine lv_ishl hx hb dX5_finds_69 ?_
              refine lv_iload_n hx hb dX5_finds_70 rfl (lv_at hl 2 rfl) ?_
              refine lv_iadd hx hb dX5_finds_71 ?_
              refine lv_iload_n hx hb dX5_finds_72 rfl (lv_at hl 3 rfl) ?_
              obtain ⟨hi_18, hF⟩ := gd_some hF
              refine ka_iast (wsN := (w_X5_finds cy A_t A_t_s A_t_past A_t_begun A_t_text A_t_wins A_t_fits t_pasts t_thrown t_typed t_at t_letter t_one t_other t_s (upd t_fits_6 ((((1 : Int32) <<< (v1_1 &&& 31)) + v2_5).toNatClampNeg) u3_11))) hx hb hK hP hD hS 2 rfl ((((1 : Int32) <<< (v1_1 &&& 31)) + v2_5).toNatClampNeg) rfl (inb_in hi_18) rfl dX5_finds_73 (fun H locs hP hD hS => ?_)
              refine lv_iinc (v := (v2_5 + 1)) (lv' := [(2, .int (v2_5 + 1)), (0, .ref A_t), (1, .int v1_1), (3, .int u3_11)]) hx hb dX5_finds_74 hl (k := 2) rfl (by first | rfl | decide) (by decide) rfl (fun ls hl => ?_)
              refine lv_goto (tgt := 14) hx hb dX5_finds_77 (by decide) ?_
              exact ih (v2_5 + 1) (upd t_fits_6 ((((1 : Int32) <<< (v1_1 &&& 31)) + v2_5).toNatClampNeg) u3_11) H locs ls hF hP hD hS (lv_sub hl [1, 2, 0] rfl)
        refine hloop_14 _ (fun t_fits_7 H locs ls hF hP hD hS hl => ?_) N 0 t_fits_2 _ _ ls hF hP hD hS (lv_sub hl [1, 2, 0] rfl)
        refine lv_iinc (v := (v1_1 + 1)) (lv' := [(1, .int (v1_1 + 1)), (0, .ref A_t)]) hx hb dX5_finds_80 hl (k := 1) rfl (by first | rfl | decide) (by decide) rfl (fun ls hl => ?_)
        refine lv_goto (tgt := 2) hx hb dX5_finds_83 (by decide) ?_
        exact ih (v1_1 + 1) t_fits_7 H locs ls hF hP hD hS (lv_sub hl [1, 0] rfl)
  refine hloop_2 _ (fun t_fits_3 H locs ls hF hP hD hS hl => ?_) N 0 t_fits _ _ ls hF hP hD hS (lv_sub hl [1, 0] rfl)
  cases hF
  exact kret_v hx hb hr hlocks hP hD hS dX5_finds_86

abbrev w_X5_against (cy : Nat → ClassId) (A_t : Nat) (A_t_s : Nat) (A_t_past : Nat) (A_t_begun : Nat) (A_t_text : Nat) (A_t_wins : Nat) (A_t_fits : Nat) (t_pasts : Int32) (t_thrown : Int32) (t_typed : Int32) (t_at : Int32) (t_letter : Int32) (t_one : Int32) (t_other : Int32) (t_s : Nat → Int32) (t_wins : Nat → Bool) (t_fits : Nat → Int32) : va_W := [(A_t, .inr (5, [.ref A_t_s, .ref A_t_past, .ref A_t_begun, .int t_pasts, .int t_thrown, .ref A_t_text, .int t_typed, .int t_at, .int t_letter, .int t_one, .int t_other, .ref A_t_wins, .ref A_t_fits])), (A_t_s, .inl (cy 0, 45, .inl t_s)), (A_t_wins, .inl (cy 3, 1024, .inl (fun j => bI (t_wins j)))), (A_t_fits, .inl (cy 0, 1024, .inl t_fits))]
def L_X5_against_9 (N : Nat) (t_s : Nat → Int32) (t_fits : Nat → Int32) (p0 : Int32) (kont : (Nat → Bool) → Option (Bool × (Nat → Bool))) : Nat → Int32 → (Nat → Bool) → Option (Bool × (Nat → Bool))
  | 0, _, _ => none
  | n + 1, v3_1, t_wins_2 => (if ((1 : Int32) <<< ((t_s 0) &&& 31)) ≤ v3_1 then kont t_wins_2 else gd (inb (((1 : Int32) <<< ((t_s 0) &&& 31)) + v3_1) 1024) ((if ((t_fits ((((1 : Int32) <<< ((t_s 0) &&& 31)) + v3_1).toNatClampNeg)) &&& p0) = (0 : Int32) then gd (inb (((1 : Int32) <<< ((t_s 0) &&& 31)) + v3_1) 1024) (L_X5_against_9 N t_s t_fits p0 kont n (v3_1 + 1) (updB t_wins_2 ((((1 : Int32) <<< ((t_s 0) &&& 31)) + v3_1).toNatClampNeg) true)) else ob1 (F_X5_isMade N v3_1 t_s) (fun r_8 => (if r_8 = true then gd (inb (((1 : Int32) <<< ((t_s 0) &&& 31)) + v3_1) 1024) (L_X5_against_9 N t_s t_fits p0 kont n (v3_1 + 1) (updB t_wins_2 ((((1 : Int32) <<< ((t_s 0) &&& 31)) + v3_1).toNatClampNeg) true)) else gd (inb (((1 : Int32) <<< ((t_s 0) &&& 31)) + v3_1) 1024) (L_X5_against_9 N t_s t_fits p0 kont n (v3_1 + 1) (updB t_wins_2 ((((1 : Int32) <<< ((t_s 0) &&& 31)) + v3_1).toNatClampNeg) false)))))))
def L_X5_against_71 (N : Nat) (t_s : Nat → Int32) (v3_13 : Int32) (kont : (Nat → Bool) → Option (Bool × (Nat → Bool))) : Nat → Int32 → (Nat → Bool) → Option (Bool × (Nat → Bool))
  | 0, _, _ => none
  | n + 1, v4_17, t_wins_18 => (if ((1 : Int32) <<< (v3_13 &&& 31)) ≤ v4_17 then kont t_wins_18 else gd (inb (((2 : Int32) <<< (v3_13 &&& 31)) + v4_17) 1024) (gd (inb ((((2 : Int32) <<< (v3_13 &&& 31)) + v4_17) + ((1 : Int32) <<< (v3_13 &&& 31))) 1024) (ob1 (F_X5_isBreakersOwn N v3_13 t_s) (fun r_23 => (if r_23 = true then (if (t_wins_18 ((((2 : Int32) <<< (v3_13 &&& 31)) + v4_17).toNatClampNeg)) = true then (if (t_wins_18 (((((2 : Int32) <<< (v3_13 &&& 31)) + v4_17) + ((1 : Int32) <<< (v3_13 &&& 31))).toNatClampNeg)) = true then gd (inb (((1 : Int32) <<< (v3_13 &&& 31)) + v4_17) 1024) (L_X5_against_71 N t_s v3_13 kont n (v4_17 + 1) (updB t_wins_18 ((((1 : Int32) <<< (v3_13 &&& 31)) + v4_17).toNatClampNeg) true)) else gd (inb (((1 : Int32) <<< (v3_13 &&& 31)) + v4_17) 1024) (L_X5_against_71 N t_s v3_13 kont n (v4_17 + 1) (updB t_wins_18 ((((1 : Int32) <<< (v3_13 &&& 31)) + v4_17).toNatClampNeg) false))) else gd (inb (((1 : Int32) <<< (v3_13 &&& 31)) + v4_17) 1024) (L_X5_against_71 N t_s v3_13 kont n (v4_17 + 1) (updB t_wins_18 ((((1 : Int32) <<< (v3_13 &&& 31)) + v4_17).toNatClampNeg) false))) else (if (t_wins_18 ((((2 : Int32) <<< (v3_13 &&& 31)) + v4_17).toNatClampNeg)) = true then gd (inb (((1 : Int32) <<< (v3_13 &&& 31)) + v4_17) 1024) (L_X5_against_71 N t_s v3_13 kont n (v4_17 + 1) (updB t_wins_18 ((((1 : Int32) <<< (v3_13 &&& 31)) + v4_17).toNatClampNeg) true)) else (if (t_wins_18 (((((2 : Int32) <<< (v3_13 &&& 31)) + v4_17) + ((1 : Int32) <<< (v3_13 &&& 31))).toNatClampNeg)) = true then gd (inb (((1 : Int32) <<< (v3_13 &&& 31)) + v4_17) 1024) (L_X5_against_71 N t_s v3_13 kont n (v4_17 + 1) (updB t_wins_18 ((((1 : Int32) <<< (v3_13 &&& 31)) + v4_17).toNatClampNeg) true)) else gd (inb (((1 : Int32) <<< (v3_13 &&& 31)) + v4_17) 1024) (L_X5_against_71 N t_s v3_13 kont n (v4_17 + 1) (updB t_wins_18 ((((1 : Int32) <<< (v3_13 &&& 31)) + v4_17).toNatClampNeg) false)))))))))
def L_X5_against_64 (N : Nat) (t_s : Nat → Int32) (kont : (Nat → Bool) → Option (Bool × (Nat → Bool))) : Nat → Int32 → (Nat → Bool) → Option (Bool × (Nat → Bool))
  | 0, _, _ => none
  | n + 1, v3_13, t_wins_14 => (if v3_13 < (0 : Int32) then kont t_wins_14 else (L_X5_against_71 N t_s v3_13 (fun t_wins_19 => L_X5_against_64 N t_s kont n (v3_13 + (-1)) t_wins_19) N 0 t_wins_14))
def F_X5_against (N : Nat) (p0 : Int32) (t_s : Nat → Int32) (t_wins : Nat → Bool) (t_fits : Nat → Int32) : Option (Bool × (Nat → Bool)) :=
  (L_X5_against_9 N t_s t_fits p0 (fun t_wins_3 => (L_X5_against_64 N t_s (fun t_wins_15 => some ((t_wins_15 1), t_wins_15)) N ((t_s 0) - 1) t_wins_3)) N 0 t_wins)
set_option maxHeartbeats 4000000 in
set_option maxRecDepth 100000 in
theorem c_X5_against (l : Launch) (D : va_G) (cy : Nat → ClassId) (s0 tW N : Nat) (A_t : Nat) (A_t_s : Nat) (A_t_past : Nat) (A_t_begun : Nat) (A_t_text : Nat) (A_t_wins : Nat) (A_t_fits : Nat) (p0 : Int32) (t_pasts : Int32) (t_thrown : Int32) (t_typed : Int32) (t_at : Int32) (t_letter : Int32) (t_one : Int32) (t_other : Int32) (t_s : Nat → Int32) (t_wins : Nat → Bool) (t_fits : Nat → Int32) (sz : Nat) {r9 : Bool} {t_wins9 : Nat → Bool} (hF : F_X5_against N p0 t_s t_wins t_fits = some (r9, t_wins9)) : KM l D cy s0 tW yX5_against cX5_against 7 (some .boolean) 1 23 [.ref A_t, .int p0] sz (w_X5_against cy A_t A_t_s A_t_past A_t_begun A_t_text A_t_wins A_t_fits t_pasts t_thrown t_typed t_at t_letter t_one t_other t_s t_wins t_fits) (some (.int (bI r9))) (w_X5_against cy A_t A_t_s A_t_past A_t_begun A_t_text A_t_wins A_t_fits t_pasts t_thrown t_typed t_at t_letter t_one t_other t_s t_wins9 t_fits) := by
  refine KM.intro rfl (Nat.le_of_ble_eq_true rfl) ?_
  intro p e s m args below meth c A ls hx hb hr hml hown hts hlocks hE hP hD hS hA hAs hl
  have hK := hE.1
  have hl : lv_has ls 7 [(0, .ref A_t), (1, .int p0)] := hl
  unfold F_X5_against at hF
  refine lv_aload_n hx hb dX5_against_0 rfl (lv_at hl 0 rfl) ?_
  refine va_get (D := D) (ci := 5) (v := .ref A_t_s) (C := RX5) (T := TX5) (N := 13) hx hb hts inX5 hown hK hP 0 rfl rfl 0 (by decide) (hts _ q_731) (fun _ h9 => h9) rfl dX5_against_1 ?_
  refine lv_iconst (v := 0) hx hb dX5_against_4 (by decide) ?_
  refine ka_iald hx hb hK hP 1 rfl (0) rfl (inb_in (by decide)) dX5_against_5 ?_
  refine lv_istore_n (lv' := [(2, .int (t_s 0)), (0, .ref A_t), (1, .int p0)]) hx hb dX5_against_6 rfl hl (by decide) rfl (fun ls hl => ?_)
  refine lv_iconst (v := 0) hx hb dX5_against_7 (by decide) ?_
  refine lv_istore_n (lv' := [(3, .int 0), (2, .int (t_s 0)), (0, .ref A_t), (1, .int p0)]) hx hb dX5_against_8 rfl hl (by decide) rfl (fun ls hl => ?_)
  have hloop_9 : ∀ (kont : (Nat → Bool) → Option (Bool × (Nat → Bool))), (∀ (t_wins_3 : Nat → Bool) (H : Heap) (locs : List Loc) (ls : Array Slot), kont t_wins_3 = some (r9, t_wins9) → va_P D vwCl (w_X5_against cy A_t A_t_s A_t_past A_t_begun A_t_text A_t_wins A_t_fits t_pasts t_thrown t_typed t_at t_letter t_one t_other t_s t_wins_3 t_fits) H → va_D A (w_X5_against cy A_t A_t_s A_t_past A_t_begun A_t_text A_t_wins A_t_fits t_pasts t_thrown t_typed t_at t_letter t_one t_other t_s t_wins_3 t_fits) → va_S A s.heap H locs → lv_has ls 7 [(0, .ref A_t), (2, .int (t_s 0))] → W p l e (rmK 1 23) s m args below meth c H locs 0 0 (MQ below (kQ (some (.int (bI r9))) D A (w_X5_against cy A_t A_t_s A_t_past A_t_begun A_t_text A_t_wins A_t_fits t_pasts t_thrown t_typed t_at t_letter t_one t_other t_s t_wins9 t_fits)) args s 0 0 A) (F0 m 60 ls [])) → ∀ (n : Nat) (v3_1 : Int32) (t_wins_2 : Nat → Bool) (H : Heap) (locs : List Loc) (ls : Array Slot), L_X5_against_9 N t_s t_fits p0 kont n v3_1 t_wins_2 = some (r9, t_wins9) → va_P D vwCl (w_X5_against cy A_t A_t_s A_t_past A_t_begun A_t_text A_t_wins A_t_fits t_pasts t_thrown t_typed t_at t_letter t_one t_other t_s t_wins_2 t_fits) H → va_D A (w_X5_against cy A_t A_t_s A_t_past A_t_begun A_t_text A_t_wins A_t_fits t_pasts t_thrown t_typed t_at t_letter t_one t_other t_s t_wins_2 t_fits) → va_S A s.heap H locs → lv_has ls 7 [(0, .ref A_t), (1, .int p0), (2, .int (t_s 0)), (3, .int v3_1)] → W p l e (rmK 1 23) s m args below meth c H locs 0 0 (MQ below (kQ (some (.int (bI r9))) D A (w_X5_against cy A_t A_t_s A_t_past A_t_begun A_t_text A_t_wins A_t_fits t_pasts t_thrown t_typed t_at t_letter t_one t_other t_s t_wins9 t_fits)) args s 0 0 A) (F0 m 9 ls []) := by
    intro kont hexit_9 n
    induction n with
    | zero =>
      intro v3_1 t_wins_2 H locs ls hF
      rw [L_X5_against_9] at hF
      cases hF
    | succ n ih =>
      intro v3_1 t_wins_2 H locs ls hF hP hD hS hl
      rw [L_X5_against_9] at hF
      refine lv_iload_n hx hb dX5_against_9 rfl (lv_at hl 3 rfl) ?_
      refine lv_iconst (v := 1) hx hb dX5_against_10 (by decide) ?_
      refine lv_iload_n hx hb dX5_against_11 rfl (lv_at hl 2 rfl) ?_
      refine lv_ishl hx hb dX5_against_12 ?_
      refine lv_icmp_ge (tgt := 60) hx hb dX5_against_13 (by decide) (fun c_4 => ?_) (fun c_4 => ?_)
      · replace hF := ite_t c_4 hF
        exact hexit_9 t_wins_2 H locs ls hF hP hD hS (lv_sub hl [0, 2] rfl)
      · replace hF := ite_f c_4 hF
        refine lv_aload_n hx hb dX5_against_16 rfl (lv_at hl 0 rfl) ?_
        refine va_get (D := D) (ci := 5) (v := .ref A_t_wins) (C := RX5) (T := TX5) (N := 13) hx hb hts inX5 hown hK hP 0 rfl rfl 11 (by decide) (hts _ q_742) (fun _ h9 => h9) rfl dX5_against_17 ?_
        refine lv_iconst (v := 1) hx hb dX5_against_20 (by decide) ?_
        refine lv_iload_n hx hb dX5_against_21 rfl (lv_at hl 2 rfl) ?_
        refine lv_ishl hx hb dX5_against_22 ?_
        refine lv_iload_n hx hb dX5_against_23 rfl (lv_at hl 3 rfl) ?_
        refine lv_iadd hx hb dX5_against_24 ?_
        refine lv_aload_n hx hb dX5_against_25 rfl (lv_at hl 0 rfl) ?_
        refine va_get (D := D) (ci := 5) (v := .ref A_t_fits) (C := RX5) (T := TX5) (N := 13) hx hb hts inX5 hown hK hP 0 rfl rfl 12 (by decide) (hts _ q_743) (fun _ h9 => h9) rfl dX5_against_26 ?_
        refine lv_iconst (v := 1) hx hb dX5_against_29 (by decide) ?_
        refine lv_iload_n hx hb dX5_against_30 rfl (lv_at hl 2 rfl) ?_
        refine lv_ishl hx hb dX5_against_31 ?_
        refine lv_iload_n hx hb dX5_against_32 rfl (lv_at hl 3 rfl) ?_
        refine lv_iadd hx hb dX5_against_33 ?_
        obtain ⟨hi_5, hF⟩ := gd_some hF
        refine ka_iald hx hb hK hP 3 rfl ((((1 : Int32) <<< ((t_s 0) &&& 31)) + v3_1).toNatClampNeg) rfl (inb_in hi_5) dX5_against_34 ?_
        refine lv_iload_n hx hb dX5_against_35 rfl (lv_at hl 1 rfl) ?_
        refine lv_iand hx hb dX5_against_36 ?_
        refine lv_if_eq (tgt := 48) hx hb dX5_against_37 (by decide) (fun c_6 => ?_) (fun c_6 => ?_)
        · replace hF := ite_t c_6 hF
          refine lv_iconst (v := 1) hx hb dX5_against_48 (by decide) ?_
          refine lv_goto (tgt := 53) hx hb dX5_against_49 (by decide) ?_
          obtain ⟨hi_7, hF⟩ := gd_some hF
          refine ka_zast (x := true) (wsN := (w_X5_against cy A_t A_t_s A_t_past A_t_begun A_t_text A_t_wins A_t_fits t_pasts t_thrown t_typed t_at t_letter t_one t_other t_s (updB t_wins_2 ((((1 : Int32) <<< ((t_s 0) &&& 31)) + v3_1).toNatClampNeg) true) t_fits)) hx hb hK hP hD hS 2 rfl ((((1 : Int32) <<< ((t_s 0) &&& 31)) + v3_1).toNatClampNeg) rfl (inb_in hi_7) rfl dX5_against_53 (fun H locs hP hD hS => ?_)
          refine lv_iinc (v := (v3_1 + 1)) (lv' := [(3, .int (v3_1 + 1)), (0, .ref A_t), (1, .int p0), (2, .int (t_s 0))]) hx hb dX5_against_54 hl (k := 3) rfl (by first | rfl | decide) (by decide) rfl (fun ls hl => ?_)
          refine lv_goto (tgt := 9) hx hb dX5_against_57 (by decide) ?_
          exact ih (v3_1 + 1) (updB t_wins_2 ((((1 : Int32) <<< ((t_s 0) &&& 31)) + v3_1).toNatClampNeg) true) H locs ls hF hP hD hS (lv_sub hl [1, 2, 3, 0] rfl)
        · replace hF := ite_f c_6 hF
          refine lv_aload_n hx hb dX5_against_40 rfl (lv_at hl 0 rfl) ?_
          refine lv_iload_n hx hb dX5_against_41 rfl (lv_at hl 3 rfl) ?_
          obtain ⟨r_8, hF_9, hF⟩ := ob1_some hF
          refine kcV (q := (RX5, TX5, 13)) (ci := 5) (q0 := 0) (As := [.int v3_1]) (rest := [.int (((1 : Int32) <<< ((t_s 0) &&& 31)) + v3_1), .ref A_t_wins]) (wr := [(A_t_wins, .inl (cy 3, 1024, .inl (fun j => bI (t_wins_2 j)))), (A_t_fits, .inl (cy 0, 1024, .inl t_fits))]) (wsN := (w_X5_against cy A_t A_t_s A_t_past A_t_begun A_t_text A_t_wins A_t_fits t_pasts t_thrown t_typed t_at t_letter t_one t_other t_s t_wins_2 t_fits)) ⟨hx, hb, hml, hown, hts⟩ hE hP hD hS hA hAs [0, 1] [2, 3] [2, 3, 0, 1] (c_X5_isMade l D cy s0 tW N A_t A_t_s A_t_past A_t_begun A_t_text A_t_wins A_t_fits v3_1 t_pasts t_thrown t_typed t_at t_letter t_one t_other t_s _ hF_9) (gV q_882 q_884 q_64 q_88 q_885) hd_X5_isMade ⟨Nat.le_of_ble_eq_true rfl, Nat.le_of_ble_eq_true rfl⟩ rfl rfl rfl rfl rfl rfl rfl rfl rfl hl.1 rfl (Nat.le_of_ble_eq_true rfl) dX5_against_42 ⟨Nat.zero_le _, Nat.zero_le _⟩ (fun H locs hP hD hS => ?_)
          refine W.eq (g2 := F0 m 45 ls [.int (bI r_8), .int (((1 : Int32) <<< ((t_s 0) &&& 31)) + v3_1), .ref A_t_wins]) rfl ?_
          refine lv_if_eq (tgt := 52) hx hb dX5_against_45 (by decide) (fun c_10 => ?_) (fun c_10 => ?_)
          · replace hF := ite_f (bI_f c_10) hF
            refine lv_iconst (v := 0) hx hb dX5_against_52 (by decide) ?_
            obtain ⟨hi_11, hF⟩ := gd_some hF
            refine ka_zast (x := false) (wsN := (w_X5_against cy A_t A_t_s A_t_past A_t_begun A_t_text A_t_wins A_t_fits t_pasts t_thrown t_typed t_at t_letter t_one t_other t_s (updB t_wins_2 ((((1 : Int32) <<< ((t_s 0) &&& 31)) + v3_1).toNatClampNeg) false) t_fits)) hx hb hK hP hD hS 2 rfl ((((1 : Int32) <<< ((t_s 0) &&& 31)) + v3_1).toNatClampNeg) rfl (inb_in hi_11) rfl dX5_against_53 (fun H locs hP hD hS => ?_)
            refine lv_iinc (v := (v3_1 + 1)) (lv' := [(3, .int (v3_1 + 1)), (0, .ref A_t), (1, .int p0), (2, .int (t_s 0))]) hx hb dX5_against_54 hl (k := 3) rfl (by first | rfl | decide) (by decide) rfl (fun ls hl => ?_)
            refine lv_goto (tgt := 9) hx hb dX5_against_57 (by decide) ?_
            exact ih (v3_1 + 1) (updB t_wins_2 ((((1 : Int32) <<< ((t_s 0) &&& 31)) + v3_1).toNatClampNeg) false) H locs ls hF hP hD hS (lv_sub hl [1, 2, 3, 0] rfl)
          · replace hF := ite_t (bI_t c_10) hF
            refine lv_iconst (v := 1) hx hb dX5_against_48 (by decide) ?_
            refine lv_goto (tgt := 53) hx hb dX5_against_49 (by decide) ?_
            obtain ⟨hi_12, hF⟩ := gd_some hF
            refine ka_zast (x := true) (wsN := (w_X5_against cy A_t A_t_s A_t_past A_t_begun A_t_text A_t_wins A_t_fits t_pasts t_thrown t_typed t_at t_letter t_one t_other t_s (updB t_wins_2 ((((1 : Int32) <<< ((t_s 0) &&& 31)) + v3_1).toNatClampNeg) true) t_fits)) hx hb hK hP hD hS 2 rfl ((((1 : Int32) <<< ((t_s 0) &&& 31)) + v3_1).toNatClampNeg) rfl (inb_in hi_12) rfl dX5_against_53 (fun H locs hP hD hS => ?_)
            refine lv_iinc (v := (v3_1 + 1)) (lv' := [(3, .int (v3_1 + 1)), (0, .ref A_t), (1, .int p0), (2, .int (t_s 0))]) hx hb dX5_against_54 hl (k := 3) rfl (by first | rfl | decide) (by decide) rfl (fun ls hl => ?_)
            refine lv_goto (tgt := 9) hx hb dX5_against_57 (by decide) ?_
            exact ih (v3_1 + 1) (updB t_wins_2 ((((1 : Int32) <<< ((t_s 0) &&& 31)) + v3_1).toNatClampNeg) true) H locs ls hF hP hD hS (lv_sub hl [1, 2, 3, 0] rfl)
  refine hloop_9 _ (fun t_wins_3 H locs ls hF hP hD hS hl => ?_) N 0 t_wins _ _ ls hF hP hD hS (lv_sub hl [2, 3, 1, 0] rfl)
  refine lv_iload_n hx hb dX5_against_60 rfl (lv_at hl 1 rfl) ?_
  refine lv_iconst (v := 1) hx hb dX5_against_61 (by decide) ?_
  refine lv_isub hx hb dX5_against_62 ?_
  refine lv_istore_n (lv' := [(3, .int ((t_s 0) - 1)), (0, .ref A_t), (2, .int (t_s 0))]) hx hb dX5_against_63 rfl hl (by decide) rfl (fun ls hl => ?_)
  have hloop_64 : ∀ (kont : (Nat → Bool) → Option (Bool × (Nat → Bool))), (∀ (t_wins_15 : Nat → Bool) (H : Heap) (locs : List Loc) (ls : Array Slot), kont t_wins_15 = some (r9, t_wins9) → va_P D vwCl (w_X5_against cy A_t A_t_s A_t_past A_t_begun A_t_text A_t_wins A_t_fits t_pasts t_thrown t_typed t_at t_letter t_one t_other t_s t_wins_15 t_fits) H → va_D A (w_X5_against cy A_t A_t_s A_t_past A_t_begun A_t_text A_t_wins A_t_fits t_pasts t_thrown t_typed t_at t_letter t_one t_other t_s t_wins_15 t_fits) → va_S A s.heap H locs → lv_has ls 7 [(0, .ref A_t)] → W p l e (rmK 1 23) s m args below meth c H locs 0 0 (MQ below (kQ (some (.int (bI r9))) D A (w_X5_against cy A_t A_t_s A_t_past A_t_begun A_t_text A_t_wins A_t_fits t_pasts t_thrown t_typed t_at t_letter t_one t_other t_s t_wins9 t_fits)) args s 0 0 A) (F0 m 173 ls [])) → ∀ (n : Nat) (v3_13 : Int32) (t_wins_14 : Nat → Bool) (H : Heap) (locs : List Loc) (ls : Array Slot), L_X5_against_64 N t_s kont n v3_13 t_wins_14 = some (r9, t_wins9) → va_P D vwCl (w_X5_against cy A_t A_t_s A_t_past A_t_begun A_t_text A_t_wins A_t_fits t_pasts t_thrown t_typed t_at t_letter t_one t_other t_s t_wins_14 t_fits) H → va_D A (w_X5_against cy A_t A_t_s A_t_past A_t_begun A_t_text A_t_wins A_t_fits t_pasts t_thrown t_typed t_at t_letter t_one t_other t_s t_wins_14 t_fits) → va_S A s.heap H locs → lv_has ls 7 [(0, .ref A_t), (3, .int v3_13)] → W p l e (rmK 1 23) s m args below meth c H locs 0 0 (MQ below (kQ (some (.int (bI r9))) D A (w_X5_against cy A_t A_t_s A_t_past A_t_begun A_t_text A_t_wins A_t_fits t_pasts t_thrown t_typed t_at t_letter t_one t_other t_s t_wins9 t_fits)) args s 0 0 A) (F0 m 64 ls []) := by
    intro kont hexit_64 n
    induction n with
    | zero =>
      intro v3_13 t_wins_14 H locs ls hF
      rw [L_X5_against_64] at hF
      cases hF
    | succ n ih =>
      intro v3_13 t_wins_14 H locs ls hF hP hD hS hl
      rw [L_X5_against_64] at hF
      refine lv_iload_n hx hb dX5_against_64 rfl (lv_at hl 1 rfl) ?_
      refine lv_if_lt (tgt := 173) hx hb dX5_against_65 (by decide) (fun c_16 => ?_) (fun c_16 => ?_)
      · replace hF := ite_t c_16 hF
        exact hexit_64 t_wins_14 H locs ls hF hP hD hS (lv_sub hl [0] rfl)
      · replace hF := ite_f c_16 hF
        refine lv_iconst (v := 0) hx hb dX5_against_68 (by decide) ?_
        refine lv_istore (lv' := [(4, .int 0), (0, .ref A_t), (3, .int v3_13)]) hx hb dX5_against_69 hl (by decide) rfl (fun ls hl => ?_)
        have hloop_71 : ∀ (kont : (Nat → Bool) → Option (Bool × (Nat → Bool))), (∀ (t_wins_19 : Nat → Bool) (H : Heap) (locs : List Loc) (ls : Array Slot), kont t_wins_19 = some (r9, t_wins9) → va_P D vwCl (w_X5_against cy A_t A_t_s A_t_past A_t_begun A_t_text A_t_wins A_t_fits t_pasts t_thrown t_typed t_at t_letter t_one t_other t_s t_wins_19 t_fits) H → va_D A (w_X5_against cy A_t A_t_s A_t_past A_t_begun A_t_text A_t_wins A_t_fits t_pasts t_thrown t_typed t_at t_letter t_one t_other t_s t_wins_19 t_fits) → va_S A s.heap H locs → lv_has ls 7 [(0, .ref A_t), (3, .int v3_13)] → W p l e (rmK 1 23) s m args below meth c H locs 0 0 (MQ below (kQ (some (.int (bI r9))) D A (w_X5_against cy A_t A_t_s A_t_past A_t_begun A_t_text A_t_wins A_t_fits t_pasts t_thrown t_typed t_at t_letter t_one t_other t_s t_wins9 t_fits)) args s 0 0 A) (F0 m 167 ls [])) → ∀ (n : Nat) (v4_17 : Int32) (t_wins_18 : Nat → Bool) (H : Heap) (locs : List Loc) (ls : Array Slot), L_X5_against_71 N t_s v3_13 kont n v4_17 t_wins_18 = some (r9, t_wins9) → va_P D vwCl (w_X5_against cy A_t A_t_s A_t_past A_t_begun A_t_text A_t_wins A_t_fits t_pasts t_thrown t_typed t_at t_letter t_one t_other t_s t_wins_18 t_fits) H → va_D A (w_X5_against cy A_t A_t_s A_t_past A_t_begun A_t_text A_t_wins A_t_fits t_pasts t_thrown t_typed t_at t_letter t_one t_other t_s t_wins_18 t_fits) → va_S A s.heap H locs → lv_has ls 7 [(0, .ref A_t), (3, .int v3_13), (4, .int v4_17)] → W p l e (rmK 1 23) s m args below meth c H locs 0 0 (MQ below (kQ (some (.int (bI r9))) D A (w_X5_against cy A_t A_t_s A_t_past A_t_begun A_t_text A_t_wins A_t_fits t_pasts t_thrown t_typed t_at t_letter t_one t_other t_s t_wins9 t_fits)) args s 0 0 A) (F0 m 71 ls []) := by
          intro kont hexit_71 n
          induction n with
          | zero =>
            intro v4_17 t_wins_18 H locs ls hF
            rw [L_X5_against_71] at hF
            cases hF
          | succ n ih =>
            intro v4_17 t_wins_18 H locs ls hF hP hD hS hl
            rw [L_X5_against_71] at hF
            refine lv_iload hx hb dX5_against_71 (lv_at hl 2 rfl) ?_
            refine lv_iconst (v := 1) hx hb dX5_against_73 (by decide) ?_
            refine lv_iload_n hx hb dX5_against_74 rfl (lv_at hl 1 rfl) ?_
            refine lv_ishl hx hb dX5_against_75 ?_
            refine lv_icmp_ge (tgt := 167) hx hb dX5_against_76 (by decide) (fun c_20 => ?_) (fun c_20 => ?_)
            · replace hF := ite_t c_20 hF
              exact hexit_71 t_wins_18 H locs ls hF hP hD hS (lv_sub hl [0, 1] rfl)
            · replace hF := ite_f c_20 hF
              refine lv_aload_n hx hb dX5_against_79 rfl (lv_at hl 0 rfl) ?_
              refine va_get (D := D) (ci := 5) (v := .ref A_t_wins) (C := RX5) (T := TX5) (N := 13) hx hb hts inX5 hown hK hP 0 rfl rfl 11 (by decide) (hts _ q_742) (fun _ h9 => h9) rfl dX5_against_80 ?_
              refine lv_iconst (v := 2) hx hb dX5_against_83 (by decide) ?_
              refine lv_iload_n hx hb dX5_against_84 rfl (lv_at hl 1 rfl) ?_
              refine lv_ishl hx hb dX5_against_85 ?_
              refine lv_iload hx hb dX5_against_86 (lv_at hl 2 rfl) ?_
              refine lv_iadd hx hb dX5_against_88 ?_
              obtain ⟨hi_21, hF⟩ := gd_some hF
              refine ka_zald hx hb hK hP 2 rfl ((((2 : Int32) <<< (v3_13 &&& 31)) + v4_17).toNatClampNeg) rfl (inb_in hi_21) dX5_against_89 ?_
              refine lv_istore (lv' := [(5, .int (bI (t_wins_18 ((((2 : Int32) <<< (v3_13 &&& 31)) + v4_17).toNatClampNeg)))), (0, .ref A_t), (3, .int v3_13), (4, .int v4_17)]) hx hb dX5_against_90 hl (by decide) rfl (fun ls hl => ?_)
              refine lv_aload_n hx hb dX5_against_92 rfl (lv_at hl 1 rfl) ?_
              refine va_get (D := D) (ci := 5) (v := .ref A_t_wins) (C := RX5) (T := TX5) (N := 13) hx hb hts inX5 hown hK hP 0 rfl rfl 11 (by decide) (hts _ q_742) (fun _ h9 => h9) rfl dX5_against_93 ?_
              refine lv_iconst (v := 2) hx hb dX5_against_96 (by decide) ?_
              refine lv_iload_n hx hb dX5_against_97 rfl (lv_at hl 2 rfl) ?_
              refine lv_ishl hx hb dX5_against_98 ?_
              refine lv_iload hx hb dX5_against_99 (lv_at hl 3 rfl) ?_
              refine lv_iadd hx hb dX5_against_101 ?_
              refine lv_iconst (v := 1) hx hb dX5_against_102 (by decide) ?_
              refine lv_iload_n hx hb dX5_against_103 rfl (lv_at hl 2 rfl) ?_
              refine lv_ishl hx hb dX5_against_104 ?_
              refine lv_iadd hx hb dX5_against_105 ?_
              obtain ⟨hi_22, hF⟩ := gd_some hF
              refine ka_zald hx hb hK hP 2 rfl (((((2 : Int32) <<< (v3_13 &&& 31)) + v4_17) + ((1 : Int32) <<< (v3_13 &&& 31))).toNatClampNeg) rfl (inb_in hi_22) dX5_against_106 ?_
              refine lv_istore (lv' := [(6, .int (bI (t_wins_18 (((((2 : Int32) <<< (v3_13 &&& 31)) + v4_17) + ((1 : Int32) <<< (v3_13 &&& 31))).toNatClampNeg)))), (5, .int (bI (t_wins_18 ((((2 : Int32) <<< (v3_13 &&& 31)) + v4_17).toNatClampNeg)))), (0, .ref A_t), (3, .int v3_13), (4, .int v4_17)]) hx hb dX5_against_107 hl (by decide) rfl (fun ls hl => ?_)
              refine lv_aload_n hx hb dX5_against_109 rfl (lv_at hl 2 rfl) ?_
              refine va_get (D := D) (ci := 5) (v := .ref A_t_wins) (C := RX5) (T := TX5) (N := 13) hx hb hts inX5 hown hK hP 0 rfl rfl 11 (by decide) (hts _ q_742) (fun _ h9 => h9) rfl dX5_against_110 ?_
              refine lv_iconst (v := 1) hx hb dX5_against_113 (by decide) ?_
              refine lv_iload_n hx hb dX5_against_114 rfl (lv_at hl 3 rfl) ?_
              refine lv_ishl hx hb dX5_against_115 ?_
              refine lv_iload hx hb dX5_against_116 (lv_at hl 4 rfl) ?_
              refine lv_iadd hx hb dX5_against_118 ?_
              refine lv_aload_n hx hb dX5_against_119 rfl (lv_at hl 2 rfl) ?_
              refine lv_iload_n hx hb dX5_against_120 rfl (lv_at hl 3 rfl) ?_
              obtain ⟨r_23, hF_24, hF⟩ := ob1_some hF
              refine kcV (q := (RX5, TX5, 13)) (ci := 5) (q0 := 0) (As := [.int v3_13]) (rest := [.int (((1 : Int32) <<< (v3_13 &&& 31)) + v4_17), .ref A_t_wins]) (wr := [(A_t_wins, .inl (cy 3, 1024, .inl (fun j => bI (t_wins_18 j)))), (A_t_fits, .inl (cy 0, 1024, .inl t_fits))]) (wsN := (w_X5_against cy A_t A_t_s A_t_past A_t_begun A_t_text A_t_wins A_t_fits t_pasts t_thrown t_typed t_at t_letter t_one t_other t_s t_wins_18 t_fits)) ⟨hx, hb, hml, hown, hts⟩ hE hP hD hS hA hAs [0, 1] [2, 3] [2, 3, 0, 1] (c_X5_isBreakersOwn l D cy s0 tW N A_t A_t_s A_t_past A_t_begun A_t_text A_t_wins A_t_fits v3_13 t_pasts t_thrown t_typed t_at t_letter t_one t_other t_s _ hF_24) (gV q_874 q_876 q_62 q_88 q_877) hd_X5_isBreakersOwn ⟨Nat.le_of_ble_eq_true rfl, Nat.le_of_ble_eq_true rfl⟩ rfl rfl rfl rfl rfl rfl rfl rfl rfl hl.1 rfl (Nat.le_of_ble_eq_true rfl) dX5_against_121 ⟨Nat.zero_le _, Nat.zero_le _⟩ (fun H locs hP hD hS => ?_)
              refine W.eq (g2 := F0 m 124 ls [.int (bI r_23), .int (((1 : Int32) <<< (v3_13 &&& 31)) + v4_17), .ref A_t_wins]) rfl ?_
              refine lv_if_eq (tgt := 145) hx hb dX5_against_124 (by decide) (fun c_25 => ?_) (fun c_25 => ?_)
              · replace hF := ite_f (bI_f c_25) hF
                refine lv_iload hx hb dX5_against_145 (lv_at hl 1 rfl) ?_
                refine lv_if_ne (tgt := 155) hx hb dX5_against_147 (by decide) (fun c_26 => ?_) (fun c_26 => ?_)
                · replace hF := ite_t (bI_t c_26) hF
                  refine lv_iconst (v := 1) hx hb dX5_against_155 (by decide) ?_
                  refine lv_goto (tgt := 160) hx hb dX5_against_156 (by decide) ?_
                  obtain ⟨hi_27, hF⟩ := gd_some hF
                  refine ka_zast (x := true) (wsN := (w_X5_against cy A_t A_t_s A_t_past A_t_begun A_t_text A_t_wins A_t_fits t_pasts t_thrown t_typed t_at t_letter t_one t_other t_s (updB t_wins_18 ((((1 : Int32) <<< (v3_13 &&& 31)) + v4_17).toNatClampNeg) true) t_fits)) hx hb hK hP hD hS 2 rfl ((((1 : Int32) <<< (v3_13 &&& 31)) + v4_17).toNatClampNeg) rfl (inb_in hi_27) rfl dX5_against_160 (fun H locs hP hD hS => ?_)
                  refine lv_iinc (v := (v4_17 + 1)) (lv' := [(4, .int (v4_17 + 1)), (6, .int (bI (t_wins_18 (((((2 : Int32) <<< (v3_13 &&& 31)) + v4_17) + ((1 : Int32) <<< (v3_13 &&& 31))).toNatClampNeg)))), (5, .int (bI (t_wins_18 ((((2 : Int32) <<< (v3_13 &&& 31)) + v4_17).toNatClampNeg)))), (0, .ref A_t), (3, .int v3_13)]) hx hb dX5_against_161 hl (k := 4) rfl (by first | rfl | decide) (by decide) rfl (fun ls hl => ?_)
                  refine lv_goto (tgt := 71) hx hb dX5_against_164 (by decide) ?_
                  exact ih (v4_17 + 1) (updB t_wins_18 ((((1 : Int32) <<< (v3_13 &&& 31)) + v4_17).toNatClampNeg) true) H locs ls hF hP hD hS (lv_sub hl [3, 4, 0] rfl)
                · replace hF := ite_f (bI_f c_26) hF
                  refine lv_iload hx hb dX5_against_150 (lv_at hl 0 rfl) ?_
                  refine lv_if_eq (tgt := 159) hx hb dX5_against_152 (by decide) (fun c_28 => ?_) (fun c_28 => ?_)
                  · replace hF := ite_f (bI_f c_28) hF
                    refine lv_iconst (v := 0) hx hb dX5_against_159 (by decide) ?_
                    obtain ⟨hi_29, hF⟩ := gd_some hF
                    refine ka_zast (x := false) (wsN := (w_X5_against cy A_t A_t_s A_t_past A_t_begun A_t_text A_t_wins A_t_fits t_pasts t_thrown t_typed t_at t_letter t_one t_other t_s (updB t_wins_18 ((((1 : Int32) <<< (v3_13 &&& 31)) + v4_17).toNatClampNeg) false) t_fits)) hx hb hK hP hD hS 2 rfl ((((1 : Int32) <<< (v3_13 &&& 31)) + v4_17).toNatClampNeg) rfl (inb_in hi_29) rfl dX5_against_160 (fun H locs hP hD hS => ?_)
                    refine lv_iinc (v := (v4_17 + 1)) (lv' := [(4, .int (v4_17 + 1)), (6, .int (bI (t_wins_18 (((((2 : Int32) <<< (v3_13 &&& 31)) + v4_17) + ((1 : Int32) <<< (v3_13 &&& 31))).toNatClampNeg)))), (5, .int (bI (t_wins_18 ((((2 : Int32) <<< (v3_13 &&& 31)) + v4_17).toNatClampNeg)))), (0, .ref A_t), (3, .int v3_13)]) hx hb dX5_against_161 hl (k := 4) rfl (by first | rfl | decide) (by decide) rfl (fun ls hl => ?_)
                    refine lv_goto (tgt := 71) hx hb dX5_against_164 (by decide) ?_
                    exact ih (v4_17 + 1) (updB t_wins_18 ((((1 : Int32) <<< (v3_13 &&& 31)) + v4_17).toNatClampNeg) false) H locs ls hF hP hD hS (lv_sub hl [3, 4, 0] rfl)
                  · replace hF := ite_t (bI_t c_28) hF
                    refine lv_iconst (v := 1) hx hb dX5_against_155 (by decide) ?_
                    refine lv_goto (tgt := 160) hx hb dX5_against_156 (by decide) ?_
                    obtain ⟨hi_30, hF⟩ := gd_some hF
                    refine ka_zast (x := true) (wsN := (w_X5_against cy A_t A_t_s A_t_past A_t_begun A_t_text A_t_wins A_t_fits t_pasts t_thrown t_typed t_at t_letter t_one t_other t_s (updB t_wins_18 ((((1 : Int32) <<< (v3_13 &&& 31)) + v4_17).toNatClampNeg) true) t_fits)) hx hb hK hP hD hS 2 rfl ((((1 : Int32) <<< (v3_13 &&& 31)) + v4_17).toNatClampNeg) rfl (inb_in hi_30) rfl dX5_against_160 (fun H locs hP hD hS => ?_)
                    refine lv_iinc (v := (v4_17 + 1)) (lv' := [(4, .int (v4_17 + 1)), (6, .int (bI (t_wins_18 (((((2 : Int32) <<< (v3_13 &&& 31)) + v4_17) + ((1 : Int32) <<< (v3_13 &&& 31))).toNatClampNeg)))), (5, .int (bI (t_wins_18 ((((2 : Int32) <<< (v3_13 &&& 31)) + v4_17).toNatClampNeg)))), (0, .ref A_t), (3, .int v3_13)]) hx hb dX5_against_161 hl (k := 4) rfl (by first | rfl | decide) (by decide) rfl (fun ls hl => ?_)
                    refine lv_goto (tgt := 71) hx hb dX5_against_164 (by decide) ?_
                    exact ih (v4_17 + 1) (updB t_wins_18 ((((1 : Int32) <<< (v3_13 &&& 31)) + v4_17).toNatClampNeg) true) H locs ls hF hP hD hS (lv_sub hl [3, 4, 0] rfl)
              · replace hF := ite_t (bI_t c_25) hF
                refine lv_iload hx hb dX5_against_127 (lv_at hl 1 rfl) ?_
                refine lv_if_eq (tgt := 141) hx hb dX5_against_129 (by decide) (fun c_31 => ?_) (fun c_31 => ?_)
                · replace hF := ite_f (bI_f c_31) hF
                  refine lv_iconst (v := 0) hx hb dX5_against_141 (by decide) ?_
                  refine lv_goto (tgt := 160) hx hb dX5_against_142 (by decide) ?_
                  obtain ⟨hi_32, hF⟩ := gd_some hF
                  refine ka_zast (x := false) (wsN := (w_X5_against cy A_t A_t_s A_t_past A_t_begun A_t_text A_t_wins A_t_fits t_pasts t_thrown t_typed t_at t_letter t_one t_other t_s (updB t_wins_18 ((((1 : Int32) <<< (v3_13 &&& 31)) + v4_17).toNatClampNeg) false) t_fits)) hx hb hK hP hD hS 2 rfl ((((1 : Int32) <<< (v3_13 &&& 31)) + v4_17).toNatClampNeg) rfl (inb_in hi_32) rfl dX5_against_160 (fun H locs hP hD hS => ?_)
                  refine lv_iinc (v := (v4_17 + 1)) (lv' := [(4, .int (v4_17 + 1)), (6, .int (bI (t_wins_18 (((((2 : Int32) <<< (v3_13 &&& 31)) + v4_17) + ((1 : Int32) <<< (v3_13 &&& 31))).toNatClampNeg)))), (5, .int (bI (t_wins_18 ((((2 : Int32) <<< (v3_13 &&& 31)) + v4_17).toNatClampNeg)))), (0, .ref A_t), (3, .int v3_13)]) hx hb dX5_against_161 hl (k := 4) rfl (by first | rfl | decide) (by decide) rfl (fun ls hl => ?_)
                  refine lv_goto (tgt := 71) hx hb dX5_against_164 (by decide) ?_
                  exact ih (v4_17 + 1) (updB t_wins_18 ((((1 : Int32) <<< (v3_13 &&& 31)) + v4_17).toNatClampNeg) false) H locs ls hF hP hD hS (lv_sub hl [3, 4, 0] rfl)
                · replace hF := ite_t (bI_t c_31) hF
                  refine lv_iload hx hb dX5_against_132 (lv_at hl 0 rfl) ?_
                  refine lv_if_eq (tgt := 141) hx hb dX5_against_134 (by decide) (fun c_33 => ?_) (fun c_33 => ?_)
                  · replace hF := ite_f (bI_f c_33) hF
                    refine lv_iconst (v := 0) hx hb dX5_against_141 (by decide) ?_
                    refine lv_goto (tgt := 160) hx hb dX5_against_142 (by decide) ?_
                    obtain ⟨hi_34, hF⟩ := gd_some hF
                    refine ka_zast (x := false) (wsN := (w_X5_against cy A_t A_t_s A_t_past A_t_begun A_t_text A_t_wins A_t_fits t_pasts t_thrown t_typed t_at t_letter t_one t_other t_s (updB t_wins_18 ((((1 : Int32) <<< (v3_13 &&& 31)) + v4_17).toNatClampNeg) false) t_fits)) hx hb hK hP hD hS 2 rfl ((((1 : Int32) <<< (v3_13 &&& 31)) + v4_17).toNatClampNeg) rfl (inb_in hi_34) rfl dX5_against_160 (fun H locs hP hD hS => ?_)
                    refine lv_iinc (v := (v4_17 + 1)) (lv' := [(4, .int (v4_17 + 1)), (6, .int (bI (t_wins_18 (((((2 : Int32) <<< (v3_13 &&& 31)) + v4_17) + ((1 : Int32) <<< (v3_13 &&& 31))).toNatClampNeg)))), (5, .int (bI (t_wins_18 ((((2 : Int32) <<< (v3_13 &&& 31)) + v4_17).toNatClampNeg)))), (0, .ref A_t), (3, .int v3_13)]) hx hb dX5_against_161 hl (k := 4) rfl (by first | rfl | decide) (by decide) rfl (fun ls hl => ?_)
                    refine lv_goto (tgt := 71) hx hb dX5_against_164 (by decide) ?_
                    exact ih (v4_17 + 1) (updB t_wins_18 ((((1 : Int32) <<< (v3_13 &&& 31)) + v4_17).toNatClampNeg) false) H locs ls hF hP hD hS (lv_sub hl [3, 4, 0] rfl)
                  · replace hF := ite_t (bI_t c_33) hF
                    refine lv_iconst (v := 1) hx hb dX5_against_137 (by decide) ?_
                    refine lv_goto (tgt := 160) hx hb dX5_against_138 (by decide) ?_
                    obtain ⟨hi_35, hF⟩ := gd_some hF
                    refine ka_zast (x := true) (wsN := (w_X5_against cy A_t A_t_s A_t_past A_t_begun A_t_text A_t_wins A_t_fits t_pasts t_thrown t_typed t_at t_letter t_one t_other t_s (updB t_wins_18 ((((1 : Int32) <<< (v3_13 &&& 31)) + v4_17).toNatClampNeg) true) t_fits)) hx hb hK hP hD hS 2 rfl ((((1 : Int32) <<< (v3_13 &&& 31)) + v4_17).toNatClampNeg) rfl (inb_in hi_35) rfl dX5_against_160 (fun H locs hP hD hS => ?_)
                    refine lv_iinc (v := (v4_17 + 1)) (lv' := [(4, .int (v4_17 + 1)), (6, .int (bI (t_wins_18 (((((2 : Int32) <<< (v3_13 &&& 31)) + v4_17) + ((1 : Int32) <<< (v3_13 &&& 31))).toNatClampNeg)))), (5, .int (bI (t_wins_18 ((((2 : Int32) <<< (v3_13 &&& 31)) + v4_17).toNatClampNeg)))), (0, .ref A_t), (3, .int v3_13)]) hx hb dX5_against_161 hl (k := 4) rfl (by first | rfl | decide) (by decide) rfl (fun ls hl => ?_)
                    refine lv_goto (tgt := 71) hx hb dX5_against_164 (by decide) ?_
                    exact ih (v4_17 + 1) (updB t_wins_18 ((((1 : Int32) <<< (v3_13 &&& 31)) + v4_17).toNatClampNeg) true) H locs ls hF hP hD hS (lv_sub hl [3, 4, 0] rfl)
        refine hloop_71 _ (fun t_wins_19 H locs ls hF hP hD hS hl => ?_) N 0 t_wins_14 _ _ ls hF hP hD hS (lv_sub hl [1, 2, 0] rfl)
        refine lv_iinc (v := (v3_13 + (-1))) (lv' := [(3, .int (v3_13 + (-1))), (0, .ref A_t)]) hx hb dX5_against_167 hl (k := 1) rfl (by first | rfl | decide) (by decide) rfl (fun ls hl => ?_)
        refine lv_goto (tgt := 64) hx hb dX5_against_170 (by decide) ?_
        exact ih (v3_13 + (-1)) t_wins_19 H locs ls hF hP hD hS (lv_sub hl [1, 0] rfl)
  refine hloop_64 _ (fun t_wins_15 H locs ls hF hP hD hS hl => ?_) N ((t_s 0) - 1) t_wins_3 _ _ ls hF hP hD hS (lv_sub hl [1, 0] rfl)
  refine lv_aload_n hx hb dX5_against_173 rfl (lv_at hl 0 rfl) ?_
  refine va_get (D := D) (ci := 5) (v := .ref A_t_wins) (C := RX5) (T := TX5) (N := 13) hx hb hts inX5 hown hK hP 0 rfl rfl 11 (by decide) (hts _ q_742) (fun _ h9 => h9) rfl dX5_against_174 ?_
  refine lv_iconst (v := 1) hx hb dX5_against_177 (by decide) ?_
  refine ka_zald hx hb hK hP 2 rfl (1) rfl (inb_in (by decide)) dX5_against_178 ?_
  cases hF
  exact kret_z hx hb hr hlocks hP hD hS dX5_against_179

abbrev w_X5_answers (cy : Nat → ClassId) (A_t : Nat) (A_t_s : Nat) (A_t_past : Nat) (A_t_begun : Nat) (A_t_text : Nat) (A_t_wins : Nat) (A_t_fits : Nat) (t_pasts : Int32) (t_thrown : Int32) (t_typed : Int32) (t_at : Int32) (t_letter : Int32) (t_one : Int32) (t_other : Int32) (t_s : Nat → Int32) (t_wins : Nat → Bool) : va_W := [(A_t, .inr (5, [.ref A_t_s, .ref A_t_past, .ref A_t_begun, .int t_pasts, .int t_thrown, .ref A_t_text, .int t_typed, .int t_at, .int t_letter, .int t_one, .int t_other, .ref A_t_wins, .ref A_t_fits])), (A_t_s, .inl (cy 0, 45, .inl t_s)), (A_t_wins, .inl (cy 3, 1024, .inl (fun j => bI (t_wins j))))]
def L_X5_answers_7 (N : Nat) (t_s : Nat → Int32) (t_wins : Nat → Bool) (p0 : Int32) (kont : Int32 → Option (Int32)) : Nat → Int32 → Int32 → Int32 → Option (Int32)
  | 0, _, _, _ => none
  | n + 1, v2_1, v3_2, v4_3 => (if (t_s 0) ≤ v4_3 then kont v2_1 else gd (inb (((2 : Int32) <<< (v4_3 &&& 31)) + v2_1) 1024) ((if (t_wins ((((2 : Int32) <<< (v4_3 &&& 31)) + v2_1).toNatClampNeg)) = true then ob1 (F_X5_isBreakersOwn N v4_3 t_s) (fun r_12 => (if r_12 = true then nmv (v2_1 ||| (((p0 >>> (v3_2 &&& 31)) &&& 1) <<< (v4_3 &&& 31))) (fun x_15 => L_X5_answers_7 N t_s t_wins p0 kont n x_15 (v3_2 + 1) (v4_3 + 1)) else L_X5_answers_7 N t_s t_wins p0 kont n (v2_1 ||| ((0 : Int32) <<< (v4_3 &&& 31))) v3_2 (v4_3 + 1))) else ob1 (F_X5_isBreakersOwn N v4_3 t_s) (fun r_8 => (if r_8 = true then nmv (v2_1 ||| (((p0 >>> (v3_2 &&& 31)) &&& 1) <<< (v4_3 &&& 31))) (fun x_11 => L_X5_answers_7 N t_s t_wins p0 kont n x_11 (v3_2 + 1) (v4_3 + 1)) else L_X5_answers_7 N t_s t_wins p0 kont n (v2_1 ||| ((1 : Int32) <<< (v4_3 &&& 31))) v3_2 (v4_3 + 1))))))
def F_X5_answers (N : Nat) (p0 : Int32) (t_s : Nat → Int32) (t_wins : Nat → Bool) : Option (Int32) :=
  (L_X5_answers_7 N t_s t_wins p0 (fun u2_4 => some u2_4) N 0 0 0)
set_option maxHeartbeats 4000000 in
set_option maxRecDepth 100000 in
theorem c_X5_answers (l : Launch) (D : va_G) (cy : Nat → ClassId) (s0 tW N : Nat) (A_t : Nat) (A_t_s : Nat) (A_t_past : Nat) (A_t_begun : Nat) (A_t_text : Nat) (A_t_wins : Nat) (A_t_fits : Nat) (p0 : Int32) (t_pasts : Int32) (t_thrown : Int32) (t_typed : Int32) (t_at : Int32) (t_letter : Int32) (t_one : Int32) (t_other : Int32) (t_s : Nat → Int32) (t_wins : Nat → Bool) (sz : Nat) {r9 : Int32} (hF : F_X5_answers N p0 t_s t_wins = some r9) : KM l D cy s0 tW yX5_answers cX5_answers 6 (some .int) 1 21 [.ref A_t, .int p0] sz (w_X5_answers cy A_t A_t_s A_t_past A_t_begun A_t_text A_t_wins A_t_fits t_pasts t_thrown t_typed t_at t_letter t_one t_other t_s t_wins) (some (.int r9)) (w_X5_answers cy A_t A_t_s A_t_past A_t_begun A_t_text A_t_wins A_t_fits t_pasts t_thrown t_typed t_at t_letter t_one t_other t_s t_wins) := by
  refine KM.intro rfl (Nat.le_of_ble_eq_true rfl) ?_
  intro p e s m args below meth c A ls hx hb hr hml hown hts hlocks hE hP hD hS hA hAs hl
  have hK := hE.1
  have hl : lv_has ls 6 [(0, .ref A_t), (1, .int p0)] := hl
  unfold F_X5_answers at hF
  refine lv_iconst (v := 0) hx hb dX5_answers_0 (by decide) ?_
  refine lv_istore_n (lv' := [(2, .int 0), (0, .ref A_t), (1, .int p0)]) hx hb dX5_answers_1 rfl hl (by decide) rfl (fun ls hl => ?_)
  refine lv_iconst (v := 0) hx hb dX5_answers_2 (by decide) ?_
  refine lv_istore_n (lv' := [(3, .int 0), (2, .int 0), (0, .ref A_t), (1, .int p0)]) hx hb dX5_answers_3 rfl hl (by decide) rfl (fun ls hl => ?_)
  refine lv_iconst (v := 0) hx hb dX5_answers_4 (by decide) ?_
  refine lv_istore (lv' := [(4, .int 0), (3, .int 0), (2, .int 0), (0, .ref A_t), (1, .int p0)]) hx hb dX5_answers_5 hl (by decide) rfl (fun ls hl => ?_)
  have hloop_7 : ∀ (kont : Int32 → Option (Int32)), (∀ (u2_4 : Int32) (H : Heap) (locs : List Loc) (ls : Array Slot), kont u2_4 = some r9 → va_P D vwCl (w_X5_answers cy A_t A_t_s A_t_past A_t_begun A_t_text A_t_wins A_t_fits t_pasts t_thrown t_typed t_at t_letter t_one t_other t_s t_wins) H → va_D A (w_X5_answers cy A_t A_t_s A_t_past A_t_begun A_t_text A_t_wins A_t_fits t_pasts t_thrown t_typed t_at t_letter t_one t_other t_s t_wins) → va_S A s.heap H locs → lv_has ls 6 [(2, .int u2_4)] → W p l e (rmK 1 21) s m args below meth c H locs 0 0 (MQ below (kQ (some (.int r9)) D A (w_X5_answers cy A_t A_t_s A_t_past A_t_begun A_t_text A_t_wins A_t_fits t_pasts t_thrown t_typed t_at t_letter t_one t_other t_s t_wins)) args s 0 0 A) (F0 m 72 ls [])) → ∀ (n : Nat) (v2_1 : Int32) (v3_2 : Int32) (v4_3 : Int32) (H : Heap) (locs : List Loc) (ls : Array Slot), L_X5_answers_7 N t_s t_wins p0 kont n v2_1 v3_2 v4_3 = some r9 → va_P D vwCl (w_X5_answers cy A_t A_t_s A_t_past A_t_begun A_t_text A_t_wins A_t_fits t_pasts t_thrown t_typed t_at t_letter t_one t_other t_s t_wins) H → va_D A (w_X5_answers cy A_t A_t_s A_t_past A_t_begun A_t_text A_t_wins A_t_fits t_pasts t_thrown t_typed t_at t_letter t_one t_other t_s t_wins) → va_S A s.heap H locs → lv_has ls 6 [(0, .ref A_t), (1, .int p0), (2, .int v2_1), (3, .int v3_2), (4, .int v4_3)] → W p l e (rmK 1 21) s m args below meth c H locs 0 0 (MQ below (kQ (some (.int r9)) D A (w_X5_answers cy A_t A_t_s A_t_past A_t_begun A_t_text A_t_wins A_t_fits t_pasts t_thrown t_typed t_at t_letter t_one t_other t_s t_wins)) args s 0 0 A) (F0 m 7 ls []) := by
    intro kont hexit_7 n
    induction n with
    | zero =>
      intro v2_1 v3_2 v4_3 H locs ls hF
      rw [L_X5_answers_7] at hF
      cases hF
    | succ n ih =>
      intro v2_1 v3_2 v4_3 H locs ls hF hP hD hS hl
      rw [L_X5_answers_7] at hF
      refine lv_iload hx hb dX5_answers_7 (lv_at hl 4 rfl) ?_
      refine lv_aload_n hx hb dX5_answers_9 rfl (lv_at hl 0 rfl) ?_
      refine va_get (D := D) (ci := 5) (v := .ref A_t_s) (C := RX5) (T := TX5) (N := 13) hx hb hts inX5 hown hK hP 0 rfl rfl 0 (by decide) (hts _ q_731) (fun _ h9 => h9) rfl dX5_answers_10 ?_
      refine lv_iconst (v := 0) hx hb dX5_answers_13 (by decide) ?_
      refine ka_iald hx hb hK hP 1 rfl (0) rfl (inb_in (by decide)) dX5_answers_14 ?_
      refine lv_icmp_ge (tgt := 72) hx hb dX5_answers_15 (by decide) (fun c_5 => ?_) (fun c_5 => ?_)
      · replace hF := ite_t c_5 hF
        exact hexit_7 v2_1 H locs ls hF hP hD hS (lv_sub hl [2] rfl)
      · replace hF := ite_f c_5 hF
        refine lv_aload_n hx hb dX5_answers_18 rfl (lv_at hl 0 rfl) ?_
        refine va_get (D := D) (ci := 5) (v := .ref A_t_wins) (C := RX5) (T := TX5) (N := 13) hx hb hts inX5 hown hK hP 0 rfl rfl 11 (by decide) (hts _ q_742) (fun _ h9 => h9) rfl dX5_answers_19 ?_
        refine lv_iconst (v := 2) hx hb dX5_answers_22 (by decide) ?_
        refine lv_iload hx hb dX5_answers_23 (lv_at hl 4 rfl) ?_
        refine lv_ishl hx hb dX5_answers_25 ?_
        refine lv_iload_n hx hb dX5_answers_26 rfl (lv_at hl 2 rfl) ?_
        refine lv_iadd hx hb dX5_answers_27 ?_
        obtain ⟨hi_6, hF⟩ := gd_some hF
        refine ka_zald hx hb hK hP 2 rfl ((((2 : Int32) <<< (v4_3 &&& 31)) + v2_1).toNatClampNeg) rfl (inb_in hi_6) dX5_answers_28 ?_
        refine lv_if_eq (tgt := 36) hx hb dX5_answers_29 (by decide) (fun c_7 => ?_) (fun c_7 => ?_)
        · replace hF := ite_f (bI_f c_7) hF
          refine lv_iconst (v := 1) hx hb dX5_answers_36 (by decide) ?_
          refine lv_istore (lv' := [(5, .int 1), (0, .ref A_t), (1, .int p0), (2, .int v2_1), (3, .int v3_2), (4, .int v4_3)]) hx hb dX5_answers_37 hl (by decide) rfl (fun ls hl => ?_)
          refine lv_aload_n hx hb dX5_answers_39 rfl (lv_at hl 1 rfl) ?_
          refine lv_iload hx hb dX5_answers_40 (lv_at hl 5 rfl) ?_
          obtain ⟨r_8, hF_9, hF⟩ := ob1_some hF
          refine kcV (q := (RX5, TX5, 13)) (ci := 5) (q0 := 0) (As := [.int v4_3]) (rest := []) (wr := [(A_t_wins, .inl (cy 3, 1024, .inl (fun j => bI (t_wins j))))]) (wsN := (w_X5_answers cy A_t A_t_s A_t_past A_t_begun A_t_text A_t_wins A_t_fits t_pasts t_thrown t_typed t_at t_letter t_one t_other t_s t_wins)) ⟨hx, hb, hml, hown, hts⟩ hE hP hD hS hA hAs [0, 1] [2] [1, 2, 0] (c_X5_isBreakersOwn l D cy s0 tW N A_t A_t_s A_t_past A_t_begun A_t_text A_t_wins A_t_fits v4_3 t_pasts t_thrown t_typed t_at t_letter t_one t_other t_s _ hF_9) (gV q_874 q_876 q_62 q_88 q_877) hd_X5_isBreakersOwn ⟨Nat.le_of_ble_eq_true rfl, Nat.le_of_ble_eq_true rfl⟩ rfl rfl rfl rfl rfl rfl rfl rfl rfl hl.1 rfl (Nat.le_of_ble_eq_true rfl) dX5_answers_42 ⟨Nat.zero_le _, Nat.zero_le _⟩ (fun H locs hP hD hS => ?_)
          refine W.eq (g2 := F0 m 45 ls [.int (bI r_8)]) rfl ?_
          refine lv_if_eq (tgt := 58) hx hb dX5_answers_45 (by decide) (fun c_10 => ?_) (fun c_10 => ?_)
          · replace hF := ite_f (bI_f c_10) hF
            refine lv_iload_n hx hb dX5_answers_58 rfl (lv_at hl 3 rfl) ?_
            refine lv_iload hx hb dX5_answers_59 (lv_at hl 0 rfl) ?_
            refine lv_iload hx hb dX5_answers_61 (lv_at hl 5 rfl) ?_
            refine lv_ishl hx hb dX5_answers_63 ?_
            refine lv_ior hx hb dX5_answers_64 ?_
            refine lv_istore_n (lv' := [(2, .int (v2_1 ||| ((1 : Int32) <<< (v4_3 &&& 31)))), (5, .int 1), (0, .ref A_t), (1, .int p0), (3, .int v3_2), (4, .int v4_3)]) hx hb dX5_answers_65 rfl hl (by decide) rfl (fun ls hl => ?_)
            refine lv_iinc (v := (v4_3 + 1)) (lv' := [(4, .int (v4_3 + 1)), (2, .int (v2_1 ||| ((1 : Int32) <<< (v4_3 &&& 31)))), (5, .int 1), (0, .ref A_t), (1, .int p0), (3, .int v3_2)]) hx hb dX5_answers_66 hl (k := 5) rfl (by first | rfl | decide) (by decide) rfl (fun ls hl => ?_)
            refine lv_goto (tgt := 7) hx hb dX5_answers_69 (by decide) ?_
            exact ih (v2_1 ||| ((1 : Int32) <<< (v4_3 &&& 31))) v3_2 (v4_3 + 1) H locs ls hF hP hD hS (lv_sub hl [3, 4, 1, 5, 0] rfl)
          · replace hF := ite_t (bI_t c_10) hF
            refine lv_iload_n hx hb dX5_answers_48 rfl (lv_at hl 2 rfl) ?_
            refine lv_iload_n hx hb dX5_answers_49 rfl (lv_at hl 4 rfl) ?_
            refine lv_ishr hx hb dX5_answers_50 ?_
            refine lv_iconst (v := 1) hx hb dX5_answers_51 (by decide) ?_
            refine lv_iand hx hb dX5_answers_52 ?_
            refine lv_istore (lv' := [(5, .int ((p0 >>> (v3_2 &&& 31)) &&& 1)), (0, .ref A_t), (1, .int p0), (2, .int v2_1), (3, .int v3_2), (4, .int v4_3)]) hx hb dX5_answers_53 hl (by decide) rfl (fun ls hl => ?_)
            refine lv_iinc (v := (v3_2 + 1)) (lv' := [(3, .int (v3_2 + 1)), (5, .int ((p0 >>> (v3_2 &&& 31)) &&& 1)), (0, .ref A_t), (1, .int p0), (2, .int v2_1), (4, .int v4_3)]) hx hb dX5_answers_55 hl (k := 4) rfl (by first | rfl | decide) (by decide) rfl (fun ls hl => ?_)
            refine lv_iload_n hx hb dX5_answers_58 rfl (lv_at hl 4 rfl) ?_
            refine lv_iload hx hb dX5_answers_59 (lv_at hl 1 rfl) ?_
            refine lv_iload hx hb dX5_answers_61 (lv_at hl 5 rfl) ?_
            refine lv_ishl hx hb dX5_answers_63 ?_
            refine lv_ior hx hb dX5_answers_64 ?_
            refine lv_topi (fun x_11 ex_11 => ?_)
            replace hF := nmv_at ex_11 hF
            refine lv_istore_n (lv' := [(2, .int x_11), (3, .int (v3_2 + 1)), (5, .int ((p0 >>> (v3_2 &&& 31)) &&& 1)), (0, .ref A_t), (1, .int p0), (4, .int v4_3)]) hx hb dX5_answers_65 rfl hl (by decide) rfl (fun ls hl => ?_)
            refine lv_iinc (v := (v4_3 + 1)) (lv' := [(4, .int (v4_3 + 1)), (2, .int x_11), (3, .int (v3_2 + 1)), (5, .int ((p0 >>> (v3_2 &&& 31)) &&& 1)), (0, .ref A_t), (1, .int p0)]) hx hb dX5_answers_66 hl (k := 5) rfl (by first | rfl | decide) (by decide) rfl (fun ls hl => ?_)
            refine lv_goto (tgt := 7) hx hb dX5_answers_69 (by decide) ?_
            exact ih x_11 (v3_2 + 1) (v4_3 + 1) H locs ls hF hP hD hS (lv_sub hl [4, 5, 1, 2, 0] rfl)
        · replace hF := ite_t (bI_t c_7) hF
          refine lv_iconst (v := 0) hx hb dX5_answers_32 (by decide) ?_
          refine lv_goto (tgt := 37) hx hb dX5_answers_33 (by decide) ?_
          refine lv_istore (lv' := [(5, .int 0), (0, .ref A_t), (1, .int p0), (2, .int v2_1), (3, .int v3_2), (4, .int v4_3)]) hx hb dX5_answers_37 hl (by decide) rfl (fun ls hl => ?_)
          refine lv_aload_n hx hb dX5_answers_39 rfl (lv_at hl 1 rfl) ?_
          refine lv_iload hx hb dX5_answers_40 (lv_at hl 5 rfl) ?_
          obtain ⟨r_12, hF_13, hF⟩ := ob1_some hF
          refine kcV (q := (RX5, TX5, 13)) (ci := 5) (q0 := 0) (As := [.int v4_3]) (rest := []) (wr := [(A_t_wins, .inl (cy 3, 1024, .inl (fun j => bI (t_wins j))))]) (wsN := (w_X5_answers cy A_t A_t_s A_t_past A_t_begun A_t_text A_t_wins A_t_fits t_pasts t_thrown t_typed t_at t_letter t_one t_other t_s t_wins)) ⟨hx, hb, hml, hown, hts⟩ hE hP hD hS hA hAs [0, 1] [2] [1, 2, 0] (c_X5_isBreakersOwn l D cy s0 tW N A_t A_t_s A_t_past A_t_begun A_t_text A_t_wins A_t_fits v4_3 t_pasts t_thrown t_typed t_at t_letter t_one t_other t_s _ hF_13) (gV q_874 q_876 q_62 q_88 q_877) hd_X5_isBreakersOwn ⟨Nat.le_of_ble_eq_true rfl, Nat.le_of_ble_eq_true rfl⟩ rfl rfl rfl rfl rfl rfl rfl rfl rfl hl.1 rfl (Nat.le_of_ble_eq_true rfl) dX5_answers_42 ⟨Nat.zero_le _, Nat.zero_le _⟩ (fun H locs hP hD hS => ?_)
          refine W.eq (g2 := F0 m 45 ls [.int (bI r_12)]) rfl ?_
          refine lv_if_eq (tgt := 58) hx hb dX5_answers_45 (by decide) (fun c_14 => ?_) (fun c_14 => ?_)
          · replace hF := ite_f (bI_f c_14) hF
            refine lv_iload_n hx hb dX5_answers_58 rfl (lv_at hl 3 rfl) ?_
            refine lv_iload hx hb dX5_answers_59 (lv_at hl 0 rfl) ?_
            refine lv_iload hx hb dX5_answers_61 (lv_at hl 5 rfl) ?_
            refine lv_ishl hx hb dX5_answers_63 ?_
            refine lv_ior hx hb dX5_answers_64 ?_
            refine lv_istore_n (lv' := [(2, .int (v2_1 ||| ((0 : Int32) <<< (v4_3 &&& 31)))), (5, .int 0), (0, .ref A_t), (1, .int p0), (3, .int v3_2), (4, .int v4_3)]) hx hb dX5_answers_65 rfl hl (by decide) rfl (fun ls hl => ?_)
            refine lv_iinc (v := (v4_3 + 1)) (lv' := [(4, .int (v4_3 + 1)), (2, .int (v2_1 ||| ((0 : Int32) <<< (v4_3 &&& 31)))), (5, .int 0), (0, .ref A_t), (1, .int p0), (3, .int v3_2)]) hx hb dX5_answers_66 hl (k := 5) rfl (by first | rfl | decide) (by decide) rfl (fun ls hl => ?_)
            refine lv_goto (tgt := 7) hx hb dX5_answers_69 (by decide) ?_
            exact ih (v2_1 ||| ((0 : Int32) <<< (v4_3 &&& 31))) v3_2 (v4_3 + 1) H locs ls hF hP hD hS (lv_sub hl [3, 4, 1, 5, 0] rfl)
          · replace hF := ite_t (bI_t c_14) hF
            refine lv_iload_n hx hb dX5_answers_48 rfl (lv_at hl 2 rfl) ?_
            refine lv_iload_n hx hb dX5_answers_49 rfl (lv_at hl 4 rfl) ?_
            refine lv_ishr hx hb dX5_answers_50 ?_
            refine lv_iconst (v := 1) hx hb dX5_answers_51 (by decide) ?_
            refine lv_iand hx hb dX5_answers_52 ?_
            refine lv_istore (lv' := [(5, .int ((p0 >>> (v3_2 &&& 31)) &&& 1)), (0, .ref A_t), (1, .int p0), (2, .int v2_1), (3, .int v3_2), (4, .int v4_3)]) hx hb dX5_answers_53 hl (by decide) rfl (fun ls hl => ?_)
            refine lv_iinc (v := (v3_2 + 1)) (lv' := [(3, .int (v3_2 + 1)), (5, .int ((p0 >>> (v3_2 &&& 31)) &&& 1)), (0, .ref A_t), (1, .int p0), (2, .int v2_1), (4, .int v4_3)]) hx hb dX5_answers_55 hl (k := 4) rfl (by first | rfl | decide) (by decide) rfl (fun ls hl => ?_)
            refine lv_iload_n hx hb dX5_answers_58 rfl (lv_at hl 4 rfl) ?_
            refine lv_iload hx hb dX5_answers_59 (lv_at hl 1 rfl) ?_
            refine lv_iload hx hb dX5_answers_61 (lv_at hl 5 rfl) ?_
            refine lv_ishl hx hb dX5_answers_63 ?_
            refine lv_ior hx hb dX5_answers_64 ?_
            refine lv_topi (fun x_15 ex_15 => ?_)
            replace hF := nmv_at ex_15 hF
            refine lv_istore_n (lv' := [(2, .int x_15), (3, .int (v3_2 + 1)), (5, .int ((p0 >>> (v3_2 &&& 31)) &&& 1)), (0, .ref A_t), (1, .int p0), (4, .int v4_3)]) hx hb dX5_answers_65 rfl hl (by decide) rfl (fun ls hl => ?_)
            refine lv_iinc (v := (v4_3 + 1)) (lv' := [(4, .int (v4_3 + 1)), (2, .int x_15), (3, .int (v3_2 + 1)), (5, .int ((p0 >>> (v3_2 &&& 31)) &&& 1)), (0, .ref A_t), (1, .int p0)]) hx hb dX5_answers_66 hl (k := 5) rfl (by first | rfl | decide) (by decide) rfl (fun ls hl => ?_)
            refine lv_goto (tgt := 7) hx hb dX5_answers_69 (by decide) ?_
            exact ih x_15 (v3_2 + 1) (v4_3 + 1) H locs ls hF hP hD hS (lv_sub hl [4, 5, 1, 2, 0] rfl)
  refine hloop_7 _ (fun u2_4 H locs ls hF hP hD hS hl => ?_) N 0 0 0 _ _ ls hF hP hD hS (lv_sub hl [3, 4, 2, 1, 0] rfl)
  refine lv_iload_n hx hb dX5_answers_72 rfl (lv_at hl 0 rfl) ?_
  cases hF
  exact kret_i hx hb hr hlocks hP hD hS dX5_answers_73
