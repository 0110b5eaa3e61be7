theorem q_57 : Cond.selects RX5 yX5_isPlay yX5_isPlay ∈ wAll := wAll_mem 57 (by decide +kernel) (by decide +kernel)
theorem q_846 : Cond.methodLink RX5 92 yX5_isPlay ∈ wAll := wAll_mem 846 (by decide +kernel) (by decide +kernel)
theorem q_848 : Cond.instanceMethod yX5_isPlay ∈ wAll := wAll_mem 848 (by decide +kernel) (by decide +kernel)
theorem q_849 : Cond.code yX5_isPlay cX5_isPlay 2 (some .boolean) ∈ wAll := wAll_mem 849 (by decide +kernel) (by decide +kernel)
theorem hd_X5_isPlay : yX5_isPlay.cls = RX5 ∧ yX5_isPlay.cls ≠ "java/lang/invoke/MethodHandle" ∧ yX5_isPlay.cls ≠ "java/lang/invoke/VarHandle" ∧ (parseMethodDescriptor yX5_isPlay.desc).map (fun d => d.parameters.length) = some 1 := by decide +kernel
abbrev w_X5_whyNotLearn (cy : Nat → ClassId) (A_t : Nat) (A_t_s : Nat) (A_t_past : Nat) (A_t_begun : Nat) (A_t_text : Nat) (A_t_wins : Nat) (A_t_fits : Nat) (t_pasts : Int32) (t_thrown : Int32) (t_typed : Int32) (t_at : Int32) (t_letter : Int32) (t_one : Int32) (t_other : Int32) (t_s : Nat → Int32) : va_W := [(A_t, .inr (5, [.ref A_t_s, .ref A_t_past, .ref A_t_begun, .int t_pasts, .int t_thrown, .ref A_t_text, .int t_typed, .int t_at, .int t_letter, .int t_one, .int t_other, .ref A_t_wins, .ref A_t_fits])), (A_t_s, .inl (cy 0, 45, .inl t_s))]
def F_X5_whyNotLearn (N : Nat) (p0 : Int32) (t_s : Nat → Int32) : Option (Int32) :=
  ob1 (F_X5_isPlay N p0 t_s) (fun r_1 => (if r_1 = true then (if (((t_s 3) >>> (p0 &&& 31)) &&& 1) = (1 : Int32) then some 2 else some 0) else some 1))
set_option maxHeartbeats 4000000 in
set_option maxRecDepth 100000 in
theorem c_X5_whyNotLearn (l : Launch) (D : va_G) (cy : Nat → ClassId) (s0 tW N : Nat) (A_t : Nat) (A_t_s : Nat) (A_t_past : Nat) (A_t_begun : Nat) (A_t_text : Nat) (A_t_wins : Nat) (A_t_fits : Nat) (p0 : Int32) (t_pasts : Int32) (t_thrown : Int32) (t_typed : Int32) (t_at : Int32) (t_letter : Int32) (t_one : Int32) (t_other : Int32) (t_s : Nat → Int32) (sz : Nat) {r9 : Int32} (hF : F_X5_whyNotLearn N p0 t_s = some r9) : KM l D cy s0 tW yX5_whyNotLearn cX5_whyNotLearn 2 (some .int) 3 63 [.ref A_t, .int p0] sz (w_X5_whyNotLearn cy A_t A_t_s A_t_past A_t_begun A_t_text A_t_wins A_t_fits t_pasts t_thrown t_typed t_at t_letter t_one t_other t_s) (some (.int r9)) (w_X5_whyNotLearn cy A_t A_t_s A_t_past A_t_begun A_t_text A_t_wins A_t_fits t_pasts t_thrown t_typed t_at t_letter t_one t_other t_s) := by
  refine KM.intro rfl (Nat.le_of_ble_eq_true rfl) ?_
  intro p e s m args below meth c A ls hx hb hr hml hown hts hlocks hE hP hD hS hA hAs hl
  have hK := hE.1
  have hl : lv_has ls 2 [(0, .ref A_t), (1, .int p0)] := hl
  unfold F_X5_whyNotLearn at hF
  refine lv_aload_n hx hb dX5_whyNotLearn_0 rfl (lv_at hl 0 rfl) ?_
  refine lv_iload_n hx hb dX5_whyNotLearn_1 rfl (lv_at hl 1 rfl) ?_
  obtain ⟨r_1, hF_2, hF⟩ := ob1_some hF
  refine kcV (q := (RX5, TX5, 13)) (ci := 5) (q0 := 0) (As := [.int p0]) (rest := []) (wr := []) (wsN := (w_X5_whyNotLearn cy A_t A_t_s A_t_past A_t_begun A_t_text A_t_wins A_t_fits t_pasts t_thrown t_typed t_at t_letter t_one t_other t_s)) ⟨hx, hb, hml, hown, hts⟩ hE hP hD hS hA hAs [0, 1] [] [0, 1] (c_X5_isPlay l D cy s0 tW N A_t A_t_s A_t_past A_t_begun A_t_text A_t_wins A_t_fits p0 t_pasts t_thrown t_typed t_at t_letter t_one t_other t_s _ hF_2) (gV q_846 q_848 q_57 q_88 q_849) hd_X5_isPlay ⟨Nat.le_of_ble_eq_true rfl, Nat.le_of_ble_eq_true rfl⟩ rfl rfl rfl rfl rfl rfl rfl rfl rfl hl.1 rfl (Nat.le_of_ble_eq_true rfl) dX5_whyNotLearn_2 ⟨Nat.zero_le _, Nat.zero_le _⟩ (fun H locs hP hD hS => ?_)
  refine W.eq (g2 := F0 m 5 ls [.int (bI r_1)]) rfl ?_
  refine lv_if_ne (tgt := 12) hx hb dX5_whyNotLearn_5 (by decide) (fun c_3 => ?_) (fun c_3 => ?_)
  · replace hF := ite_t (bI_t c_3) hF
    refine lv_aload_n hx hb dX5_whyNotLearn_12 rfl (lv_at hl 0 rfl) ?_
    refine va_get (D := D) (ci := 5) (v := .ref A_t_s) (C := RX5) (T := TX5) (N := 13) hx hb hts inX5 hown hK hP 0 rfl rfl 0 (by decide) (hts _ q_731) (fun _ h9 => h9) rfl dX5_whyNotLearn_13 ?_
    refine lv_iconst (v := 3) hx hb dX5_whyNotLearn_16 (by decide) ?_
    refine ka_iald hx hb hK hP 1 rfl (3) rfl (inb_in (by decide)) dX5_whyNotLearn_17 ?_
    refine lv_iload_n hx hb dX5_whyNotLearn_18 rfl (lv_at hl 1 rfl) ?_
    refine lv_ishr hx hb dX5_whyNotLearn_19 ?_
    refine lv_iconst (v := 1) hx hb dX5_whyNotLearn_20 (by decide) ?_
    refine lv_iand hx hb dX5_whyNotLearn_21 ?_
    refine lv_iconst (v := 1) hx hb dX5_whyNotLearn_22 (by decide) ?_
    refine lv_icmp_ne (tgt := 30) hx hb dX5_whyNotLearn_23 (by decide) (fun c_4 => ?_) (fun c_4 => ?_)
    · replace hF := ite_f c_4 hF
      refine lv_iconst (v := 0) hx hb dX5_whyNotLearn_30 (by decide) ?_
      cases hF
      exact kret_i hx hb hr hlocks hP hD hS dX5_whyNotLearn_31
    · replace hF := ite_t c_4 hF
      refine lv_iconst (v := 2) hx hb dX5_whyNotLearn_26 (by decide) ?_
      refine lv_goto (tgt := 31) hx hb dX5_whyNotLearn_27 (by decide) ?_
      cases hF
      exact kret_i hx hb hr hlocks hP hD hS dX5_whyNotLearn_31
  · replace hF := ite_f (bI_f c_3) hF
    refine lv_iconst (v := 1) hx hb dX5_whyNotLearn_8 (by decide) ?_
    refine lv_goto (tgt := 31) hx hb dX5_whyNotLearn_9 (by decide) ?_
    cases hF
    exact kret_i hx hb hr hlocks hP hD hS dX5_whyNotLearn_31

theorem q_56 : Cond.selects RX5 yX5_whyNotLearn yX5_whyNotLearn ∈ wAll := wAll_mem 56 (by decide +kernel) (by decide +kernel)
theorem q_842 : Cond.methodLink RX5 95 yX5_whyNotLearn ∈ wAll := wAll_mem 842 (by decide +kernel) (by decide +kernel)
theorem q_844 : Cond.instanceMethod yX5_whyNotLearn ∈ wAll := wAll_mem 844 (by decide +kernel) (by decide +kernel)
theorem q_845 : Cond.code yX5_whyNotLearn cX5_whyNotLearn 2 (some .int) ∈ wAll := wAll_mem 845 (by decide +kernel) (by decide +kernel)
theorem hd_X5_whyNotLearn : yX5_whyNotLearn.cls = RX5 ∧ yX5_whyNotLearn.cls ≠ "java/lang/invoke/MethodHandle" ∧ yX5_whyNotLearn.cls ≠ "java/lang/invoke/VarHandle" ∧ (parseMethodDescriptor yX5_whyNotLearn.desc).map (fun d => d.parameters.length) = some 1 := by decide +kernel
abbrev w_X5_learn (cy : Nat → ClassId) (A_t : Nat) (A_t_s : Nat) (A_t_past : Nat) (A_t_begun : Nat) (A_t_text : Nat) (A_t_wins : Nat) (A_t_fits : Nat) (t_pasts : Int32) (t_thrown : Int32) (t_typed : Int32) (t_at : Int32) (t_letter : Int32) (t_one : Int32) (t_other : Int32) (t_s : Nat → Int32) (t_past : Nat → Int32) (t_begun : Nat → Int32) : va_W := [(A_t, .inr (5, [.ref A_t_s, .ref A_t_past, .ref A_t_begun, .int t_pasts, .int t_thrown, .ref A_t_text, .int t_typed, .int t_at, .int t_letter, .int t_one, .int t_other, .ref A_t_wins, .ref A_t_fits])), (A_t_s, .inl (cy 0, 45, .inl t_s)), (A_t_past, .inl (cy 0, 180, .inl t_past)), (A_t_begun, .inl (cy 0, 45, .inl t_begun))]
def F_X5_learn (N : Nat) (p0 : Int32) (t_s : Nat → Int32) (t_past : Nat → Int32) (t_begun : Nat → Int32) (t_pasts : Int32) (t_thrown : Int32) : Option (Int32 × (Nat → Int32) × (Nat → Int32) × (Nat → Int32) × Int32 × Int32) :=
  ob1 (F_X5_whyNotLearn N p0 t_s) (fun r_1 => (if r_1 ≤ (0 : Int32) then ob1 (F_X5_begins N t_s t_begun) (fun t_begun_4 => ob1 (F_X5_ones N ((upd t_s 3 ((t_s 3) ||| ((1 : Int32) <<< (p0 &&& 31)))) 3)) (fun r_6 => ob4 (F_X5_saved N r_6 t_past t_begun_4 t_pasts t_thrown) (fun r_8 t_past_9 t_pasts_10 t_thrown_11 => some (r_8, (upd t_s 3 ((t_s 3) ||| ((1 : Int32) <<< (p0 &&& 31)))), t_past_9, t_begun_4, t_pasts_10, t_thrown_11)))) else ob2 (F_X5_fails N r_1 t_thrown) (fun r_13 t_thrown_14 => some (r_13, t_s, t_past, t_begun, t_pasts, t_thrown_14))))
set_option maxHeartbeats 4000000 in
set_option maxRecDepth 100000 in
theorem c_X5_learn (l : Launch) (D : va_G) (cy : Nat → ClassId) (s0 tW N : Nat) (A_t : Nat) (A_t_s : Nat) (A_t_past : Nat) (A_t_begun : Nat) (A_t_text : Nat) (A_t_wins : Nat) (A_t_fits : Nat) (p0 : Int32) (t_pasts : Int32) (t_thrown : Int32) (t_typed : Int32) (t_at : Int32) (t_letter : Int32) (t_one : Int32) (t_other : Int32) (t_s : Nat → Int32) (t_past : Nat → Int32) (t_begun : Nat → Int32) (sz : Nat) {r9 : Int32} {t_s9 : Nat → Int32} {t_past9 : Nat → Int32} {t_begun9 : Nat → Int32} {t_pasts9 : Int32} {t_thrown9 : Int32} (hF : F_X5_learn N p0 t_s t_past t_begun t_pasts t_thrown = some (r9, t_s9, t_past9, t_begun9, t_pasts9, t_thrown9)) : KM l D cy s0 tW yX5_learn cX5_learn 3 (some .int) 4 84 [.ref A_t, .int p0] sz (w_X5_learn cy A_t A_t_s A_t_past A_t_begun A_t_text A_t_wins A_t_fits t_pasts t_thrown t_typed t_at t_letter t_one t_other t_s t_past t_begun) (some (.int r9)) (w_X5_learn cy A_t A_t_s A_t_past A_t_begun A_t_text A_t_wins A_t_fits t_pasts9 t_thrown9 t_typed t_at t_letter t_one t_other t_s9 t_past9 t_begun9) := by
  refine KM.intro rfl (Nat.le_of_ble_eq_true rfl) ?_
  intro p e s m args below meth c A ls hx hb hr hml hown hts hlocks hE hP hD hS hA hAs hl
  have hK := hE.1
  have hl : lv_has ls 3 [(0, .ref A_t), (1, .int p0)] := hl
  unfold F_X5_learn at hF
  refine lv_aload_n hx hb dX5_learn_0 rfl (lv_at hl 0 rfl) ?_
  refine lv_iload_n hx hb dX5_learn_1 rfl (lv_at hl 1 rfl) ?_
  obtain ⟨r_1, hF_2, hF⟩ := ob1_some hF
  refine kcV (q := (RX5, TX5, 13)) (ci := 5) (q0 := 0) (As := [.int p0]) (rest := []) (wr := [(A_t_past, .inl (cy 0, 180, .inl t_past)), (A_t_begun, .inl (cy 0, 45, .inl t_begun))]) (wsN := (w_X5_learn cy A_t A_t_s A_t_past A_t_begun A_t_text A_t_wins A_t_fits t_pasts t_thrown t_typed t_at t_letter t_one t_other t_s t_past t_begun)) ⟨hx, hb, hml, hown, hts⟩ hE hP hD hS hA hAs [0, 1] [2, 3] [2, 3, 0, 1] (c_X5_whyNotLearn l D cy s0 tW N A_t A_t_s A_t_past A_t_begun A_t_text A_t_wins A_t_fits p0 t_pasts t_thrown t_typed t_at t_letter t_one t_other t_s _ hF_2) (gV q_842 q_844 q_56 q_88 q_845) hd_X5_whyNotLearn ⟨Nat.le_of_ble_eq_true rfl, Nat.le_of_ble_eq_true rfl⟩ rfl rfl rfl rfl rfl rfl rfl rfl rfl hl.1 rfl (Nat.le_of_ble_eq_true rfl) dX5_learn_2 ⟨Nat.zero_le _, Nat.zero_le _⟩ (fun H locs hP hD hS => ?_)
  refine W.eq (g2 := F0 m 5 ls [.int r_1]) rfl ?_
  refine lv_istore_n (lv' := [(2, .int r_1), (0, .ref A_t), (1, .int p0)]) hx hb dX5_learn_5 rfl hl (by decide) rfl (fun ls hl => ?_)
  refine lv_iload_n hx hb dX5_learn_6 rfl (lv_at hl 0 rfl) ?_
  refine lv_if_le (tgt := 16) hx hb dX5_learn_7 (by decide) (fun c_3 => ?_) (fun c_3 => ?_)
  · replace hF := ite_t c_3 hF
    refine lv_aload_n hx hb dX5_learn_16 rfl (lv_at hl 1 rfl) ?_
    obtain ⟨t_begun_4, hF_5, hF⟩ := ob1_some hF
    refine kcV (q := (RX5, TX5, 13)) (ci := 5) (q0 := 0) (As := []) (rest := []) (wr := [(A_t_past, .inl (cy 0, 180, .inl t_past))]) (wsN := (w_X5_learn cy A_t A_t_s A_t_past A_t_begun A_t_text A_t_wins A_t_fits t_pasts t_thrown t_typed t_at t_letter t_one t_other t_s t_past t_begun_4)) ⟨hx, hb, hml, hown, hts⟩ hE hP hD hS hA hAs [0, 1, 3] [2] [1, 2, 0, 3] (c_X5_begins l D cy s0 tW N A_t A_t_s A_t_past A_t_begun A_t_text A_t_wins A_t_fits t_pasts t_thrown t_typed t_at t_letter t_one t_other t_s t_begun _ hF_5) (gV q_780 q_782 q_46 q_88 q_783) hd_X5_begins ⟨Nat.le_of_ble_eq_true rfl, Nat.le_of_ble_eq_true rfl⟩ rfl rfl rfl rfl rfl rfl rfl rfl rfl hl.1 rfl (Nat.le_of_ble_eq_true rfl) dX5_learn_17 ⟨Nat.zero_le _, Nat.zero_le _⟩ (fun H locs hP hD hS => ?_)
    refine W.eq (g2 := F0 m 20 ls []) rfl ?_
    refine lv_aload_n hx hb dX5_learn_20 rfl (lv_at hl 1 rfl) ?_
    refine va_get (D := D) (ci := 5) (v := .ref A_t_s) (C := RX5) (T := TX5) (N := 13) hx hb hts inX5 hown hK hP 0 rfl rfl 0 (by decide) (hts _ q_731) (fun _ h9 => h9) rfl dX5_learn_21 ?_
    refine lv_iconst (v := 3) hx hb dX5_learn_24 (by decide) ?_
    refine lv_dup2_11 hx hb dX5_learn_25 rfl rfl ?_
    refine ka_iald hx hb hK hP 1 rfl (3) rfl (inb_in (by decide)) dX5_learn_26 ?_
    refine lv_iconst (v := 1) hx hb dX5_learn_27 (by decide) ?_
    refine lv_iload_n hx hb dX5_learn_28 rfl (lv_at hl 2 rfl) ?_
    refine lv_ishl hx hb dX5_learn_29 ?_
    refine lv_ior hx hb dX5_learn_30 ?_
    refine ka_iast (wsN := (w_X5_learn cy A_t A_t_s A_t_past A_t_begun A_t_text A_t_wins A_t_fits t_pasts t_thrown t_typed t_at t_letter t_one t_other (upd t_s 3 ((t_s 3) ||| ((1 : Int32) <<< (p0 &&& 31)))) t_past t_begun_4)) hx hb hK hP hD hS 1 rfl (3) rfl (inb_in (by decide)) rfl dX5_learn_31 (fun H locs hP hD hS => ?_)
    refine lv_aload_n hx hb dX5_learn_32 rfl (lv_at hl 1 rfl) ?_
    refine lv_aload_n hx hb dX5_learn_33 rfl (lv_at hl 1 rfl) ?_
    refine va_get (D := D) (ci := 5) (v := .ref A_t_s) (C := RX5) (T := TX5) (N := 13) hx hb hts inX5 hown hK hP 0 rfl rfl 0 (by decide) (hts _ q_731) (fun _ h9 => h9) rfl dX5_learn_34 ?_
    refine lv_iconst (v := 3) hx hb dX5_learn_37 (by decide) ?_
    refine ka_iald hx hb hK hP 1 rfl (3) rfl (inb_in (by decide)) dX5_learn_38 ?_
    obtain ⟨r_6, hF_7, hF⟩ := ob1_some hF
    refine kcS (As := [.int ((upd t_s 3 ((t_s 3) ||| ((1 : Int32) <<< (p0 &&& 31)))) 3)]) (rest := [.ref A_t]) (wr := [(A_t, .inr (5, [.ref A_t_s, .ref A_t_past, .ref A_t_begun, .int t_pasts, .int t_thrown, .ref A_t_text, .int t_typed, .int t_at, .int t_letter, .int t_one, .int t_other, .ref A_t_wins, .ref A_t_fits])), (A_t_s, .inl (cy 0, 45, .inl (upd t_s 3 ((t_s 3) ||| ((1 : Int32) <<< (p0 &&& 31)))))), (A_t_past, .inl (cy 0, 180, .inl t_past)), (A_t_begun, .inl (cy 0, 45, .inl t_begun_4))]) (wsN := (w_X5_learn cy A_t A_t_s A_t_past A_t_begun A_t_text A_t_wins A_t_fits t_pasts t_thrown t_typed t_at t_letter t_one t_other (upd t_s 3 ((t_s 3) ||| ((1 : Int32) <<< (p0 &&& 31)))) t_past t_begun_4)) ⟨hx, hb, hml, hown, hts⟩ hE hP hD hS hA hAs [] [0, 1, 2, 3] [0, 1, 2, 3] (c_X5_ones l D cy s0 tW N ((upd t_s 3 ((t_s 3) ||| ((1 : Int32) <<< (p0 &&& 31)))) 3) _ hF_7) (gS q_800 q_801 q_88 q_802) hd_X5_ones.2 ⟨Nat.le_of_ble_eq_true rfl, Nat.le_of_ble_eq_true rfl⟩ rfl rfl rfl rfl rfl rfl rfl hl.1 rfl (Nat.le_of_ble_eq_true rfl) dX5_learn_39 ⟨Nat.zero_le _, Nat.zero_le _⟩ (fun H locs hP hD hS => ?_)
    refine W.eq (g2 := F0 m 42 ls [.int r_6, .ref A_t]) rfl ?_
    obtain ⟨r_8, t_past_9, t_pasts_10, t_thrown_11, hF_12, hF⟩ := ob4_some hF
    refine kcV (q := (RX5, TX5, 13)) (ci := 5) (q0 := 0) (As := [.int r_6]) (rest := []) (wr := [(A_t_s, .inl (cy 0, 45, .inl (upd t_s 3 ((t_s 3) ||| ((1 : Int32) <<< (p0 &&& 31))))))]) (wsN := (w_X5_learn cy A_t A_t_s A_t_past A_t_begun A_t_text A_t_wins A_t_fits t_pasts_10 t_thrown_11 t_typed t_at t_letter t_one t_other (upd t_s 3 ((t_s 3) ||| ((1 : Int32) <<< (p0 &&& 31)))) t_past_9 t_begun_4)) ⟨hx, hb, hml, hown, hts⟩ hE hP hD hS hA hAs [0, 2, 3] [1] [1, 0, 2, 3] (c_X5_saved l D cy s0 tW N A_t A_t_s A_t_past A_t_begun A_t_text A_t_wins A_t_fits r_6 t_pasts t_thrown t_typed t_at t_letter t_one t_other t_past t_begun_4 _ hF_12) (gV q_784 q_786 q_47 q_88 q_787) hd_X5_saved ⟨Nat.le_of_ble_eq_true rfl, Nat.le_of_ble_eq_true rfl⟩ rfl rfl rfl rfl rfl rfl rfl rfl rfl hl.1 rfl (Nat.le_of_ble_eq_true rfl) dX5_learn_42 ⟨Nat.zero_le _, Nat.zero_le _⟩ (fun H locs hP hD hS => ?_)
    refine W.eq (g2 := F0 m 45 ls [.int r_8]) rfl ?_
    cases hF
    exact kret_i hx hb hr hlocks hP hD hS dX5_learn_45
  · replace hF := ite_f c_3 hF
    refine lv_aload_n hx hb dX5_learn_10 rfl (lv_at hl 1 rfl) ?_
    refine lv_iload_n hx hb dX5_learn_11 rfl (lv_at hl 0 rfl) ?_
    obtain ⟨r_13, t_thrown_14, hF_15, hF⟩ := ob2_some hF
    refine kcV (q := (RX5, TX5, 13)) (ci := 5) (q0 := 0) (As := [.int r_1]) (rest := []) (wr := [(A_t_s, .inl (cy 0, 45, .inl t_s)), (A_t_past, .inl (cy 0, 180, .inl t_past)), (A_t_begun, .inl (cy 0, 45, .inl t_begun))]) (wsN := (w_X5_learn cy A_t A_t_s A_t_past A_t_begun A_t_text A_t_wins A_t_fits t_pasts t_thrown_14 t_typed t_at t_letter t_one t_other t_s t_past t_begun)) ⟨hx, hb, hml, hown, hts⟩ hE hP hD hS hA hAs [0] [1, 2, 3] [3, 0, 1, 2] (c_X5_fails l D cy s0 tW N A_t A_t_s A_t_past A_t_begun A_t_text A_t_wins A_t_fits r_1 t_pasts t_thrown t_typed t_at t_letter t_one t_other _ hF_15) (gV q_803 q_805 q_50 q_88 q_806) hd_X5_fails ⟨Nat.le_of_ble_eq_true rfl, Nat.le_of_ble_eq_true rfl⟩ rfl rfl rfl rfl rfl rfl rfl rfl rfl hl.1 rfl (Nat.le_of_ble_eq_true rfl) dX5_learn_12 ⟨Nat.zero_le _, Nat.zero_le _⟩ (fun H locs hP hD hS => ?_)
    refine W.eq (g2 := F0 m 15 ls [.int r_13]) rfl ?_
    cases hF
    exact kret_i hx hb hr hlocks hP hD hS dX5_learn_15

abbrev w_X5_forget (cy : Nat → ClassId) (A_t : Nat) (A_t_s : Nat) (A_t_past : Nat) (A_t_begun : Nat) (A_t_text : Nat) (A_t_wins : Nat) (A_t_fits : Nat) (t_pasts : Int32) (t_thrown : Int32) (t_typed : Int32) (t_at : Int32) (t_letter : Int32) (t_one : Int32) (t_other : Int32) (t_s : Nat → Int32) (t_past : Nat → Int32) (t_begun : Nat → Int32) : va_W := [(A_t, .inr (5, [.ref A_t_s, .ref A_t_past, .ref A_t_begun, .int t_pasts, .int t_thrown, .ref A_t_text, .int t_typed, .int t_at, .int t_letter, .int t_one, .int t_other, .ref A_t_wins, .ref A_t_fits])), (A_t_s, .inl (cy 0, 45, .inl t_s)), (A_t_past, .inl (cy 0, 180, .inl t_past)), (A_t_begun, .inl (cy 0, 45, .inl t_begun))]
def F_X5_forget (N : Nat) (t_s : Nat → Int32) (t_past : Nat → Int32) (t_begun : Nat → Int32) (t_pasts : Int32) (t_thrown : Int32) : Option (Int32 × (Nat → Int32) × (Nat → Int32) × (Nat → Int32) × Int32 × Int32) :=
  ob1 (F_X5_begins N t_s t_begun) (fun t_begun_1 => ob1 (F_X5_ones N (t_s 3)) (fun r_3 => ob4 (F_X5_saved N r_3 t_past t_begun_1 t_pasts t_thrown) (fun r_5 t_past_6 t_pasts_7 t_thrown_8 => some (r_5, (upd t_s 3 0), t_past_6, t_begun_1, t_pasts_7, t_thrown_8))))
set_option maxHeartbeats 4000000 in
set_option maxRecDepth 100000 in
theorem c_X5_forget (l : Launch) (D : va_G) (cy : Nat → ClassId) (s0 tW N : Nat) (A_t : Nat) (A_t_s : Nat) (A_t_past : Nat) (A_t_begun : Nat) (A_t_text : Nat) (A_t_wins : Nat) (A_t_fits : Nat) (t_pasts : Int32) (t_thrown : Int32) (t_typed : Int32) (t_at : Int32) (t_letter : Int32) (t_one : Int32) (t_other : Int32) (t_s : Nat → Int32) (t_past : Nat → Int32) (t_begun : Nat → Int32) (sz : Nat) {r9 : Int32} {t_s9 : Nat → Int32} {t_past9 : Nat → Int32} {t_begun9 : Nat → Int32} {t_pasts9 : Int32} {t_thrown9 : Int32} (hF : F_X5_forget N t_s t_past t_begun t_pasts t_thrown = some (r9, t_s9, t_past9, t_begun9, t_pasts9, t_thrown9)) : KM l D cy s0 tW yX5_forget cX5_forget 2 (some .int) 2 43 [.ref A_t] sz (w_X5_forget cy A_t A_t_s A_t_past A_t_begun A_t_text A_t_wins A_t_fits t_pasts t_thrown t_typed t_at t_letter t_one t_other t_s t_past t_begun) (some (.int r9)) (w_X5_forget cy A_t A_t_s A_t_past A_t_begun A_t_text A_t_wins A_t_fits t_pasts9 t_thrown9 t_typed t_at t_letter t_one t_other t_s9 t_past9 t_begun9) := by
  refine KM.intro rfl (Nat.le_of_ble_eq_true rfl) ?_
  intro p e s m args below meth c A ls hx hb hr hml hown hts hlocks hE hP hD hS hA hAs hl
  have hK := hE.1
  have hl : lv_has ls 2 [(0, .ref A_t)] := hl
  unfold F_X5_forget at hF
  refine lv_aload_n hx hb dX5_forget_0 rfl (lv_at hl 0 rfl) ?_
  obtain ⟨t_begun_1, hF_2, hF⟩ := ob1_some hF
  refine kcV (q := (RX5, TX5, 13)) (ci := 5) (q0 := 0) (As := []) (rest := []) (wr := [(A_t_past, .inl (cy 0, 180, .inl t_past))]) (wsN := (w_X5_forget cy A_t A_t_s A_t_past A_t_begun A_t_text A_t_wins A_t_fits t_pasts t_thrown t_typed t_at t_letter t_one t_other t_s t_past t_begun_1)) ⟨hx, hb, hml, hown, hts⟩ hE hP hD hS hA hAs [0, 1, 3] [2] [1, 2, 0, 3] (c_X5_begins l D cy s0 tW N A_t A_t_s A_t_past A_t_begun A_t_text A_t_wins A_t_fits t_pasts t_thrown t_typed t_at t_letter t_one t_other t_s t_begun _ hF_2) (gV q_780 q_782 q_46 q_88 q_783) hd_X5_begins ⟨Nat.le_of_ble_eq_true rfl, Nat.le_of_ble_eq_true rfl⟩ rfl rfl rfl rfl rfl rfl rfl rfl rfl hl.1 rfl (Nat.le_of_ble_eq_true rfl) dX5_forget_1 ⟨Nat.zero_le _, Nat.zero_le _⟩ (fun H locs hP hD hS => ?_)
  refine W.eq (g2 := F0 m 4 ls []) rfl ?_
  refine lv_aload_n hx hb dX5_forget_4 rfl (lv_at hl 0 rfl) ?_
  refine va_get (D := D) (ci := 5) (v := .ref A_t_s) (C := RX5) (T := TX5) (N := 13) hx hb hts inX5 hown hK hP 0 rfl rfl 0 (by decide) (hts _ q_731) (fun _ h9 => h9) rfl dX5_forget_5 ?_
  refine lv_iconst (v := 3) hx hb dX5_forget_8 (by decide) ?_
  refine ka_iald hx hb hK hP 1 rfl (3) rfl (inb_in (by decide)) dX5_forget_9 ?_
  obtain ⟨r_3, hF_4, hF⟩ := ob1_some hF
  refine kcS (As := [.int (t_s 3)]) (rest := []) (wr := [(A_t, .inr (5, [.ref A_t_s, .ref A_t_past, .ref A_t_begun, .int t_pasts, .int t_thrown, .ref A_t_text, .int t_typed, .int t_at, .int t_letter, .int t_one, .int t_other, .ref A_t_wins, .ref A_t_fits])), (A_t_s, .inl (cy 0, 45, .inl t_s)), (A_t_past, .inl (cy 0, 180, .inl t_past)), (A_t_begun, .inl (cy 0, 45, .inl t_begun_1))]) (wsN := (w_X5_forget cy A_t A_t_s A_t_past A_t_begun A_t_text A_t_wins A_t_fits t_pasts t_thrown t_typed t_at t_letter t_one t_other t_s t_past t_begun_1)) ⟨hx, hb, hml, hown, hts⟩ hE hP hD hS hA hAs [] [0, 1, 2, 3] [0, 1, 2, 3] (c_X5_ones l D cy s0 tW N (t_s 3) _ hF_4) (gS q_800 q_801 q_88 q_802) hd_X5_ones.2 ⟨Nat.le_of_ble_eq_true rfl, Nat.le_of_ble_eq_true rfl⟩ rfl rfl rfl rfl rfl rfl rfl hl.1 rfl (Nat.le_of_ble_eq_true rfl) dX5_forget_10 ⟨Nat.zero_le _, Nat.zero_le _⟩ (fun H locs hP hD hS => ?_)
  refine W.eq (g2 := F0 m 13 ls [.int r_3]) rfl ?_
  refine lv_istore_n (lv' := [(1, .int r_3), (0, .ref A_t)]) hx hb dX5_forget_13 rfl hl (by decide) rfl (fun ls hl => ?_)
  refine lv_aload_n hx hb dX5_forget_14 rfl (lv_at hl 1 rfl) ?_
  refine va_get (D := D) (ci := 5) (v := .ref A_t_s) (C := RX5) (T := TX5) (N := 13) hx hb hts inX5 hown hK hP 0 rfl rfl 0 (by decide) (hts _ q_731) (fun _ h9 => h9) rfl dX5_forget_15 ?_
  refine lv_iconst (v := 3) hx hb dX5_forget_18 (by decide) ?_
  refine lv_iconst (v := 0) hx hb dX5_forget_19 (by decide) ?_
  refine ka_iast (wsN := (w_X5_forget cy A_t A_t_s A_t_past A_t_begun A_t_text A_t_wins A_t_fits t_pasts t_thrown t_typed t_at t_letter t_one t_other (upd t_s 3 0) t_past t_begun_1)) hx hb hK hP hD hS 1 rfl (3) rfl (inb_in (by decide)) rfl dX5_forget_20 (fun H locs hP hD hS => ?_)
  refine lv_aload_n hx hb dX5_forget_21 rfl (lv_at hl 1 rfl) ?_
  refine lv_iload_n hx hb dX5_forget_22 rfl (lv_at hl 0 rfl) ?_
  obtain ⟨r_5, t_past_6, t_pasts_7, t_thrown_8, hF_9, hF⟩ := ob4_some hF
  refine kcV (q := (RX5, TX5, 13)) (ci := 5) (q0 := 0) (As := [.int r_3]) (rest := []) (wr := [(A_t_s, .inl (cy 0, 45, .inl (upd t_s 3 0)))]) (wsN := (w_X5_forget cy A_t A_t_s A_t_past A_t_begun A_t_text A_t_wins A_t_fits t_pasts_7 t_thrown_8 t_typed t_at t_letter t_one t_other (upd t_s 3 0) t_past_6 t_begun_1)) ⟨hx, hb, hml, hown, hts⟩ hE hP hD hS hA hAs [0, 2, 3] [1] [1, 0, 2, 3] (c_X5_saved l D cy s0 tW N A_t A_t_s A_t_past A_t_begun A_t_text A_t_wins A_t_fits r_3 t_pasts t_thrown t_typed t_at t_letter t_one t_other t_past t_begun_1 _ hF_9) (gV q_784 q_786 q_47 q_88 q_787) hd_X5_saved ⟨Nat.le_of_ble_eq_true rfl, Nat.le_of_ble_eq_true rfl⟩ rfl rfl rfl rfl rfl rfl rfl rfl rfl hl.1 rfl (Nat.le_of_ble_eq_true rfl) dX5_forget_23 ⟨Nat.zero_le _, Nat.zero_le _⟩ (fun H locs hP hD hS => ?_)
  refine W.eq (g2 := F0 m 26 ls [.int r_5]) rfl ?_
  cases hF
  exact kret_i hx hb hr hlocks hP hD hS dX5_forget_26

theorem q_60 : Cond.selects RX5 yX5_finds yX5_finds ∈ wAll := wAll_mem 60 (by decide +kernel) (by decide +kernel)
theorem q_63 : Cond.selects RX5 yX5_against yX5_against ∈ wAll := wAll_mem 63 (by decide +kernel) (by decide +kernel)
theorem q_65 : Cond.selects RX5 yX5_answers yX5_answers ∈ wAll := wAll_mem 65 (by decide +kernel) (by decide +kernel)
theorem q_866 : Cond.methodLink RX5 98 yX5_finds ∈ wAll := wAll_mem 866 (by decide +kernel) (by decide +kernel)
theorem q_868 : Cond.instanceMethod yX5_finds ∈ wAll := wAll_mem 868 (by decide +kernel) (by decide +kernel)
theorem q_869 : Cond.code yX5_finds cX5_finds 5 none ∈ wAll := wAll_mem 869 (by decide +kernel) (by decide +kernel)
theorem q_878 : Cond.methodLink RX5 101 yX5_against ∈ wAll := wAll_mem 878 (by decide +kernel) (by decide +kernel)
theorem q_880 : Cond.instanceMethod yX5_against ∈ wAll := wAll_mem 880 (by decide +kernel) (by decide +kernel)
theorem q_881 : Cond.code yX5_against cX5_against 7 (some .boolean) ∈ wAll := wAll_mem 881 (by decide +kernel) (by decide +kernel)
theorem q_886 : Cond.methodLink RX5 104 yX5_answers ∈ wAll := wAll_mem 886 (by decide +kernel) (by decide +kernel)
theorem q_888 : Cond.instanceMethod yX5_answers ∈ wAll := wAll_mem 888 (by decide +kernel) (by decide +kernel)
theorem q_889 : Cond.code yX5_answers cX5_answers 6 (some .int) ∈ wAll := wAll_mem 889 (by decide +kernel) (by decide +kernel)
theorem hd_X5_against : yX5_against.cls = RX5 ∧ yX5_against.cls ≠ "java/lang/invoke/MethodHandle" ∧ yX5_against.cls ≠ "java/lang/invoke/VarHandle" ∧ (parseMethodDescriptor yX5_against.desc).map (fun d => d.parameters.length) = some 1 := by decide +kernel
theorem hd_X5_answers : yX5_answers.cls = RX5 ∧ yX5_answers.cls ≠ "java/lang/invoke/MethodHandle" ∧ yX5_answers.cls ≠ "java/lang/invoke/VarHandle" ∧ (parseMethodDescriptor yX5_answers.desc).map (fun d => d.parameters.length) = some 1 := by decide +kernel
theorem hd_X5_finds : yX5_finds.cls = RX5 ∧ yX5_finds.cls ≠ "java/lang/invoke/MethodHandle" ∧ yX5_finds.cls ≠ "java/lang/invoke/VarHandle" ∧ (parseMethodDescriptor yX5_finds.desc).map (fun d => d.parameters.length) = some 0 := by decide +kernel
abbrev w_X5_rounds (cy : Nat → ClassId) (A_t : Nat) (A_t_s : Nat) (A_t_past : Nat) (A_t_begun : Nat) (A_t_text : Nat) (A_t_wins : Nat) (A_t_fits : Nat) (t_pasts : Int32) (t_thrown : Int32) (t_typed : Int32) (t_at : Int32) (t_letter : Int32) (t_one : Int32) (t_other : Int32) (t_s : Nat → Int32) (t_wins : Nat → Bool) (t_fits : Nat → Int32) : va_W := [(A_t, .inr (5, [.ref A_t_s, .ref A_t_past, .ref A_t_begun, .int t_pasts, .int t_thrown, .ref A_t_text, .int t_typed, .int t_at, .int t_letter, .int t_one, .int t_other, .ref A_t_wins, .ref A_t_fits])), (A_t_s, .inl (cy 0, 45, .inl t_s)), (A_t_wins, .inl (cy 3, 1024, .inl (fun j => bI (t_wins j)))), (A_t_fits, .inl (cy 0, 1024, .inl t_fits))]
def L_X5_rounds_31 (N : Nat) (t_fits_1 : Nat → Int32) (t_wins_4 : Nat → Bool) (kont : (Nat → Int32) → Option (Int32 × (Nat → Int32) × (Nat → Bool) × (Nat → Int32))) : Nat → Int32 → (Nat → Int32) → Option (Int32 × (Nat → Int32) × (Nat → Bool) × (Nat → Int32))
  | 0, _, _ => none
  | n + 1, v1_7, t_s_8 => ob1 (F_X5_plays N t_s_8) (fun r_10 => (if r_10 ≤ v1_7 then kont t_s_8 else ob1 (F_X5_answers N v1_7 t_s_8 t_wins_4) (fun r_13 => ob1 (F_X5_isMade N r_13 t_s_8) (fun r_15 => (if r_15 = true then L_X5_rounds_31 N t_fits_1 t_wins_4 kont n (v1_7 + 1) t_s_8 else some (v1_7, (upd t_s_8 3 ((t_s_8 3) ||| ((1 : Int32) <<< (v1_7 &&& 31)))), t_wins_4, t_fits_1))))))
def F_X5_rounds (N : Nat) (t_s : Nat → Int32) (t_wins : Nat → Bool) (t_fits : Nat → Int32) : Option (Int32 × (Nat → Int32) × (Nat → Bool) × (Nat → Int32)) :=
  ob1 (F_X5_finds N (upd t_s 4 ((t_s 4) + 1)) t_fits) (fun t_fits_1 => ob2 (F_X5_against N ((upd t_s 4 ((t_s 4) + 1)) 3) (upd t_s 4 ((t_s 4) + 1)) t_wins t_fits_1) (fun r_3 t_wins_4 => (if r_3 = true then (L_X5_rounds_31 N t_fits_1 t_wins_4 (fun t_s_9 => some ((-2), t_s_9, t_wins_4, t_fits_1)) N 0 (upd t_s 4 ((t_s 4) + 1))) else some ((-1), (upd t_s 4 ((t_s 4) + 1)), t_wins_4, t_fits_1))))
set_option maxHeartbeats 4000000 in
set_option maxRecDepth 100000 in
theorem c_X5_rounds (l : Launch) (D : va_G) (cy : Nat → ClassId) (s0 tW N : Nat) (A_t : Nat) (A_t_s : Nat) (A_t_past : Nat) (A_t_begun : Nat) (A_t_text : Nat) (A_t_wins : Nat) (A_t_fits : Nat) (t_pasts : Int32) (t_thrown : Int32) (t_typed : Int32) (t_at : Int32) (t_letter : Int32) (t_one : Int32) (t_other : Int32) (t_s : Nat → Int32) (t_wins : Nat → Bool) (t_fits : Nat → Int32) (sz : Nat) {r9 : Int32} {t_s9 : Nat → Int32} {t_wins9 : Nat → Bool} {t_fits9 : Nat → Int32} (hF : F_X5_rounds N t_s t_wins t_fits = some (r9, t_s9, t_wins9, t_fits9)) : KM l D cy s0 tW yX5_rounds cX5_rounds 2 (some .int) 3 71 [.ref A_t] sz (w_X5_rounds cy A_t A_t_s A_t_past A_t_begun A_t_text A_t_wins A_t_fits t_pasts t_thrown t_typed t_at t_letter t_one t_other t_s t_wins t_fits) (some (.int r9)) (w_X5_rounds cy A_t A_t_s A_t_past A_t_begun A_t_text A_t_wins A_t_fits t_pasts t_thrown t_typed t_at t_letter t_one t_other t_s9 t_wins9 t_fits9) := by
  refine KM.intro rfl (Nat.le_of_ble_eq_true rfl) ?_
  intro p e s m args below meth c A ls hx hb hr hml hown hts hlocks hE hP hD hS hA hAs hl
  have hK := hE.1
  have hl : lv_has ls 2 [(0, .ref A_t)] := hl
  unfold F_X5_rounds at hF
  refine lv_aload_n hx hb dX5_rounds_0 rfl (lv_at hl 0 rfl) ?_
  refine va_get (D := D) (ci := 5) (v := .ref A_t_s) (C := RX5) (T := TX5) (N := 13) hx hb hts inX5 hown hK hP 0 rfl rfl 0 (by decide) (hts _ q_731) (fun _ h9 => h9) rfl dX5_rounds_1 ?_
  refine lv_iconst (v := 4) hx hb dX5_rounds_4 (by decide) ?_
  refine lv_dup2_11 hx hb dX5_rounds_5 rfl rfl ?_
  refine ka_iald hx hb hK hP 1 rfl (4) rfl (inb_in (by decide)) dX5_rounds_6 ?_
  refine lv_iconst (v := 1) hx hb dX5_rounds_7 (by decide) ?_
  refine lv_iadd hx hb dX5_rounds_8 ?_
  refine ka_iast (wsN := (w_X5_rounds cy A_t A_t_s A_t_past A_t_begun A_t_text A_t_wins A_t_fits t_pasts t_thrown t_typed t_at t_letter t_one t_other (upd t_s 4 ((t_s 4) + 1)) t_wins t_fits)) hx hb hK hP hD hS 1 rfl (4) rfl (inb_in (by decide)) rfl dX5_rounds_9 (fun H locs hP hD hS => ?_)
  refine lv_aload_n hx hb dX5_rounds_10 rfl (lv_at hl 0 rfl) ?_
  obtain ⟨t_fits_1, hF_2, hF⟩ := ob1_some hF
  refine kcV (q := (RX5, TX5, 13)) (ci := 5) (q0 := 0) (As := []) (rest := []) (wr := [(A_t_wins, .inl (cy 3, 1024, .inl (fun j => bI (t_wins j))))]) (wsN := (w_X5_rounds cy A_t A_t_s A_t_past A_t_begun A_t_text A_t_wins A_t_fits t_pasts t_thrown t_typed t_at t_letter t_one t_other (upd t_s 4 ((t_s 4) + 1)) t_wins t_fits_1)) ⟨hx, hb, hml, hown, hts⟩ hE hP hD hS hA hAs [0, 1, 3] [2] [1, 2, 0, 3] (c_X5_finds l D cy s0 tW N A_t A_t_s A_t_past A_t_begun A_t_text A_t_wins A_t_fits t_pasts t_thrown t_typed t_at t_letter t_one t_other (upd t_s 4 ((t_s 4) + 1)) t_fits _ hF_2) (gV q_866 q_868 q_60 q_88 q_869) hd_X5_finds ⟨Nat.le_of_ble_eq_true rfl, Nat.le_of_ble_eq_true rfl⟩ rfl rfl rfl rfl rfl rfl rfl rfl rfl hl.1 rfl (Nat.le_of_ble_eq_true rfl) dX5_rounds_11 ⟨Nat.zero_le _, Nat.zero_le _⟩ (fun H locs hP hD hS => ?_)
  refine W.eq (g2 := F0 m 14 ls []) rfl ?_
  refine lv_aload_n hx hb dX5_rounds_14 rfl (lv_at hl 0 rfl) ?_
  refine lv_aload_n hx hb dX5_rounds_15 rfl (lv_at hl 0 rfl) ?_
  refine va_get (D := D) (ci := 5) (v := .ref A_t_s) (C := RX5) (T := TX5) (N := 13) hx hb hts inX5 hown hK hP 0 rfl rfl 0 (by decide) (hts _ q_731) (fun _ h9 => h9) rfl dX5_rounds_16 ?_
  refine lv_iconst (v := 3) hx hb dX5_rounds_19 (by decide) ?_
  refine ka_iald hx hb hK hP 1 rfl (3) rfl (inb_in (by decide)) dX5_rounds_20 ?_
  obtain ⟨r_3, t_wins_4, hF_5, hF⟩ := ob2_some hF
  refine kcV (q := (RX5, TX5, 13)) (ci := 5) (q0 := 0) (As := [.int ((upd t_s 4 ((t_s 4) + 1)) 3)]) (rest := []) (wr := []) (wsN := (w_X5_rounds cy A_t A_t_s A_t_past A_t_begun A_t_text A_t_wins A_t_fits t_pasts t_thrown t_typed t_at t_letter t_one t_other (upd t_s 4 ((t_s 4) + 1)) t_wins_4 t_fits_1)) ⟨hx, hb, hml, hown, hts⟩ hE hP hD hS hA hAs [0, 1, 2, 3] [] [0, 1, 2, 3] (c_X5_against l D cy s0 tW N A_t A_t_s A_t_past A_t_begun A_t_text A_t_wins A_t_fits ((upd t_s 4 ((t_s 4) + 1)) 3) t_pasts t_thrown t_typed t_at t_letter t_one t_other (upd t_s 4 ((t_s 4) + 1)) t_wins t_fits_1 _ hF_5) (gV q_878 q_880 q_63 q_88 q_881) hd_X5_against ⟨Nat.le_of_ble_eq_true rfl, Nat.le_of_ble_eq_true rfl⟩ rfl rfl rfl rfl rfl rfl rfl rfl rfl hl.1 rfl (Nat.le_of_ble_eq_true rfl) dX5_rounds_21 ⟨Nat.zero_le _, Nat.zero_le _⟩ (fun H locs hP hD hS => ?_)
  refine W.eq (g2 := F0 m 24 ls [.int (bI r_3)]) rfl ?_
  refine lv_if_ne (tgt := 29) hx hb dX5_rounds_24 (by decide) (fun c_6 => ?_) (fun c_6 => ?_)
  · replace hF := ite_t (bI_t c_6) hF
    refine lv_iconst (v := 0) hx hb dX5_rounds_29 (by decide) ?_
    refine lv_istore_n (lv' := [(1, .int 0), (0, .ref A_t)]) hx hb dX5_rounds_30 rfl hl (by decide) rfl (fun ls hl => ?_)
    have hloop_31 : ∀ (kont : (Nat → Int32) → Option (Int32 × (Nat → Int32) × (Nat → Bool) × (Nat → Int32))), (∀ (t_s_9 : Nat → Int32) (H : Heap) (locs : List Loc) (ls : Array Slot), kont t_s_9 = some (r9, t_s9, t_wins9, t_fits9) → va_P D vwCl (w_X5_rounds cy A_t A_t_s A_t_past A_t_begun A_t_text A_t_wins A_t_fits t_pasts t_thrown t_typed t_at t_letter t_one t_other t_s_9 t_wins_4 t_fits_1) H → va_D A (w_X5_rounds cy A_t A_t_s A_t_past A_t_begun A_t_text A_t_wins A_t_fits t_pasts t_thrown t_typed t_at t_letter t_one t_other t_s_9 t_wins_4 t_fits_1) → va_S A s.heap H locs → lv_has ls 2 [] → W p l e (rmK 3 71) s m args below meth c H locs 0 0 (MQ below (kQ (some (.int r9)) D A (w_X5_rounds cy A_t A_t_s A_t_past A_t_begun A_t_text A_t_wins A_t_fits t_pasts t_thrown t_typed t_at t_letter t_one t_other t_s9 t_wins9 t_fits9)) args s 0 0 A) (F0 m 71 ls [])) → ∀ (n : Nat) (v1_7 : Int32) (t_s_8 : Nat → Int32) (H : Heap) (locs : List Loc) (ls : Array Slot), L_X5_rounds_31 N t_fits_1 t_wins_4 kont n v1_7 t_s_8 = some (r9, t_s9, t_wins9, t_fits9) → va_P D vwCl (w_X5_rounds cy A_t A_t_s A_t_past A_t_begun A_t_text A_t_wins A_t_fits t_pasts t_thrown t_typed t_at t_letter t_one t_other t_s_8 t_wins_4 t_fits_1) H → va_D A (w_X5_rounds cy A_t A_t_s A_t_past A_t_begun A_t_text A_t_wins A_t_fits t_pasts t_thrown t_typed t_at t_letter t_one t_other t_s_8 t_wins_4 t_fits_1) → va_S A s.heap H locs → lv_has ls 2 [(0, .ref A_t), (1, .int v1_7)] → W p l e (rmK 3 71) s m args below meth c H locs 0 0 (MQ below (kQ (some (.int r9)) D A (w_X5_rounds cy A_t A_t_s A_t_past A_t_begun A_t_text A_t_wins A_t_fits t_pasts t_thrown t_typed t_at t_letter t_one t_other t_s9 t_wins9 t_fits9)) args s 0 0 A) (F0 m 31 ls []) := by
      intro kont hexit_31 n
      induction n with
      | zero =>
        intro v1_7 t_s_8 H locs ls hF
        rw [L_X5_rounds_31] at hF
        cases hF
      | succ n ih =>
        intro v1_7 t_s_8 H locs ls hF hP hD hS hl
        rw [L_X5_rounds_31] at hF
        refine lv_iload_n hx hb dX5_rounds_31 rfl (lv_at hl 1 rfl) ?_
        refine lv_aload_n hx hb dX5_rounds_32 rfl (lv_at hl 0 rfl) ?_
        obtain ⟨r_10, hF_11, hF⟩ := ob1_some hF
        refine kcV (q := (RX5, TX5, 13)) (ci := 5) (q0 := 0) (As := []) (rest := [.int v1_7]) (wr := [(A_t_wins, .inl (cy 3, 1024, .inl (fun j => bI (t_wins_4 j)))), (A_t_fits, .inl (cy 0, 1024, .inl t_fits_1))]) (wsN := (w_X5_rounds cy A_t A_t_s A_t_past A_t_begun A_t_text A_t_wins A_t_fits t_pasts t_thrown t_typed t_at t_letter t_one t_other t_s_8 t_wins_4 t_fits_1)) ⟨hx, hb, hml, hown, hts⟩ hE hP hD hS hA hAs [0, 1] [2, 3] [2, 3, 0, 1] (c_X5_plays l D cy s0 tW N A_t A_t_s A_t_past A_t_begun A_t_text A_t_wins A_t_fits t_pasts t_thrown t_typed t_at t_letter t_one t_other t_s_8 _ hF_11) (gV q_850 q_852 q_58 q_88 q_853) hd_X5_plays ⟨Nat.le_of_ble_eq_true rfl, Nat.le_of_ble_eq_true rfl⟩ rfl rfl rfl rfl rfl rfl rfl rfl rfl hl.1 rfl (Nat.le_of_ble_eq_true rfl) dX5_rounds_33 ⟨Nat.zero_le _, Nat.zero_le _⟩ (fun H locs hP hD hS => ?_)
        refine W.eq (g2 := F0 m 36 ls [.int r_10, .int v1_7]) rfl ?_
        refine lv_icmp_ge (tgt := 71) hx hb dX5_rounds_36 (by decide) (fun c_12 => ?_) (fun c_12 => ?_)
        · replace hF := ite_t c_12 hF
          exact hexit_31 t_s_8 H locs ls hF hP hD hS (lv_sub hl [] rfl)
        · replace hF := ite_f c_12 hF
          refine lv_aload_n hx hb dX5_rounds_39 rfl (lv_at hl 0 rfl) ?_
          refine lv_aload_n hx hb dX5_rounds_40 rfl (lv_at hl 0 rfl) ?_
          refine lv_iload_n hx hb dX5_rounds_41 rfl (lv_at hl 1 rfl) ?_
          obtain ⟨r_13, hF_14, hF⟩ := ob1_some hF
          refine kcV (q := (RX5, TX5, 13)) (ci := 5) (q0 := 0) (As := [.int v1_7]) (rest := [.ref A_t]) (wr := [(A_t_fits, .inl (cy 0, 1024, .inl t_fits_1))]) (wsN := (w_X5_rounds cy A_t A_t_s A_t_past A_t_begun A_t_text A_t_wins A_t_fits t_pasts t_thrown t_typed t_at t_letter t_one t_other t_s_8 t_wins_4 t_fits_1)) ⟨hx, hb, hml, hown, hts⟩ hE hP hD hS hA hAs [0, 1, 2] [3] [1, 2, 3, 0] (c_X5_answers l D cy s0 tW N A_t A_t_s A_t_past A_t_begun A_t_text A_t_wins A_t_fits v1_7 t_pasts t_thrown t_typed t_at t_letter t_one t_other t_s_8 t_wins_4 _ hF_14) (gV q_886 q_888 q_65 q_88 q_889) hd_X5_answers ⟨Nat.le_of_ble_eq_true rfl, Nat.le_of_ble_eq_true rfl⟩ rfl rfl rfl rfl rfl rfl rfl rfl rfl hl.1 rfl (Nat.le_of_ble_eq_true rfl) dX5_rounds_42 ⟨Nat.zero_le _, Nat.zero_le _⟩ (fun H locs hP hD hS => ?_)
          refine W.eq (g2 := F0 m 45 ls [.int r_13, .ref A_t]) rfl ?_
          obtain ⟨r_15, hF_16, hF⟩ := ob1_some hF
          refine kcV (q := (RX5, TX5, 13)) (ci := 5) (q0 := 0) (As := [.int r_13]) (rest := []) (wr := [(A_t_wins, .inl (cy 3, 1024, .inl (fun j => bI (t_wins_4 j)))), (A_t_fits, .inl (cy 0, 1024, .inl t_fits_1))]) (wsN := (w_X5_rounds cy A_t A_t_s A_t_past A_t_begun A_t_text A_t_wins A_t_fits t_pasts t_thrown t_typed t_at t_letter t_one t_other t_s_8 t_wins_4 t_fits_1)) ⟨hx, hb, hml, hown, hts⟩ hE hP hD hS hA hAs [0, 1] [2, 3] [2, 3, 0, 1] (c_X5_isMade l D cy s0 tW N A_t A_t_s A_t_past A_t_begun A_t_text A_t_wins A_t_fits r_13 t_pasts t_thrown t_typed t_at t_letter t_one t_other t_s_8 _ hF_16) (gV q_882 q_884 q_64 q_88 q_885) hd_X5_isMade ⟨Nat.le_of_ble_eq_true rfl, Nat.le_of_ble_eq_true rfl⟩ rfl rfl rfl rfl rfl rfl rfl rfl rfl hl.1 rfl (Nat.le_of_ble_eq_true rfl) dX5_rounds_45 ⟨Nat.zero_le _, Nat.zero_le _⟩ (fun H locs hP hD hS => ?_)
          refine W.eq (g2 := F0 m 48 ls [.int (bI r_15)]) rfl ?_
          refine lv_if_ne (tgt := 65) hx hb dX5_rounds_48 (by decide) (fun c_17 => ?_) (fun c_17 => ?_)
          · replace hF := ite_t (bI_t c_17) hF
            refine lv_iinc (v := (v1_7 + 1)) (lv' := [(1, .int (v1_7 + 1)), (0, .ref A_t)]) hx hb dX5_rounds_65 hl (k := 1) rfl (by first | rfl | decide) (by decide) rfl (fun ls hl => ?_)
            refine lv_goto (tgt := 31) hx hb dX5_rounds_68 (by decide) ?_
            exact ih (v1_7 + 1) t_s_8 H locs ls hF hP hD hS (lv_sub hl [1, 0] rfl)
          · replace hF := ite_f (bI_f c_17) hF
            refine lv_aload_n hx hb dX5_rounds_51 rfl (lv_at hl 0 rfl) ?_
            refine va_get (D := D) (ci := 5) (v := .ref A_t_s) (C := RX5) (T := TX5) (N := 13) hx hb hts inX5 hown hK hP 0 rfl rfl 0 (by decide) (hts _ q_731) (fun _ h9 => h9) rfl dX5_rounds_52 ?_
            refine lv_iconst (v := 3) hx hb dX5_rounds_55 (by decide) ?_
            refine lv_dup2_11 hx hb dX5_rounds_56 rfl rfl ?_
            refine ka_iald hx hb hK hP 1 rfl (3) rfl (inb_in (by decide)) dX5_rounds_57 ?_
            refine lv_iconst (v := 1) hx hb dX5_rounds_58 (by decide) ?_
            refine lv_iload_n hx hb dX5_rounds_59 rfl (lv_at hl 1 rfl) ?_
            refine lv_ishl hx hb dX5_rounds_60 ?_
            refine lv_ior hx hb dX5_rounds_61 ?_
            refine ka_iast (wsN := (w_X5_rounds cy A_t A_t_s A_t_past A_t_begun A_t_text A_t_wins A_t_fits t_pasts t_thrown t_typed t_at t_letter t_one t_other (upd t_s_8 3 ((t_s_8 3) ||| ((1 : Int32) <<< (v1_7 &&& 31)))) t_wins_4 t_fits_1)) hx hb hK hP hD hS 1 rfl (3) rfl (inb_in (by decide)) rfl dX5_rounds_62 (fun H locs hP hD hS => ?_)
            refine lv_iload_n hx hb dX5_rounds_63 rfl (lv_at hl 1 rfl) ?_
            cases hF
            exact kret_i hx hb hr hlocks hP hD hS dX5_rounds_64
    refine hloop_31 _ (fun t_s_9 H locs ls hF hP hD hS hl => ?_) N 0 (upd t_s 4 ((t_s 4) + 1)) _ _ ls hF hP hD hS (lv_sub hl [1, 0] rfl)
    refine lv_bipush (v := (-2)) hx hb dX5_rounds_71 (by decide) ?_
    cases hF
    exact kret_i hx hb hr hlocks hP hD hS dX5_rounds_73
  · replace hF := ite_f (bI_f c_6) hF
    refine lv_iconst (v := (-1)) hx hb dX5_rounds_27 (by decide) ?_
    cases hF
    exact kret_i hx hb hr hlocks hP hD hS dX5_rounds_28

theorem q_59 : Cond.selects RX5 yX5_rounds yX5_rounds ∈ wAll := wAll_mem 59 (by decide +kernel) (by decide +kernel)
theorem q_862 : Cond.methodLink RX5 107 yX5_rounds ∈ wAll := wAll_mem 862 (by decide +kernel) (by decide +kernel)
theorem q_864 : Cond.instanceMethod yX5_rounds ∈ wAll := wAll_mem 864 (by decide +kernel) (by decide +kernel)
theorem q_865 : Cond.code yX5_rounds cX5_rounds 2 (some .int) ∈ wAll := wAll_mem 865 (by decide +kernel) (by decide +kernel)
theorem hd_X5_rounds : yX5_rounds.cls = RX5 ∧ yX5_rounds.cls ≠ "java/lang/invoke/MethodHandle" ∧ yX5_rounds.cls ≠ "java/lang/invoke/VarHandle" ∧ (parseMethodDescriptor yX5_rounds.desc).map (fun d => d.parameters.length) = some 0 := by decide +kernel
abbrev w_X5_round (cy : Nat → ClassId) (A_t : Nat) (A_t_s : Nat) (A_t_past : Nat) (A_t_begun : Nat) (A_t_text : Nat) (A_t_wins : Nat) (A_t_fits : Nat) (t_pasts : Int32) (t_thrown : Int32) (t_typed : Int32) (t_at : Int32) (t_letter : Int32) (t_one : Int32) (t_other : Int32) (t_s : Nat → Int32) (t_past : Nat → Int32) (t_begun : Nat → Int32) (t_wins : Nat → Bool) (t_fits : Nat → Int32) : va_W := [(A_t, .inr (5, [.ref A_t_s, .ref A_t_past, .ref A_t_begun, .int t_pasts, .int t_thrown, .ref A_t_text, .int t_typed, .int t_at, .int t_letter, .int t_one, .int t_other, .ref A_t_wins, .ref A_t_fits])), (A_t_s, .inl (cy 0, 45, .inl t_s)), (A_t_past, .inl (cy 0, 180, .inl t_past)), (A_t_begun, .inl (cy 0, 45, .inl t_begun)), (A_t_wins, .inl (cy 3, 1024, .inl (fun j => bI (t_wins j)))), (A_t_fits, .inl (cy 0, 1024, .inl t_fits))]
def F_X5_round (N : Nat) (t_s : Nat → Int32) (t_past : Nat → Int32) (t_begun : Nat → Int32) (t_pasts : Int32) (t_thrown : Int32) (t_wins : Nat → Bool) (t_fits : Nat → Int32) : Option (Int32 × (Nat → Int32) × (Nat → Int32) × (Nat → Int32) × Int32 × Int32 × (Nat → Bool) × (Nat → Int32)) :=
  ob1 (F_X5_begins N t_s t_begun) (fun t_begun_1 => ob4 (F_X5_rounds N t_s t_wins t_fits) (fun r_3 t_s_4 t_wins_5 t_fits_6 => ob4 (F_X5_saved N r_3 t_past t_begun_1 t_pasts t_thrown) (fun r_8 t_past_9 t_pasts_10 t_thrown_11 => some (r_8, t_s_4, t_past_9, t_begun_1, t_pasts_10, t_thrown_11, t_wins_5, t_fits_6))))
set_option maxHeartbeats 4000000 in
set_option maxRecDepth 100000 in
theorem c_X5_round (l : Launch) (D : va_G) (cy : Nat → ClassId) (s0 tW N : Nat) (A_t : Nat) (A_t_s : Nat) (A_t_past : Nat) (A_t_begun : Nat) (A_t_text : Nat) (A_t_wins : Nat) (A_t_fits : Nat) (t_pasts : Int32) (t_thrown : Int32) (t_typed : Int32) (t_at : Int32) (t_letter : Int32) (t_one : Int32) (t_other : Int32) (t_s : Nat → Int32) (t_past : Nat → Int32) (t_begun : Nat → Int32) (t_wins : Nat → Bool) (t_fits : Nat → Int32) (sz : Nat) {r9 : Int32} {t_s9 : Nat → Int32} {t_past9 : Nat → Int32} {t_begun9 : Nat → Int32} {t_pasts9 : Int32} {t_thrown9 : Int32} {t_wins9 : Nat → Bool} {t_fits9 : Nat → Int32} (hF : F_X5_round N t_s t_past t_begun t_pasts t_thrown t_wins t_fits = some (r9, t_s9, t_past9, t_begun9, t_pasts9, t_thrown9, t_wins9, t_fits9)) : KM l D cy s0 tW yX5_round cX5_round 1 (some .int) 4 92 [.ref A_t] sz (w_X5_round cy A_t A_t_s A_t_past A_t_begun A_t_text A_t_wins A_t_fits t_pasts t_thrown t_typed t_at t_letter t_one t_other t_s t_past t_begun t_wins t_fits) (some (.int r9)) (w_X5_round cy A_t A_t_s A_t_past A_t_begun A_t_text A_t_wins A_t_fits t_pasts9 t_thrown9 t_typed t_at t_letter t_one t_other t_s9 t_past9 t_begun9 t_wins9 t_fits9) := by
  refine KM.intro rfl (Nat.le_of_ble_eq_true rfl) ?_
  intro p e s m args below meth c A ls hx hb hr hml hown hts hlocks hE hP hD hS hA hAs hl
  have hK := hE.1
  have hl : lv_has ls 1 [(0, .ref A_t)] := hl
  unfold F_X5_round at hF
  refine lv_aload_n hx hb dX5_round_0 rfl (lv_at hl 0 rfl) ?_
  obtain ⟨t_begun_1, hF_2, hF⟩ := ob1_some hF
  refine kcV (q := (RX5, TX5, 13)) (ci := 5) (q0 := 0) (As := []) (rest := []) (wr := [(A_t_past, .inl (cy 0, 180, .inl t_past)), (A_t_wins, .inl (cy 3, 1024, .inl (fun j => bI (t_wins j)))), (A_t_fits, .inl (cy 0, 1024, .inl t_fits))]) (wsN := (w_X5_round cy A_t A_t_s A_t_past A_t_begun A_t_text A_t_wins A_t_fits t_pasts t_thrown t_typed t_at t_letter t_one t_other t_s t_past t_begun_1 t_wins t_fits)) ⟨hx, hb, hml, hown, hts⟩ hE hP hD hS hA hAs [0, 1, 3] [2, 4, 5] [3, 4, 0, 5, 1, 2] (c_X5_begins l D cy s0 tW N A_t A_t_s A_t_past A_t_begun A_t_text A_t_wins A_t_fits t_pasts t_thrown t_typed t_at t_letter t_one t_other t_s t_begun _ hF_2) (gV q_780 q_782 q_46 q_88 q_783) hd_X5_begins ⟨Nat.le_of_ble_eq_true rfl, Nat.le_of_ble_eq_true rfl⟩ rfl rfl rfl rfl rfl rfl rfl rfl rfl hl.1 rfl (Nat.le_of_ble_eq_true rfl) dX5_round_1 ⟨Nat.zero_le _, Nat.zero_le _⟩ (fun H locs hP hD hS => ?_)
  refine W.eq (g2 := F0 m 4 ls []) rfl ?_
  refine lv_aload_n hx hb dX5_round_4 rfl (lv_at hl 0 rfl) ?_
  refine lv_aload_n hx hb dX5_round_5 rfl (lv_at hl 0 rfl) ?_
  obtain ⟨r_3, t_s_4, t_wins_5, t_fits_6, hF_7, hF⟩ := ob4_some hF
  refine kcV (q := (RX5, TX5, 13)) (ci := 5) (q0 := 0) (As := []) (rest := [.ref A_t]) (wr := [(A_t_past, .inl (cy 0, 180, .inl t_past)), (A_t_begun, .inl (cy 0, 45, .inl t_begun_1))]) (wsN := (w_X5_round cy A_t A_t_s A_t_past A_t_begun A_t_text A_t_wins A_t_fits t_pasts t_thrown t_typed t_at t_letter t_one t_other t_s_4 t_past t_begun_1 t_wins_5 t_fits_6)) ⟨hx, hb, hml, hown, hts⟩ hE hP hD hS hA hAs [0, 1, 4, 5] [2, 3] [2, 3, 0, 1, 4, 5] (c_X5_rounds l D cy s0 tW N A_t A_t_s A_t_past A_t_begun A_t_text A_t_wins A_t_fits t_pasts t_thrown t_typed t_at t_letter t_one t_other t_s t_wins t_fits _ hF_7) (gV q_862 q_864 q_59 q_88 q_865) hd_X5_rounds ⟨Nat.le_of_ble_eq_true rfl, Nat.le_of_ble_eq_true rfl⟩ rfl rfl rfl rfl rfl rfl rfl rfl rfl hl.1 rfl (Nat.le_of_ble_eq_true rfl) dX5_round_6 ⟨Nat.zero_le _, Nat.zero_le _⟩ (fun H locs hP hD hS => ?_)
  refine W.eq (g2 := F0 m 9 ls [.int r_3, .ref A_t]) rfl ?_
  obtain ⟨r_8, t_past_9, t_pasts_10, t_thrown_11, hF_12, hF⟩ := ob4_some hF
  refine kcV (q := (RX5, TX5, 13)) (ci := 5) (q0 := 0) (As := [.int r_3]) (rest := []) (wr := [(A_t_s, .inl (cy 0, 45, .inl t_s_4)), (A_t_wins, .inl (cy 3, 1024, .inl (fun j => bI (t_wins_5 j)))), (A_t_fits, .inl (cy 0, 1024, .inl t_fits_6))]) (wsN := (w_X5_round cy A_t A_t_s A_t_past A_t_begun A_t_text A_t_wins A_t_fits t_pasts_10 t_thrown_11 t_typed t_at t_letter t_one t_other t_s_4 t_past_9 t_begun_1 t_wins_5 t_fits_6)) ⟨hx, hb, hml, hown, hts⟩ hE hP hD hS hA hAs [0, 2, 3] [1, 4, 5] [3, 0, 4, 5, 1, 2] (c_X5_saved l D cy s0 tW N A_t A_t_s A_t_past A_t_begun A_t_text A_t_wins A_t_fits r_3 t_pasts t_thrown t_typed t_at t_letter t_one t_other t_past t_begun_1 _ hF_12) (gV q_784 q_786 q_47 q_88 q_787) hd_X5_saved ⟨Nat.le_of_ble_eq_true rfl, Nat.le_of_ble_eq_true rfl⟩ rfl rfl rfl rfl rfl rfl rfl rfl rfl hl.1 rfl (Nat.le_of_ble_eq_true rfl) dX5_round_9 ⟨Nat.zero_le _, Nat.zero_le _⟩ (fun H locs hP hD hS => ?_)
  refine W.eq (g2 := F0 m 12 ls [.int r_8]) rfl ?_
  cases hF
  exact kret_i hx hb hr hlocks hP hD hS dX5_round_12

abbrev w_X5_learnAll (cy : Nat → ClassId) (A_t : Nat) (A_t_s : Nat) (A_t_past : Nat) (A_t_begun : Nat) (A_t_text : Nat) (A_t_wins : Nat) (A_t_fits : Nat) (t_pasts : Int32) (t_thrown : Int32) (t_typed : Int32) (t_at : Int32) (t_letter : Int32) (t_one : Int32) (t_other : Int32) (t_s : Nat → Int32) (t_past : Nat → Int32) (t_begun : Nat → Int32) (t_wins : Nat → Bool) (t_fits : Nat → Int32) : va_W := [(A_t, .inr (5, [.ref A_t_s, .ref A_t_past, .ref A_t_begun, .int t_pasts, .int t_thrown, .ref A_t_text, .int t_typed, .int t_at, .int t_letter, .int t_one, .int t_other, .ref A_t_wins, .ref A_t_fits])), (A_t_s, .inl (cy 0, 45, .inl t_s)), (A_t_past, .inl (cy 0, 180, .inl t_past)), (A_t_begun, .inl (cy 0, 45, .inl t_begun)), (A_t_wins, .inl (cy 3, 1024, .inl (fun j => bI (t_wins j)))), (A_t_fits, .inl (cy 0, 1024, .inl t_fits))]
def L_X5_learnAll_6 (N : Nat)  (kont : Int32 → (Nat → Int32) → (Nat → Bool) → (Nat → Int32) → Option (Int32 × (Nat → Int32) × (Nat → Int32) × (Nat → Int32) × Int32 × Int32 × (Nat → Bool) × (Nat → Int32))) : Nat → Int32 → (Nat → Int32) → (Nat → Bool) → (Nat → Int32) → Option (Int32 × (Nat → Int32) × (Nat → Int32) × (Nat → Int32) × Int32 × Int32 × (Nat → Bool) × (Nat → Int32))
  | 0, _, _, _, _ => none
  | n + 1, v1_3, t_s_4, t_wins_5, t_fits_6 => ob4 (F_X5_rounds N t_s_4 t_wins_5 t_fits_6) (fun r_11 t_s_12 t_wins_13 t_fits_14 => (if r_11 < (0 : Int32) then kont v1_3 t_s_12 t_wins_13 t_fits_14 else L_X5_learnAll_6 N  kont n (v1_3 + 1) t_s_12 t_wins_13 t_fits_14))
def F_X5_learnAll (N : Nat) (t_s : Nat → Int32) (t_past : Nat → Int32) (t_begun : Nat → Int32) (t_pasts : Int32) (t_thrown : Int32) (t_wins : Nat → Bool) (t_fits : Nat → Int32) : Option (Int32 × (Nat → Int32) × (Nat → Int32) × (Nat → Int32) × Int32 × Int32 × (Nat → Bool) × (Nat → Int32)) :=
  ob1 (F_X5_begins N t_s t_begun) (fun t_begun_1 => (L_X5_learnAll_6 N  (fun u1_7 t_s_8 t_wins_9 t_fits_10 => ob4 (F_X5_saved N u1_7 t_past t_begun_1 t_pasts t_thrown) (fun r_17 t_past_18 t_pasts_19 t_thrown_20 => some (r_17, t_s_8, t_past_18, t_begun_1, t_pasts_19, t_thrown_20, t_wins_9, t_fits_10))) N 0 t_s t_wins t_fits))
set_option maxHeartbeats 4000000 in
set_option maxRecDepth 100000 in
theorem c_X5_learnAll (l : Launch) (D : va_G) (cy : Nat → ClassId) (s0 tW N : Nat) (A_t : Nat) (A_t_s : Nat) (A_t_past : Nat) (A_t_begun : Nat) (A_t_text : Nat) (A_t_wins : Nat) (A_t_fits : Nat) (t_pasts : Int32) (t_thrown : Int32) (t_typed : Int32) (t_at : Int32) (t_letter : Int32) (t_one : Int32) (t_other : Int32) (t_s : Nat → Int32) (t_past : Nat → Int32) (t_begun : Nat → Int32) (t_wins : Nat → Bool) (t_fits : Nat → Int32) (sz : Nat) {r9 : Int32} {t_s9 : Nat → Int32} {t_past9 : Nat → Int32} {t_begun9 : Nat → Int32} {t_pasts9 : Int32} {t_thrown9 : Int32} {t_wins9 : Nat → Bool} {t_fits9 : Nat → Int32} (hF : F_X5_learnAll N t_s t_past t_begun t_pasts t_thrown t_wins t_fits = some (r9, t_s9, t_past9, t_begun9, t_pasts9, t_thrown9, t_wins9, t_fits9)) : KM l D cy s0 tW yX5_learnAll cX5_learnAll 2 (some .int) 4 92 [.ref A_t] sz (w_X5_learnAll cy A_t A_t_s A_t_past A_t_begun A_t_text A_t_wins A_t_fits t_pasts t_thrown t_typed t_at t_letter t_one t_other t_s t_past t_begun t_wins t_fits) (some (.int r9)) (w_X5_learnAll cy A_t A_t_s A_t_past A_t_begun A_t_text A_t_wins A_t_fits t_pasts9 t_thrown9 t_typed t_at t_letter t_one t_other t_s9 t_past9 t_begun9 t_wins9 t_fits9) := by
  refine KM.intro rfl (Nat.le_of_ble_eq_true rfl) ?_
  intro p e s m args below meth c A ls hx hb hr hml hown hts hlocks hE hP hD hS hA hAs hl
  have hK := hE.1
  have hl : lv_has ls 2 [(0, .ref A_t)] := hl
  unfold F_X5_learnAll at hF
  refine lv_aload_n hx hb dX5_learnAll_0 rfl (lv_at hl 0 rfl) ?_
  obtain ⟨t_begun_1, hF_2, hF⟩ := ob1_some hF
  refine kcV (q := (RX5, TX5, 13)) (ci := 5) (q0 := 0) (As := []) (rest := []) (wr := [(A_t_past, .inl (cy 0, 180, .inl t_past)), (A_t_wins, .inl (cy 3, 1024, .inl (fun j => bI (t_wins j)))), (A_t_fits, .inl (cy 0, 1024, .inl t_fits))]) (wsN := (w_X5_learnAll cy A_t A_t_s A_t_past A_t_begun A_t_text A_t_wins A_t_fits t_pasts t_thrown t_typed t_at t_letter t_one t_other t_s t_past t_begun_1 t_wins t_fits)) ⟨hx, hb, hml, hown, hts⟩ hE hP hD hS hA hAs [0, 1, 3] [2, 4, 5] [3, 4, 0, 5, 1, 2] (c_X5_begins l D cy s0 tW N A_t A_t_s A_t_past A_t_begun A_t_text A_t_wins A_t_fits t_pasts t_thrown t_typed t_at t_letter t_one t_other t_s t_begun _ hF_2) (gV q_780 q_782 q_46 q_88 q_783) hd_X5_begins ⟨Nat.le_of_ble_eq_true rfl, Nat.le_of_ble_eq_true rfl⟩ rfl rfl rfl rfl rfl rfl rfl rfl rfl hl.1 rfl (Nat.le_of_ble_eq_true rfl) dX5_learnAll_1 ⟨Nat.zero_le _, Nat.zero_le _⟩ (fun H locs hP hD hS => ?_)
  refine W.eq (g2 := F0 m 4 ls []) rfl ?_
  refine lv_iconst (v := 0) hx hb dX5_learnAll_4 (by decide) ?_
  refine lv_istore_n (lv' := [(1, .int 0), (0, .ref A_t)]) hx hb dX5_learnAll_5 rfl hl (by decide) rfl (fun ls hl => ?_)
  have hloop_6 : ∀ (kont : Int32 → (Nat → Int32) → (Nat → Bool) → (Nat → Int32) → Option (Int32 × (Nat → Int32) × (Nat → Int32) × (Nat → Int32) × Int32 × Int32 × (Nat → Bool) × (Nat → Int32))), (∀ (u1_7 : Int32) (t_s_8 : Nat → Int32) (t_wins_9 : Nat → Bool) (t_fits_10 : Nat → Int32) (H : Heap) (locs : List Loc) (ls : Array Slot), kont u1_7 t_s_8 t_wins_9 t_fits_10 = some (r9, t_s9, t_past9, t_begun9, t_pasts9, t_thrown9, t_wins9, t_fits9) → va_P D vwCl (w_X5_learnAll cy A_t A_t_s A_t_past A_t_begun A_t_text A_t_wins A_t_fits t_pasts t_thrown t_typed t_at t_letter t_one t_other t_s_8 t_past t_begun_1 t_wins_9 t_fits_10) H → va_D A (w_X5_learnAll cy A_t A_t_s A_t_past A_t_begun A_t_text A_t_wins A_t_fits t_pasts t_thrown t_typed t_at t_letter t_one t_other t_s_8 t_past t_begun_1 t_wins_9 t_fits_10) → va_S A s.heap H locs → lv_has ls 2 [(0, .ref A_t), (1, .int u1_7)] → W p l e (rmK 4 92) s m args below meth c H locs 0 0 (MQ below (kQ (some (.int r9)) D A (w_X5_learnAll cy A_t A_t_s A_t_past A_t_begun A_t_text A_t_wins A_t_fits t_pasts9 t_thrown9 t_typed t_at t_letter t_one t_other t_s9 t_past9 t_begun9 t_wins9 t_fits9)) args s 0 0 A) (F0 m 19 ls [])) → ∀ (n : Nat) (v1_3 : Int32) (t_s_4 : Nat → Int32) (t_wins_5 : Nat → Bool) (t_fits_6 : Nat → Int32) (H : Heap) (locs : List Loc) (ls : Array Slot), L_X5_learnAll_6 N  kont n v1_3 t_s_4 t_wins_5 t_fits_6 = some (r9, t_s9, t_past9, t_begun9, t_pasts9, t_thrown9, t_wins9, t_fits9) → va_P D vwCl (w_X5_learnAll cy A_t A_t_s A_t_past A_t_begun A_t_text A_t_wins A_t_fits t_pasts t_thrown t_typed t_at t_letter t_one t_other t_s_4 t_past t_begun_1 t_wins_5 t_fits_6) H → va_D A (w_X5_learnAll cy A_t A_t_s A_t_past A_t_begun A_t_text A_t_wins A_t_fits t_pasts t_thrown t_typed t_at t_letter t_one t_other t_s_4 t_past t_begun_1 t_wins_5 t_fits_6) → va_S A s.heap H locs → lv_has ls 2 [(0, .ref A_t), (1, .int v1_3)] → W p l e (rmK 4 92) s m args below meth c H locs 0 0 (MQ below (kQ (some (.int r9)) D A (w_X5_learnAll cy A_t A_t_s A_t_past A_t_begun A_t_text A_t_wins A_t_fits t_pasts9 t_thrown9 t_typed t_at t_letter t_one t_other t_s9 t_past9 t_begun9 t_wins9 t_fits9)) args s 0 0 A) (F0 m 6 ls []) := by
    intro kont hexit_6 n
    induction n with
    | zero =>
      intro v1_3 t_s_4 t_wins_5 t_fits_6 H locs ls hF
      rw [L_X5_learnAll_6] at hF
      cases hF
    | succ n ih =>
      intro v1_3 t_s_4 t_wins_5 t_fits_6 H locs ls hF hP hD hS hl
      rw [L_X5_learnAll_6] at hF
      refine lv_aload_n hx hb dX5_learnAll_6 rfl (lv_at hl 0 rfl) ?_
      obtain ⟨r_11, t_s_12, t_wins_13, t_fits_14, hF_15, hF⟩ := ob4_some hF
      refine kcV (q := (RX5, TX5, 13)) (ci := 5) (q0 := 0) (As := []) (rest := []) (wr := [(A_t_past, .inl (cy 0, 180, .inl t_past)), (A_t_begun, .inl (cy 0, 45, .inl t_begun_1))]) (wsN := (w_X5_learnAll cy A_t A_t_s A_t_past A_t_begun A_t_text A_t_wins A_t_fits t_pasts t_thrown t_typed t_at t_letter t_one t_other t_s_12 t_past t_begun_1 t_wins_13 t_fits_14)) ⟨hx, hb, hml, hown, hts⟩ hE hP hD hS hA hAs [0, 1, 4, 5] [2, 3] [2, 3, 0, 1, 4, 5] (c_X5_rounds l D cy s0 tW N A_t A_t_s A_t_past A_t_begun A_t_text A_t_wins A_t_fits t_pasts t_thrown t_typed t_at t_letter t_one t_other t_s_4 t_wins_5 t_fits_6 _ hF_15) (gV q_862 q_864 q_59 q_88 q_865) hd_X5_rounds ⟨Nat.le_of_ble_eq_true rfl, Nat.le_of_ble_eq_true rfl⟩ rfl rfl rfl rfl rfl rfl rfl rfl rfl hl.1 rfl (Nat.le_of_ble_eq_true rfl) dX5_learnAll_7 ⟨Nat.zero_le _, Nat.zero_le _⟩ (fun H locs hP hD hS => ?_)
      refine W.eq (g2 := F0 m 10 ls [.int r_11]) rfl ?_
      refine lv_if_lt (tgt := 19) hx hb dX5_learnAll_10 (by decide) (fun c_16 => ?_) (fun c_16 => ?_)
      · replace hF := ite_t c_16 hF
        exact hexit_6 v1_3 t_s_12 t_wins_13 t_fits_14 H locs ls hF hP hD hS (lv_sub hl [0, 1] rfl)
      · replace hF := ite_f c_16 hF
        refine lv_iinc (v := (v1_3 + 1)) (lv' := [(1, .int (v1_3 + 1)), (0, .ref A_t)]) hx hb dX5_learnAll_13 hl (k := 1) rfl (by first | rfl | decide) (by decide) rfl (fun ls hl => ?_)
        refine lv_goto (tgt := 6) hx hb dX5_learnAll_16 (by decide) ?_
        exact ih (v1_3 + 1) t_s_12 t_wins_13 t_fits_14 H locs ls hF hP hD hS (lv_sub hl [1, 0] rfl)
  refine hloop_6 _ (fun u1_7 t_s_8 t_wins_9 t_fits_10 H locs ls hF hP hD hS hl => ?_) N 0 t_s t_wins t_fits _ _ ls hF hP hD hS (lv_sub hl [1, 0] rfl)
  refine lv_aload_n hx hb dX5_learnAll_19 rfl (lv_at hl 0 rfl) ?_
  refine lv_iload_n hx hb dX5_learnAll_20 rfl (lv_at hl 1 rfl) ?_
  obtain ⟨r_17, t_past_18, t_pasts_19, t_thrown_20, hF_21, hF⟩ := ob4_some hF
  refine kcV (q := (RX5, TX5, 13)) (ci := 5) (q0 := 0) (As := [.int u1_7]) (rest := []) (wr := [(A_t_s, .inl (cy 0, 45, .inl t_s_8)), (A_t_wins, .inl (cy 3, 1024, .inl (fun j => bI (t_wins_9 j)))), (A_t_fits, .inl (cy 0, 1024, .inl t_fits_10))]) (wsN := (w_X5_learnAll cy A_t A_t_s A_t_past A_t_begun A_t_text A_t_wins A_t_fits t_pasts_19 t_thrown_20 t_typed t_at t_letter t_one t_other t_s_8 t_past_18 t_begun_1 t_wins_9 t_fits_10)) ⟨hx, hb, hml, hown, hts⟩ hE hP hD hS hA hAs [0, 2, 3] [1, 4, 5] [3, 0, 4, 5, 1, 2] (c_X5_saved l D cy s0 tW N A_t A_t_s A_t_past A_t_begun A_t_text A_t_wins A_t_fits u1_7 t_pasts t_thrown t_typed t_at t_letter t_one t_other t_past t_begun_1 _ hF_21) (gV q_784 q_786 q_47 q_88 q_787) hd_X5_saved ⟨Nat.le_of_ble_eq_true rfl, Nat.le_of_ble_eq_true rfl⟩ rfl rfl rfl rfl rfl rfl rfl rfl rfl hl.1 rfl (Nat.le_of_ble_eq_true rfl) dX5_learnAll_21 ⟨Nat.zero_le _, Nat.zero_le _⟩ (fun H locs hP hD hS => ?_)
  refine W.eq (g2 := F0 m 24 ls [.int r_17]) rfl ?_
  cases hF
  exact kret_i hx hb hr hlocks hP hD hS dX5_learnAll_24

abbrev w_X5_isVariable (cy : Nat → ClassId) (A_t : Nat) (A_t_s : Nat) (A_t_past : Nat) (A_t_begun : Nat) (A_t_text : Nat) (A_t_wins : Nat) (A_t_fits : Nat) (t_pasts : Int32) (t_thrown : Int32) (t_typed : Int32) (t_at : Int32) (t_letter : Int32) (t_one : Int32) (t_other : Int32) (t_s : Nat → Int32) : va_W := [(A_t, .inr (5, [.ref A_t_s, .ref A_t_past, .ref A_t_begun, .int t_pasts, .int t_thrown, .ref A_t_text, .int t_typed, .int t_at, .int t_letter, .int t_one, .int t_other, .ref A_t_wins, .ref A_t_fits])), (A_t_s, .inl (cy 0, 45, .inl t_s))]
def F_X5_isVariable (N : Nat) (p0 : Int32) (t_s : Nat → Int32) : Option (Bool) :=
  ob1 (F_X5_in N p0 0 ((t_s 0) - 1)) (fun r_1 => some r_1)
set_option maxHeartbeats 4000000 in
set_option maxRecDepth 100000 in
theorem c_X5_isVariable (l : Launch) (D : va_G) (cy : Nat → ClassId) (s0 tW N : Nat) (A_t : Nat) (A_t_s : Nat) (A_t_past : Nat) (A_t_begun : Nat) (A_t_text : Nat) (A_t_wins : Nat) (A_t_fits : Nat) (p0 : Int32) (t_pasts : Int32) (t_thrown : Int32) (t_typed : Int32) (t_at : Int32) (t_letter : Int32) (t_one : Int32) (t_other : Int32) (t_s : Nat → Int32) (sz : Nat) {r9 : Bool} (hF : F_X5_isVariable N p0 t_s = some r9) : KM l D cy s0 tW yX5_isVariable cX5_isVariable 2 (some .boolean) 1 22 [.ref A_t, .int p0] sz (w_X5_isVariable cy A_t A_t_s A_t_past A_t_begun A_t_text A_t_wins A_t_fits t_pasts t_thrown t_typed t_at t_letter t_one t_other t_s) (some (.int (bI r9))) (w_X5_isVariable cy A_t A_t_s A_t_past A_t_begun A_t_text A_t_wins A_t_fits t_pasts t_thrown t_typed t_at t_letter t_one t_other t_s) := by
  refine KM.intro rfl (Nat.le_of_ble_eq_true rfl) ?_
  intro p e s m args below meth c A ls hx hb hr hml hown hts hlocks hE hP hD hS hA hAs hl
  have hK := hE.1
  have hl : lv_has ls 2 [(0, .ref A_t), (1, .int p0)] := hl
  unfold F_X5_isVariable at hF
  refine lv_iload_n hx hb dX5_isVariable_0 rfl (lv_at hl 1 rfl) ?_
  refine lv_iconst (v := 0) hx hb dX5_isVariable_1 (by decide) ?_
  refine lv_aload_n hx hb dX5_isVariable_2 rfl (lv_at hl 0 rfl) ?_
  refine va_get (D := D) (ci := 5) (v := .ref A_t_s) (C := RX5) (T := TX5) (N := 13) hx hb hts inX5 hown hK hP 0 rfl rfl 0 (by decide) (hts _ q_731) (fun _ h9 => h9) rfl dX5_isVariable_3 ?_
  refine lv_iconst (v := 0) hx hb dX5_isVariable_6 (by decide) ?_
  refine ka_iald hx hb hK hP 1 rfl (0) rfl (inb_in (by decide)) dX5_isVariable_7 ?_
  refine lv_iconst (v := 1) hx hb dX5_isVariable_8 (by decide) ?_
  refine lv_isub hx hb dX5_isVariable_9 ?_
  obtain ⟨r_1, hF_2, hF⟩ := ob1_some hF
  refine kcS (As := [.int p0, .int 0, .int ((t_s 0) - 1)]) (rest := []) (wr := [(A_t, .inr (5, [.ref A_t_s, .ref A_t_past, .ref A_t_begun, .int t_pasts, .int t_thrown, .ref A_t_text, .int t_typed, .int t_at, .int t_letter, .int t_one, .int t_other, .ref A_t_wins, .ref A_t_fits])), (A_t_s, .inl (cy 0, 45, .inl t_s))]) (wsN := (w_X5_isVariable cy A_t A_t_s A_t_past A_t_begun A_t_text A_t_wins A_t_fits t_pasts t_thrown t_typed t_at t_letter t_one t_other t_s)) ⟨hx, hb, hml, hown, hts⟩ hE hP hD hS hA hAs [] [0, 1] [0, 1] (c_X5_in l D cy s0 tW N p0 0 ((t_s 0) - 1) _ hF_2) (gS q_823 q_824 q_88 q_825) hd_X5_in.2 ⟨Nat.le_of_ble_eq_true rfl, Nat.le_of_ble_eq_true rfl⟩ rfl rfl rfl rfl rfl rfl rfl hl.1 rfl (Nat.le_of_ble_eq_true rfl) dX5_isVariable_10 ⟨Nat.zero_le _, Nat.zero_le _⟩ (fun H locs hP hD hS => ?_)
  refine W.eq (g2 := F0 m 13 ls [.int (bI r_1)]) rfl ?_
  cases hF
  exact kret_z hx hb hr hlocks hP hD hS dX5_isVariable_13

theorem q_66 : Cond.selects RX5 yX5_isVariable yX5_isVariable ∈ wAll := wAll_mem 66 (by decide +kernel) (by decide +kernel)
theorem q_898 : Cond.methodLink RX5 110 yX5_isVariable ∈ wAll := wAll_mem 898 (by decide +kernel) (by decide +kernel)
theorem q_900 : Cond.instanceMethod yX5_isVariable ∈ wAll := wAll_mem 900 (by decide +kernel) (by decide +kernel)
theorem q_901 : Cond.code yX5_isVariable cX5_isVariable 2 (some .boolean) ∈ wAll := wAll_mem 901 (by decide +kernel) (by decide +kernel)
theorem hd_X5_isVariable : yX5_isVariable.cls = RX5 ∧ yX5_isVariable.cls ≠ "java/lang/invoke/MethodHandle" ∧ yX5_isVariable.cls ≠ "java/lang/invoke/VarHandle" ∧ (parseMethodDescriptor yX5_isVariable.desc).map (fun d => d.parameters.length) = some 1 := by decide +kernel
abbrev w_X5_isBreakers (cy : Nat → ClassId) (A_t : Nat) (A_t_s : Nat) (A_t_past : Nat) (A_t_begun : Nat) (A_t_text : Nat) (A_t_wins : Nat) (A_t_fits : Nat) (t_pasts : Int32) (t_thrown : Int32) (t_typed : Int32) (t_at : Int32) (t_letter : Int32) (t_one : Int32) (t_other : Int32) (t_s : Nat → Int32) : va_W := [(A_t, .inr (5, [.ref A_t_s, .ref A_t_past, .ref A_t_begun, .int t_pasts, .int t_thrown, .ref A_t_text, .int t_typed, .int t_at, .int t_letter, .int t_one, .int t_other, .ref A_t_wins, .ref A_t_fits])), (A_t_s, .inl (cy 0, 45, .inl t_s))]
def F_X5_isBreakers (N : Nat) (p0 : Int32) (t_s : Nat → Int32) (t_thrown : Int32) : Option (Bool × Int32) :=
  ob1 (F_X5_isVariable N p0 t_s) (fun r_1 => (if r_1 = true then ob1 (F_X5_isBreakersOwn N p0 t_s) (fun r_4 => (if r_4 = true then some (true, 0) else some (false, 0))) else some (false, 1)))
set_option maxHeartbeats 4000000 in
set_option maxRecDepth 100000 in
theorem c_X5_isBreakers (l : Launch) (D : va_G) (cy : Nat → ClassId) (s0 tW N : Nat) (A_t : Nat) (A_t_s : Nat) (A_t_past : Nat) (A_t_begun : Nat) (A_t_text : Nat) (A_t_wins : Nat) (A_t_fits : Nat) (p0 : Int32) (t_pasts : Int32) (t_thrown : Int32) (t_typed : Int32) (t_at : Int32) (t_letter : Int32) (t_one : Int32) (t_other : Int32) (t_s : Nat → Int32) (sz : Nat) {r9 : Bool} {t_thrown9 : Int32} (hF : F_X5_isBreakers N p0 t_s t_thrown = some (r9, t_thrown9)) : KM l D cy s0 tW yX5_isBreakers cX5_isBreakers 2 (some .boolean) 2 43 [.ref A_t, .int p0] sz (w_X5_isBreakers cy A_t A_t_s A_t_past A_t_begun A_t_text A_t_wins A_t_fits t_pasts t_thrown t_typed t_at t_letter t_one t_other t_s) (some (.int (bI r9))) (w_X5_isBreakers cy A_t A_t_s A_t_past A_t_begun A_t_text A_t_wins A_t_fits t_pasts t_thrown9 t_typed t_at t_letter t_one t_other t_s) := by
  refine KM.intro rfl (Nat.le_of_ble_eq_true rfl) ?_
  intro p e s m args below meth c A ls hx hb hr hml hown hts hlocks hE hP hD hS hA hAs hl
  have hK := hE.1
  have hl : lv_has ls 2 [(0, .ref A_t), (1, .int p0)] := hl
  unfold F_X5_isBreakers at hF
  refine lv_aload_n hx hb dX5_isBreakers_0 rfl (lv_at hl 0 rfl) ?_
  refine lv_aload_n hx hb dX5_isBreakers_1 rfl (lv_at hl 0 rfl) ?_
  refine lv_iload_n hx hb dX5_isBreakers_2 rfl (lv_at hl 1 rfl) ?_
  obtain ⟨r_1, hF_2, hF⟩ := ob1_some hF
  refine kcV (q := (RX5, TX5, 13)) (ci := 5) (q0 := 0) (As := [.int p0]) (rest := [.ref A_t]) (wr := []) (wsN := (w_X5_isBreakers cy A_t A_t_s A_t_past A_t_begun A_t_text A_t_wins A_t_fits t_pasts t_thrown t_typed t_at t_letter t_one t_other t_s)) ⟨hx, hb, hml, hown, hts⟩ hE hP hD hS hA hAs [0, 1] [] [0, 1] (c_X5_isVariable l D cy s0 tW N A_t A_t_s A_t_past A_t_begun A_t_text A_t_wins A_t_fits p0 t_pasts t_thrown t_typed t_at t_letter t_one t_other t_s _ hF_2) (gV q_898 q_900 q_66 q_88 q_901) hd_X5_isVariable ⟨Nat.le_of_ble_eq_true rfl, Nat.le_of_ble_eq_true rfl⟩ rfl rfl rfl rfl rfl rfl rfl rfl rfl hl.1 rfl (Nat.le_of_ble_eq_true rfl) dX5_isBreakers_3 ⟨Nat.zero_le _, Nat.zero_le _⟩ (fun H locs hP hD hS => ?_)
  refine W.eq (g2 := F0 m 6 ls [.int (bI r_1), .ref A_t]) rfl ?_
  refine lv_if_eq (tgt := 13) hx hb dX5_isBreakers_6 (by decide) (fun c_3 => ?_) (fun c_3 => ?_)
  · replace hF := ite_f (bI_f c_3) hF
    refine lv_iconst (v := 1) hx hb dX5_isBreakers_13 (by decide) ?_
    refine ka_put (ci := 5) (v := .int 1) (ty := .int) (C := RX5) (T := TX5) (N := 13) (wsN := (w_X5_isBreakers cy A_t A_t_s A_t_past A_t_begun A_t_text A_t_wins A_t_fits t_pasts 1 t_typed t_at t_letter t_one t_other t_s)) hx hb hts inX5 tyX5 tyX5_ok nmX5 hown hK hP hD hS 0 rfl rfl 4 (by decide) (hts _ q_735) (fun _ h9 => h9) rfl (by decide +kernel) rfl rfl (Nat.le_of_ble_eq_true rfl) rfl dX5_isBreakers_14 (fun H locs hP hD hS => ?_)
    refine lv_aload_n hx hb dX5_isBreakers_17 rfl (lv_at hl 0 rfl) ?_
    refine va_get (D := D) (ci := 5) (v := .int 1) (C := RX5) (T := TX5) (N := 13) hx hb hts inX5 hown hK hP 0 rfl rfl 4 (by decide) (hts _ q_735) (fun _ h9 => h9) rfl dX5_isBreakers_18 ?_
    refine lv_if_ne (tgt := 36) hx hb dX5_isBreakers_21 (by decide) (fun _ => ?_) (fun h0 => absurd h0 (by decide))
    refine lv_iconst (v := 0) hx hb dX5_isBreakers_36 (by decide) ?_
    cases hF
    exact kret_z hx hb hr hlocks hP hD hS dX5_isBreakers_37
  · replace hF := ite_t (bI_t c_3) hF
    refine lv_iconst (v := 0) hx hb dX5_isBreakers_9 (by decide) ?_
    refine lv_goto (tgt := 14) hx hb dX5_isBreakers_10 (by decide) ?_
    refine ka_put (ci := 5) (v := .int 0) (ty := .int) (C := RX5) (T := TX5) (N := 13) (wsN := (w_X5_isBreakers cy A_t A_t_s A_t_past A_t_begun A_t_text A_t_wins A_t_fits t_pasts 0 t_typed t_at t_letter t_one t_other t_s)) hx hb hts inX5 tyX5 tyX5_ok nmX5 hown hK hP hD hS 0 rfl rfl 4 (by decide) (hts _ q_735) (fun _ h9 => h9) rfl (by decide +kernel) rfl rfl (Nat.le_of_ble_eq_true rfl) rfl dX5_isBreakers_14 (fun H locs hP hD hS => ?_)
    refine lv_aload_n hx hb dX5_isBreakers_17 rfl (lv_at hl 0 rfl) ?_
    refine va_get (D := D) (ci := 5) (v := .int 0) (C := RX5) (T := TX5) (N := 13) hx hb hts inX5 hown hK hP 0 rfl rfl 4 (by decide) (hts _ q_735) (fun _ h9 => h9) rfl dX5_isBreakers_18 ?_
    refine lv_if_ne (tgt := 36) hx hb dX5_isBreakers_21 (by decide) (fun h0 => absurd (by decide) h0) (fun _ => ?_)
    refine lv_aload_n hx hb dX5_isBreakers_24 rfl (lv_at hl 0 rfl) ?_
    refine lv_iload_n hx hb dX5_isBreakers_25 rfl (lv_at hl 1 rfl) ?_
    obtain ⟨r_4, hF_5, hF⟩ := ob1_some hF
    refine kcV (q := (RX5, TX5, 13)) (ci := 5) (q0 := 0) (As := [.int p0]) (rest := []) (wr := []) (wsN := (w_X5_isBreakers cy A_t A_t_s A_t_past A_t_begun A_t_text A_t_wins A_t_fits t_pasts 0 t_typed t_at t_letter t_one t_other t_s)) ⟨hx, hb, hml, hown, hts⟩ hE hP hD hS hA hAs [0, 1] [] [0, 1] (c_X5_isBreakersOwn l D cy s0 tW N A_t A_t_s A_t_past A_t_begun A_t_text A_t_wins A_t_fits p0 t_pasts 0 t_typed t_at t_letter t_one t_other t_s _ hF_5) (gV q_874 q_876 q_62 q_88 q_877) hd_X5_isBreakersOwn ⟨Nat.le_of_ble_eq_true rfl, Nat.le_of_ble_eq_true rfl⟩ rfl rfl rfl rfl rfl rfl rfl rfl rfl hl.1 rfl (Nat.le_of_ble_eq_true rfl) dX5_isBreakers_26 ⟨Nat.zero_le _, Nat.zero_le _⟩ (fun H locs hP hD hS => ?_)
    refine W.eq (g2 := F0 m 29 ls [.int (bI r_4)]) rfl ?_
    refine lv_if_eq (tgt := 36) hx hb dX5_isBreakers_29 (by decide) (fun c_6 => ?_) (fun c_6 => ?_)
    · replace hF := ite_f (bI_f c_6) hF
      refine lv_iconst (v := 0) hx hb dX5_isBreakers_36 (by decide) ?_
      cases hF
      exact kret_z hx hb hr hlocks hP hD hS dX5_isBreakers_37
    · replace hF := ite_t (bI_t c_6) hF
      refine lv_iconst (v := 1) hx hb dX5_isBreakers_32 (by decide) ?_
      refine lv_goto (tgt := 37) hx hb dX5_isBreakers_33 (by decide) ?_
      cases hF
      exact kret_z hx hb hr hlocks hP hD hS dX5_isBreakers_37

abbrev w_X5_ofClause (cy : Nat → ClassId) (A_t : Nat) (A_t_s : Nat) (A_t_past : Nat) (A_t_begun : Nat) (A_t_text : Nat) (A_t_wins : Nat) (A_t_fits : Nat) (t_pasts : Int32) (t_thrown : Int32) (t_typed : Int32) (t_at : Int32) (t_letter : Int32) (t_one : Int32) (t_other : Int32) (t_s : Nat → Int32) : va_W := [(A_t, .inr (5, [.ref A_t_s, .ref A_t_past, .ref A_t_begun, .int t_pasts, .int t_thrown, .ref A_t_text, .int t_typed, .int t_at, .int t_letter, .int t_one, .int t_other, .ref A_t_wins, .ref A_t_fits])), (A_t_s, .inl (cy 0, 45, .inl t_s))]
def F_X5_ofClause (N : Nat) (p0 : Int32) (p1 : Int32) (t_s : Nat → Int32) : Option (Int32) :=
  gd (inb (5 + p0) 45) (gd (inb (25 + p0) 45) ((if p1 = (0 : Int32) then some (t_s ((5 + p0).toNatClampNeg)) else (if p1 = (1 : Int32) then some (t_s ((25 + p0).toNatClampNeg)) else (if ((t_s ((5 + p0).toNatClampNeg)) &&& (t_s ((25 + p0).toNatClampNeg))) = (0 : Int32) then some 0 else some 1)))))
set_option maxHeartbeats 4000000 in
set_option maxRecDepth 100000 in
theorem c_X5_ofClause (l : Launch) (D : va_G) (cy : Nat → ClassId) (s0 tW N : Nat) (A_t : Nat) (A_t_s : Nat) (A_t_past : Nat) (A_t_begun : Nat) (A_t_text : Nat) (A_t_wins : Nat) (A_t_fits : Nat) (p0 : Int32) (p1 : Int32) (t_pasts : Int32) (t_thrown : Int32) (t_typed : Int32) (t_at : Int32) (t_letter : Int32) (t_one : Int32) (t_other : Int32) (t_s : Nat → Int32) (sz : Nat) {r9 : Int32} (hF : F_X5_ofClause N p0 p1 t_s = some r9) : KM l D cy s0 tW yX5_ofClause cX5_ofClause 5 (some .int) 0 0 [.ref A_t, .int p0, .int p1] sz (w_X5_ofClause cy A_t A_t_s A_t_past A_t_begun A_t_text A_t_wins A_t_fits t_pasts t_thrown t_typed t_at t_letter t_one t_other t_s) (some (.int r9)) (w_X5_ofClause cy A_t A_t_s A_t_past A_t_begun A_t_text A_t_wins A_t_fits t_pasts t_thrown t_typed t_at t_letter t_one t_other t_s) := by
  refine KM.intro rfl (Nat.le_of_ble_eq_true rfl) ?_
  intro p e s m args below meth c A ls hx hb hr hml hown hts hlocks hE hP hD hS hA hAs hl
  have hK := hE.1
  have hl : lv_has ls 5 [(0, .ref A_t), (1, .int p0), (2, .int p1)] := hl
  unfold F_X5_ofClause at hF
  refine lv_aload_n hx hb dX5_ofClause_0 rfl (lv_at hl 0 rfl) ?_
  refine va_get (D := D) (ci := 5) (v := .ref A_t_s) (C := RX5) (T := TX5) (N := 13) hx hb hts inX5 hown hK hP 0 rfl rfl 0 (by decide) (hts _ q_731) (fun _ h9 => h9) rfl dX5_ofClause_1 ?_
  refine lv_iconst (v := 5) hx hb dX5_ofClause_4 (by decide) ?_
  refine lv_iload_n hx hb dX5_ofClause_5 rfl (lv_at hl 1 rfl) ?_
  refine lv_iadd hx hb dX5_ofClause_6 ?_
  obtain ⟨hi_1, hF⟩ := gd_some hF
  refine ka_iald hx hb hK hP 1 rfl ((5 + p0).toNatClampNeg) rfl (inb_in hi_1) dX5_ofClause_7 ?_
  refine lv_istore_n (lv' := [(3, .int (t_s ((5 + p0).toNatClampNeg))), (0, .ref A_t), (1, .int p0), (2, .int p1)]) hx hb dX5_ofClause_8 rfl hl (by decide) rfl (fun ls hl => ?_)
  refine lv_aload_n hx hb dX5_ofClause_9 rfl (lv_at hl 1 rfl) ?_
  refine va_get (D := D) (ci := 5) (v := .ref A_t_s) (C := RX5) (T := TX5) (N := 13) hx hb hts inX5 hown hK hP 0 rfl rfl 0 (by decide) (hts _ q_731) (fun _ h9 => h9) rfl dX5_ofClause_10 ?_
  refine lv_bipush (v := 25) hx hb dX5_ofClause_13 (by decide) ?_
  refine lv_iload_n hx hb dX5_ofClause_15 rfl (lv_at hl 2 rfl) ?_
  refine lv_iadd hx hb dX5_ofClause_16 ?_
  obtain ⟨hi_2, hF⟩ := gd_some hF
  refine ka_iald hx hb hK hP 1 rfl ((25 + p0).toNatClampNeg) rfl (inb_in hi_2) dX5_ofClause_17 ?_
  refine lv_istore (lv' := [(4, .int (t_s ((25 + p0).toNatClampNeg))), (3, .int (t_s ((5 + p0).toNatClampNeg))), (0, .ref A_t), (1, .int p0), (2, .int p1)]) hx hb dX5_ofClause_18 hl (by decide) rfl (fun ls hl => ?_)
  refine lv_iload_n hx hb dX5_ofClause_20 rfl (lv_at hl 4 rfl) ?_
  refine lv_if_ne (tgt := 28) hx hb dX5_ofClause_21 (by decide) (fun c_3 => ?_) (fun c_3 => ?_)
  · replace hF := ite_f c_3 hF
    refine lv_iload_n hx hb dX5_ofClause_28 rfl (lv_at hl 4 rfl) ?_
    refine lv_iconst (v := 1) hx hb dX5_ofClause_29 (by decide) ?_
    refine lv_icmp_ne (tgt := 38) hx hb dX5_ofClause_30 (by decide) (fun c_4 => ?_) (fun c_4 => ?_)
    · replace hF := ite_f c_4 hF
      refine lv_iload_n hx hb dX5_ofClause_38 rfl (lv_at hl 1 rfl) ?_
      refine lv_iload hx hb dX5_ofClause_39 (lv_at hl 0 rfl) ?_
      refine lv_iand hx hb dX5_ofClause_41 ?_
      refine lv_if_eq (tgt := 49) hx hb dX5_ofClause_42 (by decide) (fun c_5 => ?_) (fun c_5 => ?_)
      · replace hF := ite_t c_5 hF
        refine lv_iconst (v := 0) hx hb dX5_ofClause_49 (by decide) ?_
        cases hF
        exact kret_i hx hb hr hlocks hP hD hS dX5_ofClause_50
      · replace hF := ite_f c_5 hF
        refine lv_iconst (v := 1) hx hb dX5_ofClause_45 (by decide) ?_
        refine lv_goto (tgt := 50) hx hb dX5_ofClause_46 (by decide) ?_
        cases hF
        exact kret_i hx hb hr hlocks hP hD hS dX5_ofClause_50
    · replace hF := ite_t c_4 hF
      refine lv_iload hx hb dX5_ofClause_33 (lv_at hl 0 rfl) ?_
      refine lv_goto (tgt := 50) hx hb dX5_ofClause_35 (by decide) ?_
      cases hF
      exact kret_i hx hb hr hlocks hP hD hS dX5_ofClause_50
  · replace hF := ite_t c_3 hF
    refine lv_iload_n hx hb dX5_ofClause_24 rfl (lv_at hl 1 rfl) ?_
    refine lv_goto (tgt := 50) hx hb dX5_ofClause_25 (by decide) ?_
    cases hF
    exact kret_i hx hb hr hlocks hP hD hS dX5_ofClause_50

theorem q_67 : Cond.selects RX5 yX5_ofClause yX5_ofClause ∈ wAll := wAll_mem 67 (by decide +kernel) (by decide +kernel)
theorem q_906 : Cond.methodLink RX5 113 yX5_ofClause ∈ wAll := wAll_mem 906 (by decide +kernel) (by decide +kernel)
theorem q_908 : Cond.instanceMethod yX5_ofClause ∈ wAll := wAll_mem 908 (by decide +kernel) (by decide +kernel)
theorem q_909 : Cond.code yX5_ofClause cX5_ofClause 5 (some .int) ∈ wAll := wAll_mem 909 (by decide +kernel) (by decide +kernel)
theorem hd_X5_ofClause : yX5_ofClause.cls = RX5 ∧ yX5_ofClause.cls ≠ "java/lang/invoke/MethodHandle" ∧ yX5_ofClause.cls ≠ "java/lang/invoke/VarHandle" ∧ (parseMethodDescriptor yX5_ofClause.desc).map (fun d => d.parameters.length) = some 2 := by decide +kernel
abbrev w_X5_clause (cy : Nat → ClassId) (A_t : Nat) (A_t_s : Nat) (A_t_past : Nat) (A_t_begun : Nat) (A_t_text : Nat) (A_t_wins : Nat) (A_t_fits : Nat) (t_pasts : Int32) (t_thrown : Int32) (t_typed : Int32) (t_at : Int32) (t_letter : Int32) (t_one : Int32) (t_other : Int32) (t_s : Nat → Int32) : va_W := [(A_t, .inr (5, [.ref A_t_s, .ref A_t_past, .ref A_t_begun, .int t_pasts, .int t_thrown, .ref A_t_text, .int t_typed, .int t_at, .int t_letter, .int t_one, .int t_other, .ref A_t_wins, .ref A_t_fits])), (A_t_s, .inl (cy 0, 45, .inl t_s))]
def F_X5_clause (N : Nat) (p0 : Int32) (p1 : Int32) (t_s : Nat → Int32) (t_thrown : Int32) : Option (Int32 × Int32) :=
  ob1 (F_X5_isClause N p0 t_s) (fun r_1 => (if r_1 = true then ob1 (F_X5_in N p1 0 2) (fun r_4 => (if r_4 = true then ob1 (F_X5_ofClause N p0 p1 t_s) (fun r_10 => ob2 (F_X5_tells N r_10 t_thrown) (fun r_12 t_thrown_13 => some (r_12, t_thrown_13))) else ob2 (F_X5_fails N 2 t_thrown) (fun r_7 t_thrown_8 => some (r_7, t_thrown_8)))) else ob2 (F_X5_fails N 1 t_thrown) (fun r_15 t_thrown_16 => some (r_15, t_thrown_16))))
set_option maxHeartbeats 4000000 in
set_option maxRecDepth 100000 in
theorem c_X5_clause (l : Launch) (D : va_G) (cy : Nat → ClassId) (s0 tW N : Nat) (A_t : Nat) (A_t_s : Nat) (A_t_past : Nat) (A_t_begun : Nat) (A_t_text : Nat) (A_t_wins : Nat) (A_t_fits : Nat) (p0 : Int32) (p1 : Int32) (t_pasts : Int32) (t_thrown : Int32) (t_typed : Int32) (t_at : Int32) (t_letter : Int32) (t_one : Int32) (t_other : Int32) (t_s : Nat → Int32) (sz : Nat) {r9 : Int32} {t_thrown9 : Int32} (hF : F_X5_clause N p0 p1 t_s t_thrown = some (r9, t_thrown9)) : KM l D cy s0 tW yX5_clause cX5_clause 3 (some .int) 2 43 [.ref A_t, .int p0, .int p1] sz (w_X5_clause cy A_t A_t_s A_t_past A_t_begun A_t_text A_t_wins A_t_fits t_pasts t_thrown t_typed t_at t_letter t_one t_other t_s) (some (.int r9)) (w_X5_clause cy A_t A_t_s A_t_past A_t_begun A_t_text A_t_wins A_t_fits t_pasts t_thrown9 t_typed t_at t_letter t_one t_other t_s) := by
  refine KM.intro rfl (Nat.le_of_ble_eq_true rfl) ?_
  intro p e s m args below meth c A ls hx hb hr hml hown hts hlocks hE hP hD hS hA hAs hl
  have hK := hE.1
  have hl : lv_has ls 3 [(0, .ref A_t), (1, .int p0), (2, .int p1)] := hl
  unfold F_X5_clause at hF
  refine lv_aload_n hx hb dX5_clause_0 rfl (lv_at hl 0 rfl) ?_
  refine lv_iload_n hx hb dX5_clause_1 rfl (lv_at hl 1 rfl) ?_
  obtain ⟨r_1, hF_2, hF⟩ := ob1_some hF
  refine kcV (q := (RX5, TX5, 13)) (ci := 5) (q0 := 0) (As := [.int p0]) (rest := []) (wr := []) (wsN := (w_X5_clause cy A_t A_t_s A_t_past A_t_begun A_t_text A_t_wins A_t_fits t_pasts t_thrown t_typed t_at t_letter t_one t_other t_s)) ⟨hx, hb, hml, hown, hts⟩ hE hP hD hS hA hAs [0, 1] [] [0, 1] (c_X5_isClause l D cy s0 tW N A_t A_t_s A_t_past A_t_begun A_t_text A_t_wins A_t_fits p0 t_pasts t_thrown t_typed t_at t_letter t_one t_other t_s _ hF_2) (gV q_834 q_836 q_55 q_88 q_837) hd_X5_isClause ⟨Nat.le_of_ble_eq_true rfl, Nat.le_of_ble_eq_true rfl⟩ rfl rfl rfl rfl rfl rfl rfl rfl rfl hl.1 rfl (Nat.le_of_ble_eq_true rfl) dX5_clause_2 ⟨Nat.zero_le _, Nat.zero_le _⟩ (fun H locs hP hD hS => ?_)
  refine W.eq (g2 := F0 m 5 ls [.int (bI r_1)]) rfl ?_
  refine lv_if_ne (tgt := 14) hx hb dX5_clause_5 (by decide) (fun c_3 => ?_) (fun c_3 => ?_)
  · replace hF := ite_t (bI_t c_3) hF
    refine lv_iload_n hx hb dX5_clause_14 rfl (lv_at hl 2 rfl) ?_
    refine lv_iconst (v := 0) hx hb dX5_clause_15 (by decide) ?_
    refine lv_iconst (v := 2) hx hb dX5_clause_16 (by decide) ?_
    obtain ⟨r_4, hF_5, hF⟩ := ob1_some hF
    refine kcS (As := [.int p1, .int 0, .int 2]) (rest := []) (wr := [(A_t, .inr (5, [.ref A_t_s, .ref A_t_past, .ref A_t_begun, .int t_pasts, .int t_thrown, .ref A_t_text, .int t_typed, .int t_at, .int t_letter, .int t_one, .int t_other, .ref A_t_wins, .ref A_t_fits])), (A_t_s, .inl (cy 0, 45, .inl t_s))]) (wsN := (w_X5_clause cy A_t A_t_s A_t_past A_t_begun A_t_text A_t_wins A_t_fits t_pasts t_thrown t_typed t_at t_letter t_one t_other t_s)) ⟨hx, hb, hml, hown, hts⟩ hE hP hD hS hA hAs [] [0, 1] [0, 1] (c_X5_in l D cy s0 tW N p1 0 2 _ hF_5) (gS q_823 q_824 q_88 q_825) hd_X5_in.2 ⟨Nat.le_of_ble_eq_true rfl, Nat.le_of_ble_eq_true rfl⟩ rfl rfl rfl rfl rfl rfl rfl hl.1 rfl (Nat.le_of_ble_eq_true rfl) dX5_clause_17 ⟨Nat.zero_le _, Nat.zero_le _⟩ (fun H locs hP hD hS => ?_)
    refine W.eq (g2 := F0 m 20 ls [.int (bI r_4)]) rfl ?_
    refine lv_if_eq (tgt := 36) hx hb dX5_clause_20 (by decide) (fun c_6 => ?_) (fun c_6 => ?_)
    · replace hF := ite_f (bI_f c_6) hF
      refine lv_aload_n hx hb dX5_clause_36 rfl (lv_at hl 0 rfl) ?_
      refine lv_iconst (v := 2) hx hb dX5_clause_37 (by decide) ?_
      obtain ⟨r_7, t_thrown_8, hF_9, hF⟩ := ob2_some hF
      refine kcV (q := (RX5, TX5, 13)) (ci := 5) (q0 := 0) (As := [.int 2]) (rest := []) (wr := [(A_t_s, .inl (cy 0, 45, .inl t_s))]) (wsN := (w_X5_clause cy A_t A_t_s A_t_past A_t_begun A_t_text A_t_wins A_t_fits t_pasts t_thrown_8 t_typed t_at t_letter t_one t_other t_s)) ⟨hx, hb, hml, hown, hts⟩ hE hP hD hS hA hAs [0] [1] [1, 0] (c_X5_fails l D cy s0 tW N A_t A_t_s A_t_past A_t_begun A_t_text A_t_wins A_t_fits 2 t_pasts t_thrown t_typed t_at t_letter t_one t_other _ hF_9) (gV q_803 q_805 q_50 q_88 q_806) hd_X5_fails ⟨Nat.le_of_ble_eq_true rfl, Nat.le_of_ble_eq_true rfl⟩ rfl rfl rfl rfl rfl rfl rfl rfl rfl hl.1 rfl (Nat.le_of_ble_eq_true rfl) dX5_clause_38 ⟨Nat.zero_le _, Nat.zero_le _⟩ (fun H locs hP hD hS => ?_)
      refine W.eq (g2 := F0 m 41 ls [.int r_7]) rfl ?_
      cases hF
      exact kret_i hx hb hr hlocks hP hD hS dX5_clause_41
    · replace hF := ite_t (bI_t c_6) hF
      refine lv_aload_n hx hb dX5_clause_23 rfl (lv_at hl 0 rfl) ?_
      refine lv_aload_n hx hb dX5_clause_24 rfl (lv_at hl 0 rfl) ?_
      refine lv_iload_n hx hb dX5_clause_25 rfl (lv_at hl 1 rfl) ?_
      refine lv_iload_n hx hb dX5_clause_26 rfl (lv_at hl 2 rfl) ?_
      obtain ⟨r_10, hF_11, hF⟩ := ob1_some hF
      refine kcV (q := (RX5, TX5, 13)) (ci := 5) (q0 := 0) (As := [.int p0, .int p1]) (rest := [.ref A_t]) (wr := []) (wsN := (w_X5_clause cy A_t A_t_s A_t_past A_t_begun A_t_text A_t_wins A_t_fits t_pasts t_thrown t_typed t_at t_letter t_one t_other t_s)) ⟨hx, hb, hml, hown, hts⟩ hE hP hD hS hA hAs [0, 1] [] [0, 1] (c_X5_ofClause l D cy s0 tW N A_t A_t_s A_t_past A_t_begun A_t_text A_t_wins A_t_fits p0 p1 t_pasts t_thrown t_typed t_at t_letter t_one t_other t_s _ hF_11) (gV q_906 q_908 q_67 q_88 q_909) hd_X5_ofClause ⟨Nat.le_of_ble_eq_true rfl, Nat.le_of_ble_eq_true rfl⟩ rfl rfl rfl rfl rfl rfl rfl rfl rfl hl.1 rfl (Nat.le_of_ble_eq_true rfl) dX5_clause_27 ⟨Nat.zero_le _, Nat.zero_le _⟩ (fun H locs hP hD hS => ?_)
      refine W.eq (g2 := F0 m 30 ls [.int r_10, .ref A_t]) rfl ?_
      obtain ⟨r_12, t_thrown_13, hF_14, hF⟩ := ob2_some hF
      refine kcV (q := (RX5, TX5, 13)) (ci := 5) (q0 := 0) (As := [.int r_10]) (rest := []) (wr := [(A_t_s, .inl (cy 0, 45, .inl t_s))]) (wsN := (w_X5_clause cy A_t A_t_s A_t_past A_t_begun A_t_text A_t_wins A_t_fits t_pasts t_thrown_13 t_typed t_at t_letter t_one t_other t_s)) ⟨hx, hb, hml, hown, hts⟩ hE hP hD hS hA hAs [0] [1] [1, 0] (c_X5_tells l D cy s0 tW N A_t A_t_s A_t_past A_t_begun A_t_text A_t_wins A_t_fits r_10 t_pasts t_thrown t_typed t_at t_letter t_one t_other _ hF_14) (gV q_788 q_790 q_48 q_88 q_791) hd_X5_tells ⟨Nat.le_of_ble_eq_true rfl, Nat.le_of_ble_eq_true rfl⟩ rfl rfl rfl rfl rfl rfl rfl rfl rfl hl.1 rfl (Nat.le_of_ble_eq_true rfl) dX5_clause_30 ⟨Nat.zero_le _, Nat.zero_le _⟩ (fun H locs hP hD hS => ?_)
      refine W.eq (g2 := F0 m 33 ls [.int r_12]) rfl ?_
      refine lv_goto (tgt := 41) hx hb dX5_clause_33 (by decide) ?_
      cases hF
      exact kret_i hx hb hr hlocks hP hD hS dX5_clause_41
  · replace hF := ite_f (bI_f c_3) hF
    refine lv_aload_n hx hb dX5_clause_8 rfl (lv_at hl 0 rfl) ?_
    refine lv_iconst (v := 1) hx hb dX5_clause_9 (by decide) ?_
    obtain ⟨r_15, t_thrown_16, hF_17, hF⟩ := ob2_some hF
    refine kcV (q := (RX5, TX5, 13)) (ci := 5) (q0 := 0) (As := [.int 1]) (rest := []) (wr := [(A_t_s, .inl (cy 0, 45, .inl t_s))]) (wsN := (w_X5_clause cy A_t A_t_s A_t_past A_t_begun A_t_text A_t_wins A_t_fits t_pasts t_thrown_16 t_typed t_at t_letter t_one t_other t_s)) ⟨hx, hb, hml, hown, hts⟩ hE hP hD hS hA hAs [0] [1] [1, 0] (c_X5_fails l D cy s0 tW N A_t A_t_s A_t_past A_t_begun A_t_text A_t_wins A_t_fits 1 t_pasts t_thrown t_typed t_at t_letter t_one t_other _ hF_17) (gV q_803 q_805 q_50 q_88 q_806) hd_X5_fails ⟨Nat.le_of_ble_eq_true rfl, Nat.le_of_ble_eq_true rfl⟩ rfl rfl rfl rfl rfl rfl rfl rfl rfl hl.1 rfl (Nat.le_of_ble_eq_true rfl) dX5_clause_10 ⟨Nat.zero_le _, Nat.zero_le _⟩ (fun H locs hP hD hS => ?_)
    refine W.eq (g2 := F0 m 13 ls [.int r_15]) rfl ?_
    cases hF
    exact kret_i hx hb hr hlocks hP hD hS dX5_clause_13

abbrev w_X5_isTrue (cy : Nat → ClassId) (A_t : Nat) (A_t_s : Nat) (A_t_past : Nat) (A_t_begun : Nat) (A_t_text : Nat) (A_t_wins : Nat) (A_t_fits : Nat) (t_pasts : Int32) (t_thrown : Int32) (t_typed : Int32) (t_at : Int32) (t_letter : Int32) (t_one : Int32) (t_other : Int32) (t_s : Nat → Int32) : va_W := [(A_t, .inr (5, [.ref A_t_s, .ref A_t_past, .ref A_t_begun, .int t_pasts, .int t_thrown, .ref A_t_text, .int t_typed, .int t_at, .int t_letter, .int t_one, .int t_other, .ref A_t_wins, .ref A_t_fits])), (A_t_s, .inl (cy 0, 45, .inl t_s))]
def F_X5_isTrue (N : Nat) (p0 : Int32) (t_s : Nat → Int32) (t_thrown : Int32) : Option (Bool × Int32) :=
  ob1 (F_X5_isSet N p0 t_s) (fun r_1 => (if r_1 = true then ob1 (F_X5_isMade N p0 t_s) (fun r_4 => (if r_4 = true then some (true, 0) else some (false, 0))) else some (false, 1)))
set_option maxHeartbeats 4000000 in
set_option maxRecDepth 100000 in
theorem c_X5_isTrue (l : Launch) (D : va_G) (cy : Nat → ClassId) (s0 tW N : Nat) (A_t : Nat) (A_t_s : Nat) (A_t_past : Nat) (A_t_begun : Nat) (A_t_text : Nat) (A_t_wins : Nat) (A_t_fits : Nat) (p0 : Int32) (t_pasts : Int32) (t_thrown : Int32) (t_typed : Int32) (t_at : Int32) (t_letter : Int32) (t_one : Int32) (t_other : Int32) (t_s : Nat → Int32) (sz : Nat) {r9 : Bool} {t_thrown9 : Int32} (hF : F_X5_isTrue N p0 t_s t_thrown = some (r9, t_thrown9)) : KM l D cy s0 tW yX5_isTrue cX5_isTrue 2 (some .boolean) 2 43 [.ref A_t, .int p0] sz (w_X5_isTrue cy A_t A_t_s A_t_past A_t_begun A_t_text A_t_wins A_t_fits t_pasts t_thrown t_typed t_at t_letter t_one t_other t_s) (some (.int (bI r9))) (w_X5_isTrue cy A_t A_t_s A_t_past A_t_begun A_t_text A_t_wins A_t_fits t_pasts t_thrown9 t_typed t_at t_letter t_one t_other t_s) := by
  refine KM.intro rfl (Nat.le_of_ble_eq_true rfl) ?_
  intro p e s m args below meth c A ls hx hb hr hml hown hts hlocks hE hP hD hS hA hAs hl
  have hK := hE.1
  have hl : lv_has ls 2 [(0, .ref A_t), (1, .int p0)] := hl
  unfold F_X5_isTrue at hF
  refine lv_aload_n hx hb dX5_isTrue_0 rfl (lv_at hl 0 rfl) ?_
  refine lv_aload_n hx hb dX5_isTrue_1 rfl (lv_at hl 0 rfl) ?_
  refine lv_iload_n hx hb dX5_isTrue_2 rfl (lv_at hl 1 rfl) ?_
  obtain ⟨r_1, hF_2, hF⟩ := ob1_some hF
  refine kcV (q := (RX5, TX5, 13)) (ci := 5) (q0 := 0) (As := [.int p0]) (rest := [.ref A_t]) (wr := []) (wsN := (w_X5_isTrue cy A_t A_t_s A_t_past A_t_begun A_t_text A_t_wins A_t_fits t_pasts t_thrown t_typed t_at t_letter t_one t_other t_s)) ⟨hx, hb, hml, hown, hts⟩ hE hP hD hS hA hAs [0, 1] [] [0, 1] (c_X5_isSet l D cy s0 tW N A_t A_t_s A_t_past A_t_begun A_t_text A_t_wins A_t_fits p0 t_pasts t_thrown t_typed t_at t_letter t_one t_other t_s _ hF_2) (gV q_819 q_821 q_53 q_88 q_822) hd_X5_isSet ⟨Nat.le_of_ble_eq_true rfl, Nat.le_of_ble_eq_true rfl⟩ rfl rfl rfl rfl rfl rfl rfl rfl rfl hl.1 rfl (Nat.le_of_ble_eq_true rfl) dX5_isTrue_3 ⟨Nat.zero_le _, Nat.zero_le _⟩ (fun H locs hP hD hS => ?_)
  refine W.eq (g2 := F0 m 6 ls [.int (bI r_1), .ref A_t]) rfl ?_
  refine lv_if_eq (tgt := 13) hx hb dX5_isTrue_6 (by decide) (fun c_3 => ?_) (fun c_3 => ?_)
  · replace hF := ite_f (bI_f c_3) hF
    refine lv_iconst (v := 1) hx hb dX5_isTrue_13 (by decide) ?_
    refine ka_put (ci := 5) (v := .int 1) (ty := .int) (C := RX5) (T := TX5) (N := 13) (wsN := (w_X5_isTrue cy A_t A_t_s A_t_past A_t_begun A_t_text A_t_wins A_t_fits t_pasts 1 t_typed t_at t_letter t_one t_other t_s)) hx hb hts inX5 tyX5 tyX5_ok nmX5 hown hK hP hD hS 0 rfl rfl 4 (by decide) (hts _ q_735) (fun _ h9 => h9) rfl (by decide +kernel) rfl rfl (Nat.le_of_ble_eq_true rfl) rfl dX5_isTrue_14 (fun H locs hP hD hS => ?_)
    refine lv_aload_n hx hb dX5_isTrue_17 rfl (lv_at hl 0 rfl) ?_
    refine va_get (D := D) (ci := 5) (v := .int 1) (C := RX5) (T := TX5) (N := 13) hx hb hts inX5 hown hK hP 0 rfl rfl 4 (by decide) (hts _ q_735) (fun _ h9 => h9) rfl dX5_isTrue_18 ?_
    refine lv_if_ne (tgt := 36) hx hb dX5_isTrue_21 (by decide) (fun _ => ?_) (fun h0 => absurd h0 (by decide))
    refine lv_iconst (v := 0) hx hb dX5_isTrue_36 (by decide) ?_
    cases hF
    exact kret_z hx hb hr hlocks hP hD hS dX5_isTrue_37
  · replace hF := ite_t (bI_t c_3) hF
    refine lv_iconst (v := 0) hx hb dX5_isTrue_9 (by decide) ?_
    refine lv_goto (tgt := 14) hx hb dX5_isTrue_10 (by decide) ?_
    refine ka_put (ci := 5) (v := .int 0) (ty := .int) (C := RX5) (T := TX5) (N := 13) (wsN := (w_X5_isTrue cy A_t A_t_s A_t_past A_t_begun A_t_text A_t_wins A_t_fits t_pasts 0 t_typed t_at t_letter t_one t_other t_s)) hx hb hts inX5 tyX5 tyX5_ok nmX5 hown hK hP hD hS 0 rfl rfl 4 (by decide) (hts _ q_735) (fun _ h9 => h9) rfl (by decide +kernel) rfl rfl (Nat.le_of_ble_eq_true rfl) rfl dX5_isTrue_14 (fun H locs hP hD hS => ?_)
    refine lv_aload_n hx hb dX5_isTrue_17 rfl (lv_at hl 0 rfl) ?_
    refine va_get (D := D) (ci := 5) (v := .int 0) (C := RX5) (T := TX5) (N := 13) hx hb hts inX5 hown hK hP 0 rfl rfl 4 (by decide) (hts _ q_735) (fun _ h9 => h9) rfl dX5_isTrue_18 ?_
    refine lv_if_ne (tgt := 36) hx hb dX5_isTrue_21 (by decide) (fun h0 => absurd (by decide) h0) (fun _ => ?_)
    refine lv_aload_n hx hb dX5_isTrue_24 rfl (lv_at hl 0 rfl) ?_
    refine lv_iload_n hx hb dX5_isTrue_25 rfl (lv_at hl 1 rfl) ?_
    obtain ⟨r_4, hF_5, hF⟩ := ob1_some hF
    refine kcV (q := (RX5, TX5, 13)) (ci := 5) (q0 := 0) (As := [.int p0]) (rest := []) (wr := []) (wsN := (w_X5_isTrue cy A_t A_t_s A_t_past A_t_begun A_t_text A_t_wins A_t_fits t_pasts 0 t_typed t_at t_letter t_one t_other t_s)) ⟨hx, hb, hml, hown, hts⟩ hE hP hD hS hA hAs [0, 1] [] [0, 1] (c_X5_isMade l D cy s0 tW N A_t A_t_s A_t_past A_t_begun A_t_text A_t_wins A_t_fits p0 t_pasts 0 t_typed t_at t_letter t_one t_other t_s _ hF_5) (gV q_882 q_884 q_64 q_88 q_885) hd_X5_isMade ⟨Nat.le_of_ble_eq_true rfl, Nat.le_of_ble_eq_true rfl⟩ rfl rfl rfl rfl rfl rfl rfl rfl rfl hl.1 rfl (Nat.le_of_ble_eq_true rfl) dX5_isTrue_26 ⟨Nat.zero_le _, Nat.zero_le _⟩ (fun H locs hP hD hS => ?_)
    refine W.eq (g2 := F0 m 29 ls [.int (bI r_4)]) rfl ?_
    refine lv_if_eq (tgt := 36) hx hb dX5_isTrue_29 (by decide) (fun c_6 => ?_) (fun c_6 => ?_)
    · replace hF := ite_f (bI_f c_6) hF
      refine lv_iconst (v := 0) hx hb dX5_isTrue_36 (by decide) ?_
      cases hF
      exact kret_z hx hb hr hlocks hP hD hS dX5_isTrue_37
    · replace hF := ite_t (bI_t c_6) hF
      refine lv_iconst (v := 1) hx hb dX5_isTrue_32 (by decide) ?_
      refine lv_goto (tgt := 37) hx hb dX5_isTrue_33 (by decide) ?_
      cases hF
      exact kret_z hx hb hr hlocks hP hD hS dX5_isTrue_37

abbrev w_X5_number (cy : Nat → ClassId) (A_t : Nat) (A_t_s : Nat) (A_t_past : Nat) (A_t_begun : Nat) (A_t_text : Nat) (A_t_wins : Nat) (A_t_fits : Nat) (t_pasts : Int32) (t_thrown : Int32) (t_typed : Int32) (t_at : Int32) (t_letter : Int32) (t_one : Int32) (t_other : Int32) (t_s : Nat → Int32) : va_W := [(A_t, .inr (5, [.ref A_t_s, .ref A_t_past, .ref A_t_begun, .int t_pasts, .int t_thrown, .ref A_t_text, .int t_typed, .int t_at, .int t_letter, .int t_one, .int t_other, .ref A_t_wins, .ref A_t_fits])), (A_t_s, .inl (cy 0, 45, .inl t_s))]
def F_X5_number (N : Nat) (p0 : Int32) (t_s : Nat → Int32) : Option (Int32) :=
  (if p0 = (0 : Int32) then some (t_s 0) else (if p0 = (1 : Int32) then ob1 (F_X5_ones N (t_s 1)) (fun r_6 => some r_6) else (if p0 = (2 : Int32) then some (t_s 2) else (if p0 = (3 : Int32) then ob1 (F_X5_ones N (t_s 3)) (fun r_4 => some r_4) else (if p0 = (4 : Int32) then some (t_s 3) else (if p0 = (5 : Int32) then some (t_s 4) else ob1 (F_X5_plays N t_s) (fun r_2 => some r_2)))))))
set_option maxHeartbeats 4000000 in
set_option maxRecDepth 100000 in
theorem c_X5_number (l : Launch) (D : va_G) (cy : Nat → ClassId) (s0 tW N : Nat) (A_t : Nat) (A_t_s : Nat) (A_t_past : Nat) (A_t_begun : Nat) (A_t_text : Nat) (A_t_wins : Nat) (A_t_fits : Nat) (p0 : Int32) (t_pasts : Int32) (t_thrown : Int32) (t_typed : Int32) (t_at : Int32) (t_letter : Int32) (t_one : Int32) (t_other : Int32) (t_s : Nat → Int32) (sz : Nat) {r9 : Int32} (hF : F_X5_number N p0 t_s = some r9) : KM l D cy s0 tW yX5_number cX5_number 2 (some .int) 2 42 [.ref A_t, .int p0] sz (w_X5_number cy A_t A_t_s A_t_past A_t_begun A_t_text A_t_wins A_t_fits t_pasts t_thrown t_typed t_at t_letter t_one t_other t_s) (some (.int r9)) (w_X5_number cy A_t A_t_s A_t_past A_t_begun A_t_text A_t_wins A_t_fits t_pasts t_thrown t_typed t_at t_letter t_one t_other t_s) := by
  refine KM.intro rfl (Nat.le_of_ble_eq_true rfl) ?_
  intro p e s m args below meth c A ls hx hb hr hml hown hts hlocks hE hP hD hS hA hAs hl
  have hK := hE.1
  have hl : lv_has ls 2 [(0, .ref A_t), (1, .int p0)] := hl
  unfold F_X5_number at hF
  refine lv_iload_n hx hb dX5_number_0 rfl (lv_at hl 1 rfl) ?_
  by_cases c_1_0 : p0 = (0 : Int32)
  · replace hF := ite_t c_1_0 hF
    refine lv_tableIn (tgt := 40) hx hb dX5_number_1 (by rw [c_1_0]; decide) (by rw [c_1_0]; decide) (by rw [c_1_0]; rfl) (by decide) ?_
    refine lv_aload_n hx hb dX5_number_40 rfl (lv_at hl 0 rfl) ?_
    refine va_get (D := D) (ci := 5) (v := .ref A_t_s) (C := RX5) (T := TX5) (N := 13) hx hb hts inX5 hown hK hP 0 rfl rfl 0 (by decide) (hts _ q_731) (fun _ h9 => h9) rfl dX5_number_41 ?_
    refine lv_iconst (v := 0) hx hb dX5_number_44 (by decide) ?_
    refine ka_iald hx hb hK hP 1 rfl (0) rfl (inb_in (by decide)) dX5_number_45 ?_
    cases hF
    exact kret_i hx hb hr hlocks hP hD hS dX5_number_46
  · replace hF := ite_f c_1_0 hF
    by_cases c_1_1 : p0 = (1 : Int32)
    · replace hF := ite_t c_1_1 hF
      refine lv_tableIn (tgt := 47) hx hb dX5_number_1 (by rw [c_1_1]; decide) (by rw [c_1_1]; decide) (by rw [c_1_1]; rfl) (by decide) ?_
      refine lv_aload_n hx hb dX5_number_47 rfl (lv_at hl 0 rfl) ?_
      refine va_get (D := D) (ci := 5) (v := .ref A_t_s) (C := RX5) (T := TX5) (N := 13) hx hb hts inX5 hown hK hP 0 rfl rfl 0 (by decide) (hts _ q_731) (fun _ h9 => h9) rfl dX5_number_48 ?_
      refine lv_iconst (v := 1) hx hb dX5_number_51 (by decide) ?_
      refine ka_iald hx hb hK hP 1 rfl (1) rfl (inb_in (by decide)) dX5_number_52 ?_
      obtain ⟨r_6, hF_7, hF⟩ := ob1_some hF
      refine kcS (As := [.int (t_s 1)]) (rest := []) (wr := [(A_t, .inr (5, [.ref A_t_s, .ref A_t_past, .ref A_t_begun, .int t_pasts, .int t_thrown, .ref A_t_text, .int t_typed, .int t_at, .int t_letter, .int t_one, .int t_other, .ref A_t_wins, .ref A_t_fits])), (A_t_s, .inl (cy 0, 45, .inl t_s))]) (wsN := (w_X5_number cy A_t A_t_s A_t_past A_t_begun A_t_text A_t_wins A_t_fits t_pasts t_thrown t_typed t_at t_letter t_one t_other t_s)) ⟨hx, hb, hml, hown, hts⟩ hE hP hD hS hA hAs [] [0, 1] [0, 1] (c_X5_ones l D cy s0 tW N (t_s 1) _ hF_7) (gS q_800 q_801 q_88 q_802) hd_X5_ones.2 ⟨Nat.le_of_ble_eq_true rfl, Nat.le_of_ble_eq_true rfl⟩ rfl rfl rfl rfl rfl rfl rfl hl.1 rfl (Nat.le_of_ble_eq_true rfl) dX5_number_53 ⟨Nat.zero_le _, Nat.zero_le _⟩ (fun H locs hP hD hS => ?_)
      refine W.eq (g2 := F0 m 56 ls [.int r_6]) rfl ?_
      cases hF
      exact kret_i hx hb hr hlocks hP hD hS dX5_number_56
    · replace hF := ite_f c_1_1 hF
      by_cases c_1_2 : p0 = (2 : Int32)
      · replace hF := ite_t c_1_2 hF
        refine lv_tableIn (tgt := 57) hx hb dX5_number_1 (by rw [c_1_2]; decide) (by rw [c_1_2]; decide) (by rw [c_1_2]; rfl) (by decide) ?_
        refine lv_aload_n hx hb dX5_number_57 rfl (lv_at hl 0 rfl) ?_
        refine va_get (D := D) (ci := 5) (v := .ref A_t_s) (C := RX5) (T := TX5) (N := 13) hx hb hts inX5 hown hK hP 0 rfl rfl 0 (by decide) (hts _ q_731) (fun _ h9 => h9) rfl dX5_number_58 ?_
        refine lv_iconst (v := 2) hx hb dX5_number_61 (by decide) ?_
        refine ka_iald hx hb hK hP 1 rfl (2) rfl (inb_in (by decide)) dX5_number_62 ?_
        cases hF
        exact kret_i hx hb hr hlocks hP hD hS dX5_number_63
      · replace hF := ite_f c_1_2 hF
        by_cases c_1_3 : p0 = (3 : Int32)
        · replace hF := ite_t c_1_3 hF
          refine lv_tableIn (tgt := 64) hx hb dX5_number_1 (by rw [c_1_3]; decide) (by rw [c_1_3]; decide) (by rw [c_1_3]; rfl) (by decide) ?_
          refine lv_aload_n hx hb dX5_number_64 rfl (lv_at hl 0 rfl) ?_
          refine va_get (D := D) (ci := 5) (v := .ref A_t_s) (C := RX5) (T := TX5) (N := 13) hx hb hts inX5 hown hK hP 0 rfl rfl 0 (by decide) (hts _ q_731) (fun _ h9 => h9) rfl dX5_number_65 ?_
          refine lv_iconst (v := 3) hx hb dX5_number_68 (by decide) ?_
          refine ka_iald hx hb hK hP 1 rfl (3) rfl (inb_in (by decide)) dX5_number_69 ?_
          obtain ⟨r_4, hF_5, hF⟩ := ob1_some hF
          refine kcS (As := [.int (t_s 3)]) (rest := []) (wr := [(A_t, .inr (5, [.ref A_t_s, .ref A_t_past, .ref A_t_begun, .int t_pasts, .int t_thrown, .ref A_t_text, .int t_typed, .int t_at, .int t_letter, .int t_one, .int t_other, .ref A_t_wins, .ref A_t_fits])), (A_t_s, .inl (cy 0, 45, .inl t_s))]) (wsN := (w_X5_number cy A_t A_t_s A_t_past A_t_begun A_t_text A_t_wins A_t_fits t_pasts t_thrown t_typed t_at t_letter t_one t_other t_s)) ⟨hx, hb, hml, hown, hts⟩ hE hP hD hS hA hAs [] [0, 1] [0, 1] (c_X5_ones l D cy s0 tW N (t_s 3) _ hF_5) (gS q_800 q_801 q_88 q_802) hd_X5_ones.2 ⟨Nat.le_of_ble_eq_true rfl, Nat.le_of_ble_eq_true rfl⟩ rfl rfl rfl rfl rfl rfl rfl hl.1 rfl (Nat.le_of_ble_eq_true rfl) dX5_number_70 ⟨Nat.zero_le _, Nat.zero_le _⟩ (fun H locs hP hD hS => ?_)
          refine W.eq (g2 := F0 m 73 ls [.int r_4]) rfl ?_
          cases hF
          exact kret_i hx hb hr hlocks hP hD hS dX5_number_73
        · replace hF := ite_f c_1_3 hF
          by_cases c_1_4 : p0 = (4 : Int32)
          · replace hF := ite_t c_1_4 hF
            refine lv_tableIn (tgt := 74) hx hb dX5_number_1 (by rw [c_1_4]; decide) (by rw [c_1_4]; decide) (by rw [c_1_4]; rfl) (by decide) ?_
            refine lv_aload_n hx hb dX5_number_74 rfl (lv_at hl 0 rfl) ?_
            refine va_get (D := D) (ci := 5) (v := .ref A_t_s) (C := RX5) (T := TX5) (N := 13) hx hb hts inX5 hown hK hP 0 rfl rfl 0 (by decide) (hts _ q_731) (fun _ h9 => h9) rfl dX5_number_75 ?_
            refine lv_iconst (v := 3) hx hb dX5_number_78 (by decide) ?_
            refine ka_iald hx hb hK hP 1 rfl (3) rfl (inb_in (by decide)) dX5_number_79 ?_
            cases hF
            exact kret_i hx hb hr hlocks hP hD hS dX5_number_80
          · replace hF := ite_f c_1_4 hF
            by_cases c_1_5 : p0 = (5 : Int32)
            · replace hF := ite_t c_1_5 hF
              refine lv_tableIn (tgt := 81) hx hb dX5_number_1 (by rw [c_1_5]; decide) (by rw [c_1_5]; decide) (by rw [c_1_5]; rfl) (by decide) ?_
              refine lv_aload_n hx hb dX5_number_81 rfl (lv_at hl 0 rfl) ?_
              refine va_get (D := D) (ci := 5) (v := .ref A_t_s) (C := RX5) (T := TX5) (N := 13) hx hb hts inX5 hown hK hP 0 rfl rfl 0 (by decide) (hts _ q_731) (fun _ h9 => h9) rfl dX5_number_82 ?_
              refine lv_iconst (v := 4) hx hb dX5_number_85 (by decide) ?_
              refine ka_iald hx hb hK hP 1 rfl (4) rfl (inb_in (by decide)) dX5_number_86 ?_
              cases hF
              exact kret_i hx hb hr hlocks hP hD hS dX5_number_87
            · replace hF := ite_f c_1_5 hF
              have ho_1 : (p0 : Int32).toInt < 0 ∨ 5 < (p0 : Int32).toInt := by
                have g0 := sw_ne (a := 0) c_1_0 rfl
                have g1 := sw_ne (a := 1) c_1_1 rfl
                have g2 := sw_ne (a := 2) c_1_2 rfl
                have g3 := sw_ne (a := 3) c_1_3 rfl
                have g4 := sw_ne (a := 4) c_1_4 rfl
                have g5 := sw_ne (a := 5) c_1_5 rfl
                omega
              refine lv_tableOut (tgt := 88) hx hb dX5_number_1 ho_1 (by decide) ?_
              refine lv_aload_n hx hb dX5_number_88 rfl (lv_at hl 0 rfl) ?_
              obtain ⟨r_2, hF_3, hF⟩ := ob1_some hF
              refine kcV (q := (RX5, TX5, 13)) (ci := 5) (q0 := 0) (As := []) (rest := []) (wr := []) (wsN := (w_X5_number cy A_t A_t_s A_t_past A_t_begun A_t_text A_t_wins A_t_fits t_pasts t_thrown t_typed t_at t_letter t_one t_other t_s)) ⟨hx, hb, hml, hown, hts⟩ hE hP hD hS hA hAs [0, 1] [] [0, 1] (c_X5_plays l D cy s0 tW N A_t A_t_s A_t_past A_t_begun A_t_text A_t_wins A_t_fits t_pasts t_thrown t_typed t_at t_letter t_one t_other t_s _ hF_3) (gV q_850 q_852 q_58 q_88 q_853) hd_X5_plays ⟨Nat.le_of_ble_eq_true rfl, Nat.le_of_ble_eq_true rfl⟩ rfl rfl rfl rfl rfl rfl rfl rfl rfl hl.1 rfl (Nat.le_of_ble_eq_true rfl) dX5_number_89 ⟨Nat.zero_le _, Nat.zero_le _⟩ (fun H locs hP hD hS => ?_)
              refine W.eq (g2 := F0 m 92 ls [.int r_2]) rfl ?_
              cases hF
              exact kret_i hx hb hr hlocks hP hD hS dX5_number_92

theorem q_68 : Cond.selects RX5 yX5_number yX5_number ∈ wAll := wAll_mem 68 (by decide +kernel) (by decide +kernel)
theorem q_918 : Cond.methodLink RX5 116 yX5_number ∈ wAll := wAll_mem 918 (by decide +kernel) (by decide +kernel)
theorem q_920 : Cond.instanceMethod yX5_number ∈ wAll := wAll_mem 920 (by decide +kernel) (by decide +kernel)
theorem q_921 : Cond.code yX5_number cX5_number 2 (some .int) ∈ wAll := wAll_mem 921 (by decide +kernel) (by decide +kernel)
theorem hd_X5_number : yX5_number.cls = RX5 ∧ yX5_number.cls ≠ "java/lang/invoke/MethodHandle" ∧ yX5_number.cls ≠ "java/lang/invoke/VarHandle" ∧ (parseMethodDescriptor yX5_number.desc).map (fun d => d.parameters.length) = some 1 := by decide +kernel
abbrev w_X5_value (cy : Nat → ClassId) (A_t : Nat) (A_t_s : Nat) (A_t_past : Nat) (A_t_begun : Nat) (A_t_text : Nat) (A_t_wins : Nat) (A_t_fits : Nat) (t_pasts : Int32) (t_thrown : Int32) (t_typed : Int32) (t_at : Int32) (t_letter : Int32) (t_one : Int32) (t_other : Int32) (t_s : Nat → Int32) : va_W := [(A_t, .inr (5, [.ref A_t_s, .ref A_t_past, .ref A_t_begun, .int t_pasts, .int t_thrown, .ref A_t_text, .int t_typed, .int t_at, .int t_letter, .int t_one, .int t_other, .ref A_t_wins, .ref A_t_fits])), (A_t_s, .inl (cy 0, 45, .inl t_s))]
def F_X5_value (N : Nat) (p0 : Int32) (t_s : Nat → Int32) (t_thrown : Int32) : Option (Int32 × Int32) :=
  ob1 (F_X5_in N p0 0 6) (fun r_1 => (if r_1 = true then ob1 (F_X5_number N p0 t_s) (fun r_7 => ob2 (F_X5_tells N r_7 t_thrown) (fun r_9 t_thrown_10 => some (r_9, t_thrown_10))) else ob2 (F_X5_fails N 1 t_thrown) (fun r_4 t_thrown_5 => some (r_4, t_thrown_5))))
set_option maxHeartbeats 4000000 in
set_option maxRecDepth 100000 in
theorem c_X5_value (l : Launch) (D : va_G) (cy : Nat → ClassId) (s0 tW N : Nat) (A_t : Nat) (A_t_s : Nat) (A_t_past : Nat) (A_t_begun : Nat) (A_t_text : Nat) (A_t_wins : Nat) (A_t_fits : Nat) (p0 : Int32) (t_pasts : Int32) (t_thrown : Int32) (t_typed : Int32) (t_at : Int32) (t_letter : Int32) (t_one : Int32) (t_other : Int32) (t_s : Nat → Int32) (sz : Nat) {r9 : Int32} {t_thrown9 : Int32} (hF : F_X5_value N p0 t_s t_thrown = some (r9, t_thrown9)) : KM l D cy s0 tW yX5_value cX5_value 2 (some .int) 3 63 [.ref A_t, .int p0] sz (w_X5_value cy A_t A_t_s A_t_past A_t_begun A_t_text A_t_wins A_t_fits t_pasts t_thrown t_typed t_at t_letter t_one t_other t_s) (some (.int r9)) (w_X5_value cy A_t A_t_s A_t_past A_t_begun A_t_text A_t_wins A_t_fits t_pasts t_thrown9 t_typed t_at t_letter t_one t_other t_s) := by
  refine KM.intro rfl (Nat.le_of_ble_eq_true rfl) ?_
  intro p e s m args below meth c A ls hx hb hr hml hown hts hlocks hE hP hD hS hA hAs hl
  have hK := hE.1
  have hl : lv_has ls 2 [(0, .ref A_t), (1, .int p0)] := hl
  unfold F_X5_value at hF
  refine lv_iload_n hx hb dX5_value_0 rfl (lv_at hl 1 rfl) ?_
  refine lv_iconst (v := 0) hx hb dX5_value_1 (by decide) ?_
  refine lv_bipush (v := 6) hx hb dX5_value_2 (by decide) ?_
  obtain ⟨r_1, hF_2, hF⟩ := ob1_some hF
  refine kcS (As := [.int p0, .int 0, .int 6]) (rest := []) (wr := [(A_t, .inr (5, [.ref A_t_s, .ref A_t_past, .ref A_t_begun, .int t_pasts, .int t_thrown, .ref A_t_text, .int t_typed, .int t_at, .int t_letter, .int t_one, .int t_other, .ref A_t_wins, .ref A_t_fits])), (A_t_s, .inl (cy 0, 45, .inl t_s))]) (wsN := (w_X5_value cy A_t A_t_s A_t_past A_t_begun A_t_text A_t_wins A_t_fits t_pasts t_thrown t_typed t_at t_letter t_one t_other t_s)) ⟨hx, hb, hml, hown, hts⟩ hE hP hD hS hA hAs [] [0, 1] [0, 1] (c_X5_in l D cy s0 tW N p0 0 6 _ hF_2) (gS q_823 q_824 q_88 q_825) hd_X5_in.2 ⟨Nat.le_of_ble_eq_true rfl, Nat.le_of_ble_eq_true rfl⟩ rfl rfl rfl rfl rfl rfl rfl hl.1 rfl (Nat.le_of_ble_eq_true rfl) dX5_value_4 ⟨Nat.zero_le _, Nat.zero_le _⟩ (fun H locs hP hD hS => ?_)
  refine W.eq (g2 := F0 m 7 ls [.int (bI r_1)]) rfl ?_
  refine lv_if_eq (tgt := 22) hx hb dX5_value_7 (by decide) (fun c_3 => ?_) (fun c_3 => ?_)
  · replace hF := ite_f (bI_f c_3) hF
    refine lv_aload_n hx hb dX5_value_22 rfl (lv_at hl 0 rfl) ?_
    refine lv_iconst (v := 1) hx hb dX5_value_23 (by decide) ?_
    obtain ⟨r_4, t_thrown_5, hF_6, hF⟩ := ob2_some hF
    refine kcV (q := (RX5, TX5, 13)) (ci := 5) (q0 := 0) (As := [.int 1]) (rest := []) (wr := [(A_t_s, .inl (cy 0, 45, .inl t_s))]) (wsN := (w_X5_value cy A_t A_t_s A_t_past A_t_begun A_t_text A_t_wins A_t_fits t_pasts t_thrown_5 t_typed t_at t_letter t_one t_other t_s)) ⟨hx, hb, hml, hown, hts⟩ hE hP hD hS hA hAs [0] [1] [1, 0] (c_X5_fails l D cy s0 tW N A_t A_t_s A_t_past A_t_begun A_t_text A_t_wins A_t_fits 1 t_pasts t_thrown t_typed t_at t_letter t_one t_other _ hF_6) (gV q_803 q_805 q_50 q_88 q_806) hd_X5_fails ⟨Nat.le_of_ble_eq_true rfl, Nat.le_of_ble_eq_true rfl⟩ rfl rfl rfl rfl rfl rfl rfl rfl rfl hl.1 rfl (Nat.le_of_ble_eq_true rfl) dX5_value_24 ⟨Nat.zero_le _, Nat.zero_le _⟩ (fun H locs hP hD hS => ?_)
    refine W.eq (g2 := F0 m 27 ls [.int r_4]) rfl ?_
    cases hF
    exact kret_i hx hb hr hlocks hP hD hS dX5_value_27
  · replace hF := ite_t (bI_t c_3) hF
    refine lv_aload_n hx hb dX5_value_10 rfl (lv_at hl 0 rfl) ?_
    refine lv_aload_n hx hb dX5_value_11 rfl (lv_at hl 0 rfl) ?_
    refine lv_iload_n hx hb dX5_value_12 rfl (lv_at hl 1 rfl) ?_
    obtain ⟨r_7, hF_8, hF⟩ := ob1_some hF
    refine kcV (q := (RX5, TX5, 13)) (ci := 5) (q0 := 0) (As := [.int p0]) (rest := [.ref A_t]) (wr := []) (wsN := (w_X5_value cy A_t A_t_s A_t_past A_t_begun A_t_text A_t_wins A_t_fits t_pasts t_thrown t_typed t_at t_letter t_one t_other t_s)) ⟨hx, hb, hml, hown, hts⟩ hE hP hD hS hA hAs [0, 1] [] [0, 1] (c_X5_number l D cy s0 tW N A_t A_t_s A_t_past A_t_begun A_t_text A_t_wins A_t_fits p0 t_pasts t_thrown t_typed t_at t_letter t_one t_other t_s _ hF_8) (gV q_918 q_920 q_68 q_88 q_921) hd_X5_number ⟨Nat.le_of_ble_eq_true rfl, Nat.le_of_ble_eq_true rfl⟩ rfl rfl rfl rfl rfl rfl rfl rfl rfl hl.1 rfl (Nat.le_of_ble_eq_true rfl) dX5_value_13 ⟨Nat.zero_le _, Nat.zero_le _⟩ (fun H locs hP hD hS => ?_)
    refine W.eq (g2 := F0 m 16 ls [.int r_7, .ref A_t]) rfl ?_
    obtain ⟨r_9, t_thrown_10, hF_11, hF⟩ := ob2_some hF
    refine kcV (q := (RX5, TX5, 13)) (ci := 5) (q0 := 0) (As := [.int r_7]) (rest := []) (wr := [(A_t_s, .inl (cy 0, 45, .inl t_s))]) (wsN := (w_X5_value cy A_t A_t_s A_t_past A_t_begun A_t_text A_t_wins A_t_fits t_pasts t_thrown_10 t_typed t_at t_letter t_one t_other t_s)) ⟨hx, hb, hml, hown, hts⟩ hE hP hD hS hA hAs [0] [1] [1, 0] (c_X5_tells l D cy s0 tW N A_t A_t_s A_t_past A_t_begun A_t_text A_t_wins A_t_fits r_7 t_pasts t_thrown t_typed t_at t_letter t_one t_other _ hF_11) (gV q_788 q_790 q_48 q_88 q_791) hd_X5_tells ⟨Nat.le_of_ble_eq_true rfl, Nat.le_of_ble_eq_true rfl⟩ rfl rfl rfl rfl rfl rfl rfl rfl rfl hl.1 rfl (Nat.le_of_ble_eq_true rfl) dX5_value_16 ⟨Nat.zero_le _, Nat.zero_le _⟩ (fun H locs hP hD hS => ?_)
    refine W.eq (g2 := F0 m 19 ls [.int r_9]) rfl ?_
    refine lv_goto (tgt := 27) hx hb dX5_value_19 (by decide) ?_
    cases hF
    exact kret_i hx hb hr hlocks hP hD hS dX5_value_27

theorem q_70 : Cond.selects RX5 yX5_lays yX5_lays ∈ wAll := wAll_mem 70 (by decide +kernel) (by decide +kernel)
theorem q_930 : Cond.methodLink RX5 119 yX5_lays ∈ wAll := wAll_mem 930 (by decide +kernel) (by decide +kernel)
theorem q_932 : Cond.instanceMethod yX5_lays ∈ wAll := wAll_mem 932 (by decide +kernel) (by decide +kernel)
theorem q_933 : Cond.code yX5_lays cX5_lays 6 none ∈ wAll := wAll_mem 933 (by decide +kernel) (by decide +kernel)
theorem hd_X5_lays : yX5_lays.cls = RX5 ∧ yX5_lays.cls ≠ "java/lang/invoke/MethodHandle" ∧ yX5_lays.cls ≠ "java/lang/invoke/VarHandle" ∧ (parseMethodDescriptor yX5_lays.desc).map (fun d => d.parameters.length) = some 1 := by decide +kernel
abbrev w_X5_winnerOfAll (cy : Nat → ClassId) (A_t : Nat) (A_t_s : Nat) (A_t_past : Nat) (A_t_begun : Nat) (A_t_text : Nat) (A_t_wins : Nat) (A_t_fits : Nat) (t_pasts : Int32) (t_thrown : Int32) (t_typed : Int32) (t_at : Int32) (t_letter : Int32) (t_one : Int32) (t_other : Int32) (t_s : Nat → Int32) (t_wins : Nat → Bool) : va_W := [(A_t, .inr (5, [.ref A_t_s, .ref A_t_past, .ref A_t_begun, .int t_pasts, .int t_thrown, .ref A_t_text, .int t_typed, .int t_at, .int t_letter, .int t_one, .int t_other, .ref A_t_wins, .ref A_t_fits])), (A_t_s, .inl (cy 0, 45, .inl t_s)), (A_t_wins, .inl (cy 3, 1024, .inl (fun j => bI (t_wins j))))]
def F_X5_winnerOfAll (N : Nat) (t_s : Nat → Int32) (t_wins : Nat → Bool) : Option (Int32 × (Nat → Bool)) :=
  ob1 (F_X5_lays N (t_s 0) t_s t_wins) (fun t_wins_1 => (if (t_wins_1 1) = true then some (0, t_wins_1) else some (1, t_wins_1)))
set_option maxHeartbeats 4000000 in
set_option maxRecDepth 100000 in
theorem c_X5_winnerOfAll (l : Launch) (D : va_G) (cy : Nat → ClassId) (s0 tW N : Nat) (A_t : Nat) (A_t_s : Nat) (A_t_past : Nat) (A_t_begun : Nat) (A_t_text : Nat) (A_t_wins : Nat) (A_t_fits : Nat) (t_pasts : Int32) (t_thrown : Int32) (t_typed : Int32) (t_at : Int32) (t_letter : Int32) (t_one : Int32) (t_other : Int32) (t_s : Nat → Int32) (t_wins : Nat → Bool) (sz : Nat) {r9 : Int32} {t_wins9 : Nat → Bool} (hF : F_X5_winnerOfAll N t_s t_wins = some (r9, t_wins9)) : KM l D cy s0 tW yX5_winnerOfAll cX5_winnerOfAll 1 (some .int) 2 48 [.ref A_t] sz (w_X5_winnerOfAll cy A_t A_t_s A_t_past A_t_begun A_t_text A_t_wins A_t_fits t_pasts t_thrown t_typed t_at t_letter t_one t_other t_s t_wins) (some (.int r9)) (w_X5_winnerOfAll cy A_t A_t_s A_t_past A_t_begun A_t_text A_t_wins A_t_fits t_pasts t_thrown t_typed t_at t_letter t_one t_other t_s t_wins9) := by
  refine KM.intro rfl (Nat.le_of_ble_eq_true rfl) ?_
  intro p e s m args below meth c A ls hx hb hr hml hown hts hlocks hE hP hD hS hA hAs hl
  have hK := hE.1
  have hl : lv_has ls 1 [(0, .ref A_t)] := hl
  unfold F_X5_winnerOfAll at hF
  refine lv_aload_n hx hb dX5_winnerOfAll_0 rfl (lv_at hl 0 rfl) ?_
  refine lv_aload_n hx hb dX5_winnerOfAll_1 rfl (lv_at hl 0 rfl) ?_
  refine va_get (D := D) (ci := 5) (v := .ref A_t_s) (C := RX5) (T := TX5) (N := 13) hx hb hts inX5 hown hK hP 0 rfl rfl 0 (by decide) (hts _ q_731) (fun _ h9 => h9) rfl dX5_winnerOfAll_2 ?_
  refine lv_iconst (v := 0) hx hb dX5_winnerOfAll_5 (by decide) ?_
  refine ka_iald hx hb hK hP 1 rfl (0) rfl (inb_in (by decide)) dX5_winnerOfAll_6 ?_
  obtain ⟨t_wins_1, hF_2, hF⟩ := ob1_some hF
  refine kcV (q := (RX5, TX5, 13)) (ci := 5) (q0 := 0) (As := [.int (t_s 0)]) (rest := []) (wr := []) (wsN := (w_X5_winnerOfAll cy A_t A_t_s A_t_past A_t_begun A_t_text A_t_wins A_t_fits t_pasts t_thrown t_typed t_at t_letter t_one t_other t_s t_wins_1)) ⟨hx, hb, hml, hown, hts⟩ hE hP hD hS hA hAs [0, 1, 2] [] [0, 1, 2] (c_X5_lays l D cy s0 tW N A_t A_t_s A_t_past A_t_begun A_t_text A_t_wins A_t_fits (t_s 0) t_pasts t_thrown t_typed t_at t_letter t_one t_other t_s t_wins _ hF_2) (gV q_930 q_932 q_70 q_88 q_933) hd_X5_lays ⟨Nat.le_of_ble_eq_true rfl, Nat.le_of_ble_eq_true rfl⟩ rfl rfl rfl rfl rfl rfl rfl rfl rfl hl.1 rfl (Nat.le_of_ble_eq_true rfl) dX5_winnerOfAll_7 ⟨Nat.zero_le _, Nat.zero_le _⟩ (fun H locs hP hD hS => ?_)
  refine W.eq (g2 := F0 m 10 ls []) rfl ?_
  refine lv_aload_n hx hb dX5_winnerOfAll_10 rfl (lv_at hl 0 rfl) ?_
  refine va_get (D := D) (ci := 5) (v := .ref A_t_wins) (C := RX5) (T := TX5) (N := 13) hx hb hts inX5 hown hK hP 0 rfl rfl 11 (by decide) (hts _ q_742) (fun _ h9 => h9) rfl dX5_winnerOfAll_11 ?_
  refine lv_iconst (v := 1) hx hb dX5_winnerOfAll_14 (by decide) ?_
  refine ka_zald hx hb hK hP 2 rfl (1) rfl (inb_in (by decide)) dX5_winnerOfAll_15 ?_
  refine lv_if_eq (tgt := 23) hx hb dX5_winnerOfAll_16 (by decide) (fun c_3 => ?_) (fun c_3 => ?_)
  · replace hF := ite_f (bI_f c_3) hF
    refine lv_iconst (v := 1) hx hb dX5_winnerOfAll_23 (by decide) ?_
    cases hF
    exact kret_i hx hb hr hlocks hP hD hS dX5_winnerOfAll_24
  · replace hF := ite_t (bI_t c_3) hF
    refine lv_iconst (v := 0) hx hb dX5_winnerOfAll_19 (by decide) ?_
    refine lv_goto (tgt := 24) hx hb dX5_winnerOfAll_20 (by decide) ?_
    cases hF
    exact kret_i hx hb hr hlocks hP hD hS dX5_winnerOfAll_24

theorem q_69 : Cond.selects RX5 yX5_winnerOfAll yX5_winnerOfAll ∈ wAll := wAll_mem 69 (by decide +kernel) (by decide +kernel)
theorem q_926 : Cond.methodLink RX5 123 yX5_winnerOfAll ∈ wAll := wAll_mem 926 (by decide +kernel) (by decide +kernel)
theorem q_928 : Cond.instanceMethod yX5_winnerOfAll ∈ wAll := wAll_mem 928 (by decide +kernel) (by decide +kernel)
theorem q_929 : Cond.code yX5_winnerOfAll cX5_winnerOfAll 1 (some .int) ∈ wAll := wAll_mem 929 (by decide +kernel) (by decide +kernel)
theorem hd_X5_winnerOfAll : yX5_winnerOfAll.cls = RX5 ∧ yX5_winnerOfAll.cls ≠ "java/lang/invoke/MethodHandle" ∧ yX5_winnerOfAll.cls ≠ "java/lang/invoke/VarHandle" ∧ (parseMethodDescriptor yX5_winnerOfAll.desc).map (fun d => d.parameters.length) = some 0 := by decide +kernel
abbrev w_X5_winner (cy : Nat → ClassId) (A_t : Nat) (A_t_s : Nat) (A_t_past : Nat) (A_t_begun : Nat) (A_t_text : Nat) (A_t_wins : Nat) (A_t_fits : Nat) (t_pasts : Int32) (t_thrown : Int32) (t_typed : Int32) (t_at : Int32) (t_letter : Int32) (t_one : Int32) (t_other : Int32) (t_s : Nat → Int32) (t_wins : Nat → Bool) : va_W := [(A_t, .inr (5, [.ref A_t_s, .ref A_t_past, .ref A_t_begun, .int t_pasts, .int t_thrown, .ref A_t_text, .int t_typed, .int t_at, .int t_letter, .int t_one, .int t_other, .ref A_t_wins, .ref A_t_fits])), (A_t_s, .inl (cy 0, 45, .inl t_s)), (A_t_wins, .inl (cy 3, 1024, .inl (fun j => bI (t_wins j))))]
def F_X5_winner (N : Nat) (t_s : Nat → Int32) (t_thrown : Int32) (t_wins : Nat → Bool) : Option (Int32 × Int32 × (Nat → Bool)) :=
  ob2 (F_X5_winnerOfAll N t_s t_wins) (fun r_1 t_wins_2 => ob2 (F_X5_tells N r_1 t_thrown) (fun r_4 t_thrown_5 => some (r_4, t_thrown_5, t_wins_2)))
set_option maxHeartbeats 4000000 in
set_option maxRecDepth 100000 in
theorem c_X5_winner (l : Launch) (D : va_G) (cy : Nat → ClassId) (s0 tW N : Nat) (A_t : Nat) (A_t_s : Nat) (A_t_past : Nat) (A_t_begun : Nat) (A_t_text : Nat) (A_t_wins : Nat) (A_t_fits : Nat) (t_pasts : Int32) (t_thrown : Int32) (t_typed : Int32) (t_at : Int32) (t_letter : Int32) (t_one : Int32) (t_other : Int32) (t_s : Nat → Int32) (t_wins : Nat → Bool) (sz : Nat) {r9 : Int32} {t_thrown9 : Int32} {t_wins9 : Nat → Bool} (hF : F_X5_winner N t_s t_thrown t_wins = some (r9, t_thrown9, t_wins9)) : KM l D cy s0 tW yX5_winner cX5_winner 1 (some .int) 3 68 [.ref A_t] sz (w_X5_winner cy A_t A_t_s A_t_past A_t_begun A_t_text A_t_wins A_t_fits t_pasts t_thrown t_typed t_at t_letter t_one t_other t_s t_wins) (some (.int r9)) (w_X5_winner cy A_t A_t_s A_t_past A_t_begun A_t_text A_t_wins A_t_fits t_pasts t_thrown9 t_typed t_at t_letter t_one t_other t_s t_wins9) := by
  refine KM.intro rfl (Nat.le_of_ble_eq_true rfl) ?_
  intro p e s m args below meth c A ls hx hb hr hml hown hts hlocks hE hP hD hS hA hAs hl
  have hK := hE.1
  have hl : lv_has ls 1 [(0, .ref A_t)] := hl
  unfold F_X5_winner at hF
  refine lv_aload_n hx hb dX5_winner_0 rfl (lv_at hl 0 rfl) ?_
  refine lv_aload_n hx hb dX5_winner_1 rfl (lv_at hl 0 rfl) ?_
  obtain ⟨r_1, t_wins_2, hF_3, hF⟩ := ob2_some hF
  refine kcV (q := (RX5, TX5, 13)) (ci := 5) (q0 := 0) (As := []) (rest := [.ref A_t]) (wr := []) (wsN := (w_X5_winner cy A_t A_t_s A_t_past A_t_begun A_t_text A_t_wins A_t_fits t_pasts t_thrown t_typed t_at t_letter t_one t_other t_s t_wins_2)) ⟨hx, hb, hml, hown, hts⟩ hE hP hD hS hA hAs [0, 1, 2] [] [0, 1, 2] (c_X5_winnerOfAll l D cy s0 tW N A_t A_t_s A_t_past A_t_begun A_t_text A_t_wins A_t_fits t_pasts t_thrown t_typed t_at t_letter t_one t_other t_s t_wins _ hF_3) (gV q_926 q_928 q_69 q_88 q_929) hd_X5_winnerOfAll ⟨Nat.le_of_ble_eq_true rfl, Nat.le_of_ble_eq_true rfl⟩ rfl rfl rfl rfl rfl rfl rfl rfl rfl hl.1 rfl (Nat.le_of_ble_eq_true rfl) dX5_winner_2 ⟨Nat.zero_le _, Nat.zero_le _⟩ (fun H locs hP hD hS => ?_)
  refine W.eq (g2 := F0 m 5 ls [.int r_1, .ref A_t]) rfl ?_
  obtain ⟨r_4, t_thrown_5, hF_6, hF⟩ := ob2_some hF
  refine kcV (q := (RX5, TX5, 13)) (ci := 5) (q0 := 0) (As := [.int r_1]) (rest := []) (wr := [(A_t_s, .inl (cy 0, 45, .inl t_s)), (A_t_wins, .inl (cy 3, 1024, .inl (fun j => bI (t_wins_2 j))))]) (wsN := (w_X5_winner cy A_t A_t_s A_t_past A_t_begun A_t_text A_t_wins A_t_fits t_pasts t_thrown_5 t_typed t_at t_letter t_one t_other t_s t_wins_2)) ⟨hx, hb, hml, hown, hts⟩ hE hP hD hS hA hAs [0] [1, 2] [2, 0, 1] (c_X5_tells l D cy s0 tW N A_t A_t_s A_t_past A_t_begun A_t_text A_t_wins A_t_fits r_1 t_pasts t_thrown t_typed t_at t_letter t_one t_other _ hF_6) (gV q_788 q_790 q_48 q_88 q_791) hd_X5_tells ⟨Nat.le_of_ble_eq_true rfl, Nat.le_of_ble_eq_true rfl⟩ rfl rfl rfl rfl rfl rfl rfl rfl rfl hl.1 rfl (Nat.le_of_ble_eq_true rfl) dX5_winner_5 ⟨Nat.zero_le _, Nat.zero_le _⟩ (fun H locs hP hD hS => ?_)
  refine W.eq (g2 := F0 m 8 ls [.int r_4]) rfl ?_
  cases hF
  exact kret_i hx hb hr hlocks hP hD hS dX5_winner_8

abbrev w_X5_whyNotAt (cy : Nat → ClassId) (A_t : Nat) (A_t_s : Nat) (A_t_past : Nat) (A_t_begun : Nat) (A_t_text : Nat) (A_t_wins : Nat) (A_t_fits : Nat) (t_pasts : Int32) (t_thrown : Int32) (t_typed : Int32) (t_at : Int32) (t_letter : Int32) (t_one : Int32) (t_other : Int32) (t_s : Nat → Int32) : va_W := [(A_t, .inr (5, [.ref A_t_s, .ref A_t_past, .ref A_t_begun, .int t_pasts, .int t_thrown, .ref A_t_text, .int t_typed, .int t_at, .int t_letter, .int t_one, .int t_other, .ref A_t_wins, .ref A_t_fits])), (A_t_s, .inl (cy 0, 45, .inl t_s))]
def F_X5_whyNotAt (N : Nat) (p0 : Int32) (p1 : Int32) (t_s : Nat → Int32) : Option (Int32) :=
  ob1 (F_X5_isVariable N p0 t_s) (fun r_1 => (if r_1 = true then ob1 (F_X5_in N p1 0 (((1 : Int32) <<< (p0 &&& 31)) - 1)) (fun r_4 => (if r_4 = true then some 0 else some 2)) else some 1))
set_option maxHeartbeats 4000000 in
set_option maxRecDepth 100000 in
theorem c_X5_whyNotAt (l : Launch) (D : va_G) (cy : Nat → ClassId) (s0 tW N : Nat) (A_t : Nat) (A_t_s : Nat) (A_t_past : Nat) (A_t_begun : Nat) (A_t_text : Nat) (A_t_wins : Nat) (A_t_fits : Nat) (p0 : Int32) (p1 : Int32) (t_pasts : Int32) (t_thrown : Int32) (t_typed : Int32) (t_at : Int32) (t_letter : Int32) (t_one : Int32) (t_other : Int32) (t_s : Nat → Int32) (sz : Nat) {r9 : Int32} (hF : F_X5_whyNotAt N p0 p1 t_s = some r9) : KM l D cy s0 tW yX5_whyNotAt cX5_whyNotAt 3 (some .int) 2 43 [.ref A_t, .int p0, .int p1] sz (w_X5_whyNotAt cy A_t A_t_s A_t_past A_t_begun A_t_text A_t_wins A_t_fits t_pasts t_thrown t_typed t_at t_letter t_one t_other t_s) (some (.int r9)) (w_X5_whyNotAt cy A_t A_t_s A_t_past A_t_begun A_t_text A_t_wins A_t_fits t_pasts t_thrown t_typed t_at t_letter t_one t_other t_s) := by
  refine KM.intro rfl (Nat.le_of_ble_eq_true rfl) ?_
  intro p e s m args below meth c A ls hx hb hr hml hown hts hlocks hE hP hD hS hA hAs hl
  have hK := hE.1
  have hl : lv_has ls 3 [(0, .ref A_t), (1, .int p0), (2, .int p1)] := hl
  unfold F_X5_whyNotAt at hF
  refine lv_aload_n hx hb dX5_whyNotAt_0 rfl (lv_at hl 0 rfl) ?_
  refine lv_iload_n hx hb dX5_whyNotAt_1 rfl (lv_at hl 1 rfl) ?_
  obtain ⟨r_1, hF_2, hF⟩ := ob1_some hF
  refine kcV (q := (RX5, TX5, 13)) (ci := 5) (q0 := 0) (As := [.int p0]) (rest := []) (wr := []) (wsN := (w_X5_whyNotAt cy A_t A_t_s A_t_past A_t_begun A_t_text A_t_wins A_t_fits t_pasts t_thrown t_typed t_at t_letter t_one t_other t_s)) ⟨hx, hb, hml, hown, hts⟩ hE hP hD hS hA hAs [0, 1] [] [0, 1] (c_X5_isVariable l D cy s0 tW N A_t A_t_s A_t_past A_t_begun A_t_text A_t_wins A_t_fits p0 t_pasts t_thrown t_typed t_at t_letter t_one t_other t_s _ hF_2) (gV q_898 q_900 q_66 q_88 q_901) hd_X5_isVariable ⟨Nat.le_of_ble_eq_true rfl, Nat.le_of_ble_eq_true rfl⟩ rfl rfl rfl rfl rfl rfl rfl rfl rfl hl.1 rfl (Nat.le_of_ble_eq_true rfl) dX5_whyNotAt_2 ⟨Nat.zero_le _, Nat.zero_le _⟩ (fun H locs hP hD hS => ?_)
  refine W.eq (g2 := F0 m 5 ls [.int (bI r_1)]) rfl ?_
  refine lv_if_ne (tgt := 12) hx hb dX5_whyNotAt_5 (by decide) (fun c_3 => ?_) (fun c_3 => ?_)
  · replace hF := ite_t (bI_t c_3) hF
    refine lv_iload_n hx hb dX5_whyNotAt_12 rfl (lv_at hl 2 rfl) ?_
    refine lv_iconst (v := 0) hx hb dX5_whyNotAt_13 (by decide) ?_
    refine lv_iconst (v := 1) hx hb dX5_whyNotAt_14 (by decide) ?_
    refine lv_iload_n hx hb dX5_whyNotAt_15 rfl (lv_at hl 1 rfl) ?_
    refine lv_ishl hx hb dX5_whyNotAt_16 ?_
    refine lv_iconst (v := 1) hx hb dX5_whyNotAt_17 (by decide) ?_
    refine lv_isub hx hb dX5_whyNotAt_18 ?_
    obtain ⟨r_4, hF_5, hF⟩ := ob1_some hF
    refine kcS (As := [.int p1, .int 0, .int (((1 : Int32) <<< (p0 &&& 31)) - 1)]) (rest := []) (wr := [(A_t, .inr (5, [.ref A_t_s, .ref A_t_past, .ref A_t_begun, .int t_pasts, .int t_thrown, .ref A_t_text, .int t_typed, .int t_at, .int t_letter, .int t_one, .int t_other, .ref A_t_wins, .ref A_t_fits])), (A_t_s, .inl (cy 0, 45, .inl t_s))]) (wsN := (w_X5_whyNotAt cy A_t A_t_s A_t_past A_t_begun A_t_text A_t_wins A_t_fits t_pasts t_thrown t_typed t_at t_letter t_one t_other t_s)) ⟨hx, hb, hml, hown, hts⟩ hE hP hD hS hA hAs [] [0, 1] [0, 1] (c_X5_in l D cy s0 tW N p1 0 (((1 : Int32) <<< (p0 &&& 31)) - 1) _ hF_5) (gS q_823 q_824 q_88 q_825) hd_X5_in.2 ⟨Nat.le_of_ble_eq_true rfl, Nat.le_of_ble_eq_true rfl⟩ rfl rfl rfl rfl rfl rfl rfl hl.1 rfl (Nat.le_of_ble_eq_true rfl) dX5_whyNotAt_19 ⟨Nat.zero_le _, Nat.zero_le _⟩ (fun H locs hP hD hS => ?_)
    refine W.eq (g2 := F0 m 22 ls [.int (bI r_4)]) rfl ?_
    refine lv_if_eq (tgt := 29) hx hb dX5_whyNotAt_22 (by decide) (fun c_6 => ?_) (fun c_6 => ?_)
    · replace hF := ite_f (bI_f c_6) hF
      refine lv_iconst (v := 2) hx hb dX5_whyNotAt_29 (by decide) ?_
      cases hF
      exact kret_i hx hb hr hlocks hP hD hS dX5_whyNotAt_30
    · replace hF := ite_t (bI_t c_6) hF
      refine lv_iconst (v := 0) hx hb dX5_whyNotAt_25 (by decide) ?_
      refine lv_goto (tgt := 30) hx hb dX5_whyNotAt_26 (by decide) ?_
      cases hF
      exact kret_i hx hb hr hlocks hP hD hS dX5_whyNotAt_30
  · replace hF := ite_f (bI_f c_3) hF
    refine lv_iconst (v := 1) hx hb dX5_whyNotAt_8 (by decide) ?_
    refine lv_goto (tgt := 30) hx hb dX5_whyNotAt_9 (by decide) ?_
    cases hF
    exact kret_i hx hb hr hlocks hP hD hS dX5_whyNotAt_30

theorem q_71 : Cond.selects RX5 yX5_whyNotAt yX5_whyNotAt ∈ wAll := wAll_mem 71 (by decide +kernel) (by decide +kernel)
theorem q_938 : Cond.methodLink RX5 126 yX5_whyNotAt ∈ wAll := wAll_mem 938 (by decide +kernel) (by decide +kernel)
theorem q_940 : Cond.instanceMethod yX5_whyNotAt ∈ wAll := wAll_mem 940 (by decide +kernel) (by decide +kernel)
theorem q_941 : Cond.code yX5_whyNotAt cX5_whyNotAt 3 (some .int) ∈ wAll := wAll_mem 941 (by decide +kernel) (by decide +kernel)
theorem hd_X5_whyNotAt : yX5_whyNotAt.cls = RX5 ∧ yX5_whyNotAt.cls ≠ "java/lang/invoke/MethodHandle" ∧ yX5_whyNotAt.cls ≠ "java/lang/invoke/VarHandle" ∧ (parseMethodDescriptor yX5_whyNotAt.desc).map (fun d => d.parameters.length) = some 2 := by decide +kernel
abbrev w_X5_winnerAt (cy : Nat → ClassId) (A_t : Nat) (A_t_s : Nat) (A_t_past : Nat) (A_t_begun : Nat) (A_t_text : Nat) (A_t_wins : Nat) (A_t_fits : Nat) (t_pasts : Int32) (t_thrown : Int32) (t_typed : Int32) (t_at : Int32) (t_letter : Int32) (t_one : Int32) (t_other : Int32) (t_s : Nat → Int32) (t_wins : Nat → Bool) : va_W := [(A_t, .inr (5, [.ref A_t_s, .ref A_t_past, .ref A_t_begun, .int t_pasts, .int t_thrown, .ref A_t_text, .int t_typed, .int t_at, .int t_letter, .int t_one, .int t_other, .ref A_t_wins, .ref A_t_fits])), (A_t_s, .inl (cy 0, 45, .inl t_s)), (A_t_wins, .inl (cy 3, 1024, .inl (fun j => bI (t_wins j))))]
def F_X5_winnerAt (N : Nat) (p0 : Int32) (p1 : Int32) (t_s : Nat → Int32) (t_thrown : Int32) (t_wins : Nat → Bool) : Option (Int32 × Int32 × (Nat → Bool)) :=
  ob1 (F_X5_whyNotAt N p0 p1 t_s) (fun r_1 => (if r_1 ≤ (0 : Int32) then ob1 (F_X5_lays N (t_s 0) t_s t_wins) (fun t_wins_4 => gd (inb (((1 : Int32) <<< (p0 &&& 31)) + p1) 1024) ((if (t_wins_4 ((((1 : Int32) <<< (p0 &&& 31)) + p1).toNatClampNeg)) = true then ob2 (F_X5_tells N 0 t_thrown) (fun r_11 t_thrown_12 => some (r_11, t_thrown_12, t_wins_4)) else ob2 (F_X5_tells N 1 t_thrown) (fun r_8 t_thrown_9 => some (r_8, t_thrown_9, t_wins_4))))) else ob2 (F_X5_fails N r_1 t_thrown) (fun r_14 t_thrown_15 => some (r_14, t_thrown_15, t_wins))))
set_option maxHeartbeats 4000000 in
set_option maxRecDepth 100000 in
theorem c_X5_winnerAt (l : Launch) (D : va_G) (cy : Nat → ClassId) (s0 tW N : Nat) (A_t : Nat) (A_t_s : Nat) (A_t_past : Nat) (A_t_begun : Nat) (A_t_text : Nat) (A_t_wins : Nat) (A_t_fits : Nat) (p0 : Int32) (p1 : Int32) (t_pasts : Int32) (t_thrown : Int32) (t_typed : Int32) (t_at : Int32) (t_letter : Int32) (t_one : Int32) (t_other : Int32) (t_s : Nat → Int32) (t_wins : Nat → Bool) (sz : Nat) {r9 : Int32} {t_thrown9 : Int32} {t_wins9 : Nat → Bool} (hF : F_X5_winnerAt N p0 p1 t_s t_thrown t_wins = some (r9, t_thrown9, t_wins9)) : KM l D cy s0 tW yX5_winnerAt cX5_winnerAt 4 (some .int) 3 65 [.ref A_t, .int p0, .int p1] sz (w_X5_winnerAt cy A_t A_t_s A_t_past A_t_begun A_t_text A_t_wins A_t_fits t_pasts t_thrown t_typed t_at t_letter t_one t_other t_s t_wins) (some (.int r9)) (w_X5_winnerAt cy A_t A_t_s A_t_past A_t_begun A_t_text A_t_wins A_t_fits t_pasts t_thrown9 t_typed t_at t_letter t_one t_other t_s t_wins9) := by
  refine KM.intro rfl (Nat.le_of_ble_eq_true rfl) ?_
  intro p e s m args below meth c A ls hx hb hr hml hown hts hlocks hE hP hD hS hA hAs hl
  have hK := hE.1
  have hl : lv_has ls 4 [(0, .ref A_t), (1, .int p0), (2, .int p1)] := hl
  unfold F_X5_winnerAt at hF
  refine lv_aload_n hx hb dX5_winnerAt_0 rfl (lv_at hl 0 rfl) ?_
  refine lv_iload_n hx hb dX5_winnerAt_1 rfl (lv_at hl 1 rfl) ?_
  refine lv_iload_n hx hb dX5_winnerAt_2 rfl (lv_at hl 2 rfl) ?_
  obtain ⟨r_1, hF_2, hF⟩ := ob1_some hF
  refine kcV (q := (RX5, TX5, 13)) (ci := 5) (q0 := 0) (As := [.int p0, .int p1]) (rest := []) (wr := [(A_t_wins, .inl (cy 3, 1024, .inl (fun j => bI (t_wins j))))]) (wsN := (w_X5_winnerAt cy A_t A_t_s A_t_past A_t_begun A_t_text A_t_wins A_t_fits t_pasts t_thrown t_typed t_at t_letter t_one t_other t_s t_wins)) ⟨hx, hb, hml, hown, hts⟩ hE hP hD hS hA hAs [0, 1] [2] [1, 2, 0] (c_X5_whyNotAt l D cy s0 tW N A_t A_t_s A_t_past A_t_begun A_t_text A_t_wins A_t_fits p0 p1 t_pasts t_thrown t_typed t_at t_letter t_one t_other t_s _ hF_2) (gV q_938 q_940 q_71 q_88 q_941) hd_X5_whyNotAt ⟨Nat.le_of_ble_eq_true rfl, Nat.le_of_ble_eq_true rfl⟩ rfl rfl rfl rfl rfl rfl rfl rfl rfl hl.1 rfl (Nat.le_of_ble_eq_true rfl) dX5_winnerAt_3 ⟨Nat.zero_le _, Nat.zero_le _⟩ (fun H locs hP hD hS => ?_)
  refine W.eq (g2 := F0 m 6 ls [.int r_1]) rfl ?_
  refine lv_istore_n (lv' := [(3, .int r_1), (0, .ref A_t), (1, .int p0), (2, .int p1)]) hx hb dX5_winnerAt_6 rfl hl (by decide) rfl (fun ls hl => ?_)
  refine lv_iload_n hx hb dX5_winnerAt_7 rfl (lv_at hl 0 rfl) ?_
  refine lv_if_le (tgt := 17) hx hb dX5_winnerAt_8 (by decide) (fun c_3 => ?_) (fun c_3 => ?_)
  · replace hF := ite_t c_3 hF
    refine lv_aload_n hx hb dX5_winnerAt_17 rfl (lv_at hl 1 rfl) ?_
    refine lv_aload_n hx hb dX5_winnerAt_18 rfl (lv_at hl 1 rfl) ?_
    refine va_get (D := D) (ci := 5) (v := .ref A_t_s) (C := RX5) (T := TX5) (N := 13) hx hb hts inX5 hown hK hP 0 rfl rfl 0 (by decide) (hts _ q_731) (fun _ h9 => h9) rfl dX5_winnerAt_19 ?_
    refine lv_iconst (v := 0) hx hb dX5_winnerAt_22 (by decide) ?_
    refine ka_iald hx hb hK hP 1 rfl (0) rfl (inb_in (by decide)) dX5_winnerAt_23 ?_
    obtain ⟨t_wins_4, hF_5, hF⟩ := ob1_some hF
    refine kcV (q := (RX5, TX5, 13)) (ci := 5) (q0 := 0) (As := [.int (t_s 0)]) (rest := []) (wr := []) (wsN := (w_X5_winnerAt cy A_t A_t_s A_t_past A_t_begun A_t_text A_t_wins A_t_fits t_pasts t_thrown t_typed t_at t_letter t_one t_other t_s t_wins_4)) ⟨hx, hb, hml, hown, hts⟩ hE hP hD hS hA hAs [0, 1, 2] [] [0, 1, 2] (c_X5_lays l D cy s0 tW N A_t A_t_s A_t_past A_t_begun A_t_text A_t_wins A_t_fits (t_s 0) t_pasts t_thrown t_typed t_at t_letter t_one t_other t_s t_wins _ hF_5) (gV q_930 q_932 q_70 q_88 q_933) hd_X5_lays ⟨Nat.le_of_ble_eq_true rfl, Nat.le_of_ble_eq_true rfl⟩ rfl rfl rfl rfl rfl rfl rfl rfl rfl hl.1 rfl (Nat.le_of_ble_eq_true rfl) dX5_winnerAt_24 ⟨Nat.zero_le _, Nat.zero_le _⟩ (fun H locs hP hD hS => ?_)
    refine W.eq (g2 := F0 m 27 ls []) rfl ?_
    refine lv_aload_n hx hb dX5_winnerAt_27 rfl (lv_at hl 1 rfl) ?_
    refine lv_aload_n hx hb dX5_winnerAt_28 rfl (lv_at hl 1 rfl) ?_
    refine va_get (D := D) (ci := 5) (v := .ref A_t_wins) (C := RX5) (T := TX5) (N := 13) hx hb hts inX5 hown hK hP 0 rfl rfl 11 (by decide) (hts _ q_742) (fun _ h9 => h9) rfl dX5_winnerAt_29 ?_
    refine lv_iconst (v := 1) hx hb dX5_winnerAt_32 (by decide) ?_
    refine lv_iload_n hx hb dX5_winnerAt_33 rfl (lv_at hl 2 rfl) ?_
    refine lv_ishl hx hb dX5_winnerAt_34 ?_
    refine lv_iload_n hx hb dX5_winnerAt_35 rfl (lv_at hl 3 rfl) ?_
    refine lv_iadd hx hb dX5_winnerAt_36 ?_
    obtain ⟨hi_6, hF⟩ := gd_some hF
    refine ka_zald hx hb hK hP 2 rfl ((((1 : Int32) <<< (p0 &&& 31)) + p1).toNatClampNeg) rfl (inb_in hi_6) dX5_winnerAt_37 ?_
    refine lv_if_eq (tgt := 45) hx hb dX5_winnerAt_38 (by decide) (fun c_7 => ?_) (fun c_7 => ?_)
    · replace hF := ite_f (bI_f c_7) hF
      refine lv_iconst (v := 1) hx hb dX5_winnerAt_45 (by decide) ?_
      obtain ⟨r_8, t_thrown_9, hF_10, hF⟩ := ob2_some hF
      refine kcV (q := (RX5, TX5, 13)) (ci := 5) (q0 := 0) (As := [.int 1]) (rest := []) (wr := [(A_t_s, .inl (cy 0, 45, .inl t_s)), (A_t_wins, .inl (cy 3, 1024, .inl (fun j => bI (t_wins_4 j))))]) (wsN := (w_X5_winnerAt cy A_t A_t_s A_t_past A_t_begun A_t_text A_t_wins A_t_fits t_pasts t_thrown_9 t_typed t_at t_letter t_one t_other t_s t_wins_4)) ⟨hx, hb, hml, hown, hts⟩ hE hP hD hS hA hAs [0] [1, 2] [2, 0, 1] (c_X5_tells l D cy s0 tW N A_t A_t_s A_t_past A_t_begun A_t_text A_t_wins A_t_fits 1 t_pasts t_thrown t_typed t_at t_letter t_one t_other _ hF_10) (gV q_788 q_790 q_48 q_88 q_791) hd_X5_tells ⟨Nat.le_of_ble_eq_true rfl, Nat.le_of_ble_eq_true rfl⟩ rfl rfl rfl rfl rfl rfl rfl rfl rfl hl.1 rfl (Nat.le_of_ble_eq_true rfl) dX5_winnerAt_46 ⟨Nat.zero_le _, Nat.zero_le _⟩ (fun H locs hP hD hS => ?_)
      refine W.eq (g2 := F0 m 49 ls [.int r_8]) rfl ?_
      cases hF
      exact kret_i hx hb hr hlocks hP hD hS dX5_winnerAt_49
    · replace hF := ite_t (bI_t c_7) hF
      refine lv_iconst (v := 0) hx hb dX5_winnerAt_41 (by decide) ?_
      refine lv_goto (tgt := 46) hx hb dX5_winnerAt_42 (by decide) ?_
      obtain ⟨r_11, t_thrown_12, hF_13, hF⟩ := ob2_some hF
      refine kcV (q := (RX5, TX5, 13)) (ci := 5) (q0 := 0) (As := [.int 0]) (rest := []) (wr := [(A_t_s, .inl (cy 0, 45, .inl t_s)), (A_t_wins, .inl (cy 3, 1024, .inl (fun j => bI (t_wins_4 j))))]) (wsN := (w_X5_winnerAt cy A_t A_t_s A_t_past A_t_begun A_t_text A_t_wins A_t_fits t_pasts t_thrown_12 t_typed t_at t_letter t_one t_other t_s t_wins_4)) ⟨hx, hb, hml, hown, hts⟩ hE hP hD hS hA hAs [0] [1, 2] [2, 0, 1] (c_X5_tells l D cy s0 tW N A_t A_t_s A_t_past A_t_begun A_t_text A_t_wins A_t_fits 0 t_pasts t_thrown t_typed t_at t_letter t_one t_other _ hF_13) (gV q_788 q_790 q_48 q_88 q_791) hd_X5_tells ⟨Nat.le_of_ble_eq_true rfl, Nat.le_of_ble_eq_true rfl⟩ rfl rfl rfl rfl rfl rfl rfl rfl rfl hl.1 rfl (Nat.le_of_ble_eq_true rfl) dX5_winnerAt_46 ⟨Nat.zero_le _, Nat.zero_le _⟩ (fun H locs hP hD hS => ?_)
      refine W.eq (g2 := F0 m 49 ls [.int r_11]) rfl ?_
      cases hF
      exact kret_i hx hb hr hlocks hP hD hS dX5_winnerAt_49
  · replace hF := ite_f c_3 hF
    refine lv_aload_n hx hb dX5_winnerAt_11 rfl (lv_at hl 1 rfl) ?_
    refine lv_iload_n hx hb dX5_winnerAt_12 rfl (lv_at hl 0 rfl) ?_
    obtain ⟨r_14, t_thrown_15, hF_16, hF⟩ := ob2_some hF
    refine kcV (q := (RX5, TX5, 13)) (ci := 5) (q0 := 0) (As := [.int r_1]) (rest := []) (wr := [(A_t_s, .inl (cy 0, 45, .inl t_s)), (A_t_wins, .inl (cy 3, 1024, .inl (fun j => bI (t_wins j))))]) (wsN := (w_X5_winnerAt cy A_t A_t_s A_t_past A_t_begun A_t_text A_t_wins A_t_fits t_pasts t_thrown_15 t_typed t_at t_letter t_one t_other t_s t_wins)) ⟨hx, hb, hml, hown, hts⟩ hE hP hD hS hA hAs [0] [1, 2] [2, 0, 1] (c_X5_fails l D cy s0 tW N A_t A_t_s A_t_past A_t_begun A_t_text A_t_wins A_t_fits r_1 t_pasts t_thrown t_typed t_at t_letter t_one t_other _ hF_16) (gV q_803 q_805 q_50 q_88 q_806) hd_X5_fails ⟨Nat.le_of_ble_eq_true rfl, Nat.le_of_ble_eq_true rfl⟩ rfl rfl rfl rfl rfl rfl rfl rfl rfl hl.1 rfl (Nat.le_of_ble_eq_true rfl) dX5_winnerAt_13 ⟨Nat.zero_le _, Nat.zero_le _⟩ (fun H locs hP hD hS => ?_)
    refine W.eq (g2 := F0 m 16 ls [.int r_14]) rfl ?_
    cases hF
    exact kret_i hx hb hr hlocks hP hD hS dX5_winnerAt_16

abbrev w_X5_move (cy : Nat → ClassId) (A_t : Nat) (A_t_s : Nat) (A_t_past : Nat) (A_t_begun : Nat) (A_t_text : Nat) (A_t_wins : Nat) (A_t_fits : Nat) (t_pasts : Int32) (t_thrown : Int32) (t_typed : Int32) (t_at : Int32) (t_letter : Int32) (t_one : Int32) (t_other : Int32) (t_s : Nat → Int32) (t_wins : Nat → Bool) : va_W := [(A_t, .inr (5, [.ref A_t_s, .ref A_t_past, .ref A_t_begun, .int t_pasts, .int t_thrown, .ref A_t_text, .int t_typed, .int t_at, .int t_letter, .int t_one, .int t_other, .ref A_t_wins, .ref A_t_fits])), (A_t_s, .inl (cy 0, 45, .inl t_s)), (A_t_wins, .inl (cy 3, 1024, .inl (fun j => bI (t_wins j))))]
def L_X5_move_33 (N : Nat) (t_s : Nat → Int32) (p0 : Int32) (p1 : Int32) (t_wins_4 : Nat → Bool) (kont : Int32 → Option (Int32 × Int32 × (Nat → Bool))) : Nat → Int32 → Int32 → Option (Int32 × Int32 × (Nat → Bool))
  | 0, _, _ => none
  | n + 1, v4_6, v5_7 => (if v5_7 < (0 : Int32) then kont v4_6 else gd (inb ((((2 : Int32) <<< (p0 &&& 31)) + p1) + (v5_7 <<< (p0 &&& 31))) 1024) (ob1 (F_X5_isBreakersOwn N p0 t_s) (fun r_11 => (if (bI (t_wins_4 (((((2 : Int32) <<< (p0 &&& 31)) + p1) + (v5_7 <<< (p0 &&& 31))).toNatClampNeg))) = (bI r_11) then L_X5_move_33 N t_s p0 p1 t_wins_4 kont n v4_6 (v5_7 + (-1)) else L_X5_move_33 N t_s p0 p1 t_wins_4 kont n v5_7 (v5_7 + (-1))))))
def F_X5_move (N : Nat) (p0 : Int32) (p1 : Int32) (t_s : Nat → Int32) (t_thrown : Int32) (t_wins : Nat → Bool) : Option (Int32 × Int32 × (Nat → Bool)) :=
  ob1 (F_X5_whyNotAt N p0 p1 t_s) (fun r_1 => (if r_1 ≤ (0 : Int32) then ob1 (F_X5_lays N (t_s 0) t_s t_wins) (fun t_wins_4 => (L_X5_move_33 N t_s p0 p1 t_wins_4 (fun u4_8 => ob2 (F_X5_tells N u4_8 t_thrown) (fun r_14 t_thrown_15 => some (r_14, t_thrown_15, t_wins_4))) N (-1) 1)) else ob2 (F_X5_fails N r_1 t_thrown) (fun r_17 t_thrown_18 => some (r_17, t_thrown_18, t_wins))))
set_option maxHeartbeats 4000000 in
set_option maxRecDepth 100000 in
theorem c_X5_move (l : Launch) (D : va_G) (cy : Nat → ClassId) (s0 tW N : Nat) (A_t : Nat) (A_t_s : Nat) (A_t_past : Nat) (A_t_begun : Nat) (A_t_text : Nat) (A_t_wins : Nat) (A_t_fits : Nat) (p0 : Int32) (p1 : Int32) (t_pasts : Int32) (t_thrown : Int32) (t_typed : Int32) (t_at : Int32) (t_letter : Int32) (t_one : Int32) (t_other : Int32) (t_s : Nat → Int32) (t_wins : Nat → Bool) (sz : Nat) {r9 : Int32} {t_thrown9 : Int32} {t_wins9 : Nat → Bool} (hF : F_X5_move N p0 p1 t_s t_thrown t_wins = some (r9, t_thrown9, t_wins9)) : KM l D cy s0 tW yX5_move cX5_move 7 (some .int) 3 65 [.ref A_t, .int p0, .int p1] sz (w_X5_move cy A_t A_t_s A_t_past A_t_begun A_t_text A_t_wins A_t_fits t_pasts t_thrown t_typed t_at t_letter t_one t_other t_s t_wins) (some (.int r9)) (w_X5_move cy A_t A_t_s A_t_past A_t_begun A_t_text A_t_wins A_t_fits t_pasts t_thrown9 t_typed t_at t_letter t_one t_other t_s t_wins9) := by
  refine KM.intro rfl (Nat.le_of_ble_eq_true rfl) ?_
  intro p e s m args below meth c A ls hx hb hr hml hown hts hlocks hE hP hD hS hA hAs hl
  have hK := hE.1
  have hl : lv_has ls 7 [(0, .ref A_t), (1, .int p0), (2, .int p1)] := hl
  unfold F_X5_move at hF
  refine lv_aload_n hx hb dX5_move_0 rfl (lv_at hl 0 rfl) ?_
  refine lv_iload_n hx hb dX5_move_1 rfl (lv_at hl 1 rfl) ?_
  refine lv_iload_n hx hb dX5_move_2 rfl (lv_at hl 2 rfl) ?_
  obtain ⟨r_1, hF_2, hF⟩ := ob1_some hF
  refine kcV (q := (RX5, TX5, 13)) (ci := 5) (q0 := 0) (As := [.int p0, .int p1]) (rest := []) (wr := [(A_t_wins, .inl (cy 3, 1024, .inl (fun j => bI (t_wins j))))]) (wsN := (w_X5_move cy A_t A_t_s A_t_past A_t_begun A_t_text A_t_wins A_t_fits t_pasts t_thrown t_typed t_at t_letter t_one t_other t_s t_wins)) ⟨hx, hb, hml, hown, hts⟩ hE hP hD hS hA hAs [0, 1] [2] [1, 2, 0] (c_X5_whyNotAt l D cy s0 tW N A_t A_t_s A_t_past A_t_begun A_t_text A_t_wins A_t_fits p0 p1 t_pasts t_thrown t_typed t_at t_letter t_one t_other t_s _ hF_2) (gV q_938 q_940 q_71 q_88 q_941) hd_X5_whyNotAt ⟨Nat.le_of_ble_eq_true rfl, Nat.le_of_ble_eq_true rfl⟩ rfl rfl rfl rfl rfl rfl rfl rfl rfl hl.1 rfl (Nat.le_of_ble_eq_true rfl) dX5_move_3 ⟨Nat.zero_le _, Nat.zero_le _⟩ (fun H locs hP hD hS => ?_)
  refine W.eq (g2 := F0 m 6 ls [.int r_1]) rfl ?_
  refine lv_istore_n (lv' := [(3, .int r_1), (0, .ref A_t), (1, .int p0), (2, .int p1)]) hx hb dX5_move_6 rfl hl (by decide) rfl (fun ls hl => ?_)
  refine lv_iload_n hx hb dX5_move_7 rfl (lv_at hl 0 rfl) ?_
  refine lv_if_le (tgt := 17) hx hb dX5_move_8 (by decide) (fun c_3 => ?_) (fun c_3 => ?_)
  · replace hF := ite_t c_3 hF
    refine lv_aload_n hx hb dX5_move_17 rfl (lv_at hl 1 rfl) ?_
    refine lv_aload_n hx hb dX5_move_18 rfl (lv_at hl 1 rfl) ?_
    refine va_get (D := D) (ci := 5) (v := .ref A_t_s) (C := RX5) (T := TX5) (N := 13) hx hb hts inX5 hown hK hP 0 rfl rfl 0 (by decide) (hts _ q_731) (fun _ h9 => h9) rfl dX5_move_19 ?_
    refine lv_iconst (v := 0) hx hb dX5_move_22 (by decide) ?_
    refine ka_iald hx hb hK hP 1 rfl (0) rfl (inb_in (by decide)) dX5_move_23 ?_
    obtain ⟨t_wins_4, hF_5, hF⟩ := ob1_some hF
    refine kcV (q := (RX5, TX5, 13)) (ci := 5) (q0 := 0) (As := [.int (t_s 0)]) (rest := []) (wr := []) (wsN := (w_X5_move cy A_t A_t_s A_t_past A_t_begun A_t_text A_t_wins A_t_fits t_pasts t_thrown t_typed t_at t_letter t_one t_other t_s t_wins_4)) ⟨hx, hb, hml, hown, hts⟩ hE hP hD hS hA hAs [0, 1, 2] [] [0, 1, 2] (c_X5_lays l D cy s0 tW N A_t A_t_s A_t_past A_t_begun A_t_text A_t_wins A_t_fits (t_s 0) t_pasts t_thrown t_typed t_at t_letter t_one t_other t_s t_wins _ hF_5) (gV q_930 q_932 q_70 q_88 q_933) hd_X5_lays ⟨Nat.le_of_ble_eq_true rfl, Nat.le_of_ble_eq_true rfl⟩ rfl rfl rfl rfl rfl rfl rfl rfl rfl hl.1 rfl (Nat.le_of_ble_eq_true rfl) dX5_move_24 ⟨Nat.zero_le _, Nat.zero_le _⟩ (fun H locs hP hD hS => ?_)
    refine W.eq (g2 := F0 m 27 ls []) rfl ?_
    refine lv_iconst (v := (-1)) hx hb dX5_move_27 (by decide) ?_
    refine lv_istore (lv' := [(4, .int (-1)), (3, .int r_1), (0, .ref A_t), (1, .int p0), (2, .int p1)]) hx hb dX5_move_28 hl (by decide) rfl (fun ls hl => ?_)
    refine lv_iconst (v := 1) hx hb dX5_move_30 (by decide) ?_
    refine lv_istore (lv' := [(5, .int 1), (4, .int (-1)), (3, .int r_1), (0, .ref A_t), (1, .int p0), (2, .int p1)]) hx hb dX5_move_31 hl (by decide) rfl (fun ls hl => ?_)
    have hloop_33 : ∀ (kont : Int32 → Option (Int32 × Int32 × (Nat → Bool))), (∀ (u4_8 : Int32) (H : Heap) (locs : List Loc) (ls : Array Slot), kont u4_8 = some (r9, t_thrown9, t_wins9) → va_P D vwCl (w_X5_move cy A_t A_t_s A_t_past A_t_begun A_t_text A_t_wins A_t_fits t_pasts t_thrown t_typed t_at t_letter t_one t_other t_s t_wins_4) H → va_D A (w_X5_move cy A_t A_t_s A_t_past A_t_begun A_t_text A_t_wins A_t_fits t_pasts t_thrown t_typed t_at t_letter t_one t_other t_s t_wins_4) → va_S A s.heap H locs → lv_has ls 7 [(0, .ref A_t), (4, .int u4_8)] → W p l e (rmK 3 65) s m args below meth c H locs 0 0 (MQ below (kQ (some (.int r9)) D A (w_X5_move cy A_t A_t_s A_t_past A_t_begun A_t_text A_t_wins A_t_fits t_pasts t_thrown9 t_typed t_at t_letter t_one t_other t_s t_wins9)) args s 0 0 A) (F0 m 80 ls [])) → ∀ (n : Nat) (v4_6 : Int32) (v5_7 : Int32) (H : Heap) (locs : List Loc) (ls : Array Slot), L_X5_move_33 N t_s p0 p1 t_wins_4 kont n v4_6 v5_7 = some (r9, t_thrown9, t_wins9) → va_P D vwCl (w_X5_move cy A_t A_t_s A_t_past A_t_begun A_t_text A_t_wins A_t_fits t_pasts t_thrown t_typed t_at t_letter t_one t_other t_s t_wins_4) H → va_D A (w_X5_move cy A_t A_t_s A_t_past A_t_begun A_t_text A_t_wins A_t_fits t_pasts t_thrown t_typed t_at t_letter t_one t_other t_s t_wins_4) → va_S A s.heap H locs → lv_has ls 7 [(0, .ref A_t), (1, .int p0), (2, .int p1), (4, .int v4_6), (5, .int v5_7)] → W p l e (rmK 3 65) s m args below meth c H locs 0 0 (MQ below (kQ (some (.int r9)) D A (w_X5_move cy A_t A_t_s A_t_past A_t_begun A_t_text A_t_wins A_t_fits t_pasts t_thrown9 t_typed t_at t_letter t_one t_other t_s t_wins9)) args s 0 0 A) (F0 m 33 ls []) := by
      intro kont hexit_33 n
      induction n with
      | zero =>
        intro v4_6 v5_7 H locs ls hF
        rw [L_X5_move_33] at hF
        cases hF
      | succ n ih =>
        intro v4_6 v5_7 H locs ls hF hP hD hS hl
        rw [L_X5_move_33] at hF
        refine lv_iload hx hb dX5_move_33 (lv_at hl 4 rfl) ?_
        refine lv_if_lt (tgt := 80) hx hb dX5_move_35 (by decide) (fun c_9 => ?_) (fun c_9 => ?_)
        · replace hF := ite_t c_9 hF
          exact hexit_33 v4_6 H locs ls hF hP hD hS (lv_sub hl [0, 3] rfl)
        · replace hF := ite_f c_9 hF
          refine lv_aload_n hx hb dX5_move_38 rfl (lv_at hl 0 rfl) ?_
          refine va_get (D := D) (ci := 5) (v := .ref A_t_wins) (C := RX5) (T := TX5) (N := 13) hx hb hts inX5 hown hK hP 0 rfl rfl 11 (by decide) (hts _ q_742) (fun _ h9 => h9) rfl dX5_move_39 ?_
          refine lv_iconst (v := 2) hx hb dX5_move_42 (by decide) ?_
          refine lv_iload_n hx hb dX5_move_43 rfl (lv_at hl 1 rfl) ?_
          refine lv_ishl hx hb dX5_move_44 ?_
          refine lv_iload_n hx hb dX5_move_45 rfl (lv_at hl 2 rfl) ?_
          refine lv_iadd hx hb dX5_move_46 ?_
          refine lv_iload hx hb dX5_move_47 (lv_at hl 4 rfl) ?_
          refine lv_iload_n hx hb dX5_move_49 rfl (lv_at hl 1 rfl) ?_
          refine lv_ishl hx hb dX5_move_50 ?_
          refine lv_iadd hx hb dX5_move_51 ?_
          obtain ⟨hi_10, hF⟩ := gd_some hF
          refine ka_zald hx hb hK hP 2 rfl (((((2 : Int32) <<< (p0 &&& 31)) + p1) + (v5_7 <<< (p0 &&& 31))).toNatClampNeg) rfl (inb_in hi_10) dX5_move_52 ?_
          refine lv_istore (lv' := [(6, .int (bI (t_wins_4 (((((2 : Int32) <<< (p0 &&& 31)) + p1) + (v5_7 <<< (p0 &&& 31))).toNatClampNeg)))), (0, .ref A_t), (1, .int p0), (2, .int p1), (4, .int v4_6), (5, .int v5_7)]) hx hb dX5_move_53 hl (by decide) rfl (fun ls hl => ?_)
          refine lv_iload hx hb dX5_move_55 (lv_at hl 0 rfl) ?_
          refine lv_aload_n hx hb dX5_move_57 rfl (lv_at hl 1 rfl) ?_
          refine lv_iload_n hx hb dX5_move_58 rfl (lv_at hl 2 rfl) ?_
          obtain ⟨r_11, hF_12, hF⟩ := ob1_some hF
          refine kcV (q := (RX5, TX5, 13)) (ci := 5) (q0 := 0) (As := [.int p0]) (rest := [.int (bI (t_wins_4 (((((2 : Int32) <<< (p0 &&& 31)) + p1) + (v5_7 <<< (p0 &&& 31))).toNatClampNeg)))]) (wr := [(A_t_wins, .inl (cy 3, 1024, .inl (fun j => bI (t_wins_4 j))))]) (wsN := (w_X5_move cy A_t A_t_s A_t_past A_t_begun A_t_text A_t_wins A_t_fits t_pasts t_thrown t_typed t_at t_letter t_one t_other t_s t_wins_4)) ⟨hx, hb, hml, hown, hts⟩ hE hP hD hS hA hAs [0, 1] [2] [1, 2, 0] (c_X5_isBreakersOwn l D cy s0 tW N A_t A_t_s A_t_past A_t_begun A_t_text A_t_wins A_t_fits p0 t_pasts t_thrown t_typed t_at t_letter t_one t_other t_s _ hF_12) (gV q_874 q_876 q_62 q_88 q_877) hd_X5_isBreakersOwn ⟨Nat.le_of_ble_eq_true rfl, Nat.le_of_ble_eq_true rfl⟩ rfl rfl rfl rfl rfl rfl rfl rfl rfl hl.1 rfl (Nat.le_of_ble_eq_true rfl) dX5_move_59 ⟨Nat.zero_le _, Nat.zero_le _⟩ (fun H locs hP hD hS => ?_)
          refine W.eq (g2 := F0 m 62 ls [.int (bI r_11), .int (bI (t_wins_4 (((((2 : Int32) <<< (p0 &&& 31)) + p1) + (v5_7 <<< (p0 &&& 31))).toNatClampNeg)))]) rfl ?_
          refine lv_icmp_eq (tgt := 70) hx hb dX5_move_62 (by decide) (fun c_13 => ?_) (fun c_13 => ?_)
          · replace hF := ite_t c_13 hF
            refine lv_iload hx hb dX5_move_70 (lv_at hl 4 rfl) ?_
            refine lv_istore (lv' := [(4, .int v4_6), (6, .int (bI (t_wins_4 (((((2 : Int32) <<< (p0 &&& 31)) + p1) + (v5_7 <<< (p0 &&& 31))).toNatClampNeg)))), (0, .ref A_t), (1, .int p0), (2, .int p1), (5, .int v5_7)]) hx hb dX5_move_72 hl (by decide) rfl (fun ls hl => ?_)
            refine lv_iinc (v := (v5_7 + (-1))) (lv' := [(5, .int (v5_7 + (-1))), (4, .int v4_6), (6, .int (bI (t_wins_4 (((((2 : Int32) <<< (p0 &&& 31)) + p1) + (v5_7 <<< (p0 &&& 31))).toNatClampNeg)))), (0, .ref A_t), (1, .int p0), (2, .int p1)]) hx hb dX5_move_74 hl (k := 5) rfl (by first | rfl | decide) (by decide) rfl (fun ls hl => ?_)
            refine lv_goto (tgt := 33) hx hb dX5_move_77 (by decide) ?_
            exact ih v4_6 (v5_7 + (-1)) H locs ls hF hP hD hS (lv_sub hl [3, 4, 5, 1, 0] rfl)
          · replace hF := ite_f c_13 hF
            refine lv_iload hx hb dX5_move_65 (lv_at hl 5 rfl) ?_
            refine lv_goto (tgt := 72) hx hb dX5_move_67 (by decide) ?_
            refine lv_istore (lv' := [(4, .int v5_7), (6, .int (bI (t_wins_4 (((((2 : Int32) <<< (p0 &&& 31)) + p1) + (v5_7 <<< (p0 &&& 31))).toNatClampNeg)))), (0, .ref A_t), (1, .int p0), (2, .int p1), (5, .int v5_7)]) hx hb dX5_move_72 hl (by decide) rfl (fun ls hl => ?_)
            refine lv_iinc (v := (v5_7 + (-1))) (lv' := [(5, .int (v5_7 + (-1))), (4, .int v5_7), (6, .int (bI (t_wins_4 (((((2 : Int32) <<< (p0 &&& 31)) + p1) + (v5_7 <<< (p0 &&& 31))).toNatClampNeg)))), (0, .ref A_t), (1, .int p0), (2, .int p1)]) hx hb dX5_move_74 hl (k := 5) rfl (by first | rfl | decide) (by decide) rfl (fun ls hl => ?_)
            refine lv_goto (tgt := 33) hx hb dX5_move_77 (by decide) ?_
            exact ih v5_7 (v5_7 + (-1)) H locs ls hF hP hD hS (lv_sub hl [3, 4, 5, 1, 0] rfl)
    refine hloop_33 _ (fun u4_8 H locs ls hF hP hD hS hl => ?_) N (-1) 1 _ _ ls hF hP hD hS (lv_sub hl [3, 4, 5, 1, 0] rfl)
    refine lv_aload_n hx hb dX5_move_80 rfl (lv_at hl 0 rfl) ?_
    refine lv_iload hx hb dX5_move_81 (lv_at hl 1 rfl) ?_
    obtain ⟨r_14, t_thrown_15, hF_16, hF⟩ := ob2_some hF
    refine kcV (q := (RX5, TX5, 13)) (ci := 5) (q0 := 0) (As := [.int u4_8]) (rest := []) (wr := [(A_t_s, .inl (cy 0, 45, .inl t_s)), (A_t_wins, .inl (cy 3, 1024, .inl (fun j => bI (t_wins_4 j))))]) (wsN := (w_X5_move cy A_t A_t_s A_t_past A_t_begun A_t_text A_t_wins A_t_fits t_pasts t_thrown_15 t_typed t_at t_letter t_one t_other t_s t_wins_4)) ⟨hx, hb, hml, hown, hts⟩ hE hP hD hS hA hAs [0] [1, 2] [2, 0, 1] (c_X5_tells l D cy s0 tW N A_t A_t_s A_t_past A_t_begun A_t_text A_t_wins A_t_fits u4_8 t_pasts t_thrown t_typed t_at t_letter t_one t_other _ hF_16) (gV q_788 q_790 q_48 q_88 q_791) hd_X5_tells ⟨Nat.le_of_ble_eq_true rfl, Nat.le_of_ble_eq_true rfl⟩ rfl rfl rfl rfl rfl rfl rfl rfl rfl hl.1 rfl (Nat.le_of_ble_eq_true rfl) dX5_move_83 ⟨Nat.zero_le _, Nat.zero_le _⟩ (fun H locs hP hD hS => ?_)
    refine W.eq (g2 := F0 m 86 ls [.int r_14]) rfl ?_
    cases hF
    exact kret_i hx hb hr hlocks hP hD hS dX5_move_86
  · replace hF := ite_f c_3 hF
    refine lv_aload_n hx hb dX5_move_11 rfl (lv_at hl 1 rfl) ?_
    refine lv_iload_n hx hb dX5_move_12 rfl (lv_at hl 0 rfl) ?_
    obtain ⟨r_17, t_thrown_18, hF_19, hF⟩ := ob2_some hF
    refine kcV (q := (RX5, TX5, 13)) (ci := 5) (q0 := 0) (As := [.int r_1]) (rest := []) (wr := [(A_t_s, .inl (cy 0, 45, .inl t_s)), (A_t_wins, .inl (cy 3, 1024, .inl (fun j => bI (t_wins j))))]) (wsN := (w_X5_move cy A_t A_t_s A_t_past A_t_begun A_t_text A_t_wins A_t_fits t_pasts t_thrown_18 t_typed t_at t_letter t_one t_other t_s t_wins)) ⟨hx, hb, hml, hown, hts⟩ hE hP hD hS hA hAs [0] [1, 2] [2, 0, 1] (c_X5_fails l D cy s0 tW N A_t A_t_s A_t_past A_t_begun A_t_text A_t_wins A_t_fits r_1 t_pasts t_thrown t_typed t_at t_letter t_one t_other _ hF_19) (gV q_803 q_805 q_50 q_88 q_806) hd_X5_fails ⟨Nat.le_of_ble_eq_true rfl, Nat.le_of_ble_eq_true rfl⟩ rfl rfl rfl rfl rfl rfl rfl rfl rfl hl.1 rfl (Nat.le_of_ble_eq_true rfl) dX5_move_13 ⟨Nat.zero_le _, Nat.zero_le _⟩ (fun H locs hP hD hS => ?_)
    refine W.eq (g2 := F0 m 16 ls [.int r_17]) rfl ?_
    cases hF
    exact kret_i hx hb hr hlocks hP hD hS dX5_move_16

abbrev w_X5_waysOf (cy : Nat → ClassId) (A_t : Nat) (A_t_s : Nat) (A_t_past : Nat) (A_t_begun : Nat) (A_t_text : Nat) (A_t_wins : Nat) (A_t_fits : Nat) (t_pasts : Int32) (t_thrown : Int32) (t_typed : Int32) (t_at : Int32) (t_letter : Int32) (t_one : Int32) (t_other : Int32) (t_s : Nat → Int32) : va_W := [(A_t, .inr (5, [.ref A_t_s, .ref A_t_past, .ref A_t_begun, .int t_pasts, .int t_thrown, .ref A_t_text, .int t_typed, .int t_at, .int t_letter, .int t_one, .int t_other, .ref A_t_wins, .ref A_t_fits])), (A_t_s, .inl (cy 0, 45, .inl t_s))]
def L_X5_waysOf_4 (N : Nat) (t_s : Nat → Int32) (p0 : Int32) (kont : Int32 → Option (Int32)) : Nat → Int32 → Int32 → Option (Int32)
  | 0, _, _ => none
  | n + 1, v2_1, v3_2 => (if ((1 : Int32) <<< ((t_s 0) &&& 31)) ≤ v3_2 then kont v2_1 else ob1 (F_X5_isAs N p0 (t_s 0) v3_2 t_s) (fun r_5 => (if r_5 = true then ob1 (F_X5_isMade N v3_2 t_s) (fun r_8 => (if r_8 = true then L_X5_waysOf_4 N t_s p0 kont n (v2_1 + 1) (v3_2 + 1) else L_X5_waysOf_4 N t_s p0 kont n (v2_1 + 0) (v3_2 + 1))) else L_X5_waysOf_4 N t_s p0 kont n (v2_1 + 0) (v3_2 + 1))))
def F_X5_waysOf (N : Nat) (p0 : Int32) (t_s : Nat → Int32) : Option (Int32) :=
  (L_X5_waysOf_4 N t_s p0 (fun u2_3 => some u2_3) N 0 0)
set_option maxHeartbeats 4000000 in
set_option maxRecDepth 100000 in
theorem c_X5_waysOf (l : Launch) (D : va_G) (cy : Nat → ClassId) (s0 tW N : Nat) (A_t : Nat) (A_t_s : Nat) (A_t_past : Nat) (A_t_begun : Nat) (A_t_text : Nat) (A_t_wins : Nat) (A_t_fits : Nat) (p0 : Int32) (t_pasts : Int32) (t_thrown : Int32) (t_typed : Int32) (t_at : Int32) (t_letter : Int32) (t_one : Int32) (t_other : Int32) (t_s : Nat → Int32) (sz : Nat) {r9 : Int32} (hF : F_X5_waysOf N p0 t_s = some r9) : KM l D cy s0 tW yX5_waysOf cX5_waysOf 4 (some .int) 2 47 [.ref A_t, .int p0] sz (w_X5_waysOf cy A_t A_t_s A_t_past A_t_begun A_t_text A_t_wins A_t_fits t_pasts t_thrown t_typed t_at t_letter t_one t_other t_s) (some (.int r9)) (w_X5_waysOf cy A_t A_t_s A_t_past A_t_begun A_t_text A_t_wins A_t_fits t_pasts t_thrown t_typed t_at t_letter t_one t_other t_s) := by
  refine KM.intro rfl (Nat.le_of_ble_eq_true rfl) ?_
  intro p e s m args below meth c A ls hx hb hr hml hown hts hlocks hE hP hD hS hA hAs hl
  have hK := hE.1
  have hl : lv_has ls 4 [(0, .ref A_t), (1, .int p0)] := hl
  unfold F_X5_waysOf at hF
  refine lv_iconst (v := 0) hx hb dX5_waysOf_0 (by decide) ?_
  refine lv_istore_n (lv' := [(2, .int 0), (0, .ref A_t), (1, .int p0)]) hx hb dX5_waysOf_1 rfl hl (by decide) rfl (fun ls hl => ?_)
  refine lv_iconst (v := 0) hx hb dX5_waysOf_2 (by decide) ?_
  refine lv_istore_n (lv' := [(3, .int 0), (2, .int 0), (0, .ref A_t), (1, .int p0)]) hx hb dX5_waysOf_3 rfl hl (by decide) rfl (fun ls hl => ?_)
  have hloop_4 : ∀ (kont : Int32 → Option (Int32)), (∀ (u2_3 : Int32) (H : Heap) (locs : List Loc) (ls : Array Slot), kont u2_3 = some r9 → va_P D vwCl (w_X5_waysOf cy A_t A_t_s A_t_past A_t_begun A_t_text A_t_wins A_t_fits t_pasts t_thrown t_typed t_at t_letter t_one t_other t_s) H → va_D A (w_X5_waysOf cy A_t A_t_s A_t_past A_t_begun A_t_text A_t_wins A_t_fits t_pasts t_thrown t_typed t_at t_letter t_one t_other t_s) → va_S A s.heap H locs → lv_has ls 4 [(2, .int u2_3)] → W p l e (rmK 2 47) s m args below meth c H locs 0 0 (MQ below (kQ (some (.int r9)) D A (w_X5_waysOf cy A_t A_t_s A_t_past A_t_begun A_t_text A_t_wins A_t_fits t_pasts t_thrown t_typed t_at t_letter t_one t_other t_s)) args s 0 0 A) (F0 m 53 ls [])) → ∀ (n : Nat) (v2_1 : Int32) (v3_2 : Int32) (H : Heap) (locs : List Loc) (ls : Array Slot), L_X5_waysOf_4 N t_s p0 kont n v2_1 v3_2 = some r9 → va_P D vwCl (w_X5_waysOf cy A_t A_t_s A_t_past A_t_begun A_t_text A_t_wins A_t_fits t_pasts t_thrown t_typed t_at t_letter t_one t_other t_s) H → va_D A (w_X5_waysOf cy A_t A_t_s A_t_past A_t_begun A_t_text A_t_wins A_t_fits t_pasts t_thrown t_typed t_at t_letter t_one t_other t_s) → va_S A s.heap H locs → lv_has ls 4 [(0, .ref A_t), (1, .int p0), (2, .int v2_1), (3, .int v3_2)] → W p l e (rmK 2 47) s m args below meth c H locs 0 0 (MQ below (kQ (some (.int r9)) D A (w_X5_waysOf cy A_t A_t_s A_t_past A_t_begun A_t_text A_t_wins A_t_fits t_pasts t_thrown t_typed t_at t_letter t_one t_other t_s)) args s 0 0 A) (F0 m 4 ls []) := by
    intro kont hexit_4 n
    induction n with
    | zero =>
      intro v2_1 v3_2 H locs ls hF
      rw [L_X5_waysOf_4] at hF
      cases hF
    | succ n ih =>
      intro v2_1 v3_2 H locs ls hF hP hD hS hl
      rw [L_X5_waysOf_4] at hF
      refine lv_iload_n hx hb dX5_waysOf_4 rfl (lv_at hl 3 rfl) ?_
      refine lv_iconst (v := 1) hx hb dX5_waysOf_5 (by decide) ?_
      refine lv_aload_n hx hb dX5_waysOf_6 rfl (lv_at hl 0 rfl) ?_
      refine va_get (D := D) (ci := 5) (v := .ref A_t_s) (C := RX5) (T := TX5) (N := 13) hx hb hts inX5 hown hK hP 0 rfl rfl 0 (by decide) (hts _ q_731) (fun _ h9 => h9) rfl dX5_waysOf_7 ?_
      refine lv_iconst (v := 0) hx hb dX5_waysOf_10 (by decide) ?_
      refine ka_iald hx hb hK hP 1 rfl (0) rfl (inb_in (by decide)) dX5_waysOf_11 ?_
      refine lv_ishl hx hb dX5_waysOf_12 ?_
      refine lv_icmp_ge (tgt := 53) hx hb dX5_waysOf_13 (by decide) (fun c_4 => ?_) (fun c_4 => ?_)
      · replace hF := ite_t c_4 hF
        exact hexit_4 v2_1 H locs ls hF hP hD hS (lv_sub hl [2] rfl)
      · replace hF := ite_f c_4 hF
        refine lv_iload_n hx hb dX5_waysOf_16 rfl (lv_at hl 2 rfl) ?_
        refine lv_aload_n hx hb dX5_waysOf_17 rfl (lv_at hl 0 rfl) ?_
        refine lv_iload_n hx hb dX5_waysOf_18 rfl (lv_at hl 1 rfl) ?_
        refine lv_aload_n hx hb dX5_waysOf_19 rfl (lv_at hl 0 rfl) ?_
        refine va_get (D := D) (ci := 5) (v := .ref A_t_s) (C := RX5) (T := TX5) (N := 13) hx hb hts inX5 hown hK hP 0 rfl rfl 0 (by decide) (hts _ q_731) (fun _ h9 => h9) rfl dX5_waysOf_20 ?_
        refine lv_iconst (v := 0) hx hb dX5_waysOf_23 (by decide) ?_
        refine ka_iald hx hb hK hP 1 rfl (0) rfl (inb_in (by decide)) dX5_waysOf_24 ?_
        refine lv_iload_n hx hb dX5_waysOf_25 rfl (lv_at hl 3 rfl) ?_
        obtain ⟨r_5, hF_6, hF⟩ := ob1_some hF
        refine kcV (q := (RX5, TX5, 13)) (ci := 5) (q0 := 0) (As := [.int p0, .int (t_s 0), .int v3_2]) (rest := [.int v2_1]) (wr := []) (wsN := (w_X5_waysOf cy A_t A_t_s A_t_past A_t_begun A_t_text A_t_wins A_t_fits t_pasts t_thrown t_typed t_at t_letter t_one t_other t_s)) ⟨hx, hb, hml, hown, hts⟩ hE hP hD hS hA hAs [0, 1] [] [0, 1] (c_X5_isAs l D cy s0 tW N A_t A_t_s A_t_past A_t_begun A_t_text A_t_wins A_t_fits p0 (t_s 0) v3_2 t_pasts t_thrown t_typed t_at t_letter t_one t_other t_s _ hF_6) (gV q_870 q_872 q_61 q_88 q_873) hd_X5_isAs ⟨Nat.le_of_ble_eq_true rfl, Nat.le_of_ble_eq_true rfl⟩ rfl rfl rfl rfl rfl rfl rfl rfl rfl hl.1 rfl (Nat.le_of_ble_eq_true rfl) dX5_waysOf_26 ⟨Nat.zero_le _, Nat.zero_le _⟩ (fun H locs hP hD hS => ?_)
        refine W.eq (g2 := F0 m 29 ls [.int (bI r_5), .int v2_1]) rfl ?_
        refine lv_if_eq (tgt := 44) hx hb dX5_waysOf_29 (by decide) (fun c_7 => ?_) (fun c_7 => ?_)
        · replace hF := ite_f (bI_f c_7) hF
          refine lv_iconst (v := 0) hx hb dX5_waysOf_44 (by decide) ?_
          refine lv_iadd hx hb dX5_waysOf_45 ?_
          refine lv_istore_n (lv' := [(2, .int (v2_1 + 0)), (0, .ref A_t), (1, .int p0), (3, .int v3_2)]) hx hb dX5_waysOf_46 rfl hl (by decide) rfl (fun ls hl => ?_)
          refine lv_iinc (v := (v3_2 + 1)) (lv' := [(3, .int (v3_2 + 1)), (2, .int (v2_1 + 0)), (0, .ref A_t), (1, .int p0)]) hx hb dX5_waysOf_47 hl (k := 3) rfl (by first | rfl | decide) (by decide) rfl (fun ls hl => ?_)
          refine lv_goto (tgt := 4) hx hb dX5_waysOf_50 (by decide) ?_
          exact ih (v2_1 + 0) (v3_2 + 1) H locs ls hF hP hD hS (lv_sub hl [2, 3, 1, 0] rfl)
        · replace hF := ite_t (bI_t c_7) hF
          refine lv_aload_n hx hb dX5_waysOf_32 rfl (lv_at hl 0 rfl) ?_
          refine lv_iload_n hx hb dX5_waysOf_33 rfl (lv_at hl 3 rfl) ?_
          obtain ⟨r_8, hF_9, hF⟩ := ob1_some hF
          refine kcV (q := (RX5, TX5, 13)) (ci := 5) (q0 := 0) (As := [.int v3_2]) (rest := [.int v2_1]) (wr := []) (wsN := (w_X5_waysOf cy A_t A_t_s A_t_past A_t_begun A_t_text A_t_wins A_t_fits t_pasts t_thrown t_typed t_at t_letter t_one t_other t_s)) ⟨hx, hb, hml, hown, hts⟩ hE hP hD hS hA hAs [0, 1] [] [0, 1] (c_X5_isMade l D cy s0 tW N A_t A_t_s A_t_past A_t_begun A_t_text A_t_wins A_t_fits v3_2 t_pasts t_thrown t_typed t_at t_letter t_one t_other t_s _ hF_9) (gV q_882 q_884 q_64 q_88 q_885) hd_X5_isMade ⟨Nat.le_of_ble_eq_true rfl, Nat.le_of_ble_eq_true rfl⟩ rfl rfl rfl rfl rfl rfl rfl rfl rfl hl.1 rfl (Nat.le_of_ble_eq_true rfl) dX5_waysOf_34 ⟨Nat.zero_le _, Nat.zero_le _⟩ (fun H locs hP hD hS => ?_)
          refine W.eq (g2 := F0 m 37 ls [.int (bI r_8), .int v2_1]) rfl ?_
          refine lv_if_eq (tgt := 44) hx hb dX5_waysOf_37 (by decide) (fun c_10 => ?_) (fun c_10 => ?_)
          · replace hF := ite_f (bI_f c_10) hF
            refine lv_iconst (v := 0) hx hb dX5_waysOf_44 (by decide) ?_
            refine lv_iadd hx hb dX5_waysOf_45 ?_
            refine lv_istore_n (lv' := [(2, .int (v2_1 + 0)), (0, .ref A_t), (1, .int p0), (3, .int v3_2)]) hx hb dX5_waysOf_46 rfl hl (by decide) rfl (fun ls hl => ?_)
            refine lv_iinc (v := (v3_2 + 1)) (lv' := [(3, .int (v3_2 + 1)), (2, .int (v2_1 + 0)), (0, .ref A_t), (1, .int p0)]) hx hb dX5_waysOf_47 hl (k := 3) rfl (by first | rfl | decide) (by decide) rfl (fun ls hl => ?_)
            refine lv_goto (tgt := 4) hx hb dX5_waysOf_50 (by decide) ?_
            exact ih (v2_1 + 0) (v3_2 + 1) H locs ls hF hP hD hS (lv_sub hl [2, 3, 1, 0] rfl)
          · replace hF := ite_t (bI_t c_10) hF
            refine lv_iconst (v := 1) hx hb dX5_waysOf_40 (by decide) ?_
            refine lv_goto (tgt := 45) hx hb dX5_waysOf_41 (by decide) ?_
            refine lv_iadd hx hb dX5_waysOf_45 ?_
            refine lv_istore_n (lv' := [(2, .int (v2_1 + 1)), (0, .ref A_t), (1, .int p0), (3, .int v3_2)]) hx hb dX5_waysOf_46 rfl hl (by decide) rfl (fun ls hl => ?_)
            refine lv_iinc (v := (v3_2 + 1)) (lv' := [(3, .int (v3_2 + 1)), (2, .int (v2_1 + 1)), (0, .ref A_t), (1, .int p0)]) hx hb dX5_waysOf_47 hl (k := 3) rfl (by first | rfl | decide) (by decide) rfl (fun ls hl => ?_)
            refine lv_goto (tgt := 4) hx hb dX5_waysOf_50 (by decide) ?_
            exact ih (v2_1 + 1) (v3_2 + 1) H locs ls hF hP hD hS (lv_sub hl [2, 3, 1, 0] rfl)
  refine hloop_4 _ (fun u2_3 H locs ls hF hP hD hS hl => ?_) N 0 0 _ _ ls hF hP hD hS (lv_sub hl [2, 3, 1, 0] rfl)
  refine lv_iload_n hx hb dX5_waysOf_53 rfl (lv_at hl 0 rfl) ?_
  cases hF
  exact kret_i hx hb hr hlocks hP hD hS dX5_waysOf_54

theorem q_72 : Cond.selects RX5 yX5_waysOf yX5_waysOf ∈ wAll := wAll_mem 72 (by decide +kernel) (by decide +kernel)
theorem q_950 : Cond.methodLink RX5 129 yX5_waysOf ∈ wAll := wAll_mem 950 (by decide +kernel) (by decide +kernel)
theorem q_952 : Cond.instanceMethod yX5_waysOf ∈ wAll := wAll_mem 952 (by decide +kernel) (by decide +kernel)
theorem q_953 : Cond.code yX5_waysOf cX5_waysOf 4 (some .int) ∈ wAll := wAll_mem 953 (by decide +kernel) (by decide +kernel)
theorem hd_X5_waysOf : yX5_waysOf.cls = RX5 ∧ yX5_waysOf.cls ≠ "java/lang/invoke/MethodHandle" ∧ yX5_waysOf.cls ≠ "java/lang/invoke/VarHandle" ∧ (parseMethodDescriptor yX5_waysOf.desc).map (fun d => d.parameters.length) = some 1 := by decide +kernel
abbrev w_X5_ways (cy : Nat → ClassId) (A_t : Nat) (A_t_s : Nat) (A_t_past : Nat) (A_t_begun : Nat) (A_t_text : Nat) (A_t_wins : Nat) (A_t_fits : Nat) (t_pasts : Int32) (t_thrown : Int32) (t_typed : Int32) (t_at : Int32) (t_letter : Int32) (t_one : Int32) (t_other : Int32) (t_s : Nat → Int32) : va_W := [(A_t, .inr (5, [.ref A_t_s, .ref A_t_past, .ref A_t_begun, .int t_pasts, .int t_thrown, .ref A_t_text, .int t_typed, .int t_at, .int t_letter, .int t_one, .int t_other, .ref A_t_wins, .ref A_t_fits])), (A_t_s, .inl (cy 0, 45, .inl t_s))]
def F_X5_ways (N : Nat) (p0 : Int32) (t_s : Nat → Int32) (t_thrown : Int32) : Option (Int32 × Int32) :=
  ob1 (F_X5_isPlay N p0 t_s) (fun r_1 => (if r_1 = true then ob1 (F_X5_waysOf N p0 t_s) (fun r_7 => ob2 (F_X5_tells N r_7 t_thrown) (fun r_9 t_thrown_10 => some (r_9, t_thrown_10))) else ob2 (F_X5_fails N 1 t_thrown) (fun r_4 t_thrown_5 => some (r_4, t_thrown_5))))
set_option maxHeartbeats 4000000 in
set_option maxRecDepth 100000 in
theorem c_X5_ways (l : Launch) (D : va_G) (cy : Nat → ClassId) (s0 tW N : Nat) (A_t : Nat) (A_t_s : Nat) (A_t_past : Nat) (A_t_begun : Nat) (A_t_text : Nat) (A_t_wins : Nat) (A_t_fits : Nat) (p0 : Int32) (t_pasts : Int32) (t_thrown : Int32) (t_typed : Int32) (t_at : Int32) (t_letter : Int32) (t_one : Int32) (t_other : Int32) (t_s : Nat → Int32) (sz : Nat) {r9 : Int32} {t_thrown9 : Int32} (hF : F_X5_ways N p0 t_s t_thrown = some (r9, t_thrown9)) : KM l D cy s0 tW yX5_ways cX5_ways 2 (some .int) 3 70 [.ref A_t, .int p0] sz (w_X5_ways cy A_t A_t_s A_t_past A_t_begun A_t_text A_t_wins A_t_fits t_pasts t_thrown t_typed t_at t_letter t_one t_other t_s) (some (.int r9)) (w_X5_ways cy A_t A_t_s A_t_past A_t_begun A_t_text A_t_wins A_t_fits t_pasts t_thrown9 t_typed t_at t_letter t_one t_other t_s) := by
  refine KM.intro rfl (Nat.le_of_ble_eq_true rfl) ?_
  intro p e s m args below meth c A ls hx hb hr hml hown hts hlocks hE hP hD hS hA hAs hl
  have hK := hE.1
  have hl : lv_has ls 2 [(0, .ref A_t), (1, .int p0)] := hl
  unfold F_X5_ways at hF
  refine lv_aload_n hx hb dX5_ways_0 rfl (lv_at hl 0 rfl) ?_
  refine lv_iload_n hx hb dX5_ways_1 rfl (lv_at hl 1 rfl) ?_
  obtain ⟨r_1, hF_2, hF⟩ := ob1_some hF
  refine kcV (q := (RX5, TX5, 13)) (ci := 5) (q0 := 0) (As := [.int p0]) (rest := []) (wr := []) (wsN := (w_X5_ways cy A_t A_t_s A_t_past A_t_begun A_t_text A_t_wins A_t_fits t_pasts t_thrown t_typed t_at t_letter t_one t_other t_s)) ⟨hx, hb, hml, hown, hts⟩ hE hP hD hS hA hAs [0, 1] [] [0, 1] (c_X5_isPlay l D cy s0 tW N A_t A_t_s A_t_past A_t_begun A_t_text A_t_wins A_t_fits p0 t_pasts t_thrown t_typed t_at t_letter t_one t_other t_s _ hF_2) (gV q_846 q_848 q_57 q_88 q_849) hd_X5_isPlay ⟨Nat.le_of_ble_eq_true rfl, Nat.le_of_ble_eq_true rfl⟩ rfl rfl rfl rfl rfl rfl rfl rfl rfl hl.1 rfl (Nat.le_of_ble_eq_true rfl) dX5_ways_2 ⟨Nat.zero_le _, Nat.zero_le _⟩ (fun H locs hP hD hS => ?_)
  refine W.eq (g2 := F0 m 5 ls [.int (bI r_1)]) rfl ?_
  refine lv_if_eq (tgt := 20) hx hb dX5_ways_5 (by decide) (fun c_3 => ?_) (fun c_3 => ?_)
  · replace hF := ite_f (bI_f c_3) hF
    refine lv_aload_n hx hb dX5_ways_20 rfl (lv_at hl 0 rfl) ?_
    refine lv_iconst (v := 1) hx hb dX5_ways_21 (by decide) ?_
    obtain ⟨r_4, t_thrown_5, hF_6, hF⟩ := ob2_some hF
    refine kcV (q := (RX5, TX5, 13)) (ci := 5) (q0 := 0) (As := [.int 1]) (rest := []) (wr := [(A_t_s, .inl (cy 0, 45, .inl t_s))]) (wsN := (w_X5_ways cy A_t A_t_s A_t_past A_t_begun A_t_text A_t_wins A_t_fits t_pasts t_thrown_5 t_typed t_at t_letter t_one t_other t_s)) ⟨hx, hb, hml, hown, hts⟩ hE hP hD hS hA hAs [0] [1] [1, 0] (c_X5_fails l D cy s0 tW N A_t A_t_s A_t_past A_t_begun A_t_text A_t_wins A_t_fits 1 t_pasts t_thrown t_typed t_at t_letter t_one t_other _ hF_6) (gV q_803 q_805 q_50 q_88 q_806) hd_X5_fails ⟨Nat.le_of_ble_eq_true rfl, Nat.le_of_ble_eq_true rfl⟩ rfl rfl rfl rfl rfl rfl rfl rfl rfl hl.1 rfl (Nat.le_of_ble_eq_true rfl) dX5_ways_22 ⟨Nat.zero_le _, Nat.zero_le _⟩ (fun H locs hP hD hS => ?_)
    refine W.eq (g2 := F0 m 25 ls [.int r_4]) rfl ?_
    cases hF
    exact kret_i hx hb hr hlocks hP hD hS dX5_ways_25
  · replace hF := ite_t (bI_t c_3) hF
    refine lv_aload_n hx hb dX5_ways_8 rfl (lv_at hl 0 rfl) ?_
    refine lv_aload_n hx hb dX5_ways_9 rfl (lv_at hl 0 rfl) ?_
    refine lv_iload_n hx hb dX5_ways_10 rfl (lv_at hl 1 rfl) ?_
    obtain ⟨r_7, hF_8, hF⟩ := ob1_some hF
    refine kcV (q := (RX5, TX5, 13)) (ci := 5) (q0 := 0) (As := [.int p0]) (rest := [.ref A_t]) (wr := []) (wsN := (w_X5_ways cy A_t A_t_s A_t_past A_t_begun A_t_text A_t_wins A_t_fits t_pasts t_thrown t_typed t_at t_letter t_one t_other t_s)) ⟨hx, hb, hml, hown, hts⟩ hE hP hD hS hA hAs [0, 1] [] [0, 1] (c_X5_waysOf l D cy s0 tW N A_t A_t_s A_t_past A_t_begun A_t_text A_t_wins A_t_fits p0 t_pasts t_thrown t_typed t_at t_letter t_one t_other t_s _ hF_8) (gV q_950 q_952 q_72 q_88 q_953) hd_X5_waysOf ⟨Nat.le_of_ble_eq_true rfl, Nat.le_of_ble_eq_true rfl⟩ rfl rfl rfl rfl rfl rfl rfl rfl rfl hl.1 rfl (Nat.le_of_ble_eq_true rfl) dX5_ways_11 ⟨Nat.zero_le _, Nat.zero_le _⟩ (fun H locs hP hD hS => ?_)
    refine W.eq (g2 := F0 m 14 ls [.int r_7, .ref A_t]) rfl ?_
    obtain ⟨r_9, t_thrown_10, hF_11, hF⟩ := ob2_some hF
    refine kcV (q := (RX5, TX5, 13)) (ci := 5) (q0 := 0) (As := [.int r_7]) (rest := []) (wr := [(A_t_s, .inl (cy 0, 45, .inl t_s))]) (wsN := (w_X5_ways cy A_t A_t_s A_t_past A_t_begun A_t_text A_t_wins A_t_fits t_pasts t_thrown_10 t_typed t_at t_letter t_one t_other t_s)) ⟨hx, hb, hml, hown, hts⟩ hE hP hD hS hA hAs [0] [1] [1, 0] (c_X5_tells l D cy s0 tW N A_t A_t_s A_t_past A_t_begun A_t_text A_t_wins A_t_fits r_7 t_pasts t_thrown t_typed t_at t_letter t_one t_other _ hF_11) (gV q_788 q_790 q_48 q_88 q_791) hd_X5_tells ⟨Nat.le_of_ble_eq_true rfl, Nat.le_of_ble_eq_true rfl⟩ rfl rfl rfl rfl rfl rfl rfl rfl rfl hl.1 rfl (Nat.le_of_ble_eq_true rfl) dX5_ways_14 ⟨Nat.zero_le _, Nat.zero_le _⟩ (fun H locs hP hD hS => ?_)
    refine W.eq (g2 := F0 m 17 ls [.int r_9]) rfl ?_
    refine lv_goto (tgt := 25) hx hb dX5_ways_17 (by decide) ?_
    cases hF
    exact kret_i hx hb hr hlocks hP hD hS dX5_ways_25

theorem q_73 : Cond.selects RX5 yX5_is yX5_is ∈ wAll := wAll_mem 73 (by decide +kernel) (by decide +kernel)
theorem q_958 : Cond.methodLink RX5 132 yX5_is ∈ wAll := wAll_mem 958 (by decide +kernel) (by decide +kernel)
theorem q_960 : Cond.instanceMethod yX5_is ∈ wAll := wAll_mem 960 (by decide +kernel) (by decide +kernel)
theorem q_961 : Cond.code yX5_is cX5_is 2 (some .boolean) ∈ wAll := wAll_mem 961 (by decide +kernel) (by decide +kernel)
theorem hd_X5_is : yX5_is.cls = RX5 ∧ yX5_is.cls ≠ "java/lang/invoke/MethodHandle" ∧ yX5_is.cls ≠ "java/lang/invoke/VarHandle" ∧ (parseMethodDescriptor yX5_is.desc).map (fun d => d.parameters.length) = some 1 := by decide +kernel
abbrev w_X5_beats (cy : Nat → ClassId) (A_t : Nat) (A_t_s : Nat) (A_t_past : Nat) (A_t_begun : Nat) (A_t_text : Nat) (A_t_wins : Nat) (A_t_fits : Nat) (t_pasts : Int32) (t_thrown : Int32) (t_typed : Int32) (t_at : Int32) (t_letter : Int32) (t_one : Int32) (t_other : Int32) (t_s : Nat → Int32) (t_wins : Nat → Bool) (t_fits : Nat → Int32) : va_W := [(A_t, .inr (5, [.ref A_t_s, .ref A_t_past, .ref A_t_begun, .int t_pasts, .int t_thrown, .ref A_t_text, .int t_typed, .int t_at, .int t_letter, .int t_one, .int t_other, .ref A_t_wins, .ref A_t_fits])), (A_t_s, .inl (cy 0, 45, .inl t_s)), (A_t_wins, .inl (cy 3, 1024, .inl (fun j => bI (t_wins j)))), (A_t_fits, .inl (cy 0, 1024, .inl t_fits))]
def F_X5_beats (N : Nat) (p0 : Int32) (t_s : Nat → Int32) (t_thrown : Int32) (t_wins : Nat → Bool) (t_fits : Nat → Int32) : Option (Bool × Int32 × (Nat → Bool) × (Nat → Int32)) :=
  ob1 (F_X5_plays N t_s) (fun r_1 => ob1 (F_X5_in N p0 0 (((1 : Int32) <<< (r_1 &&& 31)) - 1)) (fun r_3 => (if r_3 = true then ob1 (F_X5_finds N t_s t_fits) (fun t_fits_6 => ob2 (F_X5_against N p0 t_s t_wins t_fits_6) (fun r_8 t_wins_9 => ob2 (F_X5_is N r_8 t_thrown) (fun r_11 t_thrown_12 => some (r_11, t_thrown_12, t_wins_9, t_fits_6)))) else ob2 (F_X5_fails N 1 t_thrown) (fun r_14 t_thrown_15 => some (false, t_thrown_15, t_wins, t_fits)))))
set_option maxHeartbeats 4000000 in
set_option maxRecDepth 100000 in
theorem c_X5_beats (l : Launch) (D : va_G) (cy : Nat → ClassId) (s0 tW N : Nat) (A_t : Nat) (A_t_s : Nat) (A_t_past : Nat) (A_t_begun : Nat) (A_t_text : Nat) (A_t_wins : Nat) (A_t_fits : Nat) (p0 : Int32) (t_pasts : Int32) (t_thrown : Int32) (t_typed : Int32) (t_at : Int32) (t_letter : Int32) (t_one : Int32) (t_other : Int32) (t_s : Nat → Int32) (t_wins : Nat → Bool) (t_fits : Nat → Int32) (sz : Nat) {r9 : Bool} {t_thrown9 : Int32} {t_wins9 : Nat → Bool} {t_fits9 : Nat → Int32} (hF : F_X5_beats N p0 t_s t_thrown t_wins t_fits = some (r9, t_thrown9, t_wins9, t_fits9)) : KM l D cy s0 tW yX5_beats cX5_beats 3 (some .boolean) 3 71 [.ref A_t, .int p0] sz (w_X5_beats cy A_t A_t_s A_t_past A_t_begun A_t_text A_t_wins A_t_fits t_pasts t_thrown t_typed t_at t_letter t_one t_other t_s t_wins t_fits) (some (.int (bI r9))) (w_X5_beats cy A_t A_t_s A_t_past A_t_begun A_t_text A_t_wins A_t_fits t_pasts t_thrown9 t_typed t_at t_letter t_one t_other t_s t_wins9 t_fits9) := by
  refine KM.intro rfl (Nat.le_of_ble_eq_true rfl) ?_
  intro p e s m args below meth c A ls hx hb hr hml hown hts hlocks hE hP hD hS hA hAs hl
  have hK := hE.1
  have hl : lv_has ls 3 [(0, .ref A_t), (1, .int p0)] := hl
  unfold F_X5_beats at hF
  refine lv_iload_n hx hb dX5_beats_0 rfl (lv_at hl 1 rfl) ?_
  refine lv_iconst (v := 0) hx hb dX5_beats_1 (by decide) ?_
  refine lv_iconst (v := 1) hx hb dX5_beats_2 (by decide) ?_
  refine lv_aload_n hx hb dX5_beats_3 rfl (lv_at hl 0 rfl) ?_
  obtain ⟨r_1, hF_2, hF⟩ := ob1_some hF
  refine kcV (q := (RX5, TX5, 13)) (ci := 5) (q0 := 0) (As := []) (rest := [.int 1, .int 0, .int p0]) (wr := [(A_t_wins, .inl (cy 3, 1024, .inl (fun j => bI (t_wins j)))), (A_t_fits, .inl (cy 0, 1024, .inl t_fits))]) (wsN := (w_X5_beats cy A_t A_t_s A_t_past A_t_begun A_t_text A_t_wins A_t_fits t_pasts t_thrown t_typed t_at t_letter t_one t_other t_s t_wins t_fits)) ⟨hx, hb, hml, hown, hts⟩ hE hP hD hS hA hAs [0, 1] [2, 3] [2, 3, 0, 1] (c_X5_plays l D cy s0 tW N A_t A_t_s A_t_past A_t_begun A_t_text A_t_wins A_t_fits t_pasts t_thrown t_typed t_at t_letter t_one t_other t_s _ hF_2) (gV q_850 q_852 q_58 q_88 q_853) hd_X5_plays ⟨Nat.le_of_ble_eq_true rfl, Nat.le_of_ble_eq_true rfl⟩ rfl rfl rfl rfl rfl rfl rfl rfl rfl hl.1 rfl (Nat.le_of_ble_eq_true rfl) dX5_beats_4 ⟨Nat.zero_le _, Nat.zero_le _⟩ (fun H locs hP hD hS => ?_)
  refine W.eq (g2 := F0 m 7 ls [.int r_1, .int 1, .int 0, .int p0]) rfl ?_
  refine lv_ishl hx hb dX5_beats_7 ?_
  refine lv_iconst (v := 1) hx hb dX5_beats_8 (by decide) ?_
  refine lv_isub hx hb dX5_beats_9 ?_
  obtain ⟨r_3, hF_4, hF⟩ := ob1_some hF
  refine kcS (As := [.int p0, .int 0, .int (((1 : Int32) <<< (r_1 &&& 31)) - 1)]) (rest := []) (wr := [(A_t, .inr (5, [.ref A_t_s, .ref A_t_past, .ref A_t_begun, .int t_pasts, .int t_thrown, .ref A_t_text, .int t_typed, .int t_at, .int t_letter, .int t_one, .int t_other, .ref A_t_wins, .ref A_t_fits])), (A_t_s, .inl (cy 0, 45, .inl t_s)), (A_t_wins, .inl (cy 3, 1024, .inl (fun j => bI (t_wins j)))), (A_t_fits, .inl (cy 0, 1024, .inl t_fits))]) (wsN := (w_X5_beats cy A_t A_t_s A_t_past A_t_begun A_t_text A_t_wins A_t_fits t_pasts t_thrown t_typed t_at t_letter t_one t_other t_s t_wins t_fits)) ⟨hx, hb, hml, hown, hts⟩ hE hP hD hS hA hAs [] [0, 1, 2, 3] [0, 1, 2, 3] (c_X5_in l D cy s0 tW N p0 0 (((1 : Int32) <<< (r_1 &&& 31)) - 1) _ hF_4) (gS q_823 q_824 q_88 q_825) hd_X5_in.2 ⟨Nat.le_of_ble_eq_true rfl, Nat.le_of_ble_eq_true rfl⟩ rfl rfl rfl rfl rfl rfl rfl hl.1 rfl (Nat.le_of_ble_eq_true rfl) dX5_beats_10 ⟨Nat.zero_le _, Nat.zero_le _⟩ (fun H locs hP hD hS => ?_)
  refine W.eq (g2 := F0 m 13 ls [.int (bI r_3)]) rfl ?_
  refine lv_istore_n (lv' := [(2, .int (bI r_3)), (0, .ref A_t), (1, .int p0)]) hx hb dX5_beats_13 rfl hl (by decide) rfl (fun ls hl => ?_)
  refine lv_iload_n hx hb dX5_beats_14 rfl (lv_at hl 0 rfl) ?_
  refine lv_if_ne (tgt := 26) hx hb dX5_beats_15 (by decide) (fun c_5 => ?_) (fun c_5 => ?_)
  · replace hF := ite_t (bI_t c_5) hF
    refine lv_aload_n hx hb dX5_beats_26 rfl (lv_at hl 1 rfl) ?_
    obtain ⟨t_fits_6, hF_7, hF⟩ := ob1_some hF
    refine kcV (q := (RX5, TX5, 13)) (ci := 5) (q0 := 0) (As := []) (rest := []) (wr := [(A_t_wins, .inl (cy 3, 1024, .inl (fun j => bI (t_wins j))))]) (wsN := (w_X5_beats cy A_t A_t_s A_t_past A_t_begun A_t_text A_t_wins A_t_fits t_pasts t_thrown t_typed t_at t_letter t_one t_other t_s t_wins t_fits_6)) ⟨hx, hb, hml, hown, hts⟩ hE hP hD hS hA hAs [0, 1, 3] [2] [1, 2, 0, 3] (c_X5_finds l D cy s0 tW N A_t A_t_s A_t_past A_t_begun A_t_text A_t_wins A_t_fits t_pasts t_thrown t_typed t_at t_letter t_one t_other t_s t_fits _ hF_7) (gV q_866 q_868 q_60 q_88 q_869) hd_X5_finds ⟨Nat.le_of_ble_eq_true rfl, Nat.le_of_ble_eq_true rfl⟩ rfl rfl rfl rfl rfl rfl rfl rfl rfl hl.1 rfl (Nat.le_of_ble_eq_true rfl) dX5_beats_27 ⟨Nat.zero_le _, Nat.zero_le _⟩ (fun H locs hP hD hS => ?_)
    refine W.eq (g2 := F0 m 30 ls []) rfl ?_
    refine lv_aload_n hx hb dX5_beats_30 rfl (lv_at hl 1 rfl) ?_
    refine lv_aload_n hx hb dX5_beats_31 rfl (lv_at hl 1 rfl) ?_
    refine lv_iload_n hx hb dX5_beats_32 rfl (lv_at hl 2 rfl) ?_
    obtain ⟨r_8, t_wins_9, hF_10, hF⟩ := ob2_some hF
    refine kcV (q := (RX5, TX5, 13)) (ci := 5) (q0 := 0) (As := [.int p0]) (rest := [.ref A_t]) (wr := []) (wsN := (w_X5_beats cy A_t A_t_s A_t_past A_t_begun A_t_text A_t_wins A_t_fits t_pasts t_thrown t_typed t_at t_letter t_one t_other t_s t_wins_9 t_fits_6)) ⟨hx, hb, hml, hown, hts⟩ hE hP hD hS hA hAs [0, 1, 2, 3] [] [0, 1, 2, 3] (c_X5_against l D cy s0 tW N A_t A_t_s A_t_past A_t_begun A_t_text A_t_wins A_t_fits p0 t_pasts t_thrown t_typed t_at t_letter t_one t_other t_s t_wins t_fits_6 _ hF_10) (gV q_878 q_880 q_63 q_88 q_881) hd_X5_against ⟨Nat.le_of_ble_eq_true rfl, Nat.le_of_ble_eq_true rfl⟩ rfl rfl rfl rfl rfl rfl rfl rfl rfl hl.1 rfl (Nat.le_of_ble_eq_true rfl) dX5_beats_33 ⟨Nat.zero_le _, Nat.zero_le _⟩ (fun H locs hP hD hS => ?_)
    refine W.eq (g2 := F0 m 36 ls [.int (bI r_8), .ref A_t]) rfl ?_
    obtain ⟨r_11, t_thrown_12, hF_13, hF⟩ := ob2_some hF
    refine kcV (q := (RX5, TX5, 13)) (ci := 5) (q0 := 0) (As := [.int (bI r_8)]) (rest := []) (wr := [(A_t_s, .inl (cy 0, 45, .inl t_s)), (A_t_wins, .inl (cy 3, 1024, .inl (fun j => bI (t_wins_9 j)))), (A_t_fits, .inl (cy 0, 1024, .inl t_fits_6))]) (wsN := (w_X5_beats cy A_t A_t_s A_t_past A_t_begun A_t_text A_t_wins A_t_fits t_pasts t_thrown_12 t_typed t_at t_letter t_one t_other t_s t_wins_9 t_fits_6)) ⟨hx, hb, hml, hown, hts⟩ hE hP hD hS hA hAs [0] [1, 2, 3] [3, 0, 1, 2] (c_X5_is l D cy s0 tW N A_t A_t_s A_t_past A_t_begun A_t_text A_t_wins A_t_fits r_8 t_pasts t_thrown t_typed t_at t_letter t_one t_other _ hF_13) (gV q_958 q_960 q_73 q_88 q_961) hd_X5_is ⟨Nat.le_of_ble_eq_true rfl, Nat.le_of_ble_eq_true rfl⟩ rfl rfl rfl rfl rfl rfl rfl rfl rfl hl.1 rfl (Nat.le_of_ble_eq_true rfl) dX5_beats_36 ⟨Nat.zero_le _, Nat.zero_le _⟩ (fun H locs hP hD hS => ?_)
    refine W.eq (g2 := F0 m 39 ls [.int (bI r_11)]) rfl ?_
    cases hF
    exact kret_z hx hb hr hlocks hP hD hS dX5_beats_39
  · replace hF := ite_f (bI_f c_5) hF
    refine lv_aload_n hx hb dX5_beats_18 rfl (lv_at hl 1 rfl) ?_
    refine lv_iconst (v := 1) hx hb dX5_beats_19 (by decide) ?_
    obtain ⟨r_14, t_thrown_15, hF_16, hF⟩ := ob2_some hF
    refine kcV (q := (RX5, TX5, 13)) (ci := 5) (q0 := 0) (As := [.int 1]) (rest := []) (wr := [(A_t_s, .inl (cy 0, 45, .inl t_s)), (A_t_wins, .inl (cy 3, 1024, .inl (fun j => bI (t_wins j)))), (A_t_fits, .inl (cy 0, 1024, .inl t_fits))]) (wsN := (w_X5_beats cy A_t A_t_s A_t_past A_t_begun A_t_text A_t_wins A_t_fits t_pasts t_thrown_15 t_typed t_at t_letter t_one t_other t_s t_wins t_fits)) ⟨hx, hb, hml, hown, hts⟩ hE hP hD hS hA hAs [0] [1, 2, 3] [3, 0, 1, 2] (c_X5_fails l D cy s0 tW N A_t A_t_s A_t_past A_t_begun A_t_text A_t_wins A_t_fits 1 t_pasts t_thrown t_typed t_at t_letter t_one t_other _ hF_16) (gV q_803 q_805 q_50 q_88 q_806) hd_X5_fails ⟨Nat.le_of_ble_eq_true rfl, Nat.le_of_ble_eq_true rfl⟩ rfl rfl rfl rfl rfl rfl rfl rfl rfl hl.1 rfl (Nat.le_of_ble_eq_true rfl) dX5_beats_20 ⟨Nat.zero_le _, Nat.zero_le _⟩ (fun H locs hP hD hS => ?_)
    refine W.eq (g2 := F0 m 23 ls [.int r_14]) rfl ?_
    refine lv_pop hx hb dX5_beats_23 rfl ?_
    refine lv_iconst (v := 0) hx hb dX5_beats_24 (by decide) ?_
    cases hF
    exact kret_z hx hb hr hlocks hP hD hS dX5_beats_25

abbrev w_X5_answer (cy : Nat → ClassId) (A_t : Nat) (A_t_s : Nat) (A_t_past : Nat) (A_t_begun : Nat) (A_t_text : Nat) (A_t_wins : Nat) (A_t_fits : Nat) (t_pasts : Int32) (t_thrown : Int32) (t_typed : Int32) (t_at : Int32) (t_letter : Int32) (t_one : Int32) (t_other : Int32) (t_s : Nat → Int32) (t_wins : Nat → Bool) (t_fits : Nat → Int32) : va_W := [(A_t, .inr (5, [.ref A_t_s, .ref A_t_past, .ref A_t_begun, .int t_pasts, .int t_thrown, .ref A_t_text, .int t_typed, .int t_at, .int t_letter, .int t_one, .int t_other, .ref A_t_wins, .ref A_t_fits])), (A_t_s, .inl (cy 0, 45, .inl t_s)), (A_t_wins, .inl (cy 3, 1024, .inl (fun j => bI (t_wins j)))), (A_t_fits, .inl (cy 0, 1024, .inl t_fits))]
def F_X5_answer (N : Nat) (p0 : Int32) (p1 : Int32) (t_s : Nat → Int32) (t_thrown : Int32) (t_wins : Nat → Bool) (t_fits : Nat → Int32) : Option (Int32 × Int32 × (Nat → Bool) × (Nat → Int32)) :=
  ob1 (F_X5_isVariable N p0 t_s) (fun r_1 => (if r_1 = true then ob1 (F_X5_isBreakersOwn N p0 t_s) (fun r_4 => (if r_4 = true then ob2 (F_X5_fails N 2 t_thrown) (fun r_7 t_thrown_8 => some (r_7, t_thrown_8, t_wins, t_fits)) else ob1 (F_X5_isPlay N p1 t_s) (fun r_10 => (if r_10 = true then ob1 (F_X5_finds N t_s t_fits) (fun t_fits_13 => ob2 (F_X5_against N (t_s 3) t_s t_wins t_fits_13) (fun r_15 t_wins_16 => (if r_15 = true then ob1 (F_X5_answers N p1 t_s t_wins_16) (fun r_22 => ob2 (F_X5_tells N ((r_22 >>> (p0 &&& 31)) &&& 1) t_thrown) (fun r_24 t_thrown_25 => some (r_24, t_thrown_25, t_wins_16, t_fits_13))) else ob2 (F_X5_tells N (-1) t_thrown) (fun r_19 t_thrown_20 => some (r_19, t_thrown_20, t_wins_16, t_fits_13))))) else ob2 (F_X5_fails N 2 t_thrown) (fun r_27 t_thrown_28 => some (r_27, t_thrown_28, t_wins, t_fits)))))) else ob2 (F_X5_fails N 1 t_thrown) (fun r_30 t_thrown_31 => some (r_30, t_thrown_31, t_wins, t_fits))))
set_option maxHeartbeats 4000000 in
set_option maxRecDepth 100000 in
theorem c_X5_answer (l : Launch) (D : va_G) (cy : Nat → ClassId) (s0 tW N : Nat) (A_t : Nat) (A_t_s : Nat) (A_t_past : Nat) (A_t_begun : Nat) (A_t_text : Nat) (A_t_wins : Nat) (A_t_fits : Nat) (p0 : Int32) (p1 : Int32) (t_pasts : Int32) (t_thrown : Int32) (t_typed : Int32) (t_at : Int32) (t_letter : Int32) (t_one : Int32) (t_other : Int32) (t_s : Nat → Int32) (t_wins : Nat → Bool) (t_fits : Nat → Int32) (sz : Nat) {r9 : Int32} {t_thrown9 : Int32} {t_wins9 : Nat → Bool} {t_fits9 : Nat → Int32} (hF : F_X5_answer N p0 p1 t_s t_thrown t_wins t_fits = some (r9, t_thrown9, t_wins9, t_fits9)) : KM l D cy s0 tW yX5_answer cX5_answer 3 (some .int) 3 71 [.ref A_t, .int p0, .int p1] sz (w_X5_answer cy A_t A_t_s A_t_past A_t_begun A_t_text A_t_wins A_t_fits t_pasts t_thrown t_typed t_at t_letter t_one t_other t_s t_wins t_fits) (some (.int r9)) (w_X5_answer cy A_t A_t_s A_t_past A_t_begun A_t_text A_t_wins A_t_fits t_pasts t_thrown9 t_typed t_at t_letter t_one t_other t_s t_wins9 t_fits9) := by
  refine KM.intro rfl (Nat.le_of_ble_eq_true rfl) ?_
  intro p e s m args below meth c A ls hx hb hr hml hown hts hlocks hE hP hD hS hA hAs hl
  have hK := hE.1
  have hl : lv_has ls 3 [(0, .ref A_t), (1, .int p0), (2, .int p1)] := hl
  unfold F_X5_answer at hF
  refine lv_aload_n hx hb dX5_answer_0 rfl (lv_at hl 0 rfl) ?_
  refine lv_iload_n hx hb dX5_answer_1 rfl (lv_at hl 1 rfl) ?_
  obtain ⟨r_1, hF_2, hF⟩ := ob1_some hF
  refine kcV (q := (RX5, TX5, 13)) (ci := 5) (q0 := 0) (As := [.int p0]) (rest := []) (wr := [(A_t_wins, .inl (cy 3, 1024, .inl (fun j => bI (t_wins j)))), (A_t_fits, .inl (cy 0, 1024, .inl t_fits))]) (wsN := (w_X5_answer cy A_t A_t_s A_t_past A_t_begun A_t_text A_t_wins A_t_fits t_pasts t_thrown t_typed t_at t_letter t_one t_other t_s t_wins t_fits)) ⟨hx, hb, hml, hown, hts⟩ hE hP hD hS hA hAs [0, 1] [2, 3] [2, 3, 0, 1] (c_X5_isVariable l D cy s0 tW N A_t A_t_s A_t_past A_t_begun A_t_text A_t_wins A_t_fits p0 t_pasts t_thrown t_typed t_at t_letter t_one t_other t_s _ hF_2) (gV q_898 q_900 q_66 q_88 q_901) hd_X5_isVariable ⟨Nat.le_of_ble_eq_true rfl, Nat.le_of_ble_eq_true rfl⟩ rfl rfl rfl rfl rfl rfl rfl rfl rfl hl.1 rfl (Nat.le_of_ble_eq_true rfl) dX5_answer_2 ⟨Nat.zero_le _, Nat.zero_le _⟩ (fun H locs hP hD hS => ?_)
  refine W.eq (g2 := F0 m 5 ls [.int (bI r_1)]) rfl ?_
  refine lv_if_ne (tgt := 14) hx hb dX5_answer_5 (by decide) (fun c_3 => ?_) (fun c_3 => ?_)
  · replace hF := ite_t (bI_t c_3) hF
    refine lv_aload_n hx hb dX5_answer_14 rfl (lv_at hl 0 rfl) ?_
    refine lv_iload_n hx hb dX5_answer_15 rfl (lv_at hl 1 rfl) ?_
    obtain ⟨r_4, hF_5, hF⟩ := ob1_some hF
    refine kcV (q := (RX5, TX5, 13)) (ci := 5) (q0 := 0) (As := [.int p0]) (rest := []) (wr := [(A_t_wins, .inl (cy 3, 1024, .inl (fun j => bI (t_wins j)))), (A_t_fits, .inl (cy 0, 1024, .inl t_fits))]) (wsN := (w_X5_answer cy A_t A_t_s A_t_past A_t_begun A_t_text A_t_wins A_t_fits t_pasts t_thrown t_typed t_at t_letter t_one t_other t_s t_wins t_fits)) ⟨hx, hb, hml, hown, hts⟩ hE hP hD hS hA hAs [0, 1] [2, 3] [2, 3, 0, 1] (c_X5_isBreakersOwn l D cy s0 tW N A_t A_t_s A_t_past A_t_begun A_t_text A_t_wins A_t_fits p0 t_pasts t_thrown t_typed t_at t_letter t_one t_other t_s _ hF_5) (gV q_874 q_876 q_62 q_88 q_877) hd_X5_isBreakersOwn ⟨Nat.le_of_ble_eq_true rfl, Nat.le_of_ble_eq_true rfl⟩ rfl rfl rfl rfl rfl rfl rfl rfl rfl hl.1 rfl (Nat.le_of_ble_eq_true rfl) dX5_answer_16 ⟨Nat.zero_le _, Nat.zero_le _⟩ (fun H locs hP hD hS => ?_)
    refine W.eq (g2 := F0 m 19 ls [.int (bI r_4)]) rfl ?_
    refine lv_if_ne (tgt := 30) hx hb dX5_answer_19 (by decide) (fun c_6 => ?_) (fun c_6 => ?_)
    · replace hF := ite_t (bI_t c_6) hF
      refine lv_aload_n hx hb dX5_answer_30 rfl (lv_at hl 0 rfl) ?_
      refine lv_iconst (v := 2) hx hb dX5_answer_31 (by decide) ?_
      obtain ⟨r_7, t_thrown_8, hF_9, hF⟩ := ob2_some hF
      refine kcV (q := (RX5, TX5, 13)) (ci := 5) (q0 := 0) (As := [.int 2]) (rest := []) (wr := [(A_t_s, .inl (cy 0, 45, .inl t_s)), (A_t_wins, .inl (cy 3, 1024, .inl (fun j => bI (t_wins j)))), (A_t_fits, .inl (cy 0, 1024, .inl t_fits))]) (wsN := (w_X5_answer cy A_t A_t_s A_t_past A_t_begun A_t_text A_t_wins A_t_fits t_pasts t_thrown_8 t_typed t_at t_letter t_one t_other t_s t_wins t_fits)) ⟨hx, hb, hml, hown, hts⟩ hE hP hD hS hA hAs [0] [1, 2, 3] [3, 0, 1, 2] (c_X5_fails l D cy s0 tW N A_t A_t_s A_t_past A_t_begun A_t_text A_t_wins A_t_fits 2 t_pasts t_thrown t_typed t_at t_letter t_one t_other _ hF_9) (gV q_803 q_805 q_50 q_88 q_806) hd_X5_fails ⟨Nat.le_of_ble_eq_true rfl, Nat.le_of_ble_eq_true rfl⟩ rfl rfl rfl rfl rfl rfl rfl rfl rfl hl.1 rfl (Nat.le_of_ble_eq_true rfl) dX5_answer_32 ⟨Nat.zero_le _, Nat.zero_le _⟩ (fun H locs hP hD hS => ?_)
      refine W.eq (g2 := F0 m 35 ls [.int r_7]) rfl ?_
      cases hF
      exact kret_i hx hb hr hlocks hP hD hS dX5_answer_35
    · replace hF := ite_f (bI_f c_6) hF
      refine lv_aload_n hx hb dX5_answer_22 rfl (lv_at hl 0 rfl) ?_
      refine lv_iload_n hx hb dX5_answer_23 rfl (lv_at hl 2 rfl) ?_
      obtain ⟨r_10, hF_11, hF⟩ := ob1_some hF
      refine kcV (q := (RX5, TX5, 13)) (ci := 5) (q0 := 0) (As := [.int p1]) (rest := []) (wr := [(A_t_wins, .inl (cy 3, 1024, .inl (fun j => bI (t_wins j)))), (A_t_fits, .inl (cy 0, 1024, .inl t_fits))]) (wsN := (w_X5_answer cy A_t A_t_s A_t_past A_t_begun A_t_text A_t_wins A_t_fits t_pasts t_thrown t_typed t_at t_letter t_one t_other t_s t_wins t_fits)) ⟨hx, hb, hml, hown, hts⟩ hE hP hD hS hA hAs [0, 1] [2, 3] [2, 3, 0, 1] (c_X5_isPlay l D cy s0 tW N A_t A_t_s A_t_past A_t_begun A_t_text A_t_wins A_t_fits p1 t_pasts t_thrown t_typed t_at t_letter t_one t_other t_s _ hF_11) (gV q_846 q_848 q_57 q_88 q_849) hd_X5_isPlay ⟨Nat.le_of_ble_eq_true rfl, Nat.le_of_ble_eq_true rfl⟩ rfl rfl rfl rfl rfl rfl rfl rfl rfl hl.1 rfl (Nat.le_of_ble_eq_true rfl) dX5_answer_24 ⟨Nat.zero_le _, Nat.zero_le _⟩ (fun H locs hP hD hS => ?_)
      refine W.eq (g2 := F0 m 27 ls [.int (bI r_10)]) rfl ?_
      refine lv_if_ne (tgt := 36) hx hb dX5_answer_27 (by decide) (fun c_12 => ?_) (fun c_12 => ?_)
      · replace hF := ite_t (bI_t c_12) hF
        refine lv_aload_n hx hb dX5_answer_36 rfl (lv_at hl 0 rfl) ?_
        obtain ⟨t_fits_13, hF_14, hF⟩ := ob1_some hF
        refine kcV (q := (RX5, TX5, 13)) (ci := 5) (q0 := 0) (As := []) (rest := []) (wr := [(A_t_wins, .inl (cy 3, 1024, .inl (fun j => bI (t_wins j))))]) (wsN := (w_X5_answer cy A_t A_t_s A_t_past A_t_begun A_t_text A_t_wins A_t_fits t_pasts t_thrown t_typed t_at t_letter t_one t_other t_s t_wins t_fits_13)) ⟨hx, hb, hml, hown, hts⟩ hE hP hD hS hA hAs [0, 1, 3] [2] [1, 2, 0, 3] (c_X5_finds l D cy s0 tW N A_t A_t_s A_t_past A_t_begun A_t_text A_t_wins A_t_fits t_pasts t_thrown t_typed t_at t_letter t_one t_other t_s t_fits _ hF_14) (gV q_866 q_868 q_60 q_88 q_869) hd_X5_finds ⟨Nat.le_of_ble_eq_true rfl, Nat.le_of_ble_eq_true rfl⟩ rfl rfl rfl rfl rfl rfl rfl rfl rfl hl.1 rfl (Nat.le_of_ble_eq_true rfl) dX5_answer_37 ⟨Nat.zero_le _, Nat.zero_le _⟩ (fun H locs hP hD hS => ?_)
        refine W.eq (g2 := F0 m 40 ls []) rfl ?_
        refine lv_aload_n hx hb dX5_answer_40 rfl (lv_at hl 0 rfl) ?_
        refine lv_aload_n hx hb dX5_answer_41 rfl (lv_at hl 0 rfl) ?_
        refine lv_aload_n hx hb dX5_answer_42 rfl (lv_at hl 0 rfl) ?_
        refine va_get (D := D) (ci := 5) (v := .ref A_t_s) (C := RX5) (T := TX5) (N := 13) hx hb hts inX5 hown hK hP 0 rfl rfl 0 (by decide) (hts _ q_731) (fun _ h9 => h9) rfl dX5_answer_43 ?_
        refine lv_iconst (v := 3) hx hb dX5_answer_46 (by decide) ?_
        refine ka_iald hx hb hK hP 1 rfl (3) rfl (inb_in (by decide)) dX5_answer_47 ?_
        obtain ⟨r_15, t_wins_16, hF_17, hF⟩ := ob2_some hF
        refine kcV (q := (RX5, TX5, 13)) (ci := 5) (q0 := 0) (As := [.int (t_s 3)]) (rest := [.ref A_t]) (wr := []) (wsN := (w_X5_answer cy A_t A_t_s A_t_past A_t_begun A_t_text A_t_wins A_t_fits t_pasts t_thrown t_typed t_at t_letter t_one t_other t_s t_wins_16 t_fits_13)) ⟨hx, hb, hml, hown, hts⟩ hE hP hD hS hA hAs [0, 1, 2, 3] [] [0, 1, 2, 3] (c_X5_against l D cy s0 tW N A_t A_t_s A_t_past A_t_begun A_t_text A_t_wins A_t_fits (t_s 3) t_pasts t_thrown t_typed t_at t_letter t_one t_other t_s t_wins t_fits_13 _ hF_17) (gV q_878 q_880 q_63 q_88 q_881) hd_X5_against ⟨Nat.le_of_ble_eq_true rfl, Nat.le_of_ble_eq_true rfl⟩ rfl rfl rfl rfl rfl rfl rfl rfl rfl hl.1 rfl (Nat.le_of_ble_eq_true rfl) dX5_answer_48 ⟨Nat.zero_le _, Nat.zero_le _⟩ (fun H locs hP hD hS => ?_)
        refine W.eq (g2 := F0 m 51 ls [.int (bI r_15), .ref A_t]) rfl ?_
        refine lv_if_eq (tgt := 66) hx hb dX5_answer_51 (by decide) (fun c_18 => ?_) (fun c_18 => ?_)
        · replace hF := ite_f (bI_f c_18) hF
          refine lv_iconst (v := (-1)) hx hb dX5_answer_66 (by decide) ?_
          obtain ⟨r_19, t_thrown_20, hF_21, hF⟩ := ob2_some hF
          refine kcV (q := (RX5, TX5, 13)) (ci := 5) (q0 := 0) (As := [.int (-1)]) (rest := []) (wr := [(A_t_s, .inl (cy 0, 45, .inl t_s)), (A_t_wins, .inl (cy 3, 1024, .inl (fun j => bI (t_wins_16 j)))), (A_t_fits, .inl (cy 0, 1024, .inl t_fits_13))]) (wsN := (w_X5_answer cy A_t A_t_s A_t_past A_t_begun A_t_text A_t_wins A_t_fits t_pasts t_thrown_20 t_typed t_at t_letter t_one t_other t_s t_wins_16 t_fits_13)) ⟨hx, hb, hml, hown, hts⟩ hE hP hD hS hA hAs [0] [1, 2, 3] [3, 0, 1, 2] (c_X5_tells l D cy s0 tW N A_t A_t_s A_t_past A_t_begun A_t_text A_t_wins A_t_fits (-1) t_pasts t_thrown t_typed t_at t_letter t_one t_other _ hF_21) (gV q_788 q_790 q_48 q_88 q_791) hd_X5_tells ⟨Nat.le_of_ble_eq_true rfl, Nat.le_of_ble_eq_true rfl⟩ rfl rfl rfl rfl rfl rfl rfl rfl rfl hl.1 rfl (Nat.le_of_ble_eq_true rfl) dX5_answer_67 ⟨Nat.zero_le _, Nat.zero_le _⟩ (fun H locs hP hD hS => ?_)
          refine W.eq (g2 := F0 m 70 ls [.int r_19]) rfl ?_
          cases hF
          exact kret_i hx hb hr hlocks hP hD hS dX5_answer_70
        · replace hF := ite_t (bI_t c_18) hF
          refine lv_aload_n hx hb dX5_answer_54 rfl (lv_at hl 0 rfl) ?_
          refine lv_iload_n hx hb dX5_answer_55 rfl (lv_at hl 2 rfl) ?_
          obtain ⟨r_22, hF_23, hF⟩ := ob1_some hF
          refine kcV (q := (RX5, TX5, 13)) (ci := 5) (q0 := 0) (As := [.int p1]) (rest := [.ref A_t]) (wr := [(A_t_fits, .inl (cy 0, 1024, .inl t_fits_13))]) (wsN := (w_X5_answer cy A_t A_t_s A_t_past A_t_begun A_t_text A_t_wins A_t_fits t_pasts t_thrown t_typed t_at t_letter t_one t_other t_s t_wins_16 t_fits_13)) ⟨hx, hb, hml, hown, hts⟩ hE hP hD hS hA hAs [0, 1, 2] [3] [1, 2, 3, 0] (c_X5_answers l D cy s0 tW N A_t A_t_s A_t_past A_t_begun A_t_text A_t_wins A_t_fits p1 t_pasts t_thrown t_typed t_at t_letter t_one t_other t_s t_wins_16 _ hF_23) (gV q_886 q_888 q_65 q_88 q_889) hd_X5_answers ⟨Nat.le_of_ble_eq_true rfl, Nat.le_of_ble_eq_true rfl⟩ rfl rfl rfl rfl rfl rfl rfl rfl rfl hl.1 rfl (Nat.le_of_ble_eq_true rfl) dX5_answer_56 ⟨Nat.zero_le _, Nat.zero_le _⟩ (fun H locs hP hD hS => ?_)
          refine W.eq (g2 := F0 m 59 ls [.int r_22, .ref A_t]) rfl ?_
          refine lv_iload_n hx hb dX5_answer_59 rfl (lv_at hl 1 rfl) ?_
          refine lv_ishr hx hb dX5_answer_60 ?_
          refine lv_iconst (v := 1) hx hb dX5_answer_61 (by decide) ?_
          refine lv_iand hx hb dX5_answer_62 ?_
          refine lv_goto (tgt := 67) hx hb dX5_answer_63 (by decide) ?_
          obtain ⟨r_24, t_thrown_25, hF_26, hF⟩ := ob2_some hF
          refine kcV (q := (RX5, TX5, 13)) (ci := 5) (q0 := 0) (As := [.int ((r_22 >>> (p0 &&& 31)) &&& 1)]) (rest := []) (wr := [(A_t_s, .inl (cy 0, 45, .inl t_s)), (A_t_wins, .inl (cy 3, 1024, .inl (fun j => bI (t_wins_16 j)))), (A_t_fits, .inl (cy 0, 1024, .inl t_fits_13))]) (wsN := (w_X5_answer cy A_t A_t_s A_t_past A_t_begun A_t_text A_t_wins A_t_fits t_pasts t_thrown_25 t_typed t_at t_letter t_one t_other t_s t_wins_16 t_fits_13)) ⟨hx, hb, hml, hown, hts⟩ hE hP hD hS hA hAs [0] [1, 2, 3] [3, 0, 1, 2] (c_X5_tells l D cy s0 tW N A_t A_t_s A_t_past A_t_begun A_t_text A_t_wins A_t_fits ((r_22 >>> (p0 &&& 31)) &&& 1) t_pasts t_thrown t_typed t_at t_letter t_one t_other _ hF_26) (gV q_788 q_790 q_48 q_88 q_791) hd_X5_tells ⟨Nat.le_of_ble_eq_true rfl, Nat.le_of_ble_eq_true rfl⟩ rfl rfl rfl rfl rfl rfl rfl rfl rfl hl.1 rfl (Nat.le_of_ble_eq_true rfl) dX5_answer_67 ⟨Nat.zero_le _, Nat.zero_le _⟩ (fun H locs hP hD hS => ?_)
          refine W.eq (g2 := F0 m 70 ls [.int r_24]) rfl ?_
          cases hF
          exact kret_i hx hb hr hlocks hP hD hS dX5_answer_70
      · replace hF := ite_f (bI_f c_12) hF
        refine lv_aload_n hx hb dX5_answer_30 rfl (lv_at hl 0 rfl) ?_
        refine lv_iconst (v := 2) hx hb dX5_answer_31 (by decide) ?_
        obtain ⟨r_27, t_thrown_28, hF_29, hF⟩ := ob2_some hF
        refine kcV (q := (RX5, TX5, 13)) (ci := 5) (q0 := 0) (As := [.int 2]) (rest := []) (wr := [(A_t_s, .inl (cy 0, 45, .inl t_s)), (A_t_wins, .inl (cy 3, 1024, .inl (fun j => bI (t_wins j)))), (A_t_fits, .inl (cy 0, 1024, .inl t_fits))]) (wsN := (w_X5_answer cy A_t A_t_s A_t_past A_t_begun A_t_text A_t_wins A_t_fits t_pasts t_thrown_28 t_typed t_at t_letter t_one t_other t_s t_wins t_fits)) ⟨hx, hb, hml, hown, hts⟩ hE hP hD hS hA hAs [0] [1, 2, 3] [3, 0, 1, 2] (c_X5_fails l D cy s0 tW N A_t A_t_s A_t_past A_t_begun A_t_text A_t_wins A_t_fits 2 t_pasts t_thrown t_typed t_at t_letter t_one t_other _ hF_29) (gV q_803 q_805 q_50 q_88 q_806) hd_X5_fails ⟨Nat.le_of_ble_eq_true rfl, Nat.le_of_ble_eq_true rfl⟩ rfl rfl rfl rfl rfl rfl rfl rfl rfl hl.1 rfl (Nat.le_of_ble_eq_true rfl) dX5_answer_32 ⟨Nat.zero_le _, Nat.zero_le _⟩ (fun H locs hP hD hS => ?_)
        refine W.eq (g2 := F0 m 35 ls [.int r_27]) rfl ?_
        cases hF
        exact kret_i hx hb hr hlocks hP hD hS dX5_answer_35
  · replace hF := ite_f (bI_f c_3) hF
    refine lv_aload_n hx hb dX5_answer_8 rfl (lv_at hl 0 rfl) ?_
    refine lv_iconst (v := 1) hx hb dX5_answer_9 (by decide) ?_
    obtain ⟨r_30, t_thrown_31, hF_32, hF⟩ := ob2_some hF
    refine kcV (q := (RX5, TX5, 13)) (ci := 5) (q0 := 0) (As := [.int 1]) (rest := []) (wr := [(A_t_s, .inl (cy 0, 45, .inl t_s)), (A_t_wins, .inl (cy 3, 1024, .inl (fun j => bI (t_wins j)))), (A_t_fits, .inl (cy 0, 1024, .inl t_fits))]) (wsN := (w_X5_answer cy A_t A_t_s A_t_past A_t_begun A_t_text A_t_wins A_t_fits t_pasts t_thrown_31 t_typed t_at t_letter t_one t_other t_s t_wins t_fits)) ⟨hx, hb, hml, hown, hts⟩ hE hP hD hS hA hAs [0] [1, 2, 3] [3, 0, 1, 2] (c_X5_fails l D cy s0 tW N A_t A_t_s A_t_past A_t_begun A_t_text A_t_wins A_t_fits 1 t_pasts t_thrown t_typed t_at t_letter t_one t_other _ hF_32) (gV q_803 q_805 q_50 q_88 q_806) hd_X5_fails ⟨Nat.le_of_ble_eq_true rfl, Nat.le_of_ble_eq_true rfl⟩ rfl rfl rfl rfl rfl rfl rfl rfl rfl hl.1 rfl (Nat.le_of_ble_eq_true rfl) dX5_answer_10 ⟨Nat.zero_le _, Nat.zero_le _⟩ (fun H locs hP hD hS => ?_)
    refine W.eq (g2 := F0 m 13 ls [.int r_30]) rfl ?_
    cases hF
    exact kret_i hx hb hr hlocks hP hD hS dX5_answer_13

abbrev w_X5_copiesOfAll (cy : Nat → ClassId) (A_t : Nat) (A_t_s : Nat) (A_t_past : Nat) (A_t_begun : Nat) (A_t_text : Nat) (A_t_wins : Nat) (A_t_fits : Nat) (t_pasts : Int32) (t_thrown : Int32) (t_typed : Int32) (t_at : Int32) (t_letter : Int32) (t_one : Int32) (t_other : Int32) (t_s : Nat → Int32) : va_W := [(A_t, .inr (5, [.ref A_t_s, .ref A_t_past, .ref A_t_begun, .int t_pasts, .int t_thrown, .ref A_t_text, .int t_typed, .int t_at, .int t_letter, .int t_one, .int t_other, .ref A_t_wins, .ref A_t_fits])), (A_t_s, .inl (cy 0, 45, .inl t_s))]
def L_X5_copiesOfAll_36 (N : Nat) (t_s : Nat → Int32) (r_5 : Int32) (kont : Int32 → Option (Int32)) : Nat → Int32 → Int32 → Option (Int32)
  | 0, _, _ => none
  | n + 1, v4_7, v5_8 => (if (8 : Int32) ≤ v5_8 then kont v4_7 else (if (((t_s 3) >>> (v5_8 &&& 31)) &&& 1) = (1 : Int32) then nmv (v4_7 ||| ((1 : Int32) <<< ((v5_8 &&& (((1 : Int32) <<< (r_5 &&& 31)) - 1)) &&& 31))) (fun x_12 => L_X5_copiesOfAll_36 N t_s r_5 kont n x_12 (v5_8 + 1)) else L_X5_copiesOfAll_36 N t_s r_5 kont n (v4_7 ||| 0) (v5_8 + 1)))
def L_X5_copiesOfAll_4 (N : Nat) (t_s : Nat → Int32) (kont : Int32 → Option (Int32)) : Nat → Int32 → Int32 → Option (Int32)
  | 0, _, _ => none
  | n + 1, v1_1, v2_2 => (if (t_s 0) ≤ v2_2 then kont v1_1 else ob1 (F_X5_ones N ((t_s 1) &&& (((1 : Int32) <<< (v2_2 &&& 31)) - 1))) (fun r_5 => (L_X5_copiesOfAll_36 N t_s r_5 (fun u4_9 => ob1 (F_X5_isBreakersOwn N v2_2 t_s) (fun r_13 => (if r_13 = true then L_X5_copiesOfAll_4 N t_s kont n (v1_1 + 0) (v2_2 + 1) else ob1 (F_X5_ones N u4_9) (fun r_16 => L_X5_copiesOfAll_4 N t_s kont n (v1_1 + r_16) (v2_2 + 1))))) N 0 0)))
def F_X5_copiesOfAll (N : Nat) (t_s : Nat → Int32) : Option (Int32) :=
  (L_X5_copiesOfAll_4 N t_s (fun u1_3 => some u1_3) N 0 0)
set_option maxHeartbeats 4000000 in
set_option maxRecDepth 100000 in
theorem c_X5_copiesOfAll (l : Launch) (D : va_G) (cy : Nat → ClassId) (s0 tW N : Nat) (A_t : Nat) (A_t_s : Nat) (A_t_past : Nat) (A_t_begun : Nat) (A_t_text : Nat) (A_t_wins : Nat) (A_t_fits : Nat) (t_pasts : Int32) (t_thrown : Int32) (t_typed : Int32) (t_at : Int32) (t_letter : Int32) (t_one : Int32) (t_other : Int32) (t_s : Nat → Int32) (sz : Nat) {r9 : Int32} (hF : F_X5_copiesOfAll N t_s = some r9) : KM l D cy s0 tW yX5_copiesOfAll cX5_copiesOfAll 6 (some .int) 1 22 [.ref A_t] sz (w_X5_copiesOfAll cy A_t A_t_s A_t_past A_t_begun A_t_text A_t_wins A_t_fits t_pasts t_thrown t_typed t_at t_letter t_one t_other t_s) (some (.int r9)) (w_X5_copiesOfAll cy A_t A_t_s A_t_past A_t_begun A_t_text A_t_wins A_t_fits t_pasts t_thrown t_typed t_at t_letter t_one t_other t_s) := by
  refine KM.intro rfl (Nat.le_of_ble_eq_true rfl) ?_
  intro p e s m args below meth c A ls hx hb hr hml hown hts hlocks hE hP hD hS hA hAs hl
  have hK := hE.1
  have hl : lv_has ls 6 [(0, .ref A_t)] := hl
  unfold F_X5_copiesOfAll at hF
  refine lv_iconst (v := 0) hx hb dX5_copiesOfAll_0 (by decide) ?_
  refine lv_istore_n (lv' := [(1, .int 0), (0, .ref A_t)]) hx hb dX5_copiesOfAll_1 rfl hl (by decide) rfl (fun ls hl => ?_)
  refine lv_iconst (v := 0) hx hb dX5_copiesOfAll_2 (by decide) ?_
  refine lv_istore_n (lv' := [(2, .int 0), (1, .int 0), (0, .ref A_t)]) hx hb dX5_copiesOfAll_3 rfl hl (by decide) rfl (fun ls hl => ?_)
  have hloop_4 : ∀ (kont : Int32 → Option (Int32)), (∀ (u1_3 : Int32) (H : Heap) (locs : List Loc) (ls : Array Slot), kont u1_3 = some r9 → va_P D vwCl (w_X5_copiesOfAll cy A_t A_t_s A_t_past A_t_begun A_t_text A_t_wins A_t_fits t_pasts t_thrown t_typed t_at t_letter t_one t_other t_s) H → va_D A (w_X5_copiesOfAll cy A_t A_t_s A_t_past A_t_begun A_t_text A_t_wins A_t_fits t_pasts t_thrown t_typed t_at t_letter t_one t_other t_s) → va_S A s.heap H locs → lv_has ls 6 [(1, .int u1_3)] → W p l e (rmK 1 22) s m args below meth c H locs 0 0 (MQ below (kQ (some (.int r9)) D A (w_X5_copiesOfAll cy A_t A_t_s A_t_past A_t_begun A_t_text A_t_wins A_t_fits t_pasts t_thrown t_typed t_at t_letter t_one t_other t_s)) args s 0 0 A) (F0 m 109 ls [])) → ∀ (n : Nat) (v1_1 : Int32) (v2_2 : Int32) (H : Heap) (locs : List Loc) (ls : Array Slot), L_X5_copiesOfAll_4 N t_s kont n v1_1 v2_2 = some r9 → va_P D vwCl (w_X5_copiesOfAll cy A_t A_t_s A_t_past A_t_begun A_t_text A_t_wins A_t_fits t_pasts t_thrown t_typed t_at t_letter t_one t_other t_s) H → va_D A (w_X5_copiesOfAll cy A_t A_t_s A_t_past A_t_begun A_t_text A_t_wins A_t_fits t_pasts t_thrown t_typed t_at t_letter t_one t_other t_s) → va_S A s.heap H locs → lv_has ls 6 [(0, .ref A_t), (1, .int v1_1), (2, .int v2_2)] → W p l e (rmK 1 22) s m args below meth c H locs 0 0 (MQ below (kQ (some (.int r9)) D A (w_X5_copiesOfAll cy A_t A_t_s A_t_past A_t_begun A_t_text A_t_wins A_t_fits t_pasts t_thrown t_typed t_at t_letter t_one t_other t_s)) args s 0 0 A) (F0 m 4 ls []) := by
    intro kont hexit_4 n
    induction n with
    | zero =>
      intro v1_1 v2_2 H locs ls hF
      rw [L_X5_copiesOfAll_4] at hF
      cases hF
    | succ n ih =>
      intro v1_1 v2_2 H locs ls hF hP hD hS hl
      rw [L_X5_copiesOfAll_4] at hF
      refine lv_iload_n hx hb dX5_copiesOfAll_4 rfl (lv_at hl 2 rfl) ?_
      refine lv_aload_n hx hb dX5_copiesOfAll_5 rfl (lv_at hl 0 rfl) ?_
      refine va_get (D := D) (ci := 5) (v := .ref A_t_s) (C := RX5) (T := TX5) (N := 13) hx hb hts inX5 hown hK hP 0 rfl rfl 0 (by decide) (hts _ q_731) (fun _ h9 => h9) rfl dX5_copiesOfAll_6 ?_
      refine lv_iconst (v := 0) hx hb dX5_copiesOfAll_9 (by decide) ?_
      refine ka_iald hx hb hK hP 1 rfl (0) rfl (inb_in (by decide)) dX5_copiesOfAll_10 ?_
      refine lv_icmp_ge (tgt := 109) hx hb dX5_copiesOfAll_11 (by decide) (fun c_4 => ?_) (fun c_4 => ?_)
      · replace hF := ite_t c_4 hF
        exact hexit_4 v1_1 H locs ls hF hP hD hS (lv_sub hl [1] rfl)
      · replace hF := ite_f c_4 hF
        refine lv_aload_n hx hb dX5_copiesOfAll_14 rfl (lv_at hl 0 rfl) ?_
        refine va_get (D := D) (ci := 5) (v := .ref A_t_s) (C := RX5) (T := TX5) (N := 13) hx hb hts inX5 hown hK hP 0 rfl rfl 0 (by decide) (hts _ q_731) (fun _ h9 => h9) rfl dX5_copiesOfAll_15 ?_
        refine lv_iconst (v := 1) hx hb dX5_copiesOfAll_18 (by decide) ?_
        refine ka_iald hx hb hK hP 1 rfl (1) rfl (inb_in (by decide)) dX5_copiesOfAll_19 ?_
        refine lv_iconst (v := 1) hx hb dX5_copiesOfAll_20 (by decide) ?_
        refine lv_iload_n hx hb dX5_copiesOfAll_21 rfl (lv_at hl 2 rfl) ?_
        refine lv_ishl hx hb dX5_copiesOfAll_22 ?_
        refine lv_iconst (v := 1) hx hb dX5_copiesOfAll_23 (by decide) ?_
        refine lv_isub hx hb dX5_copiesOfAll_24 ?_
        refine lv_iand hx hb dX5_copiesOfAll_25 ?_
        obtain ⟨r_5, hF_6, hF⟩ := ob1_some hF
        refine kcS (As := [.int ((t_s 1) &&& (((1 : Int32) <<< (v2_2 &&& 31)) - 1))]) (rest := []) (wr := [(A_t, .inr (5, [.ref A_t_s, .ref A_t_past, .ref A_t_begun, .int t_pasts, .int t_thrown, .ref A_t_text, .int t_typed, .int t_at, .int t_letter, .int t_one, .int t_other, .ref A_t_wins, .ref A_t_fits])), (A_t_s, .inl (cy 0, 45, .inl t_s))]) (wsN := (w_X5_copiesOfAll cy A_t A_t_s A_t_past A_t_begun A_t_text A_t_wins A_t_fits t_pasts t_thrown t_typed t_at t_letter t_one t_other t_s)) ⟨hx, hb, hml, hown, hts⟩ hE hP hD hS hA hAs [] [0, 1] [0, 1] (c_X5_ones l D cy s0 tW N ((t_s 1) &&& (((1 : Int32) <<< (v2_2 &&& 31)) - 1)) _ hF_6) (gS q_800 q_801 q_88 q_802) hd_X5_ones.2 ⟨Nat.le_of_ble_eq_true rfl, Nat.le_of_ble_eq_true rfl⟩ rfl rfl rfl rfl rfl rfl rfl hl.1 rfl (Nat.le_of_ble_eq_true rfl) dX5_copiesOfAll_26 ⟨Nat.zero_le _, Nat.zero_le _⟩ (fun H locs hP hD hS => ?_)
        refine W.eq (g2 := F0 m 29 ls [.int r_5]) rfl ?_
        refine lv_istore_n (lv' := [(3, .int r_5), (0, .ref A_t), (1, .int v1_1), (2, .int v2_2)]) hx hb dX5_copiesOfAll_29 rfl hl (by decide) rfl (fun ls hl => ?_)
        refine lv_iconst (v := 0) hx hb dX5_copiesOfAll_30 (by decide) ?_
        refine lv_istore (lv' := [(4, .int 0), (3, .int r_5), (0, .ref A_t), (1, .int v1_1), (2, .int v2_2)]) hx hb dX5_copiesOfAll_31 hl (by decide) rfl (fun ls hl => ?_)
        refine lv_iconst (v := 0) hx hb dX5_copiesOfAll_33 (by decide) ?_
        refine lv_istore (lv' := [(5, .int 0), (4, .int 0), (3, .int r_5), (0, .ref A_t), (1, .int v1_1), (2, .int v2_2)]) hx hb dX5_copiesOfAll_34 hl (by decide) rfl (fun ls hl => ?_)
        have hloop_36 : ∀ (kont : Int32 → Option (Int32)), (∀ (u4_9 : Int32) (H : Heap) (locs : List Loc) (ls : Array Slot), kont u4_9 = some r9 → va_P D vwCl (w_X5_copiesOfAll cy A_t A_t_s A_t_past A_t_begun A_t_text A_t_wins A_t_fits t_pasts t_thrown t_typed t_at t_letter t_one t_other t_s) H → va_D A (w_X5_copiesOfAll cy A_t A_t_s A_t_past A_t_begun A_t_text A_t_wins A_t_fits t_pasts t_thrown t_typed t_at t_letter t_one t_other t_s) → va_S A s.heap H locs → lv_has ls 6 [(0, .ref A_t), (1, .int v1_1), (2, .int v2_2), (4, .int u4_9)] → W p l e (rmK 1 22) s m args below meth c H locs 0 0 (MQ below (kQ (some (.int r9)) D A (w_X5_copiesOfAll cy A_t A_t_s A_t_past A_t_begun A_t_text A_t_wins A_t_fits t_pasts t_thrown t_typed t_at t_letter t_one t_other t_s)) args s 0 0 A) (F0 m 83 ls [])) → ∀ (n : Nat) (v4_7 : Int32) (v5_8 : Int32) (H : Heap) (locs : List Loc) (ls : Array Slot), L_X5_copiesOfAll_36 N t_s r_5 kont n v4_7 v5_8 = some r9 → va_P D vwCl (w_X5_copiesOfAll cy A_t A_t_s A_t_past A_t_begun A_t_text A_t_wins A_t_fits t_pasts t_thrown t_typed t_at t_letter t_one t_other t_s) H → va_D A (w_X5_copiesOfAll cy A_t A_t_s A_t_past A_t_begun A_t_text A_t_wins A_t_fits t_pasts t_thrown t_typed t_at t_letter t_one t_other t_s) → va_S A s.heap H locs → lv_has ls 6 [(0, .ref A_t), (1, .int v1_1), (2, .int v2_2), (3, .int r_5), (4, .int v4_7), (5, .int v5_8)] → W p l e (rmK 1 22) s m args below meth c H locs 0 0 (MQ below (kQ (some (.int r9)) D A (w_X5_copiesOfAll cy A_t A_t_s A_t_past A_t_begun A_t_text A_t_wins A_t_fits t_pasts t_thrown t_typed t_at t_letter t_one t_other t_s)) args s 0 0 A) (F0 m 36 ls []) := by
          intro kont hexit_36 n
          induction n with
          | zero =>
            intro v4_7 v5_8 H locs ls hF
            rw [L_X5_copiesOfAll_36] at hF
            cases hF
          | succ n ih =>
            intro v4_7 v5_8 H locs ls hF hP hD hS hl
            rw [L_X5_copiesOfAll_36] at hF
            refine lv_iload hx hb dX5_copiesOfAll_36 (lv_at hl 5 rfl) ?_
            refine lv_bipush (v := 8) hx hb dX5_copiesOfAll_38 (by decide) ?_
            refine lv_icmp_ge (tgt := 83) hx hb dX5_copiesOfAll_40 (by decide) (fun c_10 => ?_) (fun c_10 => ?_)
            · replace hF := ite_t c_10 hF
              exact hexit_36 v4_7 H locs ls hF hP hD hS (lv_sub hl [0, 1, 2, 4] rfl)
            · replace hF := ite_f c_10 hF
              refine lv_iload hx hb dX5_copiesOfAll_43 (lv_at hl 4 rfl) ?_
              refine lv_aload_n hx hb dX5_copiesOfAll_45 rfl (lv_at hl 0 rfl) ?_
              refine va_get (D := D) (ci := 5) (v := .ref A_t_s) (C := RX5) (T := TX5) (N := 13) hx hb hts inX5 hown hK hP 0 rfl rfl 0 (by decide) (hts _ q_731) (fun _ h9 => h9) rfl dX5_copiesOfAll_46 ?_
              refine lv_iconst (v := 3) hx hb dX5_copiesOfAll_49 (by decide) ?_
              refine ka_iald hx hb hK hP 1 rfl (3) rfl (inb_in (by decide)) dX5_copiesOfAll_50 ?_
              refine lv_iload hx hb dX5_copiesOfAll_51 (lv_at hl 5 rfl) ?_
              refine lv_ishr hx hb dX5_copiesOfAll_53 ?_
              refine lv_iconst (v := 1) hx hb dX5_copiesOfAll_54 (by decide) ?_
              refine lv_iand hx hb dX5_copiesOfAll_55 ?_
              refine lv_iconst (v := 1) hx hb dX5_copiesOfAll_56 (by decide) ?_
              refine lv_icmp_ne (tgt := 73) hx hb dX5_copiesOfAll_57 (by decide) (fun c_11 => ?_) (fun c_11 => ?_)
              · replace hF := ite_f c_11 hF
                refine lv_iconst (v := 0) hx hb dX5_copiesOfAll_73 (by decide) ?_
                refine lv_ior hx hb dX5_copiesOfAll_74 ?_
                refine lv_istore (lv' := [(4, .int (v4_7 ||| 0)), (0, .ref A_t), (1, .int v1_1), (2, .int v2_2), (3, .int r_5), (5, .int v5_8)]) hx hb dX5_copiesOfAll_75 hl (by decide) rfl (fun ls hl => ?_)
                refine lv_iinc (v := (v5_8 + 1)) (lv' := [(5, .int (v5_8 + 1)), (4, .int (v4_7 ||| 0)), (0, .ref A_t), (1, .int v1_1), (2, .int v2_2), (3, .int r_5)]) hx hb dX5_copiesOfAll_77 hl (k := 5) rfl (by first | rfl | decide) (by decide) rfl (fun ls hl => ?_)
                refine lv_goto (tgt := 36) hx hb dX5_copiesOfAll_80 (by decide) ?_
                exact ih (v4_7 ||| 0) (v5_8 + 1) H locs ls hF hP hD hS (lv_sub hl [2, 3, 4, 5, 1, 0] rfl)
              · replace hF := ite_t c_11 hF
                refine lv_iconst (v := 1) hx hb dX5_copiesOfAll_60 (by decide) ?_
                refine lv_iload hx hb dX5_copiesOfAll_61 (lv_at hl 5 rfl) ?_
                refine lv_iconst (v := 1) hx hb dX5_copiesOfAll_63 (by decide) ?_
                refine lv_iload_n hx hb dX5_copiesOfAll_64 rfl (lv_at hl 3 rfl) ?_
                refine lv_ishl hx hb dX5_copiesOfAll_65 ?_
                refine lv_iconst (v := 1) hx hb dX5_copiesOfAll_66 (by decide) ?_
                refine lv_isub hx hb dX5_copiesOfAll_67 ?_
                refine lv_iand hx hb dX5_copiesOfAll_68 ?_
                refine lv_ishl hx hb dX5_copiesOfAll_69 ?_
                refine lv_goto (tgt := 74) hx hb dX5_copiesOfAll_70 (by decide) ?_
                refine lv_ior hx hb dX5_copiesOfAll_74 ?_
                refine lv_topi (fun x_12 ex_12 => ?_)
                replace hF := nmv_at ex_12 hF
                refine lv_istore (lv' := [(4, .int x_12), (0, .ref A_t), (1, .int v1_1), (2, .int v2_2), (3, .int r_5), (5, .int v5_8)]) hx hb dX5_copiesOfAll_75 hl (by decide) rfl (fun ls hl => ?_)
                refine lv_iinc (v := (v5_8 + 1)) (lv' := [(5, .int (v5_8 + 1)), (4, .int x_12), (0, .ref A_t), (1, .int v1_1), (2, .int v2_2), (3, .int r_5)]) hx hb dX5_copiesOfAll_77 hl (k := 5) rfl (by first | rfl | decide) (by decide) rfl (fun ls hl => ?_)
                refine lv_goto (tgt := 36) hx hb dX5_copiesOfAll_80 (by decide) ?_
                exact ih x_12 (v5_8 + 1) H locs ls hF hP hD hS (lv_sub hl [2, 3, 4, 5, 1, 0] rfl)
        refine hloop_36 _ (fun u4_9 H locs ls hF hP hD hS hl => ?_) N 0 0 _ _ ls hF hP hD hS (lv_sub hl [3, 4, 5, 2, 1, 0] rfl)
        refine lv_iload_n hx hb dX5_copiesOfAll_83 rfl (lv_at hl 1 rfl) ?_
        refine lv_aload_n hx hb dX5_copiesOfAll_84 rfl (lv_at hl 0 rfl) ?_
        refine lv_iload_n hx hb dX5_copiesOfAll_85 rfl (lv_at hl 2 rfl) ?_
        obtain ⟨r_13, hF_14, hF⟩ := ob1_some hF
        refine kcV (q := (RX5, TX5, 13)) (ci := 5) (q0 := 0) (As := [.int v2_2]) (rest := [.int v1_1]) (wr := []) (wsN := (w_X5_copiesOfAll cy A_t A_t_s A_t_past A_t_begun A_t_text A_t_wins A_t_fits t_pasts t_thrown t_typed t_at t_letter t_one t_other t_s)) ⟨hx, hb, hml, hown, hts⟩ hE hP hD hS hA hAs [0, 1] [] [0, 1] (c_X5_isBreakersOwn l D cy s0 tW N A_t A_t_s A_t_past A_t_begun A_t_text A_t_wins A_t_fits v2_2 t_pasts t_thrown t_typed t_at t_letter t_one t_other t_s _ hF_14) (gV q_874 q_876 q_62 q_88 q_877) hd_X5_isBreakersOwn ⟨Nat.le_of_ble_eq_true rfl, Nat.le_of_ble_eq_true rfl⟩ rfl rfl rfl rfl rfl rfl rfl rfl rfl hl.1 rfl (Nat.le_of_ble_eq_true rfl) dX5_copiesOfAll_86 ⟨Nat.zero_le _, Nat.zero_le _⟩ (fun H locs hP hD hS => ?_)
        refine W.eq (g2 := F0 m 89 ls [.int (bI r_13), .int v1_1]) rfl ?_
        refine lv_if_eq (tgt := 96) hx hb dX5_copiesOfAll_89 (by decide) (fun c_15 => ?_) (fun c_15 => ?_)
        · replace hF := ite_f (bI_f c_15) hF
          refine lv_iload hx hb dX5_copiesOfAll_96 (lv_at hl 3 rfl) ?_
          obtain ⟨r_16, hF_17, hF⟩ := ob1_some hF
          refine kcS (As := [.int u4_9]) (rest := [.int v1_1]) (wr := [(A_t, .inr (5, [.ref A_t_s, .ref A_t_past, .ref A_t_begun, .int t_pasts, .int t_thrown, .ref A_t_text, .int t_typed, .int t_at, .int t_letter, .int t_one, .int t_other, .ref A_t_wins, .ref A_t_fits])), (A_t_s, .inl (cy 0, 45, .inl t_s))]) (wsN := (w_X5_copiesOfAll cy A_t A_t_s A_t_past A_t_begun A_t_text A_t_wins A_t_fits t_pasts t_thrown t_typed t_at t_letter t_one t_other t_s)) ⟨hx, hb, hml, hown, hts⟩ hE hP hD hS hA hAs [] [0, 1] [0, 1] (c_X5_ones l D cy s0 tW N u4_9 _ hF_17) (gS q_800 q_801 q_88 q_802) hd_X5_ones.2 ⟨Nat.le_of_ble_eq_true rfl, Nat.le_of_ble_eq_true rfl⟩ rfl rfl rfl rfl rfl rfl rfl hl.1 rfl (Nat.le_of_ble_eq_true rfl) dX5_copiesOfAll_98 ⟨Nat.zero_le _, Nat.zero_le _⟩ (fun H locs hP hD hS => ?_)
          refine W.eq (g2 := F0 m 101 ls [.int r_16, .int v1_1]) rfl ?_
          refine lv_iadd hx hb dX5_copiesOfAll_101 ?_
          refine lv_istore_n (lv' := [(1, .int (v1_1 + r_16)), (0, .ref A_t), (2, .int v2_2), (4, .int u4_9)]) hx hb dX5_copiesOfAll_102 rfl hl (by decide) rfl (fun ls hl => ?_)
          refine lv_iinc (v := (v2_2 + 1)) (lv' := [(2, .int (v2_2 + 1)), (1, .int (v1_1 + r_16)), (0, .ref A_t), (4, .int u4_9)]) hx hb dX5_copiesOfAll_103 hl (k := 2) rfl (by first | rfl | decide) (by decide) rfl (fun ls hl => ?_)
          refine lv_goto (tgt := 4) hx hb dX5_copiesOfAll_106 (by decide) ?_
          exact ih (v1_1 + r_16) (v2_2 + 1) H locs ls hF hP hD hS (lv_sub hl [2, 1, 0] rfl)
        · replace hF := ite_t (bI_t c_15) hF
          refine lv_iconst (v := 0) hx hb dX5_copiesOfAll_92 (by decide) ?_
          refine lv_goto (tgt := 101) hx hb dX5_copiesOfAll_93 (by decide) ?_
          refine lv_iadd hx hb dX5_copiesOfAll_101 ?_
          refine lv_istore_n (lv' := [(1, .int (v1_1 + 0)), (0, .ref A_t), (2, .int v2_2), (4, .int u4_9)]) hx hb dX5_copiesOfAll_102 rfl hl (by decide) rfl (fun ls hl => ?_)
          refine lv_iinc (v := (v2_2 + 1)) (lv' := [(2, .int (v2_2 + 1)), (1, .int (v1_1 + 0)), (0, .ref A_t), (4, .int u4_9)]) hx hb dX5_copiesOfAll_103 hl (k := 2) rfl (by first | rfl | decide) (by decide) rfl (fun ls hl => ?_)
          refine lv_goto (tgt := 4) hx hb dX5_copiesOfAll_106 (by decide) ?_
          exact ih (v1_1 + 0) (v2_2 + 1) H locs ls hF hP hD hS (lv_sub hl [2, 1, 0] rfl)
  refine hloop_4 _ (fun u1_3 H locs ls hF hP hD hS hl => ?_) N 0 0 _ _ ls hF hP hD hS (lv_sub hl [2, 1, 0] rfl)
  refine lv_iload_n hx hb dX5_copiesOfAll_109 rfl (lv_at hl 0 rfl) ?_
  cases hF
  exact kret_i hx hb hr hlocks hP hD hS dX5_copiesOfAll_110

theorem q_74 : Cond.selects RX5 yX5_copiesOfAll yX5_copiesOfAll ∈ wAll := wAll_mem 74 (by decide +kernel) (by decide +kernel)
theorem q_970 : Cond.methodLink RX5 135 yX5_copiesOfAll ∈ wAll := wAll_mem 970 (by decide +kernel) (by decide +kernel)
theorem q_972 : Cond.instanceMethod yX5_copiesOfAll ∈ wAll := wAll_mem 972 (by decide +kernel) (by decide +kernel)
theorem q_973 : Cond.code yX5_copiesOfAll cX5_copiesOfAll 6 (some .int) ∈ wAll := wAll_mem 973 (by decide +kernel) (by decide +kernel)
theorem hd_X5_copiesOfAll : yX5_copiesOfAll.cls = RX5 ∧ yX5_copiesOfAll.cls ≠ "java/lang/invoke/MethodHandle" ∧ yX5_copiesOfAll.cls ≠ "java/lang/invoke/VarHandle" ∧ (parseMethodDescriptor yX5_copiesOfAll.desc).map (fun d => d.parameters.length) = some 0 := by decide +kernel
abbrev w_X5_copies (cy : Nat → ClassId) (A_t : Nat) (A_t_s : Nat) (A_t_past : Nat) (A_t_begun : Nat) (A_t_text : Nat) (A_t_wins : Nat) (A_t_fits : Nat) (t_pasts : Int32) (t_thrown : Int32) (t_typed : Int32) (t_at : Int32) (t_letter : Int32) (t_one : Int32) (t_other : Int32) (t_s : Nat → Int32) : va_W := [(A_t, .inr (5, [.ref A_t_s, .ref A_t_past, .ref A_t_begun, .int t_pasts, .int t_thrown, .ref A_t_text, .int t_typed, .int t_at, .int t_letter, .int t_one, .int t_other, .ref A_t_wins, .ref A_t_fits])), (A_t_s, .inl (cy 0, 45, .inl t_s))]
def F_X5_copies (N : Nat) (t_s : Nat → Int32) (t_thrown : Int32) : Option (Int32 × Int32) :=
  ob1 (F_X5_copiesOfAll N t_s) (fun r_1 => ob2 (F_X5_tells N r_1 t_thrown) (fun r_3 t_thrown_4 => some (r_3, t_thrown_4)))
set_option maxHeartbeats 4000000 in
set_option maxRecDepth 100000 in
theorem c_X5_copies (l : Launch) (D : va_G) (cy : Nat → ClassId) (s0 tW N : Nat) (A_t : Nat) (A_t_s : Nat) (A_t_past : Nat) (A_t_begun : Nat) (A_t_text : Nat) (A_t_wins : Nat) (A_t_fits : Nat) (t_pasts : Int32) (t_thrown : Int32) (t_typed : Int32) (t_at : Int32) (t_letter : Int32) (t_one : Int32) (t_other : Int32) (t_s : Nat → Int32) (sz : Nat) {r9 : Int32} {t_thrown9 : Int32} (hF : F_X5_copies N t_s t_thrown = some (r9, t_thrown9)) : KM l D cy s0 tW yX5_copies cX5_copies 1 (some .int) 2 47 [.ref A_t] sz (w_X5_copies cy A_t A_t_s A_t_past A_t_begun A_t_text A_t_wins A_t_fits t_pasts t_thrown t_typed t_at t_letter t_one t_other t_s) (some (.int r9)) (w_X5_copies cy A_t A_t_s A_t_past A_t_begun A_t_text A_t_wins A_t_fits t_pasts t_thrown9 t_typed t_at t_letter t_one t_other t_s) := by
  refine KM.intro rfl (Nat.le_of_ble_eq_true rfl) ?_
  intro p e s m args below meth c A ls hx hb hr hml hown hts hlocks hE hP hD hS hA hAs hl
  have hK := hE.1
  have hl : lv_has ls 1 [(0, .ref A_t)] := hl
  unfold F_X5_copies at hF
  refine lv_aload_n hx hb dX5_copies_0 rfl (lv_at hl 0 rfl) ?_
  refine lv_aload_n hx hb dX5_copies_1 rfl (lv_at hl 0 rfl) ?_
  obtain ⟨r_1, hF_2, hF⟩ := ob1_some hF
  refine kcV (q := (RX5, TX5, 13)) (ci := 5) (q0 := 0) (As := []) (rest := [.ref A_t]) (wr := []) (wsN := (w_X5_copies cy A_t A_t_s A_t_past A_t_begun A_t_text A_t_wins A_t_fits t_pasts t_thrown t_typed t_at t_letter t_one t_other t_s)) ⟨hx, hb, hml, hown, hts⟩ hE hP hD hS hA hAs [0, 1] [] [0, 1] (c_X5_copiesOfAll l D cy s0 tW N A_t A_t_s A_t_past A_t_begun A_t_text A_t_wins A_t_fits t_pasts t_thrown t_typed t_at t_letter t_one t_other t_s _ hF_2) (gV q_970 q_972 q_74 q_88 q_973) hd_X5_copiesOfAll ⟨Nat.le_of_ble_eq_true rfl, Nat.le_of_ble_eq_true rfl⟩ rfl rfl rfl rfl rfl rfl rfl rfl rfl hl.1 rfl (Nat.le_of_ble_eq_true rfl) dX5_copies_2 ⟨Nat.zero_le _, Nat.zero_le _⟩ (fun H locs hP hD hS => ?_)
  refine W.eq (g2 := F0 m 5 ls [.int r_1, .ref A_t]) rfl ?_
  obtain ⟨r_3, t_thrown_4, hF_5, hF⟩ := ob2_some hF
  refine kcV (q := (RX5, TX5, 13)) (ci := 5) (q0 := 0) (As := [.int r_1]) (rest := []) (wr := [(A_t_s, .inl (cy 0, 45, .inl t_s))]) (wsN := (w_X5_copies cy A_t A_t_s A_t_past A_t_begun A_t_text A_t_wins A_t_fits t_pasts t_thrown_4 t_typed t_at t_letter t_one t_other t_s)) ⟨hx, hb, hml, hown, hts⟩ hE hP hD hS hA hAs [0] [1] [1, 0] (c_X5_tells l D cy s0 tW N A_t A_t_s A_t_past A_t_begun A_t_text A_t_wins A_t_fits r_1 t_pasts t_thrown t_typed t_at t_letter t_one t_other _ hF_5) (gV q_788 q_790 q_48 q_88 q_791) hd_X5_tells ⟨Nat.le_of_ble_eq_true rfl, Nat.le_of_ble_eq_true rfl⟩ rfl rfl rfl rfl rfl rfl rfl rfl rfl hl.1 rfl (Nat.le_of_ble_eq_true rfl) dX5_copies_5 ⟨Nat.zero_le _, Nat.zero_le _⟩ (fun H locs hP hD hS => ?_)
  refine W.eq (g2 := F0 m 8 ls [.int r_3]) rfl ?_
  cases hF
  exact kret_i hx hb hr hlocks hP hD hS dX5_copies_8

abbrev w_X5_least (cy : Nat → ClassId) (A_t : Nat) (A_t_s : Nat) (A_t_past : Nat) (A_t_begun : Nat) (A_t_text : Nat) (A_t_wins : Nat) (A_t_fits : Nat) (t_pasts : Int32) (t_thrown : Int32) (t_typed : Int32) (t_at : Int32) (t_letter : Int32) (t_one : Int32) (t_other : Int32) (t_s : Nat → Int32) (t_wins : Nat → Bool) (t_fits : Nat → Int32) : va_W := [(A_t, .inr (5, [.ref A_t_s, .ref A_t_past, .ref A_t_begun, .int t_pasts, .int t_thrown, .ref A_t_text, .int t_typed, .int t_at, .int t_letter, .int t_one, .int t_other, .ref A_t_wins, .ref A_t_fits])), (A_t_s, .inl (cy 0, 45, .inl t_s)), (A_t_wins, .inl (cy 3, 1024, .inl (fun j => bI (t_wins j)))), (A_t_fits, .inl (cy 0, 1024, .inl t_fits))]
def L_X5_least_8 (N : Nat) (t_s : Nat → Int32) (t_fits_1 : Nat → Int32) (kont : Int32 → (Nat → Bool) → Option (Int32 × (Nat → Bool) × (Nat → Int32))) : Nat → Int32 → Int32 → (Nat → Bool) → Option (Int32 × (Nat → Bool) × (Nat → Int32))
  | 0, _, _, _ => none
  | n + 1, v1_3, v2_4, t_wins_5 => ob1 (F_X5_plays N t_s) (fun r_8 => (if ((1 : Int32) <<< (r_8 &&& 31)) ≤ v2_4 then kont v1_3 t_wins_5 else (if v1_3 < (0 : Int32) then ob2 (F_X5_against N v2_4 t_s t_wins_5 t_fits_1) (fun r_12 t_wins_13 => (if r_12 = true then L_X5_least_8 N t_s t_fits_1 kont n v1_3 (v2_4 + 1) t_wins_13 else L_X5_least_8 N t_s t_fits_1 kont n v2_4 (v2_4 + 1) t_wins_13)) else ob1 (F_X5_ones N v2_4) (fun r_16 => ob1 (F_X5_ones N v1_3) (fun r_18 => (if r_18 ≤ r_16 then L_X5_least_8 N t_s t_fits_1 kont n v1_3 (v2_4 + 1) t_wins_5 else ob2 (F_X5_against N v2_4 t_s t_wins_5 t_fits_1) (fun r_21 t_wins_22 => (if r_21 = true then L_X5_least_8 N t_s t_fits_1 kont n v1_3 (v2_4 + 1) t_wins_22 else L_X5_least_8 N t_s t_fits_1 kont n v2_4 (v2_4 + 1) t_wins_22))))))))
def F_X5_least (N : Nat) (t_s : Nat → Int32) (t_wins : Nat → Bool) (t_fits : Nat → Int32) : Option (Int32 × (Nat → Bool) × (Nat → Int32)) :=
  ob1 (F_X5_finds N t_s t_fits) (fun t_fits_1 => (L_X5_least_8 N t_s t_fits_1 (fun u1_6 t_wins_7 => some (u1_6, t_wins_7, t_fits_1)) N (-1) 1 t_wins))
set_option maxHeartbeats 4000000 in
set_option maxRecDepth 100000 in
theorem c_X5_least (l : Launch) (D : va_G) (cy : Nat → ClassId) (s0 tW N : Nat) (A_t : Nat) (A_t_s : Nat) (A_t_past : Nat) (A_t_begun : Nat) (A_t_text : Nat) (A_t_wins : Nat) (A_t_fits : Nat) (t_pasts : Int32) (t_thrown : Int32) (t_typed : Int32) (t_at : Int32) (t_letter : Int32) (t_one : Int32) (t_other : Int32) (t_s : Nat → Int32) (t_wins : Nat → Bool) (t_fits : Nat → Int32) (sz : Nat) {r9 : Int32} {t_wins9 : Nat → Bool} {t_fits9 : Nat → Int32} (hF : F_X5_least N t_s t_wins t_fits = some (r9, t_wins9, t_fits9)) : KM l D cy s0 tW yX5_least cX5_least 4 (some .int) 3 71 [.ref A_t] sz (w_X5_least cy A_t A_t_s A_t_past A_t_begun A_t_text A_t_wins A_t_fits t_pasts t_thrown t_typed t_at t_letter t_one t_other t_s t_wins t_fits) (some (.int r9)) (w_X5_least cy A_t A_t_s A_t_past A_t_begun A_t_text A_t_wins A_t_fits t_pasts t_thrown t_typed t_at t_letter t_one t_other t_s t_wins9 t_fits9) := by
  refine KM.intro rfl (Nat.le_of_ble_eq_true rfl) ?_
  intro p e s m args below meth c A ls hx hb hr hml hown hts hlocks hE hP hD hS hA hAs hl
  have hK := hE.1
  have hl : lv_has ls 4 [(0, .ref A_t)] := hl
  unfold F_X5_least at hF
  refine lv_aload_n hx hb dX5_least_0 rfl (lv_at hl 0 rfl) ?_
  obtain ⟨t_fits_1, hF_2, hF⟩ := ob1_some hF
  refine kcV (q := (RX5, TX5, 13)) (ci := 5) (q0 := 0) (As := []) (rest := []) (wr := [(A_t_wins, .inl (cy 3, 1024, .inl (fun j => bI (t_wins j))))]) (wsN := (w_X5_least cy A_t A_t_s A_t_past A_t_begun A_t_text A_t_wins A_t_fits t_pasts t_thrown t_typed t_at t_letter t_one t_other t_s t_wins t_fits_1)) ⟨hx, hb, hml, hown, hts⟩ hE hP hD hS hA hAs [0, 1, 3] [2] [1, 2, 0, 3] (c_X5_finds l D cy s0 tW N A_t A_t_s A_t_past A_t_begun A_t_text A_t_wins A_t_fits t_pasts t_thrown t_typed t_at t_letter t_one t_other t_s t_fits _ hF_2) (gV q_866 q_868 q_60 q_88 q_869) hd_X5_finds ⟨Nat.le_of_ble_eq_true rfl, Nat.le_of_ble_eq_true rfl⟩ rfl rfl rfl rfl rfl rfl rfl rfl rfl hl.1 rfl (Nat.le_of_ble_eq_true rfl) dX5_least_1 ⟨Nat.zero_le _, Nat.zero_le _⟩ (fun H locs hP hD hS => ?_)
  refine W.eq (g2 := F0 m 4 ls []) rfl ?_
  refine lv_iconst (v := (-1)) hx hb dX5_least_4 (by decide) ?_
  refine lv_istore_n (lv' := [(1, .int (-1)), (0, .ref A_t)]) hx hb dX5_least_5 rfl hl (by decide) rfl (fun ls hl => ?_)
  refine lv_iconst (v := 1) hx hb dX5_least_6 (by decide) ?_
  refine lv_istore_n (lv' := [(2, .int 1), (1, .int (-1)), (0, .ref A_t)]) hx hb dX5_least_7 rfl hl (by decide) rfl (fun ls hl => ?_)
  have hloop_8 : ∀ (kont : Int32 → (Nat → Bool) → Option (Int32 × (Nat → Bool) × (Nat → Int32))), (∀ (u1_6 : Int32) (t_wins_7 : Nat → Bool) (H : Heap) (locs : List Loc) (ls : Array Slot), kont u1_6 t_wins_7 = some (r9, t_wins9, t_fits9) → va_P D vwCl (w_X5_least cy A_t A_t_s A_t_past A_t_begun A_t_text A_t_wins A_t_fits t_pasts t_thrown t_typed t_at t_letter t_one t_other t_s t_wins_7 t_fits_1) H → va_D A (w_X5_least cy A_t A_t_s A_t_past A_t_begun A_t_text A_t_wins A_t_fits t_pasts t_thrown t_typed t_at t_letter t_one t_other t_s t_wins_7 t_fits_1) → va_S A s.heap H locs → lv_has ls 4 [(1, .int u1_6)] → W p l e (rmK 3 71) s m args below meth c H locs 0 0 (MQ below (kQ (some (.int r9)) D A (w_X5_least cy A_t A_t_s A_t_past A_t_begun A_t_text A_t_wins A_t_fits t_pasts t_thrown t_typed t_at t_letter t_one t_other t_s t_wins9 t_fits9)) args s 0 0 A) (F0 m 63 ls [])) → ∀ (n : Nat) (v1_3 : Int32) (v2_4 : Int32) (t_wins_5 : Nat → Bool) (H : Heap) (locs : List Loc) (ls : Array Slot), L_X5_least_8 N t_s t_fits_1 kont n v1_3 v2_4 t_wins_5 = some (r9, t_wins9, t_fits9) → va_P D vwCl (w_X5_least cy A_t A_t_s A_t_past A_t_begun A_t_text A_t_wins A_t_fits t_pasts t_thrown t_typed t_at t_letter t_one t_other t_s t_wins_5 t_fits_1) H → va_D A (w_X5_least cy A_t A_t_s A_t_past A_t_begun A_t_text A_t_wins A_t_fits t_pasts t_thrown t_typed t_at t_letter t_one t_other t_s t_wins_5 t_fits_1) → va_S A s.heap H locs → lv_has ls 4 [(0, .ref A_t), (1, .int v1_3), (2, .int v2_4)] → W p l e (rmK 3 71) s m args below meth c H locs 0 0 (MQ below (kQ (some (.int r9)) D A (w_X5_least cy A_t A_t_s A_t_past A_t_begun A_t_text A_t_wins A_t_fits t_pasts t_thrown t_typed t_at t_letter t_one t_other t_s t_wins9 t_fits9)) args s 0 0 A) (F0 m 8 ls []) := by
    intro kont hexit_8 n
    induction n with
    | zero =>
      intro v1_3 v2_4 t_wins_5 H locs ls hF
      rw [L_X5_least_8] at hF
      cases hF
    | succ n ih =>
      intro v1_3 v2_4 t_wins_5 H locs ls hF hP hD hS hl
      rw [L_X5_least_8] at hF
      refine lv_iload_n hx hb dX5_least_8 rfl (lv_at hl 2 rfl) ?_
      refine lv_iconst (v := 1) hx hb dX5_least_9 (by decide) ?_
      refine lv_aload_n hx hb dX5_least_10 rfl (lv_at hl 0 rfl) ?_
      obtain ⟨r_8, hF_9, hF⟩ := ob1_some hF
      refine kcV (q := (RX5, TX5, 13)) (ci := 5) (q0 := 0) (As := []) (rest := [.int 1, .int v2_4]) (wr := [(A_t_wins, .inl (cy 3, 1024, .inl (fun j => bI (t_wins_5 j)))), (A_t_fits, .inl (cy 0, 1024, .inl t_fits_1))]) (wsN := (w_X5_least cy A_t A_t_s A_t_past A_t_begun A_t_text A_t_wins A_t_fits t_pasts t_thrown t_typed t_at t_letter t_one t_other t_s t_wins_5 t_fits_1)) ⟨hx, hb, hml, hown, hts⟩ hE hP hD hS hA hAs [0, 1] [2, 3] [2, 3, 0, 1] (c_X5_plays l D cy s0 tW N A_t A_t_s A_t_past A_t_begun A_t_text A_t_wins A_t_fits t_pasts t_thrown t_typed t_at t_letter t_one t_other t_s _ hF_9) (gV q_850 q_852 q_58 q_88 q_853) hd_X5_plays ⟨Nat.le_of_ble_eq_true rfl, Nat.le_of_ble_eq_true rfl⟩ rfl rfl rfl rfl rfl rfl rfl rfl rfl hl.1 rfl (Nat.le_of_ble_eq_true rfl) dX5_least_11 ⟨Nat.zero_le _, Nat.zero_le _⟩ (fun H locs hP hD hS => ?_)
      refine W.eq (g2 := F0 m 14 ls [.int r_8, .int 1, .int v2_4]) rfl ?_
      refine lv_ishl hx hb dX5_least_14 ?_
      refine lv_icmp_ge (tgt := 63) hx hb dX5_least_15 (by decide) (fun c_10 => ?_) (fun c_10 => ?_)
      · replace hF := ite_t c_10 hF
        exact hexit_8 v1_3 t_wins_5 H locs ls hF hP hD hS (lv_sub hl [1] rfl)
      · replace hF := ite_f c_10 hF
        refine lv_iload_n hx hb dX5_least_18 rfl (lv_at hl 1 rfl) ?_
        refine lv_if_lt (tgt := 33) hx hb dX5_least_19 (by decide) (fun c_11 => ?_) (fun c_11 => ?_)
        · replace hF := ite_t c_11 hF
          refine lv_iconst (v := 1) hx hb dX5_least_33 (by decide) ?_
          refine lv_goto (tgt := 38) hx hb dX5_least_34 (by decide) ?_
          refine lv_istore_n (lv' := [(3, .int 1), (0, .ref A_t), (1, .int v1_3), (2, .int v2_4)]) hx hb dX5_least_38 rfl hl (by decide) rfl (fun ls hl => ?_)
          refine lv_iload_n hx hb dX5_least_39 rfl (lv_at hl 0 rfl) ?_
          refine lv_if_eq (tgt := 55) hx hb dX5_least_40 (by decide) (fun h0 => absurd h0 (by decide)) (fun _ => ?_)
          refine lv_aload_n hx hb dX5_least_43 rfl (lv_at hl 1 rfl) ?_
          refine lv_iload_n hx hb dX5_least_44 rfl (lv_at hl 3 rfl) ?_
          obtain ⟨r_12, t_wins_13, hF_14, hF⟩ := ob2_some hF
          refine kcV (q := (RX5, TX5, 13)) (ci := 5) (q0 := 0) (As := [.int v2_4]) (rest := []) (wr := []) (wsN := (w_X5_least cy A_t A_t_s A_t_past A_t_begun A_t_text A_t_wins A_t_fits t_pasts t_thrown t_typed t_at t_letter t_one t_other t_s t_wins_13 t_fits_1)) ⟨hx, hb, hml, hown, hts⟩ hE hP hD hS hA hAs [0, 1, 2, 3] [] [0, 1, 2, 3] (c_X5_against l D cy s0 tW N A_t A_t_s A_t_past A_t_begun A_t_text A_t_wins A_t_fits v2_4 t_pasts t_thrown t_typed t_at t_letter t_one t_other t_s t_wins_5 t_fits_1 _ hF_14) (gV q_878 q_880 q_63 q_88 q_881) hd_X5_against ⟨Nat.le_of_ble_eq_true rfl, Nat.le_of_ble_eq_true rfl⟩ rfl rfl rfl rfl rfl rfl rfl rfl rfl hl.1 rfl (Nat.le_of_ble_eq_true rfl) dX5_least_45 ⟨Nat.zero_le _, Nat.zero_le _⟩ (fun H locs hP hD hS => ?_)
          refine W.eq (g2 := F0 m 48 ls [.int (bI r_12)]) rfl ?_
          refine lv_if_ne (tgt := 55) hx hb dX5_least_48 (by decide) (fun c_15 => ?_) (fun c_15 => ?_)
          · replace hF := ite_t (bI_t c_15) hF
            refine lv_iload_n hx hb dX5_least_55 rfl (lv_at hl 2 rfl) ?_
            refine lv_istore_n (lv' := [(1, .int v1_3), (3, .int 1), (0, .ref A_t), (2, .int v2_4)]) hx hb dX5_least_56 rfl hl (by decide) rfl (fun ls hl => ?_)
            refine lv_iinc (v := (v2_4 + 1)) (lv' := [(2, .int (v2_4 + 1)), (1, .int v1_3), (3, .int 1), (0, .ref A_t)]) hx hb dX5_least_57 hl (k := 3) rfl (by first | rfl | decide) (by decide) rfl (fun ls hl => ?_)
            refine lv_goto (tgt := 8) hx hb dX5_least_60 (by decide) ?_
            exact ih v1_3 (v2_4 + 1) t_wins_13 H locs ls hF hP hD hS (lv_sub hl [3, 1, 0] rfl)
          · replace hF := ite_f (bI_f c_15) hF
            refine lv_iload_n hx hb dX5_least_51 rfl (lv_at hl 3 rfl) ?_
            refine lv_goto (tgt := 56) hx hb dX5_least_52 (by decide) ?_
            refine lv_istore_n (lv' := [(1, .int v2_4), (3, .int 1), (0, .ref A_t), (2, .int v2_4)]) hx hb dX5_least_56 rfl hl (by decide) rfl (fun ls hl => ?_)
            refine lv_iinc (v := (v2_4 + 1)) (lv' := [(2, .int (v2_4 + 1)), (1, .int v2_4), (3, .int 1), (0, .ref A_t)]) hx hb dX5_least_57 hl (k := 3) rfl (by first | rfl | decide) (by decide) rfl (fun ls hl => ?_)
            refine lv_goto (tgt := 8) hx hb dX5_least_60 (by decide) ?_
            exact ih v2_4 (v2_4 + 1) t_wins_13 H locs ls hF hP hD hS (lv_sub hl [3, 1, 0] rfl)
        · replace hF := ite_f c_11 hF
          refine lv_iload_n hx hb dX5_least_22 rfl (lv_at hl 2 rfl) ?_
          obtain ⟨r_16, hF_17, hF⟩ := ob1_some hF
          refine kcS (As := [.int v2_4]) (rest := []) (wr := [(A_t, .inr (5, [.ref A_t_s, .ref A_t_past, .ref A_t_begun, .int t_pasts, .int t_thrown, .ref A_t_text, .int t_typed, .int t_at, .int t_letter, .int t_one, .int t_other, .ref A_t_wins, .ref A_t_fits])), (A_t_s, .inl (cy 0, 45, .inl t_s)), (A_t_wins, .inl (cy 3, 1024, .inl (fun j => bI (t_wins_5 j)))), (A_t_fits, .inl (cy 0, 1024, .inl t_fits_1))]) (wsN := (w_X5_least cy A_t A_t_s A_t_past A_t_begun A_t_text A_t_wins A_t_fits t_pasts t_thrown t_typed t_at t_letter t_one t_other t_s t_wins_5 t_fits_1)) ⟨hx, hb, hml, hown, hts⟩ hE hP hD hS hA hAs [] [0, 1, 2, 3] [0, 1, 2, 3] (c_X5_ones l D cy s0 tW N v2_4 _ hF_17) (gS q_800 q_801 q_88 q_802) hd_X5_ones.2 ⟨Nat.le_of_ble_eq_true rfl, Nat.le_of_ble_eq_true rfl⟩ rfl rfl rfl rfl rfl rfl rfl hl.1 rfl (Nat.le_of_ble_eq_true rfl) dX5_least_23 ⟨Nat.zero_le _, Nat.zero_le _⟩ (fun H locs hP hD hS => ?_)
          refine W.eq (g2 := F0 m 26 ls [.int r_16]) rfl ?_
          refine lv_iload_n hx hb dX5_least_26 rfl (lv_at hl 1 rfl) ?_
          obtain ⟨r_18, hF_19, hF⟩ := ob1_some hF
          refine kcS (As := [.int v1_3]) (rest := [.int r_16]) (wr := [(A_t, .inr (5, [.ref A_t_s, .ref A_t_past, .ref A_t_begun, .int t_pasts, .int t_thrown, .ref A_t_text, .int t_typed, .int t_at, .int t_letter, .int t_one, .int t_other, .ref A_t_wins, .ref A_t_fits])), (A_t_s, .inl (cy 0, 45, .inl t_s)), (A_t_wins, .inl (cy 3, 1024, .inl (fun j => bI (t_wins_5 j)))), (A_t_fits, .inl (cy 0, 1024, .inl t_fits_1))]) (wsN := (w_X5_least cy A_t A_t_s A_t_past A_t_begun A_t_text A_t_wins A_t_fits t_pasts t_thrown t_typed t_at t_letter t_one t_other t_s t_wins_5 t_fits_1)) ⟨hx, hb, hml, hown, hts⟩ hE hP hD hS hA hAs [] [0, 1, 2, 3] [0, 1, 2, 3] (c_X5_ones l D cy s0 tW N v1_3 _ hF_19) (gS q_800 q_801 q_88 q_802) hd_X5_ones.2 ⟨Nat.le_of_ble_eq_true rfl, Nat.le_of_ble_eq_true rfl⟩ rfl rfl rfl rfl rfl rfl rfl hl.1 rfl (Nat.le_of_ble_eq_true rfl) dX5_least_27 ⟨Nat.zero_le _, Nat.zero_le _⟩ (fun H locs hP hD hS => ?_)
          refine W.eq (g2 := F0 m 30 ls [.int r_18, .int r_16]) rfl ?_
          refine lv_icmp_ge (tgt := 37) hx hb dX5_least_30 (by decide) (fun c_20 => ?_) (fun c_20 => ?_)
          · replace hF := ite_t c_20 hF
            refine lv_iconst (v := 0) hx hb dX5_least_37 (by decide) ?_
            refine lv_istore_n (lv' := [(3, .int 0), (0, .ref A_t), (1, .int v1_3), (2, .int v2_4)]) hx hb dX5_least_38 rfl hl (by decide) rfl (fun ls hl => ?_)
            refine lv_iload_n hx hb dX5_least_39 rfl (lv_at hl 0 rfl) ?_
            refine lv_if_eq (tgt := 55) hx hb dX5_least_40 (by decide) (fun _ => ?_) (fun h0 => absurd (by decide) h0)
            refine lv_iload_n hx hb dX5_least_55 rfl (lv_at hl 2 rfl) ?_
            refine lv_istore_n (lv' := [(1, .int v1_3), (3, .int 0), (0, .ref A_t), (2, .int v2_4)]) hx hb dX5_least_56 rfl hl (by decide) rfl (fun ls hl => ?_)
            refine lv_iinc (v := (v2_4 + 1)) (lv' := [(2, .int (v2_4 + 1)), (1, .int v1_3), (3, .int 0), (0, .ref A_t)]) hx hb dX5_least_57 hl (k := 3) rfl (by first | rfl | decide) (by decide) rfl (fun ls hl => ?_)
            refine lv_goto (tgt := 8) hx hb dX5_least_60 (by decide) ?_
            exact ih v1_3 (v2_4 + 1) t_wins_5 H locs ls hF hP hD hS (lv_sub hl [3, 1, 0] rfl)
          · replace hF := ite_f c_20 hF
            refine lv_iconst (v := 1) hx hb dX5_least_33 (by decide) ?_
            refine lv_goto (tgt := 38) hx hb dX5_least_34 (by decide) ?_
            refine lv_istore_n (lv' := [(3, .int 1), (0, .ref A_t), (1, .int v1_3), (2, .int v2_4)]) hx hb dX5_least_38 rfl hl (by decide) rfl (fun ls hl => ?_)
            refine lv_iload_n hx hb dX5_least_39 rfl (lv_at hl 0 rfl) ?_
            refine lv_if_eq (tgt := 55) hx hb dX5_least_40 (by decide) (fun h0 => absurd h0 (by decide)) (fun _ => ?_)
            refine lv_aload_n hx hb dX5_least_43 rfl (lv_at hl 1 rfl) ?_
            refine lv_iload_n hx hb dX5_least_44 rfl (lv_at hl 3 rfl) ?_
            obtain ⟨r_21, t_wins_22, hF_23, hF⟩ := ob2_some hF
            refine kcV (q := (RX5, TX5, 13)) (ci := 5) (q0 := 0) (As := [.int v2_4]) (rest := []) (wr := []) (wsN := (w_X5_least cy A_t A_t_s A_t_past A_t_begun A_t_text A_t_wins A_t_fits t_pasts t_thrown t_typed t_at t_letter t_one t_other t_s t_wins_22 t_fits_1)) ⟨hx, hb, hml, hown, hts⟩ hE hP hD hS hA hAs [0, 1, 2, 3] [] [0, 1, 2, 3] (c_X5_against l D cy s0 tW N A_t A_t_s A_t_past A_t_begun A_t_text A_t_wins A_t_fits v2_4 t_pasts t_thrown t_typed t_at t_letter t_one t_other t_s t_wins_5 t_fits_1 _ hF_23) (gV q_878 q_880 q_63 q_88 q_881) hd_X5_against ⟨Nat.le_of_ble_eq_true rfl, Nat.le_of_ble_eq_true rfl⟩ rfl rfl rfl rfl rfl rfl rfl rfl rfl hl.1 rfl (Nat.le_of_ble_eq_true rfl) dX5_least_45 ⟨Nat.zero_le _, Nat.zero_le _⟩ (fun H locs hP hD hS => ?_)
            refine W.eq (g2 := F0 m 48 ls [.int (bI r_21)]) rfl ?_
            refine lv_if_ne (tgt := 55) hx hb dX5_least_48 (by decide) (fun c_24 => ?_) (fun c_24 => ?_)
            · replace hF := ite_t (bI_t c_24) hF
              refine lv_iload_n hx hb dX5_least_55 rfl (lv_at hl 2 rfl) ?_
              refine lv_istore_n (lv' := [(1, .int v1_3), (3, .int 1), (0, .ref A_t), (2, .int v2_4)]) hx hb dX5_least_56 rfl hl (by decide) rfl (fun ls hl => ?_)
              refine lv_iinc (v := (v2_4 + 1)) (lv' := [(2, .int (v2_4 + 1)), (1, .int v1_3), (3, .int 1), (0, .ref A_t)]) hx hb dX5_least_57 hl (k := 3) rfl (by first | rfl | decide) (by decide) rfl (fun ls hl => ?_)
              refine lv_goto (tgt := 8) hx hb dX5_least_60 (by decide) ?_
              exact ih v1_3 (v2_4 + 1) t_wins_22 H locs ls hF hP hD hS (lv_sub hl [3, 1, 0] rfl)
            · replace hF := ite_f (bI_f c_24) hF
              refine lv_iload_n hx hb dX5_least_51 rfl (lv_at hl 3 rfl) ?_
              refine lv_goto (tgt := 56) hx hb dX5_least_52 (by decide) ?_
              refine lv_istore_n (lv' := [(1, .int v2_4), (3, .int 1), (0, .ref A_t), (2, .int v2_4)]) hx hb dX5_least_56 rfl hl (by decide) rfl (fun ls hl => ?_)
              refine lv_iinc (v := (v2_4 + 1)) (lv' := [(2, .int (v2_4 + 1)), (1, .int v2_4), (3, .int 1), (0, .ref A_t)]) hx hb dX5_least_57 hl (k := 3) rfl (by first | rfl | decide) (by decide) rfl (fun ls hl => ?_)
              refine lv_goto (tgt := 8) hx hb dX5_least_60 (by decide) ?_
              exact ih v2_4 (v2_4 + 1) t_wins_22 H locs ls hF hP hD hS (lv_sub hl [3, 1, 0] rfl)
  refine hloop_8 _ (fun u1_6 t_wins_7 H locs ls hF hP hD hS hl => ?_) N (-1) 1 t_wins _ _ ls hF hP hD hS (lv_sub hl [2, 1, 0] rfl)
  refine lv_iload_n hx hb dX5_least_63 rfl (lv_at hl 0 rfl) ?_
  cases hF
  exact kret_i hx hb hr hlocks hP hD hS dX5_least_64

theorem q_75 : Cond.selects RX5 yX5_least yX5_least ∈ wAll := wAll_mem 75 (by decide +kernel) (by decide +kernel)
theorem q_978 : Cond.methodLink RX5 138 yX5_least ∈ wAll := wAll_mem 978 (by decide +kernel) (by decide +kernel)
theorem q_980 : Cond.instanceMethod yX5_least ∈ wAll := wAll_mem 980 (by decide +kernel) (by decide +kernel)
theorem q_981 : Cond.code yX5_least cX5_least 4 (some .int) ∈ wAll := wAll_mem 981 (by decide +kernel) (by decide +kernel)
theorem hd_X5_least : yX5_least.cls = RX5 ∧ yX5_least.cls ≠ "java/lang/invoke/MethodHandle" ∧ yX5_least.cls ≠ "java/lang/invoke/VarHandle" ∧ (parseMethodDescriptor yX5_least.desc).map (fun d => d.parameters.length) = some 0 := by decide +kernel
abbrev w_X5_leastProof (cy : Nat → ClassId) (A_t : Nat) (A_t_s : Nat) (A_t_past : Nat) (A_t_begun : Nat) (A_t_text : Nat) (A_t_wins : Nat) (A_t_fits : Nat) (t_pasts : Int32) (t_thrown : Int32) (t_typed : Int32) (t_at : Int32) (t_letter : Int32) (t_one : Int32) (t_other : Int32) (t_s : Nat → Int32) (t_wins : Nat → Bool) (t_fits : Nat → Int32) : va_W := [(A_t, .inr (5, [.ref A_t_s, .ref A_t_past, .ref A_t_begun, .int t_pasts, .int t_thrown, .ref A_t_text, .int t_typed, .int t_at, .int t_letter, .int t_one, .int t_other, .ref A_t_wins, .ref A_t_fits])), (A_t_s, .inl (cy 0, 45, .inl t_s)), (A_t_wins, .inl (cy 3, 1024, .inl (fun j => bI (t_wins j)))), (A_t_fits, .inl (cy 0, 1024, .inl t_fits))]
def F_X5_leastProof (N : Nat) (t_s : Nat → Int32) (t_thrown : Int32) (t_wins : Nat → Bool) (t_fits : Nat → Int32) : Option (Int32 × Int32 × (Nat → Bool) × (Nat → Int32)) :=
  ob3 (F_X5_least N t_s t_wins t_fits) (fun r_1 t_wins_2 t_fits_3 => (if (0 : Int32) ≤ r_1 then ob1 (F_X5_ones N r_1) (fun r_6 => ob2 (F_X5_tells N r_6 t_thrown) (fun r_8 t_thrown_9 => some (r_8, t_thrown_9, t_wins_2, t_fits_3))) else ob2 (F_X5_tells N (-1) t_thrown) (fun r_11 t_thrown_12 => some (r_11, t_thrown_12, t_wins_2, t_fits_3))))
set_option maxHeartbeats 4000000 in
set_option maxRecDepth 100000 in
theorem c_X5_leastProof (l : Launch) (D : va_G) (cy : Nat → ClassId) (s0 tW N : Nat) (A_t : Nat) (A_t_s : Nat) (A_t_past : Nat) (A_t_begun : Nat) (A_t_text : Nat) (A_t_wins : Nat) (A_t_fits : Nat) (t_pasts : Int32) (t_thrown : Int32) (t_typed : Int32) (t_at : Int32) (t_letter : Int32) (t_one : Int32) (t_other : Int32) (t_s : Nat → Int32) (t_wins : Nat → Bool) (t_fits : Nat → Int32) (sz : Nat) {r9 : Int32} {t_thrown9 : Int32} {t_wins9 : Nat → Bool} {t_fits9 : Nat → Int32} (hF : F_X5_leastProof N t_s t_thrown t_wins t_fits = some (r9, t_thrown9, t_wins9, t_fits9)) : KM l D cy s0 tW yX5_leastProof cX5_leastProof 2 (some .int) 4 94 [.ref A_t] sz (w_X5_leastProof cy A_t A_t_s A_t_past A_t_begun A_t_text A_t_wins A_t_fits t_pasts t_thrown t_typed t_at t_letter t_one t_other t_s t_wins t_fits) (some (.int r9)) (w_X5_leastProof cy A_t A_t_s A_t_past A_t_begun A_t_text A_t_wins A_t_fits t_pasts t_thrown9 t_typed t_at t_letter t_one t_other t_s t_wins9 t_fits9) := by
  refine KM.intro rfl (Nat.le_of_ble_eq_true rfl) ?_
  intro p e s m args below meth c A ls hx hb hr hml hown hts hlocks hE hP hD hS hA hAs hl
  have hK := hE.1
  have hl : lv_has ls 2 [(0, .ref A_t)] := hl
  unfold F_X5_leastProof at hF
  refine lv_aload_n hx hb dX5_leastProof_0 rfl (lv_at hl 0 rfl) ?_
  obtain ⟨r_1, t_wins_2, t_fits_3, hF_4, hF⟩ := ob3_some hF
  refine kcV (q := (RX5, TX5, 13)) (ci := 5) (q0 := 0) (As := []) (rest := []) (wr := []) (wsN := (w_X5_leastProof cy A_t A_t_s A_t_past A_t_begun A_t_text A_t_wins A_t_fits t_pasts t_thrown t_typed t_at t_letter t_one t_other t_s t_wins_2 t_fits_3)) ⟨hx, hb, hml, hown, hts⟩ hE hP hD hS hA hAs [0, 1, 2, 3] [] [0, 1, 2, 3] (c_X5_least l D cy s0 tW N A_t A_t_s A_t_past A_t_begun A_t_text A_t_wins A_t_fits t_pasts t_thrown t_typed t_at t_letter t_one t_other t_s t_wins t_fits _ hF_4) (gV q_978 q_980 q_75 q_88 q_981) hd_X5_least ⟨Nat.le_of_ble_eq_true rfl, Nat.le_of_ble_eq_true rfl⟩ rfl rfl rfl rfl rfl rfl rfl rfl rfl hl.1 rfl (Nat.le_of_ble_eq_true rfl) dX5_leastProof_1 ⟨Nat.zero_le _, Nat.zero_le _⟩ (fun H locs hP hD hS => ?_)
  refine W.eq (g2 := F0 m 4 ls [.int r_1]) rfl ?_
  refine lv_istore_n (lv' := [(1, .int r_1), (0, .ref A_t)]) hx hb dX5_leastProof_4 rfl hl (by decide) rfl (fun ls hl => ?_)
  refine lv_aload_n hx hb dX5_leastProof_5 rfl (lv_at hl 1 rfl) ?_
  refine lv_iload_n hx hb dX5_leastProof_6 rfl (lv_at hl 0 rfl) ?_
  refine lv_if_ge (tgt := 14) hx hb dX5_leastProof_7 (by decide) (fun c_5 => ?_) (fun c_5 => ?_)
  · replace hF := ite_t c_5 hF
    refine lv_iload_n hx hb dX5_leastProof_14 rfl (lv_at hl 0 rfl) ?_
    obtain ⟨r_6, hF_7, hF⟩ := ob1_some hF
    refine kcS (As := [.int r_1]) (rest := [.ref A_t]) (wr := [(A_t, .inr (5, [.ref A_t_s, .ref A_t_past, .ref A_t_begun, .int t_pasts, .int t_thrown, .ref A_t_text, .int t_typed, .int t_at, .int t_letter, .int t_one, .int t_other, .ref A_t_wins, .ref A_t_fits])), (A_t_s, .inl (cy 0, 45, .inl t_s)), (A_t_wins, .inl (cy 3, 1024, .inl (fun j => bI (t_wins_2 j)))), (A_t_fits, .inl (cy 0, 1024, .inl t_fits_3))]) (wsN := (w_X5_leastProof cy A_t A_t_s A_t_past A_t_begun A_t_text A_t_wins A_t_fits t_pasts t_thrown t_typed t_at t_letter t_one t_other t_s t_wins_2 t_fits_3)) ⟨hx, hb, hml, hown, hts⟩ hE hP hD hS hA hAs [] [0, 1, 2, 3] [0, 1, 2, 3] (c_X5_ones l D cy s0 tW N r_1 _ hF_7) (gS q_800 q_801 q_88 q_802) hd_X5_ones.2 ⟨Nat.le_of_ble_eq_true rfl, Nat.le_of_ble_eq_true rfl⟩ rfl rfl rfl rfl rfl rfl rfl hl.1 rfl (Nat.le_of_ble_eq_true rfl) dX5_leastProof_15 ⟨Nat.zero_le _, Nat.zero_le _⟩ (fun H locs hP hD hS => ?_)
    refine W.eq (g2 := F0 m 18 ls [.int r_6, .ref A_t]) rfl ?_
    obtain ⟨r_8, t_thrown_9, hF_10, hF⟩ := ob2_some hF
    refine kcV (q := (RX5, TX5, 13)) (ci := 5) (q0 := 0) (As := [.int r_6]) (rest := []) (wr := [(A_t_s, .inl (cy 0, 45, .inl t_s)), (A_t_wins, .inl (cy 3, 1024, .inl (fun j => bI (t_wins_2 j)))), (A_t_fits, .inl (cy 0, 1024, .inl t_fits_3))]) (wsN := (w_X5_leastProof cy A_t A_t_s A_t_past A_t_begun A_t_text A_t_wins A_t_fits t_pasts t_thrown_9 t_typed t_at t_letter t_one t_other t_s t_wins_2 t_fits_3)) ⟨hx, hb, hml, hown, hts⟩ hE hP hD hS hA hAs [0] [1, 2, 3] [3, 0, 1, 2] (c_X5_tells l D cy s0 tW N A_t A_t_s A_t_past A_t_begun A_t_text A_t_wins A_t_fits r_6 t_pasts t_thrown t_typed t_at t_letter t_one t_other _ hF_10) (gV q_788 q_790 q_48 q_88 q_791) hd_X5_tells ⟨Nat.le_of_ble_eq_true rfl, Nat.le_of_ble_eq_true rfl⟩ rfl rfl rfl rfl rfl rfl rfl rfl rfl hl.1 rfl (Nat.le_of_ble_eq_true rfl) dX5_leastProof_18 ⟨Nat.zero_le _, Nat.zero_le _⟩ (fun H locs hP hD hS => ?_)
    refine W.eq (g2 := F0 m 21 ls [.int r_8]) rfl ?_
    cases hF
    exact kret_i hx hb hr hlocks hP hD hS dX5_leastProof_21
  · replace hF := ite_f c_5 hF
    refine lv_iconst (v := (-1)) hx hb dX5_leastProof_10 (by decide) ?_
    refine lv_goto (tgt := 18) hx hb dX5_leastProof_11 (by decide) ?_
    obtain ⟨r_11, t_thrown_12, hF_13, hF⟩ := ob2_some hF
    refine kcV (q := (RX5, TX5, 13)) (ci := 5) (q0 := 0) (As := [.int (-1)]) (rest := []) (wr := [(A_t_s, .inl (cy 0, 45, .inl t_s)), (A_t_wins, .inl (cy 3, 1024, .inl (fun j => bI (t_wins_2 j)))), (A_t_fits, .inl (cy 0, 1024, .inl t_fits_3))]) (wsN := (w_X5_leastProof cy A_t A_t_s A_t_past A_t_begun A_t_text A_t_wins A_t_fits t_pasts t_thrown_12 t_typed t_at t_letter t_one t_other t_s t_wins_2 t_fits_3)) ⟨hx, hb, hml, hown, hts⟩ hE hP hD hS hA hAs [0] [1, 2, 3] [3, 0, 1, 2] (c_X5_tells l D cy s0 tW N A_t A_t_s A_t_past A_t_begun A_t_text A_t_wins A_t_fits (-1) t_pasts t_thrown t_typed t_at t_letter t_one t_other _ hF_13) (gV q_788 q_790 q_48 q_88 q_791) hd_X5_tells ⟨Nat.le_of_ble_eq_true rfl, Nat.le_of_ble_eq_true rfl⟩ rfl rfl rfl rfl rfl rfl rfl rfl rfl hl.1 rfl (Nat.le_of_ble_eq_true rfl) dX5_leastProof_18 ⟨Nat.zero_le _, Nat.zero_le _⟩ (fun H locs hP hD hS => ?_)
    refine W.eq (g2 := F0 m 21 ls [.int r_11]) rfl ?_
    cases hF
    exact kret_i hx hb hr hlocks hP hD hS dX5_leastProof_21

abbrev w_X5_proof (cy : Nat → ClassId) (A_t : Nat) (A_t_s : Nat) (A_t_past : Nat) (A_t_begun : Nat) (A_t_text : Nat) (A_t_wins : Nat) (A_t_fits : Nat) (t_pasts : Int32) (t_thrown : Int32) (t_typed : Int32) (t_at : Int32) (t_letter : Int32) (t_one : Int32) (t_other : Int32) (t_s : Nat → Int32) (t_wins : Nat → Bool) (t_fits : Nat → Int32) : va_W := [(A_t, .inr (5, [.ref A_t_s, .ref A_t_past, .ref A_t_begun, .int t_pasts, .int t_thrown, .ref A_t_text, .int t_typed, .int t_at, .int t_letter, .int t_one, .int t_other, .ref A_t_wins, .ref A_t_fits])), (A_t_s, .inl (cy 0, 45, .inl t_s)), (A_t_wins, .inl (cy 3, 1024, .inl (fun j => bI (t_wins j)))), (A_t_fits, .inl (cy 0, 1024, .inl t_fits))]
def F_X5_proof (N : Nat) (t_s : Nat → Int32) (t_thrown : Int32) (t_wins : Nat → Bool) (t_fits : Nat → Int32) : Option (Int32 × Int32 × (Nat → Bool) × (Nat → Int32)) :=
  ob3 (F_X5_least N t_s t_wins t_fits) (fun r_1 t_wins_2 t_fits_3 => ob2 (F_X5_tells N r_1 t_thrown) (fun r_5 t_thrown_6 => some (r_5, t_thrown_6, t_wins_2, t_fits_3)))
set_option maxHeartbeats 4000000 in
set_option maxRecDepth 100000 in
theorem c_X5_proof (l : Launch) (D : va_G) (cy : Nat → ClassId) (s0 tW N : Nat) (A_t : Nat) (A_t_s : Nat) (A_t_past : Nat) (A_t_begun : Nat) (A_t_text : Nat) (A_t_wins : Nat) (A_t_fits : Nat) (t_pasts : Int32) (t_thrown : Int32) (t_typed : Int32) (t_at : Int32) (t_letter : Int32) (t_one : Int32) (t_other : Int32) (t_s : Nat → Int32) (t_wins : Nat → Bool) (t_fits : Nat → Int32) (sz : Nat) {r9 : Int32} {t_thrown9 : Int32} {t_wins9 : Nat → Bool} {t_fits9 : Nat → Int32} (hF : F_X5_proof N t_s t_thrown t_wins t_fits = some (r9, t_thrown9, t_wins9, t_fits9)) : KM l D cy s0 tW yX5_proof cX5_proof 1 (some .int) 4 94 [.ref A_t] sz (w_X5_proof cy A_t A_t_s A_t_past A_t_begun A_t_text A_t_wins A_t_fits t_pasts t_thrown t_typed t_at t_letter t_one t_other t_s t_wins t_fits) (some (.int r9)) (w_X5_proof cy A_t A_t_s A_t_past A_t_begun A_t_text A_t_wins A_t_fits t_pasts t_thrown9 t_typed t_at t_letter t_one t_other t_s t_wins9 t_fits9) := by
  refine KM.intro rfl (Nat.le_of_ble_eq_true rfl) ?_
  intro p e s m args below meth c A ls hx hb hr hml hown hts hlocks hE hP hD hS hA hAs hl
  have hK := hE.1
  have hl : lv_has ls 1 [(0, .ref A_t)] := hl
  unfold F_X5_proof at hF
  refine lv_aload_n hx hb dX5_proof_0 rfl (lv_at hl 0 rfl) ?_
  refine lv_aload_n hx hb dX5_proof_1 rfl (lv_at hl 0 rfl) ?_
  obtain ⟨r_1, t_wins_2, t_fits_3, hF_4, hF⟩ := ob3_some hF
  refine kcV (q := (RX5, TX5, 13)) (ci := 5) (q0 := 0) (As := []) (rest := [.ref A_t]) (wr := []) (wsN := (w_X5_proof cy A_t A_t_s A_t_past A_t_begun A_t_text A_t_wins A_t_fits t_pasts t_thrown t_typed t_at t_letter t_one t_other t_s t_wins_2 t_fits_3)) ⟨hx, hb, hml, hown, hts⟩ hE hP hD hS hA hAs [0, 1, 2, 3] [] [0, 1, 2, 3] (c_X5_least l D cy s0 tW N A_t A_t_s A_t_past A_t_begun A_t_text A_t_wins A_t_fits t_pasts t_thrown t_typed t_at t_letter t_one t_other t_s t_wins t_fits _ hF_4) (gV q_978 q_980 q_75 q_88 q_981) hd_X5_least ⟨Nat.le_of_ble_eq_true rfl, Nat.le_of_ble_eq_true rfl⟩ rfl rfl rfl rfl rfl rfl rfl rfl rfl hl.1 rfl (Nat.le_of_ble_eq_true rfl) dX5_proof_2 ⟨Nat.zero_le _, Nat.zero_le _⟩ (fun H locs hP hD hS => ?_)
  refine W.eq (g2 := F0 m 5 ls [.int r_1, .ref A_t]) rfl ?_
  obtain ⟨r_5, t_thrown_6, hF_7, hF⟩ := ob2_some hF
  refine kcV (q := (RX5, TX5, 13)) (ci := 5) (q0 := 0) (As := [.int r_1]) (rest := []) (wr := [(A_t_s, .inl (cy 0, 45, .inl t_s)), (A_t_wins, .inl (cy 3, 1024, .inl (fun j => bI (t_wins_2 j)))), (A_t_fits, .inl (cy 0, 1024, .inl t_fits_3))]) (wsN := (w_X5_proof cy A_t A_t_s A_t_past A_t_begun A_t_text A_t_wins A_t_fits t_pasts t_thrown_6 t_typed t_at t_letter t_one t_other t_s t_wins_2 t_fits_3)) ⟨hx, hb, hml, hown, hts⟩ hE hP hD hS hA hAs [0] [1, 2, 3] [3, 0, 1, 2] (c_X5_tells l D cy s0 tW N A_t A_t_s A_t_past A_t_begun A_t_text A_t_wins A_t_fits r_1 t_pasts t_thrown t_typed t_at t_letter t_one t_other _ hF_7) (gV q_788 q_790 q_48 q_88 q_791) hd_X5_tells ⟨Nat.le_of_ble_eq_true rfl, Nat.le_of_ble_eq_true rfl⟩ rfl rfl rfl rfl rfl rfl rfl rfl rfl hl.1 rfl (Nat.le_of_ble_eq_true rfl) dX5_proof_5 ⟨Nat.zero_le _, Nat.zero_le _⟩ (fun H locs hP hD hS => ?_)
  refine W.eq (g2 := F0 m 8 ls [.int r_5]) rfl ?_
  cases hF
  exact kret_i hx hb hr hlocks hP hD hS dX5_proof_8

abbrev w_X5_hope (cy : Nat → ClassId) (A_t : Nat) (A_t_s : Nat) (A_t_past : Nat) (A_t_begun : Nat) (A_t_text : Nat) (A_t_wins : Nat) (A_t_fits : Nat) (t_pasts : Int32) (t_thrown : Int32) (t_typed : Int32) (t_at : Int32) (t_letter : Int32) (t_one : Int32) (t_other : Int32) (t_s : Nat → Int32) : va_W := [(A_t, .inr (5, [.ref A_t_s, .ref A_t_past, .ref A_t_begun, .int t_pasts, .int t_thrown, .ref A_t_text, .int t_typed, .int t_at, .int t_letter, .int t_one, .int t_other, .ref A_t_wins, .ref A_t_fits])), (A_t_s, .inl (cy 0, 45, .inl t_s))]
def L_X5_hope_9 (N : Nat) (t_s : Nat → Int32) (kont : Int32 → Option (UInt64 × Int32)) : Nat → Int32 → Int32 → Option (UInt64 × Int32)
  | 0, _, _ => none
  | n + 1, v1_1, v2_2 => ob1 (F_X5_plays N t_s) (fun r_4 => (if r_4 ≤ v2_2 then kont v1_1 else ob1 (F_X5_waysOf N v2_2 t_s) (fun r_7 => (if r_7 ≤ (0 : Int32) then L_X5_hope_9 N t_s kont n (v1_1 + 0) (v2_2 + 1) else L_X5_hope_9 N t_s kont n (v1_1 + 1) (v2_2 + 1)))))
def F_X5_hope (N : Nat) (t_s : Nat → Int32) (t_thrown : Int32) : Option (UInt64 × Int32) :=
  (L_X5_hope_9 N t_s (fun u1_3 => ob1 (F_X5_plays N t_s) (fun r_10 => gd (nn64 (FP.ddiv (FP.i2d u1_3) (FP.i2d r_10))) (some ((FP.ddiv (FP.i2d u1_3) (FP.i2d r_10)), 0)))) N 0 0)
set_option maxHeartbeats 4000000 in
set_option maxRecDepth 100000 in
theorem c_X5_hope (l : Launch) (D : va_G) (cy : Nat → ClassId) (s0 tW N : Nat) (A_t : Nat) (A_t_s : Nat) (A_t_past : Nat) (A_t_begun : Nat) (A_t_text : Nat) (A_t_wins : Nat) (A_t_fits : Nat) (t_pasts : Int32) (t_thrown : Int32) (t_typed : Int32) (t_at : Int32) (t_letter : Int32) (t_one : Int32) (t_other : Int32) (t_s : Nat → Int32) (sz : Nat) {r9 : UInt64} {t_thrown9 : Int32} (hF : F_X5_hope N t_s t_thrown = some (r9, t_thrown9)) : KM l D cy s0 tW yX5_hope cX5_hope 3 (some .double) 3 70 [.ref A_t] sz (w_X5_hope cy A_t A_t_s A_t_past A_t_begun A_t_text A_t_wins A_t_fits t_pasts t_thrown t_typed t_at t_letter t_one t_other t_s) (some (.double r9)) (w_X5_hope cy A_t A_t_s A_t_past A_t_begun A_t_text A_t_wins A_t_fits t_pasts t_thrown9 t_typed t_at t_letter t_one t_other t_s) := by
  refine KM.intro rfl (Nat.le_of_ble_eq_true rfl) ?_
  intro p e s m args below meth c A ls hx hb hr hml hown hts hlocks hE hP hD hS hA hAs hl
  have hK := hE.1
  have hl : lv_has ls 3 [(0, .ref A_t)] := hl
  unfold F_X5_hope at hF
  refine lv_aload_n hx hb dX5_hope_0 rfl (lv_at hl 0 rfl) ?_
  refine lv_iconst (v := 0) hx hb dX5_hope_1 (by decide) ?_
  refine ka_put (ci := 5) (v := .int 0) (ty := .int) (C := RX5) (T := TX5) (N := 13) (wsN := (w_X5_hope cy A_t A_t_s A_t_past A_t_begun A_t_text A_t_wins A_t_fits t_pasts 0 t_typed t_at t_letter t_one t_other t_s)) hx hb hts inX5 tyX5 tyX5_ok nmX5 hown hK hP hD hS 0 rfl rfl 4 (by decide) (hts _ q_735) (fun _ h9 => h9) rfl (by decide +kernel) rfl rfl (Nat.le_of_ble_eq_true rfl) rfl dX5_hope_2 (fun H locs hP hD hS => ?_)
  refine lv_iconst (v := 0) hx hb dX5_hope_5 (by decide) ?_
  refine lv_istore_n (lv' := [(1, .int 0), (0, .ref A_t)]) hx hb dX5_hope_6 rfl hl (by decide) rfl (fun ls hl => ?_)
  refine lv_iconst (v := 0) hx hb dX5_hope_7 (by decide) ?_
  refine lv_istore_n (lv' := [(2, .int 0), (1, .int 0), (0, .ref A_t)]) hx hb dX5_hope_8 rfl hl (by decide) rfl (fun ls hl => ?_)
  have hloop_9 : ∀ (kont : Int32 → Option (UInt64 × Int32)), (∀ (u1_3 : Int32) (H : Heap) (locs : List Loc) (ls : Array Slot), kont u1_3 = some (r9, t_thrown9) → va_P D vwCl (w_X5_hope cy A_t A_t_s A_t_past A_t_begun A_t_text A_t_wins A_t_fits t_pasts 0 t_typed t_at t_letter t_one t_other t_s) H → va_D A (w_X5_hope cy A_t A_t_s A_t_past A_t_begun A_t_text A_t_wins A_t_fits t_pasts 0 t_typed t_at t_letter t_one t_other t_s) → va_S A s.heap H locs → lv_has ls 3 [(0, .ref A_t), (1, .int u1_3)] → W p l e (rmK 3 70) s m args below meth c H locs 0 0 (MQ below (kQ (some (.double r9)) D A (w_X5_hope cy A_t A_t_s A_t_past A_t_begun A_t_text A_t_wins A_t_fits t_pasts t_thrown9 t_typed t_at t_letter t_one t_other t_s)) args s 0 0 A) (F0 m 39 ls [])) → ∀ (n : Nat) (v1_1 : Int32) (v2_2 : Int32) (H : Heap) (locs : List Loc) (ls : Array Slot), L_X5_hope_9 N t_s kont n v1_1 v2_2 = some (r9, t_thrown9) → va_P D vwCl (w_X5_hope cy A_t A_t_s A_t_past A_t_begun A_t_text A_t_wins A_t_fits t_pasts 0 t_typed t_at t_letter t_one t_other t_s) H → va_D A (w_X5_hope cy A_t A_t_s A_t_past A_t_begun A_t_text A_t_wins A_t_fits t_pasts 0 t_typed t_at t_letter t_one t_other t_s) → va_S A s.heap H locs → lv_has ls 3 [(0, .ref A_t), (1, .int v1_1), (2, .int v2_2)] → W p l e (rmK 3 70) s m args below meth c H locs 0 0 (MQ below (kQ (some (.double r9)) D A (w_X5_hope cy A_t A_t_s A_t_past A_t_begun A_t_text A_t_wins A_t_fits t_pasts t_thrown9 t_typed t_at t_letter t_one t_other t_s)) args s 0 0 A) (F0 m 9 ls []) := by
    intro kont hexit_9 n
    induction n with
    | zero =>
      intro v1_1 v2_2 H locs ls hF
      rw [L_X5_hope_9] at hF
      cases hF
    | succ n ih =>
      intro v1_1 v2_2 H locs ls hF hP hD hS hl
      rw [L_X5_hope_9] at hF
      refine lv_iload_n hx hb dX5_hope_9 rfl (lv_at hl 2 rfl) ?_
      refine lv_aload_n hx hb dX5_hope_10 rfl (lv_at hl 0 rfl) ?_
      obtain ⟨r_4, hF_5, hF⟩ := ob1_some hF
      refine kcV (q := (RX5, TX5, 13)) (ci := 5) (q0 := 0) (As := []) (rest := [.int v2_2]) (wr := []) (wsN := (w_X5_hope cy A_t A_t_s A_t_past A_t_begun A_t_text A_t_wins A_t_fits t_pasts 0 t_typed t_at t_letter t_one t_other t_s)) ⟨hx, hb, hml, hown, hts⟩ hE hP hD hS hA hAs [0, 1] [] [0, 1] (c_X5_plays l D cy s0 tW N A_t A_t_s A_t_past A_t_begun A_t_text A_t_wins A_t_fits t_pasts 0 t_typed t_at t_letter t_one t_other t_s _ hF_5) (gV q_850 q_852 q_58 q_88 q_853) hd_X5_plays ⟨Nat.le_of_ble_eq_true rfl, Nat.le_of_ble_eq_true rfl⟩ rfl rfl rfl rfl rfl rfl rfl rfl rfl hl.1 rfl (Nat.le_of_ble_eq_true rfl) dX5_hope_11 ⟨Nat.zero_le _, Nat.zero_le _⟩ (fun H locs hP hD hS => ?_)
      refine W.eq (g2 := F0 m 14 ls [.int r_4, .int v2_2]) rfl ?_
      refine lv_icmp_ge (tgt := 39) hx hb dX5_hope_14 (by decide) (fun c_6 => ?_) (fun c_6 => ?_)
      · replace hF := ite_t c_6 hF
        exact hexit_9 v1_1 H locs ls hF hP hD hS (lv_sub hl [0, 1] rfl)
      · replace hF := ite_f c_6 hF
        refine lv_iload_n hx hb dX5_hope_17 rfl (lv_at hl 1 rfl) ?_
        refine lv_aload_n hx hb dX5_hope_18 rfl (lv_at hl 0 rfl) ?_
        refine lv_iload_n hx hb dX5_hope_19 rfl (lv_at hl 2 rfl) ?_
        obtain ⟨r_7, hF_8, hF⟩ := ob1_some hF
        refine kcV (q := (RX5, TX5, 13)) (ci := 5) (q0 := 0) (As := [.int v2_2]) (rest := [.int v1_1]) (wr := []) (wsN := (w_X5_hope cy A_t A_t_s A_t_past A_t_begun A_t_text A_t_wins A_t_fits t_pasts 0 t_typed t_at t_letter t_one t_other t_s)) ⟨hx, hb, hml, hown, hts⟩ hE hP hD hS hA hAs [0, 1] [] [0, 1] (c_X5_waysOf l D cy s0 tW N A_t A_t_s A_t_past A_t_begun A_t_text A_t_wins A_t_fits v2_2 t_pasts 0 t_typed t_at t_letter t_one t_other t_s _ hF_8) (gV q_950 q_952 q_72 q_88 q_953) hd_X5_waysOf ⟨Nat.le_of_ble_eq_true rfl, Nat.le_of_ble_eq_true rfl⟩ rfl rfl rfl rfl rfl rfl rfl rfl rfl hl.1 rfl (Nat.le_of_ble_eq_true rfl) dX5_hope_20 ⟨Nat.zero_le _, Nat.zero_le _⟩ (fun H locs hP hD hS => ?_)
        refine W.eq (g2 := F0 m 23 ls [.int r_7, .int v1_1]) rfl ?_
        refine lv_if_le (tgt := 30) hx hb dX5_hope_23 (by decide) (fun c_9 => ?_) (fun c_9 => ?_)
        · replace hF := ite_t c_9 hF
          refine lv_iconst (v := 0) hx hb dX5_hope_30 (by decide) ?_
          refine lv_iadd hx hb dX5_hope_31 ?_
          refine lv_istore_n (lv' := [(1, .int (v1_1 + 0)), (0, .ref A_t), (2, .int v2_2)]) hx hb dX5_hope_32 rfl hl (by decide) rfl (fun ls hl => ?_)
          refine lv_iinc (v := (v2_2 + 1)) (lv' := [(2, .int (v2_2 + 1)), (1, .int (v1_1 + 0)), (0, .ref A_t)]) hx hb dX5_hope_33 hl (k := 2) rfl (by first | rfl | decide) (by decide) rfl (fun ls hl => ?_)
          refine lv_goto (tgt := 9) hx hb dX5_hope_36 (by decide) ?_
          exact ih (v1_1 + 0) (v2_2 + 1) H locs ls hF hP hD hS (lv_sub hl [2, 1, 0] rfl)
        · replace hF := ite_f c_9 hF
          refine lv_iconst (v := 1) hx hb dX5_hope_26 (by decide) ?_
          refine lv_goto (tgt := 31) hx hb dX5_hope_27 (by decide) ?_
          refine lv_iadd hx hb dX5_hope_31 ?_
          refine lv_istore_n (lv' := [(1, .int (v1_1 + 1)), (0, .ref A_t), (2, .int v2_2)]) hx hb dX5_hope_32 rfl hl (by decide) rfl (fun ls hl => ?_)
          refine lv_iinc (v := (v2_2 + 1)) (lv' := [(2, .int (v2_2 + 1)), (1, .int (v1_1 + 1)), (0, .ref A_t)]) hx hb dX5_hope_33 hl (k := 2) rfl (by first | rfl | decide) (by decide) rfl (fun ls hl => ?_)
          refine lv_goto (tgt := 9) hx hb dX5_hope_36 (by decide) ?_
          exact ih (v1_1 + 1) (v2_2 + 1) H locs ls hF hP hD hS (lv_sub hl [2, 1, 0] rfl)
  refine hloop_9 _ (fun u1_3 H locs ls hF hP hD hS hl => ?_) N 0 0 _ _ ls hF hP hD hS (lv_sub hl [2, 1, 0] rfl)
  refine lv_iload_n hx hb dX5_hope_39 rfl (lv_at hl 1 rfl) ?_
  refine lv_i2d hx hb dX5_hope_40 ?_
  refine lv_aload_n hx hb dX5_hope_41 rfl (lv_at hl 0 rfl) ?_
  obtain ⟨r_10, hF_11, hF⟩ := ob1_some hF
  refine kcV (q := (RX5, TX5, 13)) (ci := 5) (q0 := 0) (As := []) (rest := [.double (FP.i2d u1_3)]) (wr := []) (wsN := (w_X5_hope cy A_t A_t_s A_t_past A_t_begun A_t_text A_t_wins A_t_fits t_pasts 0 t_typed t_at t_letter t_one t_other t_s)) ⟨hx, hb, hml, hown, hts⟩ hE hP hD hS hA hAs [0, 1] [] [0, 1] (c_X5_plays l D cy s0 tW N A_t A_t_s A_t_past A_t_begun A_t_text A_t_wins A_t_fits t_pasts 0 t_typed t_at t_letter t_one t_other t_s _ hF_11) (gV q_850 q_852 q_58 q_88 q_853) hd_X5_plays ⟨Nat.le_of_ble_eq_true rfl, Nat.le_of_ble_eq_true rfl⟩ rfl rfl rfl rfl rfl rfl rfl rfl rfl hl.1 rfl (Nat.le_of_ble_eq_true rfl) dX5_hope_42 ⟨Nat.zero_le _, Nat.zero_le _⟩ (fun H locs hP hD hS => ?_)
  refine W.eq (g2 := F0 m 45 ls [.int r_10, .double (FP.i2d u1_3)]) rfl ?_
  refine lv_i2d hx hb dX5_hope_45 ?_
  obtain ⟨hn_12, hF⟩ := gd_some hF
  refine lv_ddiv hx hb dX5_hope_46 (nn64_n hn_12) ?_
  cases hF
  exact kret_d hx hb hr hlocks hP hD hS dX5_hope_47
