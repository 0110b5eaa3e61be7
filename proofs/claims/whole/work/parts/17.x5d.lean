theorem q_736 : Cond.fieldLink RX5 19 "ForAllGameModel" "text" "[B" ∈ wAll := wAll_mem 736 (by decide +kernel) (by decide +kernel)
theorem q_737 : Cond.fieldLink RX5 141 "ForAllGameModel" "typed" "I" ∈ wAll := wAll_mem 737 (by decide +kernel) (by decide +kernel)
abbrev w_X5_append (cy : Nat → ClassId) (A_t : Nat) (A_t_s : Nat) (A_t_past : Nat) (A_t_begun : Nat) (A_t_text : Nat) (A_t_wins : Nat) (A_t_fits : Nat) (t_pasts : Int32) (t_thrown : Int32) (t_typed : Int32) (t_at : Int32) (t_letter : Int32) (t_one : Int32) (t_other : Int32) (t_text : Nat → Int32) : va_W := [(A_t, .inr (5, [.ref A_t_s, .ref A_t_past, .ref A_t_begun, .int t_pasts, .int t_thrown, .ref A_t_text, .int t_typed, .int t_at, .int t_letter, .int t_one, .int t_other, .ref A_t_wins, .ref A_t_fits])), (A_t_text, .inl (cy 2, 100, .inl t_text))]
def F_X5_append (N : Nat) (p0 : Int32) (t_thrown : Int32) (t_text : Nat → Int32) (t_typed : Int32) : Option (Int32 × Int32 × (Nat → Int32) × Int32) :=
  ob1 (F_X5_in N p0 0 127) (fun r_1 => (if r_1 = true then (if t_typed = (100 : Int32) then ob2 (F_X5_fails N 2 t_thrown) (fun r_9 t_thrown_10 => some (r_9, t_thrown_10, t_text, t_typed)) else gd (inb t_typed 100) (ob2 (F_X5_tells N (t_typed + 1) t_thrown) (fun r_6 t_thrown_7 => some (r_6, t_thrown_7, (upd t_text t_typed.toNatClampNeg (vp_nar .byte p0.toInt8.toInt32)), (t_typed + 1))))) else ob2 (F_X5_fails N 1 t_thrown) (fun r_12 t_thrown_13 => some (r_12, t_thrown_13, t_text, t_typed))))
set_option maxHeartbeats 4000000 in
set_option maxRecDepth 100000 in
theorem c_X5_append (l : Launch) (D : va_G) (cy : Nat → ClassId) (s0 tW N : Nat) (A_t : Nat) (A_t_s : Nat) (A_t_past : Nat) (A_t_begun : Nat) (A_t_text : Nat) (A_t_wins : Nat) (A_t_fits : Nat) (p0 : Int32) (t_pasts : Int32) (t_thrown : Int32) (t_typed : Int32) (t_at : Int32) (t_letter : Int32) (t_one : Int32) (t_other : Int32) (t_text : Nat → Int32) (sz : Nat) {r9 : Int32} {t_thrown9 : Int32} {t_text9 : Nat → Int32} {t_typed9 : Int32} (hF : F_X5_append N p0 t_thrown t_text t_typed = some (r9, t_thrown9, t_text9, t_typed9)) : KM l D cy s0 tW yX5_append cX5_append 2 (some .int) 1 22 [.ref A_t, .int p0] sz (w_X5_append cy A_t A_t_s A_t_past A_t_begun A_t_text A_t_wins A_t_fits t_pasts t_thrown t_typed t_at t_letter t_one t_other t_text) (some (.int r9)) (w_X5_append cy A_t A_t_s A_t_past A_t_begun A_t_text A_t_wins A_t_fits t_pasts t_thrown9 t_typed9 t_at t_letter t_one t_other t_text9) := by
  refine KM.intro rfl (Nat.le_of_ble_eq_true rfl) ?_
  intro p e s m args below meth c A ls hx hb hr hml hown hts hlocks hE hP hD hS hA hAs hl
  have hK := hE.1
  have hl : lv_has ls 2 [(0, .ref A_t), (1, .int p0)] := hl
  unfold F_X5_append at hF
  refine lv_iload_n hx hb dX5_append_0 rfl (lv_at hl 1 rfl) ?_
  refine lv_iconst (v := 0) hx hb dX5_append_1 (by decide) ?_
  refine lv_bipush (v := 127) hx hb dX5_append_2 (by decide) ?_
  obtain ⟨r_1, hF_2, hF⟩ := ob1_some hF
  refine kcS (As := [.int p0, .int 0, .int 127]) (rest := []) (wr := [(A_t, .inr (5, [.ref A_t_s, .ref A_t_past, .ref A_t_begun, .int t_pasts, .int t_thrown, .ref A_t_text, .int t_typed, .int t_at, .int t_letter, .int t_one, .int t_other, .ref A_t_wins, .ref A_t_fits])), (A_t_text, .inl (cy 2, 100, .inl t_text))]) (wsN := (w_X5_append cy A_t A_t_s A_t_past A_t_begun A_t_text A_t_wins A_t_fits t_pasts t_thrown t_typed t_at t_letter t_one t_other t_text)) ⟨hx, hb, hml, hown, hts⟩ hE hP hD hS hA hAs [] [0, 1] [0, 1] (c_X5_in l D cy s0 tW N p0 0 127 _ hF_2) (gS q_823 q_824 q_88 q_825) hd_X5_in.2 ⟨Nat.le_of_ble_eq_true rfl, Nat.le_of_ble_eq_true rfl⟩ rfl rfl rfl rfl rfl rfl rfl hl.1 rfl (Nat.le_of_ble_eq_true rfl) dX5_append_4 ⟨Nat.zero_le _, Nat.zero_le _⟩ (fun H locs hP hD hS => ?_)
  refine W.eq (g2 := F0 m 7 ls [.int (bI r_1)]) rfl ?_
  refine lv_if_ne (tgt := 16) hx hb dX5_append_7 (by decide) (fun c_3 => ?_) (fun c_3 => ?_)
  · replace hF := ite_t (bI_t c_3) hF
    refine lv_aload_n hx hb dX5_append_16 rfl (lv_at hl 0 rfl) ?_
    refine va_get (D := D) (ci := 5) (v := .int t_typed) (C := RX5) (T := TX5) (N := 13) hx hb hts inX5 hown hK hP 0 rfl rfl 6 (by decide) (hts _ q_737) (fun _ h9 => h9) rfl dX5_append_17 ?_
    refine lv_bipush (v := 100) hx hb dX5_append_20 (by decide) ?_
    refine lv_icmp_ne (tgt := 31) hx hb dX5_append_22 (by decide) (fun c_4 => ?_) (fun c_4 => ?_)
    · replace hF := ite_f c_4 hF
      refine lv_aload_n hx hb dX5_append_31 rfl (lv_at hl 0 rfl) ?_
      refine va_get (D := D) (ci := 5) (v := .ref A_t_text) (C := RX5) (T := TX5) (N := 13) hx hb hts inX5 hown hK hP 0 rfl rfl 5 (by decide) (hts _ q_736) (fun _ h9 => h9) rfl dX5_append_32 ?_
      refine lv_aload_n hx hb dX5_append_35 rfl (lv_at hl 0 rfl) ?_
      refine va_get (D := D) (ci := 5) (v := .int t_typed) (C := RX5) (T := TX5) (N := 13) hx hb hts inX5 hown hK hP 0 rfl rfl 6 (by decide) (hts _ q_737) (fun _ h9 => h9) rfl dX5_append_36 ?_
      refine lv_iload_n hx hb dX5_append_39 rfl (lv_at hl 1 rfl) ?_
      refine lv_i2b (v := p0.toInt8.toInt32) hx hb dX5_append_40 rfl ?_
      obtain ⟨hi_5, hF⟩ := gd_some hF
      refine ka_bast (wsN := (w_X5_append cy A_t A_t_s A_t_past A_t_begun A_t_text A_t_wins A_t_fits t_pasts t_thrown t_typed t_at t_letter t_one t_other (upd t_text t_typed.toNatClampNeg (vp_nar .byte p0.toInt8.toInt32)))) hx hb hK hP hD hS 1 rfl (t_typed.toNatClampNeg) rfl (inb_in hi_5) rfl dX5_append_41 (fun H locs hP hD hS => ?_)
      refine lv_aload_n hx hb dX5_append_42 rfl (lv_at hl 0 rfl) ?_
      refine lv_dup hx hb dX5_append_43 rfl ?_
      refine va_get (D := D) (ci := 5) (v := .int t_typed) (C := RX5) (T := TX5) (N := 13) hx hb hts inX5 hown hK hP 0 rfl rfl 6 (by decide) (hts _ q_737) (fun _ h9 => h9) rfl dX5_append_44 ?_
      refine lv_iconst (v := 1) hx hb dX5_append_47 (by decide) ?_
      refine lv_iadd hx hb dX5_append_48 ?_
      refine ka_put (ci := 5) (v := .int (t_typed + 1)) (ty := .int) (C := RX5) (T := TX5) (N := 13) (wsN := (w_X5_append cy A_t A_t_s A_t_past A_t_begun A_t_text A_t_wins A_t_fits t_pasts t_thrown (t_typed + 1) t_at t_letter t_one t_other (upd t_text t_typed.toNatClampNeg (vp_nar .byte p0.toInt8.toInt32)))) hx hb hts inX5 tyX5 tyX5_ok nmX5 hown hK hP hD hS 0 rfl rfl 6 (by decide) (hts _ q_737) (fun _ h9 => h9) rfl (by decide +kernel) rfl rfl (Nat.le_of_ble_eq_true rfl) rfl dX5_append_49 (fun H locs hP hD hS => ?_)
      refine lv_aload_n hx hb dX5_append_52 rfl (lv_at hl 0 rfl) ?_
      refine lv_aload_n hx hb dX5_append_53 rfl (lv_at hl 0 rfl) ?_
      refine va_get (D := D) (ci := 5) (v := .int (t_typed + 1)) (C := RX5) (T := TX5) (N := 13) hx hb hts inX5 hown hK hP 0 rfl rfl 6 (by decide) (hts _ q_737) (fun _ h9 => h9) rfl dX5_append_54 ?_
      obtain ⟨r_6, t_thrown_7, hF_8, hF⟩ := ob2_some hF
      refine kcV (q := (RX5, TX5, 13)) (ci := 5) (q0 := 0) (As := [.int (t_typed + 1)]) (rest := []) (wr := [(A_t_text, .inl (cy 2, 100, .inl (upd t_text t_typed.toNatClampNeg (vp_nar .byte p0.toInt8.toInt32))))]) (wsN := (w_X5_append cy A_t A_t_s A_t_past A_t_begun A_t_text A_t_wins A_t_fits t_pasts t_thrown_7 (t_typed + 1) t_at t_letter t_one t_other (upd t_text t_typed.toNatClampNeg (vp_nar .byte p0.toInt8.toInt32)))) ⟨hx, hb, hml, hown, hts⟩ hE hP hD hS hA hAs [0] [1] [1, 0] (c_X5_tells l D cy s0 tW N A_t A_t_s A_t_past A_t_begun A_t_text A_t_wins A_t_fits (t_typed + 1) t_pasts t_thrown (t_typed + 1) t_at t_letter t_one t_other _ hF_8) (gV q_788 q_790 q_48 q_88 q_791) hd_X5_tells ⟨Nat.le_of_ble_eq_true rfl, Nat.le_of_ble_eq_true rfl⟩ rfl rfl rfl rfl rfl rfl rfl rfl rfl hl.1 rfl (Nat.le_of_ble_eq_true rfl) dX5_append_57 ⟨Nat.zero_le _, Nat.zero_le _⟩ (fun H locs hP hD hS => ?_)
      refine W.eq (g2 := F0 m 60 ls [.int r_6]) rfl ?_
      cases hF
      exact kret_i hx hb hr hlocks hP hD hS dX5_append_60
    · replace hF := ite_t c_4 hF
      refine lv_aload_n hx hb dX5_append_25 rfl (lv_at hl 0 rfl) ?_
      refine lv_iconst (v := 2) hx hb dX5_append_26 (by decide) ?_
      obtain ⟨r_9, t_thrown_10, hF_11, hF⟩ := ob2_some hF
      refine kcV (q := (RX5, TX5, 13)) (ci := 5) (q0 := 0) (As := [.int 2]) (rest := []) (wr := [(A_t_text, .inl (cy 2, 100, .inl t_text))]) (wsN := (w_X5_append cy A_t A_t_s A_t_past A_t_begun A_t_text A_t_wins A_t_fits t_pasts t_thrown_10 t_typed t_at t_letter t_one t_other t_text)) ⟨hx, hb, hml, hown, hts⟩ hE hP hD hS hA hAs [0] [1] [1, 0] (c_X5_fails l D cy s0 tW N A_t A_t_s A_t_past A_t_begun A_t_text A_t_wins A_t_fits 2 t_pasts t_thrown t_typed t_at t_letter t_one t_other _ hF_11) (gV q_803 q_805 q_50 q_88 q_806) hd_X5_fails ⟨Nat.le_of_ble_eq_true rfl, Nat.le_of_ble_eq_true rfl⟩ rfl rfl rfl rfl rfl rfl rfl rfl rfl hl.1 rfl (Nat.le_of_ble_eq_true rfl) dX5_append_27 ⟨Nat.zero_le _, Nat.zero_le _⟩ (fun H locs hP hD hS => ?_)
      refine W.eq (g2 := F0 m 30 ls [.int r_9]) rfl ?_
      cases hF
      exact kret_i hx hb hr hlocks hP hD hS dX5_append_30
  · replace hF := ite_f (bI_f c_3) hF
    refine lv_aload_n hx hb dX5_append_10 rfl (lv_at hl 0 rfl) ?_
    refine lv_iconst (v := 1) hx hb dX5_append_11 (by decide) ?_
    obtain ⟨r_12, t_thrown_13, hF_14, hF⟩ := ob2_some hF
    refine kcV (q := (RX5, TX5, 13)) (ci := 5) (q0 := 0) (As := [.int 1]) (rest := []) (wr := [(A_t_text, .inl (cy 2, 100, .inl t_text))]) (wsN := (w_X5_append cy A_t A_t_s A_t_past A_t_begun A_t_text A_t_wins A_t_fits t_pasts t_thrown_13 t_typed t_at t_letter t_one t_other t_text)) ⟨hx, hb, hml, hown, hts⟩ hE hP hD hS hA hAs [0] [1] [1, 0] (c_X5_fails l D cy s0 tW N A_t A_t_s A_t_past A_t_begun A_t_text A_t_wins A_t_fits 1 t_pasts t_thrown t_typed t_at t_letter t_one t_other _ hF_14) (gV q_803 q_805 q_50 q_88 q_806) hd_X5_fails ⟨Nat.le_of_ble_eq_true rfl, Nat.le_of_ble_eq_true rfl⟩ rfl rfl rfl rfl rfl rfl rfl rfl rfl hl.1 rfl (Nat.le_of_ble_eq_true rfl) dX5_append_12 ⟨Nat.zero_le _, Nat.zero_le _⟩ (fun H locs hP hD hS => ?_)
    refine W.eq (g2 := F0 m 15 ls [.int r_12]) rfl ?_
    cases hF
    exact kret_i hx hb hr hlocks hP hD hS dX5_append_15

abbrev w_X5_clearText (cy : Nat → ClassId) (A_t : Nat) (A_t_s : Nat) (A_t_past : Nat) (A_t_begun : Nat) (A_t_text : Nat) (A_t_wins : Nat) (A_t_fits : Nat) (t_pasts : Int32) (t_thrown : Int32) (t_typed : Int32) (t_at : Int32) (t_letter : Int32) (t_one : Int32) (t_other : Int32) : va_W := [(A_t, .inr (5, [.ref A_t_s, .ref A_t_past, .ref A_t_begun, .int t_pasts, .int t_thrown, .ref A_t_text, .int t_typed, .int t_at, .int t_letter, .int t_one, .int t_other, .ref A_t_wins, .ref A_t_fits]))]
def F_X5_clearText (N : Nat) (t_thrown : Int32) (t_typed : Int32) : Option (Int32 × Int32 × Int32) :=
  ob2 (F_X5_tells N t_typed t_thrown) (fun r_1 t_thrown_2 => some (r_1, t_thrown_2, 0))
set_option maxHeartbeats 4000000 in
set_option maxRecDepth 100000 in
theorem c_X5_clearText (l : Launch) (D : va_G) (cy : Nat → ClassId) (s0 tW N : Nat) (A_t : Nat) (A_t_s : Nat) (A_t_past : Nat) (A_t_begun : Nat) (A_t_text : Nat) (A_t_wins : Nat) (A_t_fits : Nat) (t_pasts : Int32) (t_thrown : Int32) (t_typed : Int32) (t_at : Int32) (t_letter : Int32) (t_one : Int32) (t_other : Int32) (sz : Nat) {r9 : Int32} {t_thrown9 : Int32} {t_typed9 : Int32} (hF : F_X5_clearText N t_thrown t_typed = some (r9, t_thrown9, t_typed9)) : KM l D cy s0 tW yX5_clearText cX5_clearText 2 (some .int) 1 21 [.ref A_t] sz (w_X5_clearText cy A_t A_t_s A_t_past A_t_begun A_t_text A_t_wins A_t_fits t_pasts t_thrown t_typed t_at t_letter t_one t_other) (some (.int r9)) (w_X5_clearText cy A_t A_t_s A_t_past A_t_begun A_t_text A_t_wins A_t_fits t_pasts t_thrown9 t_typed9 t_at t_letter t_one t_other) := by
  refine KM.intro rfl (Nat.le_of_ble_eq_true rfl) ?_
  intro p e s m args below meth c A ls hx hb hr hml hown hts hlocks hE hP hD hS hA hAs hl
  have hK := hE.1
  have hl : lv_has ls 2 [(0, .ref A_t)] := hl
  unfold F_X5_clearText at hF
  refine lv_aload_n hx hb dX5_clearText_0 rfl (lv_at hl 0 rfl) ?_
  refine va_get (D := D) (ci := 5) (v := .int t_typed) (C := RX5) (T := TX5) (N := 13) hx hb hts inX5 hown hK hP 0 rfl rfl 6 (by decide) (hts _ q_737) (fun _ h9 => h9) rfl dX5_clearText_1 ?_
  refine lv_istore_n (lv' := [(1, .int t_typed), (0, .ref A_t)]) hx hb dX5_clearText_4 rfl hl (by decide) rfl (fun ls hl => ?_)
  refine lv_aload_n hx hb dX5_clearText_5 rfl (lv_at hl 1 rfl) ?_
  refine lv_iconst (v := 0) hx hb dX5_clearText_6 (by decide) ?_
  refine ka_put (ci := 5) (v := .int 0) (ty := .int) (C := RX5) (T := TX5) (N := 13) (wsN := (w_X5_clearText cy A_t A_t_s A_t_past A_t_begun A_t_text A_t_wins A_t_fits t_pasts t_thrown 0 t_at t_letter t_one t_other)) hx hb hts inX5 tyX5 tyX5_ok nmX5 hown hK hP hD hS 0 rfl rfl 6 (by decide) (hts _ q_737) (fun _ h9 => h9) rfl (by decide +kernel) rfl rfl (Nat.le_of_ble_eq_true rfl) rfl dX5_clearText_7 (fun H locs hP hD hS => ?_)
  refine lv_aload_n hx hb dX5_clearText_10 rfl (lv_at hl 1 rfl) ?_
  refine lv_iload_n hx hb dX5_clearText_11 rfl (lv_at hl 0 rfl) ?_
  obtain ⟨r_1, t_thrown_2, hF_3, hF⟩ := ob2_some hF
  refine kcV (q := (RX5, TX5, 13)) (ci := 5) (q0 := 0) (As := [.int t_typed]) (rest := []) (wr := []) (wsN := (w_X5_clearText cy A_t A_t_s A_t_past A_t_begun A_t_text A_t_wins A_t_fits t_pasts t_thrown_2 0 t_at t_letter t_one t_other)) ⟨hx, hb, hml, hown, hts⟩ hE hP hD hS hA hAs [0] [] [0] (c_X5_tells l D cy s0 tW N A_t A_t_s A_t_past A_t_begun A_t_text A_t_wins A_t_fits t_typed t_pasts t_thrown 0 t_at t_letter t_one t_other _ hF_3) (gV q_788 q_790 q_48 q_88 q_791) hd_X5_tells ⟨Nat.le_of_ble_eq_true rfl, Nat.le_of_ble_eq_true rfl⟩ rfl rfl rfl rfl rfl rfl rfl rfl rfl hl.1 rfl (Nat.le_of_ble_eq_true rfl) dX5_clearText_12 ⟨Nat.zero_le _, Nat.zero_le _⟩ (fun H locs hP hD hS => ?_)
  refine W.eq (g2 := F0 m 15 ls [.int r_1]) rfl ?_
  cases hF
  exact kret_i hx hb hr hlocks hP hD hS dX5_clearText_15

theorem q_738 : Cond.fieldLink RX5 144 "ForAllGameModel" "at" "I" ∈ wAll := wAll_mem 738 (by decide +kernel) (by decide +kernel)
abbrev w_X5_sign (cy : Nat → ClassId) (A_t : Nat) (A_t_s : Nat) (A_t_past : Nat) (A_t_begun : Nat) (A_t_text : Nat) (A_t_wins : Nat) (A_t_fits : Nat) (t_pasts : Int32) (t_thrown : Int32) (t_typed : Int32) (t_at : Int32) (t_letter : Int32) (t_one : Int32) (t_other : Int32) (t_text : Nat → Int32) : va_W := [(A_t, .inr (5, [.ref A_t_s, .ref A_t_past, .ref A_t_begun, .int t_pasts, .int t_thrown, .ref A_t_text, .int t_typed, .int t_at, .int t_letter, .int t_one, .int t_other, .ref A_t_wins, .ref A_t_fits])), (A_t_text, .inl (cy 2, 100, .inl t_text))]
def F_X5_sign (N : Nat) (t_text : Nat → Int32) (t_typed : Int32) (t_at : Int32) : Option (Int32) :=
  (if t_typed ≤ t_at then some (-1) else gd (inb t_at 100) (some (t_text t_at.toNatClampNeg)))
set_option maxHeartbeats 4000000 in
set_option maxRecDepth 100000 in
theorem c_X5_sign (l : Launch) (D : va_G) (cy : Nat → ClassId) (s0 tW N : Nat) (A_t : Nat) (A_t_s : Nat) (A_t_past : Nat) (A_t_begun : Nat) (A_t_text : Nat) (A_t_wins : Nat) (A_t_fits : Nat) (t_pasts : Int32) (t_thrown : Int32) (t_typed : Int32) (t_at : Int32) (t_letter : Int32) (t_one : Int32) (t_other : Int32) (t_text : Nat → Int32) (sz : Nat) {r9 : Int32} (hF : F_X5_sign N t_text t_typed t_at = some r9) : KM l D cy s0 tW yX5_sign cX5_sign 1 (some .int) 0 0 [.ref A_t] sz (w_X5_sign cy A_t A_t_s A_t_past A_t_begun A_t_text A_t_wins A_t_fits t_pasts t_thrown t_typed t_at t_letter t_one t_other t_text) (some (.int r9)) (w_X5_sign cy A_t A_t_s A_t_past A_t_begun A_t_text A_t_wins A_t_fits t_pasts t_thrown t_typed t_at t_letter t_one t_other t_text) := by
  refine KM.intro rfl (Nat.le_of_ble_eq_true rfl) ?_
  intro p e s m args below meth c A ls hx hb hr hml hown hts hlocks hE hP hD hS hA hAs hl
  have hK := hE.1
  have hl : lv_has ls 1 [(0, .ref A_t)] := hl
  unfold F_X5_sign at hF
  refine lv_aload_n hx hb dX5_sign_0 rfl (lv_at hl 0 rfl) ?_
  refine va_get (D := D) (ci := 5) (v := .int t_at) (C := RX5) (T := TX5) (N := 13) hx hb hts inX5 hown hK hP 0 rfl rfl 7 (by decide) (hts _ q_738) (fun _ h9 => h9) rfl dX5_sign_1 ?_
  refine lv_aload_n hx hb dX5_sign_4 rfl (lv_at hl 0 rfl) ?_
  refine va_get (D := D) (ci := 5) (v := .int t_typed) (C := RX5) (T := TX5) (N := 13) hx hb hts inX5 hown hK hP 0 rfl rfl 6 (by decide) (hts _ q_737) (fun _ h9 => h9) rfl dX5_sign_5 ?_
  refine lv_icmp_ge (tgt := 23) hx hb dX5_sign_8 (by decide) (fun c_1 => ?_) (fun c_1 => ?_)
  · replace hF := ite_t c_1 hF
    refine lv_iconst (v := (-1)) hx hb dX5_sign_23 (by decide) ?_
    cases hF
    exact kret_i hx hb hr hlocks hP hD hS dX5_sign_24
  · replace hF := ite_f c_1 hF
    refine lv_aload_n hx hb dX5_sign_11 rfl (lv_at hl 0 rfl) ?_
    refine va_get (D := D) (ci := 5) (v := .ref A_t_text) (C := RX5) (T := TX5) (N := 13) hx hb hts inX5 hown hK hP 0 rfl rfl 5 (by decide) (hts _ q_736) (fun _ h9 => h9) rfl dX5_sign_12 ?_
    refine lv_aload_n hx hb dX5_sign_15 rfl (lv_at hl 0 rfl) ?_
    refine va_get (D := D) (ci := 5) (v := .int t_at) (C := RX5) (T := TX5) (N := 13) hx hb hts inX5 hown hK hP 0 rfl rfl 7 (by decide) (hts _ q_738) (fun _ h9 => h9) rfl dX5_sign_16 ?_
    obtain ⟨hi_2, hF⟩ := gd_some hF
    refine ka_bald hx hb hK hP 1 rfl (t_at.toNatClampNeg) rfl (inb_in hi_2) dX5_sign_19 ?_
    refine lv_goto (tgt := 24) hx hb dX5_sign_20 (by decide) ?_
    cases hF
    exact kret_i hx hb hr hlocks hP hD hS dX5_sign_24

theorem q_78 : Cond.selects RX5 yX5_sign yX5_sign ∈ wAll := wAll_mem 78 (by decide +kernel) (by decide +kernel)
theorem q_740 : Cond.fieldLink RX5 147 "ForAllGameModel" "one" "I" ∈ wAll := wAll_mem 740 (by decide +kernel) (by decide +kernel)
theorem q_741 : Cond.fieldLink RX5 150 "ForAllGameModel" "other" "I" ∈ wAll := wAll_mem 741 (by decide +kernel) (by decide +kernel)
theorem q_1010 : Cond.methodLink RX5 153 yX5_sign ∈ wAll := wAll_mem 1010 (by decide +kernel) (by decide +kernel)
theorem q_1012 : Cond.instanceMethod yX5_sign ∈ wAll := wAll_mem 1012 (by decide +kernel) (by decide +kernel)
theorem q_1013 : Cond.code yX5_sign cX5_sign 1 (some .int) ∈ wAll := wAll_mem 1013 (by decide +kernel) (by decide +kernel)
theorem hd_X5_sign : yX5_sign.cls = RX5 ∧ yX5_sign.cls ≠ "java/lang/invoke/MethodHandle" ∧ yX5_sign.cls ≠ "java/lang/invoke/VarHandle" ∧ (parseMethodDescriptor yX5_sign.desc).map (fun d => d.parameters.length) = some 0 := by decide +kernel
abbrev w_X5_literals (cy : Nat → ClassId) (A_t : Nat) (A_t_s : Nat) (A_t_past : Nat) (A_t_begun : Nat) (A_t_text : Nat) (A_t_wins : Nat) (A_t_fits : Nat) (t_pasts : Int32) (t_thrown : Int32) (t_typed : Int32) (t_at : Int32) (t_letter : Int32) (t_one : Int32) (t_other : Int32) (t_text : Nat → Int32) : va_W := [(A_t, .inr (5, [.ref A_t_s, .ref A_t_past, .ref A_t_begun, .int t_pasts, .int t_thrown, .ref A_t_text, .int t_typed, .int t_at, .int t_letter, .int t_one, .int t_other, .ref A_t_wins, .ref A_t_fits])), (A_t_text, .inl (cy 2, 100, .inl t_text))]
def L_X5_literals_10 (N : Nat) (t_typed : Int32) (t_text : Nat → Int32) (kont : Int32 → Int32 → Int32 → Option (Bool × Int32 × Int32 × Int32)) : Nat → Int32 → Int32 → Int32 → Option (Bool × Int32 × Int32 × Int32)
  | 0, _, _, _ => none
  | n + 1, t_at_1, t_one_2, t_other_3 => ob1 (F_X5_sign N t_text t_typed t_at_1) (fun r_7 => ob1 (F_X5_in N r_7 97 105) (fun r_9 => (if r_9 = true then ob1 (F_X5_sign N t_text t_typed t_at_1) (fun r_12 => (if r_12 = (45 : Int32) then ob1 (F_X5_sign N t_text t_typed (t_at_1 + 1)) (fun r_22 => ob1 (F_X5_in N r_22 97 105) (fun r_24 => (if r_24 = true then ob1 (F_X5_sign N t_text t_typed (t_at_1 + 1)) (fun r_27 => L_X5_literals_10 N t_typed t_text kont n ((t_at_1 + 1) + 1) (t_one_2 ||| 0) (t_other_3 ||| ((1 : Int32) <<< ((r_27 - 97) &&& 31)))) else some (false, (t_at_1 + 1), t_one_2, t_other_3)))) else ob1 (F_X5_sign N t_text t_typed (t_at_1 + 0)) (fun r_15 => ob1 (F_X5_in N r_15 97 105) (fun r_17 => (if r_17 = true then ob1 (F_X5_sign N t_text t_typed (t_at_1 + 0)) (fun r_20 => L_X5_literals_10 N t_typed t_text kont n ((t_at_1 + 0) + 1) (t_one_2 ||| ((1 : Int32) <<< ((r_20 - 97) &&& 31))) (t_other_3 ||| 0)) else some (false, (t_at_1 + 0), t_one_2, t_other_3)))))) else ob1 (F_X5_sign N t_text t_typed t_at_1) (fun r_29 => (if r_29 = (45 : Int32) then ob1 (F_X5_sign N t_text t_typed t_at_1) (fun r_32 => (if r_32 = (45 : Int32) then ob1 (F_X5_sign N t_text t_typed (t_at_1 + 1)) (fun r_42 => ob1 (F_X5_in N r_42 97 105) (fun r_44 => (if r_44 = true then ob1 (F_X5_sign N t_text t_typed (t_at_1 + 1)) (fun r_47 => L_X5_literals_10 N t_typed t_text kont n ((t_at_1 + 1) + 1) (t_one_2 ||| 0) (t_other_3 ||| ((1 : Int32) <<< ((r_47 - 97) &&& 31)))) else some (false, (t_at_1 + 1), t_one_2, t_other_3)))) else ob1 (F_X5_sign N t_text t_typed (t_at_1 + 0)) (fun r_35 => ob1 (F_X5_in N r_35 97 105) (fun r_37 => (if r_37 = true then ob1 (F_X5_sign N t_text t_typed (t_at_1 + 0)) (fun r_40 => L_X5_literals_10 N t_typed t_text kont n ((t_at_1 + 0) + 1) (t_one_2 ||| ((1 : Int32) <<< ((r_40 - 97) &&& 31))) (t_other_3 ||| 0)) else some (false, (t_at_1 + 0), t_one_2, t_other_3)))))) else kont t_at_1 t_one_2 t_other_3)))))
def F_X5_literals (N : Nat) (t_text : Nat → Int32) (t_typed : Int32) (t_at : Int32) (t_one : Int32) (t_other : Int32) : Option (Bool × Int32 × Int32 × Int32) :=
  (L_X5_literals_10 N t_typed t_text (fun t_at_4 t_one_5 t_other_6 => some (true, t_at_4, t_one_5, t_other_6)) N t_at 0 0)
set_option maxHeartbeats 4000000 in
set_option maxRecDepth 100000 in
theorem c_X5_literals (l : Launch) (D : va_G) (cy : Nat → ClassId) (s0 tW N : Nat) (A_t : Nat) (A_t_s : Nat) (A_t_past : Nat) (A_t_begun : Nat) (A_t_text : Nat) (A_t_wins : Nat) (A_t_fits : Nat) (t_pasts : Int32) (t_thrown : Int32) (t_typed : Int32) (t_at : Int32) (t_letter : Int32) (t_one : Int32) (t_other : Int32) (t_text : Nat → Int32) (sz : Nat) {r9 : Bool} {t_at9 : Int32} {t_one9 : Int32} {t_other9 : Int32} (hF : F_X5_literals N t_text t_typed t_at t_one t_other = some (r9, t_at9, t_one9, t_other9)) : KM l D cy s0 tW yX5_literals cX5_literals 3 (some .boolean) 1 22 [.ref A_t] sz (w_X5_literals cy A_t A_t_s A_t_past A_t_begun A_t_text A_t_wins A_t_fits t_pasts t_thrown t_typed t_at t_letter t_one t_other t_text) (some (.int (bI r9))) (w_X5_literals cy A_t A_t_s A_t_past A_t_begun A_t_text A_t_wins A_t_fits t_pasts t_thrown t_typed t_at9 t_letter t_one9 t_other9 t_text) := by
  refine KM.intro rfl (Nat.le_of_ble_eq_true rfl) ?_
  intro p e s m args below meth c A ls hx hb hr hml hown hts hlocks hE hP hD hS hA hAs hl
  have hK := hE.1
  have hl : lv_has ls 3 [(0, .ref A_t)] := hl
  unfold F_X5_literals at hF
  refine lv_aload_n hx hb dX5_literals_0 rfl (lv_at hl 0 rfl) ?_
  refine lv_iconst (v := 0) hx hb dX5_literals_1 (by decide) ?_
  refine ka_put (ci := 5) (v := .int 0) (ty := .int) (C := RX5) (T := TX5) (N := 13) (wsN := (w_X5_literals cy A_t A_t_s A_t_past A_t_begun A_t_text A_t_wins A_t_fits t_pasts t_thrown t_typed t_at t_letter 0 t_other t_text)) hx hb hts inX5 tyX5 tyX5_ok nmX5 hown hK hP hD hS 0 rfl rfl 9 (by decide) (hts _ q_740) (fun _ h9 => h9) rfl (by decide +kernel) rfl rfl (Nat.le_of_ble_eq_true rfl) rfl dX5_literals_2 (fun H locs hP hD hS => ?_)
  refine lv_aload_n hx hb dX5_literals_5 rfl (lv_at hl 0 rfl) ?_
  refine lv_iconst (v := 0) hx hb dX5_literals_6 (by decide) ?_
  refine ka_put (ci := 5) (v := .int 0) (ty := .int) (C := RX5) (T := TX5) (N := 13) (wsN := (w_X5_literals cy A_t A_t_s A_t_past A_t_begun A_t_text A_t_wins A_t_fits t_pasts t_thrown t_typed t_at t_letter 0 0 t_text)) hx hb hts inX5 tyX5 tyX5_ok nmX5 hown hK hP hD hS 0 rfl rfl 10 (by decide) (hts _ q_741) (fun _ h9 => h9) rfl (by decide +kernel) rfl rfl (Nat.le_of_ble_eq_true rfl) rfl dX5_literals_7 (fun H locs hP hD hS => ?_)
  have hloop_10 : ∀ (kont : Int32 → Int32 → Int32 → Option (Bool × Int32 × Int32 × Int32)), (∀ (t_at_4 : Int32) (t_one_5 : Int32) (t_other_6 : Int32) (H : Heap) (locs : List Loc) (ls : Array Slot), kont t_at_4 t_one_5 t_other_6 = some (r9, t_at9, t_one9, t_other9) → va_P D vwCl (w_X5_literals cy A_t A_t_s A_t_past A_t_begun A_t_text A_t_wins A_t_fits t_pasts t_thrown t_typed t_at_4 t_letter t_one_5 t_other_6 t_text) H → va_D A (w_X5_literals cy A_t A_t_s A_t_past A_t_begun A_t_text A_t_wins A_t_fits t_pasts t_thrown t_typed t_at_4 t_letter t_one_5 t_other_6 t_text) → va_S A s.heap H locs → lv_has ls 3 [] → W p l e (rmK 1 22) s m args below meth c H locs 0 0 (MQ below (kQ (some (.int (bI r9))) D A (w_X5_literals cy A_t A_t_s A_t_past A_t_begun A_t_text A_t_wins A_t_fits t_pasts t_thrown t_typed t_at9 t_letter t_one9 t_other9 t_text)) args s 0 0 A) (F0 m 141 ls [])) → ∀ (n : Nat) (t_at_1 : Int32) (t_one_2 : Int32) (t_other_3 : Int32) (H : Heap) (locs : List Loc) (ls : Array Slot), L_X5_literals_10 N t_typed t_text kont n t_at_1 t_one_2 t_other_3 = some (r9, t_at9, t_one9, t_other9) → va_P D vwCl (w_X5_literals cy A_t A_t_s A_t_past A_t_begun A_t_text A_t_wins A_t_fits t_pasts t_thrown t_typed t_at_1 t_letter t_one_2 t_other_3 t_text) H → va_D A (w_X5_literals cy A_t A_t_s A_t_past A_t_begun A_t_text A_t_wins A_t_fits t_pasts t_thrown t_typed t_at_1 t_letter t_one_2 t_other_3 t_text) → va_S A s.heap H locs → lv_has ls 3 [(0, .ref A_t)] → W p l e (rmK 1 22) s m args below meth c H locs 0 0 (MQ below (kQ (some (.int (bI r9))) D A (w_X5_literals cy A_t A_t_s A_t_past A_t_begun A_t_text A_t_wins A_t_fits t_pasts t_thrown t_typed t_at9 t_letter t_one9 t_other9 t_text)) args s 0 0 A) (F0 m 10 ls []) := by
    intro kont hexit_10 n
    induction n with
    | zero =>
      intro t_at_1 t_one_2 t_other_3 H locs ls hF
      rw [L_X5_literals_10] at hF
      cases hF
    | succ n ih =>
      intro t_at_1 t_one_2 t_other_3 H locs ls hF hP hD hS hl
      rw [L_X5_literals_10] at hF
      refine lv_aload_n hx hb dX5_literals_10 rfl (lv_at hl 0 rfl) ?_
      obtain ⟨r_7, hF_8, hF⟩ := ob1_some hF
      refine kcV (q := (RX5, TX5, 13)) (ci := 5) (q0 := 0) (As := []) (rest := []) (wr := []) (wsN := (w_X5_literals cy A_t A_t_s A_t_past A_t_begun A_t_text A_t_wins A_t_fits t_pasts t_thrown t_typed t_at_1 t_letter t_one_2 t_other_3 t_text)) ⟨hx, hb, hml, hown, hts⟩ hE hP hD hS hA hAs [0, 1] [] [0, 1] (c_X5_sign l D cy s0 tW N A_t A_t_s A_t_past A_t_begun A_t_text A_t_wins A_t_fits t_pasts t_thrown t_typed t_at_1 t_letter t_one_2 t_other_3 t_text _ hF_8) (gV q_1010 q_1012 q_78 q_88 q_1013) hd_X5_sign ⟨Nat.le_of_ble_eq_true rfl, Nat.le_of_ble_eq_true rfl⟩ rfl rfl rfl rfl rfl rfl rfl rfl rfl hl.1 rfl (Nat.le_of_ble_eq_true rfl) dX5_literals_11 ⟨Nat.zero_le _, Nat.zero_le _⟩ (fun H locs hP hD hS => ?_)
      refine W.eq (g2 := F0 m 14 ls [.int r_7]) rfl ?_
      refine lv_bipush (v := 97) hx hb dX5_literals_14 (by decide) ?_
      refine lv_bipush (v := 105) hx hb dX5_literals_16 (by decide) ?_
      obtain ⟨r_9, hF_10, hF⟩ := ob1_some hF
      refine kcS (As := [.int r_7, .int 97, .int 105]) (rest := []) (wr := [(A_t, .inr (5, [.ref A_t_s, .ref A_t_past, .ref A_t_begun, .int t_pasts, .int t_thrown, .ref A_t_text, .int t_typed, .int t_at_1, .int t_letter, .int t_one_2, .int t_other_3, .ref A_t_wins, .ref A_t_fits])), (A_t_text, .inl (cy 2, 100, .inl t_text))]) (wsN := (w_X5_literals cy A_t A_t_s A_t_past A_t_begun A_t_text A_t_wins A_t_fits t_pasts t_thrown t_typed t_at_1 t_letter t_one_2 t_other_3 t_text)) ⟨hx, hb, hml, hown, hts⟩ hE hP hD hS hA hAs [] [0, 1] [0, 1] (c_X5_in l D cy s0 tW N r_7 97 105 _ hF_10) (gS q_823 q_824 q_88 q_825) hd_X5_in.2 ⟨Nat.le_of_ble_eq_true rfl, Nat.le_of_ble_eq_true rfl⟩ rfl rfl rfl rfl rfl rfl rfl hl.1 rfl (Nat.le_of_ble_eq_true rfl) dX5_literals_18 ⟨Nat.zero_le _, Nat.zero_le _⟩ (fun H locs hP hD hS => ?_)
      refine W.eq (g2 := F0 m 21 ls [.int (bI r_9)]) rfl ?_
      refine lv_if_ne (tgt := 33) hx hb dX5_literals_21 (by decide) (fun c_11 => ?_) (fun c_11 => ?_)
      · replace hF := ite_t (bI_t c_11) hF
        refine lv_aload_n hx hb dX5_literals_33 rfl (lv_at hl 0 rfl) ?_
        obtain ⟨r_12, hF_13, hF⟩ := ob1_some hF
        refine kcV (q := (RX5, TX5, 13)) (ci := 5) (q0 := 0) (As := []) (rest := []) (wr := []) (wsN := (w_X5_literals cy A_t A_t_s A_t_past A_t_begun A_t_text A_t_wins A_t_fits t_pasts t_thrown t_typed t_at_1 t_letter t_one_2 t_other_3 t_text)) ⟨hx, hb, hml, hown, hts⟩ hE hP hD hS hA hAs [0, 1] [] [0, 1] (c_X5_sign l D cy s0 tW N A_t A_t_s A_t_past A_t_begun A_t_text A_t_wins A_t_fits t_pasts t_thrown t_typed t_at_1 t_letter t_one_2 t_other_3 t_text _ hF_13) (gV q_1010 q_1012 q_78 q_88 q_1013) hd_X5_sign ⟨Nat.le_of_ble_eq_true rfl, Nat.le_of_ble_eq_true rfl⟩ rfl rfl rfl rfl rfl rfl rfl rfl rfl hl.1 rfl (Nat.le_of_ble_eq_true rfl) dX5_literals_34 ⟨Nat.zero_le _, Nat.zero_le _⟩ (fun H locs hP hD hS => ?_)
        refine W.eq (g2 := F0 m 37 ls [.int r_12]) rfl ?_
        refine lv_bipush (v := 45) hx hb dX5_literals_37 (by decide) ?_
        refine lv_icmp_ne (tgt := 46) hx hb dX5_literals_39 (by decide) (fun c_14 => ?_) (fun c_14 => ?_)
        · replace hF := ite_f c_14 hF
          refine lv_iconst (v := 0) hx hb dX5_literals_46 (by decide) ?_
          refine lv_istore_n (lv' := [(1, .int 0), (0, .ref A_t)]) hx hb dX5_literals_47 rfl hl (by decide) rfl (fun ls hl => ?_)
          refine lv_aload_n hx hb dX5_literals_48 rfl (lv_at hl 1 rfl) ?_
          refine lv_dup hx hb dX5_literals_49 rfl ?_
          refine va_get (D := D) (ci := 5) (v := .int t_at_1) (C := RX5) (T := TX5) (N := 13) hx hb hts inX5 hown hK hP 0 rfl rfl 7 (by decide) (hts _ q_738) (fun _ h9 => h9) rfl dX5_literals_50 ?_
          refine lv_iload_n hx hb dX5_literals_53 rfl (lv_at hl 0 rfl) ?_
          refine lv_if_eq (tgt := 61) hx hb dX5_literals_54 (by decide) (fun _ => ?_) (fun h0 => absurd (by decide) h0)
          refine lv_iconst (v := 0) hx hb dX5_literals_61 (by decide) ?_
          refine lv_iadd hx hb dX5_literals_62 ?_
          refine ka_put (ci := 5) (v := .int (t_at_1 + 0)) (ty := .int) (C := RX5) (T := TX5) (N := 13) (wsN := (w_X5_literals cy A_t A_t_s A_t_past A_t_begun A_t_text A_t_wins A_t_fits t_pasts t_thrown t_typed (t_at_1 + 0) t_letter t_one_2 t_other_3 t_text)) hx hb hts inX5 tyX5 tyX5_ok nmX5 hown hK hP hD hS 0 rfl rfl 7 (by decide) (hts _ q_738) (fun _ h9 => h9) rfl (by decide +kernel) rfl rfl (Nat.le_of_ble_eq_true rfl) rfl dX5_literals_63 (fun H locs hP hD hS => ?_)
          refine lv_aload_n hx hb dX5_literals_66 rfl (lv_at hl 1 rfl) ?_
          obtain ⟨r_15, hF_16, hF⟩ := ob1_some hF
          refine kcV (q := (RX5, TX5, 13)) (ci := 5) (q0 := 0) (As := []) (rest := []) (wr := []) (wsN := (w_X5_literals cy A_t A_t_s A_t_past A_t_begun A_t_text A_t_wins A_t_fits t_pasts t_thrown t_typed (t_at_1 + 0) t_letter t_one_2 t_other_3 t_text)) ⟨hx, hb, hml, hown, hts⟩ hE hP hD hS hA hAs [0, 1] [] [0, 1] (c_X5_sign l D cy s0 tW N A_t A_t_s A_t_past A_t_begun A_t_text A_t_wins A_t_fits t_pasts t_thrown t_typed (t_at_1 + 0) t_letter t_one_2 t_other_3 t_text _ hF_16) (gV q_1010 q_1012 q_78 q_88 q_1013) hd_X5_sign ⟨Nat.le_of_ble_eq_true rfl, Nat.le_of_ble_eq_true rfl⟩ rfl rfl rfl rfl rfl rfl rfl rfl rfl hl.1 rfl (Nat.le_of_ble_eq_true rfl) dX5_literals_67 ⟨Nat.zero_le _, Nat.zero_le _⟩ (fun H locs hP hD hS => ?_)
          refine W.eq (g2 := F0 m 70 ls [.int r_15]) rfl ?_
          refine lv_bipush (v := 97) hx hb dX5_literals_70 (by decide) ?_
          refine lv_bipush (v := 105) hx hb dX5_literals_72 (by decide) ?_
          obtain ⟨r_17, hF_18, hF⟩ := ob1_some hF
          refine kcS (As := [.int r_15, .int 97, .int 105]) (rest := []) (wr := [(A_t, .inr (5, [.ref A_t_s, .ref A_t_past, .ref A_t_begun, .int t_pasts, .int t_thrown, .ref A_t_text, .int t_typed, .int (t_at_1 + 0), .int t_letter, .int t_one_2, .int t_other_3, .ref A_t_wins, .ref A_t_fits])), (A_t_text, .inl (cy 2, 100, .inl t_text))]) (wsN := (w_X5_literals cy A_t A_t_s A_t_past A_t_begun A_t_text A_t_wins A_t_fits t_pasts t_thrown t_typed (t_at_1 + 0) t_letter t_one_2 t_other_3 t_text)) ⟨hx, hb, hml, hown, hts⟩ hE hP hD hS hA hAs [] [0, 1] [0, 1] (c_X5_in l D cy s0 tW N r_15 97 105 _ hF_18) (gS q_823 q_824 q_88 q_825) hd_X5_in.2 ⟨Nat.le_of_ble_eq_true rfl, Nat.le_of_ble_eq_true rfl⟩ rfl rfl rfl rfl rfl rfl rfl hl.1 rfl (Nat.le_of_ble_eq_true rfl) dX5_literals_74 ⟨Nat.zero_le _, Nat.zero_le _⟩ (fun H locs hP hD hS => ?_)
          refine W.eq (g2 := F0 m 77 ls [.int (bI r_17)]) rfl ?_
          refine lv_if_ne (tgt := 82) hx hb dX5_literals_77 (by decide) (fun c_19 => ?_) (fun c_19 => ?_)
          · replace hF := ite_t (bI_t c_19) hF
            refine lv_iconst (v := 1) hx hb dX5_literals_82 (by decide) ?_
            refine lv_aload_n hx hb dX5_literals_83 rfl (lv_at hl 1 rfl) ?_
            obtain ⟨r_20, hF_21, hF⟩ := ob1_some hF
            refine kcV (q := (RX5, TX5, 13)) (ci := 5) (q0 := 0) (As := []) (rest := [.int 1]) (wr := []) (wsN := (w_X5_literals cy A_t A_t_s A_t_past A_t_begun A_t_text A_t_wins A_t_fits t_pasts t_thrown t_typed (t_at_1 + 0) t_letter t_one_2 t_other_3 t_text)) ⟨hx, hb, hml, hown, hts⟩ hE hP hD hS hA hAs [0, 1] [] [0, 1] (c_X5_sign l D cy s0 tW N A_t A_t_s A_t_past A_t_begun A_t_text A_t_wins A_t_fits t_pasts t_thrown t_typed (t_at_1 + 0) t_letter t_one_2 t_other_3 t_text _ hF_21) (gV q_1010 q_1012 q_78 q_88 q_1013) hd_X5_sign ⟨Nat.le_of_ble_eq_true rfl, Nat.le_of_ble_eq_true rfl⟩ rfl rfl rfl rfl rfl rfl rfl rfl rfl hl.1 rfl (Nat.le_of_ble_eq_true rfl) dX5_literals_84 ⟨Nat.zero_le _, Nat.zero_le _⟩ (fun H locs hP hD hS => ?_)
            refine W.eq (g2 := F0 m 87 ls [.int r_20, .int 1]) rfl ?_
            refine lv_bipush (v := 97) hx hb dX5_literals_87 (by decide) ?_
            refine lv_isub hx hb dX5_literals_89 ?_
            refine lv_ishl hx hb dX5_literals_90 ?_
            refine lv_istore_n (lv' := [(2, .int ((1 : Int32) <<< ((r_20 - 97) &&& 31))), (1, .int 0), (0, .ref A_t)]) hx hb dX5_literals_91 rfl hl (by decide) rfl (fun ls hl => ?_)
            refine lv_aload_n hx hb dX5_literals_92 rfl (lv_at hl 2 rfl) ?_
            refine lv_dup hx hb dX5_literals_93 rfl ?_
            refine va_get (D := D) (ci := 5) (v := .int t_one_2) (C := RX5) (T := TX5) (N := 13) hx hb hts inX5 hown hK hP 0 rfl rfl 9 (by decide) (hts _ q_740) (fun _ h9 => h9) rfl dX5_literals_94 ?_
            refine lv_iload_n hx hb dX5_literals_97 rfl (lv_at hl 1 rfl) ?_
            refine lv_if_eq (tgt := 105) hx hb dX5_literals_98 (by decide) (fun _ => ?_) (fun h0 => absurd (by decide) h0)
            refine lv_iload_n hx hb dX5_literals_105 rfl (lv_at hl 0 rfl) ?_
            refine lv_ior hx hb dX5_literals_106 ?_
            refine ka_put (ci := 5) (v := .int (t_one_2 ||| ((1 : Int32) <<< ((r_20 - 97) &&& 31)))) (ty := .int) (C := RX5) (T := TX5) (N := 13) (wsN := (w_X5_literals cy A_t A_t_s A_t_past A_t_begun A_t_text A_t_wins A_t_fits t_pasts t_thrown t_typed (t_at_1 + 0) t_letter (t_one_2 ||| ((1 : Int32) <<< ((r_20 - 97) &&& 31))) t_other_3 t_text)) hx hb hts inX5 tyX5 tyX5_ok nmX5 hown hK hP hD hS 0 rfl rfl 9 (by decide) (hts _ q_740) (fun _ h9 => h9) rfl (by decide +kernel) rfl rfl (Nat.le_of_ble_eq_true rfl) rfl dX5_literals_107 (fun H locs hP hD hS => ?_)
            refine lv_aload_n hx hb dX5_literals_110 rfl (lv_at hl 2 rfl) ?_
            refine lv_dup hx hb dX5_literals_111 rfl ?_
            refine va_get (D := D) (ci := 5) (v := .int t_other_3) (C := RX5) (T := TX5) (N := 13) hx hb hts inX5 hown hK hP 0 rfl rfl 10 (by decide) (hts _ q_741) (fun _ h9 => h9) rfl dX5_literals_112 ?_
            refine lv_iload_n hx hb dX5_literals_115 rfl (lv_at hl 1 rfl) ?_
            refine lv_if_eq (tgt := 123) hx hb dX5_literals_116 (by decide) (fun _ => ?_) (fun h0 => absurd (by decide) h0)
            refine lv_iconst (v := 0) hx hb dX5_literals_123 (by decide) ?_
            refine lv_ior hx hb dX5_literals_124 ?_
            refine ka_put (ci := 5) (v := .int (t_other_3 ||| 0)) (ty := .int) (C := RX5) (T := TX5) (N := 13) (wsN := (w_X5_literals cy A_t A_t_s A_t_past A_t_begun A_t_text A_t_wins A_t_fits t_pasts t_thrown t_typed (t_at_1 + 0) t_letter (t_one_2 ||| ((1 : Int32) <<< ((r_20 - 97) &&& 31))) (t_other_3 ||| 0) t_text)) hx hb hts inX5 tyX5 tyX5_ok nmX5 hown hK hP hD hS 0 rfl rfl 10 (by decide) (hts _ q_741) (fun _ h9 => h9) rfl (by decide +kernel) rfl rfl (Nat.le_of_ble_eq_true rfl) rfl dX5_literals_125 (fun H locs hP hD hS => ?_)
            refine lv_aload_n hx hb dX5_literals_128 rfl (lv_at hl 2 rfl) ?_
            refine lv_dup hx hb dX5_literals_129 rfl ?_
            refine va_get (D := D) (ci := 5) (v := .int (t_at_1 + 0)) (C := RX5) (T := TX5) (N := 13) hx hb hts inX5 hown hK hP 0 rfl rfl 7 (by decide) (hts _ q_738) (fun _ h9 => h9) rfl dX5_literals_130 ?_
            refine lv_iconst (v := 1) hx hb dX5_literals_133 (by decide) ?_
            refine lv_iadd hx hb dX5_literals_134 ?_
            refine ka_put (ci := 5) (v := .int ((t_at_1 + 0) + 1)) (ty := .int) (C := RX5) (T := TX5) (N := 13) (wsN := (w_X5_literals cy A_t A_t_s A_t_past A_t_begun A_t_text A_t_wins A_t_fits t_pasts t_thrown t_typed ((t_at_1 + 0) + 1) t_letter (t_one_2 ||| ((1 : Int32) <<< ((r_20 - 97) &&& 31))) (t_other_3 ||| 0) t_text)) hx hb hts inX5 tyX5 tyX5_ok nmX5 hown hK hP hD hS 0 rfl rfl 7 (by decide) (hts _ q_738) (fun _ h9 => h9) rfl (by decide +kernel) rfl rfl (Nat.le_of_ble_eq_true rfl) rfl dX5_literals_135 (fun H locs hP hD hS => ?_)
            refine lv_goto (tgt := 10) hx hb dX5_literals_138 (by decide) ?_
            exact ih ((t_at_1 + 0) + 1) (t_one_2 ||| ((1 : Int32) <<< ((r_20 - 97) &&& 31))) (t_other_3 ||| 0) H locs ls hF hP hD hS (lv_sub hl [2] rfl)
          · replace hF := ite_f (bI_f c_19) hF
            refine lv_iconst (v := 0) hx hb dX5_literals_80 (by decide) ?_
            cases hF
            exact kret_z hx hb hr hlocks hP hD hS dX5_literals_81
        · replace hF := ite_t c_14 hF
          refine lv_iconst (v := 1) hx hb dX5_literals_42 (by decide) ?_
          refine lv_goto (tgt := 47) hx hb dX5_literals_43 (by decide) ?_
          refine lv_istore_n (lv' := [(1, .int 1), (0, .ref A_t)]) hx hb dX5_literals_47 rfl hl (by decide) rfl (fun ls hl => ?_)
          refine lv_aload_n hx hb dX5_literals_48 rfl (lv_at hl 1 rfl) ?_
          refine lv_dup hx hb dX5_literals_49 rfl ?_
          refine va_get (D := D) (ci := 5) (v := .int t_at_1) (C := RX5) (T := TX5) (N := 13) hx hb hts inX5 hown hK hP 0 rfl rfl 7 (by decide) (hts _ q_738) (fun _ h9 => h9) rfl dX5_literals_50 ?_
          refine lv_iload_n hx hb dX5_literals_53 rfl (lv_at hl 0 rfl) ?_
          refine lv_if_eq (tgt := 61) hx hb dX5_literals_54 (by decide) (fun h0 => absurd h0 (by decide)) (fun _ => ?_)
          refine lv_iconst (v := 1) hx hb dX5_literals_57 (by decide) ?_
          refine lv_goto (tgt := 62) hx hb dX5_literals_58 (by decide) ?_
          refine lv_iadd hx hb dX5_literals_62 ?_
          refine ka_put (ci := 5) (v := .int (t_at_1 + 1)) (ty := .int) (C := RX5) (T := TX5) (N := 13) (wsN := (w_X5_literals cy A_t A_t_s A_t_past A_t_begun A_t_text A_t_wins A_t_fits t_pasts t_thrown t_typed (t_at_1 + 1) t_letter t_one_2 t_other_3 t_text)) hx hb hts inX5 tyX5 tyX5_ok nmX5 hown hK hP hD hS 0 rfl rfl 7 (by decide) (hts _ q_738) (fun _ h9 => h9) rfl (by decide +kernel) rfl rfl (Nat.le_of_ble_eq_true rfl) rfl dX5_literals_63 (fun H locs hP hD hS => ?_)
          refine lv_aload_n hx hb dX5_literals_66 rfl (lv_at hl 1 rfl) ?_
          obtain ⟨r_22, hF_23, hF⟩ := ob1_some hF
          refine kcV (q := (RX5, TX5, 13)) (ci := 5) (q0 := 0) (As := []) (rest := []) (wr := []) (wsN := (w_X5_literals cy A_t A_t_s A_t_past A_t_begun A_t_text A_t_wins A_t_fits t_pasts t_thrown t_typed (t_at_1 + 1) t_letter t_one_2 t_other_3 t_text)) ⟨hx, hb, hml, hown, hts⟩ hE hP hD hS hA hAs [0, 1] [] [0, 1] (c_X5_sign l D cy s0 tW N A_t A_t_s A_t_past A_t_begun A_t_text A_t_wins A_t_fits t_pasts t_thrown t_typed (t_at_1 + 1) t_letter t_one_2 t_other_3 t_text _ hF_23) (gV q_1010 q_1012 q_78 q_88 q_1013) hd_X5_sign ⟨Nat.le_of_ble_eq_true rfl, Nat.le_of_ble_eq_true rfl⟩ rfl rfl rfl rfl rfl rfl rfl rfl rfl hl.1 rfl (Nat.le_of_ble_eq_true rfl) dX5_literals_67 ⟨Nat.zero_le _, Nat.zero_le _⟩ (fun H locs hP hD hS => ?_)
          refine W.eq (g2 := F0 m 70 ls [.int r_22]) rfl ?_
          refine lv_bipush (v := 97) hx hb dX5_literals_70 (by decide) ?_
          refine lv_bipush (v := 105) hx hb dX5_literals_72 (by decide) ?_
          obtain ⟨r_24, hF_25, hF⟩ := ob1_some hF
          refine kcS (As := [.int r_22, .int 97, .int 105]) (rest := []) (wr := [(A_t, .inr (5, [.ref A_t_s, .ref A_t_past, .ref A_t_begun, .int t_pasts, .int t_thrown, .ref A_t_text, .int t_typed, .int (t_at_1 + 1), .int t_letter, .int t_one_2, .int t_other_3, .ref A_t_wins, .ref A_t_fits])), (A_t_text, .inl (cy 2, 100, .inl t_text))]) (wsN := (w_X5_literals cy A_t A_t_s A_t_past A_t_begun A_t_text A_t_wins A_t_fits t_pasts t_thrown t_typed (t_at_1 + 1) t_letter t_one_2 t_other_3 t_text)) ⟨hx, hb, hml, hown, hts⟩ hE hP hD hS hA hAs [] [0, 1] [0, 1] (c_X5_in l D cy s0 tW N r_22 97 105 _ hF_25) (gS q_823 q_824 q_88 q_825) hd_X5_in.2 ⟨Nat.le_of_ble_eq_true rfl, Nat.le_of_ble_eq_true rfl⟩ rfl rfl rfl rfl rfl rfl rfl hl.1 rfl (Nat.le_of_ble_eq_true rfl) dX5_literals_74 ⟨Nat.zero_le _, Nat.zero_le _⟩ (fun H locs hP hD hS => ?_)
          refine W.eq (g2 := F0 m 77 ls [.int (bI r_24)]) rfl ?_
          refine lv_if_ne (tgt := 82) hx hb dX5_literals_77 (by decide) (fun c_26 => ?_) (fun c_26 => ?_)
          · replace hF := ite_t (bI_t c_26) hF
            refine lv_iconst (v := 1) hx hb dX5_literals_82 (by decide) ?_
            refine lv_aload_n hx hb dX5_literals_83 rfl (lv_at hl 1 rfl) ?_
            obtain ⟨r_27, hF_28, hF⟩ := ob1_some hF
            refine kcV (q := (RX5, TX5, 13)) (ci := 5) (q0 := 0) (As := []) (rest := [.int 1]) (wr := []) (wsN := (w_X5_literals cy A_t A_t_s A_t_past A_t_begun A_t_text A_t_wins A_t_fits t_pasts t_thrown t_typed (t_at_1 + 1) t_letter t_one_2 t_other_3 t_text)) ⟨hx, hb, hml, hown, hts⟩ hE hP hD hS hA hAs [0, 1] [] [0, 1] (c_X5_sign l D cy s0 tW N A_t A_t_s A_t_past A_t_begun A_t_text A_t_wins A_t_fits t_pasts t_thrown t_typed (t_at_1 + 1) t_letter t_one_2 t_other_3 t_text _ hF_28) (gV q_1010 q_1012 q_78 q_88 q_1013) hd_X5_sign ⟨Nat.le_of_ble_eq_true rfl, Nat.le_of_ble_eq_true rfl⟩ rfl rfl rfl rfl rfl rfl rfl rfl rfl hl.1 rfl (Nat.le_of_ble_eq_true rfl) dX5_literals_84 ⟨Nat.zero_le _, Nat.zero_le _⟩ (fun H locs hP hD hS => ?_)
            refine W.eq (g2 := F0 m 87 ls [.int r_27, .int 1]) rfl ?_
            refine lv_bipush (v := 97) hx hb dX5_literals_87 (by decide) ?_
            refine lv_isub hx hb dX5_literals_89 ?_
            refine lv_ishl hx hb dX5_literals_90 ?_
            refine lv_istore_n (lv' := [(2, .int ((1 : Int32) <<< ((r_27 - 97) &&& 31))), (1, .int 1), (0, .ref A_t)]) hx hb dX5_literals_91 rfl hl (by decide) rfl (fun ls hl => ?_)
            refine lv_aload_n hx hb dX5_literals_92 rfl (lv_at hl 2 rfl) ?_
            refine lv_dup hx hb dX5_literals_93 rfl ?_
            refine va_get (D := D) (ci := 5) (v := .int t_one_2) (C := RX5) (T := TX5) (N := 13) hx hb hts inX5 hown hK hP 0 rfl rfl 9 (by decide) (hts _ q_740) (fun _ h9 => h9) rfl dX5_literals_94 ?_
            refine lv_iload_n hx hb dX5_literals_97 rfl (lv_at hl 1 rfl) ?_
            refine lv_if_eq (tgt := 105) hx hb dX5_literals_98 (by decide) (fun h0 => absurd h0 (by decide)) (fun _ => ?_)
            refine lv_iconst (v := 0) hx hb dX5_literals_101 (by decide) ?_
            refine lv_goto (tgt := 106) hx hb dX5_literals_102 (by decide) ?_
            refine lv_ior hx hb dX5_literals_106 ?_
            refine ka_put (ci := 5) (v := .int (t_one_2 ||| 0)) (ty := .int) (C := RX5) (T := TX5) (N := 13) (wsN := (w_X5_literals cy A_t A_t_s A_t_past A_t_begun A_t_text A_t_wins A_t_fits t_pasts t_thrown t_typed (t_at_1 + 1) t_letter (t_one_2 ||| 0) t_other_3 t_text)) hx hb hts inX5 tyX5 tyX5_ok nmX5 hown hK hP hD hS 0 rfl rfl 9 (by decide) (hts _ q_740) (fun _ h9 => h9) rfl (by decide +kernel) rfl rfl (Nat.le_of_ble_eq_true rfl) rfl dX5_literals_107 (fun H locs hP hD hS => ?_)
            refine lv_aload_n hx hb dX5_literals_110 rfl (lv_at hl 2 rfl) ?_
            refine lv_dup hx hb dX5_literals_111 rfl ?_
            refine va_get (D := D) (ci := 5) (v := .int t_other_3) (C := RX5) (T := TX5) (N := 13) hx hb hts inX5 hown hK hP 0 rfl rfl 10 (by decide) (hts _ q_741) (fun _ h9 => h9) rfl dX5_literals_112 ?_
            refine lv_iload_n hx hb dX5_literals_115 rfl (lv_at hl 1 rfl) ?_
            refine lv_if_eq (tgt := 123) hx hb dX5_literals_116 (by decide) (fun h0 => absurd h0 (by decide)) (fun _ => ?_)
            refine lv_iload_n hx hb dX5_literals_119 rfl (lv_at hl 0 rfl) ?_
            refine lv_goto (tgt := 124) hx hb dX5_literals_120 (by decide) ?_
            refine lv_ior hx hb dX5_literals_124 ?_
            refine ka_put (ci := 5) (v := .int (t_other_3 ||| ((1 : Int32) <<< ((r_27 - 97) &&& 31)))) (ty := .int) (C := RX5) (T := TX5) (N := 13) (wsN := (w_X5_literals cy A_t A_t_s A_t_past A_t_begun A_t_text A_t_wins A_t_fits t_pasts t_thrown t_typed (t_at_1 + 1) t_letter (t_one_2 ||| 0) (t_other_3 ||| ((1 : Int32) <<< ((r_27 - 97) &&& 31))) t_text)) hx hb hts inX5 tyX5 tyX5_ok nmX5 hown hK hP hD hS 0 rfl rfl 10 (by decide) (hts _ q_741) (fun _ h9 => h9) rfl (by decide +kernel) rfl rfl (Nat.le_of_ble_eq_true rfl) rfl dX5_literals_125 (fun H locs hP hD hS => ?_)
            refine lv_aload_n hx hb dX5_literals_128 rfl (lv_at hl 2 rfl) ?_
            refine lv_dup hx hb dX5_literals_129 rfl ?_
            refine va_get (D := D) (ci := 5) (v := .int (t_at_1 + 1)) (C := RX5) (T := TX5) (N := 13) hx hb hts inX5 hown hK hP 0 rfl rfl 7 (by decide) (hts _ q_738) (fun _ h9 => h9) rfl dX5_literals_130 ?_
            refine lv_iconst (v := 1) hx hb dX5_literals_133 (by decide) ?_
            refine lv_iadd hx hb dX5_literals_134 ?_
            refine ka_put (ci := 5) (v := .int ((t_at_1 + 1) + 1)) (ty := .int) (C := RX5) (T := TX5) (N := 13) (wsN := (w_X5_literals cy A_t A_t_s A_t_past A_t_begun A_t_text A_t_wins A_t_fits t_pasts t_thrown t_typed ((t_at_1 + 1) + 1) t_letter (t_one_2 ||| 0) (t_other_3 ||| ((1 : Int32) <<< ((r_27 - 97) &&& 31))) t_text)) hx hb hts inX5 tyX5 tyX5_ok nmX5 hown hK hP hD hS 0 rfl rfl 7 (by decide) (hts _ q_738) (fun _ h9 => h9) rfl (by decide +kernel) rfl rfl (Nat.le_of_ble_eq_true rfl) rfl dX5_literals_135 (fun H locs hP hD hS => ?_)
            refine lv_goto (tgt := 10) hx hb dX5_literals_138 (by decide) ?_
            exact ih ((t_at_1 + 1) + 1) (t_one_2 ||| 0) (t_other_3 ||| ((1 : Int32) <<< ((r_27 - 97) &&& 31))) H locs ls hF hP hD hS (lv_sub hl [2] rfl)
          · replace hF := ite_f (bI_f c_26) hF
            refine lv_iconst (v := 0) hx hb dX5_literals_80 (by decide) ?_
            cases hF
            exact kret_z hx hb hr hlocks hP hD hS dX5_literals_81
      · replace hF := ite_f (bI_f c_11) hF
        refine lv_aload_n hx hb dX5_literals_24 rfl (lv_at hl 0 rfl) ?_
        obtain ⟨r_29, hF_30, hF⟩ := ob1_some hF
        refine kcV (q := (RX5, TX5, 13)) (ci := 5) (q0 := 0) (As := []) (rest := []) (wr := []) (wsN := (w_X5_literals cy A_t A_t_s A_t_past A_t_begun A_t_text A_t_wins A_t_fits t_pasts t_thrown t_typed t_at_1 t_letter t_one_2 t_other_3 t_text)) ⟨hx, hb, hml, hown, hts⟩ hE hP hD hS hA hAs [0, 1] [] [0, 1] (c_X5_sign l D cy s0 tW N A_t A_t_s A_t_past A_t_begun A_t_text A_t_wins A_t_fits t_pasts t_thrown t_typed t_at_1 t_letter t_one_2 t_other_3 t_text _ hF_30) (gV q_1010 q_1012 q_78 q_88 q_1013) hd_X5_sign ⟨Nat.le_of_ble_eq_true rfl, Nat.le_of_ble_eq_true rfl⟩ rfl rfl rfl rfl rfl rfl rfl rfl rfl hl.1 rfl (Nat.le_of_ble_eq_true rfl) dX5_literals_25 ⟨Nat.zero_le _, Nat.zero_le _⟩ (fun H locs hP hD hS => ?_)
        refine W.eq (g2 := F0 m 28 ls [.int r_29]) rfl ?_
        refine lv_bipush (v := 45) hx hb dX5_literals_28 (by decide) ?_
        refine lv_icmp_ne (tgt := 141) hx hb dX5_literals_30 (by decide) (fun c_31 => ?_) (fun c_31 => ?_)
        · replace hF := ite_f c_31 hF
          exact hexit_10 t_at_1 t_one_2 t_other_3 H locs ls hF hP hD hS (lv_sub hl [] rfl)
        · replace hF := ite_t c_31 hF
          refine lv_aload_n hx hb dX5_literals_33 rfl (lv_at hl 0 rfl) ?_
          obtain ⟨r_32, hF_33, hF⟩ := ob1_some hF
          refine kcV (q := (RX5, TX5, 13)) (ci := 5) (q0 := 0) (As := []) (rest := []) (wr := []) (wsN := (w_X5_literals cy A_t A_t_s A_t_past A_t_begun A_t_text A_t_wins A_t_fits t_pasts t_thrown t_typed t_at_1 t_letter t_one_2 t_other_3 t_text)) ⟨hx, hb, hml, hown, hts⟩ hE hP hD hS hA hAs [0, 1] [] [0, 1] (c_X5_sign l D cy s0 tW N A_t A_t_s A_t_past A_t_begun A_t_text A_t_wins A_t_fits t_pasts t_thrown t_typed t_at_1 t_letter t_one_2 t_other_3 t_text _ hF_33) (gV q_1010 q_1012 q_78 q_88 q_1013) hd_X5_sign ⟨Nat.le_of_ble_eq_true rfl, Nat.le_of_ble_eq_true rfl⟩ rfl rfl rfl rfl rfl rfl rfl rfl rfl hl.1 rfl (Nat.le_of_ble_eq_true rfl) dX5_literals_34 ⟨Nat.zero_le _, Nat.zero_le _⟩ (fun H locs hP hD hS => ?_)
          refine W.eq (g2 := F0 m 37 ls [.int r_32]) rfl ?_
          refine lv_bipush (v := 45) hx hb dX5_literals_37 (by decide) ?_
          refine lv_icmp_ne (tgt := 46) hx hb dX5_literals_39 (by decide) (fun c_34 => ?_) (fun c_34 => ?_)
          · replace hF := ite_f c_34 hF
            refine lv_iconst (v := 0) hx hb dX5_literals_46 (by decide) ?_
            refine lv_istore_n (lv' := [(1, .int 0), (0, .ref A_t)]) hx hb dX5_literals_47 rfl hl (by decide) rfl (fun ls hl => ?_)
            refine lv_aload_n hx hb dX5_literals_48 rfl (lv_at hl 1 rfl) ?_
            refine lv_dup hx hb dX5_literals_49 rfl ?_
            refine va_get (D := D) (ci := 5) (v := .int t_at_1) (C := RX5) (T := TX5) (N := 13) hx hb hts inX5 hown hK hP 0 rfl rfl 7 (by decide) (hts _ q_738) (fun _ h9 => h9) rfl dX5_literals_50 ?_
            refine lv_iload_n hx hb dX5_literals_53 rfl (lv_at hl 0 rfl) ?_
            refine lv_if_eq (tgt := 61) hx hb dX5_literals_54 (by decide) (fun _ => ?_) (fun h0 => absurd (by decide) h0)
            refine lv_iconst (v := 0) hx hb dX5_literals_61 (by decide) ?_
            refine lv_iadd hx hb dX5_literals_62 ?_
            refine ka_put (ci := 5) (v := .int (t_at_1 + 0)) (ty := .int) (C := RX5) (T := TX5) (N := 13) (wsN := (w_X5_literals cy A_t A_t_s A_t_past A_t_begun A_t_text A_t_wins A_t_fits t_pasts t_thrown t_typed (t_at_1 + 0) t_letter t_one_2 t_other_3 t_text)) hx hb hts inX5 tyX5 tyX5_ok nmX5 hown hK hP hD hS 0 rfl rfl 7 (by decide) (hts _ q_738) (fun _ h9 => h9) rfl (by decide +kernel) rfl rfl (Nat.le_of_ble_eq_true rfl) rfl dX5_literals_63 (fun H locs hP hD hS => ?_)
            refine lv_aload_n hx hb dX5_literals_66 rfl (lv_at hl 1 rfl) ?_
            obtain ⟨r_35, hF_36, hF⟩ := ob1_some hF
            refine kcV (q := (RX5, TX5, 13)) (ci := 5) (q0 := 0) (As := []) (rest := []) (wr := []) (wsN := (w_X5_literals cy A_t A_t_s A_t_past A_t_begun A_t_text A_t_wins A_t_fits t_pasts t_thrown t_typed (t_at_1 + 0) t_letter t_one_2 t_other_3 t_text)) ⟨hx, hb, hml, hown, hts⟩ hE hP hD hS hA hAs [0, 1] [] [0, 1] (c_X5_sign l D cy s0 tW N A_t A_t_s A_t_past A_t_begun A_t_text A_t_wins A_t_fits t_pasts t_thrown t_typed (t_at_1 + 0) t_letter t_one_2 t_other_3 t_text _ hF_36) (gV q_1010 q_1012 q_78 q_88 q_1013) hd_X5_sign ⟨Nat.le_of_ble_eq_true rfl, Nat.le_of_ble_eq_true rfl⟩ rfl rfl rfl rfl rfl rfl rfl rfl rfl hl.1 rfl (Nat.le_of_ble_eq_true rfl) dX5_literals_67 ⟨Nat.zero_le _, Nat.zero_le _⟩ (fun H locs hP hD hS => ?_)
            refine W.eq (g2 := F0 m 70 ls [.int r_35]) rfl ?_
            refine lv_bipush (v := 97) hx hb dX5_literals_70 (by decide) ?_
            refine lv_bipush (v := 105) hx hb dX5_literals_72 (by decide) ?_
            obtain ⟨r_37, hF_38, hF⟩ := ob1_some hF
            refine kcS (As := [.int r_35, .int 97, .int 105]) (rest := []) (wr := [(A_t, .inr (5, [.ref A_t_s, .ref A_t_past, .ref A_t_begun, .int t_pasts, .int t_thrown, .ref A_t_text, .int t_typed, .int (t_at_1 + 0), .int t_letter, .int t_one_2, .int t_other_3, .ref A_t_wins, .ref A_t_fits])), (A_t_text, .inl (cy 2, 100, .inl t_text))]) (wsN := (w_X5_literals cy A_t A_t_s A_t_past A_t_begun A_t_text A_t_wins A_t_fits t_pasts t_thrown t_typed (t_at_1 + 0) t_letter t_one_2 t_other_3 t_text)) ⟨hx, hb, hml, hown, hts⟩ hE hP hD hS hA hAs [] [0, 1] [0, 1] (c_X5_in l D cy s0 tW N r_35 97 105 _ hF_38) (gS q_823 q_824 q_88 q_825) hd_X5_in.2 ⟨Nat.le_of_ble_eq_true rfl, Nat.le_of_ble_eq_true rfl⟩ rfl rfl rfl rfl rfl rfl rfl hl.1 rfl (Nat.le_of_ble_eq_true rfl) dX5_literals_74 ⟨Nat.zero_le _, Nat.zero_le _⟩ (fun H locs hP hD hS => ?_)
            refine W.eq (g2 := F0 m 77 ls [.int (bI r_37)]) rfl ?_
            refine lv_if_ne (tgt := 82) hx hb dX5_literals_77 (by decide) (fun c_39 => ?_) (fun c_39 => ?_)
            · replace hF := ite_t (bI_t c_39) hF
              refine lv_iconst (v := 1) hx hb dX5_literals_82 (by decide) ?_
              refine lv_aload_n hx hb dX5_literals_83 rfl (lv_at hl 1 rfl) ?_
              obtain ⟨r_40, hF_41, hF⟩ := ob1_some hF
              refine kcV (q := (RX5, TX5, 13)) (ci := 5) (q0 := 0) (As := []) (rest := [.int 1]) (wr := []) (wsN := (w_X5_literals cy A_t A_t_s A_t_past A_t_begun A_t_text A_t_wins A_t_fits t_pasts t_thrown t_typed (t_at_1 + 0) t_letter t_one_2 t_other_3 t_text)) ⟨hx, hb, hml, hown, hts⟩ hE hP hD hS hA hAs [0, 1] [] [0, 1] (c_X5_sign l D cy s0 tW N A_t A_t_s A_t_past A_t_begun A_t_text A_t_wins A_t_fits t_pasts t_thrown t_typed (t_at_1 + 0) t_letter t_one_2 t_other_3 t_text _ hF_41) (gV q_1010 q_1012 q_78 q_88 q_1013) hd_X5_sign ⟨Nat.le_of_ble_eq_true rfl, Nat.le_of_ble_eq_true rfl⟩ rfl rfl rfl rfl rfl rfl rfl rfl rfl hl.1 rfl (Nat.le_of_ble_eq_true rfl) dX5_literals_84 ⟨Nat.zero_le _, Nat.zero_le _⟩ (fun H locs hP hD hS => ?_)
              refine W.eq (g2 := F0 m 87 ls [.int r_40, .int 1]) rfl ?_
              refine lv_bipush (v := 97) hx hb dX5_literals_87 (by decide) ?_
              refine lv_isub hx hb dX5_literals_89 ?_
              refine lv_ishl hx hb dX5_literals_90 ?_
              refine lv_istore_n (lv' := [(2, .int ((1 : Int32) <<< ((r_40 - 97) &&& 31))), (1, .int 0), (0, .ref A_t)]) hx hb dX5_literals_91 rfl hl (by decide) rfl (fun ls hl => ?_)
              refine lv_aload_n hx hb dX5_literals_92 rfl (lv_at hl 2 rfl) ?_
              refine lv_dup hx hb dX5_literals_93 rfl ?_
              refine va_get (D := D) (ci := 5) (v := .int t_one_2) (C := RX5) (T := TX5) (N := 13) hx hb hts inX5 hown hK hP 0 rfl rfl 9 (by decide) (hts _ q_740) (fun _ h9 => h9) rfl dX5_literals_94 ?_
              refine lv_iload_n hx hb dX5_literals_97 rfl (lv_at hl 1 rfl) ?_
              refine lv_if_eq (tgt := 105) hx hb dX5_literals_98 (by decide) (fun _ => ?_) (fun h0 => absurd (by decide) h0)
              refine lv_iload_n hx hb dX5_literals_105 rfl (lv_at hl 0 rfl) ?_
              refine lv_ior hx hb dX5_literals_106 ?_
              refine ka_put (ci := 5) (v := .int (t_one_2 ||| ((1 : Int32) <<< ((r_40 - 97) &&& 31)))) (ty := .int) (C := RX5) (T := TX5) (N := 13) (wsN := (w_X5_literals cy A_t A_t_s A_t_past A_t_begun A_t_text A_t_wins A_t_fits t_pasts t_thrown t_typed (t_at_1 + 0) t_letter (t_one_2 ||| ((1 : Int32) <<< ((r_40 - 97) &&& 31))) t_other_3 t_text)) hx hb hts inX5 tyX5 tyX5_ok nmX5 hown hK hP hD hS 0 rfl rfl 9 (by decide) (hts _ q_740) (fun _ h9 => h9) rfl (by decide +kernel) rfl rfl (Nat.le_of_ble_eq_true rfl) rfl dX5_literals_107 (fun H locs hP hD hS => ?_)
              refine lv_aload_n hx hb dX5_literals_110 rfl (lv_at hl 2 rfl) ?_
              refine lv_dup hx hb dX5_literals_111 rfl ?_
              refine va_get (D := D) (ci := 5) (v := .int t_other_3) (C := RX5) (T := TX5) (N := 13) hx hb hts inX5 hown hK hP 0 rfl rfl 10 (by decide) (hts _ q_741) (fun _ h9 => h9) rfl dX5_literals_112 ?_
              refine lv_iload_n hx hb dX5_literals_115 rfl (lv_at hl 1 rfl) ?_
              refine lv_if_eq (tgt := 123) hx hb dX5_literals_116 (by decide) (fun _ => ?_) (fun h0 => absurd (by decide) h0)
              refine lv_iconst (v := 0) hx hb dX5_literals_123 (by decide) ?_
              refine lv_ior hx hb dX5_literals_124 ?_
              refine ka_put (ci := 5) (v := .int (t_other_3 ||| 0)) (ty := .int) (C := RX5) (T := TX5) (N := 13) (wsN := (w_X5_literals cy A_t A_t_s A_t_past A_t_begun A_t_text A_t_wins A_t_fits t_pasts t_thrown t_typed (t_at_1 + 0) t_letter (t_one_2 ||| ((1 : Int32) <<< ((r_40 - 97) &&& 31))) (t_other_3 ||| 0) t_text)) hx hb hts inX5 tyX5 tyX5_ok nmX5 hown hK hP hD hS 0 rfl rfl 10 (by decide) (hts _ q_741) (fun _ h9 => h9) rfl (by decide +kernel) rfl rfl (Nat.le_of_ble_eq_true rfl) rfl dX5_literals_125 (fun H locs hP hD hS => ?_)
              refine lv_aload_n hx hb dX5_literals_128 rfl (lv_at hl 2 rfl) ?_
              refine lv_dup hx hb dX5_literals_129 rfl ?_
              refine va_get (D := D) (ci := 5) (v := .int (t_at_1 + 0)) (C := RX5) (T := TX5) (N := 13) hx hb hts inX5 hown hK hP 0 rfl rfl 7 (by decide) (hts _ q_738) (fun _ h9 => h9) rfl dX5_literals_130 ?_
              refine lv_iconst (v := 1) hx hb dX5_literals_133 (by decide) ?_
              refine lv_iadd hx hb dX5_literals_134 ?_
              refine ka_put (ci := 5) (v := .int ((t_at_1 + 0) + 1)) (ty := .int) (C := RX5) (T := TX5) (N := 13) (wsN := (w_X5_literals cy A_t A_t_s A_t_past A_t_begun A_t_text A_t_wins A_t_fits t_pasts t_thrown t_typed ((t_at_1 + 0) + 1) t_letter (t_one_2 ||| ((1 : Int32) <<< ((r_40 - 97) &&& 31))) (t_other_3 ||| 0) t_text)) hx hb hts inX5 tyX5 tyX5_ok nmX5 hown hK hP hD hS 0 rfl rfl 7 (by decide) (hts _ q_738) (fun _ h9 => h9) rfl (by decide +kernel) rfl rfl (Nat.le_of_ble_eq_true rfl) rfl dX5_literals_135 (fun H locs hP hD hS => ?_)
              refine lv_goto (tgt := 10) hx hb dX5_literals_138 (by decide) ?_
              exact ih ((t_at_1 + 0) + 1) (t_one_2 ||| ((1 : Int32) <<< ((r_40 - 97) &&& 31))) (t_other_3 ||| 0) H locs ls hF hP hD hS (lv_sub hl [2] rfl)
            · replace hF := ite_f (bI_f c_39) hF
              refine lv_iconst (v := 0) hx hb dX5_literals_80 (by decide) ?_
              cases hF
              exact kret_z hx hb hr hlocks hP hD hS dX5_literals_81
          · replace hF := ite_t c_34 hF
            refine lv_iconst (v := 1) hx hb dX5_literals_42 (by decide) ?_
            refine lv_goto (tgt := 47) hx hb dX5_literals_43 (by decide) ?_
            refine lv_istore_n (lv' := [(1, .int 1), (0, .ref A_t)]) hx hb dX5_literals_47 rfl hl (by decide) rfl (fun ls hl => ?_)
            refine lv_aload_n hx hb dX5_literals_48 rfl (lv_at hl 1 rfl) ?_
            refine lv_dup hx hb dX5_literals_49 rfl ?_
            refine va_get (D := D) (ci := 5) (v := .int t_at_1) (C := RX5) (T := TX5) (N := 13) hx hb hts inX5 hown hK hP 0 rfl rfl 7 (by decide) (hts _ q_738) (fun _ h9 => h9) rfl dX5_literals_50 ?_
            refine lv_iload_n hx hb dX5_literals_53 rfl (lv_at hl 0 rfl) ?_
            refine lv_if_eq (tgt := 61) hx hb dX5_literals_54 (by decide) (fun h0 => absurd h0 (by decide)) (fun _ => ?_)
            refine lv_iconst (v := 1) hx hb dX5_literals_57 (by decide) ?_
            refine lv_goto (tgt := 62) hx hb dX5_literals_58 (by decide) ?_
            refine lv_iadd hx hb dX5_literals_62 ?_
            refine ka_put (ci := 5) (v := .int (t_at_1 + 1)) (ty := .int) (C := RX5) (T := TX5) (N := 13) (wsN := (w_X5_literals cy A_t A_t_s A_t_past A_t_begun A_t_text A_t_wins A_t_fits t_pasts t_thrown t_typed (t_at_1 + 1) t_letter t_one_2 t_other_3 t_text)) hx hb hts inX5 tyX5 tyX5_ok nmX5 hown hK hP hD hS 0 rfl rfl 7 (by decide) (hts _ q_738) (fun _ h9 => h9) rfl (by decide +kernel) rfl rfl (Nat.le_of_ble_eq_true rfl) rfl dX5_literals_63 (fun H locs hP hD hS => ?_)
            refine lv_aload_n hx hb dX5_literals_66 rfl (lv_at hl 1 rfl) ?_
            obtain ⟨r_42, hF_43, hF⟩ := ob1_some hF
            refine kcV (q := (RX5, TX5, 13)) (ci := 5) (q0 := 0) (As := []) (rest := []) (wr := []) (wsN := (w_X5_literals cy A_t A_t_s A_t_past A_t_begun A_t_text A_t_wins A_t_fits t_pasts t_thrown t_typed (t_at_1 + 1) t_letter t_one_2 t_other_3 t_text)) ⟨hx, hb, hml, hown, hts⟩ hE hP hD hS hA hAs [0, 1] [] [0, 1] (c_X5_sign l D cy s0 tW N A_t A_t_s A_t_past A_t_begun A_t_text A_t_wins A_t_fits t_pasts t_thrown t_typed (t_at_1 + 1) t_letter t_one_2 t_other_3 t_text _ hF_43) (gV q_1010 q_1012 q_78 q_88 q_1013) hd_X5_sign ⟨Nat.le_of_ble_eq_true rfl, Nat.le_of_ble_eq_true rfl⟩ rfl rfl rfl rfl rfl rfl rfl rfl rfl hl.1 rfl (Nat.le_of_ble_eq_true rfl) dX5_literals_67 ⟨Nat.zero_le _, Nat.zero_le _⟩ (fun H locs hP hD hS => ?_)
            refine W.eq (g2 := F0 m 70 ls [.int r_42]) rfl ?_
            refine lv_bipush (v := 97) hx hb dX5_literals_70 (by decide) ?_
            refine lv_bipush (v := 105) hx hb dX5_literals_72 (by decide) ?_
            obtain ⟨r_44, hF_45, hF⟩ := ob1_some hF
            refine kcS (As := [.int r_42, .int 97, .int 105]) (rest := []) (wr := [(A_t, .inr (5, [.ref A_t_s, .ref A_t_past, .ref A_t_begun, .int t_pasts, .int t_thrown, .ref A_t_text, .int t_typed, .int (t_at_1 + 1), .int t_letter, .int t_one_2, .int t_other_3, .ref A_t_wins, .ref A_t_fits])), (A_t_text, .inl (cy 2, 100, .inl t_text))]) (wsN := (w_X5_literals cy A_t A_t_s A_t_past A_t_begun A_t_text A_t_wins A_t_fits t_pasts t_thrown t_typed (t_at_1 + 1) t_letter t_one_2 t_other_3 t_text)) ⟨hx, hb, hml, hown, hts⟩ hE hP hD hS hA hAs [] [0, 1] [0, 1] (c_X5_in l D cy s0 tW N r_42 97 105 _ hF_45) (gS q_823 q_824 q_88 q_825) hd_X5_in.2 ⟨Nat.le_of_ble_eq_true rfl, Nat.le_of_ble_eq_true rfl⟩ rfl rfl rfl rfl rfl rfl rfl hl.1 rfl (Nat.le_of_ble_eq_true rfl) dX5_literals_74 ⟨Nat.zero_le _, Nat.zero_le _⟩ (fun H locs hP hD hS => ?_)
            refine W.eq (g2 := F0 m 77 ls [.int (bI r_44)]) rfl ?_
            refine lv_if_ne (tgt := 82) hx hb dX5_literals_77 (by decide) (fun c_46 => ?_) (fun c_46 => ?_)
            · replace hF := ite_t (bI_t c_46) hF
              refine lv_iconst (v := 1) hx hb dX5_literals_82 (by decide) ?_
              refine lv_aload_n hx hb dX5_literals_83 rfl (lv_at hl 1 rfl) ?_
              obtain ⟨r_47, hF_48, hF⟩ := ob1_some hF
              refine kcV (q := (RX5, TX5, 13)) (ci := 5) (q0 := 0) (As := []) (rest := [.int 1]) (wr := []) (wsN := (w_X5_literals cy A_t A_t_s A_t_past A_t_begun A_t_text A_t_wins A_t_fits t_pasts t_thrown t_typed (t_at_1 + 1) t_letter t_one_2 t_other_3 t_text)) ⟨hx, hb, hml, hown, hts⟩ hE hP hD hS hA hAs [0, 1] [] [0, 1] (c_X5_sign l D cy s0 tW N A_t A_t_s A_t_past A_t_begun A_t_text A_t_wins A_t_fits t_pasts t_thrown t_typed (t_at_1 + 1) t_letter t_one_2 t_other_3 t_text _ hF_48) (gV q_1010 q_1012 q_78 q_88 q_1013) hd_X5_sign ⟨Nat.le_of_ble_eq_true rfl, Nat.le_of_ble_eq_true rfl⟩ rfl rfl rfl rfl rfl rfl rfl rfl rfl hl.1 rfl (Nat.le_of_ble_eq_true rfl) dX5_literals_84 ⟨Nat.zero_le _, Nat.zero_le _⟩ (fun H locs hP hD hS => ?_)
              refine W.eq (g2 := F0 m 87 ls [.int r_47, .int 1]) rfl ?_
              refine lv_bipush (v := 97) hx hb dX5_literals_87 (by decide) ?_
              refine lv_isub hx hb dX5_literals_89 ?_
              refine lv_ishl hx hb dX5_literals_90 ?_
              refine lv_istore_n (lv' := [(2, .int ((1 : Int32) <<< ((r_47 - 97) &&& 31))), (1, .int 1), (0, .ref A_t)]) hx hb dX5_literals_91 rfl hl (by decide) rfl (fun ls hl => ?_)
              refine lv_aload_n hx hb dX5_literals_92 rfl (lv_at hl 2 rfl) ?_
              refine lv_dup hx hb dX5_literals_93 rfl ?_
              refine va_get (D := D) (ci := 5) (v := .int t_one_2) (C := RX5) (T := TX5) (N := 13) hx hb hts inX5 hown hK hP 0 rfl rfl 9 (by decide) (hts _ q_740) (fun _ h9 => h9) rfl dX5_literals_94 ?_
              refine lv_iload_n hx hb dX5_literals_97 rfl (lv_at hl 1 rfl) ?_
              refine lv_if_eq (tgt := 105) hx hb dX5_literals_98 (by decide) (fun h0 => absurd h0 (by decide)) (fun _ => ?_)
              refine lv_iconst (v := 0) hx hb dX5_literals_101 (by decide) ?_
              refine lv_goto (tgt := 106) hx hb dX5_literals_102 (by decide) ?_
              refine lv_ior hx hb dX5_literals_106 ?_
              refine ka_put (ci := 5) (v := .int (t_one_2 ||| 0)) (ty := .int) (C := RX5) (T := TX5) (N := 13) (wsN := (w_X5_literals cy A_t A_t_s A_t_past A_t_begun A_t_text A_t_wins A_t_fits t_pasts t_thrown t_typed (t_at_1 + 1) t_letter (t_one_2 ||| 0) t_other_3 t_text)) hx hb hts inX5 tyX5 tyX5_ok nmX5 hown hK hP hD hS 0 rfl rfl 9 (by decide) (hts _ q_740) (fun _ h9 => h9) rfl (by decide +kernel) rfl rfl (Nat.le_of_ble_eq_true rfl) rfl dX5_literals_107 (fun H locs hP hD hS => ?_)
              refine lv_aload_n hx hb dX5_literals_110 rfl (lv_at hl 2 rfl) ?_
              refine lv_dup hx hb dX5_literals_111 rfl ?_
              refine va_get (D := D) (ci := 5) (v := .int t_other_3) (C := RX5) (T := TX5) (N := 13) hx hb hts inX5 hown hK hP 0 rfl rfl 10 (by decide) (hts _ q_741) (fun _ h9 => h9) rfl dX5_literals_112 ?_
              refine lv_iload_n hx hb dX5_literals_115 rfl (lv_at hl 1 rfl) ?_
              refine lv_if_eq (tgt := 123) hx hb dX5_literals_116 (by decide) (fun h0 => absurd h0 (by decide)) (fun _ => ?_)
              refine lv_iload_n hx hb dX5_literals_119 rfl (lv_at hl 0 rfl) ?_
              refine lv_goto (tgt := 124) hx hb dX5_literals_120 (by decide) ?_
              refine lv_ior hx hb dX5_literals_124 ?_
              refine ka_put (ci := 5) (v := .int (t_other_3 ||| ((1 : Int32) <<< ((r_47 - 97) &&& 31)))) (ty := .int) (C := RX5) (T := TX5) (N := 13) (wsN := (w_X5_literals cy A_t A_t_s A_t_past A_t_begun A_t_text A_t_wins A_t_fits t_pasts t_thrown t_typed (t_at_1 + 1) t_letter (t_one_2 ||| 0) (t_other_3 ||| ((1 : Int32) <<< ((r_47 - 97) &&& 31))) t_text)) hx hb hts inX5 tyX5 tyX5_ok nmX5 hown hK hP hD hS 0 rfl rfl 10 (by decide) (hts _ q_741) (fun _ h9 => h9) rfl (by decide +kernel) rfl rfl (Nat.le_of_ble_eq_true rfl) rfl dX5_literals_125 (fun H locs hP hD hS => ?_)
              refine lv_aload_n hx hb dX5_literals_128 rfl (lv_at hl 2 rfl) ?_
              refine lv_dup hx hb dX5_literals_129 rfl ?_
              refine va_get (D := D) (ci := 5) (v := .int (t_at_1 + 1)) (C := RX5) (T := TX5) (N := 13) hx hb hts inX5 hown hK hP 0 rfl rfl 7 (by decide) (hts _ q_738) (fun _ h9 => h9) rfl dX5_literals_130 ?_
              refine lv_iconst (v := 1) hx hb dX5_literals_133 (by decide) ?_
              refine lv_iadd hx hb dX5_literals_134 ?_
              refine ka_put (ci := 5) (v := .int ((t_at_1 + 1) + 1)) (ty := .int) (C := RX5) (T := TX5) (N := 13) (wsN := (w_X5_literals cy A_t A_t_s A_t_past A_t_begun A_t_text A_t_wins A_t_fits t_pasts t_thrown t_typed ((t_at_1 + 1) + 1) t_letter (t_one_2 ||| 0) (t_other_3 ||| ((1 : Int32) <<< ((r_47 - 97) &&& 31))) t_text)) hx hb hts inX5 tyX5 tyX5_ok nmX5 hown hK hP hD hS 0 rfl rfl 7 (by decide) (hts _ q_738) (fun _ h9 => h9) rfl (by decide +kernel) rfl rfl (Nat.le_of_ble_eq_true rfl) rfl dX5_literals_135 (fun H locs hP hD hS => ?_)
              refine lv_goto (tgt := 10) hx hb dX5_literals_138 (by decide) ?_
              exact ih ((t_at_1 + 1) + 1) (t_one_2 ||| 0) (t_other_3 ||| ((1 : Int32) <<< ((r_47 - 97) &&& 31))) H locs ls hF hP hD hS (lv_sub hl [2] rfl)
            · replace hF := ite_f (bI_f c_46) hF
              refine lv_iconst (v := 0) hx hb dX5_literals_80 (by decide) ?_
              cases hF
              exact kret_z hx hb hr hlocks hP hD hS dX5_literals_81
  refine hloop_10 _ (fun t_at_4 t_one_5 t_other_6 H locs ls hF hP hD hS hl => ?_) N t_at 0 0 _ _ ls hF hP hD hS (lv_sub hl [0] rfl)
  refine lv_iconst (v := 1) hx hb dX5_literals_141 (by decide) ?_
  cases hF
  exact kret_z hx hb hr hlocks hP hD hS dX5_literals_142

abbrev w_X5_number_ (cy : Nat → ClassId) (A_t : Nat) (A_t_s : Nat) (A_t_past : Nat) (A_t_begun : Nat) (A_t_text : Nat) (A_t_wins : Nat) (A_t_fits : Nat) (t_pasts : Int32) (t_thrown : Int32) (t_typed : Int32) (t_at : Int32) (t_letter : Int32) (t_one : Int32) (t_other : Int32) (t_text : Nat → Int32) : va_W := [(A_t, .inr (5, [.ref A_t_s, .ref A_t_past, .ref A_t_begun, .int t_pasts, .int t_thrown, .ref A_t_text, .int t_typed, .int t_at, .int t_letter, .int t_one, .int t_other, .ref A_t_wins, .ref A_t_fits])), (A_t_text, .inl (cy 2, 100, .inl t_text))]
def L_X5_number__10 (N : Nat) (t_typed : Int32) (t_at : Int32) (t_text : Nat → Int32) (kont : Int32 → Int32 → Option (Bool × Int32 × Int32)) : Nat → Int32 → Int32 → Option (Bool × Int32 × Int32)
  | 0, _, _ => none
  | n + 1, t_at_1, t_one_2 => ob1 (F_X5_sign N t_text t_typed t_at_1) (fun r_5 => ob1 (F_X5_in N r_5 48 57) (fun r_7 => (if r_7 = true then (if (t_at + 2) ≤ t_at_1 then kont t_at_1 t_one_2 else ob1 (F_X5_sign N t_text t_typed t_at_1) (fun r_11 => L_X5_number__10 N t_typed t_at t_text kont n (t_at_1 + 1) (((10 * t_one_2) + r_11) - 48))) else kont t_at_1 t_one_2)))
def F_X5_number_ (N : Nat) (t_text : Nat → Int32) (t_typed : Int32) (t_at : Int32) (t_one : Int32) : Option (Bool × Int32 × Int32) :=
  (L_X5_number__10 N t_typed t_at t_text (fun t_at_3 t_one_4 => (if t_one_4 ≤ (7 : Int32) then (if t_at_3 ≤ t_at then some (false, t_at_3, t_one_4) else some (true, t_at_3, t_one_4)) else ob1 (F_X5_sign N t_text t_typed t_at_3) (fun r_15 => ob1 (F_X5_in N r_15 48 57) (fun r_17 => (if r_17 = true then (if t_at_3 ≤ t_at then some (false, t_at_3, t_one_4) else some (true, t_at_3, t_one_4)) else some (false, t_at, t_one_4)))))) N t_at 0)
set_option maxHeartbeats 4000000 in
set_option maxRecDepth 100000 in
theorem c_X5_number_ (l : Launch) (D : va_G) (cy : Nat → ClassId) (s0 tW N : Nat) (A_t : Nat) (A_t_s : Nat) (A_t_past : Nat) (A_t_begun : Nat) (A_t_text : Nat) (A_t_wins : Nat) (A_t_fits : Nat) (t_pasts : Int32) (t_thrown : Int32) (t_typed : Int32) (t_at : Int32) (t_letter : Int32) (t_one : Int32) (t_other : Int32) (t_text : Nat → Int32) (sz : Nat) {r9 : Bool} {t_at9 : Int32} {t_one9 : Int32} (hF : F_X5_number_ N t_text t_typed t_at t_one = some (r9, t_at9, t_one9)) : KM l D cy s0 tW yX5_number_ cX5_number_ 2 (some .boolean) 1 22 [.ref A_t] sz (w_X5_number_ cy A_t A_t_s A_t_past A_t_begun A_t_text A_t_wins A_t_fits t_pasts t_thrown t_typed t_at t_letter t_one t_other t_text) (some (.int (bI r9))) (w_X5_number_ cy A_t A_t_s A_t_past A_t_begun A_t_text A_t_wins A_t_fits t_pasts t_thrown t_typed t_at9 t_letter t_one9 t_other t_text) := by
  refine KM.intro rfl (Nat.le_of_ble_eq_true rfl) ?_
  intro p e s m args below meth c A ls hx hb hr hml hown hts hlocks hE hP hD hS hA hAs hl
  have hK := hE.1
  have hl : lv_has ls 2 [(0, .ref A_t)] := hl
  unfold F_X5_number_ at hF
  refine lv_aload_n hx hb dX5_number__0 rfl (lv_at hl 0 rfl) ?_
  refine va_get (D := D) (ci := 5) (v := .int t_at) (C := RX5) (T := TX5) (N := 13) hx hb hts inX5 hown hK hP 0 rfl rfl 7 (by decide) (hts _ q_738) (fun _ h9 => h9) rfl dX5_number__1 ?_
  refine lv_istore_n (lv' := [(1, .int t_at), (0, .ref A_t)]) hx hb dX5_number__4 rfl hl (by decide) rfl (fun ls hl => ?_)
  refine lv_aload_n hx hb dX5_number__5 rfl (lv_at hl 1 rfl) ?_
  refine lv_iconst (v := 0) hx hb dX5_number__6 (by decide) ?_
  refine ka_put (ci := 5) (v := .int 0) (ty := .int) (C := RX5) (T := TX5) (N := 13) (wsN := (w_X5_number_ cy A_t A_t_s A_t_past A_t_begun A_t_text A_t_wins A_t_fits t_pasts t_thrown t_typed t_at t_letter 0 t_other t_text)) hx hb hts inX5 tyX5 tyX5_ok nmX5 hown hK hP hD hS 0 rfl rfl 9 (by decide) (hts _ q_740) (fun _ h9 => h9) rfl (by decide +kernel) rfl rfl (Nat.le_of_ble_eq_true rfl) rfl dX5_number__7 (fun H locs hP hD hS => ?_)
  have hloop_10 : ∀ (kont : Int32 → Int32 → Option (Bool × Int32 × Int32)), (∀ (t_at_3 : Int32) (t_one_4 : Int32) (H : Heap) (locs : List Loc) (ls : Array Slot), kont t_at_3 t_one_4 = some (r9, t_at9, t_one9) → va_P D vwCl (w_X5_number_ cy A_t A_t_s A_t_past A_t_begun A_t_text A_t_wins A_t_fits t_pasts t_thrown t_typed t_at_3 t_letter t_one_4 t_other t_text) H → va_D A (w_X5_number_ cy A_t A_t_s A_t_past A_t_begun A_t_text A_t_wins A_t_fits t_pasts t_thrown t_typed t_at_3 t_letter t_one_4 t_other t_text) → va_S A s.heap H locs → lv_has ls 2 [(0, .ref A_t), (1, .int t_at)] → W p l e (rmK 1 22) s m args below meth c H locs 0 0 (MQ below (kQ (some (.int (bI r9))) D A (w_X5_number_ cy A_t A_t_s A_t_past A_t_begun A_t_text A_t_wins A_t_fits t_pasts t_thrown t_typed t_at9 t_letter t_one9 t_other t_text)) args s 0 0 A) (F0 m 66 ls [])) → ∀ (n : Nat) (t_at_1 : Int32) (t_one_2 : Int32) (H : Heap) (locs : List Loc) (ls : Array Slot), L_X5_number__10 N t_typed t_at t_text kont n t_at_1 t_one_2 = some (r9, t_at9, t_one9) → va_P D vwCl (w_X5_number_ cy A_t A_t_s A_t_past A_t_begun A_t_text A_t_wins A_t_fits t_pasts t_thrown t_typed t_at_1 t_letter t_one_2 t_other t_text) H → va_D A (w_X5_number_ cy A_t A_t_s A_t_past A_t_begun A_t_text A_t_wins A_t_fits t_pasts t_thrown t_typed t_at_1 t_letter t_one_2 t_other t_text) → va_S A s.heap H locs → lv_has ls 2 [(0, .ref A_t), (1, .int t_at)] → W p l e (rmK 1 22) s m args below meth c H locs 0 0 (MQ below (kQ (some (.int (bI r9))) D A (w_X5_number_ cy A_t A_t_s A_t_past A_t_begun A_t_text A_t_wins A_t_fits t_pasts t_thrown t_typed t_at9 t_letter t_one9 t_other t_text)) args s 0 0 A) (F0 m 10 ls []) := by
    intro kont hexit_10 n
    induction n with
    | zero =>
      intro t_at_1 t_one_2 H locs ls hF
      rw [L_X5_number__10] at hF
      cases hF
    | succ n ih =>
      intro t_at_1 t_one_2 H locs ls hF hP hD hS hl
      rw [L_X5_number__10] at hF
      refine lv_aload_n hx hb dX5_number__10 rfl (lv_at hl 0 rfl) ?_
      obtain ⟨r_5, hF_6, hF⟩ := ob1_some hF
      refine kcV (q := (RX5, TX5, 13)) (ci := 5) (q0 := 0) (As := []) (rest := []) (wr := []) (wsN := (w_X5_number_ cy A_t A_t_s A_t_past A_t_begun A_t_text A_t_wins A_t_fits t_pasts t_thrown t_typed t_at_1 t_letter t_one_2 t_other t_text)) ⟨hx, hb, hml, hown, hts⟩ hE hP hD hS hA hAs [0, 1] [] [0, 1] (c_X5_sign l D cy s0 tW N A_t A_t_s A_t_past A_t_begun A_t_text A_t_wins A_t_fits t_pasts t_thrown t_typed t_at_1 t_letter t_one_2 t_other t_text _ hF_6) (gV q_1010 q_1012 q_78 q_88 q_1013) hd_X5_sign ⟨Nat.le_of_ble_eq_true rfl, Nat.le_of_ble_eq_true rfl⟩ rfl rfl rfl rfl rfl rfl rfl rfl rfl hl.1 rfl (Nat.le_of_ble_eq_true rfl) dX5_number__11 ⟨Nat.zero_le _, Nat.zero_le _⟩ (fun H locs hP hD hS => ?_)
      refine W.eq (g2 := F0 m 14 ls [.int r_5]) rfl ?_
      refine lv_bipush (v := 48) hx hb dX5_number__14 (by decide) ?_
      refine lv_bipush (v := 57) hx hb dX5_number__16 (by decide) ?_
      obtain ⟨r_7, hF_8, hF⟩ := ob1_some hF
      refine kcS (As := [.int r_5, .int 48, .int 57]) (rest := []) (wr := [(A_t, .inr (5, [.ref A_t_s, .ref A_t_past, .ref A_t_begun, .int t_pasts, .int t_thrown, .ref A_t_text, .int t_typed, .int t_at_1, .int t_letter, .int t_one_2, .int t_other, .ref A_t_wins, .ref A_t_fits])), (A_t_text, .inl (cy 2, 100, .inl t_text))]) (wsN := (w_X5_number_ cy A_t A_t_s A_t_past A_t_begun A_t_text A_t_wins A_t_fits t_pasts t_thrown t_typed t_at_1 t_letter t_one_2 t_other t_text)) ⟨hx, hb, hml, hown, hts⟩ hE hP hD hS hA hAs [] [0, 1] [0, 1] (c_X5_in l D cy s0 tW N r_5 48 57 _ hF_8) (gS q_823 q_824 q_88 q_825) hd_X5_in.2 ⟨Nat.le_of_ble_eq_true rfl, Nat.le_of_ble_eq_true rfl⟩ rfl rfl rfl rfl rfl rfl rfl hl.1 rfl (Nat.le_of_ble_eq_true rfl) dX5_number__18 ⟨Nat.zero_le _, Nat.zero_le _⟩ (fun H locs hP hD hS => ?_)
      refine W.eq (g2 := F0 m 21 ls [.int (bI r_7)]) rfl ?_
      refine lv_if_eq (tgt := 66) hx hb dX5_number__21 (by decide) (fun c_9 => ?_) (fun c_9 => ?_)
      · replace hF := ite_f (bI_f c_9) hF
        exact hexit_10 t_at_1 t_one_2 H locs ls hF hP hD hS (lv_sub hl [0, 1] rfl)
      · replace hF := ite_t (bI_t c_9) hF
        refine lv_aload_n hx hb dX5_number__24 rfl (lv_at hl 0 rfl) ?_
        refine va_get (D := D) (ci := 5) (v := .int t_at_1) (C := RX5) (T := TX5) (N := 13) hx hb hts inX5 hown hK hP 0 rfl rfl 7 (by decide) (hts _ q_738) (fun _ h9 => h9) rfl dX5_number__25 ?_
        refine lv_iload_n hx hb dX5_number__28 rfl (lv_at hl 1 rfl) ?_
        refine lv_iconst (v := 2) hx hb dX5_number__29 (by decide) ?_
        refine lv_iadd hx hb dX5_number__30 ?_
        refine lv_icmp_ge (tgt := 66) hx hb dX5_number__31 (by decide) (fun c_10 => ?_) (fun c_10 => ?_)
        · replace hF := ite_t c_10 hF
          exact hexit_10 t_at_1 t_one_2 H locs ls hF hP hD hS (lv_sub hl [0, 1] rfl)
        · replace hF := ite_f c_10 hF
          refine lv_aload_n hx hb dX5_number__34 rfl (lv_at hl 0 rfl) ?_
          refine lv_bipush (v := 10) hx hb dX5_number__35 (by decide) ?_
          refine lv_aload_n hx hb dX5_number__37 rfl (lv_at hl 0 rfl) ?_
          refine va_get (D := D) (ci := 5) (v := .int t_one_2) (C := RX5) (T := TX5) (N := 13) hx hb hts inX5 hown hK hP 0 rfl rfl 9 (by decide) (hts _ q_740) (fun _ h9 => h9) rfl dX5_number__38 ?_
          refine lv_imul hx hb dX5_number__41 ?_
          refine lv_aload_n hx hb dX5_number__42 rfl (lv_at hl 0 rfl) ?_
          obtain ⟨r_11, hF_12, hF⟩ := ob1_some hF
          refine kcV (q := (RX5, TX5, 13)) (ci := 5) (q0 := 0) (As := []) (rest := [.int (10 * t_one_2), .ref A_t]) (wr := []) (wsN := (w_X5_number_ cy A_t A_t_s A_t_past A_t_begun A_t_text A_t_wins A_t_fits t_pasts t_thrown t_typed t_at_1 t_letter t_one_2 t_other t_text)) ⟨hx, hb, hml, hown, hts⟩ hE hP hD hS hA hAs [0, 1] [] [0, 1] (c_X5_sign l D cy s0 tW N A_t A_t_s A_t_past A_t_begun A_t_text A_t_wins A_t_fits t_pasts t_thrown t_typed t_at_1 t_letter t_one_2 t_other t_text _ hF_12) (gV q_1010 q_1012 q_78 q_88 q_1013) hd_X5_sign ⟨Nat.le_of_ble_eq_true rfl, Nat.le_of_ble_eq_true rfl⟩ rfl rfl rfl rfl rfl rfl rfl rfl rfl hl.1 rfl (Nat.le_of_ble_eq_true rfl) dX5_number__43 ⟨Nat.zero_le _, Nat.zero_le _⟩ (fun H locs hP hD hS => ?_)
          refine W.eq (g2 := F0 m 46 ls [.int r_11, .int (10 * t_one_2), .ref A_t]) rfl ?_
          refine lv_iadd hx hb dX5_number__46 ?_
          refine lv_bipush (v := 48) hx hb dX5_number__47 (by decide) ?_
          refine lv_isub hx hb dX5_number__49 ?_
          refine ka_put (ci := 5) (v := .int (((10 * t_one_2) + r_11) - 48)) (ty := .int) (C := RX5) (T := TX5) (N := 13) (wsN := (w_X5_number_ cy A_t A_t_s A_t_past A_t_begun A_t_text A_t_wins A_t_fits t_pasts t_thrown t_typed t_at_1 t_letter (((10 * t_one_2) + r_11) - 48) t_other t_text)) hx hb hts inX5 tyX5 tyX5_ok nmX5 hown hK hP hD hS 0 rfl rfl 9 (by decide) (hts _ q_740) (fun _ h9 => h9) rfl (by decide +kernel) rfl rfl (Nat.le_of_ble_eq_true rfl) rfl dX5_number__50 (fun H locs hP hD hS => ?_)
          refine lv_aload_n hx hb dX5_number__53 rfl (lv_at hl 0 rfl) ?_
          refine lv_dup hx hb dX5_number__54 rfl ?_
          refine va_get (D := D) (ci := 5) (v := .int t_at_1) (C := RX5) (T := TX5) (N := 13) hx hb hts inX5 hown hK hP 0 rfl rfl 7 (by decide) (hts _ q_738) (fun _ h9 => h9) rfl dX5_number__55 ?_
          refine lv_iconst (v := 1) hx hb dX5_number__58 (by decide) ?_
          refine lv_iadd hx hb dX5_number__59 ?_
          refine ka_put (ci := 5) (v := .int (t_at_1 + 1)) (ty := .int) (C := RX5) (T := TX5) (N := 13) (wsN := (w_X5_number_ cy A_t A_t_s A_t_past A_t_begun A_t_text A_t_wins A_t_fits t_pasts t_thrown t_typed (t_at_1 + 1) t_letter (((10 * t_one_2) + r_11) - 48) t_other t_text)) hx hb hts inX5 tyX5 tyX5_ok nmX5 hown hK hP hD hS 0 rfl rfl 7 (by decide) (hts _ q_738) (fun _ h9 => h9) rfl (by decide +kernel) rfl rfl (Nat.le_of_ble_eq_true rfl) rfl dX5_number__60 (fun H locs hP hD hS => ?_)
          refine lv_goto (tgt := 10) hx hb dX5_number__63 (by decide) ?_
          exact ih (t_at_1 + 1) (((10 * t_one_2) + r_11) - 48) H locs ls hF hP hD hS (lv_sub hl [0, 1] rfl)
  refine hloop_10 _ (fun t_at_3 t_one_4 H locs ls hF hP hD hS hl => ?_) N t_at 0 _ _ ls hF hP hD hS (lv_sub hl [1, 0] rfl)
  refine lv_aload_n hx hb dX5_number__66 rfl (lv_at hl 0 rfl) ?_
  refine va_get (D := D) (ci := 5) (v := .int t_one_4) (C := RX5) (T := TX5) (N := 13) hx hb hts inX5 hown hK hP 0 rfl rfl 9 (by decide) (hts _ q_740) (fun _ h9 => h9) rfl dX5_number__67 ?_
  refine lv_bipush (v := 7) hx hb dX5_number__70 (by decide) ?_
  refine lv_icmp_le (tgt := 96) hx hb dX5_number__72 (by decide) (fun c_13 => ?_) (fun c_13 => ?_)
  · replace hF := ite_t c_13 hF
    refine lv_aload_n hx hb dX5_number__96 rfl (lv_at hl 0 rfl) ?_
    refine va_get (D := D) (ci := 5) (v := .int t_at_3) (C := RX5) (T := TX5) (N := 13) hx hb hts inX5 hown hK hP 0 rfl rfl 7 (by decide) (hts _ q_738) (fun _ h9 => h9) rfl dX5_number__97 ?_
    refine lv_iload_n hx hb dX5_number__100 rfl (lv_at hl 1 rfl) ?_
    refine lv_icmp_le (tgt := 108) hx hb dX5_number__101 (by decide) (fun c_14 => ?_) (fun c_14 => ?_)
    · replace hF := ite_t c_14 hF
      refine lv_iconst (v := 0) hx hb dX5_number__108 (by decide) ?_
      cases hF
      exact kret_z hx hb hr hlocks hP hD hS dX5_number__109
    · replace hF := ite_f c_14 hF
      refine lv_iconst (v := 1) hx hb dX5_number__104 (by decide) ?_
      refine lv_goto (tgt := 109) hx hb dX5_number__105 (by decide) ?_
      cases hF
      exact kret_z hx hb hr hlocks hP hD hS dX5_number__109
  · replace hF := ite_f c_13 hF
    refine lv_aload_n hx hb dX5_number__75 rfl (lv_at hl 0 rfl) ?_
    obtain ⟨r_15, hF_16, hF⟩ := ob1_some hF
    refine kcV (q := (RX5, TX5, 13)) (ci := 5) (q0 := 0) (As := []) (rest := []) (wr := []) (wsN := (w_X5_number_ cy A_t A_t_s A_t_past A_t_begun A_t_text A_t_wins A_t_fits t_pasts t_thrown t_typed t_at_3 t_letter t_one_4 t_other t_text)) ⟨hx, hb, hml, hown, hts⟩ hE hP hD hS hA hAs [0, 1] [] [0, 1] (c_X5_sign l D cy s0 tW N A_t A_t_s A_t_past A_t_begun A_t_text A_t_wins A_t_fits t_pasts t_thrown t_typed t_at_3 t_letter t_one_4 t_other t_text _ hF_16) (gV q_1010 q_1012 q_78 q_88 q_1013) hd_X5_sign ⟨Nat.le_of_ble_eq_true rfl, Nat.le_of_ble_eq_true rfl⟩ rfl rfl rfl rfl rfl rfl rfl rfl rfl hl.1 rfl (Nat.le_of_ble_eq_true rfl) dX5_number__76 ⟨Nat.zero_le _, Nat.zero_le _⟩ (fun H locs hP hD hS => ?_)
    refine W.eq (g2 := F0 m 79 ls [.int r_15]) rfl ?_
    refine lv_bipush (v := 48) hx hb dX5_number__79 (by decide) ?_
    refine lv_bipush (v := 57) hx hb dX5_number__81 (by decide) ?_
    obtain ⟨r_17, hF_18, hF⟩ := ob1_some hF
    refine kcS (As := [.int r_15, .int 48, .int 57]) (rest := []) (wr := [(A_t, .inr (5, [.ref A_t_s, .ref A_t_past, .ref A_t_begun, .int t_pasts, .int t_thrown, .ref A_t_text, .int t_typed, .int t_at_3, .int t_letter, .int t_one_4, .int t_other, .ref A_t_wins, .ref A_t_fits])), (A_t_text, .inl (cy 2, 100, .inl t_text))]) (wsN := (w_X5_number_ cy A_t A_t_s A_t_past A_t_begun A_t_text A_t_wins A_t_fits t_pasts t_thrown t_typed t_at_3 t_letter t_one_4 t_other t_text)) ⟨hx, hb, hml, hown, hts⟩ hE hP hD hS hA hAs [] [0, 1] [0, 1] (c_X5_in l D cy s0 tW N r_15 48 57 _ hF_18) (gS q_823 q_824 q_88 q_825) hd_X5_in.2 ⟨Nat.le_of_ble_eq_true rfl, Nat.le_of_ble_eq_true rfl⟩ rfl rfl rfl rfl rfl rfl rfl hl.1 rfl (Nat.le_of_ble_eq_true rfl) dX5_number__83 ⟨Nat.zero_le _, Nat.zero_le _⟩ (fun H locs hP hD hS => ?_)
    refine W.eq (g2 := F0 m 86 ls [.int (bI r_17)]) rfl ?_
    refine lv_if_ne (tgt := 96) hx hb dX5_number__86 (by decide) (fun c_19 => ?_) (fun c_19 => ?_)
    · replace hF := ite_t (bI_t c_19) hF
      refine lv_aload_n hx hb dX5_number__96 rfl (lv_at hl 0 rfl) ?_
      refine va_get (D := D) (ci := 5) (v := .int t_at_3) (C := RX5) (T := TX5) (N := 13) hx hb hts inX5 hown hK hP 0 rfl rfl 7 (by decide) (hts _ q_738) (fun _ h9 => h9) rfl dX5_number__97 ?_
      refine lv_iload_n hx hb dX5_number__100 rfl (lv_at hl 1 rfl) ?_
      refine lv_icmp_le (tgt := 108) hx hb dX5_number__101 (by decide) (fun c_20 => ?_) (fun c_20 => ?_)
      · replace hF := ite_t c_20 hF
        refine lv_iconst (v := 0) hx hb dX5_number__108 (by decide) ?_
        cases hF
        exact kret_z hx hb hr hlocks hP hD hS dX5_number__109
      · replace hF := ite_f c_20 hF
        refine lv_iconst (v := 1) hx hb dX5_number__104 (by decide) ?_
        refine lv_goto (tgt := 109) hx hb dX5_number__105 (by decide) ?_
        cases hF
        exact kret_z hx hb hr hlocks hP hD hS dX5_number__109
    · replace hF := ite_f (bI_f c_19) hF
      refine lv_aload_n hx hb dX5_number__89 rfl (lv_at hl 0 rfl) ?_
      refine lv_iload_n hx hb dX5_number__90 rfl (lv_at hl 1 rfl) ?_
      refine ka_put (ci := 5) (v := .int t_at) (ty := .int) (C := RX5) (T := TX5) (N := 13) (wsN := (w_X5_number_ cy A_t A_t_s A_t_past A_t_begun A_t_text A_t_wins A_t_fits t_pasts t_thrown t_typed t_at t_letter t_one_4 t_other t_text)) hx hb hts inX5 tyX5 tyX5_ok nmX5 hown hK hP hD hS 0 rfl rfl 7 (by decide) (hts _ q_738) (fun _ h9 => h9) rfl (by decide +kernel) rfl rfl (Nat.le_of_ble_eq_true rfl) rfl dX5_number__91 (fun H locs hP hD hS => ?_)
      refine lv_iconst (v := 0) hx hb dX5_number__94 (by decide) ?_
      cases hF
      exact kret_z hx hb hr hlocks hP hD hS dX5_number__95

theorem q_79 : Cond.selects RX5 yX5_literals yX5_literals ∈ wAll := wAll_mem 79 (by decide +kernel) (by decide +kernel)
theorem q_80 : Cond.selects RX5 yX5_number_ yX5_number_ ∈ wAll := wAll_mem 80 (by decide +kernel) (by decide +kernel)
theorem q_739 : Cond.fieldLink RX5 156 "ForAllGameModel" "letter" "I" ∈ wAll := wAll_mem 739 (by decide +kernel) (by decide +kernel)
theorem q_1014 : Cond.methodLink RX5 159 yX5_literals ∈ wAll := wAll_mem 1014 (by decide +kernel) (by decide +kernel)
theorem q_1016 : Cond.instanceMethod yX5_literals ∈ wAll := wAll_mem 1016 (by decide +kernel) (by decide +kernel)
theorem q_1017 : Cond.code yX5_literals cX5_literals 3 (some .boolean) ∈ wAll := wAll_mem 1017 (by decide +kernel) (by decide +kernel)
theorem q_1018 : Cond.methodLink RX5 163 yX5_number_ ∈ wAll := wAll_mem 1018 (by decide +kernel) (by decide +kernel)
theorem q_1020 : Cond.instanceMethod yX5_number_ ∈ wAll := wAll_mem 1020 (by decide +kernel) (by decide +kernel)
theorem q_1021 : Cond.code yX5_number_ cX5_number_ 2 (some .boolean) ∈ wAll := wAll_mem 1021 (by decide +kernel) (by decide +kernel)
theorem hd_X5_literals : yX5_literals.cls = RX5 ∧ yX5_literals.cls ≠ "java/lang/invoke/MethodHandle" ∧ yX5_literals.cls ≠ "java/lang/invoke/VarHandle" ∧ (parseMethodDescriptor yX5_literals.desc).map (fun d => d.parameters.length) = some 0 := by decide +kernel
theorem hd_X5_number_ : yX5_number_.cls = RX5 ∧ yX5_number_.cls ≠ "java/lang/invoke/MethodHandle" ∧ yX5_number_.cls ≠ "java/lang/invoke/VarHandle" ∧ (parseMethodDescriptor yX5_number_.desc).map (fun d => d.parameters.length) = some 0 := by decide +kernel
abbrev w_X5_reads (cy : Nat → ClassId) (A_t : Nat) (A_t_s : Nat) (A_t_past : Nat) (A_t_begun : Nat) (A_t_text : Nat) (A_t_wins : Nat) (A_t_fits : Nat) (t_pasts : Int32) (t_thrown : Int32) (t_typed : Int32) (t_at : Int32) (t_letter : Int32) (t_one : Int32) (t_other : Int32) (t_text : Nat → Int32) : va_W := [(A_t, .inr (5, [.ref A_t_s, .ref A_t_past, .ref A_t_begun, .int t_pasts, .int t_thrown, .ref A_t_text, .int t_typed, .int t_at, .int t_letter, .int t_one, .int t_other, .ref A_t_wins, .ref A_t_fits])), (A_t_text, .inl (cy 2, 100, .inl t_text))]
def F_X5_reads (N : Nat) (t_text : Nat → Int32) (t_typed : Int32) (t_at : Int32) (t_letter : Int32) (t_one : Int32) (t_other : Int32) : Option (Bool × Int32 × Int32 × Int32 × Int32) :=
  ob1 (F_X5_sign N t_text t_typed t_at) (fun r_1 => (if r_1 = (101 : Int32) then (if r_1 = (99 : Int32) then ob4 (F_X5_literals N t_text t_typed (t_at + 1) t_one t_other) (fun r_17 t_at_18 t_one_19 t_other_20 => (if r_17 = true then (if r_1 = (108 : Int32) then ob3 (F_X5_number_ N t_text t_typed t_at_18 t_one_19) (fun r_27 t_at_28 t_one_29 => (if r_27 = true then ob1 (F_X5_sign N t_text t_typed t_at_28) (fun r_32 => (if r_32 = (59 : Int32) then some (true, (t_at_28 + 1), r_1, t_one_29, t_other_20) else some (false, (t_at_28 + 0), r_1, t_one_29, t_other_20))) else some (false, t_at_28, r_1, t_one_29, t_other_20))) else ob1 (F_X5_sign N t_text t_typed t_at_18) (fun r_24 => (if r_24 = (59 : Int32) then some (true, (t_at_18 + 1), r_1, t_one_19, t_other_20) else some (false, (t_at_18 + 0), r_1, t_one_19, t_other_20)))) else some (false, t_at_18, r_1, t_one_19, t_other_20))) else (if r_1 = (108 : Int32) then ob3 (F_X5_number_ N t_text t_typed (t_at + 1) t_one) (fun r_9 t_at_10 t_one_11 => (if r_9 = true then ob1 (F_X5_sign N t_text t_typed t_at_10) (fun r_14 => (if r_14 = (59 : Int32) then some (true, (t_at_10 + 1), r_1, t_one_11, t_other) else some (false, (t_at_10 + 0), r_1, t_one_11, t_other))) else some (false, t_at_10, r_1, t_one_11, t_other))) else ob1 (F_X5_sign N t_text t_typed (t_at + 1)) (fun r_6 => (if r_6 = (59 : Int32) then some (true, ((t_at + 1) + 1), r_1, t_one, t_other) else some (false, ((t_at + 1) + 0), r_1, t_one, t_other))))) else (if r_1 = (117 : Int32) then (if r_1 = (99 : Int32) then ob4 (F_X5_literals N t_text t_typed (t_at + 1) t_one t_other) (fun r_49 t_at_50 t_one_51 t_other_52 => (if r_49 = true then (if r_1 = (108 : Int32) then ob3 (F_X5_number_ N t_text t_typed t_at_50 t_one_51) (fun r_59 t_at_60 t_one_61 => (if r_59 = true then ob1 (F_X5_sign N t_text t_typed t_at_60) (fun r_64 => (if r_64 = (59 : Int32) then some (true, (t_at_60 + 1), r_1, t_one_61, t_other_52) else some (false, (t_at_60 + 0), r_1, t_one_61, t_other_52))) else some (false, t_at_60, r_1, t_one_61, t_other_52))) else ob1 (F_X5_sign N t_text t_typed t_at_50) (fun r_56 => (if r_56 = (59 : Int32) then some (true, (t_at_50 + 1), r_1, t_one_51, t_other_52) else some (false, (t_at_50 + 0), r_1, t_one_51, t_other_52)))) else some (false, t_at_50, r_1, t_one_51, t_other_52))) else (if r_1 = (108 : Int32) then ob3 (F_X5_number_ N t_text t_typed (t_at + 1) t_one) (fun r_41 t_at_42 t_one_43 => (if r_41 = true then ob1 (F_X5_sign N t_text t_typed t_at_42) (fun r_46 => (if r_46 = (59 : Int32) then some (true, (t_at_42 + 1), r_1, t_one_43, t_other) else some (false, (t_at_42 + 0), r_1, t_one_43, t_other))) else some (false, t_at_42, r_1, t_one_43, t_other))) else ob1 (F_X5_sign N t_text t_typed (t_at + 1)) (fun r_38 => (if r_38 = (59 : Int32) then some (true, ((t_at + 1) + 1), r_1, t_one, t_other) else some (false, ((t_at + 1) + 0), r_1, t_one, t_other))))) else (if r_1 = (99 : Int32) then (if r_1 = (99 : Int32) then ob4 (F_X5_literals N t_text t_typed (t_at + 1) t_one t_other) (fun r_81 t_at_82 t_one_83 t_other_84 => (if r_81 = true then (if r_1 = (108 : Int32) then ob3 (F_X5_number_ N t_text t_typed t_at_82 t_one_83) (fun r_91 t_at_92 t_one_93 => (if r_91 = true then ob1 (F_X5_sign N t_text t_typed t_at_92) (fun r_96 => (if r_96 = (59 : Int32) then some (true, (t_at_92 + 1), r_1, t_one_93, t_other_84) else some (false, (t_at_92 + 0), r_1, t_one_93, t_other_84))) else some (false, t_at_92, r_1, t_one_93, t_other_84))) else ob1 (F_X5_sign N t_text t_typed t_at_82) (fun r_88 => (if r_88 = (59 : Int32) then some (true, (t_at_82 + 1), r_1, t_one_83, t_other_84) else some (false, (t_at_82 + 0), r_1, t_one_83, t_other_84)))) else some (false, t_at_82, r_1, t_one_83, t_other_84))) else (if r_1 = (108 : Int32) then ob3 (F_X5_number_ N t_text t_typed (t_at + 1) t_one) (fun r_73 t_at_74 t_one_75 => (if r_73 = true then ob1 (F_X5_sign N t_text t_typed t_at_74) (fun r_78 => (if r_78 = (59 : Int32) then some (true, (t_at_74 + 1), r_1, t_one_75, t_other) else some (false, (t_at_74 + 0), r_1, t_one_75, t_other))) else some (false, t_at_74, r_1, t_one_75, t_other))) else ob1 (F_X5_sign N t_text t_typed (t_at + 1)) (fun r_70 => (if r_70 = (59 : Int32) then some (true, ((t_at + 1) + 1), r_1, t_one, t_other) else some (false, ((t_at + 1) + 0), r_1, t_one, t_other))))) else (if r_1 = (108 : Int32) then (if r_1 = (99 : Int32) then ob4 (F_X5_literals N t_text t_typed (t_at + 1) t_one t_other) (fun r_113 t_at_114 t_one_115 t_other_116 => (if r_113 = true then (if r_1 = (108 : Int32) then ob3 (F_X5_number_ N t_text t_typed t_at_114 t_one_115) (fun r_123 t_at_124 t_one_125 => (if r_123 = true then ob1 (F_X5_sign N t_text t_typed t_at_124) (fun r_128 => (if r_128 = (59 : Int32) then some (true, (t_at_124 + 1), r_1, t_one_125, t_other_116) else some (false, (t_at_124 + 0), r_1, t_one_125, t_other_116))) else some (false, t_at_124, r_1, t_one_125, t_other_116))) else ob1 (F_X5_sign N t_text t_typed t_at_114) (fun r_120 => (if r_120 = (59 : Int32) then some (true, (t_at_114 + 1), r_1, t_one_115, t_other_116) else some (false, (t_at_114 + 0), r_1, t_one_115, t_other_116)))) else some (false, t_at_114, r_1, t_one_115, t_other_116))) else (if r_1 = (108 : Int32) then ob3 (F_X5_number_ N t_text t_typed (t_at + 1) t_one) (fun r_105 t_at_106 t_one_107 => (if r_105 = true then ob1 (F_X5_sign N t_text t_typed t_at_106) (fun r_110 => (if r_110 = (59 : Int32) then some (true, (t_at_106 + 1), r_1, t_one_107, t_other) else some (false, (t_at_106 + 0), r_1, t_one_107, t_other))) else some (false, t_at_106, r_1, t_one_107, t_other))) else ob1 (F_X5_sign N t_text t_typed (t_at + 1)) (fun r_102 => (if r_102 = (59 : Int32) then some (true, ((t_at + 1) + 1), r_1, t_one, t_other) else some (false, ((t_at + 1) + 0), r_1, t_one, t_other))))) else (if r_1 = (114 : Int32) then (if r_1 = (99 : Int32) then ob4 (F_X5_literals N t_text t_typed (t_at + 1) t_one t_other) (fun r_145 t_at_146 t_one_147 t_other_148 => (if r_145 = true then (if r_1 = (108 : Int32) then ob3 (F_X5_number_ N t_text t_typed t_at_146 t_one_147) (fun r_155 t_at_156 t_one_157 => (if r_155 = true then ob1 (F_X5_sign N t_text t_typed t_at_156) (fun r_160 => (if r_160 = (59 : Int32) then some (true, (t_at_156 + 1), r_1, t_one_157, t_other_148) else some (false, (t_at_156 + 0), r_1, t_one_157, t_other_148))) else some (false, t_at_156, r_1, t_one_157, t_other_148))) else ob1 (F_X5_sign N t_text t_typed t_at_146) (fun r_152 => (if r_152 = (59 : Int32) then some (true, (t_at_146 + 1), r_1, t_one_147, t_other_148) else some (false, (t_at_146 + 0), r_1, t_one_147, t_other_148)))) else some (false, t_at_146, r_1, t_one_147, t_other_148))) else (if r_1 = (108 : Int32) then ob3 (F_X5_number_ N t_text t_typed (t_at + 1) t_one) (fun r_137 t_at_138 t_one_139 => (if r_137 = true then ob1 (F_X5_sign N t_text t_typed t_at_138) (fun r_142 => (if r_142 = (59 : Int32) then some (true, (t_at_138 + 1), r_1, t_one_139, t_other) else some (false, (t_at_138 + 0), r_1, t_one_139, t_other))) else some (false, t_at_138, r_1, t_one_139, t_other))) else ob1 (F_X5_sign N t_text t_typed (t_at + 1)) (fun r_134 => (if r_134 = (59 : Int32) then some (true, ((t_at + 1) + 1), r_1, t_one, t_other) else some (false, ((t_at + 1) + 0), r_1, t_one, t_other))))) else some (false, t_at, r_1, t_one, t_other)))))))
set_option maxHeartbeats 4000000 in
set_option maxRecDepth 100000 in
theorem c_X5_reads (l : Launch) (D : va_G) (cy : Nat → ClassId) (s0 tW N : Nat) (A_t : Nat) (A_t_s : Nat) (A_t_past : Nat) (A_t_begun : Nat) (A_t_text : Nat) (A_t_wins : Nat) (A_t_fits : Nat) (t_pasts : Int32) (t_thrown : Int32) (t_typed : Int32) (t_at : Int32) (t_letter : Int32) (t_one : Int32) (t_other : Int32) (t_text : Nat → Int32) (sz : Nat) {r9 : Bool} {t_at9 : Int32} {t_letter9 : Int32} {t_one9 : Int32} {t_other9 : Int32} (hF : F_X5_reads N t_text t_typed t_at t_letter t_one t_other = some (r9, t_at9, t_letter9, t_one9, t_other9)) : KM l D cy s0 tW yX5_reads cX5_reads 2 (some .boolean) 2 44 [.ref A_t] sz (w_X5_reads cy A_t A_t_s A_t_past A_t_begun A_t_text A_t_wins A_t_fits t_pasts t_thrown t_typed t_at t_letter t_one t_other t_text) (some (.int (bI r9))) (w_X5_reads cy A_t A_t_s A_t_past A_t_begun A_t_text A_t_wins A_t_fits t_pasts t_thrown t_typed t_at9 t_letter9 t_one9 t_other9 t_text) := by
  refine KM.intro rfl (Nat.le_of_ble_eq_true rfl) ?_
  intro p e s m args below meth c A ls hx hb hr hml hown hts hlocks hE hP hD hS hA hAs hl
  have hK := hE.1
  have hl : lv_has ls 2 [(0, .ref A_t)] := hl
  unfold F_X5_reads at hF
  refine lv_aload_n hx hb dX5_reads_0 rfl (lv_at hl 0 rfl) ?_
  refine lv_aload_n hx hb dX5_reads_1 rfl (lv_at hl 0 rfl) ?_
  obtain ⟨r_1, hF_2, hF⟩ := ob1_some hF
  refine kcV (q := (RX5, TX5, 13)) (ci := 5) (q0 := 0) (As := []) (rest := [.ref A_t]) (wr := []) (wsN := (w_X5_reads cy A_t A_t_s A_t_past A_t_begun A_t_text A_t_wins A_t_fits t_pasts t_thrown t_typed t_at t_letter t_one t_other t_text)) ⟨hx, hb, hml, hown, hts⟩ hE hP hD hS hA hAs [0, 1] [] [0, 1] (c_X5_sign l D cy s0 tW N A_t A_t_s A_t_past A_t_begun A_t_text A_t_wins A_t_fits t_pasts t_thrown t_typed t_at t_letter t_one t_other t_text _ hF_2) (gV q_1010 q_1012 q_78 q_88 q_1013) hd_X5_sign ⟨Nat.le_of_ble_eq_true rfl, Nat.le_of_ble_eq_true rfl⟩ rfl rfl rfl rfl rfl rfl rfl rfl rfl hl.1 rfl (Nat.le_of_ble_eq_true rfl) dX5_reads_2 ⟨Nat.zero_le _, Nat.zero_le _⟩ (fun H locs hP hD hS => ?_)
  refine W.eq (g2 := F0 m 5 ls [.int r_1, .ref A_t]) rfl ?_
  refine ka_put (ci := 5) (v := .int r_1) (ty := .int) (C := RX5) (T := TX5) (N := 13) (wsN := (w_X5_reads cy A_t A_t_s A_t_past A_t_begun A_t_text A_t_wins A_t_fits t_pasts t_thrown t_typed t_at r_1 t_one t_other t_text)) hx hb hts inX5 tyX5 tyX5_ok nmX5 hown hK hP hD hS 0 rfl rfl 8 (by decide) (hts _ q_739) (fun _ h9 => h9) rfl (by decide +kernel) rfl rfl (Nat.le_of_ble_eq_true rfl) rfl dX5_reads_5 (fun H locs hP hD hS => ?_)
  refine lv_aload_n hx hb dX5_reads_8 rfl (lv_at hl 0 rfl) ?_
  refine va_get (D := D) (ci := 5) (v := .int r_1) (C := RX5) (T := TX5) (N := 13) hx hb hts inX5 hown hK hP 0 rfl rfl 8 (by decide) (hts _ q_739) (fun _ h9 => h9) rfl dX5_reads_9 ?_
  refine lv_bipush (v := 101) hx hb dX5_reads_12 (by decide) ?_
  refine lv_icmp_eq (tgt := 55) hx hb dX5_reads_14 (by decide) (fun c_3 => ?_) (fun c_3 => ?_)
  · replace hF := ite_t c_3 hF
    refine lv_aload_n hx hb dX5_reads_55 rfl (lv_at hl 0 rfl) ?_
    refine lv_dup hx hb dX5_reads_56 rfl ?_
    refine va_get (D := D) (ci := 5) (v := .int t_at) (C := RX5) (T := TX5) (N := 13) hx hb hts inX5 hown hK hP 0 rfl rfl 7 (by decide) (hts _ q_738) (fun _ h9 => h9) rfl dX5_reads_57 ?_
    refine lv_iconst (v := 1) hx hb dX5_reads_60 (by decide) ?_
    refine lv_iadd hx hb dX5_reads_61 ?_
    refine ka_put (ci := 5) (v := .int (t_at + 1)) (ty := .int) (C := RX5) (T := TX5) (N := 13) (wsN := (w_X5_reads cy A_t A_t_s A_t_past A_t_begun A_t_text A_t_wins A_t_fits t_pasts t_thrown t_typed (t_at + 1) r_1 t_one t_other t_text)) hx hb hts inX5 tyX5 tyX5_ok nmX5 hown hK hP hD hS 0 rfl rfl 7 (by decide) (hts _ q_738) (fun _ h9 => h9) rfl (by decide +kernel) rfl rfl (Nat.le_of_ble_eq_true rfl) rfl dX5_reads_62 (fun H locs hP hD hS => ?_)
    refine lv_aload_n hx hb dX5_reads_65 rfl (lv_at hl 0 rfl) ?_
    refine va_get (D := D) (ci := 5) (v := .int r_1) (C := RX5) (T := TX5) (N := 13) hx hb hts inX5 hown hK hP 0 rfl rfl 8 (by decide) (hts _ q_739) (fun _ h9 => h9) rfl dX5_reads_66 ?_
    refine lv_bipush (v := 99) hx hb dX5_reads_69 (by decide) ?_
    refine lv_icmp_ne (tgt := 81) hx hb dX5_reads_71 (by decide) (fun c_4 => ?_) (fun c_4 => ?_)
    · replace hF := ite_f c_4 hF
      refine lv_aload_n hx hb dX5_reads_81 rfl (lv_at hl 0 rfl) ?_
      refine va_get (D := D) (ci := 5) (v := .int r_1) (C := RX5) (T := TX5) (N := 13) hx hb hts inX5 hown hK hP 0 rfl rfl 8 (by decide) (hts _ q_739) (fun _ h9 => h9) rfl dX5_reads_82 ?_
      refine lv_bipush (v := 108) hx hb dX5_reads_85 (by decide) ?_
      refine lv_icmp_ne (tgt := 99) hx hb dX5_reads_87 (by decide) (fun c_5 => ?_) (fun c_5 => ?_)
      · replace hF := ite_f c_5 hF
        refine lv_aload_n hx hb dX5_reads_99 rfl (lv_at hl 0 rfl) ?_
        obtain ⟨r_6, hF_7, hF⟩ := ob1_some hF
        refine kcV (q := (RX5, TX5, 13)) (ci := 5) (q0 := 0) (As := []) (rest := []) (wr := []) (wsN := (w_X5_reads cy A_t A_t_s A_t_past A_t_begun A_t_text A_t_wins A_t_fits t_pasts t_thrown t_typed (t_at + 1) r_1 t_one t_other t_text)) ⟨hx, hb, hml, hown, hts⟩ hE hP hD hS hA hAs [0, 1] [] [0, 1] (c_X5_sign l D cy s0 tW N A_t A_t_s A_t_past A_t_begun A_t_text A_t_wins A_t_fits t_pasts t_thrown t_typed (t_at + 1) r_1 t_one t_other t_text _ hF_7) (gV q_1010 q_1012 q_78 q_88 q_1013) hd_X5_sign ⟨Nat.le_of_ble_eq_true rfl, Nat.le_of_ble_eq_true rfl⟩ rfl rfl rfl rfl rfl rfl rfl rfl rfl hl.1 rfl (Nat.le_of_ble_eq_true rfl) dX5_reads_100 ⟨Nat.zero_le _, Nat.zero_le _⟩ (fun H locs hP hD hS => ?_)
        refine W.eq (g2 := F0 m 103 ls [.int r_6]) rfl ?_
        refine lv_bipush (v := 59) hx hb dX5_reads_103 (by decide) ?_
        refine lv_icmp_ne (tgt := 112) hx hb dX5_reads_105 (by decide) (fun c_8 => ?_) (fun c_8 => ?_)
        · replace hF := ite_f c_8 hF
          refine lv_iconst (v := 0) hx hb dX5_reads_112 (by decide) ?_
          refine lv_istore_n (lv' := [(1, .int 0), (0, .ref A_t)]) hx hb dX5_reads_113 rfl hl (by decide) rfl (fun ls hl => ?_)
          refine lv_aload_n hx hb dX5_reads_114 rfl (lv_at hl 1 rfl) ?_
          refine lv_dup hx hb dX5_reads_115 rfl ?_
          refine va_get (D := D) (ci := 5) (v := .int (t_at + 1)) (C := RX5) (T := TX5) (N := 13) hx hb hts inX5 hown hK hP 0 rfl rfl 7 (by decide) (hts _ q_738) (fun _ h9 => h9) rfl dX5_reads_116 ?_
          refine lv_iload_n hx hb dX5_reads_119 rfl (lv_at hl 0 rfl) ?_
          refine lv_if_eq (tgt := 127) hx hb dX5_reads_120 (by decide) (fun _ => ?_) (fun h0 => absurd (by decide) h0)
          refine lv_iconst (v := 0) hx hb dX5_reads_127 (by decide) ?_
          refine lv_iadd hx hb dX5_reads_128 ?_
          refine ka_put (ci := 5) (v := .int ((t_at + 1) + 0)) (ty := .int) (C := RX5) (T := TX5) (N := 13) (wsN := (w_X5_reads cy A_t A_t_s A_t_past A_t_begun A_t_text A_t_wins A_t_fits t_pasts t_thrown t_typed ((t_at + 1) + 0) r_1 t_one t_other t_text)) hx hb hts inX5 tyX5 tyX5_ok nmX5 hown hK hP hD hS 0 rfl rfl 7 (by decide) (hts _ q_738) (fun _ h9 => h9) rfl (by decide +kernel) rfl rfl (Nat.le_of_ble_eq_true rfl) rfl dX5_reads_129 (fun H locs hP hD hS => ?_)
          refine lv_iload_n hx hb dX5_reads_132 rfl (lv_at hl 0 rfl) ?_
          cases hF
          exact kret_z hx hb hr hlocks hP hD hS dX5_reads_133
        · replace hF := ite_t c_8 hF
          refine lv_iconst (v := 1) hx hb dX5_reads_108 (by decide) ?_
          refine lv_goto (tgt := 113) hx hb dX5_reads_109 (by decide) ?_
          refine lv_istore_n (lv' := [(1, .int 1), (0, .ref A_t)]) hx hb dX5_reads_113 rfl hl (by decide) rfl (fun ls hl => ?_)
          refine lv_aload_n hx hb dX5_reads_114 rfl (lv_at hl 1 rfl) ?_
          refine lv_dup hx hb dX5_reads_115 rfl ?_
          refine va_get (D := D) (ci := 5) (v := .int (t_at + 1)) (C := RX5) (T := TX5) (N := 13) hx hb hts inX5 hown hK hP 0 rfl rfl 7 (by decide) (hts _ q_738) (fun _ h9 => h9) rfl dX5_reads_116 ?_
          refine lv_iload_n hx hb dX5_reads_119 rfl (lv_at hl 0 rfl) ?_
          refine lv_if_eq (tgt := 127) hx hb dX5_reads_120 (by decide) (fun h0 => absurd h0 (by decide)) (fun _ => ?_)
          refine lv_iconst (v := 1) hx hb dX5_reads_123 (by decide) ?_
          refine lv_goto (tgt := 128) hx hb dX5_reads_124 (by decide) ?_
          refine lv_iadd hx hb dX5_reads_128 ?_
          refine ka_put (ci := 5) (v := .int ((t_at + 1) + 1)) (ty := .int) (C := RX5) (T := TX5) (N := 13) (wsN := (w_X5_reads cy A_t A_t_s A_t_past A_t_begun A_t_text A_t_wins A_t_fits t_pasts t_thrown t_typed ((t_at + 1) + 1) r_1 t_one t_other t_text)) hx hb hts inX5 tyX5 tyX5_ok nmX5 hown hK hP hD hS 0 rfl rfl 7 (by decide) (hts _ q_738) (fun _ h9 => h9) rfl (by decide +kernel) rfl rfl (Nat.le_of_ble_eq_true rfl) rfl dX5_reads_129 (fun H locs hP hD hS => ?_)
          refine lv_iload_n hx hb dX5_reads_132 rfl (lv_at hl 0 rfl) ?_
          cases hF
          exact kret_z hx hb hr hlocks hP hD hS dX5_reads_133
      · replace hF := ite_t c_5 hF
        refine lv_aload_n hx hb dX5_reads_90 rfl (lv_at hl 0 rfl) ?_
        obtain ⟨r_9, t_at_10, t_one_11, hF_12, hF⟩ := ob3_some hF
        refine kcV (q := (RX5, TX5, 13)) (ci := 5) (q0 := 0) (As := []) (rest := []) (wr := []) (wsN := (w_X5_reads cy A_t A_t_s A_t_past A_t_begun A_t_text A_t_wins A_t_fits t_pasts t_thrown t_typed t_at_10 r_1 t_one_11 t_other t_text)) ⟨hx, hb, hml, hown, hts⟩ hE hP hD hS hA hAs [0, 1] [] [0, 1] (c_X5_number_ l D cy s0 tW N A_t A_t_s A_t_past A_t_begun A_t_text A_t_wins A_t_fits t_pasts t_thrown t_typed (t_at + 1) r_1 t_one t_other t_text _ hF_12) (gV q_1018 q_1020 q_80 q_88 q_1021) hd_X5_number_ ⟨Nat.le_of_ble_eq_true rfl, Nat.le_of_ble_eq_true rfl⟩ rfl rfl rfl rfl rfl rfl rfl rfl rfl hl.1 rfl (Nat.le_of_ble_eq_true rfl) dX5_reads_91 ⟨Nat.zero_le _, Nat.zero_le _⟩ (fun H locs hP hD hS => ?_)
        refine W.eq (g2 := F0 m 94 ls [.int (bI r_9)]) rfl ?_
        refine lv_if_ne (tgt := 99) hx hb dX5_reads_94 (by decide) (fun c_13 => ?_) (fun c_13 => ?_)
        · replace hF := ite_t (bI_t c_13) hF
          refine lv_aload_n hx hb dX5_reads_99 rfl (lv_at hl 0 rfl) ?_
          obtain ⟨r_14, hF_15, hF⟩ := ob1_some hF
          refine kcV (q := (RX5, TX5, 13)) (ci := 5) (q0 := 0) (As := []) (rest := []) (wr := []) (wsN := (w_X5_reads cy A_t A_t_s A_t_past A_t_begun A_t_text A_t_wins A_t_fits t_pasts t_thrown t_typed t_at_10 r_1 t_one_11 t_other t_text)) ⟨hx, hb, hml, hown, hts⟩ hE hP hD hS hA hAs [0, 1] [] [0, 1] (c_X5_sign l D cy s0 tW N A_t A_t_s A_t_past A_t_begun A_t_text A_t_wins A_t_fits t_pasts t_thrown t_typed t_at_10 r_1 t_one_11 t_other t_text _ hF_15) (gV q_1010 q_1012 q_78 q_88 q_1013) hd_X5_sign ⟨Nat.le_of_ble_eq_true rfl, Nat.le_of_ble_eq_true rfl⟩ rfl rfl rfl rfl rfl rfl rfl rfl rfl hl.1 rfl (Nat.le_of_ble_eq_true rfl) dX5_reads_100 ⟨Nat.zero_le _, Nat.zero_le _⟩ (fun H locs hP hD hS => ?_)
          refine W.eq (g2 := F0 m 103 ls [.int r_14]) rfl ?_
          refine lv_bipush (v := 59) hx hb dX5_reads_103 (by decide) ?_
          refine lv_icmp_ne (tgt := 112) hx hb dX5_reads_105 (by decide) (fun c_16 => ?_) (fun c_16 => ?_)
          · replace hF := ite_f c_16 hF
            refine lv_iconst (v := 0) hx hb dX5_reads_112 (by decide) ?_
            refine lv_istore_n (lv' := [(1, .int 0), (0, .ref A_t)]) hx hb dX5_reads_113 rfl hl (by decide) rfl (fun ls hl => ?_)
            refine lv_aload_n hx hb dX5_reads_114 rfl (lv_at hl 1 rfl) ?_
            refine lv_dup hx hb dX5_reads_115 rfl ?_
            refine va_get (D := D) (ci := 5) (v := .int t_at_10) (C := RX5) (T := TX5) (N := 13) hx hb hts inX5 hown hK hP 0 rfl rfl 7 (by decide) (hts _ q_738) (fun _ h9 => h9) rfl dX5_reads_116 ?_
            refine lv_iload_n hx hb dX5_reads_119 rfl (lv_at hl 0 rfl) ?_
            refine lv_if_eq (tgt := 127) hx hb dX5_reads_120 (by decide) (fun _ => ?_) (fun h0 => absurd (by decide) h0)
            refine lv_iconst (v := 0) hx hb dX5_reads_127 (by decide) ?_
            refine lv_iadd hx hb dX5_reads_128 ?_
            refine ka_put (ci := 5) (v := .int (t_at_10 + 0)) (ty := .int) (C := RX5) (T := TX5) (N := 13) (wsN := (w_X5_reads cy A_t A_t_s A_t_past A_t_begun A_t_text A_t_wins A_t_fits t_pasts t_thrown t_typed (t_at_10 + 0) r_1 t_one_11 t_other t_text)) hx hb hts inX5 tyX5 tyX5_ok nmX5 hown hK hP hD hS 0 rfl rfl 7 (by decide) (hts _ q_738) (fun _ h9 => h9) rfl (by decide +kernel) rfl rfl (Nat.le_of_ble_eq_true rfl) rfl dX5_reads_129 (fun H locs hP hD hS => ?_)
            refine lv_iload_n hx hb dX5_reads_132 rfl (lv_at hl 0 rfl) ?_
            cases hF
            exact kret_z hx hb hr hlocks hP hD hS dX5_reads_133
          · replace hF := ite_t c_16 hF
            refine lv_iconst (v := 1) hx hb dX5_reads_108 (by decide) ?_
            refine lv_goto (tgt := 113) hx hb dX5_reads_109 (by decide) ?_
            refine lv_istore_n (lv' := [(1, .int 1), (0, .ref A_t)]) hx hb dX5_reads_113 rfl hl (by decide) rfl (fun ls hl => ?_)
            refine lv_aload_n hx hb dX5_reads_114 rfl (lv_at hl 1 rfl) ?_
            refine lv_dup hx hb dX5_reads_115 rfl ?_
            refine va_get (D := D) (ci := 5) (v := .int t_at_10) (C := RX5) (T := TX5) (N := 13) hx hb hts inX5 hown hK hP 0 rfl rfl 7 (by decide) (hts _ q_738) (fun _ h9 => h9) rfl dX5_reads_116 ?_
            refine lv_iload_n hx hb dX5_reads_119 rfl (lv_at hl 0 rfl) ?_
            refine lv_if_eq (tgt := 127) hx hb dX5_reads_120 (by decide) (fun h0 => absurd h0 (by decide)) (fun _ => ?_)
            refine lv_iconst (v := 1) hx hb dX5_reads_123 (by decide) ?_
            refine lv_goto (tgt := 128) hx hb dX5_reads_124 (by decide) ?_
            refine lv_iadd hx hb dX5_reads_128 ?_
            refine ka_put (ci := 5) (v := .int (t_at_10 + 1)) (ty := .int) (C := RX5) (T := TX5) (N := 13) (wsN := (w_X5_reads cy A_t A_t_s A_t_past A_t_begun A_t_text A_t_wins A_t_fits t_pasts t_thrown t_typed (t_at_10 + 1) r_1 t_one_11 t_other t_text)) hx hb hts inX5 tyX5 tyX5_ok nmX5 hown hK hP hD hS 0 rfl rfl 7 (by decide) (hts _ q_738) (fun _ h9 => h9) rfl (by decide +kernel) rfl rfl (Nat.le_of_ble_eq_true rfl) rfl dX5_reads_129 (fun H locs hP hD hS => ?_)
            refine lv_iload_n hx hb dX5_reads_132 rfl (lv_at hl 0 rfl) ?_
            cases hF
            exact kret_z hx hb hr hlocks hP hD hS dX5_reads_133
        · replace hF := ite_f (bI_f c_13) hF
          refine lv_iconst (v := 0) hx hb dX5_reads_97 (by decide) ?_
          cases hF
          exact kret_z hx hb hr hlocks hP hD hS dX5_reads_98
    · replace hF := ite_t c_4 hF
      refine lv_aload_n hx hb dX5_reads_74 rfl (lv_at hl 0 rfl) ?_
      obtain ⟨r_17, t_at_18, t_one_19, t_other_20, hF_21, hF⟩ := ob4_some hF
      refine kcV (q := (RX5, TX5, 13)) (ci := 5) (q0 := 0) (As := []) (rest := []) (wr := []) (wsN := (w_X5_reads cy A_t A_t_s A_t_past A_t_begun A_t_text A_t_wins A_t_fits t_pasts t_thrown t_typed t_at_18 r_1 t_one_19 t_other_20 t_text)) ⟨hx, hb, hml, hown, hts⟩ hE hP hD hS hA hAs [0, 1] [] [0, 1] (c_X5_literals l D cy s0 tW N A_t A_t_s A_t_past A_t_begun A_t_text A_t_wins A_t_fits t_pasts t_thrown t_typed (t_at + 1) r_1 t_one t_other t_text _ hF_21) (gV q_1014 q_1016 q_79 q_88 q_1017) hd_X5_literals ⟨Nat.le_of_ble_eq_true rfl, Nat.le_of_ble_eq_true rfl⟩ rfl rfl rfl rfl rfl rfl rfl rfl rfl hl.1 rfl (Nat.le_of_ble_eq_true rfl) dX5_reads_75 ⟨Nat.zero_le _, Nat.zero_le _⟩ (fun H locs hP hD hS => ?_)
      refine W.eq (g2 := F0 m 78 ls [.int (bI r_17)]) rfl ?_
      refine lv_if_eq (tgt := 97) hx hb dX5_reads_78 (by decide) (fun c_22 => ?_) (fun c_22 => ?_)
      · replace hF := ite_f (bI_f c_22) hF
        refine lv_iconst (v := 0) hx hb dX5_reads_97 (by decide) ?_
        cases hF
        exact kret_z hx hb hr hlocks hP hD hS dX5_reads_98
      · replace hF := ite_t (bI_t c_22) hF
        refine lv_aload_n hx hb dX5_reads_81 rfl (lv_at hl 0 rfl) ?_
        refine va_get (D := D) (ci := 5) (v := .int r_1) (C := RX5) (T := TX5) (N := 13) hx hb hts inX5 hown hK hP 0 rfl rfl 8 (by decide) (hts _ q_739) (fun _ h9 => h9) rfl dX5_reads_82 ?_
        refine lv_bipush (v := 108) hx hb dX5_reads_85 (by decide) ?_
        refine lv_icmp_ne (tgt := 99) hx hb dX5_reads_87 (by decide) (fun c_23 => ?_) (fun c_23 => ?_)
        · replace hF := ite_f c_23 hF
          refine lv_aload_n hx hb dX5_reads_99 rfl (lv_at hl 0 rfl) ?_
          obtain ⟨r_24, hF_25, hF⟩ := ob1_some hF
          refine kcV (q := (RX5, TX5, 13)) (ci := 5) (q0 := 0) (As := []) (rest := []) (wr := []) (wsN := (w_X5_reads cy A_t A_t_s A_t_past A_t_begun A_t_text A_t_wins A_t_fits t_pasts t_thrown t_typed t_at_18 r_1 t_one_19 t_other_20 t_text)) ⟨hx, hb, hml, hown, hts⟩ hE hP hD hS hA hAs [0, 1] [] [0, 1] (c_X5_sign l D cy s0 tW N A_t A_t_s A_t_past A_t_begun A_t_text A_t_wins A_t_fits t_pasts t_thrown t_typed t_at_18 r_1 t_one_19 t_other_20 t_text _ hF_25) (gV q_1010 q_1012 q_78 q_88 q_1013) hd_X5_sign ⟨Nat.le_of_ble_eq_true rfl, Nat.le_of_ble_eq_true rfl⟩ rfl rfl rfl rfl rfl rfl rfl rfl rfl hl.1 rfl (Nat.le_of_ble_eq_true rfl) dX5_reads_100 ⟨Nat.zero_le _, Nat.zero_le _⟩ (fun H locs hP hD hS => ?_)
          refine W.eq (g2 := F0 m 103 ls [.int r_24]) rfl ?_
          refine lv_bipush (v := 59) hx hb dX5_reads_103 (by decide) ?_
          refine lv_icmp_ne (tgt := 112) hx hb dX5_reads_105 (by decide) (fun c_26 => ?_) (fun c_26 => ?_)
          · replace hF := ite_f c_26 hF
            refine lv_iconst (v := 0) hx hb dX5_reads_112 (by decide) ?_
            refine lv_istore_n (lv' := [(1, .int 0), (0, .ref A_t)]) hx hb dX5_reads_113 rfl hl (by decide) rfl (fun ls hl => ?_)
            refine lv_aload_n hx hb dX5_reads_114 rfl (lv_at hl 1 rfl) ?_
            refine lv_dup hx hb dX5_reads_115 rfl ?_
            refine va_get (D := D) (ci := 5) (v := .int t_at_18) (C := RX5) (T := TX5) (N := 13) hx hb hts inX5 hown hK hP 0 rfl rfl 7 (by decide) (hts _ q_738) (fun _ h9 => h9) rfl dX5_reads_116 ?_
            refine lv_iload_n hx hb dX5_reads_119 rfl (lv_at hl 0 rfl) ?_
            refine lv_if_eq (tgt := 127) hx hb dX5_reads_120 (by decide) (fun _ => ?_) (fun h0 => absurd (by decide) h0)
            refine lv_iconst (v := 0) hx hb dX5_reads_127 (by decide) ?_
            refine lv_iadd hx hb dX5_reads_128 ?_
            refine ka_put (ci := 5) (v := .int (t_at_18 + 0)) (ty := .int) (C := RX5) (T := TX5) (N := 13) (wsN := (w_X5_reads cy A_t A_t_s A_t_past A_t_begun A_t_text A_t_wins A_t_fits t_pasts t_thrown t_typed (t_at_18 + 0) r_1 t_one_19 t_other_20 t_text)) hx hb hts inX5 tyX5 tyX5_ok nmX5 hown hK hP hD hS 0 rfl rfl 7 (by decide) (hts _ q_738) (fun _ h9 => h9) rfl (by decide +kernel) rfl rfl (Nat.le_of_ble_eq_true rfl) rfl dX5_reads_129 (fun H locs hP hD hS => ?_)
            refine lv_iload_n hx hb dX5_reads_132 rfl (lv_at hl 0 rfl) ?_
            cases hF
            exact kret_z hx hb hr hlocks hP hD hS dX5_reads_133
          · replace hF := ite_t c_26 hF
            refine lv_iconst (v := 1) hx hb dX5_reads_108 (by decide) ?_
            refine lv_goto (tgt := 113) hx hb dX5_reads_109 (by decide) ?_
            refine lv_istore_n (lv' := [(1, .int 1), (0, .ref A_t)]) hx hb dX5_reads_113 rfl hl (by decide) rfl (fun ls hl => ?_)
            refine lv_aload_n hx hb dX5_reads_114 rfl (lv_at hl 1 rfl) ?_
            refine lv_dup hx hb dX5_reads_115 rfl ?_
            refine va_get (D := D) (ci := 5) (v := .int t_at_18) (C := RX5) (T := TX5) (N := 13) hx hb hts inX5 hown hK hP 0 rfl rfl 7 (by decide) (hts _ q_738) (fun _ h9 => h9) rfl dX5_reads_116 ?_
            refine lv_iload_n hx hb dX5_reads_119 rfl (lv_at hl 0 rfl) ?_
            refine lv_if_eq (tgt := 127) hx hb dX5_reads_120 (by decide) (fun h0 => absurd h0 (by decide)) (fun _ => ?_)
            refine lv_iconst (v := 1) hx hb dX5_reads_123 (by decide) ?_
            refine lv_goto (tgt := 128) hx hb dX5_reads_124 (by decide) ?_
            refine lv_iadd hx hb dX5_reads_128 ?_
            refine ka_put (ci := 5) (v := .int (t_at_18 + 1)) (ty := .int) (C := RX5) (T := TX5) (N := 13) (wsN := (w_X5_reads cy A_t A_t_s A_t_past A_t_begun A_t_text A_t_wins A_t_fits t_pasts t_thrown t_typed (t_at_18 + 1) r_1 t_one_19 t_other_20 t_text)) hx hb hts inX5 tyX5 tyX5_ok nmX5 hown hK hP hD hS 0 rfl rfl 7 (by decide) (hts _ q_738) (fun _ h9 => h9) rfl (by decide +kernel) rfl rfl (Nat.le_of_ble_eq_true rfl) rfl dX5_reads_129 (fun H locs hP hD hS => ?_)
            refine lv_iload_n hx hb dX5_reads_132 rfl (lv_at hl 0 rfl) ?_
            cases hF
            exact kret_z hx hb hr hlocks hP hD hS dX5_reads_133
        · replace hF := ite_t c_23 hF
          refine lv_aload_n hx hb dX5_reads_90 rfl (lv_at hl 0 rfl) ?_
          obtain ⟨r_27, t_at_28, t_one_29, hF_30, hF⟩ := ob3_some hF
          refine kcV (q := (RX5, TX5, 13)) (ci := 5) (q0 := 0) (As := []) (rest := []) (wr := []) (wsN := (w_X5_reads cy A_t A_t_s A_t_past A_t_begun A_t_text A_t_wins A_t_fits t_pasts t_thrown t_typed t_at_28 r_1 t_one_29 t_other_20 t_text)) ⟨hx, hb, hml, hown, hts⟩ hE hP hD hS hA hAs [0, 1] [] [0, 1] (c_X5_number_ l D cy s0 tW N A_t A_t_s A_t_past A_t_begun A_t_text A_t_wins A_t_fits t_pasts t_thrown t_typed t_at_18 r_1 t_one_19 t_other_20 t_text _ hF_30) (gV q_1018 q_1020 q_80 q_88 q_1021) hd_X5_number_ ⟨Nat.le_of_ble_eq_true rfl, Nat.le_of_ble_eq_true rfl⟩ rfl rfl rfl rfl rfl rfl rfl rfl rfl hl.1 rfl (Nat.le_of_ble_eq_true rfl) dX5_reads_91 ⟨Nat.zero_le _, Nat.zero_le _⟩ (fun H locs hP hD hS => ?_)
          refine W.eq (g2 := F0 m 94 ls [.int (bI r_27)]) rfl ?_
          refine lv_if_ne (tgt := 99) hx hb dX5_reads_94 (by decide) (fun c_31 => ?_) (fun c_31 => ?_)
          · replace hF := ite_t (bI_t c_31) hF
            refine lv_aload_n hx hb dX5_reads_99 rfl (lv_at hl 0 rfl) ?_
            obtain ⟨r_32, hF_33, hF⟩ := ob1_some hF
            refine kcV (q := (RX5, TX5, 13)) (ci := 5) (q0 := 0) (As := []) (rest := []) (wr := []) (wsN := (w_X5_reads cy A_t A_t_s A_t_past A_t_begun A_t_text A_t_wins A_t_fits t_pasts t_thrown t_typed t_at_28 r_1 t_one_29 t_other_20 t_text)) ⟨hx, hb, hml, hown, hts⟩ hE hP hD hS hA hAs [0, 1] [] [0, 1] (c_X5_sign l D cy s0 tW N A_t A_t_s A_t_past A_t_begun A_t_text A_t_wins A_t_fits t_pasts t_thrown t_typed t_at_28 r_1 t_one_29 t_other_20 t_text _ hF_33) (gV q_1010 q_1012 q_78 q_88 q_1013) hd_X5_sign ⟨Nat.le_of_ble_eq_true rfl, Nat.le_of_ble_eq_true rfl⟩ rfl rfl rfl rfl rfl rfl rfl rfl rfl hl.1 rfl (Nat.le_of_ble_eq_true rfl) dX5_reads_100 ⟨Nat.zero_le _, Nat.zero_le _⟩ (fun H locs hP hD hS => ?_)
            refine W.eq (g2 := F0 m 103 ls [.int r_32]) rfl ?_
            refine lv_bipush (v := 59) hx hb dX5_reads_103 (by decide) ?_
            refine lv_icmp_ne (tgt := 112) hx hb dX5_reads_105 (by decide) (fun c_34 => ?_) (fun c_34 => ?_)
            · replace hF := ite_f c_34 hF
              refine lv_iconst (v := 0) hx hb dX5_reads_112 (by decide) ?_
              refine lv_istore_n (lv' := [(1, .int 0), (0, .ref A_t)]) hx hb dX5_reads_113 rfl hl (by decide) rfl (fun ls hl => ?_)
              refine lv_aload_n hx hb dX5_reads_114 rfl (lv_at hl 1 rfl) ?_
              refine lv_dup hx hb dX5_reads_115 rfl ?_
              refine va_get (D := D) (ci := 5) (v := .int t_at_28) (C := RX5) (T := TX5) (N := 13) hx hb hts inX5 hown hK hP 0 rfl rfl 7 (by decide) (hts _ q_738) (fun _ h9 => h9) rfl dX5_reads_116 ?_
              refine lv_iload_n hx hb dX5_reads_119 rfl (lv_at hl 0 rfl) ?_
              refine lv_if_eq (tgt := 127) hx hb dX5_reads_120 (by decide) (fun _ => ?_) (fun h0 => absurd (by decide) h0)
              refine lv_iconst (v := 0) hx hb dX5_reads_127 (by decide) ?_
              refine lv_iadd hx hb dX5_reads_128 ?_
              refine ka_put (ci := 5) (v := .int (t_at_28 + 0)) (ty := .int) (C := RX5) (T := TX5) (N := 13) (wsN := (w_X5_reads cy A_t A_t_s A_t_past A_t_begun A_t_text A_t_wins A_t_fits t_pasts t_thrown t_typed (t_at_28 + 0) r_1 t_one_29 t_other_20 t_text)) hx hb hts inX5 tyX5 tyX5_ok nmX5 hown hK hP hD hS 0 rfl rfl 7 (by decide) (hts _ q_738) (fun _ h9 => h9) rfl (by decide +kernel) rfl rfl (Nat.le_of_ble_eq_true rfl) rfl dX5_reads_129 (fun H locs hP hD hS => ?_)
              refine lv_iload_n hx hb dX5_reads_132 rfl (lv_at hl 0 rfl) ?_
              cases hF
              exact kret_z hx hb hr hlocks hP hD hS dX5_reads_133
            · replace hF := ite_t c_34 hF
              refine lv_iconst (v := 1) hx hb dX5_reads_108 (by decide) ?_
              refine lv_goto (tgt := 113) hx hb dX5_reads_109 (by decide) ?_
              refine lv_istore_n (lv' := [(1, .int 1), (0, .ref A_t)]) hx hb dX5_reads_113 rfl hl (by decide) rfl (fun ls hl => ?_)
              refine lv_aload_n hx hb dX5_reads_114 rfl (lv_at hl 1 rfl) ?_
              refine lv_dup hx hb dX5_reads_115 rfl ?_
              refine va_get (D := D) (ci := 5) (v := .int t_at_28) (C := RX5) (T := TX5) (N := 13) hx hb hts inX5 hown hK hP 0 rfl rfl 7 (by decide) (hts _ q_738) (fun _ h9 => h9) rfl dX5_reads_116 ?_
              refine lv_iload_n hx hb dX5_reads_119 rfl (lv_at hl 0 rfl) ?_
              refine lv_if_eq (tgt := 127) hx hb dX5_reads_120 (by decide) (fun h0 => absurd h0 (by decide)) (fun _ => ?_)
              refine lv_iconst (v := 1) hx hb dX5_reads_123 (by decide) ?_
              refine lv_goto (tgt := 128) hx hb dX5_reads_124 (by decide) ?_
              refine lv_iadd hx hb dX5_reads_128 ?_
              refine ka_put (ci := 5) (v := .int (t_at_28 + 1)) (ty := .int) (C := RX5) (T := TX5) (N := 13) (wsN := (w_X5_reads cy A_t A_t_s A_t_past A_t_begun A_t_text A_t_wins A_t_fits t_pasts t_thrown t_typed (t_at_28 + 1) r_1 t_one_29 t_other_20 t_text)) hx hb hts inX5 tyX5 tyX5_ok nmX5 hown hK hP hD hS 0 rfl rfl 7 (by decide) (hts _ q_738) (fun _ h9 => h9) rfl (by decide +kernel) rfl rfl (Nat.le_of_ble_eq_true rfl) rfl dX5_reads_129 (fun H locs hP hD hS => ?_)
              refine lv_iload_n hx hb dX5_reads_132 rfl (lv_at hl 0 rfl) ?_
              cases hF
              exact kret_z hx hb hr hlocks hP hD hS dX5_reads_133
          · replace hF := ite_f (bI_f c_31) hF
            refine lv_iconst (v := 0) hx hb dX5_reads_97 (by decide) ?_
            cases hF
            exact kret_z hx hb hr hlocks hP hD hS dX5_reads_98
  · replace hF := ite_f c_3 hF
    refine lv_aload_n hx hb dX5_reads_17 rfl (lv_at hl 0 rfl) ?_
    refine va_get (D := D) (ci := 5) (v := .int r_1) (C := RX5) (T := TX5) (N := 13) hx hb hts inX5 hown hK hP 0 rfl rfl 8 (by decide) (hts _ q_739) (fun _ h9 => h9) rfl dX5_reads_18 ?_
    refine lv_bipush (v := 117) hx hb dX5_reads_21 (by decide) ?_
    refine lv_icmp_eq (tgt := 55) hx hb dX5_reads_23 (by decide) (fun c_35 => ?_) (fun c_35 => ?_)
    · replace hF := ite_t c_35 hF
      refine lv_aload_n hx hb dX5_reads_55 rfl (lv_at hl 0 rfl) ?_
      refine lv_dup hx hb dX5_reads_56 rfl ?_
      refine va_get (D := D) (ci := 5) (v := .int t_at) (C := RX5) (T := TX5) (N := 13) hx hb hts inX5 hown hK hP 0 rfl rfl 7 (by decide) (hts _ q_738) (fun _ h9 => h9) rfl dX5_reads_57 ?_
      refine lv_iconst (v := 1) hx hb dX5_reads_60 (by decide) ?_
      refine lv_iadd hx hb dX5_reads_61 ?_
      refine ka_put (ci := 5) (v := .int (t_at + 1)) (ty := .int) (C := RX5) (T := TX5) (N := 13) (wsN := (w_X5_reads cy A_t A_t_s A_t_past A_t_begun A_t_text A_t_wins A_t_fits t_pasts t_thrown t_typed (t_at + 1) r_1 t_one t_other t_text)) hx hb hts inX5 tyX5 tyX5_ok nmX5 hown hK hP hD hS 0 rfl rfl 7 (by decide) (hts _ q_738) (fun _ h9 => h9) rfl (by decide +kernel) rfl rfl (Nat.le_of_ble_eq_true rfl) rfl dX5_reads_62 (fun H locs hP hD hS => ?_)
      refine lv_aload_n hx hb dX5_reads_65 rfl (lv_at hl 0 rfl) ?_
      refine va_get (D := D) (ci := 5) (v := .int r_1) (C := RX5) (T := TX5) (N := 13) hx hb hts inX5 hown hK hP 0 rfl rfl 8 (by decide) (hts _ q_739) (fun _ h9 => h9) rfl dX5_reads_66 ?_
      refine lv_bipush (v := 99) hx hb dX5_reads_69 (by decide) ?_
      refine lv_icmp_ne (tgt := 81) hx hb dX5_reads_71 (by decide) (fun c_36 => ?_) (fun c_36 => ?_)
      · replace hF := ite_f c_36 hF
        refine lv_aload_n hx hb dX5_reads_81 rfl (lv_at hl 0 rfl) ?_
        refine va_get (D := D) (ci := 5) (v := .int r_1) (C := RX5) (T := TX5) (N := 13) hx hb hts inX5 hown hK hP 0 rfl rfl 8 (by decide) (hts _ q_739) (fun _ h9 => h9) rfl dX5_reads_82 ?_
        refine lv_bipush (v := 108) hx hb dX5_reads_85 (by decide) ?_
        refine lv_icmp_ne (tgt := 99) hx hb dX5_reads_87 (by decide) (fun c_37 => ?_) (fun c_37 => ?_)
        · replace hF := ite_f c_37 hF
          refine lv_aload_n hx hb dX5_reads_99 rfl (lv_at hl 0 rfl) ?_
          obtain ⟨r_38, hF_39, hF⟩ := ob1_some hF
          refine kcV (q := (RX5, TX5, 13)) (ci := 5) (q0 := 0) (As := []) (rest := []) (wr := []) (wsN := (w_X5_reads cy A_t A_t_s A_t_past A_t_begun A_t_text A_t_wins A_t_fits t_pasts t_thrown t_typed (t_at + 1) r_1 t_one t_other t_text)) ⟨hx, hb, hml, hown, hts⟩ hE hP hD hS hA hAs [0, 1] [] [0, 1] (c_X5_sign l D cy s0 tW N A_t A_t_s A_t_past A_t_begun A_t_text A_t_wins A_t_fits t_pasts t_thrown t_typed (t_at + 1) r_1 t_one t_other t_text _ hF_39) (gV q_1010 q_1012 q_78 q_88 q_1013) hd_X5_sign ⟨Nat.le_of_ble_eq_true rfl, Nat.le_of_ble_eq_true rfl⟩ rfl rfl rfl rfl rfl rfl rfl rfl rfl hl.1 rfl (Nat.le_of_ble_eq_true rfl) dX5_reads_100 ⟨Nat.zero_le _, Nat.zero_le _⟩ (fun H locs hP hD hS => ?_)
          refine W.eq (g2 := F0 m 103 ls [.int r_38]) rfl ?_
          refine lv_bipush (v := 59) hx hb dX5_reads_103 (by decide) ?_
          refine lv_icmp_ne (tgt := 112) hx hb dX5_reads_105 (by decide) (fun c_40 => ?_) (fun c_40 => ?_)
          · replace hF := ite_f c_40 hF
            refine lv_iconst (v := 0) hx hb dX5_reads_112 (by decide) ?_
            refine lv_istore_n (lv' := [(1, .int 0), (0, .ref A_t)]) hx hb dX5_reads_113 rfl hl (by decide) rfl (fun ls hl => ?_)
            refine lv_aload_n hx hb dX5_reads_114 rfl (lv_at hl 1 rfl) ?_
            refine lv_dup hx hb dX5_reads_115 rfl ?_
            refine va_get (D := D) (ci := 5) (v := .int (t_at + 1)) (C := RX5) (T := TX5) (N := 13) hx hb hts inX5 hown hK hP 0 rfl rfl 7 (by decide) (hts _ q_738) (fun _ h9 => h9) rfl dX5_reads_116 ?_
            refine lv_iload_n hx hb dX5_reads_119 rfl (lv_at hl 0 rfl) ?_
            refine lv_if_eq (tgt := 127) hx hb dX5_reads_120 (by decide) (fun _ => ?_) (fun h0 => absurd (by decide) h0)
            refine lv_iconst (v := 0) hx hb dX5_reads_127 (by decide) ?_
            refine lv_iadd hx hb dX5_reads_128 ?_
            refine ka_put (ci := 5) (v := .int ((t_at + 1) + 0)) (ty := .int) (C := RX5) (T := TX5) (N := 13) (wsN := (w_X5_reads cy A_t A_t_s A_t_past A_t_begun A_t_text A_t_wins A_t_fits t_pasts t_thrown t_typed ((t_at + 1) + 0) r_1 t_one t_other t_text)) hx hb hts inX5 tyX5 tyX5_ok nmX5 hown hK hP hD hS 0 rfl rfl 7 (by decide) (hts _ q_738) (fun _ h9 => h9) rfl (by decide +kernel) rfl rfl (Nat.le_of_ble_eq_true rfl) rfl dX5_reads_129 (fun H locs hP hD hS => ?_)
            refine lv_iload_n hx hb dX5_reads_132 rfl (lv_at hl 0 rfl) ?_
            cases hF
            exact kret_z hx hb hr hlocks hP hD hS dX5_reads_133
          · replace hF := ite_t c_40 hF
            refine lv_iconst (v := 1) hx hb dX5_reads_108 (by decide) ?_
            refine lv_goto (tgt := 113) hx hb dX5_reads_109 (by decide) ?_
            refine lv_istore_n (lv' := [(1, .int 1), (0, .ref A_t)]) hx hb dX5_reads_113 rfl hl (by decide) rfl (fun ls hl => ?_)
            refine lv_aload_n hx hb dX5_reads_114 rfl (lv_at hl 1 rfl) ?_
            refine lv_dup hx hb dX5_reads_115 rfl ?_
            refine va_get (D := D) (ci := 5) (v := .int (t_at + 1)) (C := RX5) (T := TX5) (N := 13) hx hb hts inX5 hown hK hP 0 rfl rfl 7 (by decide) (hts _ q_738) (fun _ h9 => h9) rfl dX5_reads_116 ?_
            refine lv_iload_n hx hb dX5_reads_119 rfl (lv_at hl 0 rfl) ?_
            refine lv_if_eq (tgt := 127) hx hb dX5_reads_120 (by decide) (fun h0 => absurd h0 (by decide)) (fun _ => ?_)
            refine lv_iconst (v := 1) hx hb dX5_reads_123 (by decide) ?_
            refine lv_goto (tgt := 128) hx hb dX5_reads_124 (by decide) ?_
            refine lv_iadd hx hb dX5_reads_128 ?_
            refine ka_put (ci := 5) (v := .int ((t_at + 1) + 1)) (ty := .int) (C := RX5) (T := TX5) (N := 13) (wsN := (w_X5_reads cy A_t A_t_s A_t_past A_t_begun A_t_text A_t_wins A_t_fits t_pasts t_thrown t_typed ((t_at + 1) + 1) r_1 t_one t_other t_text)) hx hb hts inX5 tyX5 tyX5_ok nmX5 hown hK hP hD hS 0 rfl rfl 7 (by decide) (hts _ q_738) (fun _ h9 => h9) rfl (by decide +kernel) rfl rfl (Nat.le_of_ble_eq_true rfl) rfl dX5_reads_129 (fun H locs hP hD hS => ?_)
            refine lv_iload_n hx hb dX5_reads_132 rfl (lv_at hl 0 rfl) ?_
            cases hF
            exact kret_z hx hb hr hlocks hP hD hS dX5_reads_133
        · replace hF := ite_t c_37 hF
          refine lv_aload_n hx hb dX5_reads_90 rfl (lv_at hl 0 rfl) ?_
          obtain ⟨r_41, t_at_42, t_one_43, hF_44, hF⟩ := ob3_some hF
          refine kcV (q := (RX5, TX5, 13)) (ci := 5) (q0 := 0) (As := []) (rest := []) (wr := []) (wsN := (w_X5_reads cy A_t A_t_s A_t_past A_t_begun A_t_text A_t_wins A_t_fits t_pasts t_thrown t_typed t_at_42 r_1 t_one_43 t_other t_text)) ⟨hx, hb, hml, hown, hts⟩ hE hP hD hS hA hAs [0, 1] [] [0, 1] (c_X5_number_ l D cy s0 tW N A_t A_t_s A_t_past A_t_begun A_t_text A_t_wins A_t_fits t_pasts t_thrown t_typed (t_at + 1) r_1 t_one t_other t_text _ hF_44) (gV q_1018 q_1020 q_80 q_88 q_1021) hd_X5_number_ ⟨Nat.le_of_ble_eq_true rfl, Nat.le_of_ble_eq_true rfl⟩ rfl rfl rfl rfl rfl rfl rfl rfl rfl hl.1 rfl (Nat.le_of_ble_eq_true rfl) dX5_reads_91 ⟨Nat.zero_le _, Nat.zero_le _⟩ (fun H locs hP hD hS => ?_)
          refine W.eq (g2 := F0 m 94 ls [.int (bI r_41)]) rfl ?_
          refine lv_if_ne (tgt := 99) hx hb dX5_reads_94 (by decide) (fun c_45 => ?_) (fun c_45 => ?_)
          · replace hF := ite_t (bI_t c_45) hF
            refine lv_aload_n hx hb dX5_reads_99 rfl (lv_at hl 0 rfl) ?_
            obtain ⟨r_46, hF_47, hF⟩ := ob1_some hF
            refine kcV (q := (RX5, TX5, 13)) (ci := 5) (q0 := 0) (As := []) (rest := []) (wr := []) (wsN := (w_X5_reads cy A_t A_t_s A_t_past A_t_begun A_t_text A_t_wins A_t_fits t_pasts t_thrown t_typed t_at_42 r_1 t_one_43 t_other t_text)) ⟨hx, hb, hml, hown, hts⟩ hE hP hD hS hA hAs [0, 1] [] [0, 1] (c_X5_sign l D cy s0 tW N A_t A_t_s A_t_past A_t_begun A_t_text A_t_wins A_t_fits t_pasts t_thrown t_typed t_at_42 r_1 t_one_43 t_other t_text _ hF_47) (gV q_1010 q_1012 q_78 q_88 q_1013) hd_X5_sign ⟨Nat.le_of_ble_eq_true rfl, Nat.le_of_ble_eq_true rfl⟩ rfl rfl rfl rfl rfl rfl rfl rfl rfl hl.1 rfl (Nat.le_of_ble_eq_true rfl) dX5_reads_100 ⟨Nat.zero_le _, Nat.zero_le _⟩ (fun H locs hP hD hS => ?_)
            refine W.eq (g2 := F0 m 103 ls [.int r_46]) rfl ?_
            refine lv_bipush (v := 59) hx hb dX5_reads_103 (by decide) ?_
            refine lv_icmp_ne (tgt := 112) hx hb dX5_reads_105 (by decide) (fun c_48 => ?_) (fun c_48 => ?_)
            · replace hF := ite_f c_48 hF
              refine lv_iconst (v := 0) hx hb dX5_reads_112 (by decide) ?_
              refine lv_istore_n (lv' := [(1, .int 0), (0, .ref A_t)]) hx hb dX5_reads_113 rfl hl (by decide) rfl (fun ls hl => ?_)
              refine lv_aload_n hx hb dX5_reads_114 rfl (lv_at hl 1 rfl) ?_
              refine lv_dup hx hb dX5_reads_115 rfl ?_
              refine va_get (D := D) (ci := 5) (v := .int t_at_42) (C := RX5) (T := TX5) (N := 13) hx hb hts inX5 hown hK hP 0 rfl rfl 7 (by decide) (hts _ q_738) (fun _ h9 => h9) rfl dX5_reads_116 ?_
              refine lv_iload_n hx hb dX5_reads_119 rfl (lv_at hl 0 rfl) ?_
              refine lv_if_eq (tgt := 127) hx hb dX5_reads_120 (by decide) (fun _ => ?_) (fun h0 => absurd (by decide) h0)
              refine lv_iconst (v := 0) hx hb dX5_reads_127 (by decide) ?_
              refine lv_iadd hx hb dX5_reads_128 ?_
              refine ka_put (ci := 5) (v := .int (t_at_42 + 0)) (ty := .int) (C := RX5) (T := TX5) (N := 13) (wsN := (w_X5_reads cy A_t A_t_s A_t_past A_t_begun A_t_text A_t_wins A_t_fits t_pasts t_thrown t_typed (t_at_42 + 0) r_1 t_one_43 t_other t_text)) hx hb hts inX5 tyX5 tyX5_ok nmX5 hown hK hP hD hS 0 rfl rfl 7 (by decide) (hts _ q_738) (fun _ h9 => h9) rfl (by decide +kernel) rfl rfl (Nat.le_of_ble_eq_true rfl) rfl dX5_reads_129 (fun H locs hP hD hS => ?_)
              refine lv_iload_n hx hb dX5_reads_132 rfl (lv_at hl 0 rfl) ?_
              cases hF
              exact kret_z hx hb hr hlocks hP hD hS dX5_reads_133
            · replace hF := ite_t c_48 hF
              refine lv_iconst (v := 1) hx hb dX5_reads_108 (by decide) ?_
              refine lv_goto (tgt := 113) hx hb dX5_reads_109 (by decide) ?_
              refine lv_istore_n (lv' := [(1, .int 1), (0, .ref A_t)]) hx hb dX5_reads_113 rfl hl (by decide) rfl (fun ls hl => ?_)
              refine lv_aload_n hx hb dX5_reads_114 rfl (lv_at hl 1 rfl) ?_
              refine lv_dup hx hb dX5_reads_115 rfl ?_
              refine va_get (D := D) (ci := 5) (v := .int t_at_42) (C := RX5) (T := TX5) (N := 13) hx hb hts inX5 hown hK hP 0 rfl rfl 7 (by decide) (hts _ q_738) (fun _ h9 => h9) rfl dX5_reads_116 ?_
              refine lv_iload_n hx hb dX5_reads_119 rfl (lv_at hl 0 rfl) ?_
              refine lv_if_eq (tgt := 127) hx hb dX5_reads_120 (by decide) (fun h0 => absurd h0 (by decide)) (fun _ => ?_)
              refine lv_iconst (v := 1) hx hb dX5_reads_123 (by decide) ?_
              refine lv_goto (tgt := 128) hx hb dX5_reads_124 (by decide) ?_
              refine lv_iadd hx hb dX5_reads_128 ?_
              refine ka_put (ci := 5) (v := .int (t_at_42 + 1)) (ty := .int) (C := RX5) (T := TX5) (N := 13) (wsN := (w_X5_reads cy A_t A_t_s A_t_past A_t_begun A_t_text A_t_wins A_t_fits t_pasts t_thrown t_typed (t_at_42 + 1) r_1 t_one_43 t_other t_text)) hx hb hts inX5 tyX5 tyX5_ok nmX5 hown hK hP hD hS 0 rfl rfl 7 (by decide) (hts _ q_738) (fun _ h9 => h9) rfl (by decide +kernel) rfl rfl (Nat.le_of_ble_eq_true rfl) rfl dX5_reads_129 (fun H locs hP hD hS => ?_)
              refine lv_iload_n hx hb dX5_reads_132 rfl (lv_at hl 0 rfl) ?_
              cases hF
              exact kret_z hx hb hr hlocks hP hD hS dX5_reads_133
          · replace hF := ite_f (bI_f c_45) hF
            refine lv_iconst (v := 0) hx hb dX5_reads_97 (by decide) ?_
            cases hF
            exact kret_z hx hb hr hlocks hP hD hS dX5_reads_98
      · replace hF := ite_t c_36 hF
        refine lv_aload_n hx hb dX5_reads_74 rfl (lv_at hl 0 rfl) ?_
        obtain ⟨r_49, t_at_50, t_one_51, t_other_52, hF_53, hF⟩ := ob4_some hF
        refine kcV (q := (RX5, TX5, 13)) (ci := 5) (q0 := 0) (As := []) (rest := []) (wr := []) (wsN := (w_X5_reads cy A_t A_t_s A_t_past A_t_begun A_t_text A_t_wins A_t_fits t_pasts t_thrown t_typed t_at_50 r_1 t_one_51 t_other_52 t_text)) ⟨hx, hb, hml, hown, hts⟩ hE hP hD hS hA hAs [0, 1] [] [0, 1] (c_X5_literals l D cy s0 tW N A_t A_t_s A_t_past A_t_begun A_t_text A_t_wins A_t_fits t_pasts t_thrown t_typed (t_at + 1) r_1 t_one t_other t_text _ hF_53) (gV q_1014 q_1016 q_79 q_88 q_1017) hd_X5_literals ⟨Nat.le_of_ble_eq_true rfl, Nat.le_of_ble_eq_true rfl⟩ rfl rfl rfl rfl rfl rfl rfl rfl rfl hl.1 rfl (Nat.le_of_ble_eq_true rfl) dX5_reads_75 ⟨Nat.zero_le _, Nat.zero_le _⟩ (fun H locs hP hD hS => ?_)
        refine W.eq (g2 := F0 m 78 ls [.int (bI r_49)]) rfl ?_
        refine lv_if_eq (tgt := 97) hx hb dX5_reads_78 (by decide) (fun c_54 => ?_) (fun c_54 => ?_)
        · replace hF := ite_f (bI_f c_54) hF
          refine lv_iconst (v := 0) hx hb dX5_reads_97 (by decide) ?_
          cases hF
          exact kret_z hx hb hr hlocks hP hD hS dX5_reads_98
        · replace hF := ite_t (bI_t c_54) hF
          refine lv_aload_n hx hb dX5_reads_81 rfl (lv_at hl 0 rfl) ?_
          refine va_get (D := D) (ci := 5) (v := .int r_1) (C := RX5) (T := TX5) (N := 13) hx hb hts inX5 hown hK hP 0 rfl rfl 8 (by decide) (hts _ q_739) (fun _ h9 => h9) rfl dX5_reads_82 ?_
          refine lv_bipush (v := 108) hx hb dX5_reads_85 (by decide) ?_
          refine lv_icmp_ne (tgt := 99) hx hb dX5_reads_87 (by decide) (fun c_55 => ?_) (fun c_55 => ?_)
          · replace hF := ite_f c_55 hF
            refine lv_aload_n hx hb dX5_reads_99 rfl (lv_at hl 0 rfl) ?_
            obtain ⟨r_56, hF_57, hF⟩ := ob1_some hF
            refine kcV (q := (RX5, TX5, 13)) (ci := 5) (q0 := 0) (As := []) (rest := []) (wr := []) (wsN := (w_X5_reads cy A_t A_t_s A_t_past A_t_begun A_t_text A_t_wins A_t_fits t_pasts t_thrown t_typed t_at_50 r_1 t_one_51 t_other_52 t_text)) ⟨hx, hb, hml, hown, hts⟩ hE hP hD hS hA hAs [0, 1] [] [0, 1] (c_X5_sign l D cy s0 tW N A_t A_t_s A_t_past A_t_begun A_t_text A_t_wins A_t_fits t_pasts t_thrown t_typed t_at_50 r_1 t_one_51 t_other_52 t_text _ hF_57) (gV q_1010 q_1012 q_78 q_88 q_1013) hd_X5_sign ⟨Nat.le_of_ble_eq_true rfl, Nat.le_of_ble_eq_true rfl⟩ rfl rfl rfl rfl rfl rfl rfl rfl rfl hl.1 rfl (Nat.le_of_ble_eq_true rfl) dX5_reads_100 ⟨Nat.zero_le _, Nat.zero_le _⟩ (fun H locs hP hD hS => ?_)
            refine W.eq (g2 := F0 m 103 ls [.int r_56]) rfl ?_
            refine lv_bipush (v := 59) hx hb dX5_reads_103 (by decide) ?_
            refine lv_icmp_ne (tgt := 112) hx hb dX5_reads_105 (by decide) (fun c_58 => ?_) (fun c_58 => ?_)
            · replace hF := ite_f c_58 hF
              refine lv_iconst (v := 0) hx hb dX5_reads_112 (by decide) ?_
              refine lv_istore_n (lv' := [(1, .int 0), (0, .ref A_t)]) hx hb dX5_reads_113 rfl hl (by decide) rfl (fun ls hl => ?_)
              refine lv_aload_n hx hb dX5_reads_114 rfl (lv_at hl 1 rfl) ?_
              refine lv_dup hx hb dX5_reads_115 rfl ?_
              refine va_get (D := D) (ci := 5) (v := .int t_at_50) (C := RX5) (T := TX5) (N := 13) hx hb hts inX5 hown hK hP 0 rfl rfl 7 (by decide) (hts _ q_738) (fun _ h9 => h9) rfl dX5_reads_116 ?_
              refine lv_iload_n hx hb dX5_reads_119 rfl (lv_at hl 0 rfl) ?_
              refine lv_if_eq (tgt := 127) hx hb dX5_reads_120 (by decide) (fun _ => ?_) (fun h0 => absurd (by decide) h0)
              refine lv_iconst (v := 0) hx hb dX5_reads_127 (by decide) ?_
              refine lv_iadd hx hb dX5_reads_128 ?_
              refine ka_put (ci := 5) (v := .int (t_at_50 + 0)) (ty := .int) (C := RX5) (T := TX5) (N := 13) (wsN := (w_X5_reads cy A_t A_t_s A_t_past A_t_begun A_t_text A_t_wins A_t_fits t_pasts t_thrown t_typed (t_at_50 + 0) r_1 t_one_51 t_other_52 t_text)) hx hb hts inX5 tyX5 tyX5_ok nmX5 hown hK hP hD hS 0 rfl rfl 7 (by decide) (hts _ q_738) (fun _ h9 => h9) rfl (by decide +kernel) rfl rfl (Nat.le_of_ble_eq_true rfl) rfl dX5_reads_129 (fun H locs hP hD hS => ?_)
              refine lv_iload_n hx hb dX5_reads_132 rfl (lv_at hl 0 rfl) ?_
              cases hF
              exact kret_z hx hb hr hlocks hP hD hS dX5_reads_133
            · replace hF := ite_t c_58 hF
              refine lv_iconst (v := 1) hx hb dX5_reads_108 (by decide) ?_
              refine lv_goto (tgt := 113) hx hb dX5_reads_109 (by decide) ?_
              refine lv_istore_n (lv' := [(1, .int 1), (0, .ref A_t)]) hx hb dX5_reads_113 rfl hl (by decide) rfl (fun ls hl => ?_)
              refine lv_aload_n hx hb dX5_reads_114 rfl (lv_at hl 1 rfl) ?_
              refine lv_dup hx hb dX5_reads_115 rfl ?_
              refine va_get (D := D) (ci := 5) (v := .int t_at_50) (C := RX5) (T := TX5) (N := 13) hx hb hts inX5 hown hK hP 0 rfl rfl 7 (by decide) (hts _ q_738) (fun _ h9 => h9) rfl dX5_reads_116 ?_
              refine lv_iload_n hx hb dX5_reads_119 rfl (lv_at hl 0 rfl) ?_
              refine lv_if_eq (tgt := 127) hx hb dX5_reads_120 (by decide) (fun h0 => absurd h0 (by decide)) (fun _ => ?_)
              refine lv_iconst (v := 1) hx hb dX5_reads_123 (by decide) ?_
              refine lv_goto (tgt := 128) hx hb dX5_reads_124 (by decide) ?_
              refine lv_iadd hx hb dX5_reads_128 ?_
              refine ka_put (ci := 5) (v := .int (t_at_50 + 1)) (ty := .int) (C := RX5) (T := TX5) (N := 13) (wsN := (w_X5_reads cy A_t A_t_s A_t_past A_t_begun A_t_text A_t_wins A_t_fits t_pasts t_thrown t_typed (t_at_50 + 1) r_1 t_one_51 t_other_52 t_text)) hx hb hts inX5 tyX5 tyX5_ok nmX5 hown hK hP hD hS 0 rfl rfl 7 (by decide) (hts _ q_738) (fun _ h9 => h9) rfl (by decide +kernel) rfl rfl (Nat.le_of_ble_eq_true rfl) rfl dX5_reads_129 (fun H locs hP hD hS => ?_)
              refine lv_iload_n hx hb dX5_reads_132 rfl (lv_at hl 0 rfl) ?_
              cases hF
              exact kret_z hx hb hr hlocks hP hD hS dX5_reads_133
          · replace hF := ite_t c_55 hF
            refine lv_aload_n hx hb dX5_reads_90 rfl (lv_at hl 0 rfl) ?_
            obtain ⟨r_59, t_at_60, t_one_61, hF_62, hF⟩ := ob3_some hF
            refine kcV (q := (RX5, TX5, 13)) (ci := 5) (q0 := 0) (As := []) (rest := []) (wr := []) (wsN := (w_X5_reads cy A_t A_t_s A_t_past A_t_begun A_t_text A_t_wins A_t_fits t_pasts t_thrown t_typed t_at_60 r_1 t_one_61 t_other_52 t_text)) ⟨hx, hb, hml, hown, hts⟩ hE hP hD hS hA hAs [0, 1] [] [0, 1] (c_X5_number_ l D cy s0 tW N A_t A_t_s A_t_past A_t_begun A_t_text A_t_wins A_t_fits t_pasts t_thrown t_typed t_at_50 r_1 t_one_51 t_other_52 t_text _ hF_62) (gV q_1018 q_1020 q_80 q_88 q_1021) hd_X5_number_ ⟨Nat.le_of_ble_eq_true rfl, Nat.le_of_ble_eq_true rfl⟩ rfl rfl rfl rfl rfl rfl rfl rfl rfl hl.1 rfl (Nat.le_of_ble_eq_true rfl) dX5_reads_91 ⟨Nat.zero_le _, Nat.zero_le _⟩ (fun H locs hP hD hS => ?_)
            refine W.eq (g2 := F0 m 94 ls [.int (bI r_59)]) rfl ?_
            refine lv_if_ne (tgt := 99) hx hb dX5_reads_94 (by decide) (fun c_63 => ?_) (fun c_63 => ?_)
            · replace hF := ite_t (bI_t c_63) hF
              refine lv_aload_n hx hb dX5_reads_99 rfl (lv_at hl 0 rfl) ?_
              obtain ⟨r_64, hF_65, hF⟩ := ob1_some hF
              refine kcV (q := (RX5, TX5, 13)) (ci := 5) (q0 := 0) (As := []) (rest := []) (wr := []) (wsN := (w_X5_reads cy A_t A_t_s A_t_past A_t_begun A_t_text A_t_wins A_t_fits t_pasts t_thrown t_typed t_at_60 r_1 t_one_61 t_other_52 t_text)) ⟨hx, hb, hml, hown, hts⟩ hE hP hD hS hA hAs [0, 1] [] [0, 1] (c_X5_sign l D cy s0 tW N A_t A_t_s A_t_past A_t_begun A_t_text A_t_wins A_t_fits t_pasts t_thrown t_typed t_at_60 r_1 t_one_61 t_other_52 t_text _ hF_65) (gV q_1010 q_1012 q_78 q_88 q_1013) hd_X5_sign ⟨Nat.le_of_ble_eq_true rfl, Nat.le_of_ble_eq_true rfl⟩ rfl rfl rfl rfl rfl rfl rfl rfl rfl hl.1 rfl (Nat.le_of_ble_eq_true rfl) dX5_reads_100 ⟨Nat.zero_le _, Nat.zero_le _⟩ (fun H locs hP hD hS => ?_)
              refine W.eq (g2 := F0 m 103 ls [.int r_64]) rfl ?_
              refine lv_bipush (v := 59) hx hb dX5_reads_103 (by decide) ?_
              refine lv_icmp_ne (tgt := 112) hx hb dX5_reads_105 (by decide) (fun c_66 => ?_) (fun c_66 => ?_)
              · replace hF := ite_f c_66 hF
                refine lv_iconst (v := 0) hx hb dX5_reads_112 (by decide) ?_
                refine lv_istore_n (lv' := [(1, .int 0), (0, .ref A_t)]) hx hb dX5_reads_113 rfl hl (by decide) rfl (fun ls hl => ?_)
                refine lv_aload_n hx hb dX5_reads_114 rfl (lv_at hl 1 rfl) ?_
                refine lv_dup hx hb dX5_reads_115 rfl ?_
                refine va_get (D := D) (ci := 5) (v := .int t_at_60) (C := RX5) (T := TX5) (N := 13) hx hb hts inX5 hown hK hP 0 rfl rfl 7 (by decide) (hts _ q_738) (fun _ h9 => h9) rfl dX5_reads_116 ?_
                refine lv_iload_n hx hb dX5_reads_119 rfl (lv_at hl 0 rfl) ?_
                refine lv_if_eq (tgt := 127) hx hb dX5_reads_120 (by decide) (fun _ => ?_) (fun h0 => absurd (by decide) h0)
                refine lv_iconst (v := 0) hx hb dX5_reads_127 (by decide) ?_
                refine lv_iadd hx hb dX5_reads_128 ?_
                refine ka_put (ci := 5) (v := .int (t_at_60 + 0)) (ty := .int) (C := RX5) (T := TX5) (N := 13) (wsN := (w_X5_reads cy A_t A_t_s A_t_past A_t_begun A_t_text A_t_wins A_t_fits t_pasts t_thrown t_typed (t_at_60 + 0) r_1 t_one_61 t_other_52 t_text)) hx hb hts inX5 tyX5 tyX5_ok nmX5 hown hK hP hD hS 0 rfl rfl 7 (by decide) (hts _ q_738) (fun _ h9 => h9) rfl (by decide +kernel) rfl rfl (Nat.le_of_ble_eq_true rfl) rfl dX5_reads_129 (fun H locs hP hD hS => ?_)
                refine lv_iload_n hx hb dX5_reads_132 rfl (lv_at hl 0 rfl) ?_
                cases hF
                exact kret_z hx hb hr hlocks hP hD hS dX5_reads_133
              · replace hF := ite_t c_66 hF
                refine lv_iconst (v := 1) hx hb dX5_reads_108 (by decide) ?_
                refine lv_goto (tgt := 113) hx hb dX5_reads_109 (by decide) ?_
                refine lv_istore_n (lv' := [(1, .int 1), (0, .ref A_t)]) hx hb dX5_reads_113 rfl hl (by decide) rfl (fun ls hl => ?_)
                refine lv_aload_n hx hb dX5_reads_114 rfl (lv_at hl 1 rfl) ?_
                refine lv_dup hx hb dX5_reads_115 rfl ?_
                refine va_get (D := D) (ci := 5) (v := .int t_at_60) (C := RX5) (T := TX5) (N := 13) hx hb hts inX5 hown hK hP 0 rfl rfl 7 (by decide) (hts _ q_738) (fun _ h9 => h9) rfl dX5_reads_116 ?_
                refine lv_iload_n hx hb dX5_reads_119 rfl (lv_at hl 0 rfl) ?_
                refine lv_if_eq (tgt := 127) hx hb dX5_reads_120 (by decide) (fun h0 => absurd h0 (by decide)) (fun _ => ?_)
                refine lv_iconst (v := 1) hx hb dX5_reads_123 (by decide) ?_
                refine lv_goto (tgt := 128) hx hb dX5_reads_124 (by decide) ?_
                refine lv_iadd hx hb dX5_reads_128 ?_
                refine ka_put (ci := 5) (v := .int (t_at_60 + 1)) (ty := .int) (C := RX5) (T := TX5) (N := 13) (wsN := (w_X5_reads cy A_t A_t_s A_t_past A_t_begun A_t_text A_t_wins A_t_fits t_pasts t_thrown t_typed (t_at_60 + 1) r_1 t_one_61 t_other_52 t_text)) hx hb hts inX5 tyX5 tyX5_ok nmX5 hown hK hP hD hS 0 rfl rfl 7 (by decide) (hts _ q_738) (fun _ h9 => h9) rfl (by decide +kernel) rfl rfl (Nat.le_of_ble_eq_true rfl) rfl dX5_reads_129 (fun H locs hP hD hS => ?_)
                refine lv_iload_n hx hb dX5_reads_132 rfl (lv_at hl 0 rfl) ?_
                cases hF
                exact kret_z hx hb hr hlocks hP hD hS dX5_reads_133
            · replace hF := ite_f (bI_f c_63) hF
              refine lv_iconst (v := 0) hx hb dX5_reads_97 (by decide) ?_
              cases hF
              exact kret_z hx hb hr hlocks hP hD hS dX5_reads_98
    · replace hF := ite_f c_35 hF
      refine lv_aload_n hx hb dX5_reads_26 rfl (lv_at hl 0 rfl) ?_
      refine va_get (D := D) (ci := 5) (v := .int r_1) (C := RX5) (T := TX5) (N := 13) hx hb hts inX5 hown hK hP 0 rfl rfl 8 (by decide) (hts _ q_739) (fun _ h9 => h9) rfl dX5_reads_27 ?_
      refine lv_bipush (v := 99) hx hb dX5_reads_30 (by decide) ?_
      refine lv_icmp_eq (tgt := 55) hx hb dX5_reads_32 (by decide) (fun c_67 => ?_) (fun c_67 => ?_)
      · replace hF := ite_t c_67 hF
        refine lv_aload_n hx hb dX5_reads_55 rfl (lv_at hl 0 rfl) ?_
        refine lv_dup hx hb dX5_reads_56 rfl ?_
        refine va_get (D := D) (ci := 5) (v := .int t_at) (C := RX5) (T := TX5) (N := 13) hx hb hts inX5 hown hK hP 0 rfl rfl 7 (by decide) (hts _ q_738) (fun _ h9 => h9) rfl dX5_reads_57 ?_
        refine lv_iconst (v := 1) hx hb dX5_reads_60 (by decide) ?_
        refine lv_iadd hx hb dX5_reads_61 ?_
        refine ka_put (ci := 5) (v := .int (t_at + 1)) (ty := .int) (C := RX5) (T := TX5) (N := 13) (wsN := (w_X5_reads cy A_t A_t_s A_t_past A_t_begun A_t_text A_t_wins A_t_fits t_pasts t_thrown t_typed (t_at + 1) r_1 t_one t_other t_text)) hx hb hts inX5 tyX5 tyX5_ok nmX5 hown hK hP hD hS 0 rfl rfl 7 (by decide) (hts _ q_738) (fun _ h9 => h9) rfl (by decide +kernel) rfl rfl (Nat.le_of_ble_eq_true rfl) rfl dX5_reads_62 (fun H locs hP hD hS => ?_)
        refine lv_aload_n hx hb dX5_reads_65 rfl (lv_at hl 0 rfl) ?_
        refine va_get (D := D) (ci := 5) (v := .int r_1) (C := RX5) (T := TX5) (N := 13) hx hb hts inX5 hown hK hP 0 rfl rfl 8 (by decide) (hts _ q_739) (fun _ h9 => h9) rfl dX5_reads_66 ?_
        refine lv_bipush (v := 99) hx hb dX5_reads_69 (by decide) ?_
        refine lv_icmp_ne (tgt := 81) hx hb dX5_reads_71 (by decide) (fun c_68 => ?_) (fun c_68 => ?_)
        · replace hF := ite_f c_68 hF
          refine lv_aload_n hx hb dX5_reads_81 rfl (lv_at hl 0 rfl) ?_
          refine va_get (D := D) (ci := 5) (v := .int r_1) (C := RX5) (T := TX5) (N := 13) hx hb hts inX5 hown hK hP 0 rfl rfl 8 (by decide) (hts _ q_739) (fun _ h9 => h9) rfl dX5_reads_82 ?_
          refine lv_bipush (v := 108) hx hb dX5_reads_85 (by decide) ?_
          refine lv_icmp_ne (tgt := 99) hx hb dX5_reads_87 (by decide) (fun c_69 => ?_) (fun c_69 => ?_)
          · replace hF := ite_f c_69 hF
            refine lv_aload_n hx hb dX5_reads_99 rfl (lv_at hl 0 rfl) ?_
            obtain ⟨r_70, hF_71, hF⟩ := ob1_some hF
            refine kcV (q := (RX5, TX5, 13)) (ci := 5) (q0 := 0) (As := []) (rest := []) (wr := []) (wsN := (w_X5_reads cy A_t A_t_s A_t_past A_t_begun A_t_text A_t_wins A_t_fits t_pasts t_thrown t_typed (t_at + 1) r_1 t_one t_other t_text)) ⟨hx, hb, hml, hown, hts⟩ hE hP hD hS hA hAs [0, 1] [] [0, 1] (c_X5_sign l D cy s0 tW N A_t A_t_s A_t_past A_t_begun A_t_text A_t_wins A_t_fits t_pasts t_thrown t_typed (t_at + 1) r_1 t_one t_other t_text _ hF_71) (gV q_1010 q_1012 q_78 q_88 q_1013) hd_X5_sign ⟨Nat.le_of_ble_eq_true rfl, Nat.le_of_ble_eq_true rfl⟩ rfl rfl rfl rfl rfl rfl rfl rfl rfl hl.1 rfl (Nat.le_of_ble_eq_true rfl) dX5_reads_100 ⟨Nat.zero_le _, Nat.zero_le _⟩ (fun H locs hP hD hS => ?_)
            refine W.eq (g2 := F0 m 103 ls [.int r_70]) rfl ?_
            refine lv_bipush (v := 59) hx hb dX5_reads_103 (by decide) ?_
            refine lv_icmp_ne (tgt := 112) hx hb dX5_reads_105 (by decide) (fun c_72 => ?_) (fun c_72 => ?_)
            · replace hF := ite_f c_72 hF
              refine lv_iconst (v := 0) hx hb dX5_reads_112 (by decide) ?_
              refine lv_istore_n (lv' := [(1, .int 0), (0, .ref A_t)]) hx hb dX5_reads_113 rfl hl (by decide) rfl (fun ls hl => ?_)
              refine lv_aload_n hx hb dX5_reads_114 rfl (lv_at hl 1 rfl) ?_
              refine lv_dup hx hb dX5_reads_115 rfl ?_
              refine va_get (D := D) (ci := 5) (v := .int (t_at + 1)) (C := RX5) (T := TX5) (N := 13) hx hb hts inX5 hown hK hP 0 rfl rfl 7 (by decide) (hts _ q_738) (fun _ h9 => h9) rfl dX5_reads_116 ?_
              refine lv_iload_n hx hb dX5_reads_119 rfl (lv_at hl 0 rfl) ?_
              refine lv_if_eq (tgt := 127) hx hb dX5_reads_120 (by decide) (fun _ => ?_) (fun h0 => absurd (by decide) h0)
              refine lv_iconst (v := 0) hx hb dX5_reads_127 (by decide) ?_
              refine lv_iadd hx hb dX5_reads_128 ?_
              refine ka_put (ci := 5) (v := .int ((t_at + 1) + 0)) (ty := .int) (C := RX5) (T := TX5) (N := 13) (wsN := (w_X5_reads cy A_t A_t_s A_t_past A_t_begun A_t_text A_t_wins A_t_fits t_pasts t_thrown t_typed ((t_at + 1) + 0) r_1 t_one t_other t_text)) hx hb hts inX5 tyX5 tyX5_ok nmX5 hown hK hP hD hS 0 rfl rfl 7 (by decide) (hts _ q_738) (fun _ h9 => h9) rfl (by decide +kernel) rfl rfl (Nat.le_of_ble_eq_true rfl) rfl dX5_reads_129 (fun H locs hP hD hS => ?_)
              refine lv_iload_n hx hb dX5_reads_132 rfl (lv_at hl 0 rfl) ?_
              cases hF
              exact kret_z hx hb hr hlocks hP hD hS dX5_reads_133
            · replace hF := ite_t c_72 hF
              refine lv_iconst (v := 1) hx hb dX5_reads_108 (by decide) ?_
              refine lv_goto (tgt := 113) hx hb dX5_reads_109 (by decide) ?_
              refine lv_istore_n (lv' := [(1, .int 1), (0, .ref A_t)]) hx hb dX5_reads_113 rfl hl (by decide) rfl (fun ls hl => ?_)
              refine lv_aload_n hx hb dX5_reads_114 rfl (lv_at hl 1 rfl) ?_
              refine lv_dup hx hb dX5_reads_115 rfl ?_
              refine va_get (D := D) (ci := 5) (v := .int (t_at + 1)) (C := RX5) (T := TX5) (N := 13) hx hb hts inX5 hown hK hP 0 rfl rfl 7 (by decide) (hts _ q_738) (fun _ h9 => h9) rfl dX5_reads_116 ?_
              refine lv_iload_n hx hb dX5_reads_119 rfl (lv_at hl 0 rfl) ?_
              refine lv_if_eq (tgt := 127) hx hb dX5_reads_120 (by decide) (fun h0 => absurd h0 (by decide)) (fun _ => ?_)
              refine lv_iconst (v := 1) hx hb dX5_reads_123 (by decide) ?_
              refine lv_goto (tgt := 128) hx hb dX5_reads_124 (by decide) ?_
              refine lv_iadd hx hb dX5_reads_128 ?_
              refine ka_put (ci := 5) (v := .int ((t_at + 1) + 1)) (ty := .int) (C := RX5) (T := TX5) (N := 13) (wsN := (w_X5_reads cy A_t A_t_s A_t_past A_t_begun A_t_text A_t_wins A_t_fits t_pasts t_thrown t_typed ((t_at + 1) + 1) r_1 t_one t_other t_text)) hx hb hts inX5 tyX5 tyX5_ok nmX5 hown hK hP hD hS 0 rfl rfl 7 (by decide) (hts _ q_738) (fun _ h9 => h9) rfl (by decide +kernel) rfl rfl (Nat.le_of_ble_eq_true rfl) rfl dX5_reads_129 (fun H locs hP hD hS => ?_)
              refine lv_iload_n hx hb dX5_reads_132 rfl (lv_at hl 0 rfl) ?_
              cases hF
              exact kret_z hx hb hr hlocks hP hD hS dX5_reads_133
          · replace hF := ite_t c_69 hF
            refine lv_aload_n hx hb dX5_reads_90 rfl (lv_at hl 0 rfl) ?_
            obtain ⟨r_73, t_at_74, t_one_75, hF_76, hF⟩ := ob3_some hF
            refine kcV (q := (RX5, TX5, 13)) (ci := 5) (q0 := 0) (As := []) (rest := []) (wr := []) (wsN := (w_X5_reads cy A_t A_t_s A_t_past A_t_begun A_t_text A_t_wins A_t_fits t_pasts t_thrown t_typed t_at_74 r_1 t_one_75 t_other t_text)) ⟨hx, hb, hml, hown, hts⟩ hE hP hD hS hA hAs [0, 1] [] [0, 1] (c_X5_number_ l D cy s0 tW N A_t A_t_s A_t_past A_t_begun A_t_text A_t_wins A_t_fits t_pasts t_thrown t_typed (t_at + 1) r_1 t_one t_other t_text _ hF_76) (gV q_1018 q_1020 q_80 q_88 q_1021) hd_X5_number_ ⟨Nat.le_of_ble_eq_true rfl, Nat.le_of_ble_eq_true rfl⟩ rfl rfl rfl rfl rfl rfl rfl rfl rfl hl.1 rfl (Nat.le_of_ble_eq_true rfl) dX5_reads_91 ⟨Nat.zero_le _, Nat.zero_le _⟩ (fun H locs hP hD hS => ?_)
            refine W.eq (g2 := F0 m 94 ls [.int (bI r_73)]) rfl ?_
            refine lv_if_ne (tgt := 99) hx hb dX5_reads_94 (by decide) (fun c_77 => ?_) (fun c_77 => ?_)
            · replace hF := ite_t (bI_t c_77) hF
              refine lv_aload_n hx hb dX5_reads_99 rfl (lv_at hl 0 rfl) ?_
              obtain ⟨r_78, hF_79, hF⟩ := ob1_some hF
              refine kcV (q := (RX5, TX5, 13)) (ci := 5) (q0 := 0) (As := []) (rest := []) (wr := []) (wsN := (w_X5_reads cy A_t A_t_s A_t_past A_t_begun A_t_text A_t_wins A_t_fits t_pasts t_thrown t_typed t_at_74 r_1 t_one_75 t_other t_text)) ⟨hx, hb, hml, hown, hts⟩ hE hP hD hS hA hAs [0, 1] [] [0, 1] (c_X5_sign l D cy s0 tW N A_t A_t_s A_t_past A_t_begun A_t_text A_t_wins A_t_fits t_pasts t_thrown t_typed t_at_74 r_1 t_one_75 t_other t_text _ hF_79) (gV q_1010 q_1012 q_78 q_88 q_1013) hd_X5_sign ⟨Nat.le_of_ble_eq_true rfl, Nat.le_of_ble_eq_true rfl⟩ rfl rfl rfl rfl rfl rfl rfl rfl rfl hl.1 rfl (Nat.le_of_ble_eq_true rfl) dX5_reads_100 ⟨Nat.zero_le _, Nat.zero_le _⟩ (fun H locs hP hD hS => ?_)
              refine W.eq (g2 := F0 m 103 ls [.int r_78]) rfl ?_
              refine lv_bipush (v := 59) hx hb dX5_reads_103 (by decide) ?_
              refine lv_icmp_ne (tgt := 112) hx hb dX5_reads_105 (by decide) (fun c_80 => ?_) (fun c_80 => ?_)
              · replace hF := ite_f c_80 hF
                refine lv_iconst (v := 0) hx hb dX5_reads_112 (by decide) ?_
                refine lv_istore_n (lv' := [(1, .int 0), (0, .ref A_t)]) hx hb dX5_reads_113 rfl hl (by decide) rfl (fun ls hl => ?_)
                refine lv_aload_n hx hb dX5_reads_114 rfl (lv_at hl 1 rfl) ?_
                refine lv_dup hx hb dX5_reads_115 rfl ?_
                refine va_get (D := D) (ci := 5) (v := .int t_at_74) (C := RX5) (T := TX5) (N := 13) hx hb hts inX5 hown hK hP 0 rfl rfl 7 (by decide) (hts _ q_738) (fun _ h9 => h9) rfl dX5_reads_116 ?_
                refine lv_iload_n hx hb dX5_reads_119 rfl (lv_at hl 0 rfl) ?_
                refine lv_if_eq (tgt := 127) hx hb dX5_reads_120 (by decide) (fun _ => ?_) (fun h0 => absurd (by decide) h0)
                refine lv_iconst (v := 0) hx hb dX5_reads_127 (by decide) ?_
                refine lv_iadd hx hb dX5_reads_128 ?_
                refine ka_put (ci := 5) (v := .int (t_at_74 + 0)) (ty := .int) (C := RX5) (T := TX5) (N := 13) (wsN := (w_X5_reads cy A_t A_t_s A_t_past A_t_begun A_t_text A_t_wins A_t_fits t_pasts t_thrown t_typed (t_at_74 + 0) r_1 t_one_75 t_other t_text)) hx hb hts inX5 tyX5 tyX5_ok nmX5 hown hK hP hD hS 0 rfl rfl 7 (by decide) (hts _ q_738) (fun _ h9 => h9) rfl (by decide +kernel) rfl rfl (Nat.le_of_ble_eq_true rfl) rfl dX5_reads_129 (fun H locs hP hD hS => ?_)
                refine lv_iload_n hx hb dX5_reads_132 rfl (lv_at hl 0 rfl) ?_
                cases hF
                exact kret_z hx hb hr hlocks hP hD hS dX5_reads_133
              · replace hF := ite_t c_80 hF
                refine lv_iconst (v := 1) hx hb dX5_reads_108 (by decide) ?_
                refine lv_goto (tgt := 113) hx hb dX5_reads_109 (by decide) ?_
                refine lv_istore_n (lv' := [(1, .int 1), (0, .ref A_t)]) hx hb dX5_reads_113 rfl hl (by decide) rfl (fun ls hl => ?_)
                refine lv_aload_n hx hb dX5_reads_114 rfl (lv_at hl 1 rfl) ?_
                refine lv_dup hx hb dX5_reads_115 rfl ?_
                refine va_get (D := D) (ci := 5) (v := .int t_at_74) (C := RX5) (T := TX5) (N := 13) hx hb hts inX5 hown hK hP 0 rfl rfl 7 (by decide) (hts _ q_738) (fun _ h9 => h9) rfl dX5_reads_116 ?_
                refine lv_iload_n hx hb dX5_reads_119 rfl (lv_at hl 0 rfl) ?_
                refine lv_if_eq (tgt := 127) hx hb dX5_reads_120 (by decide) (fun h0 => absurd h0 (by decide)) (fun _ => ?_)
                refine lv_iconst (v := 1) hx hb dX5_reads_123 (by decide) ?_
                refine lv_goto (tgt := 128) hx hb dX5_reads_124 (by decide) ?_
                refine lv_iadd hx hb dX5_reads_128 ?_
                refine ka_put (ci := 5) (v := .int (t_at_74 + 1)) (ty := .int) (C := RX5) (T := TX5) (N := 13) (wsN := (w_X5_reads cy A_t A_t_s A_t_past A_t_begun A_t_text A_t_wins A_t_fits t_pasts t_thrown t_typed (t_at_74 + 1) r_1 t_one_75 t_other t_text)) hx hb hts inX5 tyX5 tyX5_ok nmX5 hown hK hP hD hS 0 rfl rfl 7 (by decide) (hts _ q_738) (fun _ h9 => h9) rfl (by decide +kernel) rfl rfl (Nat.le_of_ble_eq_true rfl) rfl dX5_reads_129 (fun H locs hP hD hS => ?_)
                refine lv_iload_n hx hb dX5_reads_132 rfl (lv_at hl 0 rfl) ?_
                cases hF
                exact kret_z hx hb hr hlocks hP hD hS dX5_reads_133
            · replace hF := ite_f (bI_f c_77) hF
              refine lv_iconst (v := 0) hx hb dX5_reads_97 (by decide) ?_
              cases hF
              exact kret_z hx hb hr hlocks hP hD hS dX5_reads_98
        · replace hF := ite_t c_68 hF
          refine lv_aload_n hx hb dX5_reads_74 rfl (lv_at hl 0 rfl) ?_
          obtain ⟨r_81, t_at_82, t_one_83, t_other_84, hF_85, hF⟩ := ob4_some hF
          refine kcV (q := (RX5, TX5, 13)) (ci := 5) (q0 := 0) (As := []) (rest := []) (wr := []) (wsN := (w_X5_reads cy A_t A_t_s A_t_past A_t_begun A_t_text A_t_wins A_t_fits t_pasts t_thrown t_typed t_at_82 r_1 t_one_83 t_other_84 t_text)) ⟨hx, hb, hml, hown, hts⟩ hE hP hD hS hA hAs [0, 1] [] [0, 1] (c_X5_literals l D cy s0 tW N A_t A_t_s A_t_past A_t_begun A_t_text A_t_wins A_t_fits t_pasts t_thrown t_typed (t_at + 1) r_1 t_one t_other t_text _ hF_85) (gV q_1014 q_1016 q_79 q_88 q_1017) hd_X5_literals ⟨Nat.le_of_ble_eq_true rfl, Nat.le_of_ble_eq_true rfl⟩ rfl rfl rfl rfl rfl rfl rfl rfl rfl hl.1 rfl (Nat.le_of_ble_eq_true rfl) dX5_reads_75 ⟨Nat.zero_le _, Nat.zero_le _⟩ (fun H locs hP hD hS => ?_)
          refine W.eq (g2 := F0 m 78 ls [.int (bI r_81)]) rfl ?_
          refine lv_if_eq (tgt := 97) hx hb dX5_reads_78 (by decide) (fun c_86 => ?_) (fun c_86 => ?_)
          · replace hF := ite_f (bI_f c_86) hF
            refine lv_iconst (v := 0) hx hb dX5_reads_97 (by decide) ?_
            cases hF
            exact kret_z hx hb hr hlocks hP hD hS dX5_reads_98
          · replace hF := ite_t (bI_t c_86) hF
            refine lv_aload_n hx hb dX5_reads_81 rfl (lv_at hl 0 rfl) ?_
            refine va_get (D := D) (ci := 5) (v := .int r_1) (C := RX5) (T := TX5) (N := 13) hx hb hts inX5 hown hK hP 0 rfl rfl 8 (by decide) (hts _ q_739) (fun _ h9 => h9) rfl dX5_reads_82 ?_
            refine lv_bipush (v := 108) hx hb dX5_reads_85 (by decide) ?_
            refine lv_icmp_ne (tgt := 99) hx hb dX5_reads_87 (by decide) (fun c_87 => ?_) (fun c_87 => ?_)
            · replace hF := ite_f c_87 hF
              refine lv_aload_n hx hb dX5_reads_99 rfl (lv_at hl 0 rfl) ?_
              obtain ⟨r_88, hF_89, hF⟩ := ob1_some hF
              refine kcV (q := (RX5, TX5, 13)) (ci := 5) (q0 := 0) (As := []) (rest := []) (wr := []) (wsN := (w_X5_reads cy A_t A_t_s A_t_past A_t_begun A_t_text A_t_wins A_t_fits t_pasts t_thrown t_typed t_at_82 r_1 t_one_83 t_other_84 t_text)) ⟨hx, hb, hml, hown, hts⟩ hE hP hD hS hA hAs [0, 1] [] [0, 1] (c_X5_sign l D cy s0 tW N A_t A_t_s A_t_past A_t_begun A_t_text A_t_wins A_t_fits t_pasts t_thrown t_typed t_at_82 r_1 t_one_83 t_other_84 t_text _ hF_89) (gV q_1010 q_1012 q_78 q_88 q_1013) hd_X5_sign ⟨Nat.le_of_ble_eq_true rfl, Nat.le_of_ble_eq_true rfl⟩ rfl rfl rfl rfl rfl rfl rfl rfl rfl hl.1 rfl (Nat.le_of_ble_eq_true rfl) dX5_reads_100 ⟨Nat.zero_le _, Nat.zero_le _⟩ (fun H locs hP hD hS => ?_)
              refine W.eq (g2 := F0 m 103 ls [.int r_88]) rfl ?_
              refine lv_bipush (v := 59) hx hb dX5_reads_103 (by decide) ?_
              refine lv_icmp_ne (tgt := 112) hx hb dX5_reads_105 (by decide) (fun c_90 => ?_) (fun c_90 => ?_)
              · replace hF := ite_f c_90 hF
                refine lv_iconst (v := 0) hx hb dX5_reads_112 (by decide) ?_
                refine lv_istore_n (lv' := [(1, .int 0), (0, .ref A_t)]) hx hb dX5_reads_113 rfl hl (by decide) rfl (fun ls hl => ?_)
                refine lv_aload_n hx hb dX5_reads_114 rfl (lv_at hl 1 rfl) ?_
                refine lv_dup hx hb dX5_reads_115 rfl ?_
                refine va_get (D := D) (ci := 5) (v := .int t_at_82) (C := RX5) (T := TX5) (N := 13) hx hb hts inX5 hown hK hP 0 rfl rfl 7 (by decide) (hts _ q_738) (fun _ h9 => h9) rfl dX5_reads_116 ?_
                refine lv_iload_n hx hb dX5_reads_119 rfl (lv_at hl 0 rfl) ?_
                refine lv_if_eq (tgt := 127) hx hb dX5_reads_120 (by decide) (fun _ => ?_) (fun h0 => absurd (by decide) h0)
                refine lv_iconst (v := 0) hx hb dX5_reads_127 (by decide) ?_
                refine lv_iadd hx hb dX5_reads_128 ?_
                refine ka_put (ci := 5) (v := .int (t_at_82 + 0)) (ty := .int) (C := RX5) (T := TX5) (N := 13) (wsN := (w_X5_reads cy A_t A_t_s A_t_past A_t_begun A_t_text A_t_wins A_t_fits t_pasts t_thrown t_typed (t_at_82 + 0) r_1 t_one_83 t_other_84 t_text)) hx hb hts inX5 tyX5 tyX5_ok nmX5 hown hK hP hD hS 0 rfl rfl 7 (by decide) (hts _ q_738) (fun _ h9 => h9) rfl (by decide +kernel) rfl rfl (Nat.le_of_ble_eq_true rfl) rfl dX5_reads_129 (fun H locs hP hD hS => ?_)
                refine lv_iload_n hx hb dX5_reads_132 rfl (lv_at hl 0 rfl) ?_
                cases hF
                exact kret_z hx hb hr hlocks hP hD hS dX5_reads_133
              · replace hF := ite_t c_90 hF
                refine lv_iconst (v := 1) hx hb dX5_reads_108 (by decide) ?_
                refine lv_goto (tgt := 113) hx hb dX5_reads_109 (by decide) ?_
                refine lv_istore_n (lv' := [(1, .int 1), (0, .ref A_t)]) hx hb dX5_reads_113 rfl hl (by decide) rfl (fun ls hl => ?_)
                refine lv_aload_n hx hb dX5_reads_114 rfl (lv_at hl 1 rfl) ?_
                refine lv_dup hx hb dX5_reads_115 rfl ?_
                refine va_get (D := D) (ci := 5) (v := .int t_at_82) (C := RX5) (T := TX5) (N := 13) hx hb hts inX5 hown hK hP 0 rfl rfl 7 (by decide) (hts _ q_738) (fun _ h9 => h9) rfl dX5_reads_116 ?_
                refine lv_iload_n hx hb dX5_reads_119 rfl (lv_at hl 0 rfl) ?_
                refine lv_if_eq (tgt := 127) hx hb dX5_reads_120 (by decide) (fun h0 => absurd h0 (by decide)) (fun _ => ?_)
                refine lv_iconst (v := 1) hx hb dX5_reads_123 (by decide) ?_
                refine lv_goto (tgt := 128) hx hb dX5_reads_124 (by decide) ?_
                refine lv_iadd hx hb dX5_reads_128 ?_
                refine ka_put (ci := 5) (v := .int (t_at_82 + 1)) (ty := .int) (C := RX5) (T := TX5) (N := 13) (wsN := (w_X5_reads cy A_t A_t_s A_t_past A_t_begun A_t_text A_t_wins A_t_fits t_pasts t_thrown t_typed (t_at_82 + 1) r_1 t_one_83 t_other_84 t_text)) hx hb hts inX5 tyX5 tyX5_ok nmX5 hown hK hP hD hS 0 rfl rfl 7 (by decide) (hts _ q_738) (fun _ h9 => h9) rfl (by decide +kernel) rfl rfl (Nat.le_of_ble_eq_true rfl) rfl dX5_reads_129 (fun H locs hP hD hS => ?_)
                refine lv_iload_n hx hb dX5_reads_132 rfl (lv_at hl 0 rfl) ?_
                cases hF
                exact kret_z hx hb hr hlocks hP hD hS dX5_reads_133
            · replace hF := ite_t c_87 hF
              refine lv_aload_n hx hb dX5_reads_90 rfl (lv_at hl 0 rfl) ?_
              obtain ⟨r_91, t_at_92, t_one_93, hF_94, hF⟩ := ob3_some hF
              refine kcV (q := (RX5, TX5, 13)) (ci := 5) (q0 := 0) (As := []) (rest := []) (wr := []) (wsN := (w_X5_reads cy A_t A_t_s A_t_past A_t_begun A_t_text A_t_wins A_t_fits t_pasts t_thrown t_typed t_at_92 r_1 t_one_93 t_other_84 t_text)) ⟨hx, hb, hml, hown, hts⟩ hE hP hD hS hA hAs [0, 1] [] [0, 1] (c_X5_number_ l D cy s0 tW N A_t A_t_s A_t_past A_t_begun A_t_text A_t_wins A_t_fits t_pasts t_thrown t_typed t_at_82 r_1 t_one_83 t_other_84 t_text _ hF_94) (gV q_1018 q_1020 q_80 q_88 q_1021) hd_X5_number_ ⟨Nat.le_of_ble_eq_true rfl, Nat.le_of_ble_eq_true rfl⟩ rfl rfl rfl rfl rfl rfl rfl rfl rfl hl.1 rfl (Nat.le_of_ble_eq_true rfl) dX5_reads_91 ⟨Nat.zero_le _, Nat.zero_le _⟩ (fun H locs hP hD hS => ?_)
              refine W.eq (g2 := F0 m 94 ls [.int (bI r_91)]) rfl ?_
              refine lv_if_ne (tgt := 99) hx hb dX5_reads_94 (by decide) (fun c_95 => ?_) (fun c_95 => ?_)
              · replace hF := ite_t (bI_t c_95) hF
                refine lv_aload_n hx hb dX5_reads_99 rfl (lv_at hl 0 rfl) ?_
                obtain ⟨r_96, hF_97, hF⟩ := ob1_some hF
                refine kcV (q := (RX5, TX5, 13)) (ci := 5) (q0 := 0) (As := []) (rest := []) (wr := []) (wsN := (w_X5_reads cy A_t A_t_s A_t_past A_t_begun A_t_text A_t_wins A_t_fits t_pasts t_thrown t_typed t_at_92 r_1 t_one_93 t_other_84 t_text)) ⟨hx, hb, hml, hown, hts⟩ hE hP hD hS hA hAs [0, 1] [] [0, 1] (c_X5_sign l D cy s0 tW N A_t A_t_s A_t_past A_t_begun A_t_text A_t_wins A_t_fits t_pasts t_thrown t_typed t_at_92 r_1 t_one_93 t_other_84 t_text _ hF_97) (gV q_1010 q_1012 q_78 q_88 q_1013) hd_X5_sign ⟨Nat.le_of_ble_eq_true rfl, Nat.le_of_ble_eq_true rfl⟩ rfl rfl rfl rfl rfl rfl rfl rfl rfl hl.1 rfl (Nat.le_of_ble_eq_true rfl) dX5_reads_100 ⟨Nat.zero_le _, Nat.zero_le _⟩ (fun H locs hP hD hS => ?_)
                refine W.eq (g2 := F0 m 103 ls [.int r_96]) rfl ?_
                refine lv_bipush (v := 59) hx hb dX5_reads_103 (by decide) ?_
                refine lv_icmp_ne (tgt := 112) hx hb dX5_reads_105 (by decide) (fun c_98 => ?_) (fun c_98 => ?_)
                · replace hF := ite_f c_98 hF
                  refine lv_iconst (v := 0) hx hb dX5_reads_112 (by decide) ?_
                  refine lv_istore_n (lv' := [(1, .int 0), (0, .ref A_t)]) hx hb dX5_reads_113 rfl hl (by decide) rfl (fun ls hl => ?_)
                  refine lv_aload_n hx hb dX5_reads_114 rfl (lv_at hl 1 rfl) ?_
                  refine lv_dup hx hb dX5_reads_115 rfl ?_
                  refine va_get (D := D) (ci := 5) (v := .int t_at_92) (C := RX5) (T := TX5) (N := 13) hx hb hts inX5 hown hK hP 0 rfl rfl 7 (by decide) (hts _ q_738) (fun _ h9 => h9) rfl dX5_reads_116 ?_
                  refine lv_iload_n hx hb dX5_reads_119 rfl (lv_at hl 0 rfl) ?_
                  refine lv_if_eq (tgt := 127) hx hb dX5_reads_120 (by decide) (fun _ => ?_) (fun h0 => absurd (by decide) h0)
                  refine lv_iconst (v := 0) hx hb dX5_reads_127 (by decide) ?_
                  refine lv_iadd hx hb dX5_reads_128 ?_
                  refine ka_put (ci := 5) (v := .int (t_at_92 + 0)) (ty := .int) (C := RX5) (T := TX5) (N := 13) (wsN := (w_X5_reads cy A_t A_t_s A_t_past A_t_begun A_t_text A_t_wins A_t_fits t_pasts t_thrown t_typed (t_at_92 + 0) r_1 t_one_93 t_other_84 t_text)) hx hb hts inX5 tyX5 tyX5_ok nmX5 hown hK hP hD hS 0 rfl rfl 7 (by decide) (hts _ q_738) (fun _ h9 => h9) rfl (by decide +kernel) rfl rfl (Nat.le_of_ble_eq_true rfl) rfl dX5_reads_129 (fun H locs hP hD hS => ?_)
                  refine lv_iload_n hx hb dX5_reads_132 rfl (lv_at hl 0 rfl) ?_
                  cases hF
                  exact kret_z hx hb hr hlocks hP hD hS dX5_reads_133
                · replace hF := ite_t c_98 hF
                  refine lv_iconst (v := 1) hx hb dX5_reads_108 (by decide) ?_
                  refine lv_goto (tgt := 113) hx hb dX5_reads_109 (by decide) ?_
                  refine lv_istore_n (lv' := [(1, .int 1), (0, .ref A_t)]) hx hb dX5_reads_113 rfl hl (by decide) rfl (fun ls hl => ?_)
                  refine lv_aload_n hx hb dX5_reads_114 rfl (lv_at hl 1 rfl) ?_
                  refine lv_dup hx hb dX5_reads_115 rfl ?_
                  refine va_get (D := D) (ci := 5) (v := .int t_at_92) (C := RX5) (T := TX5) (N := 13) hx hb hts inX5 hown hK hP 0 rfl rfl 7 (by decide) (hts _ q_738) (fun _ h9 => h9) rfl dX5_reads_116 ?_
                  refine lv_iload_n hx hb dX5_reads_119 rfl (lv_at hl 0 rfl) ?_
                  refine lv_if_eq (tgt := 127) hx hb dX5_reads_120 (by decide) (fun h0 => absurd h0 (by decide)) (fun _ => ?_)
                  refine lv_iconst (v := 1) hx hb dX5_reads_123 (by decide) ?_
                  refine lv_goto (tgt := 128) hx hb dX5_reads_124 (by decide) ?_
                  refine lv_iadd hx hb dX5_reads_128 ?_
                  refine ka_put (ci := 5) (v := .int (t_at_92 + 1)) (ty := .int) (C := RX5) (T := TX5) (N := 13) (wsN := (w_X5_reads cy A_t A_t_s A_t_past A_t_begun A_t_text A_t_wins A_t_fits t_pasts t_thrown t_typed (t_at_92 + 1) r_1 t_one_93 t_other_84 t_text)) hx hb hts inX5 tyX5 tyX5_ok nmX5 hown hK hP hD hS 0 rfl rfl 7 (by decide) (hts _ q_738) (fun _ h9 => h9) rfl (by decide +kernel) rfl rfl (Nat.le_of_ble_eq_true rfl) rfl dX5_reads_129 (fun H locs hP hD hS => ?_)
                  refine lv_iload_n hx hb dX5_reads_132 rfl (lv_at hl 0 rfl) ?_
                  cases hF
                  exact kret_z hx hb hr hlocks hP hD hS dX5_reads_133
              · replace hF := ite_f (bI_f c_95) hF
                refine lv_iconst (v := 0) hx hb dX5_reads_97 (by decide) ?_
                cases hF
                exact kret_z hx hb hr hlocks hP hD hS dX5_reads_98
      · replace hF := ite_f c_67 hF
        refine lv_aload_n hx hb dX5_reads_35 rfl (lv_at hl 0 rfl) ?_
        refine va_get (D := D) (ci := 5) (v := .int r_1) (C := RX5) (T := TX5) (N := 13) hx hb hts inX5 hown hK hP 0 rfl rfl 8 (by decide) (hts _ q_739) (fun _ h9 => h9) rfl dX5_reads_36 ?_
        refine lv_bipush (v := 108) hx hb dX5_reads_39 (by decide) ?_
        refine lv_icmp_eq (tgt := 55) hx hb dX5_reads_41 (by decide) (fun c_99 => ?_) (fun c_99 => ?_)
        · replace hF := ite_t c_99 hF
          refine lv_aload_n hx hb dX5_reads_55 rfl (lv_at hl 0 rfl) ?_
          refine lv_dup hx hb dX5_reads_56 rfl ?_
          refine va_get (D := D) (ci := 5) (v := .int t_at) (C := RX5) (T := TX5) (N := 13) hx hb hts inX5 hown hK hP 0 rfl rfl 7 (by decide) (hts _ q_738) (fun _ h9 => h9) rfl dX5_reads_57 ?_
          refine lv_iconst (v := 1) hx hb dX5_reads_60 (by decide) ?_
          refine lv_iadd hx hb dX5_reads_61 ?_
          refine ka_put (ci := 5) (v := .int (t_at + 1)) (ty := .int) (C := RX5) (T := TX5) (N := 13) (wsN := (w_X5_reads cy A_t A_t_s A_t_past A_t_begun A_t_text A_t_wins A_t_fits t_pasts t_thrown t_typed (t_at + 1) r_1 t_one t_other t_text)) hx hb hts inX5 tyX5 tyX5_ok nmX5 hown hK hP hD hS 0 rfl rfl 7 (by decide) (hts _ q_738) (fun _ h9 => h9) rfl (by decide +kernel) rfl rfl (Nat.le_of_ble_eq_true rfl) rfl dX5_reads_62 (fun H locs hP hD hS => ?_)
          refine lv_aload_n hx hb dX5_reads_65 rfl (lv_at hl 0 rfl) ?_
          refine va_get (D := D) (ci := 5) (v := .int r_1) (C := RX5) (T := TX5) (N := 13) hx hb hts inX5 hown hK hP 0 rfl rfl 8 (by decide) (hts _ q_739) (fun _ h9 => h9) rfl dX5_reads_66 ?_
          refine lv_bipush (v := 99) hx hb dX5_reads_69 (by decide) ?_
          refine lv_icmp_ne (tgt := 81) hx hb dX5_reads_71 (by decide) (fun c_100 => ?_) (fun c_100 => ?_)
          · replace hF := ite_f c_100 hF
            refine lv_aload_n hx hb dX5_reads_81 rfl (lv_at hl 0 rfl) ?_
            refine va_get (D := D) (ci := 5) (v := .int r_1) (C := RX5) (T := TX5) (N := 13) hx hb hts inX5 hown hK hP 0 rfl rfl 8 (by decide) (hts _ q_739) (fun _ h9 => h9) rfl dX5_reads_82 ?_
            refine lv_bipush (v := 108) hx hb dX5_reads_85 (by decide) ?_
            refine lv_icmp_ne (tgt := 99) hx hb dX5_reads_87 (by decide) (fun c_101 => ?_) (fun c_101 => ?_)
            · replace hF := ite_f c_101 hF
              refine lv_aload_n hx hb dX5_reads_99 rfl (lv_at hl 0 rfl) ?_
              obtain ⟨r_102, hF_103, hF⟩ := ob1_some hF
              refine kcV (q := (RX5, TX5, 13)) (ci := 5) (q0 := 0) (As := []) (rest := []) (wr := []) (wsN := (w_X5_reads cy A_t A_t_s A_t_past A_t_begun A_t_text A_t_wins A_t_fits t_pasts t_thrown t_typed (t_at + 1) r_1 t_one t_other t_text)) ⟨hx, hb, hml, hown, hts⟩ hE hP hD hS hA hAs [0, 1] [] [0, 1] (c_X5_sign l D cy s0 tW N A_t A_t_s A_t_past A_t_begun A_t_text A_t_wins A_t_fits t_pasts t_thrown t_typed (t_at + 1) r_1 t_one t_other t_text _ hF_103) (gV q_1010 q_1012 q_78 q_88 q_1013) hd_X5_sign ⟨Nat.le_of_ble_eq_true rfl, Nat.le_of_ble_eq_true rfl⟩ rfl rfl rfl rfl rfl rfl rfl rfl rfl hl.1 rfl (Nat.le_of_ble_eq_true rfl) dX5_reads_100 ⟨Nat.zero_le _, Nat.zero_le _⟩ (fun H locs hP hD hS => ?_)
              refine W.eq (g2 := F0 m 103 ls [.int r_102]) rfl ?_
              refine lv_bipush (v := 59) hx hb dX5_reads_103 (by decide) ?_
              refine lv_icmp_ne (tgt := 112) hx hb dX5_reads_105 (by decide) (fun c_104 => ?_) (fun c_104 => ?_)
              · replace hF := ite_f c_104 hF
                refine lv_iconst (v := 0) hx hb dX5_reads_112 (by decide) ?_
                refine lv_istore_n (lv' := [(1, .int 0), (0, .ref A_t)]) hx hb dX5_reads_113 rfl hl (by decide) rfl (fun ls hl => ?_)
                refine lv_aload_n hx hb dX5_reads_114 rfl (lv_at hl 1 rfl) ?_
                refine lv_dup hx hb dX5_reads_115 rfl ?_
                refine va_get (D := D) (ci := 5) (v := .int (t_at + 1)) (C := RX5) (T := TX5) (N := 13) hx hb hts inX5 hown hK hP 0 rfl rfl 7 (by decide) (hts _ q_738) (fun _ h9 => h9) rfl dX5_reads_116 ?_
                refine lv_iload_n hx hb dX5_reads_119 rfl (lv_at hl 0 rfl) ?_
                refine lv_if_eq (tgt := 127) hx hb dX5_reads_120 (by decide) (fun _ => ?_) (fun h0 => absurd (by decide) h0)
                refine lv_iconst (v := 0) hx hb dX5_reads_127 (by decide) ?_
                refine lv_iadd hx hb dX5_reads_128 ?_
                refine ka_put (ci := 5) (v := .int ((t_at + 1) + 0)) (ty := .int) (C := RX5) (T := TX5) (N := 13) (wsN := (w_X5_reads cy A_t A_t_s A_t_past A_t_begun A_t_text A_t_wins A_t_fits t_pasts t_thrown t_typed ((t_at + 1) + 0) r_1 t_one t_other t_text)) hx hb hts inX5 tyX5 tyX5_ok nmX5 hown hK hP hD hS 0 rfl rfl 7 (by decide) (hts _ q_738) (fun _ h9 => h9) rfl (by decide +kernel) rfl rfl (Nat.le_of_ble_eq_true rfl) rfl dX5_reads_129 (fun H locs hP hD hS => ?_)
                refine lv_iload_n hx hb dX5_reads_132 rfl (lv_at hl 0 rfl) ?_
                cases hF
                exact kret_z hx hb hr hlocks hP hD hS dX5_reads_133
              · replace hF := ite_t c_104 hF
                refine lv_iconst (v := 1) hx hb dX5_reads_108 (by decide) ?_
                refine lv_goto (tgt := 113) hx hb dX5_reads_109 (by decide) ?_
                refine lv_istore_n (lv' := [(1, .int 1), (0, .ref A_t)]) hx hb dX5_reads_113 rfl hl (by decide) rfl (fun ls hl => ?_)
                refine lv_aload_n hx hb dX5_reads_114 rfl (lv_at hl 1 rfl) ?_
                refine lv_dup hx hb dX5_reads_115 rfl ?_
                refine va_get (D := D) (ci := 5) (v := .int (t_at + 1)) (C := RX5) (T := TX5) (N := 13) hx hb hts inX5 hown hK hP 0 rfl rfl 7 (by decide) (hts _ q_738) (fun _ h9 => h9) rfl dX5_reads_116 ?_
                refine lv_iload_n hx hb dX5_reads_119 rfl (lv_at hl 0 rfl) ?_
                refine lv_if_eq (tgt := 127) hx hb dX5_reads_120 (by decide) (fun h0 => absurd h0 (by decide)) (fun _ => ?_)
                refine lv_iconst (v := 1) hx hb dX5_reads_123 (by decide) ?_
                refine lv_goto (tgt := 128) hx hb dX5_reads_124 (by decide) ?_
                refine lv_iadd hx hb dX5_reads_128 ?_
                refine ka_put (ci := 5) (v := .int ((t_at + 1) + 1)) (ty := .int) (C := RX5) (T := TX5) (N := 13) (wsN := (w_X5_reads cy A_t A_t_s A_t_past A_t_begun A_t_text A_t_wins A_t_fits t_pasts t_thrown t_typed ((t_at + 1) + 1) r_1 t_one t_other t_text)) hx hb hts inX5 tyX5 tyX5_ok nmX5 hown hK hP hD hS 0 rfl rfl 7 (by decide) (hts _ q_738) (fun _ h9 => h9) rfl (by decide +kernel) rfl rfl (Nat.le_of_ble_eq_true rfl) rfl dX5_reads_129 (fun H locs hP hD hS => ?_)
                refine lv_iload_n hx hb dX5_reads_132 rfl (lv_at hl 0 rfl) ?_
                cases hF
                exact kret_z hx hb hr hlocks hP hD hS dX5_reads_133
            · replace hF := ite_t c_101 hF
              refine lv_aload_n hx hb dX5_reads_90 rfl (lv_at hl 0 rfl) ?_
              obtain ⟨r_105, t_at_106, t_one_107, hF_108, hF⟩ := ob3_some hF
              refine kcV (q := (RX5, TX5, 13)) (ci := 5) (q0 := 0) (As := []) (rest := []) (wr := []) (wsN := (w_X5_reads cy A_t A_t_s A_t_past A_t_begun A_t_text A_t_wins A_t_fits t_pasts t_thrown t_typed t_at_106 r_1 t_one_107 t_other t_text)) ⟨hx, hb, hml, hown, hts⟩ hE hP hD hS hA hAs [0, 1] [] [0, 1] (c_X5_number_ l D cy s0 tW N A_t A_t_s A_t_past A_t_begun A_t_text A_t_wins A_t_fits t_pasts t_thrown t_typed (t_at + 1) r_1 t_one t_other t_text _ hF_108) (gV q_1018 q_1020 q_80 q_88 q_1021) hd_X5_number_ ⟨Nat.le_of_ble_eq_true rfl, Nat.le_of_ble_eq_true rfl⟩ rfl rfl rfl rfl rfl rfl rfl rfl rfl hl.1 rfl (Nat.le_of_ble_eq_true rfl) dX5_reads_91 ⟨Nat.zero_le _, Nat.zero_le _⟩ (fun H locs hP hD hS => ?_)
              refine W.eq (g2 := F0 m 94 ls [.int (bI r_105)]) rfl ?_
              refine lv_if_ne (tgt := 99) hx hb dX5_reads_94 (by decide) (fun c_109 => ?_) (fun c_109 => ?_)
              · replace hF := ite_t (bI_t c_109) hF
                refine lv_aload_n hx hb dX5_reads_99 rfl (lv_at hl 0 rfl) ?_
                obtain ⟨r_110, hF_111, hF⟩ := ob1_some hF
                refine kcV (q := (RX5, TX5, 13)) (ci := 5) (q0 := 0) (As := []) (rest := []) (wr := []) (wsN := (w_X5_reads cy A_t A_t_s A_t_past A_t_begun A_t_text A_t_wins A_t_fits t_pasts t_thrown t_typed t_at_106 r_1 t_one_107 t_other t_text)) ⟨hx, hb, hml, hown, hts⟩ hE hP hD hS hA hAs [0, 1] [] [0, 1] (c_X5_sign l D cy s0 tW N A_t A_t_s A_t_past A_t_begun A_t_text A_t_wins A_t_fits t_pasts t_thrown t_typed t_at_106 r_1 t_one_107 t_other t_text _ hF_111) (gV q_1010 q_1012 q_78 q_88 q_1013) hd_X5_sign ⟨Nat.le_of_ble_eq_true rfl, Nat.le_of_ble_eq_true rfl⟩ rfl rfl rfl rfl rfl rfl rfl rfl rfl hl.1 rfl (Nat.le_of_ble_eq_true rfl) dX5_reads_100 ⟨Nat.zero_le _, Nat.zero_le _⟩ (fun H locs hP hD hS => ?_)
                refine W.eq (g2 := F0 m 103 ls [.int r_110]) rfl ?_
                refine lv_bipush (v := 59) hx hb dX5_reads_103 (by decide) ?_
                refine lv_icmp_ne (tgt := 112) hx hb dX5_reads_105 (by decide) (fun c_112 => ?_) (fun c_112 => ?_)
                · replace hF := ite_f c_112 hF
                  refine lv_iconst (v := 0) hx hb dX5_reads_112 (by decide) ?_
                  refine lv_istore_n (lv' := [(1, .int 0), (0, .ref A_t)]) hx hb dX5_reads_113 rfl hl (by decide) rfl (fun ls hl => ?_)
                  refine lv_aload_n hx hb dX5_reads_114 rfl (lv_at hl 1 rfl) ?_
                  refine lv_dup hx hb dX5_reads_115 rfl ?_
                  refine va_get (D := D) (ci := 5) (v := .int t_at_106) (C := RX5) (T := TX5) (N := 13) hx hb hts inX5 hown hK hP 0 rfl rfl 7 (by decide) (hts _ q_738) (fun _ h9 => h9) rfl dX5_reads_116 ?_
                  refine lv_iload_n hx hb dX5_reads_119 rfl (lv_at hl 0 rfl) ?_
                  refine lv_if_eq (tgt := 127) hx hb dX5_reads_120 (by decide) (fun _ => ?_) (fun h0 => absurd (by decide) h0)
                  refine lv_iconst (v := 0) hx hb dX5_reads_127 (by decide) ?_
                  refine lv_iadd hx hb dX5_reads_128 ?_
                  refine ka_put (ci := 5) (v := .int (t_at_106 + 0)) (ty := .int) (C := RX5) (T := TX5) (N := 13) (wsN := (w_X5_reads cy A_t A_t_s A_t_past A_t_begun A_t_text A_t_wins A_t_fits t_pasts t_thrown t_typed (t_at_106 + 0) r_1 t_one_107 t_other t_text)) hx hb hts inX5 tyX5 tyX5_ok nmX5 hown hK hP hD hS 0 rfl rfl 7 (by decide) (hts _ q_738) (fun _ h9 => h9) rfl (by decide +kernel) rfl rfl (Nat.le_of_ble_eq_true rfl) rfl dX5_reads_129 (fun H locs hP hD hS => ?_)
                  refine lv_iload_n hx hb dX5_reads_132 rfl (lv_at hl 0 rfl) ?_
                  cases hF
                  exact kret_z hx hb hr hlocks hP hD hS dX5_reads_133
                · replace hF := ite_t c_112 hF
                  refine lv_iconst (v := 1) hx hb dX5_reads_108 (by decide) ?_
                  refine lv_goto (tgt := 113) hx hb dX5_reads_109 (by decide) ?_
                  refine lv_istore_n (lv' := [(1, .int 1), (0, .ref A_t)]) hx hb dX5_reads_113 rfl hl (by decide) rfl (fun ls hl => ?_)
                  refine lv_aload_n hx hb dX5_reads_114 rfl (lv_at hl 1 rfl) ?_
                  refine lv_dup hx hb dX5_reads_115 rfl ?_
                  refine va_get (D := D) (ci := 5) (v := .int t_at_106) (C := RX5) (T := TX5) (N := 13) hx hb hts inX5 hown hK hP 0 rfl rfl 7 (by decide) (hts _ q_738) (fun _ h9 => h9) rfl dX5_reads_116 ?_
                  refine lv_iload_n hx hb dX5_reads_119 rfl (lv_at hl 0 rfl) ?_
                  refine lv_if_eq (tgt := 127) hx hb dX5_reads_120 (by decide) (fun h0 => absurd h0 (by decide)) (fun _ => ?_)
                  refine lv_iconst (v := 1) hx hb dX5_reads_123 (by decide) ?_
                  refine lv_goto (tgt := 128) hx hb dX5_reads_124 (by decide) ?_
                  refine lv_iadd hx hb dX5_reads_128 ?_
                  refine ka_put (ci := 5) (v := .int (t_at_106 + 1)) (ty := .int) (C := RX5) (T := TX5) (N := 13) (wsN := (w_X5_reads cy A_t A_t_s A_t_past A_t_begun A_t_text A_t_wins A_t_fits t_pasts t_thrown t_typed (t_at_106 + 1) r_1 t_one_107 t_other t_text)) hx hb hts inX5 tyX5 tyX5_ok nmX5 hown hK hP hD hS 0 rfl rfl 7 (by decide) (hts _ q_738) (fun _ h9 => h9) rfl (by decide +kernel) rfl rfl (Nat.le_of_ble_eq_true rfl) rfl dX5_reads_129 (fun H locs hP hD hS => ?_)
                  refine lv_iload_n hx hb dX5_reads_132 rfl (lv_at hl 0 rfl) ?_
                  cases hF
                  exact kret_z hx hb hr hlocks hP hD hS dX5_reads_133
              · replace hF := ite_f (bI_f c_109) hF
                refine lv_iconst (v := 0) hx hb dX5_reads_97 (by decide) ?_
                cases hF
                exact kret_z hx hb hr hlocks hP hD hS dX5_reads_98
          · replace hF := ite_t c_100 hF
            refine lv_aload_n hx hb dX5_reads_74 rfl (lv_at hl 0 rfl) ?_
            obtain ⟨r_113, t_at_114, t_one_115, t_other_116, hF_117, hF⟩ := ob4_some hF
            refine kcV (q := (RX5, TX5, 13)) (ci := 5) (q0 := 0) (As := []) (rest := []) (wr := []) (wsN := (w_X5_reads cy A_t A_t_s A_t_past A_t_begun A_t_text A_t_wins A_t_fits t_pasts t_thrown t_typed t_at_114 r_1 t_one_115 t_other_116 t_text)) ⟨hx, hb, hml, hown, hts⟩ hE hP hD hS hA hAs [0, 1] [] [0, 1] (c_X5_literals l D cy s0 tW N A_t A_t_s A_t_past A_t_begun A_t_text A_t_wins A_t_fits t_pasts t_thrown t_typed (t_at + 1) r_1 t_one t_other t_text _ hF_117) (gV q_1014 q_1016 q_79 q_88 q_1017) hd_X5_literals ⟨Nat.le_of_ble_eq_true rfl, Nat.le_of_ble_eq_true rfl⟩ rfl rfl rfl rfl rfl rfl rfl rfl rfl hl.1 rfl (Nat.le_of_ble_eq_true rfl) dX5_reads_75 ⟨Nat.zero_le _, Nat.zero_le _⟩ (fun H locs hP hD hS => ?_)
            refine W.eq (g2 := F0 m 78 ls [.int (bI r_113)]) rfl ?_
            refine lv_if_eq (tgt := 97) hx hb dX5_reads_78 (by decide) (fun c_118 => ?_) (fun c_118 => ?_)
            · replace hF := ite_f (bI_f c_118) hF
              refine lv_iconst (v := 0) hx hb dX5_reads_97 (by decide) ?_
              cases hF
              exact kret_z hx hb hr hlocks hP hD hS dX5_reads_98
            · replace hF := ite_t (bI_t c_118) hF
              refine lv_aload_n hx hb dX5_reads_81 rfl (lv_at hl 0 rfl) ?_
              refine va_get (D := D) (ci := 5) (v := .int r_1) (C := RX5) (T := TX5) (N := 13) hx hb hts inX5 hown hK hP 0 rfl rfl 8 (by decide) (hts _ q_739) (fun _ h9 => h9) rfl dX5_reads_82 ?_
              refine lv_bipush (v := 108) hx hb dX5_reads_85 (by decide) ?_
              refine lv_icmp_ne (tgt := 99) hx hb dX5_reads_87 (by decide) (fun c_119 => ?_) (fun c_119 => ?_)
              · replace hF := ite_f c_119 hF
                refine lv_aload_n hx hb dX5_reads_99 rfl (lv_at hl 0 rfl) ?_
                obtain ⟨r_120, hF_121, hF⟩ := ob1_some hF
                refine kcV (q := (RX5, TX5, 13)) (ci := 5) (q0 := 0) (As := []) (rest := []) (wr := []) (wsN := (w_X5_reads cy A_t A_t_s A_t_past A_t_begun A_t_text A_t_wins A_t_fits t_pasts t_thrown t_typed t_at_114 r_1 t_one_115 t_other_116 t_text)) ⟨hx, hb, hml, hown, hts⟩ hE hP hD hS hA hAs [0, 1] [] [0, 1] (c_X5_sign l D cy s0 tW N A_t A_t_s A_t_past A_t_begun A_t_text A_t_wins A_t_fits t_pasts t_thrown t_typed t_at_114 r_1 t_one_115 t_other_116 t_text _ hF_121) (gV q_1010 q_1012 q_78 q_88 q_1013) hd_X5_sign ⟨Nat.le_of_ble_eq_true rfl, Nat.le_of_ble_eq_true rfl⟩ rfl rfl rfl rfl rfl rfl rfl rfl rfl hl.1 rfl (Nat.le_of_ble_eq_true rfl) dX5_reads_100 ⟨Nat.zero_le _, Nat.zero_le _⟩ (fun H locs hP hD hS => ?_)
                refine W.eq (g2 := F0 m 103 ls [.int r_120]) rfl ?_
                refine lv_bipush (v := 59) hx hb dX5_reads_103 (by decide) ?_
                refine lv_icmp_ne (tgt := 112) hx hb dX5_reads_105 (by decide) (fun c_122 => ?_) (fun c_122 => ?_)
                · replace hF := ite_f c_122 hF
                  refine lv_iconst (v := 0) hx hb dX5_reads_112 (by decide) ?_
                  refine lv_istore_n (lv' := [(1, .int 0), (0, .ref A_t)]) hx hb dX5_reads_113 rfl hl (by decide) rfl (fun ls hl => ?_)
                  refine lv_aload_n hx hb dX5_reads_114 rfl (lv_at hl 1 rfl) ?_
                  refine lv_dup hx hb dX5_reads_115 rfl ?_
                  refine va_get (D := D) (ci := 5) (v := .int t_at_114) (C := RX5) (T := TX5) (N := 13) hx hb hts inX5 hown hK hP 0 rfl rfl 7 (by decide) (hts _ q_738) (fun _ h9 => h9) rfl dX5_reads_116 ?_
                  refine lv_iload_n hx hb dX5_reads_119 rfl (lv_at hl 0 rfl) ?_
                  refine lv_if_eq (tgt := 127) hx hb dX5_reads_120 (by decide) (fun _ => ?_) (fun h0 => absurd (by decide) h0)
                  refine lv_iconst (v := 0) hx hb dX5_reads_127 (by decide) ?_
                  refine lv_iadd hx hb dX5_reads_128 ?_
                  refine ka_put (ci := 5) (v := .int (t_at_114 + 0)) (ty := .int) (C := RX5) (T := TX5) (N := 13) (wsN := (w_X5_reads cy A_t A_t_s A_t_past A_t_begun A_t_text A_t_wins A_t_fits t_pasts t_thrown t_typed (t_at_114 + 0) r_1 t_one_115 t_other_116 t_text)) hx hb hts inX5 tyX5 tyX5_ok nmX5 hown hK hP hD hS 0 rfl rfl 7 (by decide) (hts _ q_738) (fun _ h9 => h9) rfl (by decide +kernel) rfl rfl (Nat.le_of_ble_eq_true rfl) rfl dX5_reads_129 (fun H locs hP hD hS => ?_)
                  refine lv_iload_n hx hb dX5_reads_132 rfl (lv_at hl 0 rfl) ?_
                  cases hF
                  exact kret_z hx hb hr hlocks hP hD hS dX5_reads_133
                · replace hF := ite_t c_122 hF
                  refine lv_iconst (v := 1) hx hb dX5_reads_108 (by decide) ?_
                  refine lv_goto (tgt := 113) hx hb dX5_reads_109 (by decide) ?_
                  refine lv_istore_n (lv' := [(1, .int 1), (0, .ref A_t)]) hx hb dX5_reads_113 rfl hl (by decide) rfl (fun ls hl => ?_)
                  refine lv_aload_n hx hb dX5_reads_114 rfl (lv_at hl 1 rfl) ?_
                  refine lv_dup hx hb dX5_reads_115 rfl ?_
                  refine va_get (D := D) (ci := 5) (v := .int t_at_114) (C := RX5) (T := TX5) (N := 13) hx hb hts inX5 hown hK hP 0 rfl rfl 7 (by decide) (hts _ q_738) (fun _ h9 => h9) rfl dX5_reads_116 ?_
                  refine lv_iload_n hx hb dX5_reads_119 rfl (lv_at hl 0 rfl) ?_
                  refine lv_if_eq (tgt := 127) hx hb dX5_reads_120 (by decide) (fun h0 => absurd h0 (by decide)) (fun _ => ?_)
                  refine lv_iconst (v := 1) hx hb dX5_reads_123 (by decide) ?_
                  refine lv_goto (tgt := 128) hx hb dX5_reads_124 (by decide) ?_
                  refine lv_iadd hx hb dX5_reads_128 ?_
                  refine ka_put (ci := 5) (v := .int (t_at_114 + 1)) (ty := .int) (C := RX5) (T := TX5) (N := 13) (wsN := (w_X5_reads cy A_t A_t_s A_t_past A_t_begun A_t_text A_t_wins A_t_fits t_pasts t_thrown t_typed (t_at_114 + 1) r_1 t_one_115 t_other_116 t_text)) hx hb hts inX5 tyX5 tyX5_ok nmX5 hown hK hP hD hS 0 rfl rfl 7 (by decide) (hts _ q_738) (fun _ h9 => h9) rfl (by decide +kernel) rfl rfl (Nat.le_of_ble_eq_true rfl) rfl dX5_reads_129 (fun H locs hP hD hS => ?_)
                  refine lv_iload_n hx hb dX5_reads_132 rfl (lv_at hl 0 rfl) ?_
                  cases hF
                  exact kret_z hx hb hr hlocks hP hD hS dX5_reads_133
              · replace hF := ite_t c_119 hF
                refine lv_aload_n hx hb dX5_reads_90 rfl (lv_at hl 0 rfl) ?_
                obtain ⟨r_123, t_at_124, t_one_125, hF_126, hF⟩ := ob3_some hF
                refine kcV (q := (RX5, TX5, 13)) (ci := 5) (q0 := 0) (As := []) (rest := []) (wr := []) (wsN := (w_X5_reads cy A_t A_t_s A_t_past A_t_begun A_t_text A_t_wins A_t_fits t_pasts t_thrown t_typed t_at_124 r_1 t_one_125 t_other_116 t_text)) ⟨hx, hb, hml, hown, hts⟩ hE hP hD hS hA hAs [0, 1] [] [0, 1] (c_X5_number_ l D cy s0 tW N A_t A_t_s A_t_past A_t_begun A_t_text A_t_wins A_t_fits t_pasts t_thrown t_typed t_at_114 r_1 t_one_115 t_other_116 t_text _ hF_126) (gV q_1018 q_1020 q_80 q_88 q_1021) hd_X5_number_ ⟨Nat.le_of_ble_eq_true rfl, Nat.le_of_ble_eq_true rfl⟩ rfl rfl rfl rfl rfl rfl rfl rfl rfl hl.1 rfl (Nat.le_of_ble_eq_true rfl) dX5_reads_91 ⟨Nat.zero_le _, Nat.zero_le _⟩ (fun H locs hP hD hS => ?_)
                refine W.eq (g2 := F0 m 94 ls [.int (bI r_123)]) rfl ?_
                refine lv_if_ne (tgt := 99) hx hb dX5_reads_94 (by decide) (fun c_127 => ?_) (fun c_127 => ?_)
                · replace hF := ite_t (bI_t c_127) hF
                  refine lv_aload_n hx hb dX5_reads_99 rfl (lv_at hl 0 rfl) ?_
                  obtain ⟨r_128, hF_129, hF⟩ := ob1_some hF
                  refine kcV (q := (RX5, TX5, 13)) (ci := 5) (q0 := 0) (As := []) (rest := []) (wr := []) (wsN := (w_X5_reads cy A_t A_t_s A_t_past A_t_begun A_t_text A_t_wins A_t_fits t_pasts t_thrown t_typed t_at_124 r_1 t_one_125 t_other_116 t_text)) ⟨hx, hb, hml, hown, hts⟩ hE hP hD hS hA hAs [0, 1] [] [0, 1] (c_X5_sign l D cy s0 tW N A_t A_t_s A_t_past A_t_begun A_t_text A_t_wins A_t_fits t_pasts t_thrown t_typed t_at_124 r_1 t_one_125 t_other_116 t_text _ hF_129) (gV q_1010 q_1012 q_78 q_88 q_1013) hd_X5_sign ⟨Nat.le_of_ble_eq_true rfl, Nat.le_of_ble_eq_true rfl⟩ rfl rfl rfl rfl rfl rfl rfl rfl rfl hl.1 rfl (Nat.le_of_ble_eq_true rfl) dX5_reads_100 ⟨Nat.zero_le _, Nat.zero_le _⟩ (fun H locs hP hD hS => ?_)
                  refine W.eq (g2 := F0 m 103 ls [.int r_128]) rfl ?_
                  refine lv_bipush (v := 59) hx hb dX5_reads_103 (by decide) ?_
                  refine lv_icmp_ne (tgt := 112) hx hb dX5_reads_105 (by decide) (fun c_130 => ?_) (fun c_130 => ?_)
                  · replace hF := ite_f c_130 hF
                    refine lv_iconst (v := 0) hx hb dX5_reads_112 (by decide) ?_
                    refine lv_istore_n (lv' := [(1, .int 0), (0, .ref A_t)]) hx hb dX5_reads_113 rfl hl (by decide) rfl (fun ls hl => ?_)
                    refine lv_aload_n hx hb dX5_reads_114 rfl (lv_at hl 1 rfl) ?_
                    refine lv_dup hx hb dX5_reads_115 rfl ?_
                    refine va_get (D := D) (ci := 5) (v := .int t_at_124) (C := RX5) (T := TX5) (N := 13) hx hb hts inX5 hown hK hP 0 rfl rfl 7 (by decide) (hts _ q_738) (fun _ h9 => h9) rfl dX5_reads_116 ?_
                    refine lv_iload_n hx hb dX5_reads_119 rfl (lv_at hl 0 rfl) ?_
                    refine lv_if_eq (tgt := 127) hx hb dX5_reads_120 (by decide) (fun _ => ?_) (fun h0 => absurd (by decide) h0)
                    refine lv_iconst (v := 0) hx hb dX5_reads_127 (by decide) ?_
                    refine lv_iadd hx hb dX5_reads_128 ?_
                    refine ka_put (ci := 5) (v := .int (t_at_124 + 0)) (ty := .int) (C := RX5) (T := TX5) (N := 13) (wsN := (w_X5_reads cy A_t A_t_s A_t_past A_t_begun A_t_text A_t_wins A_t_fits t_pasts t_thrown t_typed (t_at_124 + 0) r_1 t_one_125 t_other_116 t_text)) hx hb hts inX5 tyX5 tyX5_ok nmX5 hown hK hP hD hS 0 rfl rfl 7 (by decide) (hts _ q_738) (fun _ h9 => h9) rfl (by decide +kernel) rfl rfl (Nat.le_of_ble_eq_true rfl) rfl dX5_reads_129 (fun H locs hP hD hS => ?_)
                    refine lv_iload_n hx hb dX5_reads_132 rfl (lv_at hl 0 rfl) ?_
                    cases hF
                    exact kret_z hx hb hr hlocks hP hD hS dX5_reads_133
                  · replace hF := ite_t c_130 hF
                    refine lv_iconst (v := 1) hx hb dX5_reads_108 (by decide) ?_
                    refine lv_goto (tgt := 113) hx hb dX5_reads_109 (by decide) ?_
                    refine lv_istore_n (lv' := [(1, .int 1), (0, .ref A_t)]) hx hb dX5_reads_113 rfl hl (by decide) rfl (fun ls hl => ?_)
                    refine lv_aload_n hx hb dX5_reads_114 rfl (lv_at hl 1 rfl) ?_
                    refine lv_dup hx hb dX5_reads_115 rfl ?_
                    refine va_get (D := D) (ci := 5) (v := .int t_at_124) (C := RX5) (T := TX5) (N := 13) hx hb hts inX5 hown hK hP 0 rfl rfl 7 (by decide) (hts _ q_738) (fun _ h9 => h9) rfl dX5_reads_116 ?_
                    refine lv_iload_n hx hb dX5_reads_119 rfl (lv_at hl 0 rfl) ?_
                    refine lv_if_eq (tgt := 127) hx hb dX5_reads_120 (by decide) (fun h0 => absurd h0 (by decide)) (fun _ => ?_)
                    refine lv_iconst (v := 1) hx hb dX5_reads_123 (by decide) ?_
                    refine lv_goto (tgt := 128) hx hb dX5_reads_124 (by decide) ?_
                    refine lv_iadd hx hb dX5_reads_128 ?_
                    refine ka_put (ci := 5) (v := .int (t_at_124 + 1)) (ty := .int) (C := RX5) (T := TX5) (N := 13) (wsN := (w_X5_reads cy A_t A_t_s A_t_past A_t_begun A_t_text A_t_wins A_t_fits t_pasts t_thrown t_typed (t_at_124 + 1) r_1 t_one_125 t_other_116 t_text)) hx hb hts inX5 tyX5 tyX5_ok nmX5 hown hK hP hD hS 0 rfl rfl 7 (by decide) (hts _ q_738) (fun _ h9 => h9) rfl (by decide +kernel) rfl rfl (Nat.le_of_ble_eq_true rfl) rfl dX5_reads_129 (fun H locs hP hD hS => ?_)
                    refine lv_iload_n hx hb dX5_reads_132 rfl (lv_at hl 0 rfl) ?_
                    cases hF
                    exact kret_z hx hb hr hlocks hP hD hS dX5_reads_133
                · replace hF := ite_f (bI_f c_127) hF
                  refine lv_iconst (v := 0) hx hb dX5_reads_97 (by decide) ?_
                  cases hF
                  exact kret_z hx hb hr hlocks hP hD hS dX5_reads_98
        · replace hF := ite_f c_99 hF
          refine lv_aload_n hx hb dX5_reads_44 rfl (lv_at hl 0 rfl) ?_
          refine va_get (D := D) (ci := 5) (v := .int r_1) (C := RX5) (T := TX5) (N := 13) hx hb hts inX5 hown hK hP 0 rfl rfl 8 (by decide) (hts _ q_739) (fun _ h9 => h9) rfl dX5_reads_45 ?_
          refine lv_bipush (v := 114) hx hb dX5_reads_48 (by decide) ?_
          refine lv_icmp_eq (tgt := 55) hx hb dX5_reads_50 (by decide) (fun c_131 => ?_) (fun c_131 => ?_)
          · replace hF := ite_t c_131 hF
            refine lv_aload_n hx hb dX5_reads_55 rfl (lv_at hl 0 rfl) ?_
            refine lv_dup hx hb dX5_reads_56 rfl ?_
            refine va_get (D := D) (ci := 5) (v := .int t_at) (C := RX5) (T := TX5) (N := 13) hx hb hts inX5 hown hK hP 0 rfl rfl 7 (by decide) (hts _ q_738) (fun _ h9 => h9) rfl dX5_reads_57 ?_
            refine lv_iconst (v := 1) hx hb dX5_reads_60 (by decide) ?_
            refine lv_iadd hx hb dX5_reads_61 ?_
            refine ka_put (ci := 5) (v := .int (t_at + 1)) (ty := .int) (C := RX5) (T := TX5) (N := 13) (wsN := (w_X5_reads cy A_t A_t_s A_t_past A_t_begun A_t_text A_t_wins A_t_fits t_pasts t_thrown t_typed (t_at + 1) r_1 t_one t_other t_text)) hx hb hts inX5 tyX5 tyX5_ok nmX5 hown hK hP hD hS 0 rfl rfl 7 (by decide) (hts _ q_738) (fun _ h9 => h9) rfl (by decide +kernel) rfl rfl (Nat.le_of_ble_eq_true rfl) rfl dX5_reads_62 (fun H locs hP hD hS => ?_)
            refine lv_aload_n hx hb dX5_reads_65 rfl (lv_at hl 0 rfl) ?_
            refine va_get (D := D) (ci := 5) (v := .int r_1) (C := RX5) (T := TX5) (N := 13) hx hb hts inX5 hown hK hP 0 rfl rfl 8 (by decide) (hts _ q_739) (fun _ h9 => h9) rfl dX5_reads_66 ?_
            refine lv_bipush (v := 99) hx hb dX5_reads_69 (by decide) ?_
            refine lv_icmp_ne (tgt := 81) hx hb dX5_reads_71 (by decide) (fun c_132 => ?_) (fun c_132 => ?_)
            · replace hF := ite_f c_132 hF
              refine lv_aload_n hx hb dX5_reads_81 rfl (lv_at hl 0 rfl) ?_
              refine va_get (D := D) (ci := 5) (v := .int r_1) (C := RX5) (T := TX5) (N := 13) hx hb hts inX5 hown hK hP 0 rfl rfl 8 (by decide) (hts _ q_739) (fun _ h9 => h9) rfl dX5_reads_82 ?_
              refine lv_bipush (v := 108) hx hb dX5_reads_85 (by decide) ?_
              refine lv_icmp_ne (tgt := 99) hx hb dX5_reads_87 (by decide) (fun c_133 => ?_) (fun c_133 => ?_)
              · replace hF := ite_f c_133 hF
                refine lv_aload_n hx hb dX5_reads_99 rfl (lv_at hl 0 rfl) ?_
                obtain ⟨r_134, hF_135, hF⟩ := ob1_some hF
                refine kcV (q := (RX5, TX5, 13)) (ci := 5) (q0 := 0) (As := []) (rest := []) (wr := []) (wsN := (w_X5_reads cy A_t A_t_s A_t_past A_t_begun A_t_text A_t_wins A_t_fits t_pasts t_thrown t_typed (t_at + 1) r_1 t_one t_other t_text)) ⟨hx, hb, hml, hown, hts⟩ hE hP hD hS hA hAs [0, 1] [] [0, 1] (c_X5_sign l D cy s0 tW N A_t A_t_s A_t_past A_t_begun A_t_text A_t_wins A_t_fits t_pasts t_thrown t_typed (t_at + 1) r_1 t_one t_other t_text _ hF_135) (gV q_1010 q_1012 q_78 q_88 q_1013) hd_X5_sign ⟨Nat.le_of_ble_eq_true rfl, Nat.le_of_ble_eq_true rfl⟩ rfl rfl rfl rfl rfl rfl rfl rfl rfl hl.1 rfl (Nat.le_of_ble_eq_true rfl) dX5_reads_100 ⟨Nat.zero_le _, Nat.zero_le _⟩ (fun H locs hP hD hS => ?_)
                refine W.eq (g2 := F0 m 103 ls [.int r_134]) rfl ?_
                refine lv_bipush (v := 59) hx hb dX5_reads_103 (by decide) ?_
                refine lv_icmp_ne (tgt := 112) hx hb dX5_reads_105 (by decide) (fun c_136 => ?_) (fun c_136 => ?_)
                · replace hF := ite_f c_136 hF
                  refine lv_iconst (v := 0) hx hb dX5_reads_112 (by decide) ?_
                  refine lv_istore_n (lv' := [(1, .int 0), (0, .ref A_t)]) hx hb dX5_reads_113 rfl hl (by decide) rfl (fun ls hl => ?_)
                  refine lv_aload_n hx hb dX5_reads_114 rfl (lv_at hl 1 rfl) ?_
                  refine lv_dup hx hb dX5_reads_115 rfl ?_
                  refine va_get (D := D) (ci := 5) (v := .int (t_at + 1)) (C := RX5) (T := TX5) (N := 13) hx hb hts inX5 hown hK hP 0 rfl rfl 7 (by decide) (hts _ q_738) (fun _ h9 => h9) rfl dX5_reads_116 ?_
                  refine lv_iload_n hx hb dX5_reads_119 rfl (lv_at hl 0 rfl) ?_
                  refine lv_if_eq (tgt := 127) hx hb dX5_reads_120 (by decide) (fun _ => ?_) (fun h0 => absurd (by decide) h0)
                  refine lv_iconst (v := 0) hx hb dX5_reads_127 (by decide) ?_
                  refine lv_iadd hx hb dX5_reads_128 ?_
                  refine ka_put (ci := 5) (v := .int ((t_at + 1) + 0)) (ty := .int) (C := RX5) (T := TX5) (N := 13) (wsN := (w_X5_reads cy A_t A_t_s A_t_past A_t_begun A_t_text A_t_wins A_t_fits t_pasts t_thrown t_typed ((t_at + 1) + 0) r_1 t_one t_other t_text)) hx hb hts inX5 tyX5 tyX5_ok nmX5 hown hK hP hD hS 0 rfl rfl 7 (by decide) (hts _ q_738) (fun _ h9 => h9) rfl (by decide +kernel) rfl rfl (Nat.le_of_ble_eq_true rfl) rfl dX5_reads_129 (fun H locs hP hD hS => ?_)
                  refine lv_iload_n hx hb dX5_reads_132 rfl (lv_at hl 0 rfl) ?_
                  cases hF
                  exact kret_z hx hb hr hlocks hP hD hS dX5_reads_133
                · replace hF := ite_t c_136 hF
                  refine lv_iconst (v := 1) hx hb dX5_reads_108 (by decide) ?_
                  refine lv_goto (tgt := 113) hx hb dX5_reads_109 (by decide) ?_
                  refine lv_istore_n (lv' := [(1, .int 1), (0, .ref A_t)]) hx hb dX5_reads_113 rfl hl (by decide) rfl (fun ls hl => ?_)
                  refine lv_aload_n hx hb dX5_reads_114 rfl (lv_at hl 1 rfl) ?_
                  refine lv_dup hx hb dX5_reads_115 rfl ?_
                  refine va_get (D := D) (ci := 5) (v := .int (t_at + 1)) (C := RX5) (T := TX5) (N := 13) hx hb hts inX5 hown hK hP 0 rfl rfl 7 (by decide) (hts _ q_738) (fun _ h9 => h9) rfl dX5_reads_116 ?_
                  refine lv_iload_n hx hb dX5_reads_119 rfl (lv_at hl 0 rfl) ?_
                  refine lv_if_eq (tgt := 127) hx hb dX5_reads_120 (by decide) (fun h0 => absurd h0 (by decide)) (fun _ => ?_)
                  refine lv_iconst (v := 1) hx hb dX5_reads_123 (by decide) ?_
                  refine lv_goto (tgt := 128) hx hb dX5_reads_124 (by decide) ?_
                  refine lv_iadd hx hb dX5_reads_128 ?_
                  refine ka_put (ci := 5) (v := .int ((t_at + 1) + 1)) (ty := .int) (C := RX5) (T := TX5) (N := 13) (wsN := (w_X5_reads cy A_t A_t_s A_t_past A_t_begun A_t_text A_t_wins A_t_fits t_pasts t_thrown t_typed ((t_at + 1) + 1) r_1 t_one t_other t_text)) hx hb hts inX5 tyX5 tyX5_ok nmX5 hown hK hP hD hS 0 rfl rfl 7 (by decide) (hts _ q_738) (fun _ h9 => h9) rfl (by decide +kernel) rfl rfl (Nat.le_of_ble_eq_true rfl) rfl dX5_reads_129 (fun H locs hP hD hS => ?_)
                  refine lv_iload_n hx hb dX5_reads_132 rfl (lv_at hl 0 rfl) ?_
                  cases hF
                  exact kret_z hx hb hr hlocks hP hD hS dX5_reads_133
              · replace hF := ite_t c_133 hF
                refine lv_aload_n hx hb dX5_reads_90 rfl (lv_at hl 0 rfl) ?_
                obtain ⟨r_137, t_at_138, t_one_139, hF_140, hF⟩ := ob3_some hF
                refine kcV (q := (RX5, TX5, 13)) (ci := 5) (q0 := 0) (As := []) (rest := []) (wr := []) (wsN := (w_X5_reads cy A_t A_t_s A_t_past A_t_begun A_t_text A_t_wins A_t_fits t_pasts t_thrown t_typed t_at_138 r_1 t_one_139 t_other t_text)) ⟨hx, hb, hml, hown, hts⟩ hE hP hD hS hA hAs [0, 1] [] [0, 1] (c_X5_number_ l D cy s0 tW N A_t A_t_s A_t_past A_t_begun A_t_text A_t_wins A_t_fits t_pasts t_thrown t_typed (t_at + 1) r_1 t_one t_other t_text _ hF_140) (gV q_1018 q_1020 q_80 q_88 q_1021) hd_X5_number_ ⟨Nat.le_of_ble_eq_true rfl, Nat.le_of_ble_eq_true rfl⟩ rfl rfl rfl rfl rfl rfl rfl rfl rfl hl.1 rfl (Nat.le_of_ble_eq_true rfl) dX5_reads_91 ⟨Nat.zero_le _, Nat.zero_le _⟩ (fun H locs hP hD hS => ?_)
                refine W.eq (g2 := F0 m 94 ls [.int (bI r_137)]) rfl ?_
                refine lv_if_ne (tgt := 99) hx hb dX5_reads_94 (by decide) (fun c_141 => ?_) (fun c_141 => ?_)
                · replace hF := ite_t (bI_t c_141) hF
                  refine lv_aload_n hx hb dX5_reads_99 rfl (lv_at hl 0 rfl) ?_
                  obtain ⟨r_142, hF_143, hF⟩ := ob1_some hF
                  refine kcV (q := (RX5, TX5, 13)) (ci := 5) (q0 := 0) (As := []) (rest := []) (wr := []) (wsN := (w_X5_reads cy A_t A_t_s A_t_past A_t_begun A_t_text A_t_wins A_t_fits t_pasts t_thrown t_typed t_at_138 r_1 t_one_139 t_other t_text)) ⟨hx, hb, hml, hown, hts⟩ hE hP hD hS hA hAs [0, 1] [] [0, 1] (c_X5_sign l D cy s0 tW N A_t A_t_s A_t_past A_t_begun A_t_text A_t_wins A_t_fits t_pasts t_thrown t_typed t_at_138 r_1 t_one_139 t_other t_text _ hF_143) (gV q_1010 q_1012 q_78 q_88 q_1013) hd_X5_sign ⟨Nat.le_of_ble_eq_true rfl, Nat.le_of_ble_eq_true rfl⟩ rfl rfl rfl rfl rfl rfl rfl rfl rfl hl.1 rfl (Nat.le_of_ble_eq_true rfl) dX5_reads_100 ⟨Nat.zero_le _, Nat.zero_le _⟩ (fun H locs hP hD hS => ?_)
                  refine W.eq (g2 := F0 m 103 ls [.int r_142]) rfl ?_
                  refine lv_bipush (v := 59) hx hb dX5_reads_103 (by decide) ?_
                  refine lv_icmp_ne (tgt := 112) hx hb dX5_reads_105 (by decide) (fun c_144 => ?_) (fun c_144 => ?_)
                  · replace hF := ite_f c_144 hF
                    refine lv_iconst (v := 0) hx hb dX5_reads_112 (by decide) ?_
                    refine lv_istore_n (lv' := [(1, .int 0), (0, .ref A_t)]) hx hb dX5_reads_113 rfl hl (by decide) rfl (fun ls hl => ?_)
                    refine lv_aload_n hx hb dX5_reads_114 rfl (lv_at hl 1 rfl) ?_
                    refine lv_dup hx hb dX5_reads_115 rfl ?_
                    refine va_get (D := D) (ci := 5) (v := .int t_at_138) (C := RX5) (T := TX5) (N := 13) hx hb hts inX5 hown hK hP 0 rfl rfl 7 (by decide) (hts _ q_738) (fun _ h9 => h9) rfl dX5_reads_116 ?_
                    refine lv_iload_n hx hb dX5_reads_119 rfl (lv_at hl 0 rfl) ?_
                    refine lv_if_eq (tgt := 127) hx hb dX5_reads_120 (by decide) (fun _ => ?_) (fun h0 => absurd (by decide) h0)
                    refine lv_iconst (v := 0) hx hb dX5_reads_127 (by decide) ?_
                    refine lv_iadd hx hb dX5_reads_128 ?_
                    refine ka_put (ci := 5) (v := .int (t_at_138 + 0)) (ty := .int) (C := RX5) (T := TX5) (N := 13) (wsN := (w_X5_reads cy A_t A_t_s A_t_past A_t_begun A_t_text A_t_wins A_t_fits t_pasts t_thrown t_typed (t_at_138 + 0) r_1 t_one_139 t_other t_text)) hx hb hts inX5 tyX5 tyX5_ok nmX5 hown hK hP hD hS 0 rfl rfl 7 (by decide) (hts _ q_738) (fun _ h9 => h9) rfl (by decide +kernel) rfl rfl (Nat.le_of_ble_eq_true rfl) rfl dX5_reads_129 (fun H locs hP hD hS => ?_)
                    refine lv_iload_n hx hb dX5_reads_132 rfl (lv_at hl 0 rfl) ?_
                    cases hF
                    exact kret_z hx hb hr hlocks hP hD hS dX5_reads_133
                  · replace hF := ite_t c_144 hF
                    refine lv_iconst (v := 1) hx hb dX5_reads_108 (by decide) ?_
                    refine lv_goto (tgt := 113) hx hb dX5_reads_109 (by decide) ?_
                    refine lv_istore_n (lv' := [(1, .int 1), (0, .ref A_t)]) hx hb dX5_reads_113 rfl hl (by decide) rfl (fun ls hl => ?_)
                    refine lv_aload_n hx hb dX5_reads_114 rfl (lv_at hl 1 rfl) ?_
                    refine lv_dup hx hb dX5_reads_115 rfl ?_
                    refine va_get (D := D) (ci := 5) (v := .int t_at_138) (C := RX5) (T := TX5) (N := 13) hx hb hts inX5 hown hK hP 0 rfl rfl 7 (by decide) (hts _ q_738) (fun _ h9 => h9) rfl dX5_reads_116 ?_
                    refine lv_iload_n hx hb dX5_reads_119 rfl (lv_at hl 0 rfl) ?_
                    refine lv_if_eq (tgt := 127) hx hb dX5_reads_120 (by decide) (fun h0 => absurd h0 (by decide)) (fun _ => ?_)
                    refine lv_iconst (v := 1) hx hb dX5_reads_123 (by decide) ?_
                    refine lv_goto (tgt := 128) hx hb dX5_reads_124 (by decide) ?_
                    refine lv_iadd hx hb dX5_reads_128 ?_
                    refine ka_put (ci := 5) (v := .int (t_at_138 + 1)) (ty := .int) (C := RX5) (T := TX5) (N := 13) (wsN := (w_X5_reads cy A_t A_t_s A_t_past A_t_begun A_t_text A_t_wins A_t_fits t_pasts t_thrown t_typed (t_at_138 + 1) r_1 t_one_139 t_other t_text)) hx hb hts inX5 tyX5 tyX5_ok nmX5 hown hK hP hD hS 0 rfl rfl 7 (by decide) (hts _ q_738) (fun _ h9 => h9) rfl (by decide +kernel) rfl rfl (Nat.le_of_ble_eq_true rfl) rfl dX5_reads_129 (fun H locs hP hD hS => ?_)
                    refine lv_iload_n hx hb dX5_reads_132 rfl (lv_at hl 0 rfl) ?_
                    cases hF
                    exact kret_z hx hb hr hlocks hP hD hS dX5_reads_133
                · replace hF := ite_f (bI_f c_141) hF
                  refine lv_iconst (v := 0) hx hb dX5_reads_97 (by decide) ?_
                  cases hF
                  exact kret_z hx hb hr hlocks hP hD hS dX5_reads_98
            · replace hF := ite_t c_132 hF
              refine lv_aload_n hx hb dX5_reads_74 rfl (lv_at hl 0 rfl) ?_
              obtain ⟨r_145, t_at_146, t_one_147, t_other_148, hF_149, hF⟩ := ob4_some hF
              refine kcV (q := (RX5, TX5, 13)) (ci := 5) (q0 := 0) (As := []) (rest := []) (wr := []) (wsN := (w_X5_reads cy A_t A_t_s A_t_past A_t_begun A_t_text A_t_wins A_t_fits t_pasts t_thrown t_typed t_at_146 r_1 t_one_147 t_other_148 t_text)) ⟨hx, hb, hml, hown, hts⟩ hE hP hD hS hA hAs [0, 1] [] [0, 1] (c_X5_literals l D cy s0 tW N A_t A_t_s A_t_past A_t_begun A_t_text A_t_wins A_t_fits t_pasts t_thrown t_typed (t_at + 1) r_1 t_one t_other t_text _ hF_149) (gV q_1014 q_1016 q_79 q_88 q_1017) hd_X5_literals ⟨Nat.le_of_ble_eq_true rfl, Nat.le_of_ble_eq_true rfl⟩ rfl rfl rfl rfl rfl rfl rfl rfl rfl hl.1 rfl (Nat.le_of_ble_eq_true rfl) dX5_reads_75 ⟨Nat.zero_le _, Nat.zero_le _⟩ (fun H locs hP hD hS => ?_)
              refine W.eq (g2 := F0 m 78 ls [.int (bI r_145)]) rfl ?_
              refine lv_if_eq (tgt := 97) hx hb dX5_reads_78 (by decide) (fun c_150 => ?_) (fun c_150 => ?_)
              · replace hF := ite_f (bI_f c_150) hF
                refine lv_iconst (v := 0) hx hb dX5_reads_97 (by decide) ?_
                cases hF
                exact kret_z hx hb hr hlocks hP hD hS dX5_reads_98
              · replace hF := ite_t (bI_t c_150) hF
                refine lv_aload_n hx hb dX5_reads_81 rfl (lv_at hl 0 rfl) ?_
                refine va_get (D := D) (ci := 5) (v := .int r_1) (C := RX5) (T := TX5) (N := 13) hx hb hts inX5 hown hK hP 0 rfl rfl 8 (by decide) (hts _ q_739) (fun _ h9 => h9) rfl dX5_reads_82 ?_
                refine lv_bipush (v := 108) hx hb dX5_reads_85 (by decide) ?_
                refine lv_icmp_ne (tgt := 99) hx hb dX5_reads_87 (by decide) (fun c_151 => ?_) (fun c_151 => ?_)
                · replace hF := ite_f c_151 hF
                  refine lv_aload_n hx hb dX5_reads_99 rfl (lv_at hl 0 rfl) ?_
                  obtain ⟨r_152, hF_153, hF⟩ := ob1_some hF
                  refine kcV (q := (RX5, TX5, 13)) (ci := 5) (q0 := 0) (As := []) (rest := []) (wr := []) (wsN := (w_X5_reads cy A_t A_t_s A_t_past A_t_begun A_t_text A_t_wins A_t_fits t_pasts t_thrown t_typed t_at_146 r_1 t_one_147 t_other_148 t_text)) ⟨hx, hb, hml, hown, hts⟩ hE hP hD hS hA hAs [0, 1] [] [0, 1] (c_X5_sign l D cy s0 tW N A_t A_t_s A_t_past A_t_begun A_t_text A_t_wins A_t_fits t_pasts t_thrown t_typed t_at_146 r_1 t_one_147 t_other_148 t_text _ hF_153) (gV q_1010 q_1012 q_78 q_88 q_1013) hd_X5_sign ⟨Nat.le_of_ble_eq_true rfl, Nat.le_of_ble_eq_true rfl⟩ rfl rfl rfl rfl rfl rfl rfl rfl rfl hl.1 rfl (Nat.le_of_ble_eq_true rfl) dX5_reads_100 ⟨Nat.zero_le _, Nat.zero_le _⟩ (fun H locs hP hD hS => ?_)
                  refine W.eq (g2 := F0 m 103 ls [.int r_152]) rfl ?_
                  refine lv_bipush (v := 59) hx hb dX5_reads_103 (by decide) ?_
                  refine lv_icmp_ne (tgt := 112) hx hb dX5_reads_105 (by decide) (fun c_154 => ?_) (fun c_154 => ?_)
                  · replace hF := ite_f c_154 hF
                    refine lv_iconst (v := 0) hx hb dX5_reads_112 (by decide) ?_
                    refine lv_istore_n (lv' := [(1, .int 0), (0, .ref A_t)]) hx hb dX5_reads_113 rfl hl (by decide) rfl (fun ls hl => ?_)
                    refine lv_aload_n hx hb dX5_reads_114 rfl (lv_at hl 1 rfl) ?_
                    refine lv_dup hx hb dX5_reads_115 rfl ?_
                    refine va_get (D := D) (ci := 5) (v := .int t_at_146) (C := RX5) (T := TX5) (N := 13) hx hb hts inX5 hown hK hP 0 rfl rfl 7 (by decide) (hts _ q_738) (fun _ h9 => h9) rfl dX5_reads_116 ?_
                    refine lv_iload_n hx hb dX5_reads_119 rfl (lv_at hl 0 rfl) ?_
                    refine lv_if_eq (tgt := 127) hx hb dX5_reads_120 (by decide) (fun _ => ?_) (fun h0 => absurd (by decide) h0)
                    refine lv_iconst (v := 0) hx hb dX5_reads_127 (by decide) ?_
                    refine lv_iadd hx hb dX5_reads_128 ?_
                    refine ka_put (ci := 5) (v := .int (t_at_146 + 0)) (ty := .int) (C := RX5) (T := TX5) (N := 13) (wsN := (w_X5_reads cy A_t A_t_s A_t_past A_t_begun A_t_text A_t_wins A_t_fits t_pasts t_thrown t_typed (t_at_146 + 0) r_1 t_one_147 t_other_148 t_text)) hx hb hts inX5 tyX5 tyX5_ok nmX5 hown hK hP hD hS 0 rfl rfl 7 (by decide) (hts _ q_738) (fun _ h9 => h9) rfl (by decide +kernel) rfl rfl (Nat.le_of_ble_eq_true rfl) rfl dX5_reads_129 (fun H locs hP hD hS => ?_)
                    refine lv_iload_n hx hb dX5_reads_132 rfl (lv_at hl 0 rfl) ?_
                    cases hF
                    exact kret_z hx hb hr hlocks hP hD hS dX5_reads_133
                  · replace hF := ite_t c_154 hF
                    refine lv_iconst (v := 1) hx hb dX5_reads_108 (by decide) ?_
                    refine lv_goto (tgt := 113) hx hb dX5_reads_109 (by decide) ?_
                    refine lv_istore_n (lv' := [(1, .int 1), (0, .ref A_t)]) hx hb dX5_reads_113 rfl hl (by decide) rfl (fun ls hl => ?_)
                    refine lv_aload_n hx hb dX5_reads_114 rfl (lv_at hl 1 rfl) ?_
                    refine lv_dup hx hb dX5_reads_115 rfl ?_
                    refine va_get (D := D) (ci := 5) (v := .int t_at_146) (C := RX5) (T := TX5) (N := 13) hx hb hts inX5 hown hK hP 0 rfl rfl 7 (by decide) (hts _ q_738) (fun _ h9 => h9) rfl dX5_reads_116 ?_
                    refine lv_iload_n hx hb dX5_reads_119 rfl (lv_at hl 0 rfl) ?_
                    refine lv_if_eq (tgt := 127) hx hb dX5_reads_120 (by decide) (fun h0 => absurd h0 (by decide)) (fun _ => ?_)
                    refine lv_iconst (v := 1) hx hb dX5_reads_123 (by decide) ?_
                    refine lv_goto (tgt := 128) hx hb dX5_reads_124 (by decide) ?_
                    refine lv_iadd hx hb dX5_reads_128 ?_
                    refine ka_put (ci := 5) (v := .int (t_at_146 + 1)) (ty := .int) (C := RX5) (T := TX5) (N := 13) (wsN := (w_X5_reads cy A_t A_t_s A_t_past A_t_begun A_t_text A_t_wins A_t_fits t_pasts t_thrown t_typed (t_at_146 + 1) r_1 t_one_147 t_other_148 t_text)) hx hb hts inX5 tyX5 tyX5_ok nmX5 hown hK hP hD hS 0 rfl rfl 7 (by decide) (hts _ q_738) (fun _ h9 => h9) rfl (by decide +kernel) rfl rfl (Nat.le_of_ble_eq_true rfl) rfl dX5_reads_129 (fun H locs hP hD hS => ?_)
                    refine lv_iload_n hx hb dX5_reads_132 rfl (lv_at hl 0 rfl) ?_
                    cases hF
                    exact kret_z hx hb hr hlocks hP hD hS dX5_reads_133
                · replace hF := ite_t c_151 hF
                  refine lv_aload_n hx hb dX5_reads_90 rfl (lv_at hl 0 rfl) ?_
                  obtain ⟨r_155, t_at_156, t_one_157, hF_158, hF⟩ := ob3_some hF
                  refine kcV (q := (RX5, TX5, 13)) (ci := 5) (q0 := 0) (As := []) (rest := []) (wr := []) (wsN := (w_X5_reads cy A_t A_t_s A_t_past A_t_begun A_t_text A_t_wins A_t_fits t_pasts t_thrown t_typed t_at_156 r_1 t_one_157 t_other_148 t_text)) ⟨hx, hb, hml, hown, hts⟩ hE hP hD hS hA hAs [0, 1] [] [0, 1] (c_X5_number_ l D cy s0 tW N A_t A_t_s A_t_past A_t_begun A_t_text A_t_wins A_t_fits t_pasts t_thrown t_typed t_at_146 r_1 t_one_147 t_other_148 t_text _ hF_158) (gV q_1018 q_1020 q_80 q_88 q_1021) hd_X5_number_ ⟨Nat.le_of_ble_eq_true rfl, Nat.le_of_ble_eq_true rfl⟩ rfl rfl rfl rfl rfl rfl rfl rfl rfl hl.1 rfl (Nat.le_of_ble_eq_true rfl) dX5_reads_91 ⟨Nat.zero_le _, Nat.zero_le _⟩ (fun H locs hP hD hS => ?_)
                  refine W.eq (g2 := F0 m 94 ls [.int (bI r_155)]) rfl ?_
                  refine lv_if_ne (tgt := 99) hx hb dX5_reads_94 (by decide) (fun c_159 => ?_) (fun c_159 => ?_)
                  · replace hF := ite_t (bI_t c_159) hF
                    refine lv_aload_n hx hb dX5_reads_99 rfl (lv_at hl 0 rfl) ?_
                    obtain ⟨r_160, hF_161, hF⟩ := ob1_some hF
                    refine kcV (q := (RX5, TX5, 13)) (ci := 5) (q0 := 0) (As := []) (rest := []) (wr := []) (wsN := (w_X5_reads cy A_t A_t_s A_t_past A_t_begun A_t_text A_t_wins A_t_fits t_pasts t_thrown t_typed t_at_156 r_1 t_one_157 t_other_148 t_text)) ⟨hx, hb, hml, hown, hts⟩ hE hP hD hS hA hAs [0, 1] [] [0, 1] (c_X5_sign l D cy s0 tW N A_t A_t_s A_t_past A_t_begun A_t_text A_t_wins A_t_fits t_pasts t_thrown t_typed t_at_156 r_1 t_one_157 t_other_148 t_text _ hF_161) (gV q_1010 q_1012 q_78 q_88 q_1013) hd_X5_sign ⟨Nat.le_of_ble_eq_true rfl, Nat.le_of_ble_eq_true rfl⟩ rfl rfl rfl rfl rfl rfl rfl rfl rfl hl.1 rfl (Nat.le_of_ble_eq_true rfl) dX5_reads_100 ⟨Nat.zero_le _, Nat.zero_le _⟩ (fun H locs hP hD hS => ?_)
                    refine W.eq (g2 := F0 m 103 ls [.int r_160]) rfl ?_
                    refine lv_bipush (v := 59) hx hb dX5_reads_103 (by decide) ?_
                    refine lv_icmp_ne (tgt := 112) hx hb dX5_reads_105 (by decide) (fun c_162 => ?_) (fun c_162 => ?_)
                    · replace hF := ite_f c_162 hF
                      refine lv_iconst (v := 0) hx hb dX5_reads_112 (by decide) ?_
                      refine lv_istore_n (lv' := [(1, .int 0), (0, .ref A_t)]) hx hb dX5_reads_113 rfl hl (by decide) rfl (fun ls hl => ?_)
                      refine lv_aload_n hx hb dX5_reads_114 rfl (lv_at hl 1 rfl) ?_
                      refine lv_dup hx hb dX5_reads_115 rfl ?_
                      refine va_get (D := D) (ci := 5) (v := .int t_at_156) (C := RX5) (T := TX5) (N := 13) hx hb hts inX5 hown hK hP 0 rfl rfl 7 (by decide) (hts _ q_738) (fun _ h9 => h9) rfl dX5_reads_116 ?_
                      refine lv_iload_n hx hb dX5_reads_119 rfl (lv_at hl 0 rfl) ?_
                      refine lv_if_eq (tgt := 127) hx hb dX5_reads_120 (by decide) (fun _ => ?_) (fun h0 => absurd (by decide) h0)
                      refine lv_iconst (v := 0) hx hb dX5_reads_127 (by decide) ?_
                      refine lv_iadd hx hb dX5_reads_128 ?_
                      refine ka_put (ci := 5) (v := .int (t_at_156 + 0)) (ty := .int) (C := RX5) (T := TX5) (N := 13) (wsN := (w_X5_reads cy A_t A_t_s A_t_past A_t_begun A_t_text A_t_wins A_t_fits t_pasts t_thrown t_typed (t_at_156 + 0) r_1 t_one_157 t_other_148 t_text)) hx hb hts inX5 tyX5 tyX5_ok nmX5 hown hK hP hD hS 0 rfl rfl 7 (by decide) (hts _ q_738) (fun _ h9 => h9) rfl (by decide +kernel) rfl rfl (Nat.le_of_ble_eq_true rfl) rfl dX5_reads_129 (fun H locs hP hD hS => ?_)
                      refine lv_iload_n hx hb dX5_reads_132 rfl (lv_at hl 0 rfl) ?_
                      cases hF
                      exact kret_z hx hb hr hlocks hP hD hS dX5_reads_133
                    · replace hF := ite_t c_162 hF
                      refine lv_iconst (v := 1) hx hb dX5_reads_108 (by decide) ?_
                      refine lv_goto (tgt := 113) hx hb dX5_reads_109 (by decide) ?_
                      refine lv_istore_n (lv' := [(1, .int 1), (0, .ref A_t)]) hx hb dX5_reads_113 rfl hl (by decide) rfl (fun ls hl => ?_)
                      refine lv_aload_n hx hb dX5_reads_114 rfl (lv_at hl 1 rfl) ?_
                      refine lv_dup hx hb dX5_reads_115 rfl ?_
                      refine va_get (D := D) (ci := 5) (v := .int t_at_156) (C := RX5) (T := TX5) (N := 13) hx hb hts inX5 hown hK hP 0 rfl rfl 7 (by decide) (hts _ q_738) (fun _ h9 => h9) rfl dX5_reads_116 ?_
                      refine lv_iload_n hx hb dX5_reads_119 rfl (lv_at hl 0 rfl) ?_
                      refine lv_if_eq (tgt := 127) hx hb dX5_reads_120 (by decide) (fun h0 => absurd h0 (by decide)) (fun _ => ?_)
                      refine lv_iconst (v := 1) hx hb dX5_reads_123 (by decide) ?_
                      refine lv_goto (tgt := 128) hx hb dX5_reads_124 (by decide) ?_
                      refine lv_iadd hx hb dX5_reads_128 ?_
                      refine ka_put (ci := 5) (v := .int (t_at_156 + 1)) (ty := .int) (C := RX5) (T := TX5) (N := 13) (wsN := (w_X5_reads cy A_t A_t_s A_t_past A_t_begun A_t_text A_t_wins A_t_fits t_pasts t_thrown t_typed (t_at_156 + 1) r_1 t_one_157 t_other_148 t_text)) hx hb hts inX5 tyX5 tyX5_ok nmX5 hown hK hP hD hS 0 rfl rfl 7 (by decide) (hts _ q_738) (fun _ h9 => h9) rfl (by decide +kernel) rfl rfl (Nat.le_of_ble_eq_true rfl) rfl dX5_reads_129 (fun H locs hP hD hS => ?_)
                      refine lv_iload_n hx hb dX5_reads_132 rfl (lv_at hl 0 rfl) ?_
                      cases hF
                      exact kret_z hx hb hr hlocks hP hD hS dX5_reads_133
                  · replace hF := ite_f (bI_f c_159) hF
                    refine lv_iconst (v := 0) hx hb dX5_reads_97 (by decide) ?_
                    cases hF
                    exact kret_z hx hb hr hlocks hP hD hS dX5_reads_98
          · replace hF := ite_f c_131 hF
            refine lv_iconst (v := 0) hx hb dX5_reads_53 (by decide) ?_
            cases hF
            exact kret_z hx hb hr hlocks hP hD hS dX5_reads_54

theorem q_77 : Cond.selects RX5 yX5_reads yX5_reads ∈ wAll := wAll_mem 77 (by decide +kernel) (by decide +kernel)
theorem q_1006 : Cond.methodLink RX5 165 yX5_reads ∈ wAll := wAll_mem 1006 (by decide +kernel) (by decide +kernel)
theorem q_1008 : Cond.instanceMethod yX5_reads ∈ wAll := wAll_mem 1008 (by decide +kernel) (by decide +kernel)
theorem q_1009 : Cond.code yX5_reads cX5_reads 2 (some .boolean) ∈ wAll := wAll_mem 1009 (by decide +kernel) (by decide +kernel)
theorem hd_X5_reads : yX5_reads.cls = RX5 ∧ yX5_reads.cls ≠ "java/lang/invoke/MethodHandle" ∧ yX5_reads.cls ≠ "java/lang/invoke/VarHandle" ∧ (parseMethodDescriptor yX5_reads.desc).map (fun d => d.parameters.length) = some 0 := by decide +kernel
abbrev w_X5_wrong (cy : Nat → ClassId) (A_t : Nat) (A_t_s : Nat) (A_t_past : Nat) (A_t_begun : Nat) (A_t_text : Nat) (A_t_wins : Nat) (A_t_fits : Nat) (t_pasts : Int32) (t_thrown : Int32) (t_typed : Int32) (t_at : Int32) (t_letter : Int32) (t_one : Int32) (t_other : Int32) (t_text : Nat → Int32) : va_W := [(A_t, .inr (5, [.ref A_t_s, .ref A_t_past, .ref A_t_begun, .int t_pasts, .int t_thrown, .ref A_t_text, .int t_typed, .int t_at, .int t_letter, .int t_one, .int t_other, .ref A_t_wins, .ref A_t_fits])), (A_t_text, .inl (cy 2, 100, .inl t_text))]
def L_X5_wrong_5 (N : Nat) (t_typed : Int32) (t_text : Nat → Int32) (kont : Int32 → Int32 → Int32 → Int32 → Option (Int32 × Int32 × Int32 × Int32 × Int32)) : Nat → Int32 → Int32 → Int32 → Int32 → Option (Int32 × Int32 × Int32 × Int32 × Int32)
  | 0, _, _, _, _ => none
  | n + 1, t_at_1, t_letter_2, t_one_3, t_other_4 => (if t_typed ≤ t_at_1 then some ((-1), t_at_1, t_letter_2, t_one_3, t_other_4) else ob5 (F_X5_reads N t_text t_typed t_at_1 t_letter_2 t_one_3 t_other_4) (fun r_10 t_at_11 t_letter_12 t_one_13 t_other_14 => (if r_10 = true then L_X5_wrong_5 N t_typed t_text kont n t_at_11 t_letter_12 t_one_13 t_other_14 else kont t_at_11 t_letter_12 t_one_13 t_other_14)))
def F_X5_wrong (N : Nat) (t_text : Nat → Int32) (t_typed : Int32) (t_at : Int32) (t_letter : Int32) (t_one : Int32) (t_other : Int32) : Option (Int32 × Int32 × Int32 × Int32 × Int32) :=
  (L_X5_wrong_5 N t_typed t_text (fun t_at_5 t_letter_6 t_one_7 t_other_8 => some (t_at_5, t_at_5, t_letter_6, t_one_7, t_other_8)) N 0 t_letter t_one t_other)
set_option maxHeartbeats 4000000 in
set_option maxRecDepth 100000 in
theorem c_X5_wrong (l : Launch) (D : va_G) (cy : Nat → ClassId) (s0 tW N : Nat) (A_t : Nat) (A_t_s : Nat) (A_t_past : Nat) (A_t_begun : Nat) (A_t_text : Nat) (A_t_wins : Nat) (A_t_fits : Nat) (t_pasts : Int32) (t_thrown : Int32) (t_typed : Int32) (t_at : Int32) (t_letter : Int32) (t_one : Int32) (t_other : Int32) (t_text : Nat → Int32) (sz : Nat) {r9 : Int32} {t_at9 : Int32} {t_letter9 : Int32} {t_one9 : Int32} {t_other9 : Int32} (hF : F_X5_wrong N t_text t_typed t_at t_letter t_one t_other = some (r9, t_at9, t_letter9, t_one9, t_other9)) : KM l D cy s0 tW yX5_wrong cX5_wrong 1 (some .int) 3 65 [.ref A_t] sz (w_X5_wrong cy A_t A_t_s A_t_past A_t_begun A_t_text A_t_wins A_t_fits t_pasts t_thrown t_typed t_at t_letter t_one t_other t_text) (some (.int r9)) (w_X5_wrong cy A_t A_t_s A_t_past A_t_begun A_t_text A_t_wins A_t_fits t_pasts t_thrown t_typed t_at9 t_letter9 t_one9 t_other9 t_text) := by
  refine KM.intro rfl (Nat.le_of_ble_eq_true rfl) ?_
  intro p e s m args below meth c A ls hx hb hr hml hown hts hlocks hE hP hD hS hA hAs hl
  have hK := hE.1
  have hl : lv_has ls 1 [(0, .ref A_t)] := hl
  unfold F_X5_wrong at hF
  refine lv_aload_n hx hb dX5_wrong_0 rfl (lv_at hl 0 rfl) ?_
  refine lv_iconst (v := 0) hx hb dX5_wrong_1 (by decide) ?_
  refine ka_put (ci := 5) (v := .int 0) (ty := .int) (C := RX5) (T := TX5) (N := 13) (wsN := (w_X5_wrong cy A_t A_t_s A_t_past A_t_begun A_t_text A_t_wins A_t_fits t_pasts t_thrown t_typed 0 t_letter t_one t_other t_text)) hx hb hts inX5 tyX5 tyX5_ok nmX5 hown hK hP hD hS 0 rfl rfl 7 (by decide) (hts _ q_738) (fun _ h9 => h9) rfl (by decide +kernel) rfl rfl (Nat.le_of_ble_eq_true rfl) rfl dX5_wrong_2 (fun H locs hP hD hS => ?_)
  have hloop_5 : ∀ (kont : Int32 → Int32 → Int32 → Int32 → Option (Int32 × Int32 × Int32 × Int32 × Int32)), (∀ (t_at_5 : Int32) (t_letter_6 : Int32) (t_one_7 : Int32) (t_other_8 : Int32) (H : Heap) (locs : List Loc) (ls : Array Slot), kont t_at_5 t_letter_6 t_one_7 t_other_8 = some (r9, t_at9, t_letter9, t_one9, t_other9) → va_P D vwCl (w_X5_wrong cy A_t A_t_s A_t_past A_t_begun A_t_text A_t_wins A_t_fits t_pasts t_thrown t_typed t_at_5 t_letter_6 t_one_7 t_other_8 t_text) H → va_D A (w_X5_wrong cy A_t A_t_s A_t_past A_t_begun A_t_text A_t_wins A_t_fits t_pasts t_thrown t_typed t_at_5 t_letter_6 t_one_7 t_other_8 t_text) → va_S A s.heap H locs → lv_has ls 1 [(0, .ref A_t)] → W p l e (rmK 3 65) s m args below meth c H locs 0 0 (MQ below (kQ (some (.int r9)) D A (w_X5_wrong cy A_t A_t_s A_t_past A_t_begun A_t_text A_t_wins A_t_fits t_pasts t_thrown t_typed t_at9 t_letter9 t_one9 t_other9 t_text)) args s 0 0 A) (F0 m 23 ls [])) → ∀ (n : Nat) (t_at_1 : Int32) (t_letter_2 : Int32) (t_one_3 : Int32) (t_other_4 : Int32) (H : Heap) (locs : List Loc) (ls : Array Slot), L_X5_wrong_5 N t_typed t_text kont n t_at_1 t_letter_2 t_one_3 t_other_4 = some (r9, t_at9, t_letter9, t_one9, t_other9) → va_P D vwCl (w_X5_wrong cy A_t A_t_s A_t_past A_t_begun A_t_text A_t_wins A_t_fits t_pasts t_thrown t_typed t_at_1 t_letter_2 t_one_3 t_other_4 t_text) H → va_D A (w_X5_wrong cy A_t A_t_s A_t_past A_t_begun A_t_text A_t_wins A_t_fits t_pasts t_thrown t_typed t_at_1 t_letter_2 t_one_3 t_other_4 t_text) → va_S A s.heap H locs → lv_has ls 1 [(0, .ref A_t)] → W p l e (rmK 3 65) s m args below meth c H locs 0 0 (MQ below (kQ (some (.int r9)) D A (w_X5_wrong cy A_t A_t_s A_t_past A_t_begun A_t_text A_t_wins A_t_fits t_pasts t_thrown t_typed t_at9 t_letter9 t_one9 t_other9 t_text)) args s 0 0 A) (F0 m 5 ls []) := by
    intro kont hexit_5 n
    induction n with
    | zero =>
      intro t_at_1 t_letter_2 t_one_3 t_other_4 H locs ls hF
      rw [L_X5_wrong_5] at hF
      cases hF
    | succ n ih =>
      intro t_at_1 t_letter_2 t_one_3 t_other_4 H locs ls hF hP hD hS hl
      rw [L_X5_wrong_5] at hF
      refine lv_aload_n hx hb dX5_wrong_5 rfl (lv_at hl 0 rfl) ?_
      refine va_get (D := D) (ci := 5) (v := .int t_at_1) (C := RX5) (T := TX5) (N := 13) hx hb hts inX5 hown hK hP 0 rfl rfl 7 (by decide) (hts _ q_738) (fun _ h9 => h9) rfl dX5_wrong_6 ?_
      refine lv_aload_n hx hb dX5_wrong_9 rfl (lv_at hl 0 rfl) ?_
      refine va_get (D := D) (ci := 5) (v := .int t_typed) (C := RX5) (T := TX5) (N := 13) hx hb hts inX5 hown hK hP 0 rfl rfl 6 (by decide) (hts _ q_737) (fun _ h9 => h9) rfl dX5_wrong_10 ?_
      refine lv_icmp_ge (tgt := 28) hx hb dX5_wrong_13 (by decide) (fun c_9 => ?_) (fun c_9 => ?_)
      · replace hF := ite_t c_9 hF
        refine lv_iconst (v := (-1)) hx hb dX5_wrong_28 (by decide) ?_
        cases hF
        exact kret_i hx hb hr hlocks hP hD hS dX5_wrong_29
      · replace hF := ite_f c_9 hF
        refine lv_aload_n hx hb dX5_wrong_16 rfl (lv_at hl 0 rfl) ?_
        obtain ⟨r_10, t_at_11, t_letter_12, t_one_13, t_other_14, hF_15, hF⟩ := ob5_some hF
        refine kcV (q := (RX5, TX5, 13)) (ci := 5) (q0 := 0) (As := []) (rest := []) (wr := []) (wsN := (w_X5_wrong cy A_t A_t_s A_t_past A_t_begun A_t_text A_t_wins A_t_fits t_pasts t_thrown t_typed t_at_11 t_letter_12 t_one_13 t_other_14 t_text)) ⟨hx, hb, hml, hown, hts⟩ hE hP hD hS hA hAs [0, 1] [] [0, 1] (c_X5_reads l D cy s0 tW N A_t A_t_s A_t_past A_t_begun A_t_text A_t_wins A_t_fits t_pasts t_thrown t_typed t_at_1 t_letter_2 t_one_3 t_other_4 t_text _ hF_15) (gV q_1006 q_1008 q_77 q_88 q_1009) hd_X5_reads ⟨Nat.le_of_ble_eq_true rfl, Nat.le_of_ble_eq_true rfl⟩ rfl rfl rfl rfl rfl rfl rfl rfl rfl hl.1 rfl (Nat.le_of_ble_eq_true rfl) dX5_wrong_17 ⟨Nat.zero_le _, Nat.zero_le _⟩ (fun H locs hP hD hS => ?_)
        refine W.eq (g2 := F0 m 20 ls [.int (bI r_10)]) rfl ?_
        refine lv_if_ne (tgt := 5) hx hb dX5_wrong_20 (by decide) (fun c_16 => ?_) (fun c_16 => ?_)
        · replace hF := ite_t (bI_t c_16) hF
          exact ih t_at_11 t_letter_12 t_one_13 t_other_14 H locs ls hF hP hD hS (lv_sub hl [0] rfl)
        · replace hF := ite_f (bI_f c_16) hF
          exact hexit_5 t_at_11 t_letter_12 t_one_13 t_other_14 H locs ls hF hP hD hS (lv_sub hl [0] rfl)
  refine hloop_5 _ (fun t_at_5 t_letter_6 t_one_7 t_other_8 H locs ls hF hP hD hS hl => ?_) N 0 t_letter t_one t_other _ _ ls hF hP hD hS (lv_sub hl [0] rfl)
  refine lv_aload_n hx hb dX5_wrong_23 rfl (lv_at hl 0 rfl) ?_
  refine va_get (D := D) (ci := 5) (v := .int t_at_5) (C := RX5) (T := TX5) (N := 13) hx hb hts inX5 hown hK hP 0 rfl rfl 7 (by decide) (hts _ q_738) (fun _ h9 => h9) rfl dX5_wrong_24 ?_
  cases hF
  exact kret_i hx hb hr hlocks hP hD hS dX5_wrong_27

abbrev w_X5_does (cy : Nat → ClassId) (A_t : Nat) (A_t_s : Nat) (A_t_past : Nat) (A_t_begun : Nat) (A_t_text : Nat) (A_t_wins : Nat) (A_t_fits : Nat) (t_pasts : Int32) (t_thrown : Int32) (t_typed : Int32) (t_at : Int32) (t_letter : Int32) (t_one : Int32) (t_other : Int32) (t_s : Nat → Int32) (t_wins : Nat → Bool) (t_fits : Nat → Int32) : va_W := [(A_t, .inr (5, [.ref A_t_s, .ref A_t_past, .ref A_t_begun, .int t_pasts, .int t_thrown, .ref A_t_text, .int t_typed, .int t_at, .int t_letter, .int t_one, .int t_other, .ref A_t_wins, .ref A_t_fits])), (A_t_s, .inl (cy 0, 45, .inl t_s)), (A_t_wins, .inl (cy 3, 1024, .inl (fun j => bI (t_wins j)))), (A_t_fits, .inl (cy 0, 1024, .inl t_fits))]
def F_X5_does (N : Nat) (t_s : Nat → Int32) (t_letter : Int32) (t_one : Int32) (t_other : Int32) (t_wins : Nat → Bool) (t_fits : Nat → Int32) : Option (Bool × (Nat → Int32) × (Nat → Bool) × (Nat → Int32)) :=
  (if t_letter = (99 : Int32) then ob1 (F_X5_whyNotClause N t_one t_other t_s) (fun r_52 => (if r_52 = (0 : Int32) then ob2 (F_X5_addsClause N t_one t_other t_s) (fun r_55 t_s_56 => some (true, t_s_56, t_wins, t_fits)) else some (false, t_s, t_wins, t_fits))) else (if t_letter = (101 : Int32) then (if t_letter = (117 : Int32) then ob1 (F_X5_canAdd N true t_s) (fun r_42 => (if r_42 = true then (if t_letter = (117 : Int32) then ob2 (F_X5_adds N true t_s) (fun r_49 t_s_50 => some (r_42, t_s_50, t_wins, t_fits)) else ob2 (F_X5_adds N false t_s) (fun r_46 t_s_47 => some (r_42, t_s_47, t_wins, t_fits))) else some (r_42, t_s, t_wins, t_fits))) else ob1 (F_X5_canAdd N false t_s) (fun r_32 => (if r_32 = true then (if t_letter = (117 : Int32) then ob2 (F_X5_adds N true t_s) (fun r_39 t_s_40 => some (r_32, t_s_40, t_wins, t_fits)) else ob2 (F_X5_adds N false t_s) (fun r_36 t_s_37 => some (r_32, t_s_37, t_wins, t_fits))) else some (r_32, t_s, t_wins, t_fits)))) else (if t_letter = (108 : Int32) then ob1 (F_X5_whyNotLearn N t_one t_s) (fun r_28 => (if r_28 = (0 : Int32) then some (true, (upd t_s 3 ((t_s 3) ||| ((1 : Int32) <<< (t_one &&& 31)))), t_wins, t_fits) else some (false, (upd t_s 3 ((t_s 3) ||| 0)), t_wins, t_fits))) else (if t_letter = (117 : Int32) then (if t_letter = (117 : Int32) then ob1 (F_X5_canAdd N true t_s) (fun r_18 => (if r_18 = true then (if t_letter = (117 : Int32) then ob2 (F_X5_adds N true t_s) (fun r_25 t_s_26 => some (r_18, t_s_26, t_wins, t_fits)) else ob2 (F_X5_adds N false t_s) (fun r_22 t_s_23 => some (r_18, t_s_23, t_wins, t_fits))) else some (r_18, t_s, t_wins, t_fits))) else ob1 (F_X5_canAdd N false t_s) (fun r_8 => (if r_8 = true then (if t_letter = (117 : Int32) then ob2 (F_X5_adds N true t_s) (fun r_15 t_s_16 => some (r_8, t_s_16, t_wins, t_fits)) else ob2 (F_X5_adds N false t_s) (fun r_12 t_s_13 => some (r_8, t_s_13, t_wins, t_fits))) else some (r_8, t_s, t_wins, t_fits)))) else ob4 (F_X5_rounds N t_s t_wins t_fits) (fun r_2 t_s_3 t_wins_4 t_fits_5 => some (true, t_s_3, t_wins_4, t_fits_5))))))
set_option maxHeartbeats 4000000 in
set_option maxRecDepth 100000 in
theorem c_X5_does (l : Launch) (D : va_G) (cy : Nat → ClassId) (s0 tW N : Nat) (A_t : Nat) (A_t_s : Nat) (A_t_past : Nat) (A_t_begun : Nat) (A_t_text : Nat) (A_t_wins : Nat) (A_t_fits : Nat) (t_pasts : Int32) (t_thrown : Int32) (t_typed : Int32) (t_at : Int32) (t_letter : Int32) (t_one : Int32) (t_other : Int32) (t_s : Nat → Int32) (t_wins : Nat → Bool) (t_fits : Nat → Int32) (sz : Nat) {r9 : Bool} {t_s9 : Nat → Int32} {t_wins9 : Nat → Bool} {t_fits9 : Nat → Int32} (hF : F_X5_does N t_s t_letter t_one t_other t_wins t_fits = some (r9, t_s9, t_wins9, t_fits9)) : KM l D cy s0 tW yX5_does cX5_does 2 (some .boolean) 4 92 [.ref A_t] sz (w_X5_does cy A_t A_t_s A_t_past A_t_begun A_t_text A_t_wins A_t_fits t_pasts t_thrown t_typed t_at t_letter t_one t_other t_s t_wins t_fits) (some (.int (bI r9))) (w_X5_does cy A_t A_t_s A_t_past A_t_begun A_t_text A_t_wins A_t_fits t_pasts t_thrown t_typed t_at t_letter t_one t_other t_s9 t_wins9 t_fits9) := by
  refine KM.intro rfl (Nat.le_of_ble_eq_true rfl) ?_
  intro p e s m args below meth c A ls hx hb hr hml hown hts hlocks hE hP hD hS hA hAs hl
  have hK := hE.1
  have hl : lv_has ls 2 [(0, .ref A_t)] := hl
  unfold F_X5_does at hF
  refine lv_iconst (v := 1) hx hb dX5_does_0 (by decide) ?_
  refine lv_istore_n (lv' := [(1, .int 1), (0, .ref A_t)]) hx hb dX5_does_1 rfl hl (by decide) rfl (fun ls hl => ?_)
  refine lv_aload_n hx hb dX5_does_2 rfl (lv_at hl 1 rfl) ?_
  refine va_get (D := D) (ci := 5) (v := .int t_letter) (C := RX5) (T := TX5) (N := 13) hx hb hts inX5 hown hK hP 0 rfl rfl 8 (by decide) (hts _ q_739) (fun _ h9 => h9) rfl dX5_does_3 ?_
  by_cases c_1_0 : t_letter = (99 : Int32)
  · replace hF := ite_t c_1_0 hF
    refine lv_lookup (off := 87) (tgt := 93) hx hb dX5_does_6 (by decide) (by rw [c_1_0]; (try rfl)) (by decide) ?_
    refine lv_aload_n hx hb dX5_does_93 rfl (lv_at hl 1 rfl) ?_
    refine lv_aload_n hx hb dX5_does_94 rfl (lv_at hl 1 rfl) ?_
    refine va_get (D := D) (ci := 5) (v := .int t_one) (C := RX5) (T := TX5) (N := 13) hx hb hts inX5 hown hK hP 0 rfl rfl 9 (by decide) (hts _ q_740) (fun _ h9 => h9) rfl dX5_does_95 ?_
    refine lv_aload_n hx hb dX5_does_98 rfl (lv_at hl 1 rfl) ?_
    refine va_get (D := D) (ci := 5) (v := .int t_other) (C := RX5) (T := TX5) (N := 13) hx hb hts inX5 hown hK hP 0 rfl rfl 10 (by decide) (hts _ q_741) (fun _ h9 => h9) rfl dX5_does_99 ?_
    obtain ⟨r_52, hF_53, hF⟩ := ob1_some hF
    refine kcV (q := (RX5, TX5, 13)) (ci := 5) (q0 := 0) (As := [.int t_one, .int t_other]) (rest := []) (wr := [(A_t_wins, .inl (cy 3, 1024, .inl (fun j => bI (t_wins j)))), (A_t_fits, .inl (cy 0, 1024, .inl t_fits))]) (wsN := (w_X5_does cy A_t A_t_s A_t_past A_t_begun A_t_text A_t_wins A_t_fits t_pasts t_thrown t_typed t_at t_letter t_one t_other t_s t_wins t_fits)) ⟨hx, hb, hml, hown, hts⟩ hE hP hD hS hA hAs [0, 1] [2, 3] [2, 3, 0, 1] (c_X5_whyNotClause l D cy s0 tW N A_t A_t_s A_t_past A_t_begun A_t_text A_t_wins A_t_fits t_one t_other t_pasts t_thrown t_typed t_at t_letter t_one t_other t_s _ hF_53) (gV q_815 q_817 q_52 q_88 q_818) hd_X5_whyNotClause ⟨Nat.le_of_ble_eq_true rfl, Nat.le_of_ble_eq_true rfl⟩ rfl rfl rfl rfl rfl rfl rfl rfl rfl hl.1 rfl (Nat.le_of_ble_eq_true rfl) dX5_does_102 ⟨Nat.zero_le _, Nat.zero_le _⟩ (fun H locs hP hD hS => ?_)
    refine W.eq (g2 := F0 m 105 ls [.int r_52]) rfl ?_
    refine lv_if_ne (tgt := 112) hx hb dX5_does_105 (by decide) (fun c_54 => ?_) (fun c_54 => ?_)
    · replace hF := ite_f c_54 hF
      refine lv_iconst (v := 0) hx hb dX5_does_112 (by decide) ?_
      refine lv_istore_n (lv' := [(1, .int 0), (0, .ref A_t)]) hx hb dX5_does_113 rfl hl (by decide) rfl (fun ls hl => ?_)
      refine lv_iload_n hx hb dX5_does_114 rfl (lv_at hl 0 rfl) ?_
      refine lv_if_eq (tgt := 182) hx hb dX5_does_115 (by decide) (fun _ => ?_) (fun h0 => absurd (by decide) h0)
      refine lv_iload_n hx hb dX5_does_182 rfl (lv_at hl 0 rfl) ?_
      cases hF
      exact kret_z hx hb hr hlocks hP hD hS dX5_does_183
    · replace hF := ite_t c_54 hF
      refine lv_iconst (v := 1) hx hb dX5_does_108 (by decide) ?_
      refine lv_goto (tgt := 113) hx hb dX5_does_109 (by decide) ?_
      refine lv_istore_n (lv' := [(1, .int 1), (0, .ref A_t)]) hx hb dX5_does_113 rfl hl (by decide) rfl (fun ls hl => ?_)
      refine lv_iload_n hx hb dX5_does_114 rfl (lv_at hl 0 rfl) ?_
      refine lv_if_eq (tgt := 182) hx hb dX5_does_115 (by decide) (fun h0 => absurd h0 (by decide)) (fun _ => ?_)
      refine lv_aload_n hx hb dX5_does_118 rfl (lv_at hl 1 rfl) ?_
      refine lv_aload_n hx hb dX5_does_119 rfl (lv_at hl 1 rfl) ?_
      refine va_get (D := D) (ci := 5) (v := .int t_one) (C := RX5) (T := TX5) (N := 13) hx hb hts inX5 hown hK hP 0 rfl rfl 9 (by decide) (hts _ q_740) (fun _ h9 => h9) rfl dX5_does_120 ?_
      refine lv_aload_n hx hb dX5_does_123 rfl (lv_at hl 1 rfl) ?_
      refine va_get (D := D) (ci := 5) (v := .int t_other) (C := RX5) (T := TX5) (N := 13) hx hb hts inX5 hown hK hP 0 rfl rfl 10 (by decide) (hts _ q_741) (fun _ h9 => h9) rfl dX5_does_124 ?_
      obtain ⟨r_55, t_s_56, hF_57, hF⟩ := ob2_some hF
      refine kcV (q := (RX5, TX5, 13)) (ci := 5) (q0 := 0) (As := [.int t_one, .int t_other]) (rest := []) (wr := [(A_t_wins, .inl (cy 3, 1024, .inl (fun j => bI (t_wins j)))), (A_t_fits, .inl (cy 0, 1024, .inl t_fits))]) (wsN := (w_X5_does cy A_t A_t_s A_t_past A_t_begun A_t_text A_t_wins A_t_fits t_pasts t_thrown t_typed t_at t_letter t_one t_other t_s_56 t_wins t_fits)) ⟨hx, hb, hml, hown, hts⟩ hE hP hD hS hA hAs [0, 1] [2, 3] [2, 3, 0, 1] (c_X5_addsClause l D cy s0 tW N A_t A_t_s A_t_past A_t_begun A_t_text A_t_wins A_t_fits t_one t_other t_pasts t_thrown t_typed t_at t_letter t_one t_other t_s _ hF_57) (gV q_826 q_828 q_54 q_88 q_829) hd_X5_addsClause ⟨Nat.le_of_ble_eq_true rfl, Nat.le_of_ble_eq_true rfl⟩ rfl rfl rfl rfl rfl rfl rfl rfl rfl hl.1 rfl (Nat.le_of_ble_eq_true rfl) dX5_does_127 ⟨Nat.zero_le _, Nat.zero_le _⟩ (fun H locs hP hD hS => ?_)
      refine W.eq (g2 := F0 m 130 ls [.int r_55]) rfl ?_
      refine lv_pop hx hb dX5_does_130 rfl ?_
      refine lv_goto (tgt := 182) hx hb dX5_does_131 (by decide) ?_
      refine lv_iload_n hx hb dX5_does_182 rfl (lv_at hl 0 rfl) ?_
      cases hF
      exact kret_z hx hb hr hlocks hP hD hS dX5_does_183
  · replace hF := ite_f c_1_0 hF
    by_cases c_1_1 : t_letter = (101 : Int32)
    · replace hF := ite_t c_1_1 hF
      refine lv_lookup (off := 42) (tgt := 48) hx hb dX5_does_6 (by decide) (by rw [c_1_1]; (try rfl)) (by decide) ?_
      refine lv_aload_n hx hb dX5_does_48 rfl (lv_at hl 1 rfl) ?_
      refine lv_aload_n hx hb dX5_does_49 rfl (lv_at hl 1 rfl) ?_
      refine va_get (D := D) (ci := 5) (v := .int t_letter) (C := RX5) (T := TX5) (N := 13) hx hb hts inX5 hown hK hP 0 rfl rfl 8 (by decide) (hts _ q_739) (fun _ h9 => h9) rfl dX5_does_50 ?_
      refine lv_bipush (v := 117) hx hb dX5_does_53 (by decide) ?_
      refine lv_icmp_ne (tgt := 62) hx hb dX5_does_55 (by decide) (fun c_31 => ?_) (fun c_31 => ?_)
      · replace hF := ite_f c_31 hF
        refine lv_iconst (v := 0) hx hb dX5_does_62 (by decide) ?_
        obtain ⟨r_32, hF_33, hF⟩ := ob1_some hF
        refine kcV (q := (RX5, TX5, 13)) (ci := 5) (q0 := 0) (As := [.int (bI false)]) (rest := []) (wr := [(A_t_wins, .inl (cy 3, 1024, .inl (fun j => bI (t_wins j)))), (A_t_fits, .inl (cy 0, 1024, .inl t_fits))]) (wsN := (w_X5_does cy A_t A_t_s A_t_past A_t_begun A_t_text A_t_wins A_t_fits t_pasts t_thrown t_typed t_at t_letter t_one t_other t_s t_wins t_fits)) ⟨hx, hb, hml, hown, hts⟩ hE hP hD hS hA hAs [0, 1] [2, 3] [2, 3, 0, 1] (c_X5_canAdd l D cy s0 tW N A_t A_t_s A_t_past A_t_begun A_t_text A_t_wins A_t_fits false t_pasts t_thrown t_typed t_at t_letter t_one t_other t_s _ hF_33) (gV q_796 q_798 q_49 q_88 q_799) hd_X5_canAdd ⟨Nat.le_of_ble_eq_true rfl, Nat.le_of_ble_eq_true rfl⟩ rfl rfl rfl rfl rfl rfl rfl rfl rfl hl.1 rfl (Nat.le_of_ble_eq_true rfl) dX5_does_63 ⟨Nat.zero_le _, Nat.zero_le _⟩ (fun H locs hP hD hS => ?_)
        refine W.eq (g2 := F0 m 66 ls [.int (bI r_32)]) rfl ?_
        refine lv_istore_n (lv' := [(1, .int (bI r_32)), (0, .ref A_t)]) hx hb dX5_does_66 rfl hl (by decide) rfl (fun ls hl => ?_)
        refine lv_iload_n hx hb dX5_does_67 rfl (lv_at hl 0 rfl) ?_
        refine lv_if_eq (tgt := 182) hx hb dX5_does_68 (by decide) (fun c_34 => ?_) (fun c_34 => ?_)
        · replace hF := ite_f (bI_f c_34) hF
          refine lv_iload_n hx hb dX5_does_182 rfl (lv_at hl 0 rfl) ?_
          cases hF
          exact kret_z hx hb hr hlocks hP hD hS dX5_does_183
        · replace hF := ite_t (bI_t c_34) hF
          refine lv_aload_n hx hb dX5_does_71 rfl (lv_at hl 1 rfl) ?_
          refine lv_aload_n hx hb dX5_does_72 rfl (lv_at hl 1 rfl) ?_
          refine va_get (D := D) (ci := 5) (v := .int t_letter) (C := RX5) (T := TX5) (N := 13) hx hb hts inX5 hown hK hP 0 rfl rfl 8 (by decide) (hts _ q_739) (fun _ h9 => h9) rfl dX5_does_73 ?_
          refine lv_bipush (v := 117) hx hb dX5_does_76 (by decide) ?_
          refine lv_icmp_ne (tgt := 85) hx hb dX5_does_78 (by decide) (fun c_35 => ?_) (fun c_35 => ?_)
          · replace hF := ite_f c_35 hF
            refine lv_iconst (v := 0) hx hb dX5_does_85 (by decide) ?_
            obtain ⟨r_36, t_s_37, hF_38, hF⟩ := ob2_some hF
            refine kcV (q := (RX5, TX5, 13)) (ci := 5) (q0 := 0) (As := [.int (bI false)]) (rest := []) (wr := [(A_t_wins, .inl (cy 3, 1024, .inl (fun j => bI (t_wins j)))), (A_t_fits, .inl (cy 0, 1024, .inl t_fits))]) (wsN := (w_X5_does cy A_t A_t_s A_t_past A_t_begun A_t_text A_t_wins A_t_fits t_pasts t_thrown t_typed t_at t_letter t_one t_other t_s_37 t_wins t_fits)) ⟨hx, hb, hml, hown, hts⟩ hE hP hD hS hA hAs [0, 1] [2, 3] [2, 3, 0, 1] (c_X5_adds l D cy s0 tW N A_t A_t_s A_t_past A_t_begun A_t_text A_t_wins A_t_fits false t_pasts t_thrown t_typed t_at t_letter t_one t_other t_s _ hF_38) (gV q_807 q_809 q_51 q_88 q_810) hd_X5_adds ⟨Nat.le_of_ble_eq_true rfl, Nat.le_of_ble_eq_true rfl⟩ rfl rfl rfl rfl rfl rfl rfl rfl rfl hl.1 rfl (Nat.le_of_ble_eq_true rfl) dX5_does_86 ⟨Nat.zero_le _, Nat.zero_le _⟩ (fun H locs hP hD hS => ?_)
            refine W.eq (g2 := F0 m 89 ls [.int r_36]) rfl ?_
            refine lv_pop hx hb dX5_does_89 rfl ?_
            refine lv_goto (tgt := 182) hx hb dX5_does_90 (by decide) ?_
            refine lv_iload_n hx hb dX5_does_182 rfl (lv_at hl 0 rfl) ?_
            cases hF
            exact kret_z hx hb hr hlocks hP hD hS dX5_does_183
          · replace hF := ite_t c_35 hF
            refine lv_iconst (v := 1) hx hb dX5_does_81 (by decide) ?_
            refine lv_goto (tgt := 86) hx hb dX5_does_82 (by decide) ?_
            obtain ⟨r_39, t_s_40, hF_41, hF⟩ := ob2_some hF
            refine kcV (q := (RX5, TX5, 13)) (ci := 5) (q0 := 0) (As := [.int (bI true)]) (rest := []) (wr := [(A_t_wins, .inl (cy 3, 1024, .inl (fun j => bI (t_wins j)))), (A_t_fits, .inl (cy 0, 1024, .inl t_fits))]) (wsN := (w_X5_does cy A_t A_t_s A_t_past A_t_begun A_t_text A_t_wins A_t_fits t_pasts t_thrown t_typed t_at t_letter t_one t_other t_s_40 t_wins t_fits)) ⟨hx, hb, hml, hown, hts⟩ hE hP hD hS hA hAs [0, 1] [2, 3] [2, 3, 0, 1] (c_X5_adds l D cy s0 tW N A_t A_t_s A_t_past A_t_begun A_t_text A_t_wins A_t_fits true t_pasts t_thrown t_typed t_at t_letter t_one t_other t_s _ hF_41) (gV q_807 q_809 q_51 q_88 q_810) hd_X5_adds ⟨Nat.le_of_ble_eq_true rfl, Nat.le_of_ble_eq_true rfl⟩ rfl rfl rfl rfl rfl rfl rfl rfl rfl hl.1 rfl (Nat.le_of_ble_eq_true rfl) dX5_does_86 ⟨Nat.zero_le _, Nat.zero_le _⟩ (fun H locs hP hD hS => ?_)
            refine W.eq (g2 := F0 m 89 ls [.int r_39]) rfl ?_
            refine lv_pop hx hb dX5_does_89 rfl ?_
            refine lv_goto (tgt := 182) hx hb dX5_does_90 (by decide) ?_
            refine lv_iload_n hx hb dX5_does_182 rfl (lv_at hl 0 rfl) ?_
            cases hF
            exact kret_z hx hb hr hlocks hP hD hS dX5_does_183
      · replace hF := ite_t c_31 hF
        refine lv_iconst (v := 1) hx hb dX5_does_58 (by decide) ?_
        refine lv_goto (tgt := 63) hx hb dX5_does_59 (by decide) ?_
        obtain ⟨r_42, hF_43, hF⟩ := ob1_some hF
        refine kcV (q := (RX5, TX5, 13)) (ci := 5) (q0 := 0) (As := [.int (bI true)]) (rest := []) (wr := [(A_t_wins, .inl (cy 3, 1024, .inl (fun j => bI (t_wins j)))), (A_t_fits, .inl (cy 0, 1024, .inl t_fits))]) (wsN := (w_X5_does cy A_t A_t_s A_t_past A_t_begun A_t_text A_t_wins A_t_fits t_pasts t_thrown t_typed t_at t_letter t_one t_other t_s t_wins t_fits)) ⟨hx, hb, hml, hown, hts⟩ hE hP hD hS hA hAs [0, 1] [2, 3] [2, 3, 0, 1] (c_X5_canAdd l D cy s0 tW N A_t A_t_s A_t_past A_t_begun A_t_text A_t_wins A_t_fits true t_pasts t_thrown t_typed t_at t_letter t_one t_other t_s _ hF_43) (gV q_796 q_798 q_49 q_88 q_799) hd_X5_canAdd ⟨Nat.le_of_ble_eq_true rfl, Nat.le_of_ble_eq_true rfl⟩ rfl rfl rfl rfl rfl rfl rfl rfl rfl hl.1 rfl (Nat.le_of_ble_eq_true rfl) dX5_does_63 ⟨Nat.zero_le _, Nat.zero_le _⟩ (fun H locs hP hD hS => ?_)
        refine W.eq (g2 := F0 m 66 ls [.int (bI r_42)]) rfl ?_
        refine lv_istore_n (lv' := [(1, .int (bI r_42)), (0, .ref A_t)]) hx hb dX5_does_66 rfl hl (by decide) rfl (fun ls hl => ?_)
        refine lv_iload_n hx hb dX5_does_67 rfl (lv_at hl 0 rfl) ?_
        refine lv_if_eq (tgt := 182) hx hb dX5_does_68 (by decide) (fun c_44 => ?_) (fun c_44 => ?_)
        · replace hF := ite_f (bI_f c_44) hF
          refine lv_iload_n hx hb dX5_does_182 rfl (lv_at hl 0 rfl) ?_
          cases hF
          exact kret_z hx hb hr hlocks hP hD hS dX5_does_183
        · replace hF := ite_t (bI_t c_44) hF
          refine lv_aload_n hx hb dX5_does_71 rfl (lv_at hl 1 rfl) ?_
          refine lv_aload_n hx hb dX5_does_72 rfl (lv_at hl 1 rfl) ?_
          refine va_get (D := D) (ci := 5) (v := .int t_letter) (C := RX5) (T := TX5) (N := 13) hx hb hts inX5 hown hK hP 0 rfl rfl 8 (by decide) (hts _ q_739) (fun _ h9 => h9) rfl dX5_does_73 ?_
          refine lv_bipush (v := 117) hx hb dX5_does_76 (by decide) ?_
          refine lv_icmp_ne (tgt := 85) hx hb dX5_does_78 (by decide) (fun c_45 => ?_) (fun c_45 => ?_)
          · replace hF := ite_f c_45 hF
            refine lv_iconst (v := 0) hx hb dX5_does_85 (by decide) ?_
            obtain ⟨r_46, t_s_47, hF_48, hF⟩ := ob2_some hF
            refine kcV (q := (RX5, TX5, 13)) (ci := 5) (q0 := 0) (As := [.int (bI false)]) (rest := []) (wr := [(A_t_wins, .inl (cy 3, 1024, .inl (fun j => bI (t_wins j)))), (A_t_fits, .inl (cy 0, 1024, .inl t_fits))]) (wsN := (w_X5_does cy A_t A_t_s A_t_past A_t_begun A_t_text A_t_wins A_t_fits t_pasts t_thrown t_typed t_at t_letter t_one t_other t_s_47 t_wins t_fits)) ⟨hx, hb, hml, hown, hts⟩ hE hP hD hS hA hAs [0, 1] [2, 3] [2, 3, 0, 1] (c_X5_adds l D cy s0 tW N A_t A_t_s A_t_past A_t_begun A_t_text A_t_wins A_t_fits false t_pasts t_thrown t_typed t_at t_letter t_one t_other t_s _ hF_48) (gV q_807 q_809 q_51 q_88 q_810) hd_X5_adds ⟨Nat.le_of_ble_eq_true rfl, Nat.le_of_ble_eq_true rfl⟩ rfl rfl rfl rfl rfl rfl rfl rfl rfl hl.1 rfl (Nat.le_of_ble_eq_true rfl) dX5_does_86 ⟨Nat.zero_le _, Nat.zero_le _⟩ (fun H locs hP hD hS => ?_)
            refine W.eq (g2 := F0 m 89 ls [.int r_46]) rfl ?_
            refine lv_pop hx hb dX5_does_89 rfl ?_
            refine lv_goto (tgt := 182) hx hb dX5_does_90 (by decide) ?_
            refine lv_iload_n hx hb dX5_does_182 rfl (lv_at hl 0 rfl) ?_
            cases hF
            exact kret_z hx hb hr hlocks hP hD hS dX5_does_183
          · replace hF := ite_t c_45 hF
            refine lv_iconst (v := 1) hx hb dX5_does_81 (by decide) ?_
            refine lv_goto (tgt := 86) hx hb dX5_does_82 (by decide) ?_
            obtain ⟨r_49, t_s_50, hF_51, hF⟩ := ob2_some hF
            refine kcV (q := (RX5, TX5, 13)) (ci := 5) (q0 := 0) (As := [.int (bI true)]) (rest := []) (wr := [(A_t_wins, .inl (cy 3, 1024, .inl (fun j => bI (t_wins j)))), (A_t_fits, .inl (cy 0, 1024, .inl t_fits))]) (wsN := (w_X5_does cy A_t A_t_s A_t_past A_t_begun A_t_text A_t_wins A_t_fits t_pasts t_thrown t_typed t_at t_letter t_one t_other t_s_50 t_wins t_fits)) ⟨hx, hb, hml, hown, hts⟩ hE hP hD hS hA hAs [0, 1] [2, 3] [2, 3, 0, 1] (c_X5_adds l D cy s0 tW N A_t A_t_s A_t_past A_t_begun A_t_text A_t_wins A_t_fits true t_pasts t_thrown t_typed t_at t_letter t_one t_other t_s _ hF_51) (gV q_807 q_809 q_51 q_88 q_810) hd_X5_adds ⟨Nat.le_of_ble_eq_true rfl, Nat.le_of_ble_eq_true rfl⟩ rfl rfl rfl rfl rfl rfl rfl rfl rfl hl.1 rfl (Nat.le_of_ble_eq_true rfl) dX5_does_86 ⟨Nat.zero_le _, Nat.zero_le _⟩ (fun H locs hP hD hS => ?_)
            refine W.eq (g2 := F0 m 89 ls [.int r_49]) rfl ?_
            refine lv_pop hx hb dX5_does_89 rfl ?_
            refine lv_goto (tgt := 182) hx hb dX5_does_90 (by decide) ?_
            refine lv_iload_n hx hb dX5_does_182 rfl (lv_at hl 0 rfl) ?_
            cases hF
            exact kret_z hx hb hr hlocks hP hD hS dX5_does_183
    · replace hF := ite_f c_1_1 hF
      by_cases c_1_2 : t_letter = (108 : Int32)
      · replace hF := ite_t c_1_2 hF
        refine lv_lookup (off := 128) (tgt := 134) hx hb dX5_does_6 (by decide) (by rw [c_1_2]; (try rfl)) (by decide) ?_
        refine lv_aload_n hx hb dX5_does_134 rfl (lv_at hl 1 rfl) ?_
        refine lv_aload_n hx hb dX5_does_135 rfl (lv_at hl 1 rfl) ?_
        refine va_get (D := D) (ci := 5) (v := .int t_one) (C := RX5) (T := TX5) (N := 13) hx hb hts inX5 hown hK hP 0 rfl rfl 9 (by decide) (hts _ q_740) (fun _ h9 => h9) rfl dX5_does_136 ?_
        obtain ⟨r_28, hF_29, hF⟩ := ob1_some hF
        refine kcV (q := (RX5, TX5, 13)) (ci := 5) (q0 := 0) (As := [.int t_one]) (rest := []) (wr := [(A_t_wins, .inl (cy 3, 1024, .inl (fun j => bI (t_wins j)))), (A_t_fits, .inl (cy 0, 1024, .inl t_fits))]) (wsN := (w_X5_does cy A_t A_t_s A_t_past A_t_begun A_t_text A_t_wins A_t_fits t_pasts t_thrown t_typed t_at t_letter t_one t_other t_s t_wins t_fits)) ⟨hx, hb, hml, hown, hts⟩ hE hP hD hS hA hAs [0, 1] [2, 3] [2, 3, 0, 1] (c_X5_whyNotLearn l D cy s0 tW N A_t A_t_s A_t_past A_t_begun A_t_text A_t_wins A_t_fits t_one t_pasts t_thrown t_typed t_at t_letter t_one t_other t_s _ hF_29) (gV q_842 q_844 q_56 q_88 q_845) hd_X5_whyNotLearn ⟨Nat.le_of_ble_eq_true rfl, Nat.le_of_ble_eq_true rfl⟩ rfl rfl rfl rfl rfl rfl rfl rfl rfl hl.1 rfl (Nat.le_of_ble_eq_true rfl) dX5_does_139 ⟨Nat.zero_le _, Nat.zero_le _⟩ (fun H locs hP hD hS => ?_)
        refine W.eq (g2 := F0 m 142 ls [.int r_28]) rfl ?_
        refine lv_if_ne (tgt := 149) hx hb dX5_does_142 (by decide) (fun c_30 => ?_) (fun c_30 => ?_)
        · replace hF := ite_f c_30 hF
          refine lv_iconst (v := 0) hx hb dX5_does_149 (by decide) ?_
          refine lv_istore_n (lv' := [(1, .int 0), (0, .ref A_t)]) hx hb dX5_does_150 rfl hl (by decide) rfl (fun ls hl => ?_)
          refine lv_aload_n hx hb dX5_does_151 rfl (lv_at hl 1 rfl) ?_
          refine va_get (D := D) (ci := 5) (v := .ref A_t_s) (C := RX5) (T := TX5) (N := 13) hx hb hts inX5 hown hK hP 0 rfl rfl 0 (by decide) (hts _ q_731) (fun _ h9 => h9) rfl dX5_does_152 ?_
          refine lv_iconst (v := 3) hx hb dX5_does_155 (by decide) ?_
          refine lv_dup2_11 hx hb dX5_does_156 rfl rfl ?_
          refine ka_iald hx hb hK hP 1 rfl (3) rfl (inb_in (by decide)) dX5_does_157 ?_
          refine lv_iload_n hx hb dX5_does_158 rfl (lv_at hl 0 rfl) ?_
          refine lv_if_eq (tgt := 171) hx hb dX5_does_159 (by decide) (fun _ => ?_) (fun h0 => absurd (by decide) h0)
          refine lv_iconst (v := 0) hx hb dX5_does_171 (by decide) ?_
          refine lv_ior hx hb dX5_does_172 ?_
          refine ka_iast (wsN := (w_X5_does cy A_t A_t_s A_t_past A_t_begun A_t_text A_t_wins A_t_fits t_pasts t_thrown t_typed t_at t_letter t_one t_other (upd t_s 3 ((t_s 3) ||| 0)) t_wins t_fits)) hx hb hK hP hD hS 1 rfl (3) rfl (inb_in (by decide)) rfl dX5_does_173 (fun H locs hP hD hS => ?_)
          refine lv_goto (tgt := 182) hx hb dX5_does_174 (by decide) ?_
          refine lv_iload_n hx hb dX5_does_182 rfl (lv_at hl 0 rfl) ?_
          cases hF
          exact kret_z hx hb hr hlocks hP hD hS dX5_does_183
        · replace hF := ite_t c_30 hF
          refine lv_iconst (v := 1) hx hb dX5_does_145 (by decide) ?_
          refine lv_goto (tgt := 150) hx hb dX5_does_146 (by decide) ?_
          refine lv_istore_n (lv' := [(1, .int 1), (0, .ref A_t)]) hx hb dX5_does_150 rfl hl (by decide) rfl (fun ls hl => ?_)
          refine lv_aload_n hx hb dX5_does_151 rfl (lv_at hl 1 rfl) ?_
          refine va_get (D := D) (ci := 5) (v := .ref A_t_s) (C := RX5) (T := TX5) (N := 13) hx hb hts inX5 hown hK hP 0 rfl rfl 0 (by decide) (hts _ q_731) (fun _ h9 => h9) rfl dX5_does_152 ?_
          refine lv_iconst (v := 3) hx hb dX5_does_155 (by decide) ?_
          refine lv_dup2_11 hx hb dX5_does_156 rfl rfl ?_
          refine ka_iald hx hb hK hP 1 rfl (3) rfl (inb_in (by decide)) dX5_does_157 ?_
          refine lv_iload_n hx hb dX5_does_158 rfl (lv_at hl 0 rfl) ?_
          refine lv_if_eq (tgt := 171) hx hb dX5_does_159 (by decide) (fun h0 => absurd h0 (by decide)) (fun _ => ?_)
          refine lv_iconst (v := 1) hx hb dX5_does_162 (by decide) ?_
          refine lv_aload_n hx hb dX5_does_163 rfl (lv_at hl 1 rfl) ?_
          refine va_get (D := D) (ci := 5) (v := .int t_one) (C := RX5) (T := TX5) (N := 13) hx hb hts inX5 hown hK hP 0 rfl rfl 9 (by decide) (hts _ q_740) (fun _ h9 => h9) rfl dX5_does_164 ?_
          refine lv_ishl hx hb dX5_does_167 ?_
          refine lv_goto (tgt := 172) hx hb dX5_does_168 (by decide) ?_
          refine lv_ior hx hb dX5_does_172 ?_
          refine ka_iast (wsN := (w_X5_does cy A_t A_t_s A_t_past A_t_begun A_t_text A_t_wins A_t_fits t_pasts t_thrown t_typed t_at t_letter t_one t_other (upd t_s 3 ((t_s 3) ||| ((1 : Int32) <<< (t_one &&& 31)))) t_wins t_fits)) hx hb hK hP hD hS 1 rfl (3) rfl (inb_in (by decide)) rfl dX5_does_173 (fun H locs hP hD hS => ?_)
          refine lv_goto (tgt := 182) hx hb dX5_does_174 (by decide) ?_
          refine lv_iload_n hx hb dX5_does_182 rfl (lv_at hl 0 rfl) ?_
          cases hF
          exact kret_z hx hb hr hlocks hP hD hS dX5_does_183
      · replace hF := ite_f c_1_2 hF
        by_cases c_1_3 : t_letter = (117 : Int32)
        · replace hF := ite_t c_1_3 hF
          refine lv_lookup (off := 42) (tgt := 48) hx hb dX5_does_6 (by decide) (by rw [c_1_3]; (try rfl)) (by decide) ?_
          refine lv_aload_n hx hb dX5_does_48 rfl (lv_at hl 1 rfl) ?_
          refine lv_aload_n hx hb dX5_does_49 rfl (lv_at hl 1 rfl) ?_
          refine va_get (D := D) (ci := 5) (v := .int t_letter) (C := RX5) (T := TX5) (N := 13) hx hb hts inX5 hown hK hP 0 rfl rfl 8 (by decide) (hts _ q_739) (fun _ h9 => h9) rfl dX5_does_50 ?_
          refine lv_bipush (v := 117) hx hb dX5_does_53 (by decide) ?_
          refine lv_icmp_ne (tgt := 62) hx hb dX5_does_55 (by decide) (fun c_7 => ?_) (fun c_7 => ?_)
          · replace hF := ite_f c_7 hF
            refine lv_iconst (v := 0) hx hb dX5_does_62 (by decide) ?_
            obtain ⟨r_8, hF_9, hF⟩ := ob1_some hF
            refine kcV (q := (RX5, TX5, 13)) (ci := 5) (q0 := 0) (As := [.int (bI false)]) (rest := []) (wr := [(A_t_wins, .inl (cy 3, 1024, .inl (fun j => bI (t_wins j)))), (A_t_fits, .inl (cy 0, 1024, .inl t_fits))]) (wsN := (w_X5_does cy A_t A_t_s A_t_past A_t_begun A_t_text A_t_wins A_t_fits t_pasts t_thrown t_typed t_at t_letter t_one t_other t_s t_wins t_fits)) ⟨hx, hb, hml, hown, hts⟩ hE hP hD hS hA hAs [0, 1] [2, 3] [2, 3, 0, 1] (c_X5_canAdd l D cy s0 tW N A_t A_t_s A_t_past A_t_begun A_t_text A_t_wins A_t_fits false t_pasts t_thrown t_typed t_at t_letter t_one t_other t_s _ hF_9) (gV q_796 q_798 q_49 q_88 q_799) hd_X5_canAdd ⟨Nat.le_of_ble_eq_true rfl, Nat.le_of_ble_eq_true rfl⟩ rfl rfl rfl rfl rfl rfl rfl rfl rfl hl.1 rfl (Nat.le_of_ble_eq_true rfl) dX5_does_63 ⟨Nat.zero_le _, Nat.zero_le _⟩ (fun H locs hP hD hS => ?_)
            refine W.eq (g2 := F0 m 66 ls [.int (bI r_8)]) rfl ?_
            refine lv_istore_n (lv' := [(1, .int (bI r_8)), (0, .ref A_t)]) hx hb dX5_does_66 rfl hl (by decide) rfl (fun ls hl => ?_)
            refine lv_iload_n hx hb dX5_does_67 rfl (lv_at hl 0 rfl) ?_
            refine lv_if_eq (tgt := 182) hx hb dX5_does_68 (by decide) (fun c_10 => ?_) (fun c_10 => ?_)
            · replace hF := ite_f (bI_f c_10) hF
              refine lv_iload_n hx hb dX5_does_182 rfl (lv_at hl 0 rfl) ?_
              cases hF
              exact kret_z hx hb hr hlocks hP hD hS dX5_does_183
            · replace hF := ite_t (bI_t c_10) hF
              refine lv_aload_n hx hb dX5_does_71 rfl (lv_at hl 1 rfl) ?_
              refine lv_aload_n hx hb dX5_does_72 rfl (lv_at hl 1 rfl) ?_
              refine va_get (D := D) (ci := 5) (v := .int t_letter) (C := RX5) (T := TX5) (N := 13) hx hb hts inX5 hown hK hP 0 rfl rfl 8 (by decide) (hts _ q_739) (fun _ h9 => h9) rfl dX5_does_73 ?_
              refine lv_bipush (v := 117) hx hb dX5_does_76 (by decide) ?_
              refine lv_icmp_ne (tgt := 85) hx hb dX5_does_78 (by decide) (fun c_11 => ?_) (fun c_11 => ?_)
              · replace hF := ite_f c_11 hF
                refine lv_iconst (v := 0) hx hb dX5_does_85 (by decide) ?_
                obtain ⟨r_12, t_s_13, hF_14, hF⟩ := ob2_some hF
                refine kcV (q := (RX5, TX5, 13)) (ci := 5) (q0 := 0) (As := [.int (bI false)]) (rest := []) (wr := [(A_t_wins, .inl (cy 3, 1024, .inl (fun j => bI (t_wins j)))), (A_t_fits, .inl (cy 0, 1024, .inl t_fits))]) (wsN := (w_X5_does cy A_t A_t_s A_t_past A_t_begun A_t_text A_t_wins A_t_fits t_pasts t_thrown t_typed t_at t_letter t_one t_other t_s_13 t_wins t_fits)) ⟨hx, hb, hml, hown, hts⟩ hE hP hD hS hA hAs [0, 1] [2, 3] [2, 3, 0, 1] (c_X5_adds l D cy s0 tW N A_t A_t_s A_t_past A_t_begun A_t_text A_t_wins A_t_fits false t_pasts t_thrown t_typed t_at t_letter t_one t_other t_s _ hF_14) (gV q_807 q_809 q_51 q_88 q_810) hd_X5_adds ⟨Nat.le_of_ble_eq_true rfl, Nat.le_of_ble_eq_true rfl⟩ rfl rfl rfl rfl rfl rfl rfl rfl rfl hl.1 rfl (Nat.le_of_ble_eq_true rfl) dX5_does_86 ⟨Nat.zero_le _, Nat.zero_le _⟩ (fun H locs hP hD hS => ?_)
                refine W.eq (g2 := F0 m 89 ls [.int r_12]) rfl ?_
                refine lv_pop hx hb dX5_does_89 rfl ?_
                refine lv_goto (tgt := 182) hx hb dX5_does_90 (by decide) ?_
                refine lv_iload_n hx hb dX5_does_182 rfl (lv_at hl 0 rfl) ?_
                cases hF
                exact kret_z hx hb hr hlocks hP hD hS dX5_does_183
              · replace hF := ite_t c_11 hF
                refine lv_iconst (v := 1) hx hb dX5_does_81 (by decide) ?_
                refine lv_goto (tgt := 86) hx hb dX5_does_82 (by decide) ?_
                obtain ⟨r_15, t_s_16, hF_17, hF⟩ := ob2_some hF
                refine kcV (q := (RX5, TX5, 13)) (ci := 5) (q0 := 0) (As := [.int (bI true)]) (rest := []) (wr := [(A_t_wins, .inl (cy 3, 1024, .inl (fun j => bI (t_wins j)))), (A_t_fits, .inl (cy 0, 1024, .inl t_fits))]) (wsN := (w_X5_does cy A_t A_t_s A_t_past A_t_begun A_t_text A_t_wins A_t_fits t_pasts t_thrown t_typed t_at t_letter t_one t_other t_s_16 t_wins t_fits)) ⟨hx, hb, hml, hown, hts⟩ hE hP hD hS hA hAs [0, 1] [2, 3] [2, 3, 0, 1] (c_X5_adds l D cy s0 tW N A_t A_t_s A_t_past A_t_begun A_t_text A_t_wins A_t_fits true t_pasts t_thrown t_typed t_at t_letter t_one t_other t_s _ hF_17) (gV q_807 q_809 q_51 q_88 q_810) hd_X5_adds ⟨Nat.le_of_ble_eq_true rfl, Nat.le_of_ble_eq_true rfl⟩ rfl rfl rfl rfl rfl rfl rfl rfl rfl hl.1 rfl (Nat.le_of_ble_eq_true rfl) dX5_does_86 ⟨Nat.zero_le _, Nat.zero_le _⟩ (fun H locs hP hD hS => ?_)
                refine W.eq (g2 := F0 m 89 ls [.int r_15]) rfl ?_
                refine lv_pop hx hb dX5_does_89 rfl ?_
                refine lv_goto (tgt := 182) hx hb dX5_does_90 (by decide) ?_
                refine lv_iload_n hx hb dX5_does_182 rfl (lv_at hl 0 rfl) ?_
                cases hF
                exact kret_z hx hb hr hlocks hP hD hS dX5_does_183
          · replace hF := ite_t c_7 hF
            refine lv_iconst (v := 1) hx hb dX5_does_58 (by decide) ?_
            refine lv_goto (tgt := 63) hx hb dX5_does_59 (by decide) ?_
            obtain ⟨r_18, hF_19, hF⟩ := ob1_some hF
            refine kcV (q := (RX5, TX5, 13)) (ci := 5) (q0 := 0) (As := [.int (bI true)]) (rest := []) (wr := [(A_t_wins, .inl (cy 3, 1024, .inl (fun j => bI (t_wins j)))), (A_t_fits, .inl (cy 0, 1024, .inl t_fits))]) (wsN := (w_X5_does cy A_t A_t_s A_t_past A_t_begun A_t_text A_t_wins A_t_fits t_pasts t_thrown t_typed t_at t_letter t_one t_other t_s t_wins t_fits)) ⟨hx, hb, hml, hown, hts⟩ hE hP hD hS hA hAs [0, 1] [2, 3] [2, 3, 0, 1] (c_X5_canAdd l D cy s0 tW N A_t A_t_s A_t_past A_t_begun A_t_text A_t_wins A_t_fits true t_pasts t_thrown t_typed t_at t_letter t_one t_other t_s _ hF_19) (gV q_796 q_798 q_49 q_88 q_799) hd_X5_canAdd ⟨Nat.le_of_ble_eq_true rfl, Nat.le_of_ble_eq_true rfl⟩ rfl rfl rfl rfl rfl rfl rfl rfl rfl hl.1 rfl (Nat.le_of_ble_eq_true rfl) dX5_does_63 ⟨Nat.zero_le _, Nat.zero_le _⟩ (fun H locs hP hD hS => ?_)
            refine W.eq (g2 := F0 m 66 ls [.int (bI r_18)]) rfl ?_
            refine lv_istore_n (lv' := [(1, .int (bI r_18)), (0, .ref A_t)]) hx hb dX5_does_66 rfl hl (by decide) rfl (fun ls hl => ?_)
            refine lv_iload_n hx hb dX5_does_67 rfl (lv_at hl 0 rfl) ?_
            refine lv_if_eq (tgt := 182) hx hb dX5_does_68 (by decide) (fun c_20 => ?_) (fun c_20 => ?_)
            · replace hF := ite_f (bI_f c_20) hF
              refine lv_iload_n hx hb dX5_does_182 rfl (lv_at hl 0 rfl) ?_
              cases hF
              exact kret_z hx hb hr hlocks hP hD hS dX5_does_183
            · replace hF := ite_t (bI_t c_20) hF
              refine lv_aload_n hx hb dX5_does_71 rfl (lv_at hl 1 rfl) ?_
              refine lv_aload_n hx hb dX5_does_72 rfl (lv_at hl 1 rfl) ?_
              refine va_get (D := D) (ci := 5) (v := .int t_letter) (C := RX5) (T := TX5) (N := 13) hx hb hts inX5 hown hK hP 0 rfl rfl 8 (by decide) (hts _ q_739) (fun _ h9 => h9) rfl dX5_does_73 ?_
              refine lv_bipush (v := 117) hx hb dX5_does_76 (by decide) ?_
              refine lv_icmp_ne (tgt := 85) hx hb dX5_does_78 (by decide) (fun c_21 => ?_) (fun c_21 => ?_)
              · replace hF := ite_f c_21 hF
                refine lv_iconst (v := 0) hx hb dX5_does_85 (by decide) ?_
                obtain ⟨r_22, t_s_23, hF_24, hF⟩ := ob2_some hF
                refine kcV (q := (RX5, TX5, 13)) (ci := 5) (q0 := 0) (As := [.int (bI false)]) (rest := []) (wr := [(A_t_wins, .inl (cy 3, 1024, .inl (fun j => bI (t_wins j)))), (A_t_fits, .inl (cy 0, 1024, .inl t_fits))]) (wsN := (w_X5_does cy A_t A_t_s A_t_past A_t_begun A_t_text A_t_wins A_t_fits t_pasts t_thrown t_typed t_at t_letter t_one t_other t_s_23 t_wins t_fits)) ⟨hx, hb, hml, hown, hts⟩ hE hP hD hS hA hAs [0, 1] [2, 3] [2, 3, 0, 1] (c_X5_adds l D cy s0 tW N A_t A_t_s A_t_past A_t_begun A_t_text A_t_wins A_t_fits false t_pasts t_thrown t_typed t_at t_letter t_one t_other t_s _ hF_24) (gV q_807 q_809 q_51 q_88 q_810) hd_X5_adds ⟨Nat.le_of_ble_eq_true rfl, Nat.le_of_ble_eq_true rfl⟩ rfl rfl rfl rfl rfl rfl rfl rfl rfl hl.1 rfl (Nat.le_of_ble_eq_true rfl) dX5_does_86 ⟨Nat.zero_le _, Nat.zero_le _⟩ (fun H locs hP hD hS => ?_)
                refine W.eq (g2 := F0 m 89 ls [.int r_22]) rfl ?_
                refine lv_pop hx hb dX5_does_89 rfl ?_
                refine lv_goto (tgt := 182) hx hb dX5_does_90 (by decide) ?_
                refine lv_iload_n hx hb dX5_does_182 rfl (lv_at hl 0 rfl) ?_
                cases hF
                exact kret_z hx hb hr hlocks hP hD hS dX5_does_183
              · replace hF := ite_t c_21 hF
                refine lv_iconst (v := 1) hx hb dX5_does_81 (by decide) ?_
                refine lv_goto (tgt := 86) hx hb dX5_does_82 (by decide) ?_
                obtain ⟨r_25, t_s_26, hF_27, hF⟩ := ob2_some hF
                refine kcV (q := (RX5, TX5, 13)) (ci := 5) (q0 := 0) (As := [.int (bI true)]) (rest := []) (wr := [(A_t_wins, .inl (cy 3, 1024, .inl (fun j => bI (t_wins j)))), (A_t_fits, .inl (cy 0, 1024, .inl t_fits))]) (wsN := (w_X5_does cy A_t A_t_s A_t_past A_t_begun A_t_text A_t_wins A_t_fits t_pasts t_thrown t_typed t_at t_letter t_one t_other t_s_26 t_wins t_fits)) ⟨hx, hb, hml, hown, hts⟩ hE hP hD hS hA hAs [0, 1] [2, 3] [2, 3, 0, 1] (c_X5_adds l D cy s0 tW N A_t A_t_s A_t_past A_t_begun A_t_text A_t_wins A_t_fits true t_pasts t_thrown t_typed t_at t_letter t_one t_other t_s _ hF_27) (gV q_807 q_809 q_51 q_88 q_810) hd_X5_adds ⟨Nat.le_of_ble_eq_true rfl, Nat.le_of_ble_eq_true rfl⟩ rfl rfl rfl rfl rfl rfl rfl rfl rfl hl.1 rfl (Nat.le_of_ble_eq_true rfl) dX5_does_86 ⟨Nat.zero_le _, Nat.zero_le _⟩ (fun H locs hP hD hS => ?_)
                refine W.eq (g2 := F0 m 89 ls [.int r_25]) rfl ?_
                refine lv_pop hx hb dX5_does_89 rfl ?_
                refine lv_goto (tgt := 182) hx hb dX5_does_90 (by decide) ?_
                refine lv_iload_n hx hb dX5_does_182 rfl (lv_at hl 0 rfl) ?_
                cases hF
                exact kret_z hx hb hr hlocks hP hD hS dX5_does_183
        · replace hF := ite_f c_1_3 hF
          refine lv_lookup (off := 171) (tgt := 177) hx hb dX5_does_6 (by decide) (by show Op.lookupswitch.offset [(99, 87), (101, 42), (108, 128), (117, 42)] 171 (t_letter : Int32).toInt = 171; rw [lv_osw (a := 99) c_1_0 (by decide), lv_osw (a := 101) c_1_1 (by decide), lv_osw (a := 108) c_1_2 (by decide), lv_osw (a := 117) c_1_3 (by decide)]; (try rfl)) (by decide) ?_
          refine lv_aload_n hx hb dX5_does_177 rfl (lv_at hl 1 rfl) ?_
          obtain ⟨r_2, t_s_3, t_wins_4, t_fits_5, hF_6, hF⟩ := ob4_some hF
          refine kcV (q := (RX5, TX5, 13)) (ci := 5) (q0 := 0) (As := []) (rest := []) (wr := []) (wsN := (w_X5_does cy A_t A_t_s A_t_past A_t_begun A_t_text A_t_wins A_t_fits t_pasts t_thrown t_typed t_at t_letter t_one t_other t_s_3 t_wins_4 t_fits_5)) ⟨hx, hb, hml, hown, hts⟩ hE hP hD hS hA hAs [0, 1, 2, 3] [] [0, 1, 2, 3] (c_X5_rounds l D cy s0 tW N A_t A_t_s A_t_past A_t_begun A_t_text A_t_wins A_t_fits t_pasts t_thrown t_typed t_at t_letter t_one t_other t_s t_wins t_fits _ hF_6) (gV q_862 q_864 q_59 q_88 q_865) hd_X5_rounds ⟨Nat.le_of_ble_eq_true rfl, Nat.le_of_ble_eq_true rfl⟩ rfl rfl rfl rfl rfl rfl rfl rfl rfl hl.1 rfl (Nat.le_of_ble_eq_true rfl) dX5_does_178 ⟨Nat.zero_le _, Nat.zero_le _⟩ (fun H locs hP hD hS => ?_)
          refine W.eq (g2 := F0 m 181 ls [.int r_2]) rfl ?_
          refine lv_pop hx hb dX5_does_181 rfl ?_
          refine lv_iload_n hx hb dX5_does_182 rfl (lv_at hl 0 rfl) ?_
          cases hF
          exact kret_z hx hb hr hlocks hP hD hS dX5_does_183

theorem q_76 : Cond.selects RX5 yX5_wrong yX5_wrong ∈ wAll := wAll_mem 76 (by decide +kernel) (by decide +kernel)
theorem q_81 : Cond.selects RX5 yX5_does yX5_does ∈ wAll := wAll_mem 81 (by decide +kernel) (by decide +kernel)
theorem q_1002 : Cond.methodLink RX5 168 yX5_wrong ∈ wAll := wAll_mem 1002 (by decide +kernel) (by decide +kernel)
theorem q_1004 : Cond.instanceMethod yX5_wrong ∈ wAll := wAll_mem 1004 (by decide +kernel) (by decide +kernel)
theorem q_1005 : Cond.code yX5_wrong cX5_wrong 1 (some .int) ∈ wAll := wAll_mem 1005 (by decide +kernel) (by decide +kernel)
theorem q_1022 : Cond.methodLink RX5 171 yX5_does ∈ wAll := wAll_mem 1022 (by decide +kernel) (by decide +kernel)
theorem q_1024 : Cond.instanceMethod yX5_does ∈ wAll := wAll_mem 1024 (by decide +kernel) (by decide +kernel)
theorem q_1025 : Cond.code yX5_does cX5_does 2 (some .boolean) ∈ wAll := wAll_mem 1025 (by decide +kernel) (by decide +kernel)
theorem hd_X5_does : yX5_does.cls = RX5 ∧ yX5_does.cls ≠ "java/lang/invoke/MethodHandle" ∧ yX5_does.cls ≠ "java/lang/invoke/VarHandle" ∧ (parseMethodDescriptor yX5_does.desc).map (fun d => d.parameters.length) = some 0 := by decide +kernel
theorem hd_X5_wrong : yX5_wrong.cls = RX5 ∧ yX5_wrong.cls ≠ "java/lang/invoke/MethodHandle" ∧ yX5_wrong.cls ≠ "java/lang/invoke/VarHandle" ∧ (parseMethodDescriptor yX5_wrong.desc).map (fun d => d.parameters.length) = some 0 := by decide +kernel
abbrev w_X5_carryOut (cy : Nat → ClassId) (A_t : Nat) (A_t_s : Nat) (A_t_past : Nat) (A_t_begun : Nat) (A_t_text : Nat) (A_t_wins : Nat) (A_t_fits : Nat) (t_pasts : Int32) (t_thrown : Int32) (t_typed : Int32) (t_at : Int32) (t_letter : Int32) (t_one : Int32) (t_other : Int32) (t_s : Nat → Int32) (t_past : Nat → Int32) (t_begun : Nat → Int32) (t_text : Nat → Int32) (t_wins : Nat → Bool) (t_fits : Nat → Int32) : va_W := [(A_t, .inr (5, [.ref A_t_s, .ref A_t_past, .ref A_t_begun, .int t_pasts, .int t_thrown, .ref A_t_text, .int t_typed, .int t_at, .int t_letter, .int t_one, .int t_other, .ref A_t_wins, .ref A_t_fits])), (A_t_s, .inl (cy 0, 45, .inl t_s)), (A_t_past, .inl (cy 0, 180, .inl t_past)), (A_t_begun, .inl (cy 0, 45, .inl t_begun)), (A_t_text, .inl (cy 2, 100, .inl t_text)), (A_t_wins, .inl (cy 3, 1024, .inl (fun j => bI (t_wins j)))), (A_t_fits, .inl (cy 0, 1024, .inl t_fits))]
def L_X5_carryOut_31 (N : Nat) (t_typed : Int32) (t_text : Nat → Int32) (kont : Int32 → (Nat → Int32) → Int32 → Int32 → Int32 → Int32 → (Nat → Bool) → (Nat → Int32) → Option (Int32 × (Nat → Int32) × (Nat → Int32) × (Nat → Int32) × Int32 × Int32 × Int32 × Int32 × Int32 × Int32 × (Nat → Bool) × (Nat → Int32))) : Nat → Int32 → Bool → (Nat → Int32) → Int32 → Int32 → Int32 → Int32 → (Nat → Bool) → (Nat → Int32) → Option (Int32 × (Nat → Int32) × (Nat → Int32) × (Nat → Int32) × Int32 × Int32 × Int32 × Int32 × Int32 × Int32 × (Nat → Bool) × (Nat → Int32))
  | 0, _, _, _, _, _, _, _, _, _ => none
  | n + 1, v2_10, v3_11, t_s_12, t_at_13, t_letter_14, t_one_15, t_other_16, t_wins_17, t_fits_18 => (if t_typed ≤ t_at_13 then kont v2_10 t_s_12 t_at_13 t_letter_14 t_one_15 t_other_16 t_wins_17 t_fits_18 else (if v3_11 = true then ob5 (F_X5_reads N t_text t_typed t_at_13 t_letter_14 t_one_15 t_other_16) (fun r_29 t_at_30 t_letter_31 t_one_32 t_other_33 => ob4 (F_X5_does N t_s_12 t_letter_31 t_one_32 t_other_33 t_wins_17 t_fits_18) (fun r_35 t_s_36 t_wins_37 t_fits_38 => (if r_35 = true then L_X5_carryOut_31 N t_typed t_text kont n (v2_10 + 1) r_35 t_s_36 t_at_30 t_letter_31 t_one_32 t_other_33 t_wins_37 t_fits_38 else L_X5_carryOut_31 N t_typed t_text kont n (v2_10 + 0) r_35 t_s_36 t_at_30 t_letter_31 t_one_32 t_other_33 t_wins_37 t_fits_38))) else kont v2_10 t_s_12 t_at_13 t_letter_14 t_one_15 t_other_16 t_wins_17 t_fits_18))
def F_X5_carryOut (N : Nat) (t_s : Nat → Int32) (t_past : Nat → Int32) (t_begun : Nat → Int32) (t_pasts : Int32) (t_thrown : Int32) (t_text : Nat → Int32) (t_typed : Int32) (t_at : Int32) (t_letter : Int32) (t_one : Int32) (t_other : Int32) (t_wins : Nat → Bool) (t_fits : Nat → Int32) : Option (Int32 × (Nat → Int32) × (Nat → Int32) × (Nat → Int32) × Int32 × Int32 × Int32 × Int32 × Int32 × Int32 × (Nat → Bool) × (Nat → Int32)) :=
  ob5 (F_X5_wrong N t_text t_typed t_at t_letter t_one t_other) (fun r_1 t_at_2 t_letter_3 t_one_4 t_other_5 => (if r_1 < (0 : Int32) then ob1 (F_X5_begins N t_s t_begun) (fun t_begun_8 => (L_X5_carryOut_31 N t_typed t_text (fun u2_19 t_s_20 t_at_21 t_letter_22 t_one_23 t_other_24 t_wins_25 t_fits_26 => ob4 (F_X5_saved N u2_19 t_past t_begun_8 t_pasts t_thrown) (fun r_41 t_past_42 t_pasts_43 t_thrown_44 => some (r_41, t_s_20, t_past_42, t_begun_8, t_pasts_43, t_thrown_44, t_at_21, t_letter_22, t_one_23, t_other_24, t_wins_25, t_fits_26))) N 0 true t_s 0 t_letter_3 t_one_4 t_other_5 t_wins t_fits)) else ob2 (F_X5_tells N ((-10) - r_1) t_thrown) (fun r_46 t_thrown_47 => some (r_46, t_s, t_past, t_begun, t_pasts, t_thrown_47, t_at_2, t_letter_3, t_one_4, t_other_5, t_wins, t_fits))))
set_option maxHeartbeats 4000000 in
set_option maxRecDepth 100000 in
theorem c_X5_carryOut (l : Launch) (D : va_G) (cy : Nat → ClassId) (s0 tW N : Nat) (A_t : Nat) (A_t_s : Nat) (A_t_past : Nat) (A_t_begun : Nat) (A_t_text : Nat) (A_t_wins : Nat) (A_t_fits : Nat) (t_pasts : Int32) (t_thrown : Int32) (t_typed : Int32) (t_at : Int32) (t_letter : Int32) (t_one : Int32) (t_other : Int32) (t_s : Nat → Int32) (t_past : Nat → Int32) (t_begun : Nat → Int32) (t_text : Nat → Int32) (t_wins : Nat → Bool) (t_fits : Nat → Int32) (sz : Nat) {r9 : Int32} {t_s9 : Nat → Int32} {t_past9 : Nat → Int32} {t_begun9 : Nat → Int32} {t_pasts9 : Int32} {t_thrown9 : Int32} {t_at9 : Int32} {t_letter9 : Int32} {t_one9 : Int32} {t_other9 : Int32} {t_wins9 : Nat → Bool} {t_fits9 : Nat → Int32} (hF : F_X5_carryOut N t_s t_past t_begun t_pasts t_thrown t_text t_typed t_at t_letter t_one t_other t_wins t_fits = some (r9, t_s9, t_past9, t_begun9, t_pasts9, t_thrown9, t_at9, t_letter9, t_one9, t_other9, t_wins9, t_fits9)) : KM l D cy s0 tW yX5_carryOut cX5_carryOut 4 (some .int) 5 113 [.ref A_t] sz (w_X5_carryOut cy A_t A_t_s A_t_past A_t_begun A_t_text A_t_wins A_t_fits t_pasts t_thrown t_typed t_at t_letter t_one t_other t_s t_past t_begun t_text t_wins t_fits) (some (.int r9)) (w_X5_carryOut cy A_t A_t_s A_t_past A_t_begun A_t_text A_t_wins A_t_fits t_pasts9 t_thrown9 t_typed t_at9 t_letter9 t_one9 t_other9 t_s9 t_past9 t_begun9 t_text t_wins9 t_fits9) := by
  refine KM.intro rfl (Nat.le_of_ble_eq_true rfl) ?_
  intro p e s m args below meth c A ls hx hb hr hml hown hts hlocks hE hP hD hS hA hAs hl
  have hK := hE.1
  have hl : lv_has ls 4 [(0, .ref A_t)] := hl
  unfold F_X5_carryOut at hF
  refine lv_aload_n hx hb dX5_carryOut_0 rfl (lv_at hl 0 rfl) ?_
  obtain ⟨r_1, t_at_2, t_letter_3, t_one_4, t_other_5, hF_6, hF⟩ := ob5_some hF
  refine kcV (q := (RX5, TX5, 13)) (ci := 5) (q0 := 0) (As := []) (rest := []) (wr := [(A_t_s, .inl (cy 0, 45, .inl t_s)), (A_t_past, .inl (cy 0, 180, .inl t_past)), (A_t_begun, .inl (cy 0, 45, .inl t_begun)), (A_t_wins, .inl (cy 3, 1024, .inl (fun j => bI (t_wins j)))), (A_t_fits, .inl (cy 0, 1024, .inl t_fits))]) (wsN := (w_X5_carryOut cy A_t A_t_s A_t_past A_t_begun A_t_text A_t_wins A_t_fits t_pasts t_thrown t_typed t_at_2 t_letter_3 t_one_4 t_other_5 t_s t_past t_begun t_text t_wins t_fits)) ⟨hx, hb, hml, hown, hts⟩ hE hP hD hS hA hAs [0, 4] [1, 2, 3, 5, 6] [5, 0, 1, 2, 6, 3, 4] (c_X5_wrong l D cy s0 tW N A_t A_t_s A_t_past A_t_begun A_t_text A_t_wins A_t_fits t_pasts t_thrown t_typed t_at t_letter t_one t_other t_text _ hF_6) (gV q_1002 q_1004 q_76 q_88 q_1005) hd_X5_wrong ⟨Nat.le_of_ble_eq_true rfl, Nat.le_of_ble_eq_true rfl⟩ rfl rfl rfl rfl rfl rfl rfl rfl rfl hl.1 rfl (Nat.le_of_ble_eq_true rfl) dX5_carryOut_1 ⟨Nat.zero_le _, Nat.zero_le _⟩ (fun H locs hP hD hS => ?_)
  refine W.eq (g2 := F0 m 4 ls [.int r_1]) rfl ?_
  refine lv_istore_n (lv' := [(1, .int r_1), (0, .ref A_t)]) hx hb dX5_carryOut_4 rfl hl (by decide) rfl (fun ls hl => ?_)
  refine lv_iload_n hx hb dX5_carryOut_5 rfl (lv_at hl 0 rfl) ?_
  refine lv_if_lt (tgt := 18) hx hb dX5_carryOut_6 (by decide) (fun c_7 => ?_) (fun c_7 => ?_)
  · replace hF := ite_t c_7 hF
    refine lv_aload_n hx hb dX5_carryOut_18 rfl (lv_at hl 1 rfl) ?_
    obtain ⟨t_begun_8, hF_9, hF⟩ := ob1_some hF
    refine kcV (q := (RX5, TX5, 13)) (ci := 5) (q0 := 0) (As := []) (rest := []) (wr := [(A_t_past, .inl (cy 0, 180, .inl t_past)), (A_t_text, .inl (cy 2, 100, .inl t_text)), (A_t_wins, .inl (cy 3, 1024, .inl (fun j => bI (t_wins j)))), (A_t_fits, .inl (cy 0, 1024, .inl t_fits))]) (wsN := (w_X5_carryOut cy A_t A_t_s A_t_past A_t_begun A_t_text A_t_wins A_t_fits t_pasts t_thrown t_typed t_at_2 t_letter_3 t_one_4 t_other_5 t_s t_past t_begun_8 t_text t_wins t_fits)) ⟨hx, hb, hml, hown, hts⟩ hE hP hD hS hA hAs [0, 1, 3] [2, 4, 5, 6] [4, 5, 0, 6, 1, 2, 3] (c_X5_begins l D cy s0 tW N A_t A_t_s A_t_past A_t_begun A_t_text A_t_wins A_t_fits t_pasts t_thrown t_typed t_at_2 t_letter_3 t_one_4 t_other_5 t_s t_begun _ hF_9) (gV q_780 q_782 q_46 q_88 q_783) hd_X5_begins ⟨Nat.le_of_ble_eq_true rfl, Nat.le_of_ble_eq_true rfl⟩ rfl rfl rfl rfl rfl rfl rfl rfl rfl hl.1 rfl (Nat.le_of_ble_eq_true rfl) dX5_carryOut_19 ⟨Nat.zero_le _, Nat.zero_le _⟩ (fun H locs hP hD hS => ?_)
    refine W.eq (g2 := F0 m 22 ls []) rfl ?_
    refine lv_aload_n hx hb dX5_carryOut_22 rfl (lv_at hl 1 rfl) ?_
    refine lv_iconst (v := 0) hx hb dX5_carryOut_23 (by decide) ?_
    refine ka_put (ci := 5) (v := .int 0) (ty := .int) (C := RX5) (T := TX5) (N := 13) (wsN := (w_X5_carryOut cy A_t A_t_s A_t_past A_t_begun A_t_text A_t_wins A_t_fits t_pasts t_thrown t_typed 0 t_letter_3 t_one_4 t_other_5 t_s t_past t_begun_8 t_text t_wins t_fits)) hx hb hts inX5 tyX5 tyX5_ok nmX5 hown hK hP hD hS 0 rfl rfl 7 (by decide) (hts _ q_738) (fun _ h9 => h9) rfl (by decide +kernel) rfl rfl (Nat.le_of_ble_eq_true rfl) rfl dX5_carryOut_24 (fun H locs hP hD hS => ?_)
    refine lv_iconst (v := 0) hx hb dX5_carryOut_27 (by decide) ?_
    refine lv_istore_n (lv' := [(2, .int 0), (1, .int r_1), (0, .ref A_t)]) hx hb dX5_carryOut_28 rfl hl (by decide) rfl (fun ls hl => ?_)
    refine lv_iconst (v := 1) hx hb dX5_carryOut_29 (by decide) ?_
    refine lv_istore_n (lv' := [(3, .int 1), (2, .int 0), (1, .int r_1), (0, .ref A_t)]) hx hb dX5_carryOut_30 rfl hl (by decide) rfl (fun ls hl => ?_)
    have hloop_31 : ∀ (kont : Int32 → (Nat → Int32) → Int32 → Int32 → Int32 → Int32 → (Nat → Bool) → (Nat → Int32) → Option (Int32 × (Nat → Int32) × (Nat → Int32) × (Nat → Int32) × Int32 × Int32 × Int32 × Int32 × Int32 × Int32 × (Nat → Bool) × (Nat → Int32))), (∀ (u2_19 : Int32) (t_s_20 : Nat → Int32) (t_at_21 : Int32) (t_letter_22 : Int32) (t_one_23 : Int32) (t_other_24 : Int32) (t_wins_25 : Nat → Bool) (t_fits_26 : Nat → Int32) (H : Heap) (locs : List Loc) (ls : Array Slot), kont u2_19 t_s_20 t_at_21 t_letter_22 t_one_23 t_other_24 t_wins_25 t_fits_26 = some (r9, t_s9, t_past9, t_begun9, t_pasts9, t_thrown9, t_at9, t_letter9, t_one9, t_other9, t_wins9, t_fits9) → va_P D vwCl (w_X5_carryOut cy A_t A_t_s A_t_past A_t_begun A_t_text A_t_wins A_t_fits t_pasts t_thrown t_typed t_at_21 t_letter_22 t_one_23 t_other_24 t_s_20 t_past t_begun_8 t_text t_wins_25 t_fits_26) H → va_D A (w_X5_carryOut cy A_t A_t_s A_t_past A_t_begun A_t_text A_t_wins A_t_fits t_pasts t_thrown t_typed t_at_21 t_letter_22 t_one_23 t_other_24 t_s_20 t_past t_begun_8 t_text t_wins_25 t_fits_26) → va_S A s.heap H locs → lv_has ls 4 [(0, .ref A_t), (2, .int u2_19)] → W p l e (rmK 5 113) s m args below meth c H locs 0 0 (MQ below (kQ (some (.int r9)) D A (w_X5_carryOut cy A_t A_t_s A_t_past A_t_begun A_t_text A_t_wins A_t_fits t_pasts9 t_thrown9 t_typed t_at9 t_letter9 t_one9 t_other9 t_s9 t_past9 t_begun9 t_text t_wins9 t_fits9)) args s 0 0 A) (F0 m 71 ls [])) → ∀ (n : Nat) (v2_10 : Int32) (v3_11 : Bool) (t_s_12 : Nat → Int32) (t_at_13 : Int32) (t_letter_14 : Int32) (t_one_15 : Int32) (t_other_16 : Int32) (t_wins_17 : Nat → Bool) (t_fits_18 : Nat → Int32) (H : Heap) (locs : List Loc) (ls : Array Slot), L_X5_carryOut_31 N t_typed t_text kont n v2_10 v3_11 t_s_12 t_at_13 t_letter_14 t_one_15 t_other_16 t_wins_17 t_fits_18 = some (r9, t_s9, t_past9, t_begun9, t_pasts9, t_thrown9, t_at9, t_letter9, t_one9, t_other9, t_wins9, t_fits9) → va_P D vwCl (w_X5_carryOut cy A_t A_t_s A_t_past A_t_begun A_t_text A_t_wins A_t_fits t_pasts t_thrown t_typed t_at_13 t_letter_14 t_one_15 t_other_16 t_s_12 t_past t_begun_8 t_text t_wins_17 t_fits_18) H → va_D A (w_X5_carryOut cy A_t A_t_s A_t_past A_t_begun A_t_text A_t_wins A_t_fits t_pasts t_thrown t_typed t_at_13 t_letter_14 t_one_15 t_other_16 t_s_12 t_past t_begun_8 t_text t_wins_17 t_fits_18) → va_S A s.heap H locs → lv_has ls 4 [(0, .ref A_t), (2, .int v2_10), (3, .int (bI v3_11))] → W p l e (rmK 5 113) s m args below meth c H locs 0 0 (MQ below (kQ (some (.int r9)) D A (w_X5_carryOut cy A_t A_t_s A_t_past A_t_begun A_t_text A_t_wins A_t_fits t_pasts9 t_thrown9 t_typed t_at9 t_letter9 t_one9 t_other9 t_s9 t_past9 t_begun9 t_text t_wins9 t_fits9)) args s 0 0 A) (F0 m 31 ls []) := by
      intro kont hexit_31 n
      induction n with
      | zero =>
        intro v2_10 v3_11 t_s_12 t_at_13 t_letter_14 t_one_15 t_other_16 t_wins_17 t_fits_18 H locs ls hF
        rw [L_X5_carryOut_31] at hF
        cases hF
      | succ n ih =>
        intro v2_10 v3_11 t_s_12 t_at_13 t_letter_14 t_one_15 t_other_16 t_wins_17 t_fits_18 H locs ls hF hP hD hS hl
        rw [L_X5_carryOut_31] at hF
        refine lv_aload_n hx hb dX5_carryOut_31 rfl (lv_at hl 0 rfl) ?_
        refine va_get (D := D) (ci := 5) (v := .int t_at_13) (C := RX5) (T := TX5) (N := 13) hx hb hts inX5 hown hK hP 0 rfl rfl 7 (by decide) (hts _ q_738) (fun _ h9 => h9) rfl dX5_carryOut_32 ?_
        refine lv_aload_n hx hb dX5_carryOut_35 rfl (lv_at hl 0 rfl) ?_
        refine va_get (D := D) (ci := 5) (v := .int t_typed) (C := RX5) (T := TX5) (N := 13) hx hb hts inX5 hown hK hP 0 rfl rfl 6 (by decide) (hts _ q_737) (fun _ h9 => h9) rfl dX5_carryOut_36 ?_
        refine lv_icmp_ge (tgt := 71) hx hb dX5_carryOut_39 (by decide) (fun c_27 => ?_) (fun c_27 => ?_)
        · replace hF := ite_t c_27 hF
          exact hexit_31 v2_10 t_s_12 t_at_13 t_letter_14 t_one_15 t_other_16 t_wins_17 t_fits_18 H locs ls hF hP hD hS (lv_sub hl [0, 1] rfl)
        · replace hF := ite_f c_27 hF
          refine lv_iload_n hx hb dX5_carryOut_42 rfl (lv_at hl 2 rfl) ?_
          refine lv_if_eq (tgt := 71) hx hb dX5_carryOut_43 (by decide) (fun c_28 => ?_) (fun c_28 => ?_)
          · replace hF := ite_f (bI_f c_28) hF
            exact hexit_31 v2_10 t_s_12 t_at_13 t_letter_14 t_one_15 t_other_16 t_wins_17 t_fits_18 H locs ls hF hP hD hS (lv_sub hl [0, 1] rfl)
          · replace hF := ite_t (bI_t c_28) hF
            refine lv_aload_n hx hb dX5_carryOut_46 rfl (lv_at hl 0 rfl) ?_
            obtain ⟨r_29, t_at_30, t_letter_31, t_one_32, t_other_33, hF_34, hF⟩ := ob5_some hF
            refine kcV (q := (RX5, TX5, 13)) (ci := 5) (q0 := 0) (As := []) (rest := []) (wr := [(A_t_s, .inl (cy 0, 45, .inl t_s_12)), (A_t_past, .inl (cy 0, 180, .inl t_past)), (A_t_begun, .inl (cy 0, 45, .inl t_begun_8)), (A_t_wins, .inl (cy 3, 1024, .inl (fun j => bI (t_wins_17 j)))), (A_t_fits, .inl (cy 0, 1024, .inl t_fits_18))]) (wsN := (w_X5_carryOut cy A_t A_t_s A_t_past A_t_begun A_t_text A_t_wins A_t_fits t_pasts t_thrown t_typed t_at_30 t_letter_31 t_one_32 t_other_33 t_s_12 t_past t_begun_8 t_text t_wins_17 t_fits_18)) ⟨hx, hb, hml, hown, hts⟩ hE hP hD hS hA hAs [0, 4] [1, 2, 3, 5, 6] [5, 0, 1, 2, 6, 3, 4] (c_X5_reads l D cy s0 tW N A_t A_t_s A_t_past A_t_begun A_t_text A_t_wins A_t_fits t_pasts t_thrown t_typed t_at_13 t_letter_14 t_one_15 t_other_16 t_text _ hF_34) (gV q_1006 q_1008 q_77 q_88 q_1009) hd_X5_reads ⟨Nat.le_of_ble_eq_true rfl, Nat.le_of_ble_eq_true rfl⟩ rfl rfl rfl rfl rfl rfl rfl rfl rfl hl.1 rfl (Nat.le_of_ble_eq_true rfl) dX5_carryOut_47 ⟨Nat.zero_le _, Nat.zero_le _⟩ (fun H locs hP hD hS => ?_)
            refine W.eq (g2 := F0 m 50 ls [.int (bI r_29)]) rfl ?_
            refine lv_pop hx hb dX5_carryOut_50 rfl ?_
            refine lv_aload_n hx hb dX5_carryOut_51 rfl (lv_at hl 0 rfl) ?_
            obtain ⟨r_35, t_s_36, t_wins_37, t_fits_38, hF_39, hF⟩ := ob4_some hF
            refine kcV (q := (RX5, TX5, 13)) (ci := 5) (q0 := 0) (As := []) (rest := []) (wr := [(A_t_past, .inl (cy 0, 180, .inl t_past)), (A_t_begun, .inl (cy 0, 45, .inl t_begun_8)), (A_t_text, .inl (cy 2, 100, .inl t_text))]) (wsN := (w_X5_carryOut cy A_t A_t_s A_t_past A_t_begun A_t_text A_t_wins A_t_fits t_pasts t_thrown t_typed t_at_30 t_letter_31 t_one_32 t_other_33 t_s_36 t_past t_begun_8 t_text t_wins_37 t_fits_38)) ⟨hx, hb, hml, hown, hts⟩ hE hP hD hS hA hAs [0, 1, 5, 6] [2, 3, 4] [3, 4, 0, 1, 2, 5, 6] (c_X5_does l D cy s0 tW N A_t A_t_s A_t_past A_t_begun A_t_text A_t_wins A_t_fits t_pasts t_thrown t_typed t_at_30 t_letter_31 t_one_32 t_other_33 t_s_12 t_wins_17 t_fits_18 _ hF_39) (gV q_1022 q_1024 q_81 q_88 q_1025) hd_X5_does ⟨Nat.le_of_ble_eq_true rfl, Nat.le_of_ble_eq_true rfl⟩ rfl rfl rfl rfl rfl rfl rfl rfl rfl hl.1 rfl (Nat.le_of_ble_eq_true rfl) dX5_carryOut_52 ⟨Nat.zero_le _, Nat.zero_le _⟩ (fun H locs hP hD hS => ?_)
            refine W.eq (g2 := F0 m 55 ls [.int (bI r_35)]) rfl ?_
            refine lv_istore_n (lv' := [(3, .int (bI r_35)), (0, .ref A_t), (2, .int v2_10)]) hx hb dX5_carryOut_55 rfl hl (by decide) rfl (fun ls hl => ?_)
            refine lv_iload_n hx hb dX5_carryOut_56 rfl (lv_at hl 2 rfl) ?_
            refine lv_iload_n hx hb dX5_carryOut_57 rfl (lv_at hl 0 rfl) ?_
            refine lv_if_eq (tgt := 65) hx hb dX5_carryOut_58 (by decide) (fun c_40 => ?_) (fun c_40 => ?_)
            · replace hF := ite_f (bI_f c_40) hF
              refine lv_iconst (v := 0) hx hb dX5_carryOut_65 (by decide) ?_
              refine lv_iadd hx hb dX5_carryOut_66 ?_
              refine lv_istore_n (lv' := [(2, .int (v2_10 + 0)), (3, .int (bI r_35)), (0, .ref A_t)]) hx hb dX5_carryOut_67 rfl hl (by decide) rfl (fun ls hl => ?_)
              refine lv_goto (tgt := 31) hx hb dX5_carryOut_68 (by decide) ?_
              exact ih (v2_10 + 0) r_35 t_s_36 t_at_30 t_letter_31 t_one_32 t_other_33 t_wins_37 t_fits_38 H locs ls hF hP hD hS (lv_sub hl [2, 0, 1] rfl)
            · replace hF := ite_t (bI_t c_40) hF
              refine lv_iconst (v := 1) hx hb dX5_carryOut_61 (by decide) ?_
              refine lv_goto (tgt := 66) hx hb dX5_carryOut_62 (by decide) ?_
              refine lv_iadd hx hb dX5_carryOut_66 ?_
              refine lv_istore_n (lv' := [(2, .int (v2_10 + 1)), (3, .int (bI r_35)), (0, .ref A_t)]) hx hb dX5_carryOut_67 rfl hl (by decide) rfl (fun ls hl => ?_)
              refine lv_goto (tgt := 31) hx hb dX5_carryOut_68 (by decide) ?_
              exact ih (v2_10 + 1) r_35 t_s_36 t_at_30 t_letter_31 t_one_32 t_other_33 t_wins_37 t_fits_38 H locs ls hF hP hD hS (lv_sub hl [2, 0, 1] rfl)
    refine hloop_31 _ (fun u2_19 t_s_20 t_at_21 t_letter_22 t_one_23 t_other_24 t_wins_25 t_fits_26 H locs ls hF hP hD hS hl => ?_) N 0 true t_s 0 t_letter_3 t_one_4 t_other_5 t_wins t_fits _ _ ls hF hP hD hS (lv_sub hl [3, 1, 0] rfl)
    refine lv_aload_n hx hb dX5_carryOut_71 rfl (lv_at hl 0 rfl) ?_
    refine lv_iload_n hx hb dX5_carryOut_72 rfl (lv_at hl 1 rfl) ?_
    obtain ⟨r_41, t_past_42, t_pasts_43, t_thrown_44, hF_45, hF⟩ := ob4_some hF
    refine kcV (q := (RX5, TX5, 13)) (ci := 5) (q0 := 0) (As := [.int u2_19]) (rest := []) (wr := [(A_t_s, .inl (cy 0, 45, .inl t_s_20)), (A_t_text, .inl (cy 2, 100, .inl t_text)), (A_t_wins, .inl (cy 3, 1024, .inl (fun j => bI (t_wins_25 j)))), (A_t_fits, .inl (cy 0, 1024, .inl t_fits_26))]) (wsN := (w_X5_carryOut cy A_t A_t_s A_t_past A_t_begun A_t_text A_t_wins A_t_fits t_pasts_43 t_thrown_44 t_typed t_at_21 t_letter_22 t_one_23 t_other_24 t_s_20 t_past_42 t_begun_8 t_text t_wins_25 t_fits_26)) ⟨hx, hb, hml, hown, hts⟩ hE hP hD hS hA hAs [0, 2, 3] [1, 4, 5, 6] [4, 0, 5, 6, 1, 2, 3] (c_X5_saved l D cy s0 tW N A_t A_t_s A_t_past A_t_begun A_t_text A_t_wins A_t_fits u2_19 t_pasts t_thrown t_typed t_at_21 t_letter_22 t_one_23 t_other_24 t_past t_begun_8 _ hF_45) (gV q_784 q_786 q_47 q_88 q_787) hd_X5_saved ⟨Nat.le_of_ble_eq_true rfl, Nat.le_of_ble_eq_true rfl⟩ rfl rfl rfl rfl rfl rfl rfl rfl rfl hl.1 rfl (Nat.le_of_ble_eq_true rfl) dX5_carryOut_73 ⟨Nat.zero_le _, Nat.zero_le _⟩ (fun H locs hP hD hS => ?_)
    refine W.eq (g2 := F0 m 76 ls [.int r_41]) rfl ?_
    cases hF
    exact kret_i hx hb hr hlocks hP hD hS dX5_carryOut_76
  · replace hF := ite_f c_7 hF
    refine lv_aload_n hx hb dX5_carryOut_9 rfl (lv_at hl 1 rfl) ?_
    refine lv_bipush (v := (-10)) hx hb dX5_carryOut_10 (by decide) ?_
    refine lv_iload_n hx hb dX5_carryOut_12 rfl (lv_at hl 0 rfl) ?_
    refine lv_isub hx hb dX5_carryOut_13 ?_
    obtain ⟨r_46, t_thrown_47, hF_48, hF⟩ := ob2_some hF
    refine kcV (q := (RX5, TX5, 13)) (ci := 5) (q0 := 0) (As := [.int ((-10) - r_1)]) (rest := []) (wr := [(A_t_s, .inl (cy 0, 45, .inl t_s)), (A_t_past, .inl (cy 0, 180, .inl t_past)), (A_t_begun, .inl (cy 0, 45, .inl t_begun)), (A_t_text, .inl (cy 2, 100, .inl t_text)), (A_t_wins, .inl (cy 3, 1024, .inl (fun j => bI (t_wins j)))), (A_t_fits, .inl (cy 0, 1024, .inl t_fits))]) (wsN := (w_X5_carryOut cy A_t A_t_s A_t_past A_t_begun A_t_text A_t_wins A_t_fits t_pasts t_thrown_47 t_typed t_at_2 t_letter_3 t_one_4 t_other_5 t_s t_past t_begun t_text t_wins t_fits)) ⟨hx, hb, hml, hown, hts⟩ hE hP hD hS hA hAs [0] [1, 2, 3, 4, 5, 6] [6, 0, 1, 2, 3, 4, 5] (c_X5_tells l D cy s0 tW N A_t A_t_s A_t_past A_t_begun A_t_text A_t_wins A_t_fits ((-10) - r_1) t_pasts t_thrown t_typed t_at_2 t_letter_3 t_one_4 t_other_5 _ hF_48) (gV q_788 q_790 q_48 q_88 q_791) hd_X5_tells ⟨Nat.le_of_ble_eq_true rfl, Nat.le_of_ble_eq_true rfl⟩ rfl rfl rfl rfl rfl rfl rfl rfl rfl hl.1 rfl (Nat.le_of_ble_eq_true rfl) dX5_carryOut_14 ⟨Nat.zero_le _, Nat.zero_le _⟩ (fun H locs hP hD hS => ?_)
    refine W.eq (g2 := F0 m 17 ls [.int r_46]) rfl ?_
    cases hF
    exact kret_i hx hb hr hlocks hP hD hS dX5_carryOut_17

abbrev w_X5_undo (cy : Nat → ClassId) (A_t : Nat) (A_t_s : Nat) (A_t_past : Nat) (A_t_begun : Nat) (A_t_text : Nat) (A_t_wins : Nat) (A_t_fits : Nat) (t_pasts : Int32) (t_thrown : Int32) (t_typed : Int32) (t_at : Int32) (t_letter : Int32) (t_one : Int32) (t_other : Int32) (t_s : Nat → Int32) (t_past : Nat → Int32) : va_W := [(A_t, .inr (5, [.ref A_t_s, .ref A_t_past, .ref A_t_begun, .int t_pasts, .int t_thrown, .ref A_t_text, .int t_typed, .int t_at, .int t_letter, .int t_one, .int t_other, .ref A_t_wins, .ref A_t_fits])), (A_t_s, .inl (cy 0, 45, .inl t_s)), (A_t_past, .inl (cy 0, 180, .inl t_past))]
def L_X5_undo_25 (N : Nat) (t_pasts : Int32) (t_past : Nat → Int32) (kont : (Nat → Int32) → Option (Int32 × (Nat → Int32) × Int32 × Int32)) : Nat → Int32 → (Nat → Int32) → Option (Int32 × (Nat → Int32) × Int32 × Int32)
  | 0, _, _ => none
  | n + 1, v1_2, t_s_3 => (if (45 : Int32) ≤ v1_2 then kont t_s_3 else gd (inb ((45 * (t_pasts - 1)) + v1_2) 180) (gd (inb v1_2 45) (L_X5_undo_25 N t_pasts t_past kont n (v1_2 + 1) (upd t_s_3 v1_2.toNatClampNeg (t_past (((45 * (t_pasts - 1)) + v1_2).toNatClampNeg))))))
def F_X5_undo (N : Nat) (t_s : Nat → Int32) (t_past : Nat → Int32) (t_pasts : Int32) (t_thrown : Int32) : Option (Int32 × (Nat → Int32) × Int32 × Int32) :=
  (if t_pasts = (0 : Int32) then ob2 (F_X5_fails N 1 t_thrown) (fun r_11 t_thrown_12 => some (r_11, t_s, t_pasts, t_thrown_12)) else (L_X5_undo_25 N t_pasts t_past (fun t_s_4 => ob2 (F_X5_tells N (t_pasts - 1) t_thrown) (fun r_8 t_thrown_9 => some (r_8, t_s_4, (t_pasts - 1), t_thrown_9))) N 0 t_s))
set_option maxHeartbeats 4000000 in
set_option maxRecDepth 100000 in
theorem c_X5_undo (l : Launch) (D : va_G) (cy : Nat → ClassId) (s0 tW N : Nat) (A_t : Nat) (A_t_s : Nat) (A_t_past : Nat) (A_t_begun : Nat) (A_t_text : Nat) (A_t_wins : Nat) (A_t_fits : Nat) (t_pasts : Int32) (t_thrown : Int32) (t_typed : Int32) (t_at : Int32) (t_letter : Int32) (t_one : Int32) (t_other : Int32) (t_s : Nat → Int32) (t_past : Nat → Int32) (sz : Nat) {r9 : Int32} {t_s9 : Nat → Int32} {t_pasts9 : Int32} {t_thrown9 : Int32} (hF : F_X5_undo N t_s t_past t_pasts t_thrown = some (r9, t_s9, t_pasts9, t_thrown9)) : KM l D cy s0 tW yX5_undo cX5_undo 2 (some .int) 1 21 [.ref A_t] sz (w_X5_undo cy A_t A_t_s A_t_past A_t_begun A_t_text A_t_wins A_t_fits t_pasts t_thrown t_typed t_at t_letter t_one t_other t_s t_past) (some (.int r9)) (w_X5_undo cy A_t A_t_s A_t_past A_t_begun A_t_text A_t_wins A_t_fits t_pasts9 t_thrown9 t_typed t_at t_letter t_one t_other t_s9 t_past) := by
  refine KM.intro rfl (Nat.le_of_ble_eq_true rfl) ?_
  intro p e s m args below meth c A ls hx hb hr hml hown hts hlocks hE hP hD hS hA hAs hl
  have hK := hE.1
  have hl : lv_has ls 2 [(0, .ref A_t)] := hl
  unfold F_X5_undo at hF
  refine lv_aload_n hx hb dX5_undo_0 rfl (lv_at hl 0 rfl) ?_
  refine va_get (D := D) (ci := 5) (v := .int t_pasts) (C := RX5) (T := TX5) (N := 13) hx hb hts inX5 hown hK hP 0 rfl rfl 3 (by decide) (hts _ q_734) (fun _ h9 => h9) rfl dX5_undo_1 ?_
  refine lv_if_ne (tgt := 13) hx hb dX5_undo_4 (by decide) (fun c_1 => ?_) (fun c_1 => ?_)
  · replace hF := ite_f c_1 hF
    refine lv_aload_n hx hb dX5_undo_13 rfl (lv_at hl 0 rfl) ?_
    refine lv_dup hx hb dX5_undo_14 rfl ?_
    refine va_get (D := D) (ci := 5) (v := .int t_pasts) (C := RX5) (T := TX5) (N := 13) hx hb hts inX5 hown hK hP 0 rfl rfl 3 (by decide) (hts _ q_734) (fun _ h9 => h9) rfl dX5_undo_15 ?_
    refine lv_iconst (v := 1) hx hb dX5_undo_18 (by decide) ?_
    refine lv_isub hx hb dX5_undo_19 ?_
    refine ka_put (ci := 5) (v := .int (t_pasts - 1)) (ty := .int) (C := RX5) (T := TX5) (N := 13) (wsN := (w_X5_undo cy A_t A_t_s A_t_past A_t_begun A_t_text A_t_wins A_t_fits (t_pasts - 1) t_thrown t_typed t_at t_letter t_one t_other t_s t_past)) hx hb hts inX5 tyX5 tyX5_ok nmX5 hown hK hP hD hS 0 rfl rfl 3 (by decide) (hts _ q_734) (fun _ h9 => h9) rfl (by decide +kernel) rfl rfl (Nat.le_of_ble_eq_true rfl) rfl dX5_undo_20 (fun H locs hP hD hS => ?_)
    refine lv_iconst (v := 0) hx hb dX5_undo_23 (by decide) ?_
    refine lv_istore_n (lv' := [(1, .int 0), (0, .ref A_t)]) hx hb dX5_undo_24 rfl hl (by decide) rfl (fun ls hl => ?_)
    have hloop_25 : ∀ (kont : (Nat → Int32) → Option (Int32 × (Nat → Int32) × Int32 × Int32)), (∀ (t_s_4 : Nat → Int32) (H : Heap) (locs : List Loc) (ls : Array Slot), kont t_s_4 = some (r9, t_s9, t_pasts9, t_thrown9) → va_P D vwCl (w_X5_undo cy A_t A_t_s A_t_past A_t_begun A_t_text A_t_wins A_t_fits (t_pasts - 1) t_thrown t_typed t_at t_letter t_one t_other t_s_4 t_past) H → va_D A (w_X5_undo cy A_t A_t_s A_t_past A_t_begun A_t_text A_t_wins A_t_fits (t_pasts - 1) t_thrown t_typed t_at t_letter t_one t_other t_s_4 t_past) → va_S A s.heap H locs → lv_has ls 2 [(0, .ref A_t)] → W p l e (rmK 1 21) s m args below meth c H locs 0 0 (MQ below (kQ (some (.int r9)) D A (w_X5_undo cy A_t A_t_s A_t_past A_t_begun A_t_text A_t_wins A_t_fits t_pasts9 t_thrown9 t_typed t_at t_letter t_one t_other t_s9 t_past)) args s 0 0 A) (F0 m 57 ls [])) → ∀ (n : Nat) (v1_2 : Int32) (t_s_3 : Nat → Int32) (H : Heap) (locs : List Loc) (ls : Array Slot), L_X5_undo_25 N t_pasts t_past kont n v1_2 t_s_3 = some (r9, t_s9, t_pasts9, t_thrown9) → va_P D vwCl (w_X5_undo cy A_t A_t_s A_t_past A_t_begun A_t_text A_t_wins A_t_fits (t_pasts - 1) t_thrown t_typed t_at t_letter t_one t_other t_s_3 t_past) H → va_D A (w_X5_undo cy A_t A_t_s A_t_past A_t_begun A_t_text A_t_wins A_t_fits (t_pasts - 1) t_thrown t_typed t_at t_letter t_one t_other t_s_3 t_past) → va_S A s.heap H locs → lv_has ls 2 [(0, .ref A_t), (1, .int v1_2)] → W p l e (rmK 1 21) s m args below meth c H locs 0 0 (MQ below (kQ (some (.int r9)) D A (w_X5_undo cy A_t A_t_s A_t_past A_t_begun A_t_text A_t_wins A_t_fits t_pasts9 t_thrown9 t_typed t_at t_letter t_one t_other t_s9 t_past)) args s 0 0 A) (F0 m 25 ls []) := by
      intro kont hexit_25 n
      induction n with
      | zero =>
        intro v1_2 t_s_3 H locs ls hF
        rw [L_X5_undo_25] at hF
        cases hF
      | succ n ih =>
        intro v1_2 t_s_3 H locs ls hF hP hD hS hl
        rw [L_X5_undo_25] at hF
        refine lv_iload_n hx hb dX5_undo_25 rfl (lv_at hl 1 rfl) ?_
        refine lv_bipush (v := 45) hx hb dX5_undo_26 (by decide) ?_
        refine lv_icmp_ge (tgt := 57) hx hb dX5_undo_28 (by decide) (fun c_5 => ?_) (fun c_5 => ?_)
        · replace hF := ite_t c_5 hF
          exact hexit_25 t_s_3 H locs ls hF hP hD hS (lv_sub hl [0] rfl)
        · replace hF := ite_f c_5 hF
          refine lv_aload_n hx hb dX5_undo_31 rfl (lv_at hl 0 rfl) ?_
          refine va_get (D := D) (ci := 5) (v := .ref A_t_s) (C := RX5) (T := TX5) (N := 13) hx hb hts inX5 hown hK hP 0 rfl rfl 0 (by decide) (hts _ q_731) (fun _ h9 => h9) rfl dX5_undo_32 ?_
          refine lv_iload_n hx hb dX5_undo_35 rfl (lv_at hl 1 rfl) ?_
          refine lv_aload_n hx hb dX5_undo_36 rfl (lv_at hl 0 rfl) ?_
          refine va_get (D := D) (ci := 5) (v := .ref A_t_past) (C := RX5) (T := TX5) (N := 13) hx hb hts inX5 hown hK hP 0 rfl rfl 1 (by decide) (hts _ q_732) (fun _ h9 => h9) rfl dX5_undo_37 ?_
          refine lv_bipush (v := 45) hx hb dX5_undo_40 (by decide) ?_
          refine lv_aload_n hx hb dX5_undo_42 rfl (lv_at hl 0 rfl) ?_
          refine va_get (D := D) (ci := 5) (v := .int (t_pasts - 1)) (C := RX5) (T := TX5) (N := 13) hx hb hts inX5 hown hK hP 0 rfl rfl 3 (by decide) (hts _ q_734) (fun _ h9 => h9) rfl dX5_undo_43 ?_
          refine lv_imul hx hb dX5_undo_46 ?_
          refine lv_iload_n hx hb dX5_undo_47 rfl (lv_at hl 1 rfl) ?_
          refine lv_iadd hx hb dX5_undo_48 ?_
          obtain ⟨hi_6, hF⟩ := gd_some hF
          refine ka_iald hx hb hK hP 2 rfl (((45 * (t_pasts - 1)) + v1_2).toNatClampNeg) rfl (inb_in hi_6) dX5_undo_49 ?_
          obtain ⟨hi_7, hF⟩ := gd_some hF
          refine ka_iast (wsN := (w_X5_undo cy A_t A_t_s A_t_past A_t_begun A_t_text A_t_wins A_t_fits (t_pasts - 1) t_thrown t_typed t_at t_letter t_one t_other (upd t_s_3 v1_2.toNatClampNeg (t_past (((45 * (t_pasts - 1)) + v1_2).toNatClampNeg))) t_past)) hx hb hK hP hD hS 1 rfl (v1_2.toNatClampNeg) rfl (inb_in hi_7) rfl dX5_undo_50 (fun H locs hP hD hS => ?_)
          refine lv_iinc (v := (v1_2 + 1)) (lv' := [(1, .int (v1_2 + 1)), (0, .ref A_t)]) hx hb dX5_undo_51 hl (k := 1) rfl (by first | rfl | decide) (by decide) rfl (fun ls hl => ?_)
          refine lv_goto (tgt := 25) hx hb dX5_undo_54 (by decide) ?_
          exact ih (v1_2 + 1) (upd t_s_3 v1_2.toNatClampNeg (t_past (((45 * (t_pasts - 1)) + v1_2).toNatClampNeg))) H locs ls hF hP hD hS (lv_sub hl [1, 0] rfl)
    refine hloop_25 _ (fun t_s_4 H locs ls hF hP hD hS hl => ?_) N 0 t_s _ _ ls hF hP hD hS (lv_sub hl [1, 0] rfl)
    refine lv_aload_n hx hb dX5_undo_57 rfl (lv_at hl 0 rfl) ?_
    refine lv_aload_n hx hb dX5_undo_58 rfl (lv_at hl 0 rfl) ?_
    refine va_get (D := D) (ci := 5) (v := .int (t_pasts - 1)) (C := RX5) (T := TX5) (N := 13) hx hb hts inX5 hown hK hP 0 rfl rfl 3 (by decide) (hts _ q_734) (fun _ h9 => h9) rfl dX5_undo_59 ?_
    obtain ⟨r_8, t_thrown_9, hF_10, hF⟩ := ob2_some hF
    refine kcV (q := (RX5, TX5, 13)) (ci := 5) (q0 := 0) (As := [.int (t_pasts - 1)]) (rest := []) (wr := [(A_t_s, .inl (cy 0, 45, .inl t_s_4)), (A_t_past, .inl (cy 0, 180, .inl t_past))]) (wsN := (w_X5_undo cy A_t A_t_s A_t_past A_t_begun A_t_text A_t_wins A_t_fits (t_pasts - 1) t_thrown_9 t_typed t_at t_letter t_one t_other t_s_4 t_past)) ⟨hx, hb, hml, hown, hts⟩ hE hP hD hS hA hAs [0] [1, 2] [2, 0, 1] (c_X5_tells l D cy s0 tW N A_t A_t_s A_t_past A_t_begun A_t_text A_t_wins A_t_fits (t_pasts - 1) (t_pasts - 1) t_thrown t_typed t_at t_letter t_one t_other _ hF_10) (gV q_788 q_790 q_48 q_88 q_791) hd_X5_tells ⟨Nat.le_of_ble_eq_true rfl, Nat.le_of_ble_eq_true rfl⟩ rfl rfl rfl rfl rfl rfl rfl rfl rfl hl.1 rfl (Nat.le_of_ble_eq_true rfl) dX5_undo_62 ⟨Nat.zero_le _, Nat.zero_le _⟩ (fun H locs hP hD hS => ?_)
    refine W.eq (g2 := F0 m 65 ls [.int r_8]) rfl ?_
    cases hF
    exact kret_i hx hb hr hlocks hP hD hS dX5_undo_65
  · replace hF := ite_t c_1 hF
    refine lv_aload_n hx hb dX5_undo_7 rfl (lv_at hl 0 rfl) ?_
    refine lv_iconst (v := 1) hx hb dX5_undo_8 (by decide) ?_
    obtain ⟨r_11, t_thrown_12, hF_13, hF⟩ := ob2_some hF
    refine kcV (q := (RX5, TX5, 13)) (ci := 5) (q0 := 0) (As := [.int 1]) (rest := []) (wr := [(A_t_s, .inl (cy 0, 45, .inl t_s)), (A_t_past, .inl (cy 0, 180, .inl t_past))]) (wsN := (w_X5_undo cy A_t A_t_s A_t_past A_t_begun A_t_text A_t_wins A_t_fits t_pasts t_thrown_12 t_typed t_at t_letter t_one t_other t_s t_past)) ⟨hx, hb, hml, hown, hts⟩ hE hP hD hS hA hAs [0] [1, 2] [2, 0, 1] (c_X5_fails l D cy s0 tW N A_t A_t_s A_t_past A_t_begun A_t_text A_t_wins A_t_fits 1 t_pasts t_thrown t_typed t_at t_letter t_one t_other _ hF_13) (gV q_803 q_805 q_50 q_88 q_806) hd_X5_fails ⟨Nat.le_of_ble_eq_true rfl, Nat.le_of_ble_eq_true rfl⟩ rfl rfl rfl rfl rfl rfl rfl rfl rfl hl.1 rfl (Nat.le_of_ble_eq_true rfl) dX5_undo_9 ⟨Nat.zero_le _, Nat.zero_le _⟩ (fun H locs hP hD hS => ?_)
    refine W.eq (g2 := F0 m 12 ls [.int r_11]) rfl ?_
    cases hF
    exact kret_i hx hb hr hlocks hP hD hS dX5_undo_12

theorem q_1034 : Cond.constantLong RX5 174 118513 ∈ wAll := wAll_mem 1034 (by decide +kernel) (by decide +kernel)
theorem q_1035 : Cond.constantLong RX5 176 31 ∈ wAll := wAll_mem 1035 (by decide +kernel) (by decide +kernel)
abbrev w_X5_digest (cy : Nat → ClassId) (A_t : Nat) (A_t_s : Nat) (A_t_past : Nat) (A_t_begun : Nat) (A_t_text : Nat) (A_t_wins : Nat) (A_t_fits : Nat) (t_pasts : Int32) (t_thrown : Int32) (t_typed : Int32) (t_at : Int32) (t_letter : Int32) (t_one : Int32) (t_other : Int32) (t_s : Nat → Int32) (t_wins : Nat → Bool) (t_fits : Nat → Int32) : va_W := [(A_t, .inr (5, [.ref A_t_s, .ref A_t_past, .ref A_t_begun, .int t_pasts, .int t_thrown, .ref A_t_text, .int t_typed, .int t_at, .int t_letter, .int t_one, .int t_other, .ref A_t_wins, .ref A_t_fits])), (A_t_s, .inl (cy 0, 45, .inl t_s)), (A_t_wins, .inl (cy 3, 1024, .inl (fun j => bI (t_wins j)))), (A_t_fits, .inl (cy 0, 1024, .inl t_fits))]
def L_X5_digest_17 (N : Nat) (t_s : Nat → Int32) (kont : Int64 → Option (Int64 × Int32 × (Nat → Bool) × (Nat → Int32))) : Nat → Int64 → Int32 → Option (Int64 × Int32 × (Nat → Bool) × (Nat → Int32))
  | 0, _, _ => none
  | n + 1, v1_1, v3_2 => (if (7 : Int32) ≤ v3_2 then kont v1_1 else ob1 (F_X5_number N v3_2 t_s) (fun r_5 => L_X5_digest_17 N t_s kont n ((31 * v1_1) + r_5.toInt64) (v3_2 + 1)))
def L_X5_digest_44 (N : Nat) (t_s : Nat → Int32) (kont : Int64 → Option (Int64 × Int32 × (Nat → Bool) × (Nat → Int32))) : Nat → Int64 → Int32 → Option (Int64 × Int32 × (Nat → Bool) × (Nat → Int32))
  | 0, _, _ => none
  | n + 1, v1_7, v3_8 => (if (t_s 0) ≤ v3_8 then kont v1_7 else ob1 (F_X5_isBreakersOwn N v3_8 t_s) (fun r_11 => (if r_11 = true then L_X5_digest_44 N t_s kont n ((31 * v1_7) + 1) (v3_8 + 1) else L_X5_digest_44 N t_s kont n ((31 * v1_7) + 0) (v3_8 + 1))))
def L_X5_digest_82 (N : Nat) (t_s : Nat → Int32) (kont : Int64 → Option (Int64 × Int32 × (Nat → Bool) × (Nat → Int32))) : Nat → Int64 → Int32 → Option (Int64 × Int32 × (Nat → Bool) × (Nat → Int32))
  | 0, _, _ => none
  | n + 1, v1_14, v3_15 => (if (3 * (t_s 2)) ≤ v3_15 then kont v1_14 else ob1 (F_X5_ofClause N (v3_15 / 3) (v3_15 - v3_15 / 3 * 3) t_s) (fun r_18 => L_X5_digest_82 N t_s kont n ((31 * v1_14) + r_18.toInt64) (v3_15 + 1)))
def F_X5_digest (N : Nat) (t_s : Nat → Int32) (t_pasts : Int32) (t_thrown : Int32) (t_typed : Int32) (t_wins : Nat → Bool) (t_fits : Nat → Int32) : Option (Int64 × Int32 × (Nat → Bool) × (Nat → Int32)) :=
  (L_X5_digest_17 N t_s (fun u1_3 => (L_X5_digest_44 N t_s (fun u1_9 => (L_X5_digest_82 N t_s (fun u1_16 => ob2 (F_X5_winnerOfAll N t_s t_wins) (fun r_20 t_wins_21 => ob1 (F_X5_copiesOfAll N t_s) (fun r_23 => ob3 (F_X5_least N t_s t_wins_21 t_fits) (fun r_25 t_wins_26 t_fits_27 => nmv ((31 * ((31 * ((31 * u1_16) + r_20.toInt64)) + r_23.toInt64)) + r_25.toInt64) (fun x_29 => some (((31 * x_29) + t_pasts.toInt64), 0, t_wins_26, t_fits_27)))))) N u1_9 0)) N u1_3 0)) N (118513 + t_typed.toInt64) 0)
set_option maxHeartbeats 4000000 in
set_option maxRecDepth 100000 in
theorem c_X5_digest (l : Launch) (D : va_G) (cy : Nat → ClassId) (s0 tW N : Nat) (A_t : Nat) (A_t_s : Nat) (A_t_past : Nat) (A_t_begun : Nat) (A_t_text : Nat) (A_t_wins : Nat) (A_t_fits : Nat) (t_pasts : Int32) (t_thrown : Int32) (t_typed : Int32) (t_at : Int32) (t_letter : Int32) (t_one : Int32) (t_other : Int32) (t_s : Nat → Int32) (t_wins : Nat → Bool) (t_fits : Nat → Int32) (sz : Nat) {r9 : Int64} {t_thrown9 : Int32} {t_wins9 : Nat → Bool} {t_fits9 : Nat → Int32} (hF : F_X5_digest N t_s t_pasts t_thrown t_typed t_wins t_fits = some (r9, t_thrown9, t_wins9, t_fits9)) : KM l D cy s0 tW yX5_digest cX5_digest 4 (some .long) 4 94 [.ref A_t] sz (w_X5_digest cy A_t A_t_s A_t_past A_t_begun A_t_text A_t_wins A_t_fits t_pasts t_thrown t_typed t_at t_letter t_one t_other t_s t_wins t_fits) (some (.long r9)) (w_X5_digest cy A_t A_t_s A_t_past A_t_begun A_t_text A_t_wins A_t_fits t_pasts t_thrown9 t_typed t_at t_letter t_one t_other t_s t_wins9 t_fits9) := by
  refine KM.intro rfl (Nat.le_of_ble_eq_true rfl) ?_
  intro p e s m args below meth c A ls hx hb hr hml hown hts hlocks hE hP hD hS hA hAs hl
  have hK := hE.1
  have hl : lv_has ls 4 [(0, .ref A_t)] := hl
  unfold F_X5_digest at hF
  refine lv_aload_n hx hb dX5_digest_0 rfl (lv_at hl 0 rfl) ?_
  refine lv_iconst (v := 0) hx hb dX5_digest_1 (by decide) ?_
  refine ka_put (ci := 5) (v := .int 0) (ty := .int) (C := RX5) (T := TX5) (N := 13) (wsN := (w_X5_digest cy A_t A_t_s A_t_past A_t_begun A_t_text A_t_wins A_t_fits t_pasts 0 t_typed t_at t_letter t_one t_other t_s t_wins t_fits)) hx hb hts inX5 tyX5 tyX5_ok nmX5 hown hK hP hD hS 0 rfl rfl 4 (by decide) (hts _ q_735) (fun _ h9 => h9) rfl (by decide +kernel) rfl rfl (Nat.le_of_ble_eq_true rfl) rfl dX5_digest_2 (fun H locs hP hD hS => ?_)
  refine lv_ldc2 (v := 118513) hx hb hown (hts _ q_1034) dX5_digest_5 ?_
  refine lv_aload_n hx hb dX5_digest_8 rfl (lv_at hl 0 rfl) ?_
  refine va_get (D := D) (ci := 5) (v := .int t_typed) (C := RX5) (T := TX5) (N := 13) hx hb hts inX5 hown hK hP 0 rfl rfl 6 (by decide) (hts _ q_737) (fun _ h9 => h9) rfl dX5_digest_9 ?_
  refine lv_i2l (v := t_typed.toInt64) hx hb dX5_digest_12 rfl ?_
  refine lv_ladd hx hb dX5_digest_13 ?_
  refine lv_lstore_n (lv' := [(1, .long (118513 + t_typed.toInt64)), (0, .ref A_t)]) hx hb dX5_digest_14 rfl hl (by decide) rfl (fun ls hl => ?_)
  refine lv_iconst (v := 0) hx hb dX5_digest_15 (by decide) ?_
  refine lv_istore_n (lv' := [(3, .int 0), (1, .long (118513 + t_typed.toInt64)), (0, .ref A_t)]) hx hb dX5_digest_16 rfl hl (by decide) rfl (fun ls hl => ?_)
  have hloop_17 : ∀ (kont : Int64 → Option (Int64 × Int32 × (Nat → Bool) × (Nat → Int32))), (∀ (u1_3 : Int64) (H : Heap) (locs : List Loc) (ls : Array Slot), kont u1_3 = some (r9, t_thrown9, t_wins9, t_fits9) → va_P D vwCl (w_X5_digest cy A_t A_t_s A_t_past A_t_begun A_t_text A_t_wins A_t_fits t_pasts 0 t_typed t_at t_letter t_one t_other t_s t_wins t_fits) H → va_D A (w_X5_digest cy A_t A_t_s A_t_past A_t_begun A_t_text A_t_wins A_t_fits t_pasts 0 t_typed t_at t_letter t_one t_other t_s t_wins t_fits) → va_S A s.heap H locs → lv_has ls 4 [(0, .ref A_t), (1, .long u1_3)] → W p l e (rmK 4 94) s m args below meth c H locs 0 0 (MQ below (kQ (some (.long r9)) D A (w_X5_digest cy A_t A_t_s A_t_past A_t_begun A_t_text A_t_wins A_t_fits t_pasts t_thrown9 t_typed t_at t_letter t_one t_other t_s t_wins9 t_fits9)) args s 0 0 A) (F0 m 42 ls [])) → ∀ (n : Nat) (v1_1 : Int64) (v3_2 : Int32) (H : Heap) (locs : List Loc) (ls : Array Slot), L_X5_digest_17 N t_s kont n v1_1 v3_2 = some (r9, t_thrown9, t_wins9, t_fits9) → va_P D vwCl (w_X5_digest cy A_t A_t_s A_t_past A_t_begun A_t_text A_t_wins A_t_fits t_pasts 0 t_typed t_at t_letter t_one t_other t_s t_wins t_fits) H → va_D A (w_X5_digest cy A_t A_t_s A_t_past A_t_begun A_t_text A_t_wins A_t_fits t_pasts 0 t_typed t_at t_letter t_one t_other t_s t_wins t_fits) → va_S A s.heap H locs → lv_has ls 4 [(0, .ref A_t), (1, .long v1_1), (3, .int v3_2)] → W p l e (rmK 4 94) s m args below meth c H locs 0 0 (MQ below (kQ (some (.long r9)) D A (w_X5_digest cy A_t A_t_s A_t_past A_t_begun A_t_text A_t_wins A_t_fits t_pasts t_thrown9 t_typed t_at t_letter t_one t_other t_s t_wins9 t_fits9)) args s 0 0 A) (F0 m 17 ls []) := by
    intro kont hexit_17 n
    induction n with
    | zero =>
      intro v1_1 v3_2 H locs ls hF
      rw [L_X5_digest_17] at hF
      cases hF
    | succ n ih =>
      intro v1_1 v3_2 H locs ls hF hP hD hS hl
      rw [L_X5_digest_17] at hF
      refine lv_iload_n hx hb dX5_digest_17 rfl (lv_at hl 2 rfl) ?_
      refine lv_bipush (v := 7) hx hb dX5_digest_18 (by decide) ?_
      refine lv_icmp_ge (tgt := 42) hx hb dX5_digest_20 (by decide) (fun c_4 => ?_) (fun c_4 => ?_)
      · replace hF := ite_t c_4 hF
        exact hexit_17 v1_1 H locs ls hF hP hD hS (lv_sub hl [0, 1] rfl)
      · replace hF := ite_f c_4 hF
        refine lv_ldc2 (v := 31) hx hb hown (hts _ q_1035) dX5_digest_23 ?_
        refine lv_lload_n hx hb dX5_digest_26 rfl (lv_at hl 1 rfl) ?_
        refine lv_lmul hx hb dX5_digest_27 ?_
        refine lv_aload_n hx hb dX5_digest_28 rfl (lv_at hl 0 rfl) ?_
        refine lv_iload_n hx hb dX5_digest_29 rfl (lv_at hl 2 rfl) ?_
        obtain ⟨r_5, hF_6, hF⟩ := ob1_some hF
        refine kcV (q := (RX5, TX5, 13)) (ci := 5) (q0 := 0) (As := [.int v3_2]) (rest := [.long (31 * v1_1)]) (wr := [(A_t_wins, .inl (cy 3, 1024, .inl (fun j => bI (t_wins j)))), (A_t_fits, .inl (cy 0, 1024, .inl t_fits))]) (wsN := (w_X5_digest cy A_t A_t_s A_t_past A_t_begun A_t_text A_t_wins A_t_fits t_pasts 0 t_typed t_at t_letter t_one t_other t_s t_wins t_fits)) ⟨hx, hb, hml, hown, hts⟩ hE hP hD hS hA hAs [0, 1] [2, 3] [2, 3, 0, 1] (c_X5_number l D cy s0 tW N A_t A_t_s A_t_past A_t_begun A_t_text A_t_wins A_t_fits v3_2 t_pasts 0 t_typed t_at t_letter t_one t_other t_s _ hF_6) (gV q_918 q_920 q_68 q_88 q_921) hd_X5_number ⟨Nat.le_of_ble_eq_true rfl, Nat.le_of_ble_eq_true rfl⟩ rfl rfl rfl rfl rfl rfl rfl rfl rfl hl.1 rfl (Nat.le_of_ble_eq_true rfl) dX5_digest_30 ⟨Nat.zero_le _, Nat.zero_le _⟩ (fun H locs hP hD hS => ?_)
        refine W.eq (g2 := F0 m 33 ls [.int r_5, .long (31 * v1_1)]) rfl ?_
        refine lv_i2l (v := r_5.toInt64) hx hb dX5_digest_33 rfl ?_
        refine lv_ladd hx hb dX5_digest_34 ?_
        refine lv_lstore_n (lv' := [(1, .long ((31 * v1_1) + r_5.toInt64)), (0, .ref A_t), (3, .int v3_2)]) hx hb dX5_digest_35 rfl hl (by decide) rfl (fun ls hl => ?_)
        refine lv_iinc (v := (v3_2 + 1)) (lv' := [(3, .int (v3_2 + 1)), (1, .long ((31 * v1_1) + r_5.toInt64)), (0, .ref A_t)]) hx hb dX5_digest_36 hl (k := 2) rfl (by first | rfl | decide) (by decide) rfl (fun ls hl => ?_)
        refine lv_goto (tgt := 17) hx hb dX5_digest_39 (by decide) ?_
        exact ih ((31 * v1_1) + r_5.toInt64) (v3_2 + 1) H locs ls hF hP hD hS (lv_sub hl [2, 1, 0] rfl)
  refine hloop_17 _ (fun u1_3 H locs ls hF hP hD hS hl => ?_) N (118513 + t_typed.toInt64) 0 _ _ ls hF hP hD hS (lv_sub hl [2, 1, 0] rfl)
  refine lv_iconst (v := 0) hx hb dX5_digest_42 (by decide) ?_
  refine lv_istore_n (lv' := [(3, .int 0), (0, .ref A_t), (1, .long u1_3)]) hx hb dX5_digest_43 rfl hl (by decide) rfl (fun ls hl => ?_)
  have hloop_44 : ∀ (kont : Int64 → Option (Int64 × Int32 × (Nat → Bool) × (Nat → Int32))), (∀ (u1_9 : Int64) (H : Heap) (locs : List Loc) (ls : Array Slot), kont u1_9 = some (r9, t_thrown9, t_wins9, t_fits9) → va_P D vwCl (w_X5_digest cy A_t A_t_s A_t_past A_t_begun A_t_text A_t_wins A_t_fits t_pasts 0 t_typed t_at t_letter t_one t_other t_s t_wins t_fits) H → va_D A (w_X5_digest cy A_t A_t_s A_t_past A_t_begun A_t_text A_t_wins A_t_fits t_pasts 0 t_typed t_at t_letter t_one t_other t_s t_wins t_fits) → va_S A s.heap H locs → lv_has ls 4 [(0, .ref A_t), (1, .long u1_9)] → W p l e (rmK 4 94) s m args below meth c H locs 0 0 (MQ below (kQ (some (.long r9)) D A (w_X5_digest cy A_t A_t_s A_t_past A_t_begun A_t_text A_t_wins A_t_fits t_pasts t_thrown9 t_typed t_at t_letter t_one t_other t_s t_wins9 t_fits9)) args s 0 0 A) (F0 m 80 ls [])) → ∀ (n : Nat) (v1_7 : Int64) (v3_8 : Int32) (H : Heap) (locs : List Loc) (ls : Array Slot), L_X5_digest_44 N t_s kont n v1_7 v3_8 = some (r9, t_thrown9, t_wins9, t_fits9) → va_P D vwCl (w_X5_digest cy A_t A_t_s A_t_past A_t_begun A_t_text A_t_wins A_t_fits t_pasts 0 t_typed t_at t_letter t_one t_other t_s t_wins t_fits) H → va_D A (w_X5_digest cy A_t A_t_s A_t_past A_t_begun A_t_text A_t_wins A_t_fits t_pasts 0 t_typed t_at t_letter t_one t_other t_s t_wins t_fits) → va_S A s.heap H locs → lv_has ls 4 [(0, .ref A_t), (1, .long v1_7), (3, .int v3_8)] → W p l e (rmK 4 94) s m args below meth c H locs 0 0 (MQ below (kQ (some (.long r9)) D A (w_X5_digest cy A_t A_t_s A_t_past A_t_begun A_t_text A_t_wins A_t_fits t_pasts t_thrown9 t_typed t_at t_letter t_one t_other t_s t_wins9 t_fits9)) args s 0 0 A) (F0 m 44 ls []) := by
    intro kont hexit_44 n
    induction n with
    | zero =>
      intro v1_7 v3_8 H locs ls hF
      rw [L_X5_digest_44] at hF
      cases hF
    | succ n ih =>
      intro v1_7 v3_8 H locs ls hF hP hD hS hl
      rw [L_X5_digest_44] at hF
      refine lv_iload_n hx hb dX5_digest_44 rfl (lv_at hl 2 rfl) ?_
      refine lv_aload_n hx hb dX5_digest_45 rfl (lv_at hl 0 rfl) ?_
      refine va_get (D := D) (ci := 5) (v := .ref A_t_s) (C := RX5) (T := TX5) (N := 13) hx hb hts inX5 hown hK hP 0 rfl rfl 0 (by decide) (hts _ q_731) (fun _ h9 => h9) rfl dX5_digest_46 ?_
      refine lv_iconst (v := 0) hx hb dX5_digest_49 (by decide) ?_
      refine ka_iald hx hb hK hP 1 rfl (0) rfl (inb_in (by decide)) dX5_digest_50 ?_
      refine lv_icmp_ge (tgt := 80) hx hb dX5_digest_51 (by decide) (fun c_10 => ?_) (fun c_10 => ?_)
      · replace hF := ite_t c_10 hF
        exact hexit_44 v1_7 H locs ls hF hP hD hS (lv_sub hl [0, 1] rfl)
      · replace hF := ite_f c_10 hF
        refine lv_ldc2 (v := 31) hx hb hown (hts _ q_1035) dX5_digest_54 ?_
        refine lv_lload_n hx hb dX5_digest_57 rfl (lv_at hl 1 rfl) ?_
        refine lv_lmul hx hb dX5_digest_58 ?_
        refine lv_aload_n hx hb dX5_digest_59 rfl (lv_at hl 0 rfl) ?_
        refine lv_iload_n hx hb dX5_digest_60 rfl (lv_at hl 2 rfl) ?_
        obtain ⟨r_11, hF_12, hF⟩ := ob1_some hF
        refine kcV (q := (RX5, TX5, 13)) (ci := 5) (q0 := 0) (As := [.int v3_8]) (rest := [.long (31 * v1_7)]) (wr := [(A_t_wins, .inl (cy 3, 1024, .inl (fun j => bI (t_wins j)))), (A_t_fits, .inl (cy 0, 1024, .inl t_fits))]) (wsN := (w_X5_digest cy A_t A_t_s A_t_past A_t_begun A_t_text A_t_wins A_t_fits t_pasts 0 t_typed t_at t_letter t_one t_other t_s t_wins t_fits)) ⟨hx, hb, hml, hown, hts⟩ hE hP hD hS hA hAs [0, 1] [2, 3] [2, 3, 0, 1] (c_X5_isBreakersOwn l D cy s0 tW N A_t A_t_s A_t_past A_t_begun A_t_text A_t_wins A_t_fits v3_8 t_pasts 0 t_typed t_at t_letter t_one t_other t_s _ hF_12) (gV q_874 q_876 q_62 q_88 q_877) hd_X5_isBreakersOwn ⟨Nat.le_of_ble_eq_true rfl, Nat.le_of_ble_eq_true rfl⟩ rfl rfl rfl rfl rfl rfl rfl rfl rfl hl.1 rfl (Nat.le_of_ble_eq_true rfl) dX5_digest_61 ⟨Nat.zero_le _, Nat.zero_le _⟩ (fun H locs hP hD hS => ?_)
        refine W.eq (g2 := F0 m 64 ls [.int (bI r_11), .long (31 * v1_7)]) rfl ?_
        refine lv_if_eq (tgt := 71) hx hb dX5_digest_64 (by decide) (fun c_13 => ?_) (fun c_13 => ?_)
        · replace hF := ite_f (bI_f c_13) hF
          refine lv_lconst (v := 0) hx hb dX5_digest_71 (by decide) ?_
          refine lv_ladd hx hb dX5_digest_72 ?_
          refine lv_lstore_n (lv' := [(1, .long ((31 * v1_7) + 0)), (0, .ref A_t), (3, .int v3_8)]) hx hb dX5_digest_73 rfl hl (by decide) rfl (fun ls hl => ?_)
          refine lv_iinc (v := (v3_8 + 1)) (lv' := [(3, .int (v3_8 + 1)), (1, .long ((31 * v1_7) + 0)), (0, .ref A_t)]) hx hb dX5_digest_74 hl (k := 2) rfl (by first | rfl | decide) (by decide) rfl (fun ls hl => ?_)
          refine lv_goto (tgt := 44) hx hb dX5_digest_77 (by decide) ?_
          exact ih ((31 * v1_7) + 0) (v3_8 + 1) H locs ls hF hP hD hS (lv_sub hl [2, 1, 0] rfl)
        · replace hF := ite_t (bI_t c_13) hF
          refine lv_lconst (v := 1) hx hb dX5_digest_67 (by decide) ?_
          refine lv_goto (tgt := 72) hx hb dX5_digest_68 (by decide) ?_
          refine lv_ladd hx hb dX5_digest_72 ?_
          refine lv_lstore_n (lv' := [(1, .long ((31 * v1_7) + 1)), (0, .ref A_t), (3, .int v3_8)]) hx hb dX5_digest_73 rfl hl (by decide) rfl (fun ls hl => ?_)
          refine lv_iinc (v := (v3_8 + 1)) (lv' := [(3, .int (v3_8 + 1)), (1, .long ((31 * v1_7) + 1)), (0, .ref A_t)]) hx hb dX5_digest_74 hl (k := 2) rfl (by first | rfl | decide) (by decide) rfl (fun ls hl => ?_)
          refine lv_goto (tgt := 44) hx hb dX5_digest_77 (by decide) ?_
          exact ih ((31 * v1_7) + 1) (v3_8 + 1) H locs ls hF hP hD hS (lv_sub hl [2, 1, 0] rfl)
  refine hloop_44 _ (fun u1_9 H locs ls hF hP hD hS hl => ?_) N u1_3 0 _ _ ls hF hP hD hS (lv_sub hl [1, 2, 0] rfl)
  refine lv_iconst (v := 0) hx hb dX5_digest_80 (by decide) ?_
  refine lv_istore_n (lv' := [(3, .int 0), (0, .ref A_t), (1, .long u1_9)]) hx hb dX5_digest_81 rfl hl (by decide) rfl (fun ls hl => ?_)
  have hloop_82 : ∀ (kont : Int64 → Option (Int64 × Int32 × (Nat → Bool) × (Nat → Int32))), (∀ (u1_16 : Int64) (H : Heap) (locs : List Loc) (ls : Array Slot), kont u1_16 = some (r9, t_thrown9, t_wins9, t_fits9) → va_P D vwCl (w_X5_digest cy A_t A_t_s A_t_past A_t_begun A_t_text A_t_wins A_t_fits t_pasts 0 t_typed t_at t_letter t_one t_other t_s t_wins t_fits) H → va_D A (w_X5_digest cy A_t A_t_s A_t_past A_t_begun A_t_text A_t_wins A_t_fits t_pasts 0 t_typed t_at t_letter t_one t_other t_s t_wins t_fits) → va_S A s.heap H locs → lv_has ls 4 [(0, .ref A_t), (1, .long u1_16)] → W p l e (rmK 4 94) s m args below meth c H locs 0 0 (MQ below (kQ (some (.long r9)) D A (w_X5_digest cy A_t A_t_s A_t_past A_t_begun A_t_text A_t_wins A_t_fits t_pasts t_thrown9 t_typed t_at t_letter t_one t_other t_s t_wins9 t_fits9)) args s 0 0 A) (F0 m 118 ls [])) → ∀ (n : Nat) (v1_14 : Int64) (v3_15 : Int32) (H : Heap) (locs : List Loc) (ls : Array Slot), L_X5_digest_82 N t_s kont n v1_14 v3_15 = some (r9, t_thrown9, t_wins9, t_fits9) → va_P D vwCl (w_X5_digest cy A_t A_t_s A_t_past A_t_begun A_t_text A_t_wins A_t_fits t_pasts 0 t_typed t_at t_letter t_one t_other t_s t_wins t_fits) H → va_D A (w_X5_digest cy A_t A_t_s A_t_past A_t_begun A_t_text A_t_wins A_t_fits t_pasts 0 t_typed t_at t_letter t_one t_other t_s t_wins t_fits) → va_S A s.heap H locs → lv_has ls 4 [(0, .ref A_t), (1, .long v1_14), (3, .int v3_15)] → W p l e (rmK 4 94) s m args below meth c H locs 0 0 (MQ below (kQ (some (.long r9)) D A (w_X5_digest cy A_t A_t_s A_t_past A_t_begun A_t_text A_t_wins A_t_fits t_pasts t_thrown9 t_typed t_at t_letter t_one t_other t_s t_wins9 t_fits9)) args s 0 0 A) (F0 m 82 ls []) := by
    intro kont hexit_82 n
    induction n with
    | zero =>
      intro v1_14 v3_15 H locs ls hF
      rw [L_X5_digest_82] at hF
      cases hF
    | succ n ih =>
      intro v1_14 v3_15 H locs ls hF hP hD hS hl
      rw [L_X5_digest_82] at hF
      refine lv_iload_n hx hb dX5_digest_82 rfl (lv_at hl 2 rfl) ?_
      refine lv_iconst (v := 3) hx hb dX5_digest_83 (by decide) ?_
      refine lv_aload_n hx hb dX5_digest_84 rfl (lv_at hl 0 rfl) ?_
      refine va_get (D := D) (ci := 5) (v := .ref A_t_s) (C := RX5) (T := TX5) (N := 13) hx hb hts inX5 hown hK hP 0 rfl rfl 0 (by decide) (hts _ q_731) (fun _ h9 => h9) rfl dX5_digest_85 ?_
      refine lv_iconst (v := 2) hx hb dX5_digest_88 (by decide) ?_
      refine ka_iald hx hb hK hP 1 rfl (2) rfl (inb_in (by decide)) dX5_digest_89 ?_
      refine lv_imul hx hb dX5_digest_90 ?_
      refine lv_icmp_ge (tgt := 118) hx hb dX5_digest_91 (by decide) (fun c_17 => ?_) (fun c_17 => ?_)
      · replace hF := ite_t c_17 hF
        exact hexit_82 v1_14 H locs ls hF hP hD hS (lv_sub hl [0, 1] rfl)
      · replace hF := ite_f c_17 hF
        refine lv_ldc2 (v := 31) hx hb hown (hts _ q_1035) dX5_digest_94 ?_
        refine lv_lload_n hx hb dX5_digest_97 rfl (lv_at hl 1 rfl) ?_
        refine lv_lmul hx hb dX5_digest_98 ?_
        refine lv_aload_n hx hb dX5_digest_99 rfl (lv_at hl 0 rfl) ?_
        refine lv_iload_n hx hb dX5_digest_100 rfl (lv_at hl 2 rfl) ?_
        refine lv_iconst (v := 3) hx hb dX5_digest_101 (by decide) ?_
        refine lv_idiv hx hb dX5_digest_102 (by decide) ?_
        refine lv_iload_n hx hb dX5_digest_103 rfl (lv_at hl 2 rfl) ?_
        refine lv_iconst (v := 3) hx hb dX5_digest_104 (by decide) ?_
        refine lv_irem hx hb dX5_digest_105 (by decide) ?_
        obtain ⟨r_18, hF_19, hF⟩ := ob1_some hF
        refine kcV (q := (RX5, TX5, 13)) (ci := 5) (q0 := 0) (As := [.int (v3_15 / 3), .int (v3_15 - v3_15 / 3 * 3)]) (rest := [.long (31 * v1_14)]) (wr := [(A_t_wins, .inl (cy 3, 1024, .inl (fun j => bI (t_wins j)))), (A_t_fits, .inl (cy 0, 1024, .inl t_fits))]) (wsN := (w_X5_digest cy A_t A_t_s A_t_past A_t_begun A_t_text A_t_wins A_t_fits t_pasts 0 t_typed t_at t_letter t_one t_other t_s t_wins t_fits)) ⟨hx, hb, hml, hown, hts⟩ hE hP hD hS hA hAs [0, 1] [2, 3] [2, 3, 0, 1] (c_X5_ofClause l D cy s0 tW N A_t A_t_s A_t_past A_t_begun A_t_text A_t_wins A_t_fits (v3_15 / 3) (v3_15 - v3_15 / 3 * 3) t_pasts 0 t_typed t_at t_letter t_one t_other t_s _ hF_19) (gV q_906 q_908 q_67 q_88 q_909) hd_X5_ofClause ⟨Nat.le_of_ble_eq_true rfl, Nat.le_of_ble_eq_true rfl⟩ rfl rfl rfl rfl rfl rfl rfl rfl rfl hl.1 rfl (Nat.le_of_ble_eq_true rfl) dX5_digest_106 ⟨Nat.zero_le _, Nat.zero_le _⟩ (fun H locs hP hD hS => ?_)
        refine W.eq (g2 := F0 m 109 ls [.int r_18, .long (31 * v1_14)]) rfl ?_
        refine lv_i2l (v := r_18.toInt64) hx hb dX5_digest_109 rfl ?_
        refine lv_ladd hx hb dX5_digest_110 ?_
        refine lv_lstore_n (lv' := [(1, .long ((31 * v1_14) + r_18.toInt64)), (0, .ref A_t), (3, .int v3_15)]) hx hb dX5_digest_111 rfl hl (by decide) rfl (fun ls hl => ?_)
        refine lv_iinc (v := (v3_15 + 1)) (lv' := [(3, .int (v3_15 + 1)), (1, .long ((31 * v1_14) + r_18.toInt64)), (0, .ref A_t)]) hx hb dX5_digest_112 hl (k := 2) rfl (by first | rfl | decide) (by decide) rfl (fun ls hl => ?_)
        refine lv_goto (tgt := 82) hx hb dX5_digest_115 (by decide) ?_
        exact ih ((31 * v1_14) + r_18.toInt64) (v3_15 + 1) H locs ls hF hP hD hS (lv_sub hl [2, 1, 0] rfl)
  refine hloop_82 _ (fun u1_16 H locs ls hF hP hD hS hl => ?_) N u1_9 0 _ _ ls hF hP hD hS (lv_sub hl [1, 2, 0] rfl)
  refine lv_ldc2 (v := 31) hx hb hown (hts _ q_1035) dX5_digest_118 ?_
  refine lv_lload_n hx hb dX5_digest_121 rfl (lv_at hl 1 rfl) ?_
  refine lv_lmul hx hb dX5_digest_122 ?_
  refine lv_aload_n hx hb dX5_digest_123 rfl (lv_at hl 0 rfl) ?_
  obtain ⟨r_20, t_wins_21, hF_22, hF⟩ := ob2_some hF
  refine kcV (q := (RX5, TX5, 13)) (ci := 5) (q0 := 0) (As := []) (rest := [.long (31 * u1_16)]) (wr := [(A_t_fits, .inl (cy 0, 1024, .inl t_fits))]) (wsN := (w_X5_digest cy A_t A_t_s A_t_past A_t_begun A_t_text A_t_wins A_t_fits t_pasts 0 t_typed t_at t_letter t_one t_other t_s t_wins_21 t_fits)) ⟨hx, hb, hml, hown, hts⟩ hE hP hD hS hA hAs [0, 1, 2] [3] [1, 2, 3, 0] (c_X5_winnerOfAll l D cy s0 tW N A_t A_t_s A_t_past A_t_begun A_t_text A_t_wins A_t_fits t_pasts 0 t_typed t_at t_letter t_one t_other t_s t_wins _ hF_22) (gV q_926 q_928 q_69 q_88 q_929) hd_X5_winnerOfAll ⟨Nat.le_of_ble_eq_true rfl, Nat.le_of_ble_eq_true rfl⟩ rfl rfl rfl rfl rfl rfl rfl rfl rfl hl.1 rfl (Nat.le_of_ble_eq_true rfl) dX5_digest_124 ⟨Nat.zero_le _, Nat.zero_le _⟩ (fun H locs hP hD hS => ?_)
  refine W.eq (g2 := F0 m 127 ls [.int r_20, .long (31 * u1_16)]) rfl ?_
  refine lv_i2l (v := r_20.toInt64) hx hb dX5_digest_127 rfl ?_
  refine lv_ladd hx hb dX5_digest_128 ?_
  refine lv_lstore_n (lv' := [(1, .long ((31 * u1_16) + r_20.toInt64)), (0, .ref A_t)]) hx hb dX5_digest_129 rfl hl (by decide) rfl (fun ls hl => ?_)
  refine lv_ldc2 (v := 31) hx hb hown (hts _ q_1035) dX5_digest_130 ?_
  refine lv_lload_n hx hb dX5_digest_133 rfl (lv_at hl 0 rfl) ?_
  refine lv_lmul hx hb dX5_digest_134 ?_
  refine lv_aload_n hx hb dX5_digest_135 rfl (lv_at hl 1 rfl) ?_
  obtain ⟨r_23, hF_24, hF⟩ := ob1_some hF
  refine kcV (q := (RX5, TX5, 13)) (ci := 5) (q0 := 0) (As := []) (rest := [.long (31 * ((31 * u1_16) + r_20.toInt64))]) (wr := [(A_t_wins, .inl (cy 3, 1024, .inl (fun j => bI (t_wins_21 j)))), (A_t_fits, .inl (cy 0, 1024, .inl t_fits))]) (wsN := (w_X5_digest cy A_t A_t_s A_t_past A_t_begun A_t_text A_t_wins A_t_fits t_pasts 0 t_typed t_at t_letter t_one t_other t_s t_wins_21 t_fits)) ⟨hx, hb, hml, hown, hts⟩ hE hP hD hS hA hAs [0, 1] [2, 3] [2, 3, 0, 1] (c_X5_copiesOfAll l D cy s0 tW N A_t A_t_s A_t_past A_t_begun A_t_text A_t_wins A_t_fits t_pasts 0 t_typed t_at t_letter t_one t_other t_s _ hF_24) (gV q_970 q_972 q_74 q_88 q_973) hd_X5_copiesOfAll ⟨Nat.le_of_ble_eq_true rfl, Nat.le_of_ble_eq_true rfl⟩ rfl rfl rfl rfl rfl rfl rfl rfl rfl hl.1 rfl (Nat.le_of_ble_eq_true rfl) dX5_digest_136 ⟨Nat.zero_le _, Nat.zero_le _⟩ (fun H locs hP hD hS => ?_)
  refine W.eq (g2 := F0 m 139 ls [.int r_23, .long (31 * ((31 * u1_16) + r_20.toInt64))]) rfl ?_
  refine lv_i2l (v := r_23.toInt64) hx hb dX5_digest_139 rfl ?_
  refine lv_ladd hx hb dX5_digest_140 ?_
  refine lv_lstore_n (lv' := [(1, .long ((31 * ((31 * u1_16) + r_20.toInt64)) + r_23.toInt64)), (0, .ref A_t)]) hx hb dX5_digest_141 rfl hl (by decide) rfl (fun ls hl => ?_)
  refine lv_ldc2 (v := 31) hx hb hown (hts _ q_1035) dX5_digest_142 ?_
  refine lv_lload_n hx hb dX5_digest_145 rfl (lv_at hl 0 rfl) ?_
  refine lv_lmul hx hb dX5_digest_146 ?_
  refine lv_aload_n hx hb dX5_digest_147 rfl (lv_at hl 1 rfl) ?_
  obtain ⟨r_25, t_wins_26, t_fits_27, hF_28, hF⟩ := ob3_some hF
  refine kcV (q := (RX5, TX5, 13)) (ci := 5) (q0 := 0) (As := []) (rest := [.long (31 * ((31 * ((31 * u1_16) + r_20.toInt64)) + r_23.toInt64))]) (wr := []) (wsN := (w_X5_digest cy A_t A_t_s A_t_past A_t_begun A_t_text A_t_wins A_t_fits t_pasts 0 t_typed t_at t_letter t_one t_other t_s t_wins_26 t_fits_27)) ⟨hx, hb, hml, hown, hts⟩ hE hP hD hS hA hAs [0, 1, 2, 3] [] [0, 1, 2, 3] (c_X5_least l D cy s0 tW N A_t A_t_s A_t_past A_t_begun A_t_text A_t_wins A_t_fits t_pasts 0 t_typed t_at t_letter t_one t_other t_s t_wins_21 t_fits _ hF_28) (gV q_978 q_980 q_75 q_88 q_981) hd_X5_least ⟨Nat.le_of_ble_eq_true rfl, Nat.le_of_ble_eq_true rfl⟩ rfl rfl rfl rfl rfl rfl rfl rfl rfl hl.1 rfl (Nat.le_of_ble_eq_true rfl) dX5_digest_148 ⟨Nat.zero_le _, Nat.zero_le _⟩ (fun H locs hP hD hS => ?_)
  refine W.eq (g2 := F0 m 151 ls [.int r_25, .long (31 * ((31 * ((31 * u1_16) + r_20.toInt64)) + r_23.toInt64))]) rfl ?_
  refine lv_i2l (v := r_25.toInt64) hx hb dX5_digest_151 rfl ?_
  refine lv_ladd hx hb dX5_digest_152 ?_
  refine lv_topl (fun x_29 ex_29 => ?_)
  replace hF := nmv_at ex_29 hF
  refine lv_lstore_n (lv' := [(1, .long x_29), (0, .ref A_t)]) hx hb dX5_digest_153 rfl hl (by decide) rfl (fun ls hl => ?_)
  refine lv_ldc2 (v := 31) hx hb hown (hts _ q_1035) dX5_digest_154 ?_
  refine lv_lload_n hx hb dX5_digest_157 rfl (lv_at hl 0 rfl) ?_
  refine lv_lmul hx hb dX5_digest_158 ?_
  refine lv_aload_n hx hb dX5_digest_159 rfl (lv_at hl 1 rfl) ?_
  refine va_get (D := D) (ci := 5) (v := .int t_pasts) (C := RX5) (T := TX5) (N := 13) hx hb hts inX5 hown hK hP 0 rfl rfl 3 (by decide) (hts _ q_734) (fun _ h9 => h9) rfl dX5_digest_160 ?_
  refine lv_i2l (v := t_pasts.toInt64) hx hb dX5_digest_163 rfl ?_
  refine lv_ladd hx hb dX5_digest_164 ?_
  cases hF
  exact kret_l hx hb hr hlocks hP hD hS dX5_digest_165
