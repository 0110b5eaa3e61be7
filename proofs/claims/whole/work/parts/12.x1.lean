theorem q_182 : Cond.fieldLink RX1 9 "ForAllGame$OrderText" "bytes" "[I" ∈ wAll := wAll_mem 182 (by decide +kernel) (by decide +kernel)
theorem q_183 : Cond.fieldLink RX1 19 "ForAllGame$OrderText" "length" "I" ∈ wAll := wAll_mem 183 (by decide +kernel) (by decide +kernel)
theorem nq_712 {s : State} (h : NW s) : va_Nw (Cond.methodLinkNest RX1 22 yX4_write "ForAllGame") s := h.at 712 (by decide +kernel) rfl
abbrev w_X1_put (cy : Nat → ClassId) (A_t : Nat) (A_t_bytes : Nat) (t_length : Int32) (t_at : Int32) (t_error : Int32) (t_kind : Int32) (t_positive : Int32) (t_negative : Int32) (t_play : Int32) (t_bytes : Nat → Int32) : va_W := [(A_t, .inr (1, [.ref A_t_bytes, .int t_length, .int t_at, .int t_error, .int t_kind, .int t_positive, .int t_negative, .int t_play])), (A_t_bytes, .inl (cy 0, 100, .inl t_bytes))]
def F_X1_put (N : Nat) (p0 : Int32) (t_bytes : Nat → Int32) (t_length : Int32) : Option ((Nat → Int32) × Int32) :=
  ob1 (F_X4_write N 100 t_length p0 t_bytes) (fun t_bytes_1 => some (t_bytes_1, (t_length + 1)))
set_option maxHeartbeats 4000000 in
set_option maxRecDepth 100000 in
theorem c_X1_put (l : Launch) (D : va_G) (cy : Nat → ClassId) (s0 tW N : Nat) (A_t : Nat) (A_t_bytes : Nat) (p0 : Int32) (t_length : Int32) (t_at : Int32) (t_error : Int32) (t_kind : Int32) (t_positive : Int32) (t_negative : Int32) (t_play : Int32) (t_bytes : Nat → Int32) (sz : Nat) {t_bytes9 : Nat → Int32} {t_length9 : Int32} (hF : F_X1_put N p0 t_bytes t_length = some (t_bytes9, t_length9)) : KM l D cy s0 tW yX1_put cX1_put 2 none 1 22 [.ref A_t, .int p0] sz (w_X1_put cy A_t A_t_bytes t_length t_at t_error t_kind t_positive t_negative t_play t_bytes) none (w_X1_put cy A_t A_t_bytes t_length9 t_at t_error t_kind t_positive t_negative t_play t_bytes9) := by
  refine KM.intro rfl (Nat.le_of_ble_eq_true rfl) ?_
  intro p e s m args below meth c A ls hx hb hr hml hown hts hlocks hE hP hD hS hA hAs hl
  have hK := hE.1
  have hl : lv_has ls 2 [(0, .ref A_t), (1, .int p0)] := hl
  unfold F_X1_put at hF
  refine lv_aload_n hx hb dX1_put_0 rfl (lv_at hl 0 rfl) ?_
  refine va_get (D := D) (ci := 1) (v := .ref A_t_bytes) (C := RX1) (T := TX1) (N := 8) hx hb hts inX1 hown hK hP 0 rfl rfl 0 (by decide) (hts _ q_182) (fun _ h9 => h9) rfl dX1_put_1 ?_
  refine lv_aload_n hx hb dX1_put_4 rfl (lv_at hl 0 rfl) ?_
  refine va_get (D := D) (ci := 1) (v := .int t_length) (C := RX1) (T := TX1) (N := 8) hx hb hts inX1 hown hK hP 0 rfl rfl 1 (by decide) (hts _ q_183) (fun _ h9 => h9) rfl dX1_put_5 ?_
  refine lv_iload_n hx hb dX1_put_8 rfl (lv_at hl 1 rfl) ?_
  obtain ⟨t_bytes_1, hF_2, hF⟩ := ob1_some hF
  refine kcSN (As := [.ref A_t_bytes, .int t_length, .int p0]) (rest := []) (wr := [(A_t, .inr (1, [.ref A_t_bytes, .int t_length, .int t_at, .int t_error, .int t_kind, .int t_positive, .int t_negative, .int t_play]))]) (wsN := (w_X1_put cy A_t A_t_bytes t_length t_at t_error t_kind t_positive t_negative t_play t_bytes_1)) ⟨hx, hb, hml, hown, hts⟩ hE hP hD hS hA hAs [1] [0] [0, 1] (c_X4_write l D cy s0 tW N A_t_bytes 100 t_length p0 t_bytes _ hF_2) q_246 q_83 q_245 (nq_712 hE.2.1) hd_X4_write.2 ⟨Nat.le_of_ble_eq_true rfl, Nat.le_of_ble_eq_true rfl⟩ rfl rfl rfl rfl rfl rfl rfl hl.1 rfl (Nat.le_of_ble_eq_true rfl) dX1_put_9 ⟨Nat.zero_le _, Nat.zero_le _⟩ (fun H locs hP hD hS => ?_)
  refine W.eq (g2 := F0 m 12 ls []) rfl ?_
  refine lv_aload_n hx hb dX1_put_12 rfl (lv_at hl 0 rfl) ?_
  refine lv_dup hx hb dX1_put_13 rfl ?_
  refine va_get (D := D) (ci := 1) (v := .int t_length) (C := RX1) (T := TX1) (N := 8) hx hb hts inX1 hown hK hP 0 rfl rfl 1 (by decide) (hts _ q_183) (fun _ h9 => h9) rfl dX1_put_14 ?_
  refine lv_iconst (v := 1) hx hb dX1_put_17 (by decide) ?_
  refine lv_iadd hx hb dX1_put_18 ?_
  refine ka_put (ci := 1) (v := .int (t_length + 1)) (ty := .int) (C := RX1) (T := TX1) (N := 8) (wsN := (w_X1_put cy A_t A_t_bytes (t_length + 1) t_at t_error t_kind t_positive t_negative t_play t_bytes_1)) hx hb hts inX1 tyX1 tyX1_ok nmX1 hown hK hP hD hS 0 rfl rfl 1 (by decide) (hts _ q_183) (fun _ h9 => h9) rfl (by decide +kernel) rfl rfl (Nat.le_of_ble_eq_true rfl) rfl dX1_put_19 (fun H locs hP hD hS => ?_)
  cases hF
  exact kret_v hx hb hr hlocks hP hD hS dX1_put_22

theorem q_185 : Cond.fieldLink RX1 26 "ForAllGame$OrderText" "at" "I" ∈ wAll := wAll_mem 185 (by decide +kernel) (by decide +kernel)
theorem q_186 : Cond.fieldLink RX1 15 "ForAllGame$OrderText" "error" "I" ∈ wAll := wAll_mem 186 (by decide +kernel) (by decide +kernel)
abbrev w_X1_rewind (cy : Nat → ClassId) (A_t : Nat) (A_t_bytes : Nat) (t_length : Int32) (t_at : Int32) (t_error : Int32) (t_kind : Int32) (t_positive : Int32) (t_negative : Int32) (t_play : Int32) : va_W := [(A_t, .inr (1, [.ref A_t_bytes, .int t_length, .int t_at, .int t_error, .int t_kind, .int t_positive, .int t_negative, .int t_play]))]
def F_X1_rewind (N : Nat) (t_at : Int32) (t_error : Int32) : Option (Int32 × Int32) :=
  some (0, (-1))
set_option maxHeartbeats 4000000 in
set_option maxRecDepth 100000 in
theorem c_X1_rewind (l : Launch) (D : va_G) (cy : Nat → ClassId) (s0 tW N : Nat) (A_t : Nat) (A_t_bytes : Nat) (t_length : Int32) (t_at : Int32) (t_error : Int32) (t_kind : Int32) (t_positive : Int32) (t_negative : Int32) (t_play : Int32) (sz : Nat) {t_at9 : Int32} {t_error9 : Int32} (hF : F_X1_rewind N t_at t_error = some (t_at9, t_error9)) : KM l D cy s0 tW yX1_rewind cX1_rewind 1 none 0 0 [.ref A_t] sz (w_X1_rewind cy A_t A_t_bytes t_length t_at t_error t_kind t_positive t_negative t_play) none (w_X1_rewind cy A_t A_t_bytes t_length t_at9 t_error9 t_kind t_positive t_negative t_play) := by
  refine KM.intro rfl (Nat.le_of_ble_eq_true rfl) ?_
  intro p e s m args below meth c A ls hx hb hr hml hown hts hlocks hE hP hD hS hA hAs hl
  have hK := hE.1
  have hl : lv_has ls 1 [(0, .ref A_t)] := hl
  unfold F_X1_rewind at hF
  refine lv_aload_n hx hb dX1_rewind_0 rfl (lv_at hl 0 rfl) ?_
  refine lv_iconst (v := 0) hx hb dX1_rewind_1 (by decide) ?_
  refine ka_put (ci := 1) (v := .int 0) (ty := .int) (C := RX1) (T := TX1) (N := 8) (wsN := (w_X1_rewind cy A_t A_t_bytes t_length 0 t_error t_kind t_positive t_negative t_play)) hx hb hts inX1 tyX1 tyX1_ok nmX1 hown hK hP hD hS 0 rfl rfl 2 (by decide) (hts _ q_185) (fun _ h9 => h9) rfl (by decide +kernel) rfl rfl (Nat.le_of_ble_eq_true rfl) rfl dX1_rewind_2 (fun H locs hP hD hS => ?_)
  refine lv_aload_n hx hb dX1_rewind_5 rfl (lv_at hl 0 rfl) ?_
  refine lv_iconst (v := (-1)) hx hb dX1_rewind_6 (by decide) ?_
  refine ka_put (ci := 1) (v := .int (-1)) (ty := .int) (C := RX1) (T := TX1) (N := 8) (wsN := (w_X1_rewind cy A_t A_t_bytes t_length 0 (-1) t_kind t_positive t_negative t_play)) hx hb hts inX1 tyX1 tyX1_ok nmX1 hown hK hP hD hS 0 rfl rfl 3 (by decide) (hts _ q_186) (fun _ h9 => h9) rfl (by decide +kernel) rfl rfl (Nat.le_of_ble_eq_true rfl) rfl dX1_rewind_7 (fun H locs hP hD hS => ?_)
  cases hF
  exact kret_v hx hb hr hlocks hP hD hS dX1_rewind_10

theorem nq_399 {s : State} (h : NW s) : va_Nw (Cond.methodLinkNest RX1 65 yX4_read "ForAllGame") s := h.at 399 (by decide +kernel) rfl
abbrev w_X1_byteAt (cy : Nat → ClassId) (A_t : Nat) (A_t_bytes : Nat) (t_length : Int32) (t_at : Int32) (t_error : Int32) (t_kind : Int32) (t_positive : Int32) (t_negative : Int32) (t_play : Int32) (t_bytes : Nat → Int32) : va_W := [(A_t, .inr (1, [.ref A_t_bytes, .int t_length, .int t_at, .int t_error, .int t_kind, .int t_positive, .int t_negative, .int t_play])), (A_t_bytes, .inl (cy 0, 100, .inl t_bytes))]
def F_X1_byteAt (N : Nat) (p0 : Int32) (t_bytes : Nat → Int32) (t_length : Int32) : Option (Int32) :=
  (if t_length ≤ p0 then some (-1) else ob1 (F_X4_read N 100 p0 t_bytes) (fun r_2 => some r_2))
set_option maxHeartbeats 4000000 in
set_option maxRecDepth 100000 in
theorem c_X1_byteAt (l : Launch) (D : va_G) (cy : Nat → ClassId) (s0 tW N : Nat) (A_t : Nat) (A_t_bytes : Nat) (p0 : Int32) (t_length : Int32) (t_at : Int32) (t_error : Int32) (t_kind : Int32) (t_positive : Int32) (t_negative : Int32) (t_play : Int32) (t_bytes : Nat → Int32) (sz : Nat) {r9 : Int32} (hF : F_X1_byteAt N p0 t_bytes t_length = some r9) : KM l D cy s0 tW yX1_byteAt cX1_byteAt 2 (some .int) 1 21 [.ref A_t, .int p0] sz (w_X1_byteAt cy A_t A_t_bytes t_length t_at t_error t_kind t_positive t_negative t_play t_bytes) (some (.int r9)) (w_X1_byteAt cy A_t A_t_bytes t_length t_at t_error t_kind t_positive t_negative t_play t_bytes) := by
  refine KM.intro rfl (Nat.le_of_ble_eq_true rfl) ?_
  intro p e s m args below meth c A ls hx hb hr hml hown hts hlocks hE hP hD hS hA hAs hl
  have hK := hE.1
  have hl : lv_has ls 2 [(0, .ref A_t), (1, .int p0)] := hl
  unfold F_X1_byteAt at hF
  refine lv_iload_n hx hb dX1_byteAt_0 rfl (lv_at hl 1 rfl) ?_
  refine lv_aload_n hx hb dX1_byteAt_1 rfl (lv_at hl 0 rfl) ?_
  refine va_get (D := D) (ci := 1) (v := .int t_length) (C := RX1) (T := TX1) (N := 8) hx hb hts inX1 hown hK hP 0 rfl rfl 1 (by decide) (hts _ q_183) (fun _ h9 => h9) rfl dX1_byteAt_2 ?_
  refine lv_icmp_ge (tgt := 19) hx hb dX1_byteAt_5 (by decide) (fun c_1 => ?_) (fun c_1 => ?_)
  · replace hF := ite_t c_1 hF
    refine lv_iconst (v := (-1)) hx hb dX1_byteAt_19 (by decide) ?_
    cases hF
    exact kret_i hx hb hr hlocks hP hD hS dX1_byteAt_20
  · replace hF := ite_f c_1 hF
    refine lv_aload_n hx hb dX1_byteAt_8 rfl (lv_at hl 0 rfl) ?_
    refine va_get (D := D) (ci := 1) (v := .ref A_t_bytes) (C := RX1) (T := TX1) (N := 8) hx hb hts inX1 hown hK hP 0 rfl rfl 0 (by decide) (hts _ q_182) (fun _ h9 => h9) rfl dX1_byteAt_9 ?_
    refine lv_iload_n hx hb dX1_byteAt_12 rfl (lv_at hl 1 rfl) ?_
    obtain ⟨r_2, hF_3, hF⟩ := ob1_some hF
    refine kcSN (As := [.ref A_t_bytes, .int p0]) (rest := []) (wr := [(A_t, .inr (1, [.ref A_t_bytes, .int t_length, .int t_at, .int t_error, .int t_kind, .int t_positive, .int t_negative, .int t_play]))]) (wsN := (w_X1_byteAt cy A_t A_t_bytes t_length t_at t_error t_kind t_positive t_negative t_play t_bytes)) ⟨hx, hb, hml, hown, hts⟩ hE hP hD hS hA hAs [1] [0] [0, 1] (c_X4_read l D cy s0 tW N A_t_bytes 100 p0 t_bytes _ hF_3) q_243 q_83 q_242 (nq_399 hE.2.1) hd_X4_read.2 ⟨Nat.le_of_ble_eq_true rfl, Nat.le_of_ble_eq_true rfl⟩ rfl rfl rfl rfl rfl rfl rfl hl.1 rfl (Nat.le_of_ble_eq_true rfl) dX1_byteAt_13 ⟨Nat.zero_le _, Nat.zero_le _⟩ (fun H locs hP hD hS => ?_)
    refine W.eq (g2 := F0 m 16 ls [.int r_2]) rfl ?_
    refine lv_goto (tgt := 20) hx hb dX1_byteAt_16 (by decide) ?_
    cases hF
    exact kret_i hx hb hr hlocks hP hD hS dX1_byteAt_20

abbrev w_X1_fail (cy : Nat → ClassId) (A_t : Nat) (A_t_bytes : Nat) (t_length : Int32) (t_at : Int32) (t_error : Int32) (t_kind : Int32) (t_positive : Int32) (t_negative : Int32) (t_play : Int32) : va_W := [(A_t, .inr (1, [.ref A_t_bytes, .int t_length, .int t_at, .int t_error, .int t_kind, .int t_positive, .int t_negative, .int t_play]))]
def F_X1_fail (N : Nat) (p0 : Int32) (t_error : Int32) : Option (Bool × Int32) :=
  some (false, p0)
set_option maxHeartbeats 4000000 in
set_option maxRecDepth 100000 in
theorem c_X1_fail (l : Launch) (D : va_G) (cy : Nat → ClassId) (s0 tW N : Nat) (A_t : Nat) (A_t_bytes : Nat) (p0 : Int32) (t_length : Int32) (t_at : Int32) (t_error : Int32) (t_kind : Int32) (t_positive : Int32) (t_negative : Int32) (t_play : Int32) (sz : Nat) {r9 : Bool} {t_error9 : Int32} (hF : F_X1_fail N p0 t_error = some (r9, t_error9)) : KM l D cy s0 tW yX1_fail cX1_fail 2 (some .boolean) 0 0 [.ref A_t, .int p0] sz (w_X1_fail cy A_t A_t_bytes t_length t_at t_error t_kind t_positive t_negative t_play) (some (.int (bI r9))) (w_X1_fail cy A_t A_t_bytes t_length t_at t_error9 t_kind t_positive t_negative t_play) := by
  refine KM.intro rfl (Nat.le_of_ble_eq_true rfl) ?_
  intro p e s m args below meth c A ls hx hb hr hml hown hts hlocks hE hP hD hS hA hAs hl
  have hK := hE.1
  have hl : lv_has ls 2 [(0, .ref A_t), (1, .int p0)] := hl
  unfold F_X1_fail at hF
  refine lv_aload_n hx hb dX1_fail_0 rfl (lv_at hl 0 rfl) ?_
  refine lv_iload_n hx hb dX1_fail_1 rfl (lv_at hl 1 rfl) ?_
  refine ka_put (ci := 1) (v := .int p0) (ty := .int) (C := RX1) (T := TX1) (N := 8) (wsN := (w_X1_fail cy A_t A_t_bytes t_length t_at p0 t_kind t_positive t_negative t_play)) hx hb hts inX1 tyX1 tyX1_ok nmX1 hown hK hP hD hS 0 rfl rfl 3 (by decide) (hts _ q_186) (fun _ h9 => h9) rfl (by decide +kernel) rfl rfl (Nat.le_of_ble_eq_true rfl) rfl dX1_fail_2 (fun H locs hP hD hS => ?_)
  refine lv_iconst (v := 0) hx hb dX1_fail_5 (by decide) ?_
  cases hF
  exact kret_z hx hb hr hlocks hP hD hS dX1_fail_6

def F_X1_isDigit (N : Nat) (p0 : Int32) : Option (Bool) :=
  (if p0 < (48 : Int32) then some false else (if (57 : Int32) < p0 then some false else some true))
set_option maxHeartbeats 4000000 in
set_option maxRecDepth 100000 in
theorem c_X1_isDigit (l : Launch) (D : va_G) (cy : Nat → ClassId) (s0 tW N : Nat) (p0 : Int32) (sz : Nat) {r9 : Bool} (hF : F_X1_isDigit N p0 = some r9) : KM l D cy s0 tW yX1_isDigit cX1_isDigit 1 (some .boolean) 0 0 [.int p0] sz [] (some (.int (bI r9))) [] := by
  refine KM.intro rfl (Nat.le_of_ble_eq_true rfl) ?_
  intro p e s m args below meth c A ls hx hb hr hml hown hts hlocks hE hP hD hS hA hAs hl
  have hK := hE.1
  have hl : lv_has ls 1 [(0, .int p0)] := hl
  unfold F_X1_isDigit at hF
  refine lv_iload_n hx hb dX1_isDigit_0 rfl (lv_at hl 0 rfl) ?_
  refine lv_bipush (v := 48) hx hb dX1_isDigit_1 (by decide) ?_
  refine lv_icmp_lt (tgt := 16) hx hb dX1_isDigit_3 (by decide) (fun c_1 => ?_) (fun c_1 => ?_)
  · replace hF := ite_t c_1 hF
    refine lv_iconst (v := 0) hx hb dX1_isDigit_16 (by decide) ?_
    cases hF
    exact kret_z hx hb hr hlocks hP hD hS dX1_isDigit_17
  · replace hF := ite_f c_1 hF
    refine lv_iload_n hx hb dX1_isDigit_6 rfl (lv_at hl 0 rfl) ?_
    refine lv_bipush (v := 57) hx hb dX1_isDigit_7 (by decide) ?_
    refine lv_icmp_gt (tgt := 16) hx hb dX1_isDigit_9 (by decide) (fun c_2 => ?_) (fun c_2 => ?_)
    · replace hF := ite_t c_2 hF
      refine lv_iconst (v := 0) hx hb dX1_isDigit_16 (by decide) ?_
      cases hF
      exact kret_z hx hb hr hlocks hP hD hS dX1_isDigit_17
    · replace hF := ite_f c_2 hF
      refine lv_iconst (v := 1) hx hb dX1_isDigit_12 (by decide) ?_
      refine lv_goto (tgt := 17) hx hb dX1_isDigit_13 (by decide) ?_
      cases hF
      exact kret_z hx hb hr hlocks hP hD hS dX1_isDigit_17

theorem q_22 : Cond.selects RX1 yX1_byteAt yX1_byteAt ∈ wAll := wAll_mem 22 (by decide +kernel) (by decide +kernel)
theorem q_23 : Cond.selects RX1 yX1_fail yX1_fail ∈ wAll := wAll_mem 23 (by decide +kernel) (by decide +kernel)
theorem q_87 : Cond.initialized RX1 ∈ wAll := wAll_mem 87 (by decide +kernel) (by decide +kernel)
theorem q_189 : Cond.fieldLink RX1 53 "ForAllGame$OrderText" "positive" "I" ∈ wAll := wAll_mem 189 (by decide +kernel) (by decide +kernel)
theorem q_191 : Cond.fieldLink RX1 56 "ForAllGame$OrderText" "negative" "I" ∈ wAll := wAll_mem 191 (by decide +kernel) (by decide +kernel)
theorem q_395 : Cond.methodLink RX1 36 yX1_byteAt ∈ wAll := wAll_mem 395 (by decide +kernel) (by decide +kernel)
theorem q_397 : Cond.instanceMethod yX1_byteAt ∈ wAll := wAll_mem 397 (by decide +kernel) (by decide +kernel)
theorem q_398 : Cond.code yX1_byteAt cX1_byteAt 2 (some .int) ∈ wAll := wAll_mem 398 (by decide +kernel) (by decide +kernel)
theorem q_400 : Cond.methodLink RX1 43 yX1_fail ∈ wAll := wAll_mem 400 (by decide +kernel) (by decide +kernel)
theorem q_402 : Cond.instanceMethod yX1_fail ∈ wAll := wAll_mem 402 (by decide +kernel) (by decide +kernel)
theorem q_403 : Cond.code yX1_fail cX1_fail 2 (some .boolean) ∈ wAll := wAll_mem 403 (by decide +kernel) (by decide +kernel)
theorem hd_X1_byteAt : yX1_byteAt.cls = RX1 ∧ yX1_byteAt.cls ≠ "java/lang/invoke/MethodHandle" ∧ yX1_byteAt.cls ≠ "java/lang/invoke/VarHandle" ∧ (parseMethodDescriptor yX1_byteAt.desc).map (fun d => d.parameters.length) = some 1 := by decide +kernel
theorem hd_X1_fail : yX1_fail.cls = RX1 ∧ yX1_fail.cls ≠ "java/lang/invoke/MethodHandle" ∧ yX1_fail.cls ≠ "java/lang/invoke/VarHandle" ∧ (parseMethodDescriptor yX1_fail.desc).map (fun d => d.parameters.length) = some 1 := by decide +kernel
abbrev w_X1_readLiterals (cy : Nat → ClassId) (A_t : Nat) (A_t_bytes : Nat) (t_length : Int32) (t_at : Int32) (t_error : Int32) (t_kind : Int32) (t_positive : Int32) (t_negative : Int32) (t_play : Int32) (t_bytes : Nat → Int32) : va_W := [(A_t, .inr (1, [.ref A_t_bytes, .int t_length, .int t_at, .int t_error, .int t_kind, .int t_positive, .int t_negative, .int t_play])), (A_t_bytes, .inl (cy 0, 100, .inl t_bytes))]
def L_X1_readLiterals_10 (N : Nat) (t_length : Int32) (t_bytes : Nat → Int32) (kont : Int32 → Int32 → Int32 → Int32 → Option (Bool × Int32 × Int32 × Int32 × Int32)) : Nat → Int32 → Int32 → Int32 → Int32 → Option (Bool × Int32 × Int32 × Int32 × Int32)
  | 0, _, _, _, _ => none
  | n + 1, t_at_1, t_error_2, t_positive_3, t_negative_4 => (if t_length ≤ t_at_1 then kont t_at_1 t_error_2 t_positive_3 t_negative_4 else ob1 (F_X1_byteAt N t_at_1 t_bytes t_length) (fun r_10 => (if r_10 = (59 : Int32) then kont t_at_1 t_error_2 t_positive_3 t_negative_4 else ob1 (F_X1_byteAt N t_at_1 t_bytes t_length) (fun r_13 => (if r_13 = (45 : Int32) then ob1 (F_X1_byteAt N (t_at_1 + 1) t_bytes t_length) (fun r_26 => (if r_26 < (97 : Int32) then ob2 (F_X1_fail N (t_at_1 + 1) t_error_2) (fun r_29 t_error_30 => some (r_29, (t_at_1 + 1), t_error_30, t_positive_3, t_negative_4)) else (if r_26 ≤ (105 : Int32) then L_X1_readLiterals_10 N t_length t_bytes kont n ((t_at_1 + 1) + 1) t_error_2 t_positive_3 (t_negative_4 ||| ((1 : Int32) <<< ((r_26 - 97) &&& 31))) else ob2 (F_X1_fail N (t_at_1 + 1) t_error_2) (fun r_33 t_error_34 => some (r_33, (t_at_1 + 1), t_error_34, t_positive_3, t_negative_4))))) else ob1 (F_X1_byteAt N t_at_1 t_bytes t_length) (fun r_16 => (if r_16 < (97 : Int32) then ob2 (F_X1_fail N t_at_1 t_error_2) (fun r_19 t_error_20 => some (r_19, t_at_1, t_error_20, t_positive_3, t_negative_4)) else (if r_16 ≤ (105 : Int32) then L_X1_readLiterals_10 N t_length t_bytes kont n (t_at_1 + 1) t_error_2 (t_positive_3 ||| ((1 : Int32) <<< ((r_16 - 97) &&& 31))) t_negative_4 else ob2 (F_X1_fail N t_at_1 t_error_2) (fun r_23 t_error_24 => some (r_23, t_at_1, t_error_24, t_positive_3, t_negative_4))))))))))
def F_X1_readLiterals (N : Nat) (t_bytes : Nat → Int32) (t_length : Int32) (t_at : Int32) (t_error : Int32) (t_positive : Int32) (t_negative : Int32) : Option (Bool × Int32 × Int32 × Int32 × Int32) :=
  (L_X1_readLiterals_10 N t_length t_bytes (fun t_at_5 t_error_6 t_positive_7 t_negative_8 => some (true, t_at_5, t_error_6, t_positive_7, t_negative_8)) N t_at t_error 0 0)
set_option maxHeartbeats 4000000 in
set_option maxRecDepth 100000 in
theorem c_X1_readLiterals (l : Launch) (D : va_G) (cy : Nat → ClassId) (s0 tW N : Nat) (A_t : Nat) (A_t_bytes : Nat) (t_length : Int32) (t_at : Int32) (t_error : Int32) (t_kind : Int32) (t_positive : Int32) (t_negative : Int32) (t_play : Int32) (t_bytes : Nat → Int32) (sz : Nat) {r9 : Bool} {t_at9 : Int32} {t_error9 : Int32} {t_positive9 : Int32} {t_negative9 : Int32} (hF : F_X1_readLiterals N t_bytes t_length t_at t_error t_positive t_negative = some (r9, t_at9, t_error9, t_positive9, t_negative9)) : KM l D cy s0 tW yX1_readLiterals cX1_readLiterals 3 (some .boolean) 2 42 [.ref A_t] sz (w_X1_readLiterals cy A_t A_t_bytes t_length t_at t_error t_kind t_positive t_negative t_play t_bytes) (some (.int (bI r9))) (w_X1_readLiterals cy A_t A_t_bytes t_length t_at9 t_error9 t_kind t_positive9 t_negative9 t_play t_bytes) := by
  refine KM.intro rfl (Nat.le_of_ble_eq_true rfl) ?_
  intro p e s m args below meth c A ls hx hb hr hml hown hts hlocks hE hP hD hS hA hAs hl
  have hK := hE.1
  have hl : lv_has ls 3 [(0, .ref A_t)] := hl
  unfold F_X1_readLiterals at hF
  refine lv_aload_n hx hb dX1_readLiterals_0 rfl (lv_at hl 0 rfl) ?_
  refine lv_iconst (v := 0) hx hb dX1_readLiterals_1 (by decide) ?_
  refine ka_put (ci := 1) (v := .int 0) (ty := .int) (C := RX1) (T := TX1) (N := 8) (wsN := (w_X1_readLiterals cy A_t A_t_bytes t_length t_at t_error t_kind 0 t_negative t_play t_bytes)) hx hb hts inX1 tyX1 tyX1_ok nmX1 hown hK hP hD hS 0 rfl rfl 5 (by decide) (hts _ q_189) (fun _ h9 => h9) rfl (by decide +kernel) rfl rfl (Nat.le_of_ble_eq_true rfl) rfl dX1_readLiterals_2 (fun H locs hP hD hS => ?_)
  refine lv_aload_n hx hb dX1_readLiterals_5 rfl (lv_at hl 0 rfl) ?_
  refine lv_iconst (v := 0) hx hb dX1_readLiterals_6 (by decide) ?_
  refine ka_put (ci := 1) (v := .int 0) (ty := .int) (C := RX1) (T := TX1) (N := 8) (wsN := (w_X1_readLiterals cy A_t A_t_bytes t_length t_at t_error t_kind 0 0 t_play t_bytes)) hx hb hts inX1 tyX1 tyX1_ok nmX1 hown hK hP hD hS 0 rfl rfl 6 (by decide) (hts _ q_191) (fun _ h9 => h9) rfl (by decide +kernel) rfl rfl (Nat.le_of_ble_eq_true rfl) rfl dX1_readLiterals_7 (fun H locs hP hD hS => ?_)
  have hloop_10 : ∀ (kont : Int32 → Int32 → Int32 → Int32 → Option (Bool × Int32 × Int32 × Int32 × Int32)), (∀ (t_at_5 : Int32) (t_error_6 : Int32) (t_positive_7 : Int32) (t_negative_8 : Int32) (H : Heap) (locs : List Loc) (ls : Array Slot), kont t_at_5 t_error_6 t_positive_7 t_negative_8 = some (r9, t_at9, t_error9, t_positive9, t_negative9) → va_P D vwCl (w_X1_readLiterals cy A_t A_t_bytes t_length t_at_5 t_error_6 t_kind t_positive_7 t_negative_8 t_play t_bytes) H → va_D A (w_X1_readLiterals cy A_t A_t_bytes t_length t_at_5 t_error_6 t_kind t_positive_7 t_negative_8 t_play t_bytes) → va_S A s.heap H locs → lv_has ls 3 [] → W p l e (rmK 2 42) s m args below meth c H locs 0 0 (MQ below (kQ (some (.int (bI r9))) D A (w_X1_readLiterals cy A_t A_t_bytes t_length t_at9 t_error9 t_kind t_positive9 t_negative9 t_play t_bytes)) args s 0 0 A) (F0 m 147 ls [])) → ∀ (n : Nat) (t_at_1 : Int32) (t_error_2 : Int32) (t_positive_3 : Int32) (t_negative_4 : Int32) (H : Heap) (locs : List Loc) (ls : Array Slot), L_X1_readLiterals_10 N t_length t_bytes kont n t_at_1 t_error_2 t_positive_3 t_negative_4 = some (r9, t_at9, t_error9, t_positive9, t_negative9) → va_P D vwCl (w_X1_readLiterals cy A_t A_t_bytes t_length t_at_1 t_error_2 t_kind t_positive_3 t_negative_4 t_play t_bytes) H → va_D A (w_X1_readLiterals cy A_t A_t_bytes t_length t_at_1 t_error_2 t_kind t_positive_3 t_negative_4 t_play t_bytes) → va_S A s.heap H locs → lv_has ls 3 [(0, .ref A_t)] → W p l e (rmK 2 42) s m args below meth c H locs 0 0 (MQ below (kQ (some (.int (bI r9))) D A (w_X1_readLiterals cy A_t A_t_bytes t_length t_at9 t_error9 t_kind t_positive9 t_negative9 t_play t_bytes)) args s 0 0 A) (F0 m 10 ls []) := by
    intro kont hexit_10 n
    induction n with
    | zero =>
      intro t_at_1 t_error_2 t_positive_3 t_negative_4 H locs ls hF
      rw [L_X1_readLiterals_10] at hF
      cases hF
    | succ n ih =>
      intro t_at_1 t_error_2 t_positive_3 t_negative_4 H locs ls hF hP hD hS hl
      rw [L_X1_readLiterals_10] at hF
      refine lv_aload_n hx hb dX1_readLiterals_10 rfl (lv_at hl 0 rfl) ?_
      refine va_get (D := D) (ci := 1) (v := .int t_at_1) (C := RX1) (T := TX1) (N := 8) hx hb hts inX1 hown hK hP 0 rfl rfl 2 (by decide) (hts _ q_185) (fun _ h9 => h9) rfl dX1_readLiterals_11 ?_
      refine lv_aload_n hx hb dX1_readLiterals_14 rfl (lv_at hl 0 rfl) ?_
      refine va_get (D := D) (ci := 1) (v := .int t_length) (C := RX1) (T := TX1) (N := 8) hx hb hts inX1 hown hK hP 0 rfl rfl 1 (by decide) (hts _ q_183) (fun _ h9 => h9) rfl dX1_readLiterals_15 ?_
      refine lv_icmp_ge (tgt := 147) hx hb dX1_readLiterals_18 (by decide) (fun c_9 => ?_) (fun c_9 => ?_)
      · replace hF := ite_t c_9 hF
        exact hexit_10 t_at_1 t_error_2 t_positive_3 t_negative_4 H locs ls hF hP hD hS (lv_sub hl [] rfl)
      · replace hF := ite_f c_9 hF
        refine lv_aload_n hx hb dX1_readLiterals_21 rfl (lv_at hl 0 rfl) ?_
        refine lv_aload_n hx hb dX1_readLiterals_22 rfl (lv_at hl 0 rfl) ?_
        refine va_get (D := D) (ci := 1) (v := .int t_at_1) (C := RX1) (T := TX1) (N := 8) hx hb hts inX1 hown hK hP 0 rfl rfl 2 (by decide) (hts _ q_185) (fun _ h9 => h9) rfl dX1_readLiterals_23 ?_
        obtain ⟨r_10, hF_11, hF⟩ := ob1_some hF
        refine kcV (q := (RX1, TX1, 8)) (ci := 1) (q0 := 0) (As := [.int t_at_1]) (rest := []) (wr := []) (wsN := (w_X1_readLiterals cy A_t A_t_bytes t_length t_at_1 t_error_2 t_kind t_positive_3 t_negative_4 t_play t_bytes)) ⟨hx, hb, hml, hown, hts⟩ hE hP hD hS hA hAs [0, 1] [] [0, 1] (c_X1_byteAt l D cy s0 tW N A_t A_t_bytes t_at_1 t_length t_at_1 t_error_2 t_kind t_positive_3 t_negative_4 t_play t_bytes _ hF_11) (gV q_395 q_397 q_22 q_87 q_398) hd_X1_byteAt ⟨Nat.le_of_ble_eq_true rfl, Nat.le_of_ble_eq_true rfl⟩ rfl rfl rfl rfl rfl rfl rfl rfl rfl hl.1 rfl (Nat.le_of_ble_eq_true rfl) dX1_readLiterals_26 ⟨Nat.zero_le _, Nat.zero_le _⟩ (fun H locs hP hD hS => ?_)
        refine W.eq (g2 := F0 m 29 ls [.int r_10]) rfl ?_
        refine lv_bipush (v := 59) hx hb dX1_readLiterals_29 (by decide) ?_
        refine lv_icmp_eq (tgt := 147) hx hb dX1_readLiterals_31 (by decide) (fun c_12 => ?_) (fun c_12 => ?_)
        · replace hF := ite_t c_12 hF
          exact hexit_10 t_at_1 t_error_2 t_positive_3 t_negative_4 H locs ls hF hP hD hS (lv_sub hl [] rfl)
        · replace hF := ite_f c_12 hF
          refine lv_aload_n hx hb dX1_readLiterals_34 rfl (lv_at hl 0 rfl) ?_
          refine lv_aload_n hx hb dX1_readLiterals_35 rfl (lv_at hl 0 rfl) ?_
          refine va_get (D := D) (ci := 1) (v := .int t_at_1) (C := RX1) (T := TX1) (N := 8) hx hb hts inX1 hown hK hP 0 rfl rfl 2 (by decide) (hts _ q_185) (fun _ h9 => h9) rfl dX1_readLiterals_36 ?_
          obtain ⟨r_13, hF_14, hF⟩ := ob1_some hF
          refine kcV (q := (RX1, TX1, 8)) (ci := 1) (q0 := 0) (As := [.int t_at_1]) (rest := []) (wr := []) (wsN := (w_X1_readLiterals cy A_t A_t_bytes t_length t_at_1 t_error_2 t_kind t_positive_3 t_negative_4 t_play t_bytes)) ⟨hx, hb, hml, hown, hts⟩ hE hP hD hS hA hAs [0, 1] [] [0, 1] (c_X1_byteAt l D cy s0 tW N A_t A_t_bytes t_at_1 t_length t_at_1 t_error_2 t_kind t_positive_3 t_negative_4 t_play t_bytes _ hF_14) (gV q_395 q_397 q_22 q_87 q_398) hd_X1_byteAt ⟨Nat.le_of_ble_eq_true rfl, Nat.le_of_ble_eq_true rfl⟩ rfl rfl rfl rfl rfl rfl rfl rfl rfl hl.1 rfl (Nat.le_of_ble_eq_true rfl) dX1_readLiterals_39 ⟨Nat.zero_le _, Nat.zero_le _⟩ (fun H locs hP hD hS => ?_)
          refine W.eq (g2 := F0 m 42 ls [.int r_13]) rfl ?_
          refine lv_bipush (v := 45) hx hb dX1_readLiterals_42 (by decide) ?_
          refine lv_icmp_ne (tgt := 51) hx hb dX1_readLiterals_44 (by decide) (fun c_15 => ?_) (fun c_15 => ?_)
          · replace hF := ite_f c_15 hF
            refine lv_iconst (v := 0) hx hb dX1_readLiterals_51 (by decide) ?_
            refine lv_istore_n (lv' := [(1, .int 0), (0, .ref A_t)]) hx hb dX1_readLiterals_52 rfl hl (by decide) rfl (fun ls hl => ?_)
            refine lv_iload_n hx hb dX1_readLiterals_53 rfl (lv_at hl 0 rfl) ?_
            refine lv_if_eq (tgt := 67) hx hb dX1_readLiterals_54 (by decide) (fun _ => ?_) (fun h0 => absurd (by decide) h0)
            refine lv_aload_n hx hb dX1_readLiterals_67 rfl (lv_at hl 1 rfl) ?_
            refine lv_aload_n hx hb dX1_readLiterals_68 rfl (lv_at hl 1 rfl) ?_
            refine va_get (D := D) (ci := 1) (v := .int t_at_1) (C := RX1) (T := TX1) (N := 8) hx hb hts inX1 hown hK hP 0 rfl rfl 2 (by decide) (hts _ q_185) (fun _ h9 => h9) rfl dX1_readLiterals_69 ?_
            obtain ⟨r_16, hF_17, hF⟩ := ob1_some hF
            refine kcV (q := (RX1, TX1, 8)) (ci := 1) (q0 := 0) (As := [.int t_at_1]) (rest := []) (wr := []) (wsN := (w_X1_readLiterals cy A_t A_t_bytes t_length t_at_1 t_error_2 t_kind t_positive_3 t_negative_4 t_play t_bytes)) ⟨hx, hb, hml, hown, hts⟩ hE hP hD hS hA hAs [0, 1] [] [0, 1] (c_X1_byteAt l D cy s0 tW N A_t A_t_bytes t_at_1 t_length t_at_1 t_error_2 t_kind t_positive_3 t_negative_4 t_play t_bytes _ hF_17) (gV q_395 q_397 q_22 q_87 q_398) hd_X1_byteAt ⟨Nat.le_of_ble_eq_true rfl, Nat.le_of_ble_eq_true rfl⟩ rfl rfl rfl rfl rfl rfl rfl rfl rfl hl.1 rfl (Nat.le_of_ble_eq_true rfl) dX1_readLiterals_72 ⟨Nat.zero_le _, Nat.zero_le _⟩ (fun H locs hP hD hS => ?_)
            refine W.eq (g2 := F0 m 75 ls [.int r_16]) rfl ?_
            refine lv_istore_n (lv' := [(2, .int r_16), (1, .int 0), (0, .ref A_t)]) hx hb dX1_readLiterals_75 rfl hl (by decide) rfl (fun ls hl => ?_)
            refine lv_iload_n hx hb dX1_readLiterals_76 rfl (lv_at hl 0 rfl) ?_
            refine lv_bipush (v := 97) hx hb dX1_readLiterals_77 (by decide) ?_
            refine lv_icmp_lt (tgt := 88) hx hb dX1_readLiterals_79 (by decide) (fun c_18 => ?_) (fun c_18 => ?_)
            · replace hF := ite_t c_18 hF
              refine lv_aload_n hx hb dX1_readLiterals_88 rfl (lv_at hl 2 rfl) ?_
              refine lv_aload_n hx hb dX1_readLiterals_89 rfl (lv_at hl 2 rfl) ?_
              refine va_get (D := D) (ci := 1) (v := .int t_at_1) (C := RX1) (T := TX1) (N := 8) hx hb hts inX1 hown hK hP 0 rfl rfl 2 (by decide) (hts _ q_185) (fun _ h9 => h9) rfl dX1_readLiterals_90 ?_
              obtain ⟨r_19, t_error_20, hF_21, hF⟩ := ob2_some hF
              refine kcV (q := (RX1, TX1, 8)) (ci := 1) (q0 := 0) (As := [.int t_at_1]) (rest := []) (wr := [(A_t_bytes, .inl (cy 0, 100, .inl t_bytes))]) (wsN := (w_X1_readLiterals cy A_t A_t_bytes t_length t_at_1 t_error_20 t_kind t_positive_3 t_negative_4 t_play t_bytes)) ⟨hx, hb, hml, hown, hts⟩ hE hP hD hS hA hAs [0] [1] [1, 0] (c_X1_fail l D cy s0 tW N A_t A_t_bytes t_at_1 t_length t_at_1 t_error_2 t_kind t_positive_3 t_negative_4 t_play _ hF_21) (gV q_400 q_402 q_23 q_87 q_403) hd_X1_fail ⟨Nat.le_of_ble_eq_true rfl, Nat.le_of_ble_eq_true rfl⟩ rfl rfl rfl rfl rfl rfl rfl rfl rfl hl.1 rfl (Nat.le_of_ble_eq_true rfl) dX1_readLiterals_93 ⟨Nat.zero_le _, Nat.zero_le _⟩ (fun H locs hP hD hS => ?_)
              refine W.eq (g2 := F0 m 96 ls [.int (bI r_19)]) rfl ?_
              cases hF
              exact kret_z hx hb hr hlocks hP hD hS dX1_readLiterals_96
            · replace hF := ite_f c_18 hF
              refine lv_iload_n hx hb dX1_readLiterals_82 rfl (lv_at hl 0 rfl) ?_
              refine lv_bipush (v := 105) hx hb dX1_readLiterals_83 (by decide) ?_
              refine lv_icmp_le (tgt := 97) hx hb dX1_readLiterals_85 (by decide) (fun c_22 => ?_) (fun c_22 => ?_)
              · replace hF := ite_t c_22 hF
                refine lv_iload_n hx hb dX1_readLiterals_97 rfl (lv_at hl 1 rfl) ?_
                refine lv_if_eq (tgt := 119) hx hb dX1_readLiterals_98 (by decide) (fun _ => ?_) (fun h0 => absurd (by decide) h0)
                refine lv_aload_n hx hb dX1_readLiterals_119 rfl (lv_at hl 2 rfl) ?_
                refine lv_dup hx hb dX1_readLiterals_120 rfl ?_
                refine va_get (D := D) (ci := 1) (v := .int t_positive_3) (C := RX1) (T := TX1) (N := 8) hx hb hts inX1 hown hK hP 0 rfl rfl 5 (by decide) (hts _ q_189) (fun _ h9 => h9) rfl dX1_readLiterals_121 ?_
                refine lv_iconst (v := 1) hx hb dX1_readLiterals_124 (by decide) ?_
                refine lv_iload_n hx hb dX1_readLiterals_125 rfl (lv_at hl 0 rfl) ?_
                refine lv_bipush (v := 97) hx hb dX1_readLiterals_126 (by decide) ?_
                refine lv_isub hx hb dX1_readLiterals_128 ?_
                refine lv_ishl hx hb dX1_readLiterals_129 ?_
                refine lv_ior hx hb dX1_readLiterals_130 ?_
                refine ka_put (ci := 1) (v := .int (t_positive_3 ||| ((1 : Int32) <<< ((r_16 - 97) &&& 31)))) (ty := .int) (C := RX1) (T := TX1) (N := 8) (wsN := (w_X1_readLiterals cy A_t A_t_bytes t_length t_at_1 t_error_2 t_kind (t_positive_3 ||| ((1 : Int32) <<< ((r_16 - 97) &&& 31))) t_negative_4 t_play t_bytes)) hx hb hts inX1 tyX1 tyX1_ok nmX1 hown hK hP hD hS 0 rfl rfl 5 (by decide) (hts _ q_189) (fun _ h9 => h9) rfl (by decide +kernel) rfl rfl (Nat.le_of_ble_eq_true rfl) rfl dX1_readLiterals_131 (fun H locs hP hD hS => ?_)
                refine lv_aload_n hx hb dX1_readLiterals_134 rfl (lv_at hl 2 rfl) ?_
                refine lv_dup hx hb dX1_readLiterals_135 rfl ?_
                refine va_get (D := D) (ci := 1) (v := .int t_at_1) (C := RX1) (T := TX1) (N := 8) hx hb hts inX1 hown hK hP 0 rfl rfl 2 (by decide) (hts _ q_185) (fun _ h9 => h9) rfl dX1_readLiterals_136 ?_
                refine lv_iconst (v := 1) hx hb dX1_readLiterals_139 (by decide) ?_
                refine lv_iadd hx hb dX1_readLiterals_140 ?_
                refine ka_put (ci := 1) (v := .int (t_at_1 + 1)) (ty := .int) (C := RX1) (T := TX1) (N := 8) (wsN := (w_X1_readLiterals cy A_t A_t_bytes t_length (t_at_1 + 1) t_error_2 t_kind (t_positive_3 ||| ((1 : Int32) <<< ((r_16 - 97) &&& 31))) t_negative_4 t_play t_bytes)) hx hb hts inX1 tyX1 tyX1_ok nmX1 hown hK hP hD hS 0 rfl rfl 2 (by decide) (hts _ q_185) (fun _ h9 => h9) rfl (by decide +kernel) rfl rfl (Nat.le_of_ble_eq_true rfl) rfl dX1_readLiterals_141 (fun H locs hP hD hS => ?_)
                refine lv_goto (tgt := 10) hx hb dX1_readLiterals_144 (by decide) ?_
                exact ih (t_at_1 + 1) t_error_2 (t_positive_3 ||| ((1 : Int32) <<< ((r_16 - 97) &&& 31))) t_negative_4 H locs ls hF hP hD hS (lv_sub hl [2] rfl)
              · replace hF := ite_f c_22 hF
                refine lv_aload_n hx hb dX1_readLiterals_88 rfl (lv_at hl 2 rfl) ?_
                refine lv_aload_n hx hb dX1_readLiterals_89 rfl (lv_at hl 2 rfl) ?_
                refine va_get (D := D) (ci := 1) (v := .int t_at_1) (C := RX1) (T := TX1) (N := 8) hx hb hts inX1 hown hK hP 0 rfl rfl 2 (by decide) (hts _ q_185) (fun _ h9 => h9) rfl dX1_readLiterals_90 ?_
                obtain ⟨r_23, t_error_24, hF_25, hF⟩ := ob2_some hF
                refine kcV (q := (RX1, TX1, 8)) (ci := 1) (q0 := 0) (As := [.int t_at_1]) (rest := []) (wr := [(A_t_bytes, .inl (cy 0, 100, .inl t_bytes))]) (wsN := (w_X1_readLiterals cy A_t A_t_bytes t_length t_at_1 t_error_24 t_kind t_positive_3 t_negative_4 t_play t_bytes)) ⟨hx, hb, hml, hown, hts⟩ hE hP hD hS hA hAs [0] [1] [1, 0] (c_X1_fail l D cy s0 tW N A_t A_t_bytes t_at_1 t_length t_at_1 t_error_2 t_kind t_positive_3 t_negative_4 t_play _ hF_25) (gV q_400 q_402 q_23 q_87 q_403) hd_X1_fail ⟨Nat.le_of_ble_eq_true rfl, Nat.le_of_ble_eq_true rfl⟩ rfl rfl rfl rfl rfl rfl rfl rfl rfl hl.1 rfl (Nat.le_of_ble_eq_true rfl) dX1_readLiterals_93 ⟨Nat.zero_le _, Nat.zero_le _⟩ (fun H locs hP hD hS => ?_)
                refine W.eq (g2 := F0 m 96 ls [.int (bI r_23)]) rfl ?_
                cases hF
                exact kret_z hx hb hr hlocks hP hD hS dX1_readLiterals_96
          · replace hF := ite_t c_15 hF
            refine lv_iconst (v := 1) hx hb dX1_readLiterals_47 (by decide) ?_
            refine lv_goto (tgt := 52) hx hb dX1_readLiterals_48 (by decide) ?_
            refine lv_istore_n (lv' := [(1, .int 1), (0, .ref A_t)]) hx hb dX1_readLiterals_52 rfl hl (by decide) rfl (fun ls hl => ?_)
            refine lv_iload_n hx hb dX1_readLiterals_53 rfl (lv_at hl 0 rfl) ?_
            refine lv_if_eq (tgt := 67) hx hb dX1_readLiterals_54 (by decide) (fun h0 => absurd h0 (by decide)) (fun _ => ?_)
            refine lv_aload_n hx hb dX1_readLiterals_57 rfl (lv_at hl 1 rfl) ?_
            refine lv_dup hx hb dX1_readLiterals_58 rfl ?_
            refine va_get (D := D) (ci := 1) (v := .int t_at_1) (C := RX1) (T := TX1) (N := 8) hx hb hts inX1 hown hK hP 0 rfl rfl 2 (by decide) (hts _ q_185) (fun _ h9 => h9) rfl dX1_readLiterals_59 ?_
            refine lv_iconst (v := 1) hx hb dX1_readLiterals_62 (by decide) ?_
            refine lv_iadd hx hb dX1_readLiterals_63 ?_
            refine ka_put (ci := 1) (v := .int (t_at_1 + 1)) (ty := .int) (C := RX1) (T := TX1) (N := 8) (wsN := (w_X1_readLiterals cy A_t A_t_bytes t_length (t_at_1 + 1) t_error_2 t_kind t_positive_3 t_negative_4 t_play t_bytes)) hx hb hts inX1 tyX1 tyX1_ok nmX1 hown hK hP hD hS 0 rfl rfl 2 (by decide) (hts _ q_185) (fun _ h9 => h9) rfl (by decide +kernel) rfl rfl (Nat.le_of_ble_eq_true rfl) rfl dX1_readLiterals_64 (fun H locs hP hD hS => ?_)
            refine lv_aload_n hx hb dX1_readLiterals_67 rfl (lv_at hl 1 rfl) ?_
            refine lv_aload_n hx hb dX1_readLiterals_68 rfl (lv_at hl 1 rfl) ?_
            refine va_get (D := D) (ci := 1) (v := .int (t_at_1 + 1)) (C := RX1) (T := TX1) (N := 8) hx hb hts inX1 hown hK hP 0 rfl rfl 2 (by decide) (hts _ q_185) (fun _ h9 => h9) rfl dX1_readLiterals_69 ?_
            obtain ⟨r_26, hF_27, hF⟩ := ob1_some hF
            refine kcV (q := (RX1, TX1, 8)) (ci := 1) (q0 := 0) (As := [.int (t_at_1 + 1)]) (rest := []) (wr := []) (wsN := (w_X1_readLiterals cy A_t A_t_bytes t_length (t_at_1 + 1) t_error_2 t_kind t_positive_3 t_negative_4 t_play t_bytes)) ⟨hx, hb, hml, hown, hts⟩ hE hP hD hS hA hAs [0, 1] [] [0, 1] (c_X1_byteAt l D cy s0 tW N A_t A_t_bytes (t_at_1 + 1) t_length (t_at_1 + 1) t_error_2 t_kind t_positive_3 t_negative_4 t_play t_bytes _ hF_27) (gV q_395 q_397 q_22 q_87 q_398) hd_X1_byteAt ⟨Nat.le_of_ble_eq_true rfl, Nat.le_of_ble_eq_true rfl⟩ rfl rfl rfl rfl rfl rfl rfl rfl rfl hl.1 rfl (Nat.le_of_ble_eq_true rfl) dX1_readLiterals_72 ⟨Nat.zero_le _, Nat.zero_le _⟩ (fun H locs hP hD hS => ?_)
            refine W.eq (g2 := F0 m 75 ls [.int r_26]) rfl ?_
            refine lv_istore_n (lv' := [(2, .int r_26), (1, .int 1), (0, .ref A_t)]) hx hb dX1_readLiterals_75 rfl hl (by decide) rfl (fun ls hl => ?_)
            refine lv_iload_n hx hb dX1_readLiterals_76 rfl (lv_at hl 0 rfl) ?_
            refine lv_bipush (v := 97) hx hb dX1_readLiterals_77 (by decide) ?_
            refine lv_icmp_lt (tgt := 88) hx hb dX1_readLiterals_79 (by decide) (fun c_28 => ?_) (fun c_28 => ?_)
            · replace hF := ite_t c_28 hF
              refine lv_aload_n hx hb dX1_readLiterals_88 rfl (lv_at hl 2 rfl) ?_
              refine lv_aload_n hx hb dX1_readLiterals_89 rfl (lv_at hl 2 rfl) ?_
              refine va_get (D := D) (ci := 1) (v := .int (t_at_1 + 1)) (C := RX1) (T := TX1) (N := 8) hx hb hts inX1 hown hK hP 0 rfl rfl 2 (by decide) (hts _ q_185) (fun _ h9 => h9) rfl dX1_readLiterals_90 ?_
              obtain ⟨r_29, t_error_30, hF_31, hF⟩ := ob2_some hF
              refine kcV (q := (RX1, TX1, 8)) (ci := 1) (q0 := 0) (As := [.int (t_at_1 + 1)]) (rest := []) (wr := [(A_t_bytes, .inl (cy 0, 100, .inl t_bytes))]) (wsN := (w_X1_readLiterals cy A_t A_t_bytes t_length (t_at_1 + 1) t_error_30 t_kind t_positive_3 t_negative_4 t_play t_bytes)) ⟨hx, hb, hml, hown, hts⟩ hE hP hD hS hA hAs [0] [1] [1, 0] (c_X1_fail l D cy s0 tW N A_t A_t_bytes (t_at_1 + 1) t_length (t_at_1 + 1) t_error_2 t_kind t_positive_3 t_negative_4 t_play _ hF_31) (gV q_400 q_402 q_23 q_87 q_403) hd_X1_fail ⟨Nat.le_of_ble_eq_true rfl, Nat.le_of_ble_eq_true rfl⟩ rfl rfl rfl rfl rfl rfl rfl rfl rfl hl.1 rfl (Nat.le_of_ble_eq_true rfl) dX1_readLiterals_93 ⟨Nat.zero_le _, Nat.zero_le _⟩ (fun H locs hP hD hS => ?_)
              refine W.eq (g2 := F0 m 96 ls [.int (bI r_29)]) rfl ?_
              cases hF
              exact kret_z hx hb hr hlocks hP hD hS dX1_readLiterals_96
            · replace hF := ite_f c_28 hF
              refine lv_iload_n hx hb dX1_readLiterals_82 rfl (lv_at hl 0 rfl) ?_
              refine lv_bipush (v := 105) hx hb dX1_readLiterals_83 (by decide) ?_
              refine lv_icmp_le (tgt := 97) hx hb dX1_readLiterals_85 (by decide) (fun c_32 => ?_) (fun c_32 => ?_)
              · replace hF := ite_t c_32 hF
                refine lv_iload_n hx hb dX1_readLiterals_97 rfl (lv_at hl 1 rfl) ?_
                refine lv_if_eq (tgt := 119) hx hb dX1_readLiterals_98 (by decide) (fun h0 => absurd h0 (by decide)) (fun _ => ?_)
                refine lv_aload_n hx hb dX1_readLiterals_101 rfl (lv_at hl 2 rfl) ?_
                refine lv_dup hx hb dX1_readLiterals_102 rfl ?_
                refine va_get (D := D) (ci := 1) (v := .int t_negative_4) (C := RX1) (T := TX1) (N := 8) hx hb hts inX1 hown hK hP 0 rfl rfl 6 (by decide) (hts _ q_191) (fun _ h9 => h9) rfl dX1_readLiterals_103 ?_
                refine lv_iconst (v := 1) hx hb dX1_readLiterals_106 (by decide) ?_
                refine lv_iload_n hx hb dX1_readLiterals_107 rfl (lv_at hl 0 rfl) ?_
                refine lv_bipush (v := 97) hx hb dX1_readLiterals_108 (by decide) ?_
                refine lv_isub hx hb dX1_readLiterals_110 ?_
                refine lv_ishl hx hb dX1_readLiterals_111 ?_
                refine lv_ior hx hb dX1_readLiterals_112 ?_
                refine ka_put (ci := 1) (v := .int (t_negative_4 ||| ((1 : Int32) <<< ((r_26 - 97) &&& 31)))) (ty := .int) (C := RX1) (T := TX1) (N := 8) (wsN := (w_X1_readLiterals cy A_t A_t_bytes t_length (t_at_1 + 1) t_error_2 t_kind t_positive_3 (t_negative_4 ||| ((1 : Int32) <<< ((r_26 - 97) &&& 31))) t_play t_bytes)) hx hb hts inX1 tyX1 tyX1_ok nmX1 hown hK hP hD hS 0 rfl rfl 6 (by decide) (hts _ q_191) (fun _ h9 => h9) rfl (by decide +kernel) rfl rfl (Nat.le_of_ble_eq_true rfl) rfl dX1_readLiterals_113 (fun H locs hP hD hS => ?_)
                refine lv_goto (tgt := 134) hx hb dX1_readLiterals_116 (by decide) ?_
                refine lv_aload_n hx hb dX1_readLiterals_134 rfl (lv_at hl 2 rfl) ?_
                refine lv_dup hx hb dX1_readLiterals_135 rfl ?_
                refine va_get (D := D) (ci := 1) (v := .int (t_at_1 + 1)) (C := RX1) (T := TX1) (N := 8) hx hb hts inX1 hown hK hP 0 rfl rfl 2 (by decide) (hts _ q_185) (fun _ h9 => h9) rfl dX1_readLiterals_136 ?_
                refine lv_iconst (v := 1) hx hb dX1_readLiterals_139 (by decide) ?_
                refine lv_iadd hx hb dX1_readLiterals_140 ?_
                refine ka_put (ci := 1) (v := .int ((t_at_1 + 1) + 1)) (ty := .int) (C := RX1) (T := TX1) (N := 8) (wsN := (w_X1_readLiterals cy A_t A_t_bytes t_length ((t_at_1 + 1) + 1) t_error_2 t_kind t_positive_3 (t_negative_4 ||| ((1 : Int32) <<< ((r_26 - 97) &&& 31))) t_play t_bytes)) hx hb hts inX1 tyX1 tyX1_ok nmX1 hown hK hP hD hS 0 rfl rfl 2 (by decide) (hts _ q_185) (fun _ h9 => h9) rfl (by decide +kernel) rfl rfl (Nat.le_of_ble_eq_true rfl) rfl dX1_readLiterals_141 (fun H locs hP hD hS => ?_)
                refine lv_goto (tgt := 10) hx hb dX1_readLiterals_144 (by decide) ?_
                exact ih ((t_at_1 + 1) + 1) t_error_2 t_positive_3 (t_negative_4 ||| ((1 : Int32) <<< ((r_26 - 97) &&& 31))) H locs ls hF hP hD hS (lv_sub hl [2] rfl)
              · replace hF := ite_f c_32 hF
                refine lv_aload_n hx hb dX1_readLiterals_88 rfl (lv_at hl 2 rfl) ?_
                refine lv_aload_n hx hb dX1_readLiterals_89 rfl (lv_at hl 2 rfl) ?_
                refine va_get (D := D) (ci := 1) (v := .int (t_at_1 + 1)) (C := RX1) (T := TX1) (N := 8) hx hb hts inX1 hown hK hP 0 rfl rfl 2 (by decide) (hts _ q_185) (fun _ h9 => h9) rfl dX1_readLiterals_90 ?_
                obtain ⟨r_33, t_error_34, hF_35, hF⟩ := ob2_some hF
                refine kcV (q := (RX1, TX1, 8)) (ci := 1) (q0 := 0) (As := [.int (t_at_1 + 1)]) (rest := []) (wr := [(A_t_bytes, .inl (cy 0, 100, .inl t_bytes))]) (wsN := (w_X1_readLiterals cy A_t A_t_bytes t_length (t_at_1 + 1) t_error_34 t_kind t_positive_3 t_negative_4 t_play t_bytes)) ⟨hx, hb, hml, hown, hts⟩ hE hP hD hS hA hAs [0] [1] [1, 0] (c_X1_fail l D cy s0 tW N A_t A_t_bytes (t_at_1 + 1) t_length (t_at_1 + 1) t_error_2 t_kind t_positive_3 t_negative_4 t_play _ hF_35) (gV q_400 q_402 q_23 q_87 q_403) hd_X1_fail ⟨Nat.le_of_ble_eq_true rfl, Nat.le_of_ble_eq_true rfl⟩ rfl rfl rfl rfl rfl rfl rfl rfl rfl hl.1 rfl (Nat.le_of_ble_eq_true rfl) dX1_readLiterals_93 ⟨Nat.zero_le _, Nat.zero_le _⟩ (fun H locs hP hD hS => ?_)
                refine W.eq (g2 := F0 m 96 ls [.int (bI r_33)]) rfl ?_
                cases hF
                exact kret_z hx hb hr hlocks hP hD hS dX1_readLiterals_96
  refine hloop_10 _ (fun t_at_5 t_error_6 t_positive_7 t_negative_8 H locs ls hF hP hD hS hl => ?_) N t_at t_error 0 0 _ _ ls hF hP hD hS (lv_sub hl [0] rfl)
  refine lv_iconst (v := 1) hx hb dX1_readLiterals_147 (by decide) ?_
  cases hF
  exact kret_z hx hb hr hlocks hP hD hS dX1_readLiterals_148

theorem q_193 : Cond.fieldLink RX1 59 "ForAllGame$OrderText" "play" "I" ∈ wAll := wAll_mem 193 (by decide +kernel) (by decide +kernel)
theorem q_412 : Cond.methodLink RX1 62 yX1_isDigit ∈ wAll := wAll_mem 412 (by decide +kernel) (by decide +kernel)
theorem q_413 : Cond.static yX1_isDigit ∈ wAll := wAll_mem 413 (by decide +kernel) (by decide +kernel)
theorem q_414 : Cond.code yX1_isDigit cX1_isDigit 1 (some .boolean) ∈ wAll := wAll_mem 414 (by decide +kernel) (by decide +kernel)
theorem hd_X1_isDigit : yX1_isDigit.cls = RX1 ∧ yX1_isDigit.cls ≠ "java/lang/invoke/MethodHandle" ∧ yX1_isDigit.cls ≠ "java/lang/invoke/VarHandle" ∧ (parseMethodDescriptor yX1_isDigit.desc).map (fun d => d.parameters.length) = some 1 := by decide +kernel
abbrev w_X1_readPlay (cy : Nat → ClassId) (A_t : Nat) (A_t_bytes : Nat) (t_length : Int32) (t_at : Int32) (t_error : Int32) (t_kind : Int32) (t_positive : Int32) (t_negative : Int32) (t_play : Int32) (t_bytes : Nat → Int32) : va_W := [(A_t, .inr (1, [.ref A_t_bytes, .int t_length, .int t_at, .int t_error, .int t_kind, .int t_positive, .int t_negative, .int t_play])), (A_t_bytes, .inl (cy 0, 100, .inl t_bytes))]
def L_X1_readPlay_10 (N : Nat) (t_length : Int32) (t_at : Int32) (t_bytes : Nat → Int32) (kont : Int32 → Int32 → Option (Bool × Int32 × Int32 × Int32)) : Nat → Int32 → Int32 → Option (Bool × Int32 × Int32 × Int32)
  | 0, _, _ => none
  | n + 1, t_at_1, t_play_2 => (if (t_at + 2) ≤ t_at_1 then kont t_at_1 t_play_2 else ob1 (F_X1_byteAt N t_at_1 t_bytes t_length) (fun r_6 => ob1 (F_X1_isDigit N r_6) (fun r_8 => (if r_8 = true then ob1 (F_X1_byteAt N t_at_1 t_bytes t_length) (fun r_11 => L_X1_readPlay_10 N t_length t_at t_bytes kont n (t_at_1 + 1) (((10 * t_play_2) + r_11) - 48)) else kont t_at_1 t_play_2))))
def F_X1_readPlay (N : Nat) (t_bytes : Nat → Int32) (t_length : Int32) (t_at : Int32) (t_error : Int32) (t_play : Int32) : Option (Bool × Int32 × Int32 × Int32) :=
  (L_X1_readPlay_10 N t_length t_at t_bytes (fun t_at_3 t_play_4 => (if t_at_3 = t_at then ob2 (F_X1_fail N t_at_3 t_error) (fun r_14 t_error_15 => some (r_14, t_at_3, t_error_15, t_play_4)) else ob1 (F_X1_byteAt N t_at_3 t_bytes t_length) (fun r_17 => ob1 (F_X1_isDigit N r_17) (fun r_19 => (if r_19 = true then ob2 (F_X1_fail N t_at_3 t_error) (fun r_27 t_error_28 => some (r_27, t_at_3, t_error_28, t_play_4)) else (if t_play_4 ≤ (7 : Int32) then some (true, t_at_3, t_error, t_play_4) else ob2 (F_X1_fail N t_at t_error) (fun r_23 t_error_24 => (if r_23 = true then some (true, t_at_3, t_error_24, t_play_4) else some (false, t_at_3, t_error_24, t_play_4))))))))) N t_at 0)
set_option maxHeartbeats 4000000 in
set_option maxRecDepth 100000 in
theorem c_X1_readPlay (l : Launch) (D : va_G) (cy : Nat → ClassId) (s0 tW N : Nat) (A_t : Nat) (A_t_bytes : Nat) (t_length : Int32) (t_at : Int32) (t_error : Int32) (t_kind : Int32) (t_positive : Int32) (t_negative : Int32) (t_play : Int32) (t_bytes : Nat → Int32) (sz : Nat) {r9 : Bool} {t_at9 : Int32} {t_error9 : Int32} {t_play9 : Int32} (hF : F_X1_readPlay N t_bytes t_length t_at t_error t_play = some (r9, t_at9, t_error9, t_play9)) : KM l D cy s0 tW yX1_readPlay cX1_readPlay 2 (some .boolean) 2 42 [.ref A_t] sz (w_X1_readPlay cy A_t A_t_bytes t_length t_at t_error t_kind t_positive t_negative t_play t_bytes) (some (.int (bI r9))) (w_X1_readPlay cy A_t A_t_bytes t_length t_at9 t_error9 t_kind t_positive t_negative t_play9 t_bytes) := by
  refine KM.intro rfl (Nat.le_of_ble_eq_true rfl) ?_
  intro p e s m args below meth c A ls hx hb hr hml hown hts hlocks hE hP hD hS hA hAs hl
  have hK := hE.1
  have hl : lv_has ls 2 [(0, .ref A_t)] := hl
  unfold F_X1_readPlay at hF
  refine lv_aload_n hx hb dX1_readPlay_0 rfl (lv_at hl 0 rfl) ?_
  refine va_get (D := D) (ci := 1) (v := .int t_at) (C := RX1) (T := TX1) (N := 8) hx hb hts inX1 hown hK hP 0 rfl rfl 2 (by decide) (hts _ q_185) (fun _ h9 => h9) rfl dX1_readPlay_1 ?_
  refine lv_istore_n (lv' := [(1, .int t_at), (0, .ref A_t)]) hx hb dX1_readPlay_4 rfl hl (by decide) rfl (fun ls hl => ?_)
  refine lv_aload_n hx hb dX1_readPlay_5 rfl (lv_at hl 1 rfl) ?_
  refine lv_iconst (v := 0) hx hb dX1_readPlay_6 (by decide) ?_
  refine ka_put (ci := 1) (v := .int 0) (ty := .int) (C := RX1) (T := TX1) (N := 8) (wsN := (w_X1_readPlay cy A_t A_t_bytes t_length t_at t_error t_kind t_positive t_negative 0 t_bytes)) hx hb hts inX1 tyX1 tyX1_ok nmX1 hown hK hP hD hS 0 rfl rfl 7 (by decide) (hts _ q_193) (fun _ h9 => h9) rfl (by decide +kernel) rfl rfl (Nat.le_of_ble_eq_true rfl) rfl dX1_readPlay_7 (fun H locs hP hD hS => ?_)
  have hloop_10 : ∀ (kont : Int32 → Int32 → Option (Bool × Int32 × Int32 × Int32)), (∀ (t_at_3 : Int32) (t_play_4 : Int32) (H : Heap) (locs : List Loc) (ls : Array Slot), kont t_at_3 t_play_4 = some (r9, t_at9, t_error9, t_play9) → va_P D vwCl (w_X1_readPlay cy A_t A_t_bytes t_length t_at_3 t_error t_kind t_positive t_negative t_play_4 t_bytes) H → va_D A (w_X1_readPlay cy A_t A_t_bytes t_length t_at_3 t_error t_kind t_positive t_negative t_play_4 t_bytes) → va_S A s.heap H locs → lv_has ls 2 [(0, .ref A_t), (1, .int t_at)] → W p l e (rmK 2 42) s m args below meth c H locs 0 0 (MQ below (kQ (some (.int (bI r9))) D A (w_X1_readPlay cy A_t A_t_bytes t_length t_at9 t_error9 t_kind t_positive t_negative t_play9 t_bytes)) args s 0 0 A) (F0 m 70 ls [])) → ∀ (n : Nat) (t_at_1 : Int32) (t_play_2 : Int32) (H : Heap) (locs : List Loc) (ls : Array Slot), L_X1_readPlay_10 N t_length t_at t_bytes kont n t_at_1 t_play_2 = some (r9, t_at9, t_error9, t_play9) → va_P D vwCl (w_X1_readPlay cy A_t A_t_bytes t_length t_at_1 t_error t_kind t_positive t_negative t_play_2 t_bytes) H → va_D A (w_X1_readPlay cy A_t A_t_bytes t_length t_at_1 t_error t_kind t_positive t_negative t_play_2 t_bytes) → va_S A s.heap H locs → lv_has ls 2 [(0, .ref A_t), (1, .int t_at)] → W p l e (rmK 2 42) s m args below meth c H locs 0 0 (MQ below (kQ (some (.int (bI r9))) D A (w_X1_readPlay cy A_t A_t_bytes t_length t_at9 t_error9 t_kind t_positive t_negative t_play9 t_bytes)) args s 0 0 A) (F0 m 10 ls []) := by
    intro kont hexit_10 n
    induction n with
    | zero =>
      intro t_at_1 t_play_2 H locs ls hF
      rw [L_X1_readPlay_10] at hF
      cases hF
    | succ n ih =>
      intro t_at_1 t_play_2 H locs ls hF hP hD hS hl
      rw [L_X1_readPlay_10] at hF
      refine lv_aload_n hx hb dX1_readPlay_10 rfl (lv_at hl 0 rfl) ?_
      refine va_get (D := D) (ci := 1) (v := .int t_at_1) (C := RX1) (T := TX1) (N := 8) hx hb hts inX1 hown hK hP 0 rfl rfl 2 (by decide) (hts _ q_185) (fun _ h9 => h9) rfl dX1_readPlay_11 ?_
      refine lv_iload_n hx hb dX1_readPlay_14 rfl (lv_at hl 1 rfl) ?_
      refine lv_iconst (v := 2) hx hb dX1_readPlay_15 (by decide) ?_
      refine lv_iadd hx hb dX1_readPlay_16 ?_
      refine lv_icmp_ge (tgt := 70) hx hb dX1_readPlay_17 (by decide) (fun c_5 => ?_) (fun c_5 => ?_)
      · replace hF := ite_t c_5 hF
        exact hexit_10 t_at_1 t_play_2 H locs ls hF hP hD hS (lv_sub hl [0, 1] rfl)
      · replace hF := ite_f c_5 hF
        refine lv_aload_n hx hb dX1_readPlay_20 rfl (lv_at hl 0 rfl) ?_
        refine lv_aload_n hx hb dX1_readPlay_21 rfl (lv_at hl 0 rfl) ?_
        refine va_get (D := D) (ci := 1) (v := .int t_at_1) (C := RX1) (T := TX1) (N := 8) hx hb hts inX1 hown hK hP 0 rfl rfl 2 (by decide) (hts _ q_185) (fun _ h9 => h9) rfl dX1_readPlay_22 ?_
        obtain ⟨r_6, hF_7, hF⟩ := ob1_some hF
        refine kcV (q := (RX1, TX1, 8)) (ci := 1) (q0 := 0) (As := [.int t_at_1]) (rest := []) (wr := []) (wsN := (w_X1_readPlay cy A_t A_t_bytes t_length t_at_1 t_error t_kind t_positive t_negative t_play_2 t_bytes)) ⟨hx, hb, hml, hown, hts⟩ hE hP hD hS hA hAs [0, 1] [] [0, 1] (c_X1_byteAt l D cy s0 tW N A_t A_t_bytes t_at_1 t_length t_at_1 t_error t_kind t_positive t_negative t_play_2 t_bytes _ hF_7) (gV q_395 q_397 q_22 q_87 q_398) hd_X1_byteAt ⟨Nat.le_of_ble_eq_true rfl, Nat.le_of_ble_eq_true rfl⟩ rfl rfl rfl rfl rfl rfl rfl rfl rfl hl.1 rfl (Nat.le_of_ble_eq_true rfl) dX1_readPlay_25 ⟨Nat.zero_le _, Nat.zero_le _⟩ (fun H locs hP hD hS => ?_)
        refine W.eq (g2 := F0 m 28 ls [.int r_6]) rfl ?_
        obtain ⟨r_8, hF_9, hF⟩ := ob1_some hF
        refine kcS (As := [.int r_6]) (rest := []) (wr := [(A_t, .inr (1, [.ref A_t_bytes, .int t_length, .int t_at_1, .int t_error, .int t_kind, .int t_positive, .int t_negative, .int t_play_2])), (A_t_bytes, .inl (cy 0, 100, .inl t_bytes))]) (wsN := (w_X1_readPlay cy A_t A_t_bytes t_length t_at_1 t_error t_kind t_positive t_negative t_play_2 t_bytes)) ⟨hx, hb, hml, hown, hts⟩ hE hP hD hS hA hAs [] [0, 1] [0, 1] (c_X1_isDigit l D cy s0 tW N r_6 _ hF_9) (gS q_412 q_413 q_87 q_414) hd_X1_isDigit.2 ⟨Nat.le_of_ble_eq_true rfl, Nat.le_of_ble_eq_true rfl⟩ rfl rfl rfl rfl rfl rfl rfl hl.1 rfl (Nat.le_of_ble_eq_true rfl) dX1_readPlay_28 ⟨Nat.zero_le _, Nat.zero_le _⟩ (fun H locs hP hD hS => ?_)
        refine W.eq (g2 := F0 m 31 ls [.int (bI r_8)]) rfl ?_
        refine lv_if_eq (tgt := 70) hx hb dX1_readPlay_31 (by decide) (fun c_10 => ?_) (fun c_10 => ?_)
        · replace hF := ite_f (bI_f c_10) hF
          exact hexit_10 t_at_1 t_play_2 H locs ls hF hP hD hS (lv_sub hl [0, 1] rfl)
        · replace hF := ite_t (bI_t c_10) hF
          refine lv_aload_n hx hb dX1_readPlay_34 rfl (lv_at hl 0 rfl) ?_
          refine lv_bipush (v := 10) hx hb dX1_readPlay_35 (by decide) ?_
          refine lv_aload_n hx hb dX1_readPlay_37 rfl (lv_at hl 0 rfl) ?_
          refine va_get (D := D) (ci := 1) (v := .int t_play_2) (C := RX1) (T := TX1) (N := 8) hx hb hts inX1 hown hK hP 0 rfl rfl 7 (by decide) (hts _ q_193) (fun _ h9 => h9) rfl dX1_readPlay_38 ?_
          refine lv_imul hx hb dX1_readPlay_41 ?_
          refine lv_aload_n hx hb dX1_readPlay_42 rfl (lv_at hl 0 rfl) ?_
          refine lv_aload_n hx hb dX1_readPlay_43 rfl (lv_at hl 0 rfl) ?_
          refine va_get (D := D) (ci := 1) (v := .int t_at_1) (C := RX1) (T := TX1) (N := 8) hx hb hts inX1 hown hK hP 0 rfl rfl 2 (by decide) (hts _ q_185) (fun _ h9 => h9) rfl dX1_readPlay_44 ?_
          obtain ⟨r_11, hF_12, hF⟩ := ob1_some hF
          refine kcV (q := (RX1, TX1, 8)) (ci := 1) (q0 := 0) (As := [.int t_at_1]) (rest := [.int (10 * t_play_2), .ref A_t]) (wr := []) (wsN := (w_X1_readPlay cy A_t A_t_bytes t_length t_at_1 t_error t_kind t_positive t_negative t_play_2 t_bytes)) ⟨hx, hb, hml, hown, hts⟩ hE hP hD hS hA hAs [0, 1] [] [0, 1] (c_X1_byteAt l D cy s0 tW N A_t A_t_bytes t_at_1 t_length t_at_1 t_error t_kind t_positive t_negative t_play_2 t_bytes _ hF_12) (gV q_395 q_397 q_22 q_87 q_398) hd_X1_byteAt ⟨Nat.le_of_ble_eq_true rfl, Nat.le_of_ble_eq_true rfl⟩ rfl rfl rfl rfl rfl rfl rfl rfl rfl hl.1 rfl (Nat.le_of_ble_eq_true rfl) dX1_readPlay_47 ⟨Nat.zero_le _, Nat.zero_le _⟩ (fun H locs hP hD hS => ?_)
          refine W.eq (g2 := F0 m 50 ls [.int r_11, .int (10 * t_play_2), .ref A_t]) rfl ?_
          refine lv_iadd hx hb dX1_readPlay_50 ?_
          refine lv_bipush (v := 48) hx hb dX1_readPlay_51 (by decide) ?_
          refine lv_isub hx hb dX1_readPlay_53 ?_
          refine ka_put (ci := 1) (v := .int (((10 * t_play_2) + r_11) - 48)) (ty := .int) (C := RX1) (T := TX1) (N := 8) (wsN := (w_X1_readPlay cy A_t A_t_bytes t_length t_at_1 t_error t_kind t_positive t_negative (((10 * t_play_2) + r_11) - 48) t_bytes)) hx hb hts inX1 tyX1 tyX1_ok nmX1 hown hK hP hD hS 0 rfl rfl 7 (by decide) (hts _ q_193) (fun _ h9 => h9) rfl (by decide +kernel) rfl rfl (Nat.le_of_ble_eq_true rfl) rfl dX1_readPlay_54 (fun H locs hP hD hS => ?_)
          refine lv_aload_n hx hb dX1_readPlay_57 rfl (lv_at hl 0 rfl) ?_
          refine lv_dup hx hb dX1_readPlay_58 rfl ?_
          refine va_get (D := D) (ci := 1) (v := .int t_at_1) (C := RX1) (T := TX1) (N := 8) hx hb hts inX1 hown hK hP 0 rfl rfl 2 (by decide) (hts _ q_185) (fun _ h9 => h9) rfl dX1_readPlay_59 ?_
          refine lv_iconst (v := 1) hx hb dX1_readPlay_62 (by decide) ?_
          refine lv_iadd hx hb dX1_readPlay_63 ?_
          refine ka_put (ci := 1) (v := .int (t_at_1 + 1)) (ty := .int) (C := RX1) (T := TX1) (N := 8) (wsN := (w_X1_readPlay cy A_t A_t_bytes t_length (t_at_1 + 1) t_error t_kind t_positive t_negative (((10 * t_play_2) + r_11) - 48) t_bytes)) hx hb hts inX1 tyX1 tyX1_ok nmX1 hown hK hP hD hS 0 rfl rfl 2 (by decide) (hts _ q_185) (fun _ h9 => h9) rfl (by decide +kernel) rfl rfl (Nat.le_of_ble_eq_true rfl) rfl dX1_readPlay_64 (fun H locs hP hD hS => ?_)
          refine lv_goto (tgt := 10) hx hb dX1_readPlay_67 (by decide) ?_
          exact ih (t_at_1 + 1) (((10 * t_play_2) + r_11) - 48) H locs ls hF hP hD hS (lv_sub hl [0, 1] rfl)
  refine hloop_10 _ (fun t_at_3 t_play_4 H locs ls hF hP hD hS hl => ?_) N t_at 0 _ _ ls hF hP hD hS (lv_sub hl [1, 0] rfl)
  refine lv_aload_n hx hb dX1_readPlay_70 rfl (lv_at hl 0 rfl) ?_
  refine va_get (D := D) (ci := 1) (v := .int t_at_3) (C := RX1) (T := TX1) (N := 8) hx hb hts inX1 hown hK hP 0 rfl rfl 2 (by decide) (hts _ q_185) (fun _ h9 => h9) rfl dX1_readPlay_71 ?_
  refine lv_iload_n hx hb dX1_readPlay_74 rfl (lv_at hl 1 rfl) ?_
  refine lv_icmp_eq (tgt := 92) hx hb dX1_readPlay_75 (by decide) (fun c_13 => ?_) (fun c_13 => ?_)
  · replace hF := ite_t c_13 hF
    refine lv_aload_n hx hb dX1_readPlay_92 rfl (lv_at hl 0 rfl) ?_
    refine lv_aload_n hx hb dX1_readPlay_93 rfl (lv_at hl 0 rfl) ?_
    refine va_get (D := D) (ci := 1) (v := .int t_at_3) (C := RX1) (T := TX1) (N := 8) hx hb hts inX1 hown hK hP 0 rfl rfl 2 (by decide) (hts _ q_185) (fun _ h9 => h9) rfl dX1_readPlay_94 ?_
    obtain ⟨r_14, t_error_15, hF_16, hF⟩ := ob2_some hF
    refine kcV (q := (RX1, TX1, 8)) (ci := 1) (q0 := 0) (As := [.int t_at_3]) (rest := []) (wr := [(A_t_bytes, .inl (cy 0, 100, .inl t_bytes))]) (wsN := (w_X1_readPlay cy A_t A_t_bytes t_length t_at_3 t_error_15 t_kind t_positive t_negative t_play_4 t_bytes)) ⟨hx, hb, hml, hown, hts⟩ hE hP hD hS hA hAs [0] [1] [1, 0] (c_X1_fail l D cy s0 tW N A_t A_t_bytes t_at_3 t_length t_at_3 t_error t_kind t_positive t_negative t_play_4 _ hF_16) (gV q_400 q_402 q_23 q_87 q_403) hd_X1_fail ⟨Nat.le_of_ble_eq_true rfl, Nat.le_of_ble_eq_true rfl⟩ rfl rfl rfl rfl rfl rfl rfl rfl rfl hl.1 rfl (Nat.le_of_ble_eq_true rfl) dX1_readPlay_97 ⟨Nat.zero_le _, Nat.zero_le _⟩ (fun H locs hP hD hS => ?_)
    refine W.eq (g2 := F0 m 100 ls [.int (bI r_14)]) rfl ?_
    cases hF
    exact kret_z hx hb hr hlocks hP hD hS dX1_readPlay_100
  · replace hF := ite_f c_13 hF
    refine lv_aload_n hx hb dX1_readPlay_78 rfl (lv_at hl 0 rfl) ?_
    refine lv_aload_n hx hb dX1_readPlay_79 rfl (lv_at hl 0 rfl) ?_
    refine va_get (D := D) (ci := 1) (v := .int t_at_3) (C := RX1) (T := TX1) (N := 8) hx hb hts inX1 hown hK hP 0 rfl rfl 2 (by decide) (hts _ q_185) (fun _ h9 => h9) rfl dX1_readPlay_80 ?_
    obtain ⟨r_17, hF_18, hF⟩ := ob1_some hF
    refine kcV (q := (RX1, TX1, 8)) (ci := 1) (q0 := 0) (As := [.int t_at_3]) (rest := []) (wr := []) (wsN := (w_X1_readPlay cy A_t A_t_bytes t_length t_at_3 t_error t_kind t_positive t_negative t_play_4 t_bytes)) ⟨hx, hb, hml, hown, hts⟩ hE hP hD hS hA hAs [0, 1] [] [0, 1] (c_X1_byteAt l D cy s0 tW N A_t A_t_bytes t_at_3 t_length t_at_3 t_error t_kind t_positive t_negative t_play_4 t_bytes _ hF_18) (gV q_395 q_397 q_22 q_87 q_398) hd_X1_byteAt ⟨Nat.le_of_ble_eq_true rfl, Nat.le_of_ble_eq_true rfl⟩ rfl rfl rfl rfl rfl rfl rfl rfl rfl hl.1 rfl (Nat.le_of_ble_eq_true rfl) dX1_readPlay_83 ⟨Nat.zero_le _, Nat.zero_le _⟩ (fun H locs hP hD hS => ?_)
    refine W.eq (g2 := F0 m 86 ls [.int r_17]) rfl ?_
    obtain ⟨r_19, hF_20, hF⟩ := ob1_some hF
    refine kcS (As := [.int r_17]) (rest := []) (wr := [(A_t, .inr (1, [.ref A_t_bytes, .int t_length, .int t_at_3, .int t_error, .int t_kind, .int t_positive, .int t_negative, .int t_play_4])), (A_t_bytes, .inl (cy 0, 100, .inl t_bytes))]) (wsN := (w_X1_readPlay cy A_t A_t_bytes t_length t_at_3 t_error t_kind t_positive t_negative t_play_4 t_bytes)) ⟨hx, hb, hml, hown, hts⟩ hE hP hD hS hA hAs [] [0, 1] [0, 1] (c_X1_isDigit l D cy s0 tW N r_17 _ hF_20) (gS q_412 q_413 q_87 q_414) hd_X1_isDigit.2 ⟨Nat.le_of_ble_eq_true rfl, Nat.le_of_ble_eq_true rfl⟩ rfl rfl rfl rfl rfl rfl rfl hl.1 rfl (Nat.le_of_ble_eq_true rfl) dX1_readPlay_86 ⟨Nat.zero_le _, Nat.zero_le _⟩ (fun H locs hP hD hS => ?_)
    refine W.eq (g2 := F0 m 89 ls [.int (bI r_19)]) rfl ?_
    refine lv_if_eq (tgt := 101) hx hb dX1_readPlay_89 (by decide) (fun c_21 => ?_) (fun c_21 => ?_)
    · replace hF := ite_f (bI_f c_21) hF
      refine lv_aload_n hx hb dX1_readPlay_101 rfl (lv_at hl 0 rfl) ?_
      refine va_get (D := D) (ci := 1) (v := .int t_play_4) (C := RX1) (T := TX1) (N := 8) hx hb hts inX1 hown hK hP 0 rfl rfl 7 (by decide) (hts _ q_193) (fun _ h9 => h9) rfl dX1_readPlay_102 ?_
      refine lv_bipush (v := 7) hx hb dX1_readPlay_105 (by decide) ?_
      refine lv_icmp_le (tgt := 118) hx hb dX1_readPlay_107 (by decide) (fun c_22 => ?_) (fun c_22 => ?_)
      · replace hF := ite_t c_22 hF
        refine lv_iconst (v := 1) hx hb dX1_readPlay_118 (by decide) ?_
        refine lv_goto (tgt := 123) hx hb dX1_readPlay_119 (by decide) ?_
        cases hF
        exact kret_z hx hb hr hlocks hP hD hS dX1_readPlay_123
      · replace hF := ite_f c_22 hF
        refine lv_aload_n hx hb dX1_readPlay_110 rfl (lv_at hl 0 rfl) ?_
        refine lv_iload_n hx hb dX1_readPlay_111 rfl (lv_at hl 1 rfl) ?_
        obtain ⟨r_23, t_error_24, hF_25, hF⟩ := ob2_some hF
        refine kcV (q := (RX1, TX1, 8)) (ci := 1) (q0 := 0) (As := [.int t_at]) (rest := []) (wr := [(A_t_bytes, .inl (cy 0, 100, .inl t_bytes))]) (wsN := (w_X1_readPlay cy A_t A_t_bytes t_length t_at_3 t_error_24 t_kind t_positive t_negative t_play_4 t_bytes)) ⟨hx, hb, hml, hown, hts⟩ hE hP hD hS hA hAs [0] [1] [1, 0] (c_X1_fail l D cy s0 tW N A_t A_t_bytes t_at t_length t_at_3 t_error t_kind t_positive t_negative t_play_4 _ hF_25) (gV q_400 q_402 q_23 q_87 q_403) hd_X1_fail ⟨Nat.le_of_ble_eq_true rfl, Nat.le_of_ble_eq_true rfl⟩ rfl rfl rfl rfl rfl rfl rfl rfl rfl hl.1 rfl (Nat.le_of_ble_eq_true rfl) dX1_readPlay_112 ⟨Nat.zero_le _, Nat.zero_le _⟩ (fun H locs hP hD hS => ?_)
        refine W.eq (g2 := F0 m 115 ls [.int (bI r_23)]) rfl ?_
        refine lv_if_eq (tgt := 122) hx hb dX1_readPlay_115 (by decide) (fun c_26 => ?_) (fun c_26 => ?_)
        · replace hF := ite_f (bI_f c_26) hF
          refine lv_iconst (v := 0) hx hb dX1_readPlay_122 (by decide) ?_
          cases hF
          exact kret_z hx hb hr hlocks hP hD hS dX1_readPlay_123
        · replace hF := ite_t (bI_t c_26) hF
          refine lv_iconst (v := 1) hx hb dX1_readPlay_118 (by decide) ?_
          refine lv_goto (tgt := 123) hx hb dX1_readPlay_119 (by decide) ?_
          cases hF
          exact kret_z hx hb hr hlocks hP hD hS dX1_readPlay_123
    · replace hF := ite_t (bI_t c_21) hF
      refine lv_aload_n hx hb dX1_readPlay_92 rfl (lv_at hl 0 rfl) ?_
      refine lv_aload_n hx hb dX1_readPlay_93 rfl (lv_at hl 0 rfl) ?_
      refine va_get (D := D) (ci := 1) (v := .int t_at_3) (C := RX1) (T := TX1) (N := 8) hx hb hts inX1 hown hK hP 0 rfl rfl 2 (by decide) (hts _ q_185) (fun _ h9 => h9) rfl dX1_readPlay_94 ?_
      obtain ⟨r_27, t_error_28, hF_29, hF⟩ := ob2_some hF
      refine kcV (q := (RX1, TX1, 8)) (ci := 1) (q0 := 0) (As := [.int t_at_3]) (rest := []) (wr := [(A_t_bytes, .inl (cy 0, 100, .inl t_bytes))]) (wsN := (w_X1_readPlay cy A_t A_t_bytes t_length t_at_3 t_error_28 t_kind t_positive t_negative t_play_4 t_bytes)) ⟨hx, hb, hml, hown, hts⟩ hE hP hD hS hA hAs [0] [1] [1, 0] (c_X1_fail l D cy s0 tW N A_t A_t_bytes t_at_3 t_length t_at_3 t_error t_kind t_positive t_negative t_play_4 _ hF_29) (gV q_400 q_402 q_23 q_87 q_403) hd_X1_fail ⟨Nat.le_of_ble_eq_true rfl, Nat.le_of_ble_eq_true rfl⟩ rfl rfl rfl rfl rfl rfl rfl rfl rfl hl.1 rfl (Nat.le_of_ble_eq_true rfl) dX1_readPlay_97 ⟨Nat.zero_le _, Nat.zero_le _⟩ (fun H locs hP hD hS => ?_)
      refine W.eq (g2 := F0 m 100 ls [.int (bI r_27)]) rfl ?_
      cases hF
      exact kret_z hx hb hr hlocks hP hD hS dX1_readPlay_100

theorem q_24 : Cond.selects RX1 yX1_readLiterals yX1_readLiterals ∈ wAll := wAll_mem 24 (by decide +kernel) (by decide +kernel)
theorem q_25 : Cond.selects RX1 yX1_readPlay yX1_readPlay ∈ wAll := wAll_mem 25 (by decide +kernel) (by decide +kernel)
theorem q_187 : Cond.fieldLink RX1 40 "ForAllGame$OrderText" "kind" "I" ∈ wAll := wAll_mem 187 (by decide +kernel) (by decide +kernel)
theorem q_404 : Cond.methodLink RX1 47 yX1_readLiterals ∈ wAll := wAll_mem 404 (by decide +kernel) (by decide +kernel)
theorem q_406 : Cond.instanceMethod yX1_readLiterals ∈ wAll := wAll_mem 406 (by decide +kernel) (by decide +kernel)
theorem q_407 : Cond.code yX1_readLiterals cX1_readLiterals 3 (some .boolean) ∈ wAll := wAll_mem 407 (by decide +kernel) (by decide +kernel)
theorem q_408 : Cond.methodLink RX1 50 yX1_readPlay ∈ wAll := wAll_mem 408 (by decide +kernel) (by decide +kernel)
theorem q_410 : Cond.instanceMethod yX1_readPlay ∈ wAll := wAll_mem 410 (by decide +kernel) (by decide +kernel)
theorem q_411 : Cond.code yX1_readPlay cX1_readPlay 2 (some .boolean) ∈ wAll := wAll_mem 411 (by decide +kernel) (by decide +kernel)
theorem hd_X1_readLiterals : yX1_readLiterals.cls = RX1 ∧ yX1_readLiterals.cls ≠ "java/lang/invoke/MethodHandle" ∧ yX1_readLiterals.cls ≠ "java/lang/invoke/VarHandle" ∧ (parseMethodDescriptor yX1_readLiterals.desc).map (fun d => d.parameters.length) = some 0 := by decide +kernel
theorem hd_X1_readPlay : yX1_readPlay.cls = RX1 ∧ yX1_readPlay.cls ≠ "java/lang/invoke/MethodHandle" ∧ yX1_readPlay.cls ≠ "java/lang/invoke/VarHandle" ∧ (parseMethodDescriptor yX1_readPlay.desc).map (fun d => d.parameters.length) = some 0 := by decide +kernel
abbrev w_X1_readOrder (cy : Nat → ClassId) (A_t : Nat) (A_t_bytes : Nat) (t_length : Int32) (t_at : Int32) (t_error : Int32) (t_kind : Int32) (t_positive : Int32) (t_negative : Int32) (t_play : Int32) (t_bytes : Nat → Int32) : va_W := [(A_t, .inr (1, [.ref A_t_bytes, .int t_length, .int t_at, .int t_error, .int t_kind, .int t_positive, .int t_negative, .int t_play])), (A_t_bytes, .inl (cy 0, 100, .inl t_bytes))]
def F_X1_readOrder (N : Nat) (t_bytes : Nat → Int32) (t_length : Int32) (t_at : Int32) (t_error : Int32) (t_kind : Int32) (t_positive : Int32) (t_negative : Int32) (t_play : Int32) : Option (Bool × Int32 × Int32 × Int32 × Int32 × Int32 × Int32) :=
  (if t_at < t_length then ob1 (F_X1_byteAt N t_at t_bytes t_length) (fun r_2 => (if r_2 = (101 : Int32) then (if r_2 = (99 : Int32) then ob5 (F_X1_readLiterals N t_bytes t_length (t_at + 1) t_error t_positive t_negative) (fun r_25 t_at_26 t_error_27 t_positive_28 t_negative_29 => (if r_25 = true then (if r_2 = (108 : Int32) then ob4 (F_X1_readPlay N t_bytes t_length t_at_26 t_error_27 t_play) (fun r_39 t_at_40 t_error_41 t_play_42 => (if r_39 = true then ob1 (F_X1_byteAt N t_at_40 t_bytes t_length) (fun r_45 => (if r_45 = (59 : Int32) then some (true, (t_at_40 + 1), t_error_41, r_2, t_positive_28, t_negative_29, t_play_42) else ob2 (F_X1_fail N t_at_40 t_error_41) (fun r_48 t_error_49 => some (r_48, t_at_40, t_error_49, r_2, t_positive_28, t_negative_29, t_play_42)))) else some (false, t_at_40, t_error_41, r_2, t_positive_28, t_negative_29, t_play_42))) else ob1 (F_X1_byteAt N t_at_26 t_bytes t_length) (fun r_33 => (if r_33 = (59 : Int32) then some (true, (t_at_26 + 1), t_error_27, r_2, t_positive_28, t_negative_29, t_play) else ob2 (F_X1_fail N t_at_26 t_error_27) (fun r_36 t_error_37 => some (r_36, t_at_26, t_error_37, r_2, t_positive_28, t_negative_29, t_play))))) else some (false, t_at_26, t_error_27, r_2, t_positive_28, t_negative_29, t_play))) else (if r_2 = (108 : Int32) then ob4 (F_X1_readPlay N t_bytes t_length (t_at + 1) t_error t_play) (fun r_13 t_at_14 t_error_15 t_play_16 => (if r_13 = true then ob1 (F_X1_byteAt N t_at_14 t_bytes t_length) (fun r_19 => (if r_19 = (59 : Int32) then some (true, (t_at_14 + 1), t_error_15, r_2, t_positive, t_negative, t_play_16) else ob2 (F_X1_fail N t_at_14 t_error_15) (fun r_22 t_error_23 => some (r_22, t_at_14, t_error_23, r_2, t_positive, t_negative, t_play_16)))) else some (false, t_at_14, t_error_15, r_2, t_positive, t_negative, t_play_16))) else ob1 (F_X1_byteAt N (t_at + 1) t_bytes t_length) (fun r_7 => (if r_7 = (59 : Int32) then some (true, ((t_at + 1) + 1), t_error, r_2, t_positive, t_negative, t_play) else ob2 (F_X1_fail N (t_at + 1) t_error) (fun r_10 t_error_11 => some (r_10, (t_at + 1), t_error_11, r_2, t_positive, t_negative, t_play)))))) else (if r_2 = (117 : Int32) then (if r_2 = (99 : Int32) then ob5 (F_X1_readLiterals N t_bytes t_length (t_at + 1) t_error t_positive t_negative) (fun r_72 t_at_73 t_error_74 t_positive_75 t_negative_76 => (if r_72 = true then (if r_2 = (108 : Int32) then ob4 (F_X1_readPlay N t_bytes t_length t_at_73 t_error_74 t_play) (fun r_86 t_at_87 t_error_88 t_play_89 => (if r_86 = true then ob1 (F_X1_byteAt N t_at_87 t_bytes t_length) (fun r_92 => (if r_92 = (59 : Int32) then some (true, (t_at_87 + 1), t_error_88, r_2, t_positive_75, t_negative_76, t_play_89) else ob2 (F_X1_fail N t_at_87 t_error_88) (fun r_95 t_error_96 => some (r_95, t_at_87, t_error_96, r_2, t_positive_75, t_negative_76, t_play_89)))) else some (false, t_at_87, t_error_88, r_2, t_positive_75, t_negative_76, t_play_89))) else ob1 (F_X1_byteAt N t_at_73 t_bytes t_length) (fun r_80 => (if r_80 = (59 : Int32) then some (true, (t_at_73 + 1), t_error_74, r_2, t_positive_75, t_negative_76, t_play) else ob2 (F_X1_fail N t_at_73 t_error_74) (fun r_83 t_error_84 => some (r_83, t_at_73, t_error_84, r_2, t_positive_75, t_negative_76, t_play))))) else some (false, t_at_73, t_error_74, r_2, t_positive_75, t_negative_76, t_play))) else (if r_2 = (108 : Int32) then ob4 (F_X1_readPlay N t_bytes t_length (t_at + 1) t_error t_play) (fun r_60 t_at_61 t_error_62 t_play_63 => (if r_60 = true then ob1 (F_X1_byteAt N t_at_61 t_bytes t_length) (fun r_66 => (if r_66 = (59 : Int32) then some (true, (t_at_61 + 1), t_error_62, r_2, t_positive, t_negative, t_play_63) else ob2 (F_X1_fail N t_at_61 t_error_62) (fun r_69 t_error_70 => some (r_69, t_at_61, t_error_70, r_2, t_positive, t_negative, t_play_63)))) else some (false, t_at_61, t_error_62, r_2, t_positive, t_negative, t_play_63))) else ob1 (F_X1_byteAt N (t_at + 1) t_bytes t_length) (fun r_54 => (if r_54 = (59 : Int32) then some (true, ((t_at + 1) + 1), t_error, r_2, t_positive, t_negative, t_play) else ob2 (F_X1_fail N (t_at + 1) t_error) (fun r_57 t_error_58 => some (r_57, (t_at + 1), t_error_58, r_2, t_positive, t_negative, t_play)))))) else (if r_2 = (99 : Int32) then (if r_2 = (99 : Int32) then ob5 (F_X1_readLiterals N t_bytes t_length (t_at + 1) t_error t_positive t_negative) (fun r_119 t_at_120 t_error_121 t_positive_122 t_negative_123 => (if r_119 = true then (if r_2 = (108 : Int32) then ob4 (F_X1_readPlay N t_bytes t_length t_at_120 t_error_121 t_play) (fun r_133 t_at_134 t_error_135 t_play_136 => (if r_133 = true then ob1 (F_X1_byteAt N t_at_134 t_bytes t_length) (fun r_139 => (if r_139 = (59 : Int32) then some (true, (t_at_134 + 1), t_error_135, r_2, t_positive_122, t_negative_123, t_play_136) else ob2 (F_X1_fail N t_at_134 t_error_135) (fun r_142 t_error_143 => some (r_142, t_at_134, t_error_143, r_2, t_positive_122, t_negative_123, t_play_136)))) else some (false, t_at_134, t_error_135, r_2, t_positive_122, t_negative_123, t_play_136))) else ob1 (F_X1_byteAt N t_at_120 t_bytes t_length) (fun r_127 => (if r_127 = (59 : Int32) then some (true, (t_at_120 + 1), t_error_121, r_2, t_positive_122, t_negative_123, t_play) else ob2 (F_X1_fail N t_at_120 t_error_121) (fun r_130 t_error_131 => some (r_130, t_at_120, t_error_131, r_2, t_positive_122, t_negative_123, t_play))))) else some (false, t_at_120, t_error_121, r_2, t_positive_122, t_negative_123, t_play))) else (if r_2 = (108 : Int32) then ob4 (F_X1_readPlay N t_bytes t_length (t_at + 1) t_error t_play) (fun r_107 t_at_108 t_error_109 t_play_110 => (if r_107 = true then ob1 (F_X1_byteAt N t_at_108 t_bytes t_length) (fun r_113 => (if r_113 = (59 : Int32) then some (true, (t_at_108 + 1), t_error_109, r_2, t_positive, t_negative, t_play_110) else ob2 (F_X1_fail N t_at_108 t_error_109) (fun r_116 t_error_117 => some (r_116, t_at_108, t_error_117, r_2, t_positive, t_negative, t_play_110)))) else some (false, t_at_108, t_error_109, r_2, t_positive, t_negative, t_play_110))) else ob1 (F_X1_byteAt N (t_at + 1) t_bytes t_length) (fun r_101 => (if r_101 = (59 : Int32) then some (true, ((t_at + 1) + 1), t_error, r_2, t_positive, t_negative, t_play) else ob2 (F_X1_fail N (t_at + 1) t_error) (fun r_104 t_error_105 => some (r_104, (t_at + 1), t_error_105, r_2, t_positive, t_negative, t_play)))))) else (if r_2 = (108 : Int32) then (if r_2 = (99 : Int32) then ob5 (F_X1_readLiterals N t_bytes t_length (t_at + 1) t_error t_positive t_negative) (fun r_166 t_at_167 t_error_168 t_positive_169 t_negative_170 => (if r_166 = true then (if r_2 = (108 : Int32) then ob4 (F_X1_readPlay N t_bytes t_length t_at_167 t_error_168 t_play) (fun r_180 t_at_181 t_error_182 t_play_183 => (if r_180 = true then ob1 (F_X1_byteAt N t_at_181 t_bytes t_length) (fun r_186 => (if r_186 = (59 : Int32) then some (true, (t_at_181 + 1), t_error_182, r_2, t_positive_169, t_negative_170, t_play_183) else ob2 (F_X1_fail N t_at_181 t_error_182) (fun r_189 t_error_190 => some (r_189, t_at_181, t_error_190, r_2, t_positive_169, t_negative_170, t_play_183)))) else some (false, t_at_181, t_error_182, r_2, t_positive_169, t_negative_170, t_play_183))) else ob1 (F_X1_byteAt N t_at_167 t_bytes t_length) (fun r_174 => (if r_174 = (59 : Int32) then some (true, (t_at_167 + 1), t_error_168, r_2, t_positive_169, t_negative_170, t_play) else ob2 (F_X1_fail N t_at_167 t_error_168) (fun r_177 t_error_178 => some (r_177, t_at_167, t_error_178, r_2, t_positive_169, t_negative_170, t_play))))) else some (false, t_at_167, t_error_168, r_2, t_positive_169, t_negative_170, t_play))) else (if r_2 = (108 : Int32) then ob4 (F_X1_readPlay N t_bytes t_length (t_at + 1) t_error t_play) (fun r_154 t_at_155 t_error_156 t_play_157 => (if r_154 = true then ob1 (F_X1_byteAt N t_at_155 t_bytes t_length) (fun r_160 => (if r_160 = (59 : Int32) then some (true, (t_at_155 + 1), t_error_156, r_2, t_positive, t_negative, t_play_157) else ob2 (F_X1_fail N t_at_155 t_error_156) (fun r_163 t_error_164 => some (r_163, t_at_155, t_error_164, r_2, t_positive, t_negative, t_play_157)))) else some (false, t_at_155, t_error_156, r_2, t_positive, t_negative, t_play_157))) else ob1 (F_X1_byteAt N (t_at + 1) t_bytes t_length) (fun r_148 => (if r_148 = (59 : Int32) then some (true, ((t_at + 1) + 1), t_error, r_2, t_positive, t_negative, t_play) else ob2 (F_X1_fail N (t_at + 1) t_error) (fun r_151 t_error_152 => some (r_151, (t_at + 1), t_error_152, r_2, t_positive, t_negative, t_play)))))) else (if r_2 = (114 : Int32) then (if r_2 = (99 : Int32) then ob5 (F_X1_readLiterals N t_bytes t_length (t_at + 1) t_error t_positive t_negative) (fun r_216 t_at_217 t_error_218 t_positive_219 t_negative_220 => (if r_216 = true then (if r_2 = (108 : Int32) then ob4 (F_X1_readPlay N t_bytes t_length t_at_217 t_error_218 t_play) (fun r_230 t_at_231 t_error_232 t_play_233 => (if r_230 = true then ob1 (F_X1_byteAt N t_at_231 t_bytes t_length) (fun r_236 => (if r_236 = (59 : Int32) then some (true, (t_at_231 + 1), t_error_232, r_2, t_positive_219, t_negative_220, t_play_233) else ob2 (F_X1_fail N t_at_231 t_error_232) (fun r_239 t_error_240 => some (r_239, t_at_231, t_error_240, r_2, t_positive_219, t_negative_220, t_play_233)))) else some (false, t_at_231, t_error_232, r_2, t_positive_219, t_negative_220, t_play_233))) else ob1 (F_X1_byteAt N t_at_217 t_bytes t_length) (fun r_224 => (if r_224 = (59 : Int32) then some (true, (t_at_217 + 1), t_error_218, r_2, t_positive_219, t_negative_220, t_play) else ob2 (F_X1_fail N t_at_217 t_error_218) (fun r_227 t_error_228 => some (r_227, t_at_217, t_error_228, r_2, t_positive_219, t_negative_220, t_play))))) else some (false, t_at_217, t_error_218, r_2, t_positive_219, t_negative_220, t_play))) else (if r_2 = (108 : Int32) then ob4 (F_X1_readPlay N t_bytes t_length (t_at + 1) t_error t_play) (fun r_204 t_at_205 t_error_206 t_play_207 => (if r_204 = true then ob1 (F_X1_byteAt N t_at_205 t_bytes t_length) (fun r_210 => (if r_210 = (59 : Int32) then some (true, (t_at_205 + 1), t_error_206, r_2, t_positive, t_negative, t_play_207) else ob2 (F_X1_fail N t_at_205 t_error_206) (fun r_213 t_error_214 => some (r_213, t_at_205, t_error_214, r_2, t_positive, t_negative, t_play_207)))) else some (false, t_at_205, t_error_206, r_2, t_positive, t_negative, t_play_207))) else ob1 (F_X1_byteAt N (t_at + 1) t_bytes t_length) (fun r_198 => (if r_198 = (59 : Int32) then some (true, ((t_at + 1) + 1), t_error, r_2, t_positive, t_negative, t_play) else ob2 (F_X1_fail N (t_at + 1) t_error) (fun r_201 t_error_202 => some (r_201, (t_at + 1), t_error_202, r_2, t_positive, t_negative, t_play)))))) else ob2 (F_X1_fail N t_at t_error) (fun r_193 t_error_194 => some (r_193, t_at, t_error_194, r_2, t_positive, t_negative, t_play)))))))) else some (false, t_at, t_error, t_kind, t_positive, t_negative, t_play))
set_option maxHeartbeats 4000000 in
set_option maxRecDepth 100000 in
theorem c_X1_readOrder (l : Launch) (D : va_G) (cy : Nat → ClassId) (s0 tW N : Nat) (A_t : Nat) (A_t_bytes : Nat) (t_length : Int32) (t_at : Int32) (t_error : Int32) (t_kind : Int32) (t_positive : Int32) (t_negative : Int32) (t_play : Int32) (t_bytes : Nat → Int32) (sz : Nat) {r9 : Bool} {t_at9 : Int32} {t_error9 : Int32} {t_kind9 : Int32} {t_positive9 : Int32} {t_negative9 : Int32} {t_play9 : Int32} (hF : F_X1_readOrder N t_bytes t_length t_at t_error t_kind t_positive t_negative t_play = some (r9, t_at9, t_error9, t_kind9, t_positive9, t_negative9, t_play9)) : KM l D cy s0 tW yX1_readOrder cX1_readOrder 2 (some .boolean) 3 64 [.ref A_t] sz (w_X1_readOrder cy A_t A_t_bytes t_length t_at t_error t_kind t_positive t_negative t_play t_bytes) (some (.int (bI r9))) (w_X1_readOrder cy A_t A_t_bytes t_length t_at9 t_error9 t_kind9 t_positive9 t_negative9 t_play9 t_bytes) := by
  refine KM.intro rfl (Nat.le_of_ble_eq_true rfl) ?_
  intro p e s m args below meth c A ls hx hb hr hml hown hts hlocks hE hP hD hS hA hAs hl
  have hK := hE.1
  have hl : lv_has ls 2 [(0, .ref A_t)] := hl
  unfold F_X1_readOrder at hF
  refine lv_aload_n hx hb dX1_readOrder_0 rfl (lv_at hl 0 rfl) ?_
  refine va_get (D := D) (ci := 1) (v := .int t_at) (C := RX1) (T := TX1) (N := 8) hx hb hts inX1 hown hK hP 0 rfl rfl 2 (by decide) (hts _ q_185) (fun _ h9 => h9) rfl dX1_readOrder_1 ?_
  refine lv_aload_n hx hb dX1_readOrder_4 rfl (lv_at hl 0 rfl) ?_
  refine va_get (D := D) (ci := 1) (v := .int t_length) (C := RX1) (T := TX1) (N := 8) hx hb hts inX1 hown hK hP 0 rfl rfl 1 (by decide) (hts _ q_183) (fun _ h9 => h9) rfl dX1_readOrder_5 ?_
  refine lv_icmp_lt (tgt := 13) hx hb dX1_readOrder_8 (by decide) (fun c_1 => ?_) (fun c_1 => ?_)
  · replace hF := ite_t c_1 hF
    refine lv_aload_n hx hb dX1_readOrder_13 rfl (lv_at hl 0 rfl) ?_
    refine lv_aload_n hx hb dX1_readOrder_14 rfl (lv_at hl 0 rfl) ?_
    refine lv_aload_n hx hb dX1_readOrder_15 rfl (lv_at hl 0 rfl) ?_
    refine va_get (D := D) (ci := 1) (v := .int t_at) (C := RX1) (T := TX1) (N := 8) hx hb hts inX1 hown hK hP 0 rfl rfl 2 (by decide) (hts _ q_185) (fun _ h9 => h9) rfl dX1_readOrder_16 ?_
    obtain ⟨r_2, hF_3, hF⟩ := ob1_some hF
    refine kcV (q := (RX1, TX1, 8)) (ci := 1) (q0 := 0) (As := [.int t_at]) (rest := [.ref A_t]) (wr := []) (wsN := (w_X1_readOrder cy A_t A_t_bytes t_length t_at t_error t_kind t_positive t_negative t_play t_bytes)) ⟨hx, hb, hml, hown, hts⟩ hE hP hD hS hA hAs [0, 1] [] [0, 1] (c_X1_byteAt l D cy s0 tW N A_t A_t_bytes t_at t_length t_at t_error t_kind t_positive t_negative t_play t_bytes _ hF_3) (gV q_395 q_397 q_22 q_87 q_398) hd_X1_byteAt ⟨Nat.le_of_ble_eq_true rfl, Nat.le_of_ble_eq_true rfl⟩ rfl rfl rfl rfl rfl rfl rfl rfl rfl hl.1 rfl (Nat.le_of_ble_eq_true rfl) dX1_readOrder_19 ⟨Nat.zero_le _, Nat.zero_le _⟩ (fun H locs hP hD hS => ?_)
    refine W.eq (g2 := F0 m 22 ls [.int r_2, .ref A_t]) rfl ?_
    refine ka_put (ci := 1) (v := .int r_2) (ty := .int) (C := RX1) (T := TX1) (N := 8) (wsN := (w_X1_readOrder cy A_t A_t_bytes t_length t_at t_error r_2 t_positive t_negative t_play t_bytes)) hx hb hts inX1 tyX1 tyX1_ok nmX1 hown hK hP hD hS 0 rfl rfl 4 (by decide) (hts _ q_187) (fun _ h9 => h9) rfl (by decide +kernel) rfl rfl (Nat.le_of_ble_eq_true rfl) rfl dX1_readOrder_22 (fun H locs hP hD hS => ?_)
    refine lv_aload_n hx hb dX1_readOrder_25 rfl (lv_at hl 0 rfl) ?_
    refine va_get (D := D) (ci := 1) (v := .int r_2) (C := RX1) (T := TX1) (N := 8) hx hb hts inX1 hown hK hP 0 rfl rfl 4 (by decide) (hts _ q_187) (fun _ h9 => h9) rfl dX1_readOrder_26 ?_
    refine lv_bipush (v := 101) hx hb dX1_readOrder_29 (by decide) ?_
    refine lv_icmp_eq (tgt := 70) hx hb dX1_readOrder_31 (by decide) (fun c_4 => ?_) (fun c_4 => ?_)
    · replace hF := ite_t c_4 hF
      refine lv_iconst (v := 1) hx hb dX1_readOrder_70 (by decide) ?_
      refine lv_goto (tgt := 75) hx hb dX1_readOrder_71 (by decide) ?_
      refine lv_istore_n (lv' := [(1, .int 1), (0, .ref A_t)]) hx hb dX1_readOrder_75 rfl hl (by decide) rfl (fun ls hl => ?_)
      refine lv_iload_n hx hb dX1_readOrder_76 rfl (lv_at hl 0 rfl) ?_
      refine lv_if_ne (tgt := 89) hx hb dX1_readOrder_77 (by decide) (fun _ => ?_) (fun h0 => absurd h0 (by decide))
      refine lv_aload_n hx hb dX1_readOrder_89 rfl (lv_at hl 1 rfl) ?_
      refine lv_dup hx hb dX1_readOrder_90 rfl ?_
      refine va_get (D := D) (ci := 1) (v := .int t_at) (C := RX1) (T := TX1) (N := 8) hx hb hts inX1 hown hK hP 0 rfl rfl 2 (by decide) (hts _ q_185) (fun _ h9 => h9) rfl dX1_readOrder_91 ?_
      refine lv_iconst (v := 1) hx hb dX1_readOrder_94 (by decide) ?_
      refine lv_iadd hx hb dX1_readOrder_95 ?_
      refine ka_put (ci := 1) (v := .int (t_at + 1)) (ty := .int) (C := RX1) (T := TX1) (N := 8) (wsN := (w_X1_readOrder cy A_t A_t_bytes t_length (t_at + 1) t_error r_2 t_positive t_negative t_play t_bytes)) hx hb hts inX1 tyX1 tyX1_ok nmX1 hown hK hP hD hS 0 rfl rfl 2 (by decide) (hts _ q_185) (fun _ h9 => h9) rfl (by decide +kernel) rfl rfl (Nat.le_of_ble_eq_true rfl) rfl dX1_readOrder_96 (fun H locs hP hD hS => ?_)
      refine lv_aload_n hx hb dX1_readOrder_99 rfl (lv_at hl 1 rfl) ?_
      refine va_get (D := D) (ci := 1) (v := .int r_2) (C := RX1) (T := TX1) (N := 8) hx hb hts inX1 hown hK hP 0 rfl rfl 4 (by decide) (hts _ q_187) (fun _ h9 => h9) rfl dX1_readOrder_100 ?_
      refine lv_bipush (v := 99) hx hb dX1_readOrder_103 (by decide) ?_
      refine lv_icmp_ne (tgt := 117) hx hb dX1_readOrder_105 (by decide) (fun c_5 => ?_) (fun c_5 => ?_)
      · replace hF := ite_f c_5 hF
        refine lv_aload_n hx hb dX1_readOrder_117 rfl (lv_at hl 1 rfl) ?_
        refine va_get (D := D) (ci := 1) (v := .int r_2) (C := RX1) (T := TX1) (N := 8) hx hb hts inX1 hown hK hP 0 rfl rfl 4 (by decide) (hts _ q_187) (fun _ h9 => h9) rfl dX1_readOrder_118 ?_
        refine lv_bipush (v := 108) hx hb dX1_readOrder_121 (by decide) ?_
        refine lv_icmp_ne (tgt := 135) hx hb dX1_readOrder_123 (by decide) (fun c_6 => ?_) (fun c_6 => ?_)
        · replace hF := ite_f c_6 hF
          refine lv_aload_n hx hb dX1_readOrder_135 rfl (lv_at hl 1 rfl) ?_
          refine lv_aload_n hx hb dX1_readOrder_136 rfl (lv_at hl 1 rfl) ?_
          refine va_get (D := D) (ci := 1) (v := .int (t_at + 1)) (C := RX1) (T := TX1) (N := 8) hx hb hts inX1 hown hK hP 0 rfl rfl 2 (by decide) (hts _ q_185) (fun _ h9 => h9) rfl dX1_readOrder_137 ?_
          obtain ⟨r_7, hF_8, hF⟩ := ob1_some hF
          refine kcV (q := (RX1, TX1, 8)) (ci := 1) (q0 := 0) (As := [.int (t_at + 1)]) (rest := []) (wr := []) (wsN := (w_X1_readOrder cy A_t A_t_bytes t_length (t_at + 1) t_error r_2 t_positive t_negative t_play t_bytes)) ⟨hx, hb, hml, hown, hts⟩ hE hP hD hS hA hAs [0, 1] [] [0, 1] (c_X1_byteAt l D cy s0 tW N A_t A_t_bytes (t_at + 1) t_length (t_at + 1) t_error r_2 t_positive t_negative t_play t_bytes _ hF_8) (gV q_395 q_397 q_22 q_87 q_398) hd_X1_byteAt ⟨Nat.le_of_ble_eq_true rfl, Nat.le_of_ble_eq_true rfl⟩ rfl rfl rfl rfl rfl rfl rfl rfl rfl hl.1 rfl (Nat.le_of_ble_eq_true rfl) dX1_readOrder_140 ⟨Nat.zero_le _, Nat.zero_le _⟩ (fun H locs hP hD hS => ?_)
          refine W.eq (g2 := F0 m 143 ls [.int r_7]) rfl ?_
          refine lv_bipush (v := 59) hx hb dX1_readOrder_143 (by decide) ?_
          refine lv_icmp_eq (tgt := 157) hx hb dX1_readOrder_145 (by decide) (fun c_9 => ?_) (fun c_9 => ?_)
          · replace hF := ite_t c_9 hF
            refine lv_aload_n hx hb dX1_readOrder_157 rfl (lv_at hl 1 rfl) ?_
            refine lv_dup hx hb dX1_readOrder_158 rfl ?_
            refine va_get (D := D) (ci := 1) (v := .int (t_at + 1)) (C := RX1) (T := TX1) (N := 8) hx hb hts inX1 hown hK hP 0 rfl rfl 2 (by decide) (hts _ q_185) (fun _ h9 => h9) rfl dX1_readOrder_159 ?_
            refine lv_iconst (v := 1) hx hb dX1_readOrder_162 (by decide) ?_
            refine lv_iadd hx hb dX1_readOrder_163 ?_
            refine ka_put (ci := 1) (v := .int ((t_at + 1) + 1)) (ty := .int) (C := RX1) (T := TX1) (N := 8) (wsN := (w_X1_readOrder cy A_t A_t_bytes t_length ((t_at + 1) + 1) t_error r_2 t_positive t_negative t_play t_bytes)) hx hb hts inX1 tyX1 tyX1_ok nmX1 hown hK hP hD hS 0 rfl rfl 2 (by decide) (hts _ q_185) (fun _ h9 => h9) rfl (by decide +kernel) rfl rfl (Nat.le_of_ble_eq_true rfl) rfl dX1_readOrder_164 (fun H locs hP hD hS => ?_)
            refine lv_iconst (v := 1) hx hb dX1_readOrder_167 (by decide) ?_
            cases hF
            exact kret_z hx hb hr hlocks hP hD hS dX1_readOrder_168
          · replace hF := ite_f c_9 hF
            refine lv_aload_n hx hb dX1_readOrder_148 rfl (lv_at hl 1 rfl) ?_
            refine lv_aload_n hx hb dX1_readOrder_149 rfl (lv_at hl 1 rfl) ?_
            refine va_get (D := D) (ci := 1) (v := .int (t_at + 1)) (C := RX1) (T := TX1) (N := 8) hx hb hts inX1 hown hK hP 0 rfl rfl 2 (by decide) (hts _ q_185) (fun _ h9 => h9) rfl dX1_readOrder_150 ?_
            obtain ⟨r_10, t_error_11, hF_12, hF⟩ := ob2_some hF
            refine kcV (q := (RX1, TX1, 8)) (ci := 1) (q0 := 0) (As := [.int (t_at + 1)]) (rest := []) (wr := [(A_t_bytes, .inl (cy 0, 100, .inl t_bytes))]) (wsN := (w_X1_readOrder cy A_t A_t_bytes t_length (t_at + 1) t_error_11 r_2 t_positive t_negative t_play t_bytes)) ⟨hx, hb, hml, hown, hts⟩ hE hP hD hS hA hAs [0] [1] [1, 0] (c_X1_fail l D cy s0 tW N A_t A_t_bytes (t_at + 1) t_length (t_at + 1) t_error r_2 t_positive t_negative t_play _ hF_12) (gV q_400 q_402 q_23 q_87 q_403) hd_X1_fail ⟨Nat.le_of_ble_eq_true rfl, Nat.le_of_ble_eq_true rfl⟩ rfl rfl rfl rfl rfl rfl rfl rfl rfl hl.1 rfl (Nat.le_of_ble_eq_true rfl) dX1_readOrder_153 ⟨Nat.zero_le _, Nat.zero_le _⟩ (fun H locs hP hD hS => ?_)
            refine W.eq (g2 := F0 m 156 ls [.int (bI r_10)]) rfl ?_
            cases hF
            exact kret_z hx hb hr hlocks hP hD hS dX1_readOrder_156
        · replace hF := ite_t c_6 hF
          refine lv_aload_n hx hb dX1_readOrder_126 rfl (lv_at hl 1 rfl) ?_
          obtain ⟨r_13, t_at_14, t_error_15, t_play_16, hF_17, hF⟩ := ob4_some hF
          refine kcV (q := (RX1, TX1, 8)) (ci := 1) (q0 := 0) (As := []) (rest := []) (wr := []) (wsN := (w_X1_readOrder cy A_t A_t_bytes t_length t_at_14 t_error_15 r_2 t_positive t_negative t_play_16 t_bytes)) ⟨hx, hb, hml, hown, hts⟩ hE hP hD hS hA hAs [0, 1] [] [0, 1] (c_X1_readPlay l D cy s0 tW N A_t A_t_bytes t_length (t_at + 1) t_error r_2 t_positive t_negative t_play t_bytes _ hF_17) (gV q_408 q_410 q_25 q_87 q_411) hd_X1_readPlay ⟨Nat.le_of_ble_eq_true rfl, Nat.le_of_ble_eq_true rfl⟩ rfl rfl rfl rfl rfl rfl rfl rfl rfl hl.1 rfl (Nat.le_of_ble_eq_true rfl) dX1_readOrder_127 ⟨Nat.zero_le _, Nat.zero_le _⟩ (fun H locs hP hD hS => ?_)
          refine W.eq (g2 := F0 m 130 ls [.int (bI r_13)]) rfl ?_
          refine lv_if_ne (tgt := 135) hx hb dX1_readOrder_130 (by decide) (fun c_18 => ?_) (fun c_18 => ?_)
          · replace hF := ite_t (bI_t c_18) hF
            refine lv_aload_n hx hb dX1_readOrder_135 rfl (lv_at hl 1 rfl) ?_
            refine lv_aload_n hx hb dX1_readOrder_136 rfl (lv_at hl 1 rfl) ?_
            refine va_get (D := D) (ci := 1) (v := .int t_at_14) (C := RX1) (T := TX1) (N := 8) hx hb hts inX1 hown hK hP 0 rfl rfl 2 (by decide) (hts _ q_185) (fun _ h9 => h9) rfl dX1_readOrder_137 ?_
            obtain ⟨r_19, hF_20, hF⟩ := ob1_some hF
            refine kcV (q := (RX1, TX1, 8)) (ci := 1) (q0 := 0) (As := [.int t_at_14]) (rest := []) (wr := []) (wsN := (w_X1_readOrder cy A_t A_t_bytes t_length t_at_14 t_error_15 r_2 t_positive t_negative t_play_16 t_bytes)) ⟨hx, hb, hml, hown, hts⟩ hE hP hD hS hA hAs [0, 1] [] [0, 1] (c_X1_byteAt l D cy s0 tW N A_t A_t_bytes t_at_14 t_length t_at_14 t_error_15 r_2 t_positive t_negative t_play_16 t_bytes _ hF_20) (gV q_395 q_397 q_22 q_87 q_398) hd_X1_byteAt ⟨Nat.le_of_ble_eq_true rfl, Nat.le_of_ble_eq_true rfl⟩ rfl rfl rfl rfl rfl rfl rfl rfl rfl hl.1 rfl (Nat.le_of_ble_eq_true rfl) dX1_readOrder_140 ⟨Nat.zero_le _, Nat.zero_le _⟩ (fun H locs hP hD hS => ?_)
            refine W.eq (g2 := F0 m 143 ls [.int r_19]) rfl ?_
            refine lv_bipush (v := 59) hx hb dX1_readOrder_143 (by decide) ?_
            refine lv_icmp_eq (tgt := 157) hx hb dX1_readOrder_145 (by decide) (fun c_21 => ?_) (fun c_21 => ?_)
            · replace hF := ite_t c_21 hF
              refine lv_aload_n hx hb dX1_readOrder_157 rfl (lv_at hl 1 rfl) ?_
              refine lv_dup hx hb dX1_readOrder_158 rfl ?_
              refine va_get (D := D) (ci := 1) (v := .int t_at_14) (C := RX1) (T := TX1) (N := 8) hx hb hts inX1 hown hK hP 0 rfl rfl 2 (by decide) (hts _ q_185) (fun _ h9 => h9) rfl dX1_readOrder_159 ?_
              refine lv_iconst (v := 1) hx hb dX1_readOrder_162 (by decide) ?_
              refine lv_iadd hx hb dX1_readOrder_163 ?_
              refine ka_put (ci := 1) (v := .int (t_at_14 + 1)) (ty := .int) (C := RX1) (T := TX1) (N := 8) (wsN := (w_X1_readOrder cy A_t A_t_bytes t_length (t_at_14 + 1) t_error_15 r_2 t_positive t_negative t_play_16 t_bytes)) hx hb hts inX1 tyX1 tyX1_ok nmX1 hown hK hP hD hS 0 rfl rfl 2 (by decide) (hts _ q_185) (fun _ h9 => h9) rfl (by decide +kernel) rfl rfl (Nat.le_of_ble_eq_true rfl) rfl dX1_readOrder_164 (fun H locs hP hD hS => ?_)
              refine lv_iconst (v := 1) hx hb dX1_readOrder_167 (by decide) ?_
              cases hF
              exact kret_z hx hb hr hlocks hP hD hS dX1_readOrder_168
            · replace hF := ite_f c_21 hF
              refine lv_aload_n hx hb dX1_readOrder_148 rfl (lv_at hl 1 rfl) ?_
              refine lv_aload_n hx hb dX1_readOrder_149 rfl (lv_at hl 1 rfl) ?_
              refine va_get (D := D) (ci := 1) (v := .int t_at_14) (C := RX1) (T := TX1) (N := 8) hx hb hts inX1 hown hK hP 0 rfl rfl 2 (by decide) (hts _ q_185) (fun _ h9 => h9) rfl dX1_readOrder_150 ?_
              obtain ⟨r_22, t_error_23, hF_24, hF⟩ := ob2_some hF
              refine kcV (q := (RX1, TX1, 8)) (ci := 1) (q0 := 0) (As := [.int t_at_14]) (rest := []) (wr := [(A_t_bytes, .inl (cy 0, 100, .inl t_bytes))]) (wsN := (w_X1_readOrder cy A_t A_t_bytes t_length t_at_14 t_error_23 r_2 t_positive t_negative t_play_16 t_bytes)) ⟨hx, hb, hml, hown, hts⟩ hE hP hD hS hA hAs [0] [1] [1, 0] (c_X1_fail l D cy s0 tW N A_t A_t_bytes t_at_14 t_length t_at_14 t_error_15 r_2 t_positive t_negative t_play_16 _ hF_24) (gV q_400 q_402 q_23 q_87 q_403) hd_X1_fail ⟨Nat.le_of_ble_eq_true rfl, Nat.le_of_ble_eq_true rfl⟩ rfl rfl rfl rfl rfl rfl rfl rfl rfl hl.1 rfl (Nat.le_of_ble_eq_true rfl) dX1_readOrder_153 ⟨Nat.zero_le _, Nat.zero_le _⟩ (fun H locs hP hD hS => ?_)
              refine W.eq (g2 := F0 m 156 ls [.int (bI r_22)]) rfl ?_
              cases hF
              exact kret_z hx hb hr hlocks hP hD hS dX1_readOrder_156
          · replace hF := ite_f (bI_f c_18) hF
            refine lv_iconst (v := 0) hx hb dX1_readOrder_133 (by decide) ?_
            cases hF
            exact kret_z hx hb hr hlocks hP hD hS dX1_readOrder_134
      · replace hF := ite_t c_5 hF
        refine lv_aload_n hx hb dX1_readOrder_108 rfl (lv_at hl 1 rfl) ?_
        obtain ⟨r_25, t_at_26, t_error_27, t_positive_28, t_negative_29, hF_30, hF⟩ := ob5_some hF
        refine kcV (q := (RX1, TX1, 8)) (ci := 1) (q0 := 0) (As := []) (rest := []) (wr := []) (wsN := (w_X1_readOrder cy A_t A_t_bytes t_length t_at_26 t_error_27 r_2 t_positive_28 t_negative_29 t_play t_bytes)) ⟨hx, hb, hml, hown, hts⟩ hE hP hD hS hA hAs [0, 1] [] [0, 1] (c_X1_readLiterals l D cy s0 tW N A_t A_t_bytes t_length (t_at + 1) t_error r_2 t_positive t_negative t_play t_bytes _ hF_30) (gV q_404 q_406 q_24 q_87 q_407) hd_X1_readLiterals ⟨Nat.le_of_ble_eq_true rfl, Nat.le_of_ble_eq_true rfl⟩ rfl rfl rfl rfl rfl rfl rfl rfl rfl hl.1 rfl (Nat.le_of_ble_eq_true rfl) dX1_readOrder_109 ⟨Nat.zero_le _, Nat.zero_le _⟩ (fun H locs hP hD hS => ?_)
        refine W.eq (g2 := F0 m 112 ls [.int (bI r_25)]) rfl ?_
        refine lv_if_ne (tgt := 117) hx hb dX1_readOrder_112 (by decide) (fun c_31 => ?_) (fun c_31 => ?_)
        · replace hF := ite_t (bI_t c_31) hF
          refine lv_aload_n hx hb dX1_readOrder_117 rfl (lv_at hl 1 rfl) ?_
          refine va_get (D := D) (ci := 1) (v := .int r_2) (C := RX1) (T := TX1) (N := 8) hx hb hts inX1 hown hK hP 0 rfl rfl 4 (by decide) (hts _ q_187) (fun _ h9 => h9) rfl dX1_readOrder_118 ?_
          refine lv_bipush (v := 108) hx hb dX1_readOrder_121 (by decide) ?_
          refine lv_icmp_ne (tgt := 135) hx hb dX1_readOrder_123 (by decide) (fun c_32 => ?_) (fun c_32 => ?_)
          · replace hF := ite_f c_32 hF
            refine lv_aload_n hx hb dX1_readOrder_135 rfl (lv_at hl 1 rfl) ?_
            refine lv_aload_n hx hb dX1_readOrder_136 rfl (lv_at hl 1 rfl) ?_
            refine va_get (D := D) (ci := 1) (v := .int t_at_26) (C := RX1) (T := TX1) (N := 8) hx hb hts inX1 hown hK hP 0 rfl rfl 2 (by decide) (hts _ q_185) (fun _ h9 => h9) rfl dX1_readOrder_137 ?_
            obtain ⟨r_33, hF_34, hF⟩ := ob1_some hF
            refine kcV (q := (RX1, TX1, 8)) (ci := 1) (q0 := 0) (As := [.int t_at_26]) (rest := []) (wr := []) (wsN := (w_X1_readOrder cy A_t A_t_bytes t_length t_at_26 t_error_27 r_2 t_positive_28 t_negative_29 t_play t_bytes)) ⟨hx, hb, hml, hown, hts⟩ hE hP hD hS hA hAs [0, 1] [] [0, 1] (c_X1_byteAt l D cy s0 tW N A_t A_t_bytes t_at_26 t_length t_at_26 t_error_27 r_2 t_positive_28 t_negative_29 t_play t_bytes _ hF_34) (gV q_395 q_397 q_22 q_87 q_398) hd_X1_byteAt ⟨Nat.le_of_ble_eq_true rfl, Nat.le_of_ble_eq_true rfl⟩ rfl rfl rfl rfl rfl rfl rfl rfl rfl hl.1 rfl (Nat.le_of_ble_eq_true rfl) dX1_readOrder_140 ⟨Nat.zero_le _, Nat.zero_le _⟩ (fun H locs hP hD hS => ?_)
            refine W.eq (g2 := F0 m 143 ls [.int r_33]) rfl ?_
            refine lv_bipush (v := 59) hx hb dX1_readOrder_143 (by decide) ?_
            refine lv_icmp_eq (tgt := 157) hx hb dX1_readOrder_145 (by decide) (fun c_35 => ?_) (fun c_35 => ?_)
            · replace hF := ite_t c_35 hF
              refine lv_aload_n hx hb dX1_readOrder_157 rfl (lv_at hl 1 rfl) ?_
              refine lv_dup hx hb dX1_readOrder_158 rfl ?_
              refine va_get (D := D) (ci := 1) (v := .int t_at_26) (C := RX1) (T := TX1) (N := 8) hx hb hts inX1 hown hK hP 0 rfl rfl 2 (by decide) (hts _ q_185) (fun _ h9 => h9) rfl dX1_readOrder_159 ?_
              refine lv_iconst (v := 1) hx hb dX1_readOrder_162 (by decide) ?_
              refine lv_iadd hx hb dX1_readOrder_163 ?_
              refine ka_put (ci := 1) (v := .int (t_at_26 + 1)) (ty := .int) (C := RX1) (T := TX1) (N := 8) (wsN := (w_X1_readOrder cy A_t A_t_bytes t_length (t_at_26 + 1) t_error_27 r_2 t_positive_28 t_negative_29 t_play t_bytes)) hx hb hts inX1 tyX1 tyX1_ok nmX1 hown hK hP hD hS 0 rfl rfl 2 (by decide) (hts _ q_185) (fun _ h9 => h9) rfl (by decide +kernel) rfl rfl (Nat.le_of_ble_eq_true rfl) rfl dX1_readOrder_164 (fun H locs hP hD hS => ?_)
              refine lv_iconst (v := 1) hx hb dX1_readOrder_167 (by decide) ?_
              cases hF
              exact kret_z hx hb hr hlocks hP hD hS dX1_readOrder_168
            · replace hF := ite_f c_35 hF
              refine lv_aload_n hx hb dX1_readOrder_148 rfl (lv_at hl 1 rfl) ?_
              refine lv_aload_n hx hb dX1_readOrder_149 rfl (lv_at hl 1 rfl) ?_
              refine va_get (D := D) (ci := 1) (v := .int t_at_26) (C := RX1) (T := TX1) (N := 8) hx hb hts inX1 hown hK hP 0 rfl rfl 2 (by decide) (hts _ q_185) (fun _ h9 => h9) rfl dX1_readOrder_150 ?_
              obtain ⟨r_36, t_error_37, hF_38, hF⟩ := ob2_some hF
              refine kcV (q := (RX1, TX1, 8)) (ci := 1) (q0 := 0) (As := [.int t_at_26]) (rest := []) (wr := [(A_t_bytes, .inl (cy 0, 100, .inl t_bytes))]) (wsN := (w_X1_readOrder cy A_t A_t_bytes t_length t_at_26 t_error_37 r_2 t_positive_28 t_negative_29 t_play t_bytes)) ⟨hx, hb, hml, hown, hts⟩ hE hP hD hS hA hAs [0] [1] [1, 0] (c_X1_fail l D cy s0 tW N A_t A_t_bytes t_at_26 t_length t_at_26 t_error_27 r_2 t_positive_28 t_negative_29 t_play _ hF_38) (gV q_400 q_402 q_23 q_87 q_403) hd_X1_fail ⟨Nat.le_of_ble_eq_true rfl, Nat.le_of_ble_eq_true rfl⟩ rfl rfl rfl rfl rfl rfl rfl rfl rfl hl.1 rfl (Nat.le_of_ble_eq_true rfl) dX1_readOrder_153 ⟨Nat.zero_le _, Nat.zero_le _⟩ (fun H locs hP hD hS => ?_)
              refine W.eq (g2 := F0 m 156 ls [.int (bI r_36)]) rfl ?_
              cases hF
              exact kret_z hx hb hr hlocks hP hD hS dX1_readOrder_156
          · replace hF := ite_t c_32 hF
            refine lv_aload_n hx hb dX1_readOrder_126 rfl (lv_at hl 1 rfl) ?_
            obtain ⟨r_39, t_at_40, t_error_41, t_play_42, hF_43, hF⟩ := ob4_some hF
            refine kcV (q := (RX1, TX1, 8)) (ci := 1) (q0 := 0) (As := []) (rest := []) (wr := []) (wsN := (w_X1_readOrder cy A_t A_t_bytes t_length t_at_40 t_error_41 r_2 t_positive_28 t_negative_29 t_play_42 t_bytes)) ⟨hx, hb, hml, hown, hts⟩ hE hP hD hS hA hAs [0, 1] [] [0, 1] (c_X1_readPlay l D cy s0 tW N A_t A_t_bytes t_length t_at_26 t_error_27 r_2 t_positive_28 t_negative_29 t_play t_bytes _ hF_43) (gV q_408 q_410 q_25 q_87 q_411) hd_X1_readPlay ⟨Nat.le_of_ble_eq_true rfl, Nat.le_of_ble_eq_true rfl⟩ rfl rfl rfl rfl rfl rfl rfl rfl rfl hl.1 rfl (Nat.le_of_ble_eq_true rfl) dX1_readOrder_127 ⟨Nat.zero_le _, Nat.zero_le _⟩ (fun H locs hP hD hS => ?_)
            refine W.eq (g2 := F0 m 130 ls [.int (bI r_39)]) rfl ?_
            refine lv_if_ne (tgt := 135) hx hb dX1_readOrder_130 (by decide) (fun c_44 => ?_) (fun c_44 => ?_)
            · replace hF := ite_t (bI_t c_44) hF
              refine lv_aload_n hx hb dX1_readOrder_135 rfl (lv_at hl 1 rfl) ?_
              refine lv_aload_n hx hb dX1_readOrder_136 rfl (lv_at hl 1 rfl) ?_
              refine va_get (D := D) (ci := 1) (v := .int t_at_40) (C := RX1) (T := TX1) (N := 8) hx hb hts inX1 hown hK hP 0 rfl rfl 2 (by decide) (hts _ q_185) (fun _ h9 => h9) rfl dX1_readOrder_137 ?_
              obtain ⟨r_45, hF_46, hF⟩ := ob1_some hF
              refine kcV (q := (RX1, TX1, 8)) (ci := 1) (q0 := 0) (As := [.int t_at_40]) (rest := []) (wr := []) (wsN := (w_X1_readOrder cy A_t A_t_bytes t_length t_at_40 t_error_41 r_2 t_positive_28 t_negative_29 t_play_42 t_bytes)) ⟨hx, hb, hml, hown, hts⟩ hE hP hD hS hA hAs [0, 1] [] [0, 1] (c_X1_byteAt l D cy s0 tW N A_t A_t_bytes t_at_40 t_length t_at_40 t_error_41 r_2 t_positive_28 t_negative_29 t_play_42 t_bytes _ hF_46) (gV q_395 q_397 q_22 q_87 q_398) hd_X1_byteAt ⟨Nat.le_of_ble_eq_true rfl, Nat.le_of_ble_eq_true rfl⟩ rfl rfl rfl rfl rfl rfl rfl rfl rfl hl.1 rfl (Nat.le_of_ble_eq_true rfl) dX1_readOrder_140 ⟨Nat.zero_le _, Nat.zero_le _⟩ (fun H locs hP hD hS => ?_)
              refine W.eq (g2 := F0 m 143 ls [.int r_45]) rfl ?_
              refine lv_bipush (v := 59) hx hb dX1_readOrder_143 (by decide) ?_
              refine lv_icmp_eq (tgt := 157) hx hb dX1_readOrder_145 (by decide) (fun c_47 => ?_) (fun c_47 => ?_)
              · replace hF := ite_t c_47 hF
                refine lv_aload_n hx hb dX1_readOrder_157 rfl (lv_at hl 1 rfl) ?_
                refine lv_dup hx hb dX1_readOrder_158 rfl ?_
                refine va_get (D := D) (ci := 1) (v := .int t_at_40) (C := RX1) (T := TX1) (N := 8) hx hb hts inX1 hown hK hP 0 rfl rfl 2 (by decide) (hts _ q_185) (fun _ h9 => h9) rfl dX1_readOrder_159 ?_
                refine lv_iconst (v := 1) hx hb dX1_readOrder_162 (by decide) ?_
                refine lv_iadd hx hb dX1_readOrder_163 ?_
                refine ka_put (ci := 1) (v := .int (t_at_40 + 1)) (ty := .int) (C := RX1) (T := TX1) (N := 8) (wsN := (w_X1_readOrder cy A_t A_t_bytes t_length (t_at_40 + 1) t_error_41 r_2 t_positive_28 t_negative_29 t_play_42 t_bytes)) hx hb hts inX1 tyX1 tyX1_ok nmX1 hown hK hP hD hS 0 rfl rfl 2 (by decide) (hts _ q_185) (fun _ h9 => h9) rfl (by decide +kernel) rfl rfl (Nat.le_of_ble_eq_true rfl) rfl dX1_readOrder_164 (fun H locs hP hD hS => ?_)
                refine lv_iconst (v := 1) hx hb dX1_readOrder_167 (by decide) ?_
                cases hF
                exact kret_z hx hb hr hlocks hP hD hS dX1_readOrder_168
              · replace hF := ite_f c_47 hF
                refine lv_aload_n hx hb dX1_readOrder_148 rfl (lv_at hl 1 rfl) ?_
                refine lv_aload_n hx hb dX1_readOrder_149 rfl (lv_at hl 1 rfl) ?_
                refine va_get (D := D) (ci := 1) (v := .int t_at_40) (C := RX1) (T := TX1) (N := 8) hx hb hts inX1 hown hK hP 0 rfl rfl 2 (by decide) (hts _ q_185) (fun _ h9 => h9) rfl dX1_readOrder_150 ?_
                obtain ⟨r_48, t_error_49, hF_50, hF⟩ := ob2_some hF
                refine kcV (q := (RX1, TX1, 8)) (ci := 1) (q0 := 0) (As := [.int t_at_40]) (rest := []) (wr := [(A_t_bytes, .inl (cy 0, 100, .inl t_bytes))]) (wsN := (w_X1_readOrder cy A_t A_t_bytes t_length t_at_40 t_error_49 r_2 t_positive_28 t_negative_29 t_play_42 t_bytes)) ⟨hx, hb, hml, hown, hts⟩ hE hP hD hS hA hAs [0] [1] [1, 0] (c_X1_fail l D cy s0 tW N A_t A_t_bytes t_at_40 t_length t_at_40 t_error_41 r_2 t_positive_28 t_negative_29 t_play_42 _ hF_50) (gV q_400 q_402 q_23 q_87 q_403) hd_X1_fail ⟨Nat.le_of_ble_eq_true rfl, Nat.le_of_ble_eq_true rfl⟩ rfl rfl rfl rfl rfl rfl rfl rfl rfl hl.1 rfl (Nat.le_of_ble_eq_true rfl) dX1_readOrder_153 ⟨Nat.zero_le _, Nat.zero_le _⟩ (fun H locs hP hD hS => ?_)
                refine W.eq (g2 := F0 m 156 ls [.int (bI r_48)]) rfl ?_
                cases hF
                exact kret_z hx hb hr hlocks hP hD hS dX1_readOrder_156
            · replace hF := ite_f (bI_f c_44) hF
              refine lv_iconst (v := 0) hx hb dX1_readOrder_133 (by decide) ?_
              cases hF
              exact kret_z hx hb hr hlocks hP hD hS dX1_readOrder_134
        · replace hF := ite_f (bI_f c_31) hF
          refine lv_iconst (v := 0) hx hb dX1_readOrder_115 (by decide) ?_
          cases hF
          exact kret_z hx hb hr hlocks hP hD hS dX1_readOrder_116
    · replace hF := ite_f c_4 hF
      refine lv_aload_n hx hb dX1_readOrder_34 rfl (lv_at hl 0 rfl) ?_
      refine va_get (D := D) (ci := 1) (v := .int r_2) (C := RX1) (T := TX1) (N := 8) hx hb hts inX1 hown hK hP 0 rfl rfl 4 (by decide) (hts _ q_187) (fun _ h9 => h9) rfl dX1_readOrder_35 ?_
      refine lv_bipush (v := 117) hx hb dX1_readOrder_38 (by decide) ?_
      refine lv_icmp_eq (tgt := 70) hx hb dX1_readOrder_40 (by decide) (fun c_51 => ?_) (fun c_51 => ?_)
      · replace hF := ite_t c_51 hF
        refine lv_iconst (v := 1) hx hb dX1_readOrder_70 (by decide) ?_
        refine lv_goto (tgt := 75) hx hb dX1_readOrder_71 (by decide) ?_
        refine lv_istore_n (lv' := [(1, .int 1), (0, .ref A_t)]) hx hb dX1_readOrder_75 rfl hl (by decide) rfl (fun ls hl => ?_)
        refine lv_iload_n hx hb dX1_readOrder_76 rfl (lv_at hl 0 rfl) ?_
        refine lv_if_ne (tgt := 89) hx hb dX1_readOrder_77 (by decide) (fun _ => ?_) (fun h0 => absurd h0 (by decide))
        refine lv_aload_n hx hb dX1_readOrder_89 rfl (lv_at hl 1 rfl) ?_
        refine lv_dup hx hb dX1_readOrder_90 rfl ?_
        refine va_get (D := D) (ci := 1) (v := .int t_at) (C := RX1) (T := TX1) (N := 8) hx hb hts inX1 hown hK hP 0 rfl rfl 2 (by decide) (hts _ q_185) (fun _ h9 => h9) rfl dX1_readOrder_91 ?_
        refine lv_iconst (v := 1) hx hb dX1_readOrder_94 (by decide) ?_
        refine lv_iadd hx hb dX1_readOrder_95 ?_
        refine ka_put (ci := 1) (v := .int (t_at + 1)) (ty := .int) (C := RX1) (T := TX1) (N := 8) (wsN := (w_X1_readOrder cy A_t A_t_bytes t_length (t_at + 1) t_error r_2 t_positive t_negative t_play t_bytes)) hx hb hts inX1 tyX1 tyX1_ok nmX1 hown hK hP hD hS 0 rfl rfl 2 (by decide) (hts _ q_185) (fun _ h9 => h9) rfl (by decide +kernel) rfl rfl (Nat.le_of_ble_eq_true rfl) rfl dX1_readOrder_96 (fun H locs hP hD hS => ?_)
        refine lv_aload_n hx hb dX1_readOrder_99 rfl (lv_at hl 1 rfl) ?_
        refine va_get (D := D) (ci := 1) (v := .int r_2) (C := RX1) (T := TX1) (N := 8) hx hb hts inX1 hown hK hP 0 rfl rfl 4 (by decide) (hts _ q_187) (fun _ h9 => h9) rfl dX1_readOrder_100 ?_
        refine lv_bipush (v := 99) hx hb dX1_readOrder_103 (by decide) ?_
        refine lv_icmp_ne (tgt := 117) hx hb dX1_readOrder_105 (by decide) (fun c_52 => ?_) (fun c_52 => ?_)
        · replace hF := ite_f c_52 hF
          refine lv_aload_n hx hb dX1_readOrder_117 rfl (lv_at hl 1 rfl) ?_
          refine va_get (D := D) (ci := 1) (v := .int r_2) (C := RX1) (T := TX1) (N := 8) hx hb hts inX1 hown hK hP 0 rfl rfl 4 (by decide) (hts _ q_187) (fun _ h9 => h9) rfl dX1_readOrder_118 ?_
          refine lv_bipush (v := 108) hx hb dX1_readOrder_121 (by decide) ?_
          refine lv_icmp_ne (tgt := 135) hx hb dX1_readOrder_123 (by decide) (fun c_53 => ?_) (fun c_53 => ?_)
          · replace hF := ite_f c_53 hF
            refine lv_aload_n hx hb dX1_readOrder_135 rfl (lv_at hl 1 rfl) ?_
            refine lv_aload_n hx hb dX1_readOrder_136 rfl (lv_at hl 1 rfl) ?_
            refine va_get (D := D) (ci := 1) (v := .int (t_at + 1)) (C := RX1) (T := TX1) (N := 8) hx hb hts inX1 hown hK hP 0 rfl rfl 2 (by decide) (hts _ q_185) (fun _ h9 => h9) rfl dX1_readOrder_137 ?_
            obtain ⟨r_54, hF_55, hF⟩ := ob1_some hF
            refine kcV (q := (RX1, TX1, 8)) (ci := 1) (q0 := 0) (As := [.int (t_at + 1)]) (rest := []) (wr := []) (wsN := (w_X1_readOrder cy A_t A_t_bytes t_length (t_at + 1) t_error r_2 t_positive t_negative t_play t_bytes)) ⟨hx, hb, hml, hown, hts⟩ hE hP hD hS hA hAs [0, 1] [] [0, 1] (c_X1_byteAt l D cy s0 tW N A_t A_t_bytes (t_at + 1) t_length (t_at + 1) t_error r_2 t_positive t_negative t_play t_bytes _ hF_55) (gV q_395 q_397 q_22 q_87 q_398) hd_X1_byteAt ⟨Nat.le_of_ble_eq_true rfl, Nat.le_of_ble_eq_true rfl⟩ rfl rfl rfl rfl rfl rfl rfl rfl rfl hl.1 rfl (Nat.le_of_ble_eq_true rfl) dX1_readOrder_140 ⟨Nat.zero_le _, Nat.zero_le _⟩ (fun H locs hP hD hS => ?_)
            refine W.eq (g2 := F0 m 143 ls [.int r_54]) rfl ?_
            refine lv_bipush (v := 59) hx hb dX1_readOrder_143 (by decide) ?_
            refine lv_icmp_eq (tgt := 157) hx hb dX1_readOrder_145 (by decide) (fun c_56 => ?_) (fun c_56 => ?_)
            · replace hF := ite_t c_56 hF
              refine lv_aload_n hx hb dX1_readOrder_157 rfl (lv_at hl 1 rfl) ?_
              refine lv_dup hx hb dX1_readOrder_158 rfl ?_
              refine va_get (D := D) (ci := 1) (v := .int (t_at + 1)) (C := RX1) (T := TX1) (N := 8) hx hb hts inX1 hown hK hP 0 rfl rfl 2 (by decide) (hts _ q_185) (fun _ h9 => h9) rfl dX1_readOrder_159 ?_
              refine lv_iconst (v := 1) hx hb dX1_readOrder_162 (by decide) ?_
              refine lv_iadd hx hb dX1_readOrder_163 ?_
              refine ka_put (ci := 1) (v := .int ((t_at + 1) + 1)) (ty := .int) (C := RX1) (T := TX1) (N := 8) (wsN := (w_X1_readOrder cy A_t A_t_bytes t_length ((t_at + 1) + 1) t_error r_2 t_positive t_negative t_play t_bytes)) hx hb hts inX1 tyX1 tyX1_ok nmX1 hown hK hP hD hS 0 rfl rfl 2 (by decide) (hts _ q_185) (fun _ h9 => h9) rfl (by decide +kernel) rfl rfl (Nat.le_of_ble_eq_true rfl) rfl dX1_readOrder_164 (fun H locs hP hD hS => ?_)
              refine lv_iconst (v := 1) hx hb dX1_readOrder_167 (by decide) ?_
              cases hF
              exact kret_z hx hb hr hlocks hP hD hS dX1_readOrder_168
            · replace hF := ite_f c_56 hF
              refine lv_aload_n hx hb dX1_readOrder_148 rfl (lv_at hl 1 rfl) ?_
              refine lv_aload_n hx hb dX1_readOrder_149 rfl (lv_at hl 1 rfl) ?_
              refine va_get (D := D) (ci := 1) (v := .int (t_at + 1)) (C := RX1) (T := TX1) (N := 8) hx hb hts inX1 hown hK hP 0 rfl rfl 2 (by decide) (hts _ q_185) (fun _ h9 => h9) rfl dX1_readOrder_150 ?_
              obtain ⟨r_57, t_error_58, hF_59, hF⟩ := ob2_some hF
              refine kcV (q := (RX1, TX1, 8)) (ci := 1) (q0 := 0) (As := [.int (t_at + 1)]) (rest := []) (wr := [(A_t_bytes, .inl (cy 0, 100, .inl t_bytes))]) (wsN := (w_X1_readOrder cy A_t A_t_bytes t_length (t_at + 1) t_error_58 r_2 t_positive t_negative t_play t_bytes)) ⟨hx, hb, hml, hown, hts⟩ hE hP hD hS hA hAs [0] [1] [1, 0] (c_X1_fail l D cy s0 tW N A_t A_t_bytes (t_at + 1) t_length (t_at + 1) t_error r_2 t_positive t_negative t_play _ hF_59) (gV q_400 q_402 q_23 q_87 q_403) hd_X1_fail ⟨Nat.le_of_ble_eq_true rfl, Nat.le_of_ble_eq_true rfl⟩ rfl rfl rfl rfl rfl rfl rfl rfl rfl hl.1 rfl (Nat.le_of_ble_eq_true rfl) dX1_readOrder_153 ⟨Nat.zero_le _, Nat.zero_le _⟩ (fun H locs hP hD hS => ?_)
              refine W.eq (g2 := F0 m 156 ls [.int (bI r_57)]) rfl ?_
              cases hF
              exact kret_z hx hb hr hlocks hP hD hS dX1_readOrder_156
          · replace hF := ite_t c_53 hF
            refine lv_aload_n hx hb dX1_readOrder_126 rfl (lv_at hl 1 rfl) ?_
            obtain ⟨r_60, t_at_61, t_error_62, t_play_63, hF_64, hF⟩ := ob4_some hF
            refine kcV (q := (RX1, TX1, 8)) (ci := 1) (q0 := 0) (As := []) (rest := []) (wr := []) (wsN := (w_X1_readOrder cy A_t A_t_bytes t_length t_at_61 t_error_62 r_2 t_positive t_negative t_play_63 t_bytes)) ⟨hx, hb, hml, hown, hts⟩ hE hP hD hS hA hAs [0, 1] [] [0, 1] (c_X1_readPlay l D cy s0 tW N A_t A_t_bytes t_length (t_at + 1) t_error r_2 t_positive t_negative t_play t_bytes _ hF_64) (gV q_408 q_410 q_25 q_87 q_411) hd_X1_readPlay ⟨Nat.le_of_ble_eq_true rfl, Nat.le_of_ble_eq_true rfl⟩ rfl rfl rfl rfl rfl rfl rfl rfl rfl hl.1 rfl (Nat.le_of_ble_eq_true rfl) dX1_readOrder_127 ⟨Nat.zero_le _, Nat.zero_le _⟩ (fun H locs hP hD hS => ?_)
            refine W.eq (g2 := F0 m 130 ls [.int (bI r_60)]) rfl ?_
            refine lv_if_ne (tgt := 135) hx hb dX1_readOrder_130 (by decide) (fun c_65 => ?_) (fun c_65 => ?_)
            · replace hF := ite_t (bI_t c_65) hF
              refine lv_aload_n hx hb dX1_readOrder_135 rfl (lv_at hl 1 rfl) ?_
              refine lv_aload_n hx hb dX1_readOrder_136 rfl (lv_at hl 1 rfl) ?_
              refine va_get (D := D) (ci := 1) (v := .int t_at_61) (C := RX1) (T := TX1) (N := 8) hx hb hts inX1 hown hK hP 0 rfl rfl 2 (by decide) (hts _ q_185) (fun _ h9 => h9) rfl dX1_readOrder_137 ?_
              obtain ⟨r_66, hF_67, hF⟩ := ob1_some hF
              refine kcV (q := (RX1, TX1, 8)) (ci := 1) (q0 := 0) (As := [.int t_at_61]) (rest := []) (wr := []) (wsN := (w_X1_readOrder cy A_t A_t_bytes t_length t_at_61 t_error_62 r_2 t_positive t_negative t_play_63 t_bytes)) ⟨hx, hb, hml, hown, hts⟩ hE hP hD hS hA hAs [0, 1] [] [0, 1] (c_X1_byteAt l D cy s0 tW N A_t A_t_bytes t_at_61 t_length t_at_61 t_error_62 r_2 t_positive t_negative t_play_63 t_bytes _ hF_67) (gV q_395 q_397 q_22 q_87 q_398) hd_X1_byteAt ⟨Nat.le_of_ble_eq_true rfl, Nat.le_of_ble_eq_true rfl⟩ rfl rfl rfl rfl rfl rfl rfl rfl rfl hl.1 rfl (Nat.le_of_ble_eq_true rfl) dX1_readOrder_140 ⟨Nat.zero_le _, Nat.zero_le _⟩ (fun H locs hP hD hS => ?_)
              refine W.eq (g2 := F0 m 143 ls [.int r_66]) rfl ?_
              refine lv_bipush (v := 59) hx hb dX1_readOrder_143 (by decide) ?_
              refine lv_icmp_eq (tgt := 157) hx hb dX1_readOrder_145 (by decide) (fun c_68 => ?_) (fun c_68 => ?_)
              · replace hF := ite_t c_68 hF
                refine lv_aload_n hx hb dX1_readOrder_157 rfl (lv_at hl 1 rfl) ?_
                refine lv_dup hx hb dX1_readOrder_158 rfl ?_
                refine va_get (D := D) (ci := 1) (v := .int t_at_61) (C := RX1) (T := TX1) (N := 8) hx hb hts inX1 hown hK hP 0 rfl rfl 2 (by decide) (hts _ q_185) (fun _ h9 => h9) rfl dX1_readOrder_159 ?_
                refine lv_iconst (v := 1) hx hb dX1_readOrder_162 (by decide) ?_
                refine lv_iadd hx hb dX1_readOrder_163 ?_
                refine ka_put (ci := 1) (v := .int (t_at_61 + 1)) (ty := .int) (C := RX1) (T := TX1) (N := 8) (wsN := (w_X1_readOrder cy A_t A_t_bytes t_length (t_at_61 + 1) t_error_62 r_2 t_positive t_negative t_play_63 t_bytes)) hx hb hts inX1 tyX1 tyX1_ok nmX1 hown hK hP hD hS 0 rfl rfl 2 (by decide) (hts _ q_185) (fun _ h9 => h9) rfl (by decide +kernel) rfl rfl (Nat.le_of_ble_eq_true rfl) rfl dX1_readOrder_164 (fun H locs hP hD hS => ?_)
                refine lv_iconst (v := 1) hx hb dX1_readOrder_167 (by decide) ?_
                cases hF
                exact kret_z hx hb hr hlocks hP hD hS dX1_readOrder_168
              · replace hF := ite_f c_68 hF
                refine lv_aload_n hx hb dX1_readOrder_148 rfl (lv_at hl 1 rfl) ?_
                refine lv_aload_n hx hb dX1_readOrder_149 rfl (lv_at hl 1 rfl) ?_
                refine va_get (D := D) (ci := 1) (v := .int t_at_61) (C := RX1) (T := TX1) (N := 8) hx hb hts inX1 hown hK hP 0 rfl rfl 2 (by decide) (hts _ q_185) (fun _ h9 => h9) rfl dX1_readOrder_150 ?_
                obtain ⟨r_69, t_error_70, hF_71, hF⟩ := ob2_some hF
                refine kcV (q := (RX1, TX1, 8)) (ci := 1) (q0 := 0) (As := [.int t_at_61]) (rest := []) (wr := [(A_t_bytes, .inl (cy 0, 100, .inl t_bytes))]) (wsN := (w_X1_readOrder cy A_t A_t_bytes t_length t_at_61 t_error_70 r_2 t_positive t_negative t_play_63 t_bytes)) ⟨hx, hb, hml, hown, hts⟩ hE hP hD hS hA hAs [0] [1] [1, 0] (c_X1_fail l D cy s0 tW N A_t A_t_bytes t_at_61 t_length t_at_61 t_error_62 r_2 t_positive t_negative t_play_63 _ hF_71) (gV q_400 q_402 q_23 q_87 q_403) hd_X1_fail ⟨Nat.le_of_ble_eq_true rfl, Nat.le_of_ble_eq_true rfl⟩ rfl rfl rfl rfl rfl rfl rfl rfl rfl hl.1 rfl (Nat.le_of_ble_eq_true rfl) dX1_readOrder_153 ⟨Nat.zero_le _, Nat.zero_le _⟩ (fun H locs hP hD hS => ?_)
                refine W.eq (g2 := F0 m 156 ls [.int (bI r_69)]) rfl ?_
                cases hF
                exact kret_z hx hb hr hlocks hP hD hS dX1_readOrder_156
            · replace hF := ite_f (bI_f c_65) hF
              refine lv_iconst (v := 0) hx hb dX1_readOrder_133 (by decide) ?_
              cases hF
              exact kret_z hx hb hr hlocks hP hD hS dX1_readOrder_134
        · replace hF := ite_t c_52 hF
          refine lv_aload_n hx hb dX1_readOrder_108 rfl (lv_at hl 1 rfl) ?_
          obtain ⟨r_72, t_at_73, t_error_74, t_positive_75, t_negative_76, hF_77, hF⟩ := ob5_some hF
          refine kcV (q := (RX1, TX1, 8)) (ci := 1) (q0 := 0) (As := []) (rest := []) (wr := []) (wsN := (w_X1_readOrder cy A_t A_t_bytes t_length t_at_73 t_error_74 r_2 t_positive_75 t_negative_76 t_play t_bytes)) ⟨hx, hb, hml, hown, hts⟩ hE hP hD hS hA hAs [0, 1] [] [0, 1] (c_X1_readLiterals l D cy s0 tW N A_t A_t_bytes t_length (t_at + 1) t_error r_2 t_positive t_negative t_play t_bytes _ hF_77) (gV q_404 q_406 q_24 q_87 q_407) hd_X1_readLiterals ⟨Nat.le_of_ble_eq_true rfl, Nat.le_of_ble_eq_true rfl⟩ rfl rfl rfl rfl rfl rfl rfl rfl rfl hl.1 rfl (Nat.le_of_ble_eq_true rfl) dX1_readOrder_109 ⟨Nat.zero_le _, Nat.zero_le _⟩ (fun H locs hP hD hS => ?_)
          refine W.eq (g2 := F0 m 112 ls [.int (bI r_72)]) rfl ?_
          refine lv_if_ne (tgt := 117) hx hb dX1_readOrder_112 (by decide) (fun c_78 => ?_) (fun c_78 => ?_)
          · replace hF := ite_t (bI_t c_78) hF
            refine lv_aload_n hx hb dX1_readOrder_117 rfl (lv_at hl 1 rfl) ?_
            refine va_get (D := D) (ci := 1) (v := .int r_2) (C := RX1) (T := TX1) (N := 8) hx hb hts inX1 hown hK hP 0 rfl rfl 4 (by decide) (hts _ q_187) (fun _ h9 => h9) rfl dX1_readOrder_118 ?_
            refine lv_bipush (v := 108) hx hb dX1_readOrder_121 (by decide) ?_
            refine lv_icmp_ne (tgt := 135) hx hb dX1_readOrder_123 (by decide) (fun c_79 => ?_) (fun c_79 => ?_)
            · replace hF := ite_f c_79 hF
              refine lv_aload_n hx hb dX1_readOrder_135 rfl (lv_at hl 1 rfl) ?_
              refine lv_aload_n hx hb dX1_readOrder_136 rfl (lv_at hl 1 rfl) ?_
              refine va_get (D := D) (ci := 1) (v := .int t_at_73) (C := RX1) (T := TX1) (N := 8) hx hb hts inX1 hown hK hP 0 rfl rfl 2 (by decide) (hts _ q_185) (fun _ h9 => h9) rfl dX1_readOrder_137 ?_
              obtain ⟨r_80, hF_81, hF⟩ := ob1_some hF
              refine kcV (q := (RX1, TX1, 8)) (ci := 1) (q0 := 0) (As := [.int t_at_73]) (rest := []) (wr := []) (wsN := (w_X1_readOrder cy A_t A_t_bytes t_length t_at_73 t_error_74 r_2 t_positive_75 t_negative_76 t_play t_bytes)) ⟨hx, hb, hml, hown, hts⟩ hE hP hD hS hA hAs [0, 1] [] [0, 1] (c_X1_byteAt l D cy s0 tW N A_t A_t_bytes t_at_73 t_length t_at_73 t_error_74 r_2 t_positive_75 t_negative_76 t_play t_bytes _ hF_81) (gV q_395 q_397 q_22 q_87 q_398) hd_X1_byteAt ⟨Nat.le_of_ble_eq_true rfl, Nat.le_of_ble_eq_true rfl⟩ rfl rfl rfl rfl rfl rfl rfl rfl rfl hl.1 rfl (Nat.le_of_ble_eq_true rfl) dX1_readOrder_140 ⟨Nat.zero_le _, Nat.zero_le _⟩ (fun H locs hP hD hS => ?_)
              refine W.eq (g2 := F0 m 143 ls [.int r_80]) rfl ?_
              refine lv_bipush (v := 59) hx hb dX1_readOrder_143 (by decide) ?_
              refine lv_icmp_eq (tgt := 157) hx hb dX1_readOrder_145 (by decide) (fun c_82 => ?_) (fun c_82 => ?_)
              · replace hF := ite_t c_82 hF
                refine lv_aload_n hx hb dX1_readOrder_157 rfl (lv_at hl 1 rfl) ?_
                refine lv_dup hx hb dX1_readOrder_158 rfl ?_
                refine va_get (D := D) (ci := 1) (v := .int t_at_73) (C := RX1) (T := TX1) (N := 8) hx hb hts inX1 hown hK hP 0 rfl rfl 2 (by decide) (hts _ q_185) (fun _ h9 => h9) rfl dX1_readOrder_159 ?_
                refine lv_iconst (v := 1) hx hb dX1_readOrder_162 (by decide) ?_
                refine lv_iadd hx hb dX1_readOrder_163 ?_
                refine ka_put (ci := 1) (v := .int (t_at_73 + 1)) (ty := .int) (C := RX1) (T := TX1) (N := 8) (wsN := (w_X1_readOrder cy A_t A_t_bytes t_length (t_at_73 + 1) t_error_74 r_2 t_positive_75 t_negative_76 t_play t_bytes)) hx hb hts inX1 tyX1 tyX1_ok nmX1 hown hK hP hD hS 0 rfl rfl 2 (by decide) (hts _ q_185) (fun _ h9 => h9) rfl (by decide +kernel) rfl rfl (Nat.le_of_ble_eq_true rfl) rfl dX1_readOrder_164 (fun H locs hP hD hS => ?_)
                refine lv_iconst (v := 1) hx hb dX1_readOrder_167 (by decide) ?_
                cases hF
                exact kret_z hx hb hr hlocks hP hD hS dX1_readOrder_168
              · replace hF := ite_f c_82 hF
                refine lv_aload_n hx hb dX1_readOrder_148 rfl (lv_at hl 1 rfl) ?_
                refine lv_aload_n hx hb dX1_readOrder_149 rfl (lv_at hl 1 rfl) ?_
                refine va_get (D := D) (ci := 1) (v := .int t_at_73) (C := RX1) (T := TX1) (N := 8) hx hb hts inX1 hown hK hP 0 rfl rfl 2 (by decide) (hts _ q_185) (fun _ h9 => h9) rfl dX1_readOrder_150 ?_
                obtain ⟨r_83, t_error_84, hF_85, hF⟩ := ob2_some hF
                refine kcV (q := (RX1, TX1, 8)) (ci := 1) (q0 := 0) (As := [.int t_at_73]) (rest := []) (wr := [(A_t_bytes, .inl (cy 0, 100, .inl t_bytes))]) (wsN := (w_X1_readOrder cy A_t A_t_bytes t_length t_at_73 t_error_84 r_2 t_positive_75 t_negative_76 t_play t_bytes)) ⟨hx, hb, hml, hown, hts⟩ hE hP hD hS hA hAs [0] [1] [1, 0] (c_X1_fail l D cy s0 tW N A_t A_t_bytes t_at_73 t_length t_at_73 t_error_74 r_2 t_positive_75 t_negative_76 t_play _ hF_85) (gV q_400 q_402 q_23 q_87 q_403) hd_X1_fail ⟨Nat.le_of_ble_eq_true rfl, Nat.le_of_ble_eq_true rfl⟩ rfl rfl rfl rfl rfl rfl rfl rfl rfl hl.1 rfl (Nat.le_of_ble_eq_true rfl) dX1_readOrder_153 ⟨Nat.zero_le _, Nat.zero_le _⟩ (fun H locs hP hD hS => ?_)
                refine W.eq (g2 := F0 m 156 ls [.int (bI r_83)]) rfl ?_
                cases hF
                exact kret_z hx hb hr hlocks hP hD hS dX1_readOrder_156
            · replace hF := ite_t c_79 hF
              refine lv_aload_n hx hb dX1_readOrder_126 rfl (lv_at hl 1 rfl) ?_
              obtain ⟨r_86, t_at_87, t_error_88, t_play_89, hF_90, hF⟩ := ob4_some hF
              refine kcV (q := (RX1, TX1, 8)) (ci := 1) (q0 := 0) (As := []) (rest := []) (wr := []) (wsN := (w_X1_readOrder cy A_t A_t_bytes t_length t_at_87 t_error_88 r_2 t_positive_75 t_negative_76 t_play_89 t_bytes)) ⟨hx, hb, hml, hown, hts⟩ hE hP hD hS hA hAs [0, 1] [] [0, 1] (c_X1_readPlay l D cy s0 tW N A_t A_t_bytes t_length t_at_73 t_error_74 r_2 t_positive_75 t_negative_76 t_play t_bytes _ hF_90) (gV q_408 q_410 q_25 q_87 q_411) hd_X1_readPlay ⟨Nat.le_of_ble_eq_true rfl, Nat.le_of_ble_eq_true rfl⟩ rfl rfl rfl rfl rfl rfl rfl rfl rfl hl.1 rfl (Nat.le_of_ble_eq_true rfl) dX1_readOrder_127 ⟨Nat.zero_le _, Nat.zero_le _⟩ (fun H locs hP hD hS => ?_)
              refine W.eq (g2 := F0 m 130 ls [.int (bI r_86)]) rfl ?_
              refine lv_if_ne (tgt := 135) hx hb dX1_readOrder_130 (by decide) (fun c_91 => ?_) (fun c_91 => ?_)
              · replace hF := ite_t (bI_t c_91) hF
                refine lv_aload_n hx hb dX1_readOrder_135 rfl (lv_at hl 1 rfl) ?_
                refine lv_aload_n hx hb dX1_readOrder_136 rfl (lv_at hl 1 rfl) ?_
                refine va_get (D := D) (ci := 1) (v := .int t_at_87) (C := RX1) (T := TX1) (N := 8) hx hb hts inX1 hown hK hP 0 rfl rfl 2 (by decide) (hts _ q_185) (fun _ h9 => h9) rfl dX1_readOrder_137 ?_
                obtain ⟨r_92, hF_93, hF⟩ := ob1_some hF
                refine kcV (q := (RX1, TX1, 8)) (ci := 1) (q0 := 0) (As := [.int t_at_87]) (rest := []) (wr := []) (wsN := (w_X1_readOrder cy A_t A_t_bytes t_length t_at_87 t_error_88 r_2 t_positive_75 t_negative_76 t_play_89 t_bytes)) ⟨hx, hb, hml, hown, hts⟩ hE hP hD hS hA hAs [0, 1] [] [0, 1] (c_X1_byteAt l D cy s0 tW N A_t A_t_bytes t_at_87 t_length t_at_87 t_error_88 r_2 t_positive_75 t_negative_76 t_play_89 t_bytes _ hF_93) (gV q_395 q_397 q_22 q_87 q_398) hd_X1_byteAt ⟨Nat.le_of_ble_eq_true rfl, Nat.le_of_ble_eq_true rfl⟩ rfl rfl rfl rfl rfl rfl rfl rfl rfl hl.1 rfl (Nat.le_of_ble_eq_true rfl) dX1_readOrder_140 ⟨Nat.zero_le _, Nat.zero_le _⟩ (fun H locs hP hD hS => ?_)
                refine W.eq (g2 := F0 m 143 ls [.int r_92]) rfl ?_
                refine lv_bipush (v := 59) hx hb dX1_readOrder_143 (by decide) ?_
                refine lv_icmp_eq (tgt := 157) hx hb dX1_readOrder_145 (by decide) (fun c_94 => ?_) (fun c_94 => ?_)
                · replace hF := ite_t c_94 hF
                  refine lv_aload_n hx hb dX1_readOrder_157 rfl (lv_at hl 1 rfl) ?_
                  refine lv_dup hx hb dX1_readOrder_158 rfl ?_
                  refine va_get (D := D) (ci := 1) (v := .int t_at_87) (C := RX1) (T := TX1) (N := 8) hx hb hts inX1 hown hK hP 0 rfl rfl 2 (by decide) (hts _ q_185) (fun _ h9 => h9) rfl dX1_readOrder_159 ?_
                  refine lv_iconst (v := 1) hx hb dX1_readOrder_162 (by decide) ?_
                  refine lv_iadd hx hb dX1_readOrder_163 ?_
                  refine ka_put (ci := 1) (v := .int (t_at_87 + 1)) (ty := .int) (C := RX1) (T := TX1) (N := 8) (wsN := (w_X1_readOrder cy A_t A_t_bytes t_length (t_at_87 + 1) t_error_88 r_2 t_positive_75 t_negative_76 t_play_89 t_bytes)) hx hb hts inX1 tyX1 tyX1_ok nmX1 hown hK hP hD hS 0 rfl rfl 2 (by decide) (hts _ q_185) (fun _ h9 => h9) rfl (by decide +kernel) rfl rfl (Nat.le_of_ble_eq_true rfl) rfl dX1_readOrder_164 (fun H locs hP hD hS => ?_)
                  refine lv_iconst (v := 1) hx hb dX1_readOrder_167 (by decide) ?_
                  cases hF
                  exact kret_z hx hb hr hlocks hP hD hS dX1_readOrder_168
                · replace hF := ite_f c_94 hF
                  refine lv_aload_n hx hb dX1_readOrder_148 rfl (lv_at hl 1 rfl) ?_
                  refine lv_aload_n hx hb dX1_readOrder_149 rfl (lv_at hl 1 rfl) ?_
                  refine va_get (D := D) (ci := 1) (v := .int t_at_87) (C := RX1) (T := TX1) (N := 8) hx hb hts inX1 hown hK hP 0 rfl rfl 2 (by decide) (hts _ q_185) (fun _ h9 => h9) rfl dX1_readOrder_150 ?_
                  obtain ⟨r_95, t_error_96, hF_97, hF⟩ := ob2_some hF
                  refine kcV (q := (RX1, TX1, 8)) (ci := 1) (q0 := 0) (As := [.int t_at_87]) (rest := []) (wr := [(A_t_bytes, .inl (cy 0, 100, .inl t_bytes))]) (wsN := (w_X1_readOrder cy A_t A_t_bytes t_length t_at_87 t_error_96 r_2 t_positive_75 t_negative_76 t_play_89 t_bytes)) ⟨hx, hb, hml, hown, hts⟩ hE hP hD hS hA hAs [0] [1] [1, 0] (c_X1_fail l D cy s0 tW N A_t A_t_bytes t_at_87 t_length t_at_87 t_error_88 r_2 t_positive_75 t_negative_76 t_play_89 _ hF_97) (gV q_400 q_402 q_23 q_87 q_403) hd_X1_fail ⟨Nat.le_of_ble_eq_true rfl, Nat.le_of_ble_eq_true rfl⟩ rfl rfl rfl rfl rfl rfl rfl rfl rfl hl.1 rfl (Nat.le_of_ble_eq_true rfl) dX1_readOrder_153 ⟨Nat.zero_le _, Nat.zero_le _⟩ (fun H locs hP hD hS => ?_)
                  refine W.eq (g2 := F0 m 156 ls [.int (bI r_95)]) rfl ?_
                  cases hF
                  exact kret_z hx hb hr hlocks hP hD hS dX1_readOrder_156
              · replace hF := ite_f (bI_f c_91) hF
                refine lv_iconst (v := 0) hx hb dX1_readOrder_133 (by decide) ?_
                cases hF
                exact kret_z hx hb hr hlocks hP hD hS dX1_readOrder_134
          · replace hF := ite_f (bI_f c_78) hF
            refine lv_iconst (v := 0) hx hb dX1_readOrder_115 (by decide) ?_
            cases hF
            exact kret_z hx hb hr hlocks hP hD hS dX1_readOrder_116
      · replace hF := ite_f c_51 hF
        refine lv_aload_n hx hb dX1_readOrder_43 rfl (lv_at hl 0 rfl) ?_
        refine va_get (D := D) (ci := 1) (v := .int r_2) (C := RX1) (T := TX1) (N := 8) hx hb hts inX1 hown hK hP 0 rfl rfl 4 (by decide) (hts _ q_187) (fun _ h9 => h9) rfl dX1_readOrder_44 ?_
        refine lv_bipush (v := 99) hx hb dX1_readOrder_47 (by decide) ?_
        refine lv_icmp_eq (tgt := 70) hx hb dX1_readOrder_49 (by decide) (fun c_98 => ?_) (fun c_98 => ?_)
        · replace hF := ite_t c_98 hF
          refine lv_iconst (v := 1) hx hb dX1_readOrder_70 (by decide) ?_
          refine lv_goto (tgt := 75) hx hb dX1_readOrder_71 (by decide) ?_
          refine lv_istore_n (lv' := [(1, .int 1), (0, .ref A_t)]) hx hb dX1_readOrder_75 rfl hl (by decide) rfl (fun ls hl => ?_)
          refine lv_iload_n hx hb dX1_readOrder_76 rfl (lv_at hl 0 rfl) ?_
          refine lv_if_ne (tgt := 89) hx hb dX1_readOrder_77 (by decide) (fun _ => ?_) (fun h0 => absurd h0 (by decide))
          refine lv_aload_n hx hb dX1_readOrder_89 rfl (lv_at hl 1 rfl) ?_
          refine lv_dup hx hb dX1_readOrder_90 rfl ?_
          refine va_get (D := D) (ci := 1) (v := .int t_at) (C := RX1) (T := TX1) (N := 8) hx hb hts inX1 hown hK hP 0 rfl rfl 2 (by decide) (hts _ q_185) (fun _ h9 => h9) rfl dX1_readOrder_91 ?_
          refine lv_iconst (v := 1) hx hb dX1_readOrder_94 (by decide) ?_
          refine lv_iadd hx hb dX1_readOrder_95 ?_
          refine ka_put (ci := 1) (v := .int (t_at + 1)) (ty := .int) (C := RX1) (T := TX1) (N := 8) (wsN := (w_X1_readOrder cy A_t A_t_bytes t_length (t_at + 1) t_error r_2 t_positive t_negative t_play t_bytes)) hx hb hts inX1 tyX1 tyX1_ok nmX1 hown hK hP hD hS 0 rfl rfl 2 (by decide) (hts _ q_185) (fun _ h9 => h9) rfl (by decide +kernel) rfl rfl (Nat.le_of_ble_eq_true rfl) rfl dX1_readOrder_96 (fun H locs hP hD hS => ?_)
          refine lv_aload_n hx hb dX1_readOrder_99 rfl (lv_at hl 1 rfl) ?_
          refine va_get (D := D) (ci := 1) (v := .int r_2) (C := RX1) (T := TX1) (N := 8) hx hb hts inX1 hown hK hP 0 rfl rfl 4 (by decide) (hts _ q_187) (fun _ h9 => h9) rfl dX1_readOrder_100 ?_
          refine lv_bipush (v := 99) hx hb dX1_readOrder_103 (by decide) ?_
          refine lv_icmp_ne (tgt := 117) hx hb dX1_readOrder_105 (by decide) (fun c_99 => ?_) (fun c_99 => ?_)
          · replace hF := ite_f c_99 hF
            refine lv_aload_n hx hb dX1_readOrder_117 rfl (lv_at hl 1 rfl) ?_
            refine va_get (D := D) (ci := 1) (v := .int r_2) (C := RX1) (T := TX1) (N := 8) hx hb hts inX1 hown hK hP 0 rfl rfl 4 (by decide) (hts _ q_187) (fun _ h9 => h9) rfl dX1_readOrder_118 ?_
            refine lv_bipush (v := 108) hx hb dX1_readOrder_121 (by decide) ?_
            refine lv_icmp_ne (tgt := 135) hx hb dX1_readOrder_123 (by decide) (fun c_100 => ?_) (fun c_100 => ?_)
            · replace hF := ite_f c_100 hF
              refine lv_aload_n hx hb dX1_readOrder_135 rfl (lv_at hl 1 rfl) ?_
              refine lv_aload_n hx hb dX1_readOrder_136 rfl (lv_at hl 1 rfl) ?_
              refine va_get (D := D) (ci := 1) (v := .int (t_at + 1)) (C := RX1) (T := TX1) (N := 8) hx hb hts inX1 hown hK hP 0 rfl rfl 2 (by decide) (hts _ q_185) (fun _ h9 => h9) rfl dX1_readOrder_137 ?_
              obtain ⟨r_101, hF_102, hF⟩ := ob1_some hF
              refine kcV (q := (RX1, TX1, 8)) (ci := 1) (q0 := 0) (As := [.int (t_at + 1)]) (rest := []) (wr := []) (wsN := (w_X1_readOrder cy A_t A_t_bytes t_length (t_at + 1) t_error r_2 t_positive t_negative t_play t_bytes)) ⟨hx, hb, hml, hown, hts⟩ hE hP hD hS hA hAs [0, 1] [] [0, 1] (c_X1_byteAt l D cy s0 tW N A_t A_t_bytes (t_at + 1) t_length (t_at + 1) t_error r_2 t_positive t_negative t_play t_bytes _ hF_102) (gV q_395 q_397 q_22 q_87 q_398) hd_X1_byteAt ⟨Nat.le_of_ble_eq_true rfl, Nat.le_of_ble_eq_true rfl⟩ rfl rfl rfl rfl rfl rfl rfl rfl rfl hl.1 rfl (Nat.le_of_ble_eq_true rfl) dX1_readOrder_140 ⟨Nat.zero_le _, Nat.zero_le _⟩ (fun H locs hP hD hS => ?_)
              refine W.eq (g2 := F0 m 143 ls [.int r_101]) rfl ?_
              refine lv_bipush (v := 59) hx hb dX1_readOrder_143 (by decide) ?_
              refine lv_icmp_eq (tgt := 157) hx hb dX1_readOrder_145 (by decide) (fun c_103 => ?_) (fun c_103 => ?_)
              · replace hF := ite_t c_103 hF
                refine lv_aload_n hx hb dX1_readOrder_157 rfl (lv_at hl 1 rfl) ?_
                refine lv_dup hx hb dX1_readOrder_158 rfl ?_
                refine va_get (D := D) (ci := 1) (v := .int (t_at + 1)) (C := RX1) (T := TX1) (N := 8) hx hb hts inX1 hown hK hP 0 rfl rfl 2 (by decide) (hts _ q_185) (fun _ h9 => h9) rfl dX1_readOrder_159 ?_
                refine lv_iconst (v := 1) hx hb dX1_readOrder_162 (by decide) ?_
                refine lv_iadd hx hb dX1_readOrder_163 ?_
                refine ka_put (ci := 1) (v := .int ((t_at + 1) + 1)) (ty := .int) (C := RX1) (T := TX1) (N := 8) (wsN := (w_X1_readOrder cy A_t A_t_bytes t_length ((t_at + 1) + 1) t_error r_2 t_positive t_negative t_play t_bytes)) hx hb hts inX1 tyX1 tyX1_ok nmX1 hown hK hP hD hS 0 rfl rfl 2 (by decide) (hts _ q_185) (fun _ h9 => h9) rfl (by decide +kernel) rfl rfl (Nat.le_of_ble_eq_true rfl) rfl dX1_readOrder_164 (fun H locs hP hD hS => ?_)
                refine lv_iconst (v := 1) hx hb dX1_readOrder_167 (by decide) ?_
                cases hF
                exact kret_z hx hb hr hlocks hP hD hS dX1_readOrder_168
              · replace hF := ite_f c_103 hF
                refine lv_aload_n hx hb dX1_readOrder_148 rfl (lv_at hl 1 rfl) ?_
                refine lv_aload_n hx hb dX1_readOrder_149 rfl (lv_at hl 1 rfl) ?_
                refine va_get (D := D) (ci := 1) (v := .int (t_at + 1)) (C := RX1) (T := TX1) (N := 8) hx hb hts inX1 hown hK hP 0 rfl rfl 2 (by decide) (hts _ q_185) (fun _ h9 => h9) rfl dX1_readOrder_150 ?_
                obtain ⟨r_104, t_error_105, hF_106, hF⟩ := ob2_some hF
                refine kcV (q := (RX1, TX1, 8)) (ci := 1) (q0 := 0) (As := [.int (t_at + 1)]) (rest := []) (wr := [(A_t_bytes, .inl (cy 0, 100, .inl t_bytes))]) (wsN := (w_X1_readOrder cy A_t A_t_bytes t_length (t_at + 1) t_error_105 r_2 t_positive t_negative t_play t_bytes)) ⟨hx, hb, hml, hown, hts⟩ hE hP hD hS hA hAs [0] [1] [1, 0] (c_X1_fail l D cy s0 tW N A_t A_t_bytes (t_at + 1) t_length (t_at + 1) t_error r_2 t_positive t_negative t_play _ hF_106) (gV q_400 q_402 q_23 q_87 q_403) hd_X1_fail ⟨Nat.le_of_ble_eq_true rfl, Nat.le_of_ble_eq_true rfl⟩ rfl rfl rfl rfl rfl rfl rfl rfl rfl hl.1 rfl (Nat.le_of_ble_eq_true rfl) dX1_readOrder_153 ⟨Nat.zero_le _, Nat.zero_le _⟩ (fun H locs hP hD hS => ?_)
                refine W.eq (g2 := F0 m 156 ls [.int (bI r_104)]) rfl ?_
                cases hF
                exact kret_z hx hb hr hlocks hP hD hS dX1_readOrder_156
            · replace hF := ite_t c_100 hF
              refine lv_aload_n hx hb dX1_readOrder_126 rfl (lv_at hl 1 rfl) ?_
              obtain ⟨r_107, t_at_108, t_error_109, t_play_110, hF_111, hF⟩ := ob4_some hF
              refine kcV (q := (RX1, TX1, 8)) (ci := 1) (q0 := 0) (As := []) (rest := []) (wr := []) (wsN := (w_X1_readOrder cy A_t A_t_bytes t_length t_at_108 t_error_109 r_2 t_positive t_negative t_play_110 t_bytes)) ⟨hx, hb, hml, hown, hts⟩ hE hP hD hS hA hAs [0, 1] [] [0, 1] (c_X1_readPlay l D cy s0 tW N A_t A_t_bytes t_length (t_at + 1) t_error r_2 t_positive t_negative t_play t_bytes _ hF_111) (gV q_408 q_410 q_25 q_87 q_411) hd_X1_readPlay ⟨Nat.le_of_ble_eq_true rfl, Nat.le_of_ble_eq_true rfl⟩ rfl rfl rfl rfl rfl rfl rfl rfl rfl hl.1 rfl (Nat.le_of_ble_eq_true rfl) dX1_readOrder_127 ⟨Nat.zero_le _, Nat.zero_le _⟩ (fun H locs hP hD hS => ?_)
              refine W.eq (g2 := F0 m 130 ls [.int (bI r_107)]) rfl ?_
              refine lv_if_ne (tgt := 135) hx hb dX1_readOrder_130 (by decide) (fun c_112 => ?_) (fun c_112 => ?_)
              · replace hF := ite_t (bI_t c_112) hF
                refine lv_aload_n hx hb dX1_readOrder_135 rfl (lv_at hl 1 rfl) ?_
                refine lv_aload_n hx hb dX1_readOrder_136 rfl (lv_at hl 1 rfl) ?_
                refine va_get (D := D) (ci := 1) (v := .int t_at_108) (C := RX1) (T := TX1) (N := 8) hx hb hts inX1 hown hK hP 0 rfl rfl 2 (by decide) (hts _ q_185) (fun _ h9 => h9) rfl dX1_readOrder_137 ?_
                obtain ⟨r_113, hF_114, hF⟩ := ob1_some hF
                refine kcV (q := (RX1, TX1, 8)) (ci := 1) (q0 := 0) (As := [.int t_at_108]) (rest := []) (wr := []) (wsN := (w_X1_readOrder cy A_t A_t_bytes t_length t_at_108 t_error_109 r_2 t_positive t_negative t_play_110 t_bytes)) ⟨hx, hb, hml, hown, hts⟩ hE hP hD hS hA hAs [0, 1] [] [0, 1] (c_X1_byteAt l D cy s0 tW N A_t A_t_bytes t_at_108 t_length t_at_108 t_error_109 r_2 t_positive t_negative t_play_110 t_bytes _ hF_114) (gV q_395 q_397 q_22 q_87 q_398) hd_X1_byteAt ⟨Nat.le_of_ble_eq_true rfl, Nat.le_of_ble_eq_true rfl⟩ rfl rfl rfl rfl rfl rfl rfl rfl rfl hl.1 rfl (Nat.le_of_ble_eq_true rfl) dX1_readOrder_140 ⟨Nat.zero_le _, Nat.zero_le _⟩ (fun H locs hP hD hS => ?_)
                refine W.eq (g2 := F0 m 143 ls [.int r_113]) rfl ?_
                refine lv_bipush (v := 59) hx hb dX1_readOrder_143 (by decide) ?_
                refine lv_icmp_eq (tgt := 157) hx hb dX1_readOrder_145 (by decide) (fun c_115 => ?_) (fun c_115 => ?_)
                · replace hF := ite_t c_115 hF
                  refine lv_aload_n hx hb dX1_readOrder_157 rfl (lv_at hl 1 rfl) ?_
                  refine lv_dup hx hb dX1_readOrder_158 rfl ?_
                  refine va_get (D := D) (ci := 1) (v := .int t_at_108) (C := RX1) (T := TX1) (N := 8) hx hb hts inX1 hown hK hP 0 rfl rfl 2 (by decide) (hts _ q_185) (fun _ h9 => h9) rfl dX1_readOrder_159 ?_
                  refine lv_iconst (v := 1) hx hb dX1_readOrder_162 (by decide) ?_
                  refine lv_iadd hx hb dX1_readOrder_163 ?_
                  refine ka_put (ci := 1) (v := .int (t_at_108 + 1)) (ty := .int) (C := RX1) (T := TX1) (N := 8) (wsN := (w_X1_readOrder cy A_t A_t_bytes t_length (t_at_108 + 1) t_error_109 r_2 t_positive t_negative t_play_110 t_bytes)) hx hb hts inX1 tyX1 tyX1_ok nmX1 hown hK hP hD hS 0 rfl rfl 2 (by decide) (hts _ q_185) (fun _ h9 => h9) rfl (by decide +kernel) rfl rfl (Nat.le_of_ble_eq_true rfl) rfl dX1_readOrder_164 (fun H locs hP hD hS => ?_)
                  refine lv_iconst (v := 1) hx hb dX1_readOrder_167 (by decide) ?_
                  cases hF
                  exact kret_z hx hb hr hlocks hP hD hS dX1_readOrder_168
                · replace hF := ite_f c_115 hF
                  refine lv_aload_n hx hb dX1_readOrder_148 rfl (lv_at hl 1 rfl) ?_
                  refine lv_aload_n hx hb dX1_readOrder_149 rfl (lv_at hl 1 rfl) ?_
                  refine va_get (D := D) (ci := 1) (v := .int t_at_108) (C := RX1) (T := TX1) (N := 8) hx hb hts inX1 hown hK hP 0 rfl rfl 2 (by decide) (hts _ q_185) (fun _ h9 => h9) rfl dX1_readOrder_150 ?_
                  obtain ⟨r_116, t_error_117, hF_118, hF⟩ := ob2_some hF
                  refine kcV (q := (RX1, TX1, 8)) (ci := 1) (q0 := 0) (As := [.int t_at_108]) (rest := []) (wr := [(A_t_bytes, .inl (cy 0, 100, .inl t_bytes))]) (wsN := (w_X1_readOrder cy A_t A_t_bytes t_length t_at_108 t_error_117 r_2 t_positive t_negative t_play_110 t_bytes)) ⟨hx, hb, hml, hown, hts⟩ hE hP hD hS hA hAs [0] [1] [1, 0] (c_X1_fail l D cy s0 tW N A_t A_t_bytes t_at_108 t_length t_at_108 t_error_109 r_2 t_positive t_negative t_play_110 _ hF_118) (gV q_400 q_402 q_23 q_87 q_403) hd_X1_fail ⟨Nat.le_of_ble_eq_true rfl, Nat.le_of_ble_eq_true rfl⟩ rfl rfl rfl rfl rfl rfl rfl rfl rfl hl.1 rfl (Nat.le_of_ble_eq_true rfl) dX1_readOrder_153 ⟨Nat.zero_le _, Nat.zero_le _⟩ (fun H locs hP hD hS => ?_)
                  refine W.eq (g2 := F0 m 156 ls [.int (bI r_116)]) rfl ?_
                  cases hF
                  exact kret_z hx hb hr hlocks hP hD hS dX1_readOrder_156
              · replace hF := ite_f (bI_f c_112) hF
                refine lv_iconst (v := 0) hx hb dX1_readOrder_133 (by decide) ?_
                cases hF
                exact kret_z hx hb hr hlocks hP hD hS dX1_readOrder_134
          · replace hF := ite_t c_99 hF
            refine lv_aload_n hx hb dX1_readOrder_108 rfl (lv_at hl 1 rfl) ?_
            obtain ⟨r_119, t_at_120, t_error_121, t_positive_122, t_negative_123, hF_124, hF⟩ := ob5_some hF
            refine kcV (q := (RX1, TX1, 8)) (ci := 1) (q0 := 0) (As := []) (rest := []) (wr := []) (wsN := (w_X1_readOrder cy A_t A_t_bytes t_length t_at_120 t_error_121 r_2 t_positive_122 t_negative_123 t_play t_bytes)) ⟨hx, hb, hml, hown, hts⟩ hE hP hD hS hA hAs [0, 1] [] [0, 1] (c_X1_readLiterals l D cy s0 tW N A_t A_t_bytes t_length (t_at + 1) t_error r_2 t_positive t_negative t_play t_bytes _ hF_124) (gV q_404 q_406 q_24 q_87 q_407) hd_X1_readLiterals ⟨Nat.le_of_ble_eq_true rfl, Nat.le_of_ble_eq_true rfl⟩ rfl rfl rfl rfl rfl rfl rfl rfl rfl hl.1 rfl (Nat.le_of_ble_eq_true rfl) dX1_readOrder_109 ⟨Nat.zero_le _, Nat.zero_le _⟩ (fun H locs hP hD hS => ?_)
            refine W.eq (g2 := F0 m 112 ls [.int (bI r_119)]) rfl ?_
            refine lv_if_ne (tgt := 117) hx hb dX1_readOrder_112 (by decide) (fun c_125 => ?_) (fun c_125 => ?_)
            · replace hF := ite_t (bI_t c_125) hF
              refine lv_aload_n hx hb dX1_readOrder_117 rfl (lv_at hl 1 rfl) ?_
              refine va_get (D := D) (ci := 1) (v := .int r_2) (C := RX1) (T := TX1) (N := 8) hx hb hts inX1 hown hK hP 0 rfl rfl 4 (by decide) (hts _ q_187) (fun _ h9 => h9) rfl dX1_readOrder_118 ?_
              refine lv_bipush (v := 108) hx hb dX1_readOrder_121 (by decide) ?_
              refine lv_icmp_ne (tgt := 135) hx hb dX1_readOrder_123 (by decide) (fun c_126 => ?_) (fun c_126 => ?_)
              · replace hF := ite_f c_126 hF
                refine lv_aload_n hx hb dX1_readOrder_135 rfl (lv_at hl 1 rfl) ?_
                refine lv_aload_n hx hb dX1_readOrder_136 rfl (lv_at hl 1 rfl) ?_
                refine va_get (D := D) (ci := 1) (v := .int t_at_120) (C := RX1) (T := TX1) (N := 8) hx hb hts inX1 hown hK hP 0 rfl rfl 2 (by decide) (hts _ q_185) (fun _ h9 => h9) rfl dX1_readOrder_137 ?_
                obtain ⟨r_127, hF_128, hF⟩ := ob1_some hF
                refine kcV (q := (RX1, TX1, 8)) (ci := 1) (q0 := 0) (As := [.int t_at_120]) (rest := []) (wr := []) (wsN := (w_X1_readOrder cy A_t A_t_bytes t_length t_at_120 t_error_121 r_2 t_positive_122 t_negative_123 t_play t_bytes)) ⟨hx, hb, hml, hown, hts⟩ hE hP hD hS hA hAs [0, 1] [] [0, 1] (c_X1_byteAt l D cy s0 tW N A_t A_t_bytes t_at_120 t_length t_at_120 t_error_121 r_2 t_positive_122 t_negative_123 t_play t_bytes _ hF_128) (gV q_395 q_397 q_22 q_87 q_398) hd_X1_byteAt ⟨Nat.le_of_ble_eq_true rfl, Nat.le_of_ble_eq_true rfl⟩ rfl rfl rfl rfl rfl rfl rfl rfl rfl hl.1 rfl (Nat.le_of_ble_eq_true rfl) dX1_readOrder_140 ⟨Nat.zero_le _, Nat.zero_le _⟩ (fun H locs hP hD hS => ?_)
                refine W.eq (g2 := F0 m 143 ls [.int r_127]) rfl ?_
                refine lv_bipush (v := 59) hx hb dX1_readOrder_143 (by decide) ?_
                refine lv_icmp_eq (tgt := 157) hx hb dX1_readOrder_145 (by decide) (fun c_129 => ?_) (fun c_129 => ?_)
                · replace hF := ite_t c_129 hF
                  refine lv_aload_n hx hb dX1_readOrder_157 rfl (lv_at hl 1 rfl) ?_
                  refine lv_dup hx hb dX1_readOrder_158 rfl ?_
                  refine va_get (D := D) (ci := 1) (v := .int t_at_120) (C := RX1) (T := TX1) (N := 8) hx hb hts inX1 hown hK hP 0 rfl rfl 2 (by decide) (hts _ q_185) (fun _ h9 => h9) rfl dX1_readOrder_159 ?_
                  refine lv_iconst (v := 1) hx hb dX1_readOrder_162 (by decide) ?_
                  refine lv_iadd hx hb dX1_readOrder_163 ?_
                  refine ka_put (ci := 1) (v := .int (t_at_120 + 1)) (ty := .int) (C := RX1) (T := TX1) (N := 8) (wsN := (w_X1_readOrder cy A_t A_t_bytes t_length (t_at_120 + 1) t_error_121 r_2 t_positive_122 t_negative_123 t_play t_bytes)) hx hb hts inX1 tyX1 tyX1_ok nmX1 hown hK hP hD hS 0 rfl rfl 2 (by decide) (hts _ q_185) (fun _ h9 => h9) rfl (by decide +kernel) rfl rfl (Nat.le_of_ble_eq_true rfl) rfl dX1_readOrder_164 (fun H locs hP hD hS => ?_)
                  refine lv_iconst (v := 1) hx hb dX1_readOrder_167 (by decide) ?_
                  cases hF
                  exact kret_z hx hb hr hlocks hP hD hS dX1_readOrder_168
                · replace hF := ite_f c_129 hF
                  refine lv_aload_n hx hb dX1_readOrder_148 rfl (lv_at hl 1 rfl) ?_
                  refine lv_aload_n hx hb dX1_readOrder_149 rfl (lv_at hl 1 rfl) ?_
                  refine va_get (D := D) (ci := 1) (v := .int t_at_120) (C := RX1) (T := TX1) (N := 8) hx hb hts inX1 hown hK hP 0 rfl rfl 2 (by decide) (hts _ q_185) (fun _ h9 => h9) rfl dX1_readOrder_150 ?_
                  obtain ⟨r_130, t_error_131, hF_132, hF⟩ := ob2_some hF
                  refine kcV (q := (RX1, TX1, 8)) (ci := 1) (q0 := 0) (As := [.int t_at_120]) (rest := []) (wr := [(A_t_bytes, .inl (cy 0, 100, .inl t_bytes))]) (wsN := (w_X1_readOrder cy A_t A_t_bytes t_length t_at_120 t_error_131 r_2 t_positive_122 t_negative_123 t_play t_bytes)) ⟨hx, hb, hml, hown, hts⟩ hE hP hD hS hA hAs [0] [1] [1, 0] (c_X1_fail l D cy s0 tW N A_t A_t_bytes t_at_120 t_length t_at_120 t_error_121 r_2 t_positive_122 t_negative_123 t_play _ hF_132) (gV q_400 q_402 q_23 q_87 q_403) hd_X1_fail ⟨Nat.le_of_ble_eq_true rfl, Nat.le_of_ble_eq_true rfl⟩ rfl rfl rfl rfl rfl rfl rfl rfl rfl hl.1 rfl (Nat.le_of_ble_eq_true rfl) dX1_readOrder_153 ⟨Nat.zero_le _, Nat.zero_le _⟩ (fun H locs hP hD hS => ?_)
                  refine W.eq (g2 := F0 m 156 ls [.int (bI r_130)]) rfl ?_
                  cases hF
                  exact kret_z hx hb hr hlocks hP hD hS dX1_readOrder_156
              · replace hF := ite_t c_126 hF
                refine lv_aload_n hx hb dX1_readOrder_126 rfl (lv_at hl 1 rfl) ?_
                obtain ⟨r_133, t_at_134, t_error_135, t_play_136, hF_137, hF⟩ := ob4_some hF
                refine kcV (q := (RX1, TX1, 8)) (ci := 1) (q0 := 0) (As := []) (rest := []) (wr := []) (wsN := (w_X1_readOrder cy A_t A_t_bytes t_length t_at_134 t_error_135 r_2 t_positive_122 t_negative_123 t_play_136 t_bytes)) ⟨hx, hb, hml, hown, hts⟩ hE hP hD hS hA hAs [0, 1] [] [0, 1] (c_X1_readPlay l D cy s0 tW N A_t A_t_bytes t_length t_at_120 t_error_121 r_2 t_positive_122 t_negative_123 t_play t_bytes _ hF_137) (gV q_408 q_410 q_25 q_87 q_411) hd_X1_readPlay ⟨Nat.le_of_ble_eq_true rfl, Nat.le_of_ble_eq_true rfl⟩ rfl rfl rfl rfl rfl rfl rfl rfl rfl hl.1 rfl (Nat.le_of_ble_eq_true rfl) dX1_readOrder_127 ⟨Nat.zero_le _, Nat.zero_le _⟩ (fun H locs hP hD hS => ?_)
                refine W.eq (g2 := F0 m 130 ls [.int (bI r_133)]) rfl ?_
                refine lv_if_ne (tgt := 135) hx hb dX1_readOrder_130 (by decide) (fun c_138 => ?_) (fun c_138 => ?_)
                · replace hF := ite_t (bI_t c_138) hF
                  refine lv_aload_n hx hb dX1_readOrder_135 rfl (lv_at hl 1 rfl) ?_
                  refine lv_aload_n hx hb dX1_readOrder_136 rfl (lv_at hl 1 rfl) ?_
                  refine va_get (D := D) (ci := 1) (v := .int t_at_134) (C := RX1) (T := TX1) (N := 8) hx hb hts inX1 hown hK hP 0 rfl rfl 2 (by decide) (hts _ q_185) (fun _ h9 => h9) rfl dX1_readOrder_137 ?_
                  obtain ⟨r_139, hF_140, hF⟩ := ob1_some hF
                  refine kcV (q := (RX1, TX1, 8)) (ci := 1) (q0 := 0) (As := [.int t_at_134]) (rest := []) (wr := []) (wsN := (w_X1_readOrder cy A_t A_t_bytes t_length t_at_134 t_error_135 r_2 t_positive_122 t_negative_123 t_play_136 t_bytes)) ⟨hx, hb, hml, hown, hts⟩ hE hP hD hS hA hAs [0, 1] [] [0, 1] (c_X1_byteAt l D cy s0 tW N A_t A_t_bytes t_at_134 t_length t_at_134 t_error_135 r_2 t_positive_122 t_negative_123 t_play_136 t_bytes _ hF_140) (gV q_395 q_397 q_22 q_87 q_398) hd_X1_byteAt ⟨Nat.le_of_ble_eq_true rfl, Nat.le_of_ble_eq_true rfl⟩ rfl rfl rfl rfl rfl rfl rfl rfl rfl hl.1 rfl (Nat.le_of_ble_eq_true rfl) dX1_readOrder_140 ⟨Nat.zero_le _, Nat.zero_le _⟩ (fun H locs hP hD hS => ?_)
                  refine W.eq (g2 := F0 m 143 ls [.int r_139]) rfl ?_
                  refine lv_bipush (v := 59) hx hb dX1_readOrder_143 (by decide) ?_
                  refine lv_icmp_eq (tgt := 157) hx hb dX1_readOrder_145 (by decide) (fun c_141 => ?_) (fun c_141 => ?_)
                  · replace hF := ite_t c_141 hF
                    refine lv_aload_n hx hb dX1_readOrder_157 rfl (lv_at hl 1 rfl) ?_
                    refine lv_dup hx hb dX1_readOrder_158 rfl ?_
                    refine va_get (D := D) (ci := 1) (v := .int t_at_134) (C := RX1) (T := TX1) (N := 8) hx hb hts inX1 hown hK hP 0 rfl rfl 2 (by decide) (hts _ q_185) (fun _ h9 => h9) rfl dX1_readOrder_159 ?_
                    refine lv_iconst (v := 1) hx hb dX1_readOrder_162 (by decide) ?_
                    refine lv_iadd hx hb dX1_readOrder_163 ?_
                    refine ka_put (ci := 1) (v := .int (t_at_134 + 1)) (ty := .int) (C := RX1) (T := TX1) (N := 8) (wsN := (w_X1_readOrder cy A_t A_t_bytes t_length (t_at_134 + 1) t_error_135 r_2 t_positive_122 t_negative_123 t_play_136 t_bytes)) hx hb hts inX1 tyX1 tyX1_ok nmX1 hown hK hP hD hS 0 rfl rfl 2 (by decide) (hts _ q_185) (fun _ h9 => h9) rfl (by decide +kernel) rfl rfl (Nat.le_of_ble_eq_true rfl) rfl dX1_readOrder_164 (fun H locs hP hD hS => ?_)
                    refine lv_iconst (v := 1) hx hb dX1_readOrder_167 (by decide) ?_
                    cases hF
                    exact kret_z hx hb hr hlocks hP hD hS dX1_readOrder_168
                  · replace hF := ite_f c_141 hF
                    refine lv_aload_n hx hb dX1_readOrder_148 rfl (lv_at hl 1 rfl) ?_
                    refine lv_aload_n hx hb dX1_readOrder_149 rfl (lv_at hl 1 rfl) ?_
                    refine va_get (D := D) (ci := 1) (v := .int t_at_134) (C := RX1) (T := TX1) (N := 8) hx hb hts inX1 hown hK hP 0 rfl rfl 2 (by decide) (hts _ q_185) (fun _ h9 => h9) rfl dX1_readOrder_150 ?_
                    obtain ⟨r_142, t_error_143, hF_144, hF⟩ := ob2_some hF
                    refine kcV (q := (RX1, TX1, 8)) (ci := 1) (q0 := 0) (As := [.int t_at_134]) (rest := []) (wr := [(A_t_bytes, .inl (cy 0, 100, .inl t_bytes))]) (wsN := (w_X1_readOrder cy A_t A_t_bytes t_length t_at_134 t_error_143 r_2 t_positive_122 t_negative_123 t_play_136 t_bytes)) ⟨hx, hb, hml, hown, hts⟩ hE hP hD hS hA hAs [0] [1] [1, 0] (c_X1_fail l D cy s0 tW N A_t A_t_bytes t_at_134 t_length t_at_134 t_error_135 r_2 t_positive_122 t_negative_123 t_play_136 _ hF_144) (gV q_400 q_402 q_23 q_87 q_403) hd_X1_fail ⟨Nat.le_of_ble_eq_true rfl, Nat.le_of_ble_eq_true rfl⟩ rfl rfl rfl rfl rfl rfl rfl rfl rfl hl.1 rfl (Nat.le_of_ble_eq_true rfl) dX1_readOrder_153 ⟨Nat.zero_le _, Nat.zero_le _⟩ (fun H locs hP hD hS => ?_)
                    refine W.eq (g2 := F0 m 156 ls [.int (bI r_142)]) rfl ?_
                    cases hF
                    exact kret_z hx hb hr hlocks hP hD hS dX1_readOrder_156
                · replace hF := ite_f (bI_f c_138) hF
                  refine lv_iconst (v := 0) hx hb dX1_readOrder_133 (by decide) ?_
                  cases hF
                  exact kret_z hx hb hr hlocks hP hD hS dX1_readOrder_134
            · replace hF := ite_f (bI_f c_125) hF
              refine lv_iconst (v := 0) hx hb dX1_readOrder_115 (by decide) ?_
              cases hF
              exact kret_z hx hb hr hlocks hP hD hS dX1_readOrder_116
        · replace hF := ite_f c_98 hF
          refine lv_aload_n hx hb dX1_readOrder_52 rfl (lv_at hl 0 rfl) ?_
          refine va_get (D := D) (ci := 1) (v := .int r_2) (C := RX1) (T := TX1) (N := 8) hx hb hts inX1 hown hK hP 0 rfl rfl 4 (by decide) (hts _ q_187) (fun _ h9 => h9) rfl dX1_readOrder_53 ?_
          refine lv_bipush (v := 108) hx hb dX1_readOrder_56 (by decide) ?_
          refine lv_icmp_eq (tgt := 70) hx hb dX1_readOrder_58 (by decide) (fun c_145 => ?_) (fun c_145 => ?_)
          · replace hF := ite_t c_145 hF
            refine lv_iconst (v := 1) hx hb dX1_readOrder_70 (by decide) ?_
            refine lv_goto (tgt := 75) hx hb dX1_readOrder_71 (by decide) ?_
            refine lv_istore_n (lv' := [(1, .int 1), (0, .ref A_t)]) hx hb dX1_readOrder_75 rfl hl (by decide) rfl (fun ls hl => ?_)
            refine lv_iload_n hx hb dX1_readOrder_76 rfl (lv_at hl 0 rfl) ?_
            refine lv_if_ne (tgt := 89) hx hb dX1_readOrder_77 (by decide) (fun _ => ?_) (fun h0 => absurd h0 (by decide))
            refine lv_aload_n hx hb dX1_readOrder_89 rfl (lv_at hl 1 rfl) ?_
            refine lv_dup hx hb dX1_readOrder_90 rfl ?_
            refine va_get (D := D) (ci := 1) (v := .int t_at) (C := RX1) (T := TX1) (N := 8) hx hb hts inX1 hown hK hP 0 rfl rfl 2 (by decide) (hts _ q_185) (fun _ h9 => h9) rfl dX1_readOrder_91 ?_
            refine lv_iconst (v := 1) hx hb dX1_readOrder_94 (by decide) ?_
            refine lv_iadd hx hb dX1_readOrder_95 ?_
            refine ka_put (ci := 1) (v := .int (t_at + 1)) (ty := .int) (C := RX1) (T := TX1) (N := 8) (wsN := (w_X1_readOrder cy A_t A_t_bytes t_length (t_at + 1) t_error r_2 t_positive t_negative t_play t_bytes)) hx hb hts inX1 tyX1 tyX1_ok nmX1 hown hK hP hD hS 0 rfl rfl 2 (by decide) (hts _ q_185) (fun _ h9 => h9) rfl (by decide +kernel) rfl rfl (Nat.le_of_ble_eq_true rfl) rfl dX1_readOrder_96 (fun H locs hP hD hS => ?_)
            refine lv_aload_n hx hb dX1_readOrder_99 rfl (lv_at hl 1 rfl) ?_
            refine va_get (D := D) (ci := 1) (v := .int r_2) (C := RX1) (T := TX1) (N := 8) hx hb hts inX1 hown hK hP 0 rfl rfl 4 (by decide) (hts _ q_187) (fun _ h9 => h9) rfl dX1_readOrder_100 ?_
            refine lv_bipush (v := 99) hx hb dX1_readOrder_103 (by decide) ?_
            refine lv_icmp_ne (tgt := 117) hx hb dX1_readOrder_105 (by decide) (fun c_146 => ?_) (fun c_146 => ?_)
            · replace hF := ite_f c_146 hF
              refine lv_aload_n hx hb dX1_readOrder_117 rfl (lv_at hl 1 rfl) ?_
              refine va_get (D := D) (ci := 1) (v := .int r_2) (C := RX1) (T := TX1) (N := 8) hx hb hts inX1 hown hK hP 0 rfl rfl 4 (by decide) (hts _ q_187) (fun _ h9 => h9) rfl dX1_readOrder_118 ?_
              refine lv_bipush (v := 108) hx hb dX1_readOrder_121 (by decide) ?_
              refine lv_icmp_ne (tgt := 135) hx hb dX1_readOrder_123 (by decide) (fun c_147 => ?_) (fun c_147 => ?_)
              · replace hF := ite_f c_147 hF
                refine lv_aload_n hx hb dX1_readOrder_135 rfl (lv_at hl 1 rfl) ?_
                refine lv_aload_n hx hb dX1_readOrder_136 rfl (lv_at hl 1 rfl) ?_
                refine va_get (D := D) (ci := 1) (v := .int (t_at + 1)) (C := RX1) (T := TX1) (N := 8) hx hb hts inX1 hown hK hP 0 rfl rfl 2 (by decide) (hts _ q_185) (fun _ h9 => h9) rfl dX1_readOrder_137 ?_
                obtain ⟨r_148, hF_149, hF⟩ := ob1_some hF
                refine kcV (q := (RX1, TX1, 8)) (ci := 1) (q0 := 0) (As := [.int (t_at + 1)]) (rest := []) (wr := []) (wsN := (w_X1_readOrder cy A_t A_t_bytes t_length (t_at + 1) t_error r_2 t_positive t_negative t_play t_bytes)) ⟨hx, hb, hml, hown, hts⟩ hE hP hD hS hA hAs [0, 1] [] [0, 1] (c_X1_byteAt l D cy s0 tW N A_t A_t_bytes (t_at + 1) t_length (t_at + 1) t_error r_2 t_positive t_negative t_play t_bytes _ hF_149) (gV q_395 q_397 q_22 q_87 q_398) hd_X1_byteAt ⟨Nat.le_of_ble_eq_true rfl, Nat.le_of_ble_eq_true rfl⟩ rfl rfl rfl rfl rfl rfl rfl rfl rfl hl.1 rfl (Nat.le_of_ble_eq_true rfl) dX1_readOrder_140 ⟨Nat.zero_le _, Nat.zero_le _⟩ (fun H locs hP hD hS => ?_)
                refine W.eq (g2 := F0 m 143 ls [.int r_148]) rfl ?_
                refine lv_bipush (v := 59) hx hb dX1_readOrder_143 (by decide) ?_
                refine lv_icmp_eq (tgt := 157) hx hb dX1_readOrder_145 (by decide) (fun c_150 => ?_) (fun c_150 => ?_)
                · replace hF := ite_t c_150 hF
                  refine lv_aload_n hx hb dX1_readOrder_157 rfl (lv_at hl 1 rfl) ?_
                  refine lv_dup hx hb dX1_readOrder_158 rfl ?_
                  refine va_get (D := D) (ci := 1) (v := .int (t_at + 1)) (C := RX1) (T := TX1) (N := 8) hx hb hts inX1 hown hK hP 0 rfl rfl 2 (by decide) (hts _ q_185) (fun _ h9 => h9) rfl dX1_readOrder_159 ?_
                  refine lv_iconst (v := 1) hx hb dX1_readOrder_162 (by decide) ?_
                  refine lv_iadd hx hb dX1_readOrder_163 ?_
                  refine ka_put (ci := 1) (v := .int ((t_at + 1) + 1)) (ty := .int) (C := RX1) (T := TX1) (N := 8) (wsN := (w_X1_readOrder cy A_t A_t_bytes t_length ((t_at + 1) + 1) t_error r_2 t_positive t_negative t_play t_bytes)) hx hb hts inX1 tyX1 tyX1_ok nmX1 hown hK hP hD hS 0 rfl rfl 2 (by decide) (hts _ q_185) (fun _ h9 => h9) rfl (by decide +kernel) rfl rfl (Nat.le_of_ble_eq_true rfl) rfl dX1_readOrder_164 (fun H locs hP hD hS => ?_)
                  refine lv_iconst (v := 1) hx hb dX1_readOrder_167 (by decide) ?_
                  cases hF
                  exact kret_z hx hb hr hlocks hP hD hS dX1_readOrder_168
                · replace hF := ite_f c_150 hF
                  refine lv_aload_n hx hb dX1_readOrder_148 rfl (lv_at hl 1 rfl) ?_
                  refine lv_aload_n hx hb dX1_readOrder_149 rfl (lv_at hl 1 rfl) ?_
                  refine va_get (D := D) (ci := 1) (v := .int (t_at + 1)) (C := RX1) (T := TX1) (N := 8) hx hb hts inX1 hown hK hP 0 rfl rfl 2 (by decide) (hts _ q_185) (fun _ h9 => h9) rfl dX1_readOrder_150 ?_
                  obtain ⟨r_151, t_error_152, hF_153, hF⟩ := ob2_some hF
                  refine kcV (q := (RX1, TX1, 8)) (ci := 1) (q0 := 0) (As := [.int (t_at + 1)]) (rest := []) (wr := [(A_t_bytes, .inl (cy 0, 100, .inl t_bytes))]) (wsN := (w_X1_readOrder cy A_t A_t_bytes t_length (t_at + 1) t_error_152 r_2 t_positive t_negative t_play t_bytes)) ⟨hx, hb, hml, hown, hts⟩ hE hP hD hS hA hAs [0] [1] [1, 0] (c_X1_fail l D cy s0 tW N A_t A_t_bytes (t_at + 1) t_length (t_at + 1) t_error r_2 t_positive t_negative t_play _ hF_153) (gV q_400 q_402 q_23 q_87 q_403) hd_X1_fail ⟨Nat.le_of_ble_eq_true rfl, Nat.le_of_ble_eq_true rfl⟩ rfl rfl rfl rfl rfl rfl rfl rfl rfl hl.1 rfl (Nat.le_of_ble_eq_true rfl) dX1_readOrder_153 ⟨Nat.zero_le _, Nat.zero_le _⟩ (fun H locs hP hD hS => ?_)
                  refine W.eq (g2 := F0 m 156 ls [.int (bI r_151)]) rfl ?_
                  cases hF
                  exact kret_z hx hb hr hlocks hP hD hS dX1_readOrder_156
              · replace hF := ite_t c_147 hF
                refine lv_aload_n hx hb dX1_readOrder_126 rfl (lv_at hl 1 rfl) ?_
                obtain ⟨r_154, t_at_155, t_error_156, t_play_157, hF_158, hF⟩ := ob4_some hF
                refine kcV (q := (RX1, TX1, 8)) (ci := 1) (q0 := 0) (As := []) (rest := []) (wr := []) (wsN := (w_X1_readOrder cy A_t A_t_bytes t_length t_at_155 t_error_156 r_2 t_positive t_negative t_play_157 t_bytes)) ⟨hx, hb, hml, hown, hts⟩ hE hP hD hS hA hAs [0, 1] [] [0, 1] (c_X1_readPlay l D cy s0 tW N A_t A_t_bytes t_length (t_at + 1) t_error r_2 t_positive t_negative t_play t_bytes _ hF_158) (gV q_408 q_410 q_25 q_87 q_411) hd_X1_readPlay ⟨Nat.le_of_ble_eq_true rfl, Nat.le_of_ble_eq_true rfl⟩ rfl rfl rfl rfl rfl rfl rfl rfl rfl hl.1 rfl (Nat.le_of_ble_eq_true rfl) dX1_readOrder_127 ⟨Nat.zero_le _, Nat.zero_le _⟩ (fun H locs hP hD hS => ?_)
                refine W.eq (g2 := F0 m 130 ls [.int (bI r_154)]) rfl ?_
                refine lv_if_ne (tgt := 135) hx hb dX1_readOrder_130 (by decide) (fun c_159 => ?_) (fun c_159 => ?_)
                · replace hF := ite_t (bI_t c_159) hF
                  refine lv_aload_n hx hb dX1_readOrder_135 rfl (lv_at hl 1 rfl) ?_
                  refine lv_aload_n hx hb dX1_readOrder_136 rfl (lv_at hl 1 rfl) ?_
                  refine va_get (D := D) (ci := 1) (v := .int t_at_155) (C := RX1) (T := TX1) (N := 8) hx hb hts inX1 hown hK hP 0 rfl rfl 2 (by decide) (hts _ q_185) (fun _ h9 => h9) rfl dX1_readOrder_137 ?_
                  obtain ⟨r_160, hF_161, hF⟩ := ob1_some hF
                  refine kcV (q := (RX1, TX1, 8)) (ci := 1) (q0 := 0) (As := [.int t_at_155]) (rest := []) (wr := []) (wsN := (w_X1_readOrder cy A_t A_t_bytes t_length t_at_155 t_error_156 r_2 t_positive t_negative t_play_157 t_bytes)) ⟨hx, hb, hml, hown, hts⟩ hE hP hD hS hA hAs [0, 1] [] [0, 1] (c_X1_byteAt l D cy s0 tW N A_t A_t_bytes t_at_155 t_length t_at_155 t_error_156 r_2 t_positive t_negative t_play_157 t_bytes _ hF_161) (gV q_395 q_397 q_22 q_87 q_398) hd_X1_byteAt ⟨Nat.le_of_ble_eq_true rfl, Nat.le_of_ble_eq_true rfl⟩ rfl rfl rfl rfl rfl rfl rfl rfl rfl hl.1 rfl (Nat.le_of_ble_eq_true rfl) dX1_readOrder_140 ⟨Nat.zero_le _, Nat.zero_le _⟩ (fun H locs hP hD hS => ?_)
                  refine W.eq (g2 := F0 m 143 ls [.int r_160]) rfl ?_
                  refine lv_bipush (v := 59) hx hb dX1_readOrder_143 (by decide) ?_
                  refine lv_icmp_eq (tgt := 157) hx hb dX1_readOrder_145 (by decide) (fun c_162 => ?_) (fun c_162 => ?_)
                  · replace hF := ite_t c_162 hF
                    refine lv_aload_n hx hb dX1_readOrder_157 rfl (lv_at hl 1 rfl) ?_
                    refine lv_dup hx hb dX1_readOrder_158 rfl ?_
                    refine va_get (D := D) (ci := 1) (v := .int t_at_155) (C := RX1) (T := TX1) (N := 8) hx hb hts inX1 hown hK hP 0 rfl rfl 2 (by decide) (hts _ q_185) (fun _ h9 => h9) rfl dX1_readOrder_159 ?_
                    refine lv_iconst (v := 1) hx hb dX1_readOrder_162 (by decide) ?_
                    refine lv_iadd hx hb dX1_readOrder_163 ?_
                    refine ka_put (ci := 1) (v := .int (t_at_155 + 1)) (ty := .int) (C := RX1) (T := TX1) (N := 8) (wsN := (w_X1_readOrder cy A_t A_t_bytes t_length (t_at_155 + 1) t_error_156 r_2 t_positive t_negative t_play_157 t_bytes)) hx hb hts inX1 tyX1 tyX1_ok nmX1 hown hK hP hD hS 0 rfl rfl 2 (by decide) (hts _ q_185) (fun _ h9 => h9) rfl (by decide +kernel) rfl rfl (Nat.le_of_ble_eq_true rfl) rfl dX1_readOrder_164 (fun H locs hP hD hS => ?_)
                    refine lv_iconst (v := 1) hx hb dX1_readOrder_167 (by decide) ?_
                    cases hF
                    exact kret_z hx hb hr hlocks hP hD hS dX1_readOrder_168
                  · replace hF := ite_f c_162 hF
                    refine lv_aload_n hx hb dX1_readOrder_148 rfl (lv_at hl 1 rfl) ?_
                    refine lv_aload_n hx hb dX1_readOrder_149 rfl (lv_at hl 1 rfl) ?_
                    refine va_get (D := D) (ci := 1) (v := .int t_at_155) (C := RX1) (T := TX1) (N := 8) hx hb hts inX1 hown hK hP 0 rfl rfl 2 (by decide) (hts _ q_185) (fun _ h9 => h9) rfl dX1_readOrder_150 ?_
                    obtain ⟨r_163, t_error_164, hF_165, hF⟩ := ob2_some hF
                    refine kcV (q := (RX1, TX1, 8)) (ci := 1) (q0 := 0) (As := [.int t_at_155]) (rest := []) (wr := [(A_t_bytes, .inl (cy 0, 100, .inl t_bytes))]) (wsN := (w_X1_readOrder cy A_t A_t_bytes t_length t_at_155 t_error_164 r_2 t_positive t_negative t_play_157 t_bytes)) ⟨hx, hb, hml, hown, hts⟩ hE hP hD hS hA hAs [0] [1] [1, 0] (c_X1_fail l D cy s0 tW N A_t A_t_bytes t_at_155 t_length t_at_155 t_error_156 r_2 t_positive t_negative t_play_157 _ hF_165) (gV q_400 q_402 q_23 q_87 q_403) hd_X1_fail ⟨Nat.le_of_ble_eq_true rfl, Nat.le_of_ble_eq_true rfl⟩ rfl rfl rfl rfl rfl rfl rfl rfl rfl hl.1 rfl (Nat.le_of_ble_eq_true rfl) dX1_readOrder_153 ⟨Nat.zero_le _, Nat.zero_le _⟩ (fun H locs hP hD hS => ?_)
                    refine W.eq (g2 := F0 m 156 ls [.int (bI r_163)]) rfl ?_
                    cases hF
                    exact kret_z hx hb hr hlocks hP hD hS dX1_readOrder_156
                · replace hF := ite_f (bI_f c_159) hF
                  refine lv_iconst (v := 0) hx hb dX1_readOrder_133 (by decide) ?_
                  cases hF
                  exact kret_z hx hb hr hlocks hP hD hS dX1_readOrder_134
            · replace hF := ite_t c_146 hF
              refine lv_aload_n hx hb dX1_readOrder_108 rfl (lv_at hl 1 rfl) ?_
              obtain ⟨r_166, t_at_167, t_error_168, t_positive_169, t_negative_170, hF_171, hF⟩ := ob5_some hF
              refine kcV (q := (RX1, TX1, 8)) (ci := 1) (q0 := 0) (As := []) (rest := []) (wr := []) (wsN := (w_X1_readOrder cy A_t A_t_bytes t_length t_at_167 t_error_168 r_2 t_positive_169 t_negative_170 t_play t_bytes)) ⟨hx, hb, hml, hown, hts⟩ hE hP hD hS hA hAs [0, 1] [] [0, 1] (c_X1_readLiterals l D cy s0 tW N A_t A_t_bytes t_length (t_at + 1) t_error r_2 t_positive t_negative t_play t_bytes _ hF_171) (gV q_404 q_406 q_24 q_87 q_407) hd_X1_readLiterals ⟨Nat.le_of_ble_eq_true rfl, Nat.le_of_ble_eq_true rfl⟩ rfl rfl rfl rfl rfl rfl rfl rfl rfl hl.1 rfl (Nat.le_of_ble_eq_true rfl) dX1_readOrder_109 ⟨Nat.zero_le _, Nat.zero_le _⟩ (fun H locs hP hD hS => ?_)
              refine W.eq (g2 := F0 m 112 ls [.int (bI r_166)]) rfl ?_
              refine lv_if_ne (tgt := 117) hx hb dX1_readOrder_112 (by decide) (fun c_172 => ?_) (fun c_172 => ?_)
              · replace hF := ite_t (bI_t c_172) hF
                refine lv_aload_n hx hb dX1_readOrder_117 rfl (lv_at hl 1 rfl) ?_
                refine va_get (D := D) (ci := 1) (v := .int r_2) (C := RX1) (T := TX1) (N := 8) hx hb hts inX1 hown hK hP 0 rfl rfl 4 (by decide) (hts _ q_187) (fun _ h9 => h9) rfl dX1_readOrder_118 ?_
                refine lv_bipush (v := 108) hx hb dX1_readOrder_121 (by decide) ?_
                refine lv_icmp_ne (tgt := 135) hx hb dX1_readOrder_123 (by decide) (fun c_173 => ?_) (fun c_173 => ?_)
                · replace hF := ite_f c_173 hF
                  refine lv_aload_n hx hb dX1_readOrder_135 rfl (lv_at hl 1 rfl) ?_
                  refine lv_aload_n hx hb dX1_readOrder_136 rfl (lv_at hl 1 rfl) ?_
                  refine va_get (D := D) (ci := 1) (v := .int t_at_167) (C := RX1) (T := TX1) (N := 8) hx hb hts inX1 hown hK hP 0 rfl rfl 2 (by decide) (hts _ q_185) (fun _ h9 => h9) rfl dX1_readOrder_137 ?_
                  obtain ⟨r_174, hF_175, hF⟩ := ob1_some hF
                  refine kcV (q := (RX1, TX1, 8)) (ci := 1) (q0 := 0) (As := [.int t_at_167]) (rest := []) (wr := []) (wsN := (w_X1_readOrder cy A_t A_t_bytes t_length t_at_167 t_error_168 r_2 t_positive_169 t_negative_170 t_play t_bytes)) ⟨hx, hb, hml, hown, hts⟩ hE hP hD hS hA hAs [0, 1] [] [0, 1] (c_X1_byteAt l D cy s0 tW N A_t A_t_bytes t_at_167 t_length t_at_167 t_error_168 r_2 t_positive_169 t_negative_170 t_play t_bytes _ hF_175) (gV q_395 q_397 q_22 q_87 q_398) hd_X1_byteAt ⟨Nat.le_of_ble_eq_true rfl, Nat.le_of_ble_eq_true rfl⟩ rfl rfl rfl rfl rfl rfl rfl rfl rfl hl.1 rfl (Nat.le_of_ble_eq_true rfl) dX1_readOrder_140 ⟨Nat.zero_le _, Nat.zero_le _⟩ (fun H locs hP hD hS => ?_)
                  refine W.eq (g2 := F0 m 143 ls [.int r_174]) rfl ?_
                  refine lv_bipush (v := 59) hx hb dX1_readOrder_143 (by decide) ?_
                  refine lv_icmp_eq (tgt := 157) hx hb dX1_readOrder_145 (by decide) (fun c_176 => ?_) (fun c_176 => ?_)
                  · replace hF := ite_t c_176 hF
                    refine lv_aload_n hx hb dX1_readOrder_157 rfl (lv_at hl 1 rfl) ?_
                    refine lv_dup hx hb dX1_readOrder_158 rfl ?_
                    refine va_get (D := D) (ci := 1) (v := .int t_at_167) (C := RX1) (T := TX1) (N := 8) hx hb hts inX1 hown hK hP 0 rfl rfl 2 (by decide) (hts _ q_185) (fun _ h9 => h9) rfl dX1_readOrder_159 ?_
                    refine lv_iconst (v := 1) hx hb dX1_readOrder_162 (by decide) ?_
                    refine lv_iadd hx hb dX1_readOrder_163 ?_
                    refine ka_put (ci := 1) (v := .int (t_at_167 + 1)) (ty := .int) (C := RX1) (T := TX1) (N := 8) (wsN := (w_X1_readOrder cy A_t A_t_bytes t_length (t_at_167 + 1) t_error_168 r_2 t_positive_169 t_negative_170 t_play t_bytes)) hx hb hts inX1 tyX1 tyX1_ok nmX1 hown hK hP hD hS 0 rfl rfl 2 (by decide) (hts _ q_185) (fun _ h9 => h9) rfl (by decide +kernel) rfl rfl (Nat.le_of_ble_eq_true rfl) rfl dX1_readOrder_164 (fun H locs hP hD hS => ?_)
                    refine lv_iconst (v := 1) hx hb dX1_readOrder_167 (by decide) ?_
                    cases hF
                    exact kret_z hx hb hr hlocks hP hD hS dX1_readOrder_168
                  · replace hF := ite_f c_176 hF
                    refine lv_aload_n hx hb dX1_readOrder_148 rfl (lv_at hl 1 rfl) ?_
                    refine lv_aload_n hx hb dX1_readOrder_149 rfl (lv_at hl 1 rfl) ?_
                    refine va_get (D := D) (ci := 1) (v := .int t_at_167) (C := RX1) (T := TX1) (N := 8) hx hb hts inX1 hown hK hP 0 rfl rfl 2 (by decide) (hts _ q_185) (fun _ h9 => h9) rfl dX1_readOrder_150 ?_
                    obtain ⟨r_177, t_error_178, hF_179, hF⟩ := ob2_some hF
                    refine kcV (q := (RX1, TX1, 8)) (ci := 1) (q0 := 0) (As := [.int t_at_167]) (rest := []) (wr := [(A_t_bytes, .inl (cy 0, 100, .inl t_bytes))]) (wsN := (w_X1_readOrder cy A_t A_t_bytes t_length t_at_167 t_error_178 r_2 t_positive_169 t_negative_170 t_play t_bytes)) ⟨hx, hb, hml, hown, hts⟩ hE hP hD hS hA hAs [0] [1] [1, 0] (c_X1_fail l D cy s0 tW N A_t A_t_bytes t_at_167 t_length t_at_167 t_error_168 r_2 t_positive_169 t_negative_170 t_play _ hF_179) (gV q_400 q_402 q_23 q_87 q_403) hd_X1_fail ⟨Nat.le_of_ble_eq_true rfl, Nat.le_of_ble_eq_true rfl⟩ rfl rfl rfl rfl rfl rfl rfl rfl rfl hl.1 rfl (Nat.le_of_ble_eq_true rfl) dX1_readOrder_153 ⟨Nat.zero_le _, Nat.zero_le _⟩ (fun H locs hP hD hS => ?_)
                    refine W.eq (g2 := F0 m 156 ls [.int (bI r_177)]) rfl ?_
                    cases hF
                    exact kret_z hx hb hr hlocks hP hD hS dX1_readOrder_156
                · replace hF := ite_t c_173 hF
                  refine lv_aload_n hx hb dX1_readOrder_126 rfl (lv_at hl 1 rfl) ?_
                  obtain ⟨r_180, t_at_181, t_error_182, t_play_183, hF_184, hF⟩ := ob4_some hF
                  refine kcV (q := (RX1, TX1, 8)) (ci := 1) (q0 := 0) (As := []) (rest := []) (wr := []) (wsN := (w_X1_readOrder cy A_t A_t_bytes t_length t_at_181 t_error_182 r_2 t_positive_169 t_negative_170 t_play_183 t_bytes)) ⟨hx, hb, hml, hown, hts⟩ hE hP hD hS hA hAs [0, 1] [] [0, 1] (c_X1_readPlay l D cy s0 tW N A_t A_t_bytes t_length t_at_167 t_error_168 r_2 t_positive_169 t_negative_170 t_play t_bytes _ hF_184) (gV q_408 q_410 q_25 q_87 q_411) hd_X1_readPlay ⟨Nat.le_of_ble_eq_true rfl, Nat.le_of_ble_eq_true rfl⟩ rfl rfl rfl rfl rfl rfl rfl rfl rfl hl.1 rfl (Nat.le_of_ble_eq_true rfl) dX1_readOrder_127 ⟨Nat.zero_le _, Nat.zero_le _⟩ (fun H locs hP hD hS => ?_)
                  refine W.eq (g2 := F0 m 130 ls [.int (bI r_180)]) rfl ?_
                  refine lv_if_ne (tgt := 135) hx hb dX1_readOrder_130 (by decide) (fun c_185 => ?_) (fun c_185 => ?_)
                  · replace hF := ite_t (bI_t c_185) hF
                    refine lv_aload_n hx hb dX1_readOrder_135 rfl (lv_at hl 1 rfl) ?_
                    refine lv_aload_n hx hb dX1_readOrder_136 rfl (lv_at hl 1 rfl) ?_
                    refine va_get (D := D) (ci := 1) (v := .int t_at_181) (C := RX1) (T := TX1) (N := 8) hx hb hts inX1 hown hK hP 0 rfl rfl 2 (by decide) (hts _ q_185) (fun _ h9 => h9) rfl dX1_readOrder_137 ?_
                    obtain ⟨r_186, hF_187, hF⟩ := ob1_some hF
                    refine kcV (q := (RX1, TX1, 8)) (ci := 1) (q0 := 0) (As := [.int t_at_181]) (rest := []) (wr := []) (wsN := (w_X1_readOrder cy A_t A_t_bytes t_length t_at_181 t_error_182 r_2 t_positive_169 t_negative_170 t_play_183 t_bytes)) ⟨hx, hb, hml, hown, hts⟩ hE hP hD hS hA hAs [0, 1] [] [0, 1] (c_X1_byteAt l D cy s0 tW N A_t A_t_bytes t_at_181 t_length t_at_181 t_error_182 r_2 t_positive_169 t_negative_170 t_play_183 t_bytes _ hF_187) (gV q_395 q_397 q_22 q_87 q_398) hd_X1_byteAt ⟨Nat.le_of_ble_eq_true rfl, Nat.le_of_ble_eq_true rfl⟩ rfl rfl rfl rfl rfl rfl rfl rfl rfl hl.1 rfl (Nat.le_of_ble_eq_true rfl) dX1_readOrder_140 ⟨Nat.zero_le _, Nat.zero_le _⟩ (fun H locs hP hD hS => ?_)
                    refine W.eq (g2 := F0 m 143 ls [.int r_186]) rfl ?_
                    refine lv_bipush (v := 59) hx hb dX1_readOrder_143 (by decide) ?_
                    refine lv_icmp_eq (tgt := 157) hx hb dX1_readOrder_145 (by decide) (fun c_188 => ?_) (fun c_188 => ?_)
                    · replace hF := ite_t c_188 hF
                      refine lv_aload_n hx hb dX1_readOrder_157 rfl (lv_at hl 1 rfl) ?_
                      refine lv_dup hx hb dX1_readOrder_158 rfl ?_
                      refine va_get (D := D) (ci := 1) (v := .int t_at_181) (C := RX1) (T := TX1) (N := 8) hx hb hts inX1 hown hK hP 0 rfl rfl 2 (by decide) (hts _ q_185) (fun _ h9 => h9) rfl dX1_readOrder_159 ?_
                      refine lv_iconst (v := 1) hx hb dX1_readOrder_162 (by decide) ?_
                      refine lv_iadd hx hb dX1_readOrder_163 ?_
                      refine ka_put (ci := 1) (v := .int (t_at_181 + 1)) (ty := .int) (C := RX1) (T := TX1) (N := 8) (wsN := (w_X1_readOrder cy A_t A_t_bytes t_length (t_at_181 + 1) t_error_182 r_2 t_positive_169 t_negative_170 t_play_183 t_bytes)) hx hb hts inX1 tyX1 tyX1_ok nmX1 hown hK hP hD hS 0 rfl rfl 2 (by decide) (hts _ q_185) (fun _ h9 => h9) rfl (by decide +kernel) rfl rfl (Nat.le_of_ble_eq_true rfl) rfl dX1_readOrder_164 (fun H locs hP hD hS => ?_)
                      refine lv_iconst (v := 1) hx hb dX1_readOrder_167 (by decide) ?_
                      cases hF
                      exact kret_z hx hb hr hlocks hP hD hS dX1_readOrder_168
                    · replace hF := ite_f c_188 hF
                      refine lv_aload_n hx hb dX1_readOrder_148 rfl (lv_at hl 1 rfl) ?_
                      refine lv_aload_n hx hb dX1_readOrder_149 rfl (lv_at hl 1 rfl) ?_
                      refine va_get (D := D) (ci := 1) (v := .int t_at_181) (C := RX1) (T := TX1) (N := 8) hx hb hts inX1 hown hK hP 0 rfl rfl 2 (by decide) (hts _ q_185) (fun _ h9 => h9) rfl dX1_readOrder_150 ?_
                      obtain ⟨r_189, t_error_190, hF_191, hF⟩ := ob2_some hF
                      refine kcV (q := (RX1, TX1, 8)) (ci := 1) (q0 := 0) (As := [.int t_at_181]) (rest := []) (wr := [(A_t_bytes, .inl (cy 0, 100, .inl t_bytes))]) (wsN := (w_X1_readOrder cy A_t A_t_bytes t_length t_at_181 t_error_190 r_2 t_positive_169 t_negative_170 t_play_183 t_bytes)) ⟨hx, hb, hml, hown, hts⟩ hE hP hD hS hA hAs [0] [1] [1, 0] (c_X1_fail l D cy s0 tW N A_t A_t_bytes t_at_181 t_length t_at_181 t_error_182 r_2 t_positive_169 t_negative_170 t_play_183 _ hF_191) (gV q_400 q_402 q_23 q_87 q_403) hd_X1_fail ⟨Nat.le_of_ble_eq_true rfl, Nat.le_of_ble_eq_true rfl⟩ rfl rfl rfl rfl rfl rfl rfl rfl rfl hl.1 rfl (Nat.le_of_ble_eq_true rfl) dX1_readOrder_153 ⟨Nat.zero_le _, Nat.zero_le _⟩ (fun H locs hP hD hS => ?_)
                      refine W.eq (g2 := F0 m 156 ls [.int (bI r_189)]) rfl ?_
                      cases hF
                      exact kret_z hx hb hr hlocks hP hD hS dX1_readOrder_156
                  · replace hF := ite_f (bI_f c_185) hF
                    refine lv_iconst (v := 0) hx hb dX1_readOrder_133 (by decide) ?_
                    cases hF
                    exact kret_z hx hb hr hlocks hP hD hS dX1_readOrder_134
              · replace hF := ite_f (bI_f c_172) hF
                refine lv_iconst (v := 0) hx hb dX1_readOrder_115 (by decide) ?_
                cases hF
                exact kret_z hx hb hr hlocks hP hD hS dX1_readOrder_116
          · replace hF := ite_f c_145 hF
            refine lv_aload_n hx hb dX1_readOrder_61 rfl (lv_at hl 0 rfl) ?_
            refine va_get (D := D) (ci := 1) (v := .int r_2) (C := RX1) (T := TX1) (N := 8) hx hb hts inX1 hown hK hP 0 rfl rfl 4 (by decide) (hts _ q_187) (fun _ h9 => h9) rfl dX1_readOrder_62 ?_
            refine lv_bipush (v := 114) hx hb dX1_readOrder_65 (by decide) ?_
            refine lv_icmp_ne (tgt := 74) hx hb dX1_readOrder_67 (by decide) (fun c_192 => ?_) (fun c_192 => ?_)
            · replace hF := ite_f c_192 hF
              refine lv_iconst (v := 0) hx hb dX1_readOrder_74 (by decide) ?_
              refine lv_istore_n (lv' := [(1, .int 0), (0, .ref A_t)]) hx hb dX1_readOrder_75 rfl hl (by decide) rfl (fun ls hl => ?_)
              refine lv_iload_n hx hb dX1_readOrder_76 rfl (lv_at hl 0 rfl) ?_
              refine lv_if_ne (tgt := 89) hx hb dX1_readOrder_77 (by decide) (fun h0 => absurd (by decide) h0) (fun _ => ?_)
              refine lv_aload_n hx hb dX1_readOrder_80 rfl (lv_at hl 1 rfl) ?_
              refine lv_aload_n hx hb dX1_readOrder_81 rfl (lv_at hl 1 rfl) ?_
              refine va_get (D := D) (ci := 1) (v := .int t_at) (C := RX1) (T := TX1) (N := 8) hx hb hts inX1 hown hK hP 0 rfl rfl 2 (by decide) (hts _ q_185) (fun _ h9 => h9) rfl dX1_readOrder_82 ?_
              obtain ⟨r_193, t_error_194, hF_195, hF⟩ := ob2_some hF
              refine kcV (q := (RX1, TX1, 8)) (ci := 1) (q0 := 0) (As := [.int t_at]) (rest := []) (wr := [(A_t_bytes, .inl (cy 0, 100, .inl t_bytes))]) (wsN := (w_X1_readOrder cy A_t A_t_bytes t_length t_at t_error_194 r_2 t_positive t_negative t_play t_bytes)) ⟨hx, hb, hml, hown, hts⟩ hE hP hD hS hA hAs [0] [1] [1, 0] (c_X1_fail l D cy s0 tW N A_t A_t_bytes t_at t_length t_at t_error r_2 t_positive t_negative t_play _ hF_195) (gV q_400 q_402 q_23 q_87 q_403) hd_X1_fail ⟨Nat.le_of_ble_eq_true rfl, Nat.le_of_ble_eq_true rfl⟩ rfl rfl rfl rfl rfl rfl rfl rfl rfl hl.1 rfl (Nat.le_of_ble_eq_true rfl) dX1_readOrder_85 ⟨Nat.zero_le _, Nat.zero_le _⟩ (fun H locs hP hD hS => ?_)
              refine W.eq (g2 := F0 m 88 ls [.int (bI r_193)]) rfl ?_
              cases hF
              exact kret_z hx hb hr hlocks hP hD hS dX1_readOrder_88
            · replace hF := ite_t c_192 hF
              refine lv_iconst (v := 1) hx hb dX1_readOrder_70 (by decide) ?_
              refine lv_goto (tgt := 75) hx hb dX1_readOrder_71 (by decide) ?_
              refine lv_istore_n (lv' := [(1, .int 1), (0, .ref A_t)]) hx hb dX1_readOrder_75 rfl hl (by decide) rfl (fun ls hl => ?_)
              refine lv_iload_n hx hb dX1_readOrder_76 rfl (lv_at hl 0 rfl) ?_
              refine lv_if_ne (tgt := 89) hx hb dX1_readOrder_77 (by decide) (fun _ => ?_) (fun h0 => absurd h0 (by decide))
              refine lv_aload_n hx hb dX1_readOrder_89 rfl (lv_at hl 1 rfl) ?_
              refine lv_dup hx hb dX1_readOrder_90 rfl ?_
              refine va_get (D := D) (ci := 1) (v := .int t_at) (C := RX1) (T := TX1) (N := 8) hx hb hts inX1 hown hK hP 0 rfl rfl 2 (by decide) (hts _ q_185) (fun _ h9 => h9) rfl dX1_readOrder_91 ?_
              refine lv_iconst (v := 1) hx hb dX1_readOrder_94 (by decide) ?_
              refine lv_iadd hx hb dX1_readOrder_95 ?_
              refine ka_put (ci := 1) (v := .int (t_at + 1)) (ty := .int) (C := RX1) (T := TX1) (N := 8) (wsN := (w_X1_readOrder cy A_t A_t_bytes t_length (t_at + 1) t_error r_2 t_positive t_negative t_play t_bytes)) hx hb hts inX1 tyX1 tyX1_ok nmX1 hown hK hP hD hS 0 rfl rfl 2 (by decide) (hts _ q_185) (fun _ h9 => h9) rfl (by decide +kernel) rfl rfl (Nat.le_of_ble_eq_true rfl) rfl dX1_readOrder_96 (fun H locs hP hD hS => ?_)
              refine lv_aload_n hx hb dX1_readOrder_99 rfl (lv_at hl 1 rfl) ?_
              refine va_get (D := D) (ci := 1) (v := .int r_2) (C := RX1) (T := TX1) (N := 8) hx hb hts inX1 hown hK hP 0 rfl rfl 4 (by decide) (hts _ q_187) (fun _ h9 => h9) rfl dX1_readOrder_100 ?_
              refine lv_bipush (v := 99) hx hb dX1_readOrder_103 (by decide) ?_
              refine lv_icmp_ne (tgt := 117) hx hb dX1_readOrder_105 (by decide) (fun c_196 => ?_) (fun c_196 => ?_)
              · replace hF := ite_f c_196 hF
                refine lv_aload_n hx hb dX1_readOrder_117 rfl (lv_at hl 1 rfl) ?_
                refine va_get (D := D) (ci := 1) (v := .int r_2) (C := RX1) (T := TX1) (N := 8) hx hb hts inX1 hown hK hP 0 rfl rfl 4 (by decide) (hts _ q_187) (fun _ h9 => h9) rfl dX1_readOrder_118 ?_
                refine lv_bipush (v := 108) hx hb dX1_readOrder_121 (by decide) ?_
                refine lv_icmp_ne (tgt := 135) hx hb dX1_readOrder_123 (by decide) (fun c_197 => ?_) (fun c_197 => ?_)
                · replace hF := ite_f c_197 hF
                  refine lv_aload_n hx hb dX1_readOrder_135 rfl (lv_at hl 1 rfl) ?_
                  refine lv_aload_n hx hb dX1_readOrder_136 rfl (lv_at hl 1 rfl) ?_
                  refine va_get (D := D) (ci := 1) (v := .int (t_at + 1)) (C := RX1) (T := TX1) (N := 8) hx hb hts inX1 hown hK hP 0 rfl rfl 2 (by decide) (hts _ q_185) (fun _ h9 => h9) rfl dX1_readOrder_137 ?_
                  obtain ⟨r_198, hF_199, hF⟩ := ob1_some hF
                  refine kcV (q := (RX1, TX1, 8)) (ci := 1) (q0 := 0) (As := [.int (t_at + 1)]) (rest := []) (wr := []) (wsN := (w_X1_readOrder cy A_t A_t_bytes t_length (t_at + 1) t_error r_2 t_positive t_negative t_play t_bytes)) ⟨hx, hb, hml, hown, hts⟩ hE hP hD hS hA hAs [0, 1] [] [0, 1] (c_X1_byteAt l D cy s0 tW N A_t A_t_bytes (t_at + 1) t_length (t_at + 1) t_error r_2 t_positive t_negative t_play t_bytes _ hF_199) (gV q_395 q_397 q_22 q_87 q_398) hd_X1_byteAt ⟨Nat.le_of_ble_eq_true rfl, Nat.le_of_ble_eq_true rfl⟩ rfl rfl rfl rfl rfl rfl rfl rfl rfl hl.1 rfl (Nat.le_of_ble_eq_true rfl) dX1_readOrder_140 ⟨Nat.zero_le _, Nat.zero_le _⟩ (fun H locs hP hD hS => ?_)
                  refine W.eq (g2 := F0 m 143 ls [.int r_198]) rfl ?_
                  refine lv_bipush (v := 59) hx hb dX1_readOrder_143 (by decide) ?_
                  refine lv_icmp_eq (tgt := 157) hx hb dX1_readOrder_145 (by decide) (fun c_200 => ?_) (fun c_200 => ?_)
                  · replace hF := ite_t c_200 hF
                    refine lv_aload_n hx hb dX1_readOrder_157 rfl (lv_at hl 1 rfl) ?_
                    refine lv_dup hx hb dX1_readOrder_158 rfl ?_
                    refine va_get (D := D) (ci := 1) (v := .int (t_at + 1)) (C := RX1) (T := TX1) (N := 8) hx hb hts inX1 hown hK hP 0 rfl rfl 2 (by decide) (hts _ q_185) (fun _ h9 => h9) rfl dX1_readOrder_159 ?_
                    refine lv_iconst (v := 1) hx hb dX1_readOrder_162 (by decide) ?_
                    refine lv_iadd hx hb dX1_readOrder_163 ?_
                    refine ka_put (ci := 1) (v := .int ((t_at + 1) + 1)) (ty := .int) (C := RX1) (T := TX1) (N := 8) (wsN := (w_X1_readOrder cy A_t A_t_bytes t_length ((t_at + 1) + 1) t_error r_2 t_positive t_negative t_play t_bytes)) hx hb hts inX1 tyX1 tyX1_ok nmX1 hown hK hP hD hS 0 rfl rfl 2 (by decide) (hts _ q_185) (fun _ h9 => h9) rfl (by decide +kernel) rfl rfl (Nat.le_of_ble_eq_true rfl) rfl dX1_readOrder_164 (fun H locs hP hD hS => ?_)
                    refine lv_iconst (v := 1) hx hb dX1_readOrder_167 (by decide) ?_
                    cases hF
                    exact kret_z hx hb hr hlocks hP hD hS dX1_readOrder_168
                  · replace hF := ite_f c_200 hF
                    refine lv_aload_n hx hb dX1_readOrder_148 rfl (lv_at hl 1 rfl) ?_
                    refine lv_aload_n hx hb dX1_readOrder_149 rfl (lv_at hl 1 rfl) ?_
                    refine va_get (D := D) (ci := 1) (v := .int (t_at + 1)) (C := RX1) (T := TX1) (N := 8) hx hb hts inX1 hown hK hP 0 rfl rfl 2 (by decide) (hts _ q_185) (fun _ h9 => h9) rfl dX1_readOrder_150 ?_
                    obtain ⟨r_201, t_error_202, hF_203, hF⟩ := ob2_some hF
                    refine kcV (q := (RX1, TX1, 8)) (ci := 1) (q0 := 0) (As := [.int (t_at + 1)]) (rest := []) (wr := [(A_t_bytes, .inl (cy 0, 100, .inl t_bytes))]) (wsN := (w_X1_readOrder cy A_t A_t_bytes t_length (t_at + 1) t_error_202 r_2 t_positive t_negative t_play t_bytes)) ⟨hx, hb, hml, hown, hts⟩ hE hP hD hS hA hAs [0] [1] [1, 0] (c_X1_fail l D cy s0 tW N A_t A_t_bytes (t_at + 1) t_length (t_at + 1) t_error r_2 t_positive t_negative t_play _ hF_203) (gV q_400 q_402 q_23 q_87 q_403) hd_X1_fail ⟨Nat.le_of_ble_eq_true rfl, Nat.le_of_ble_eq_true rfl⟩ rfl rfl rfl rfl rfl rfl rfl rfl rfl hl.1 rfl (Nat.le_of_ble_eq_true rfl) dX1_readOrder_153 ⟨Nat.zero_le _, Nat.zero_le _⟩ (fun H locs hP hD hS => ?_)
                    refine W.eq (g2 := F0 m 156 ls [.int (bI r_201)]) rfl ?_
                    cases hF
                    exact kret_z hx hb hr hlocks hP hD hS dX1_readOrder_156
                · replace hF := ite_t c_197 hF
                  refine lv_aload_n hx hb dX1_readOrder_126 rfl (lv_at hl 1 rfl) ?_
                  obtain ⟨r_204, t_at_205, t_error_206, t_play_207, hF_208, hF⟩ := ob4_some hF
                  refine kcV (q := (RX1, TX1, 8)) (ci := 1) (q0 := 0) (As := []) (rest := []) (wr := []) (wsN := (w_X1_readOrder cy A_t A_t_bytes t_length t_at_205 t_error_206 r_2 t_positive t_negative t_play_207 t_bytes)) ⟨hx, hb, hml, hown, hts⟩ hE hP hD hS hA hAs [0, 1] [] [0, 1] (c_X1_readPlay l D cy s0 tW N A_t A_t_bytes t_length (t_at + 1) t_error r_2 t_positive t_negative t_play t_bytes _ hF_208) (gV q_408 q_410 q_25 q_87 q_411) hd_X1_readPlay ⟨Nat.le_of_ble_eq_true rfl, Nat.le_of_ble_eq_true rfl⟩ rfl rfl rfl rfl rfl rfl rfl rfl rfl hl.1 rfl (Nat.le_of_ble_eq_true rfl) dX1_readOrder_127 ⟨Nat.zero_le _, Nat.zero_le _⟩ (fun H locs hP hD hS => ?_)
                  refine W.eq (g2 := F0 m 130 ls [.int (bI r_204)]) rfl ?_
                  refine lv_if_ne (tgt := 135) hx hb dX1_readOrder_130 (by decide) (fun c_209 => ?_) (fun c_209 => ?_)
                  · replace hF := ite_t (bI_t c_209) hF
                    refine lv_aload_n hx hb dX1_readOrder_135 rfl (lv_at hl 1 rfl) ?_
                    refine lv_aload_n hx hb dX1_readOrder_136 rfl (lv_at hl 1 rfl) ?_
                    refine va_get (D := D) (ci := 1) (v := .int t_at_205) (C := RX1) (T := TX1) (N := 8) hx hb hts inX1 hown hK hP 0 rfl rfl 2 (by decide) (hts _ q_185) (fun _ h9 => h9) rfl dX1_readOrder_137 ?_
                    obtain ⟨r_210, hF_211, hF⟩ := ob1_some hF
                    refine kcV (q := (RX1, TX1, 8)) (ci := 1) (q0 := 0) (As := [.int t_at_205]) (rest := []) (wr := []) (wsN := (w_X1_readOrder cy A_t A_t_bytes t_length t_at_205 t_error_206 r_2 t_positive t_negative t_play_207 t_bytes)) ⟨hx, hb, hml, hown, hts⟩ hE hP hD hS hA hAs [0, 1] [] [0, 1] (c_X1_byteAt l D cy s0 tW N A_t A_t_bytes t_at_205 t_length t_at_205 t_error_206 r_2 t_positive t_negative t_play_207 t_bytes _ hF_211) (gV q_395 q_397 q_22 q_87 q_398) hd_X1_byteAt ⟨Nat.le_of_ble_eq_true rfl, Nat.le_of_ble_eq_true rfl⟩ rfl rfl rfl rfl rfl rfl rfl rfl rfl hl.1 rfl (Nat.le_of_ble_eq_true rfl) dX1_readOrder_140 ⟨Nat.zero_le _, Nat.zero_le _⟩ (fun H locs hP hD hS => ?_)
                    refine W.eq (g2 := F0 m 143 ls [.int r_210]) rfl ?_
                    refine lv_bipush (v := 59) hx hb dX1_readOrder_143 (by decide) ?_
                    refine lv_icmp_eq (tgt := 157) hx hb dX1_readOrder_145 (by decide) (fun c_212 => ?_) (fun c_212 => ?_)
                    · replace hF := ite_t c_212 hF
                      refine lv_aload_n hx hb dX1_readOrder_157 rfl (lv_at hl 1 rfl) ?_
                      refine lv_dup hx hb dX1_readOrder_158 rfl ?_
                      refine va_get (D := D) (ci := 1) (v := .int t_at_205) (C := RX1) (T := TX1) (N := 8) hx hb hts inX1 hown hK hP 0 rfl rfl 2 (by decide) (hts _ q_185) (fun _ h9 => h9) rfl dX1_readOrder_159 ?_
                      refine lv_iconst (v := 1) hx hb dX1_readOrder_162 (by decide) ?_
                      refine lv_iadd hx hb dX1_readOrder_163 ?_
                      refine ka_put (ci := 1) (v := .int (t_at_205 + 1)) (ty := .int) (C := RX1) (T := TX1) (N := 8) (wsN := (w_X1_readOrder cy A_t A_t_bytes t_length (t_at_205 + 1) t_error_206 r_2 t_positive t_negative t_play_207 t_bytes)) hx hb hts inX1 tyX1 tyX1_ok nmX1 hown hK hP hD hS 0 rfl rfl 2 (by decide) (hts _ q_185) (fun _ h9 => h9) rfl (by decide +kernel) rfl rfl (Nat.le_of_ble_eq_true rfl) rfl dX1_readOrder_164 (fun H locs hP hD hS => ?_)
                      refine lv_iconst (v := 1) hx hb dX1_readOrder_167 (by decide) ?_
                      cases hF
                      exact kret_z hx hb hr hlocks hP hD hS dX1_readOrder_168
                    · replace hF := ite_f c_212 hF
                      refine lv_aload_n hx hb dX1_readOrder_148 rfl (lv_at hl 1 rfl) ?_
                      refine lv_aload_n hx hb dX1_readOrder_149 rfl (lv_at hl 1 rfl) ?_
                      refine va_get (D := D) (ci := 1) (v := .int t_at_205) (C := RX1) (T := TX1) (N := 8) hx hb hts inX1 hown hK hP 0 rfl rfl 2 (by decide) (hts _ q_185) (fun _ h9 => h9) rfl dX1_readOrder_150 ?_
                      obtain ⟨r_213, t_error_214, hF_215, hF⟩ := ob2_some hF
                      refine kcV (q := (RX1, TX1, 8)) (ci := 1) (q0 := 0) (As := [.int t_at_205]) (rest := []) (wr := [(A_t_bytes, .inl (cy 0, 100, .inl t_bytes))]) (wsN := (w_X1_readOrder cy A_t A_t_bytes t_length t_at_205 t_error_214 r_2 t_positive t_negative t_play_207 t_bytes)) ⟨hx, hb, hml, hown, hts⟩ hE hP hD hS hA hAs [0] [1] [1, 0] (c_X1_fail l D cy s0 tW N A_t A_t_bytes t_at_205 t_length t_at_205 t_error_206 r_2 t_positive t_negative t_play_207 _ hF_215) (gV q_400 q_402 q_23 q_87 q_403) hd_X1_fail ⟨Nat.le_of_ble_eq_true rfl, Nat.le_of_ble_eq_true rfl⟩ rfl rfl rfl rfl rfl rfl rfl rfl rfl hl.1 rfl (Nat.le_of_ble_eq_true rfl) dX1_readOrder_153 ⟨Nat.zero_le _, Nat.zero_le _⟩ (fun H locs hP hD hS => ?_)
                      refine W.eq (g2 := F0 m 156 ls [.int (bI r_213)]) rfl ?_
                      cases hF
                      exact kret_z hx hb hr hlocks hP hD hS dX1_readOrder_156
                  · replace hF := ite_f (bI_f c_209) hF
                    refine lv_iconst (v := 0) hx hb dX1_readOrder_133 (by decide) ?_
                    cases hF
                    exact kret_z hx hb hr hlocks hP hD hS dX1_readOrder_134
              · replace hF := ite_t c_196 hF
                refine lv_aload_n hx hb dX1_readOrder_108 rfl (lv_at hl 1 rfl) ?_
                obtain ⟨r_216, t_at_217, t_error_218, t_positive_219, t_negative_220, hF_221, hF⟩ := ob5_some hF
                refine kcV (q := (RX1, TX1, 8)) (ci := 1) (q0 := 0) (As := []) (rest := []) (wr := []) (wsN := (w_X1_readOrder cy A_t A_t_bytes t_length t_at_217 t_error_218 r_2 t_positive_219 t_negative_220 t_play t_bytes)) ⟨hx, hb, hml, hown, hts⟩ hE hP hD hS hA hAs [0, 1] [] [0, 1] (c_X1_readLiterals l D cy s0 tW N A_t A_t_bytes t_length (t_at + 1) t_error r_2 t_positive t_negative t_play t_bytes _ hF_221) (gV q_404 q_406 q_24 q_87 q_407) hd_X1_readLiterals ⟨Nat.le_of_ble_eq_true rfl, Nat.le_of_ble_eq_true rfl⟩ rfl rfl rfl rfl rfl rfl rfl rfl rfl hl.1 rfl (Nat.le_of_ble_eq_true rfl) dX1_readOrder_109 ⟨Nat.zero_le _, Nat.zero_le _⟩ (fun H locs hP hD hS => ?_)
                refine W.eq (g2 := F0 m 112 ls [.int (bI r_216)]) rfl ?_
                refine lv_if_ne (tgt := 117) hx hb dX1_readOrder_112 (by decide) (fun c_222 => ?_) (fun c_222 => ?_)
                · replace hF := ite_t (bI_t c_222) hF
                  refine lv_aload_n hx hb dX1_readOrder_117 rfl (lv_at hl 1 rfl) ?_
                  refine va_get (D := D) (ci := 1) (v := .int r_2) (C := RX1) (T := TX1) (N := 8) hx hb hts inX1 hown hK hP 0 rfl rfl 4 (by decide) (hts _ q_187) (fun _ h9 => h9) rfl dX1_readOrder_118 ?_
                  refine lv_bipush (v := 108) hx hb dX1_readOrder_121 (by decide) ?_
                  refine lv_icmp_ne (tgt := 135) hx hb dX1_readOrder_123 (by decide) (fun c_223 => ?_) (fun c_223 => ?_)
                  · replace hF := ite_f c_223 hF
                    refine lv_aload_n hx hb dX1_readOrder_135 rfl (lv_at hl 1 rfl) ?_
                    refine lv_aload_n hx hb dX1_readOrder_136 rfl (lv_at hl 1 rfl) ?_
                    refine va_get (D := D) (ci := 1) (v := .int t_at_217) (C := RX1) (T := TX1) (N := 8) hx hb hts inX1 hown hK hP 0 rfl rfl 2 (by decide) (hts _ q_185) (fun _ h9 => h9) rfl dX1_readOrder_137 ?_
                    obtain ⟨r_224, hF_225, hF⟩ := ob1_some hF
                    refine kcV (q := (RX1, TX1, 8)) (ci := 1) (q0 := 0) (As := [.int t_at_217]) (rest := []) (wr := []) (wsN := (w_X1_readOrder cy A_t A_t_bytes t_length t_at_217 t_error_218 r_2 t_positive_219 t_negative_220 t_play t_bytes)) ⟨hx, hb, hml, hown, hts⟩ hE hP hD hS hA hAs [0, 1] [] [0, 1] (c_X1_byteAt l D cy s0 tW N A_t A_t_bytes t_at_217 t_length t_at_217 t_error_218 r_2 t_positive_219 t_negative_220 t_play t_bytes _ hF_225) (gV q_395 q_397 q_22 q_87 q_398) hd_X1_byteAt ⟨Nat.le_of_ble_eq_true rfl, Nat.le_of_ble_eq_true rfl⟩ rfl rfl rfl rfl rfl rfl rfl rfl rfl hl.1 rfl (Nat.le_of_ble_eq_true rfl) dX1_readOrder_140 ⟨Nat.zero_le _, Nat.zero_le _⟩ (fun H locs hP hD hS => ?_)
                    refine W.eq (g2 := F0 m 143 ls [.int r_224]) rfl ?_
                    refine lv_bipush (v := 59) hx hb dX1_readOrder_143 (by decide) ?_
                    refine lv_icmp_eq (tgt := 157) hx hb dX1_readOrder_145 (by decide) (fun c_226 => ?_) (fun c_226 => ?_)
                    · replace hF := ite_t c_226 hF
                      refine lv_aload_n hx hb dX1_readOrder_157 rfl (lv_at hl 1 rfl) ?_
                      refine lv_dup hx hb dX1_readOrder_158 rfl ?_
                      refine va_get (D := D) (ci := 1) (v := .int t_at_217) (C := RX1) (T := TX1) (N := 8) hx hb hts inX1 hown hK hP 0 rfl rfl 2 (by decide) (hts _ q_185) (fun _ h9 => h9) rfl dX1_readOrder_159 ?_
                      refine lv_iconst (v := 1) hx hb dX1_readOrder_162 (by decide) ?_
                      refine lv_iadd hx hb dX1_readOrder_163 ?_
                      refine ka_put (ci := 1) (v := .int (t_at_217 + 1)) (ty := .int) (C := RX1) (T := TX1) (N := 8) (wsN := (w_X1_readOrder cy A_t A_t_bytes t_length (t_at_217 + 1) t_error_218 r_2 t_positive_219 t_negative_220 t_play t_bytes)) hx hb hts inX1 tyX1 tyX1_ok nmX1 hown hK hP hD hS 0 rfl rfl 2 (by decide) (hts _ q_185) (fun _ h9 => h9) rfl (by decide +kernel) rfl rfl (Nat.le_of_ble_eq_true rfl) rfl dX1_readOrder_164 (fun H locs hP hD hS => ?_)
                      refine lv_iconst (v := 1) hx hb dX1_readOrder_167 (by decide) ?_
                      cases hF
                      exact kret_z hx hb hr hlocks hP hD hS dX1_readOrder_168
                    · replace hF := ite_f c_226 hF
                      refine lv_aload_n hx hb dX1_readOrder_148 rfl (lv_at hl 1 rfl) ?_
                      refine lv_aload_n hx hb dX1_readOrder_149 rfl (lv_at hl 1 rfl) ?_
                      refine va_get (D := D) (ci := 1) (v := .int t_at_217) (C := RX1) (T := TX1) (N := 8) hx hb hts inX1 hown hK hP 0 rfl rfl 2 (by decide) (hts _ q_185) (fun _ h9 => h9) rfl dX1_readOrder_150 ?_
                      obtain ⟨r_227, t_error_228, hF_229, hF⟩ := ob2_some hF
                      refine kcV (q := (RX1, TX1, 8)) (ci := 1) (q0 := 0) (As := [.int t_at_217]) (rest := []) (wr := [(A_t_bytes, .inl (cy 0, 100, .inl t_bytes))]) (wsN := (w_X1_readOrder cy A_t A_t_bytes t_length t_at_217 t_error_228 r_2 t_positive_219 t_negative_220 t_play t_bytes)) ⟨hx, hb, hml, hown, hts⟩ hE hP hD hS hA hAs [0] [1] [1, 0] (c_X1_fail l D cy s0 tW N A_t A_t_bytes t_at_217 t_length t_at_217 t_error_218 r_2 t_positive_219 t_negative_220 t_play _ hF_229) (gV q_400 q_402 q_23 q_87 q_403) hd_X1_fail ⟨Nat.le_of_ble_eq_true rfl, Nat.le_of_ble_eq_true rfl⟩ rfl rfl rfl rfl rfl rfl rfl rfl rfl hl.1 rfl (Nat.le_of_ble_eq_true rfl) dX1_readOrder_153 ⟨Nat.zero_le _, Nat.zero_le _⟩ (fun H locs hP hD hS => ?_)
                      refine W.eq (g2 := F0 m 156 ls [.int (bI r_227)]) rfl ?_
                      cases hF
                      exact kret_z hx hb hr hlocks hP hD hS dX1_readOrder_156
                  · replace hF := ite_t c_223 hF
                    refine lv_aload_n hx hb dX1_readOrder_126 rfl (lv_at hl 1 rfl) ?_
                    obtain ⟨r_230, t_at_231, t_error_232, t_play_233, hF_234, hF⟩ := ob4_some hF
                    refine kcV (q := (RX1, TX1, 8)) (ci := 1) (q0 := 0) (As := []) (rest := []) (wr := []) (wsN := (w_X1_readOrder cy A_t A_t_bytes t_length t_at_231 t_error_232 r_2 t_positive_219 t_negative_220 t_play_233 t_bytes)) ⟨hx, hb, hml, hown, hts⟩ hE hP hD hS hA hAs [0, 1] [] [0, 1] (c_X1_readPlay l D cy s0 tW N A_t A_t_bytes t_length t_at_217 t_error_218 r_2 t_positive_219 t_negative_220 t_play t_bytes _ hF_234) (gV q_408 q_410 q_25 q_87 q_411) hd_X1_readPlay ⟨Nat.le_of_ble_eq_true rfl, Nat.le_of_ble_eq_true rfl⟩ rfl rfl rfl rfl rfl rfl rfl rfl rfl hl.1 rfl (Nat.le_of_ble_eq_true rfl) dX1_readOrder_127 ⟨Nat.zero_le _, Nat.zero_le _⟩ (fun H locs hP hD hS => ?_)
                    refine W.eq (g2 := F0 m 130 ls [.int (bI r_230)]) rfl ?_
                    refine lv_if_ne (tgt := 135) hx hb dX1_readOrder_130 (by decide) (fun c_235 => ?_) (fun c_235 => ?_)
                    · replace hF := ite_t (bI_t c_235) hF
                      refine lv_aload_n hx hb dX1_readOrder_135 rfl (lv_at hl 1 rfl) ?_
                      refine lv_aload_n hx hb dX1_readOrder_136 rfl (lv_at hl 1 rfl) ?_
                      refine va_get (D := D) (ci := 1) (v := .int t_at_231) (C := RX1) (T := TX1) (N := 8) hx hb hts inX1 hown hK hP 0 rfl rfl 2 (by decide) (hts _ q_185) (fun _ h9 => h9) rfl dX1_readOrder_137 ?_
                      obtain ⟨r_236, hF_237, hF⟩ := ob1_some hF
                      refine kcV (q := (RX1, TX1, 8)) (ci := 1) (q0 := 0) (As := [.int t_at_231]) (rest := []) (wr := []) (wsN := (w_X1_readOrder cy A_t A_t_bytes t_length t_at_231 t_error_232 r_2 t_positive_219 t_negative_220 t_play_233 t_bytes)) ⟨hx, hb, hml, hown, hts⟩ hE hP hD hS hA hAs [0, 1] [] [0, 1] (c_X1_byteAt l D cy s0 tW N A_t A_t_bytes t_at_231 t_length t_at_231 t_error_232 r_2 t_positive_219 t_negative_220 t_play_233 t_bytes _ hF_237) (gV q_395 q_397 q_22 q_87 q_398) hd_X1_byteAt ⟨Nat.le_of_ble_eq_true rfl, Nat.le_of_ble_eq_true rfl⟩ rfl rfl rfl rfl rfl rfl rfl rfl rfl hl.1 rfl (Nat.le_of_ble_eq_true rfl) dX1_readOrder_140 ⟨Nat.zero_le _, Nat.zero_le _⟩ (fun H locs hP hD hS => ?_)
                      refine W.eq (g2 := F0 m 143 ls [.int r_236]) rfl ?_
                      refine lv_bipush (v := 59) hx hb dX1_readOrder_143 (by decide) ?_
                      refine lv_icmp_eq (tgt := 157) hx hb dX1_readOrder_145 (by decide) (fun c_238 => ?_) (fun c_238 => ?_)
                      · replace hF := ite_t c_238 hF
                        refine lv_aload_n hx hb dX1_readOrder_157 rfl (lv_at hl 1 rfl) ?_
                        refine lv_dup hx hb dX1_readOrder_158 rfl ?_
                        refine va_get (D := D) (ci := 1) (v := .int t_at_231) (C := RX1) (T := TX1) (N := 8) hx hb hts inX1 hown hK hP 0 rfl rfl 2 (by decide) (hts _ q_185) (fun _ h9 => h9) rfl dX1_readOrder_159 ?_
                        refine lv_iconst (v := 1) hx hb dX1_readOrder_162 (by decide) ?_
                        refine lv_iadd hx hb dX1_readOrder_163 ?_
                        refine ka_put (ci := 1) (v := .int (t_at_231 + 1)) (ty := .int) (C := RX1) (T := TX1) (N := 8) (wsN := (w_X1_readOrder cy A_t A_t_bytes t_length (t_at_231 + 1) t_error_232 r_2 t_positive_219 t_negative_220 t_play_233 t_bytes)) hx hb hts inX1 tyX1 tyX1_ok nmX1 hown hK hP hD hS 0 rfl rfl 2 (by decide) (hts _ q_185) (fun _ h9 => h9) rfl (by decide +kernel) rfl rfl (Nat.le_of_ble_eq_true rfl) rfl dX1_readOrder_164 (fun H locs hP hD hS => ?_)
                        refine lv_iconst (v := 1) hx hb dX1_readOrder_167 (by decide) ?_
                        cases hF
                        exact kret_z hx hb hr hlocks hP hD hS dX1_readOrder_168
                      · replace hF := ite_f c_238 hF
                        refine lv_aload_n hx hb dX1_readOrder_148 rfl (lv_at hl 1 rfl) ?_
                        refine lv_aload_n hx hb dX1_readOrder_149 rfl (lv_at hl 1 rfl) ?_
                        refine va_get (D := D) (ci := 1) (v := .int t_at_231) (C := RX1) (T := TX1) (N := 8) hx hb hts inX1 hown hK hP 0 rfl rfl 2 (by decide) (hts _ q_185) (fun _ h9 => h9) rfl dX1_readOrder_150 ?_
                        obtain ⟨r_239, t_error_240, hF_241, hF⟩ := ob2_some hF
                        refine kcV (q := (RX1, TX1, 8)) (ci := 1) (q0 := 0) (As := [.int t_at_231]) (rest := []) (wr := [(A_t_bytes, .inl (cy 0, 100, .inl t_bytes))]) (wsN := (w_X1_readOrder cy A_t A_t_bytes t_length t_at_231 t_error_240 r_2 t_positive_219 t_negative_220 t_play_233 t_bytes)) ⟨hx, hb, hml, hown, hts⟩ hE hP hD hS hA hAs [0] [1] [1, 0] (c_X1_fail l D cy s0 tW N A_t A_t_bytes t_at_231 t_length t_at_231 t_error_232 r_2 t_positive_219 t_negative_220 t_play_233 _ hF_241) (gV q_400 q_402 q_23 q_87 q_403) hd_X1_fail ⟨Nat.le_of_ble_eq_true rfl, Nat.le_of_ble_eq_true rfl⟩ rfl rfl rfl rfl rfl rfl rfl rfl rfl hl.1 rfl (Nat.le_of_ble_eq_true rfl) dX1_readOrder_153 ⟨Nat.zero_le _, Nat.zero_le _⟩ (fun H locs hP hD hS => ?_)
                        refine W.eq (g2 := F0 m 156 ls [.int (bI r_239)]) rfl ?_
                        cases hF
                        exact kret_z hx hb hr hlocks hP hD hS dX1_readOrder_156
                    · replace hF := ite_f (bI_f c_235) hF
                      refine lv_iconst (v := 0) hx hb dX1_readOrder_133 (by decide) ?_
                      cases hF
                      exact kret_z hx hb hr hlocks hP hD hS dX1_readOrder_134
                · replace hF := ite_f (bI_f c_222) hF
                  refine lv_iconst (v := 0) hx hb dX1_readOrder_115 (by decide) ?_
                  cases hF
                  exact kret_z hx hb hr hlocks hP hD hS dX1_readOrder_116
  · replace hF := ite_f c_1 hF
    refine lv_iconst (v := 0) hx hb dX1_readOrder_11 (by decide) ?_
    cases hF
    exact kret_z hx hb hr hlocks hP hD hS dX1_readOrder_12

theorem q_20 : Cond.selects RX1 yX1_rewind yX1_rewind ∈ wAll := wAll_mem 20 (by decide +kernel) (by decide +kernel)
theorem q_21 : Cond.selects RX1 yX1_readOrder yX1_readOrder ∈ wAll := wAll_mem 21 (by decide +kernel) (by decide +kernel)
theorem q_387 : Cond.methodLink RX1 29 yX1_rewind ∈ wAll := wAll_mem 387 (by decide +kernel) (by decide +kernel)
theorem q_389 : Cond.instanceMethod yX1_rewind ∈ wAll := wAll_mem 389 (by decide +kernel) (by decide +kernel)
theorem q_390 : Cond.code yX1_rewind cX1_rewind 1 none ∈ wAll := wAll_mem 390 (by decide +kernel) (by decide +kernel)
theorem q_391 : Cond.methodLink RX1 32 yX1_readOrder ∈ wAll := wAll_mem 391 (by decide +kernel) (by decide +kernel)
theorem q_393 : Cond.instanceMethod yX1_readOrder ∈ wAll := wAll_mem 393 (by decide +kernel) (by decide +kernel)
theorem q_394 : Cond.code yX1_readOrder cX1_readOrder 2 (some .boolean) ∈ wAll := wAll_mem 394 (by decide +kernel) (by decide +kernel)
theorem hd_X1_readOrder : yX1_readOrder.cls = RX1 ∧ yX1_readOrder.cls ≠ "java/lang/invoke/MethodHandle" ∧ yX1_readOrder.cls ≠ "java/lang/invoke/VarHandle" ∧ (parseMethodDescriptor yX1_readOrder.desc).map (fun d => d.parameters.length) = some 0 := by decide +kernel
theorem hd_X1_rewind : yX1_rewind.cls = RX1 ∧ yX1_rewind.cls ≠ "java/lang/invoke/MethodHandle" ∧ yX1_rewind.cls ≠ "java/lang/invoke/VarHandle" ∧ (parseMethodDescriptor yX1_rewind.desc).map (fun d => d.parameters.length) = some 0 := by decide +kernel
abbrev w_X1_syntaxError (cy : Nat → ClassId) (A_t : Nat) (A_t_bytes : Nat) (t_length : Int32) (t_at : Int32) (t_error : Int32) (t_kind : Int32) (t_positive : Int32) (t_negative : Int32) (t_play : Int32) (t_bytes : Nat → Int32) : va_W := [(A_t, .inr (1, [.ref A_t_bytes, .int t_length, .int t_at, .int t_error, .int t_kind, .int t_positive, .int t_negative, .int t_play])), (A_t_bytes, .inl (cy 0, 100, .inl t_bytes))]
def L_X1_syntaxError_6 (N : Nat) (t_length : Int32) (t_bytes : Nat → Int32) (kont : Int32 → Int32 → Int32 → Int32 → Int32 → Int32 → Option (Int32 × Int32 × Int32 × Int32 × Int32 × Int32 × Int32)) : Nat → Int32 → Int32 → Int32 → Int32 → Int32 → Int32 → Int32 → Option (Int32 × Int32 × Int32 × Int32 × Int32 × Int32 × Int32)
  | 0, _, _, _, _, _, _, _ => none
  | n + 1, v1_4, t_at_5, t_error_6, t_kind_7, t_positive_8, t_negative_9, t_play_10 => (if (50 : Int32) ≤ v1_4 then kont t_at_5 t_error_6 t_kind_7 t_positive_8 t_negative_9 t_play_10 else ob7 (F_X1_readOrder N t_bytes t_length t_at_5 t_error_6 t_kind_7 t_positive_8 t_negative_9 t_play_10) (fun r_18 t_at_19 t_error_20 t_kind_21 t_positive_22 t_negative_23 t_play_24 => (if r_18 = true then L_X1_syntaxError_6 N t_length t_bytes kont n (v1_4 + 1) t_at_19 t_error_20 t_kind_21 t_positive_22 t_negative_23 t_play_24 else kont t_at_19 t_error_20 t_kind_21 t_positive_22 t_negative_23 t_play_24)))
def F_X1_syntaxError (N : Nat) (t_bytes : Nat → Int32) (t_length : Int32) (t_at : Int32) (t_error : Int32) (t_kind : Int32) (t_positive : Int32) (t_negative : Int32) (t_play : Int32) : Option (Int32 × Int32 × Int32 × Int32 × Int32 × Int32 × Int32) :=
  ob2 (F_X1_rewind N t_at t_error) (fun t_at_1 t_error_2 => (L_X1_syntaxError_6 N t_length t_bytes (fun t_at_11 t_error_12 t_kind_13 t_positive_14 t_negative_15 t_play_16 => some (t_error_12, t_at_11, t_error_12, t_kind_13, t_positive_14, t_negative_15, t_play_16)) N 0 t_at_1 t_error_2 t_kind t_positive t_negative t_play))
set_option maxHeartbeats 4000000 in
set_option maxRecDepth 100000 in
theorem c_X1_syntaxError (l : Launch) (D : va_G) (cy : Nat → ClassId) (s0 tW N : Nat) (A_t : Nat) (A_t_bytes : Nat) (t_length : Int32) (t_at : Int32) (t_error : Int32) (t_kind : Int32) (t_positive : Int32) (t_negative : Int32) (t_play : Int32) (t_bytes : Nat → Int32) (sz : Nat) {r9 : Int32} {t_at9 : Int32} {t_error9 : Int32} {t_kind9 : Int32} {t_positive9 : Int32} {t_negative9 : Int32} {t_play9 : Int32} (hF : F_X1_syntaxError N t_bytes t_length t_at t_error t_kind t_positive t_negative t_play = some (r9, t_at9, t_error9, t_kind9, t_positive9, t_negative9, t_play9)) : KM l D cy s0 tW yX1_syntaxError cX1_syntaxError 2 (some .int) 4 85 [.ref A_t] sz (w_X1_syntaxError cy A_t A_t_bytes t_length t_at t_error t_kind t_positive t_negative t_play t_bytes) (some (.int r9)) (w_X1_syntaxError cy A_t A_t_bytes t_length t_at9 t_error9 t_kind9 t_positive9 t_negative9 t_play9 t_bytes) := by
  refine KM.intro rfl (Nat.le_of_ble_eq_true rfl) ?_
  intro p e s m args below meth c A ls hx hb hr hml hown hts hlocks hE hP hD hS hA hAs hl
  have hK := hE.1
  have hl : lv_has ls 2 [(0, .ref A_t)] := hl
  unfold F_X1_syntaxError at hF
  refine lv_aload_n hx hb dX1_syntaxError_0 rfl (lv_at hl 0 rfl) ?_
  obtain ⟨t_at_1, t_error_2, hF_3, hF⟩ := ob2_some hF
  refine kcV (q := (RX1, TX1, 8)) (ci := 1) (q0 := 0) (As := []) (rest := []) (wr := [(A_t_bytes, .inl (cy 0, 100, .inl t_bytes))]) (wsN := (w_X1_syntaxError cy A_t A_t_bytes t_length t_at_1 t_error_2 t_kind t_positive t_negative t_play t_bytes)) ⟨hx, hb, hml, hown, hts⟩ hE hP hD hS hA hAs [0] [1] [1, 0] (c_X1_rewind l D cy s0 tW N A_t A_t_bytes t_length t_at t_error t_kind t_positive t_negative t_play _ hF_3) (gV q_387 q_389 q_20 q_87 q_390) hd_X1_rewind ⟨Nat.le_of_ble_eq_true rfl, Nat.le_of_ble_eq_true rfl⟩ rfl rfl rfl rfl rfl rfl rfl rfl rfl hl.1 rfl (Nat.le_of_ble_eq_true rfl) dX1_syntaxError_1 ⟨Nat.zero_le _, Nat.zero_le _⟩ (fun H locs hP hD hS => ?_)
  refine W.eq (g2 := F0 m 4 ls []) rfl ?_
  refine lv_iconst (v := 0) hx hb dX1_syntaxError_4 (by decide) ?_
  refine lv_istore_n (lv' := [(1, .int 0), (0, .ref A_t)]) hx hb dX1_syntaxError_5 rfl hl (by decide) rfl (fun ls hl => ?_)
  have hloop_6 : ∀ (kont : Int32 → Int32 → Int32 → Int32 → Int32 → Int32 → Option (Int32 × Int32 × Int32 × Int32 × Int32 × Int32 × Int32)), (∀ (t_at_11 : Int32) (t_error_12 : Int32) (t_kind_13 : Int32) (t_positive_14 : Int32) (t_negative_15 : Int32) (t_play_16 : Int32) (H : Heap) (locs : List Loc) (ls : Array Slot), kont t_at_11 t_error_12 t_kind_13 t_positive_14 t_negative_15 t_play_16 = some (r9, t_at9, t_error9, t_kind9, t_positive9, t_negative9, t_play9) → va_P D vwCl (w_X1_syntaxError cy A_t A_t_bytes t_length t_at_11 t_error_12 t_kind_13 t_positive_14 t_negative_15 t_play_16 t_bytes) H → va_D A (w_X1_syntaxError cy A_t A_t_bytes t_length t_at_11 t_error_12 t_kind_13 t_positive_14 t_negative_15 t_play_16 t_bytes) → va_S A s.heap H locs → lv_has ls 2 [(0, .ref A_t)] → W p l e (rmK 4 85) s m args below meth c H locs 0 0 (MQ below (kQ (some (.int r9)) D A (w_X1_syntaxError cy A_t A_t_bytes t_length t_at9 t_error9 t_kind9 t_positive9 t_negative9 t_play9 t_bytes)) args s 0 0 A) (F0 m 25 ls [])) → ∀ (n : Nat) (v1_4 : Int32) (t_at_5 : Int32) (t_error_6 : Int32) (t_kind_7 : Int32) (t_positive_8 : Int32) (t_negative_9 : Int32) (t_play_10 : Int32) (H : Heap) (locs : List Loc) (ls : Array Slot), L_X1_syntaxError_6 N t_length t_bytes kont n v1_4 t_at_5 t_error_6 t_kind_7 t_positive_8 t_negative_9 t_play_10 = some (r9, t_at9, t_error9, t_kind9, t_positive9, t_negative9, t_play9) → va_P D vwCl (w_X1_syntaxError cy A_t A_t_bytes t_length t_at_5 t_error_6 t_kind_7 t_positive_8 t_negative_9 t_play_10 t_bytes) H → va_D A (w_X1_syntaxError cy A_t A_t_bytes t_length t_at_5 t_error_6 t_kind_7 t_positive_8 t_negative_9 t_play_10 t_bytes) → va_S A s.heap H locs → lv_has ls 2 [(0, .ref A_t), (1, .int v1_4)] → W p l e (rmK 4 85) s m args below meth c H locs 0 0 (MQ below (kQ (some (.int r9)) D A (w_X1_syntaxError cy A_t A_t_bytes t_length t_at9 t_error9 t_kind9 t_positive9 t_negative9 t_play9 t_bytes)) args s 0 0 A) (F0 m 6 ls []) := by
    intro kont hexit_6 n
    induction n with
    | zero =>
      intro v1_4 t_at_5 t_error_6 t_kind_7 t_positive_8 t_negative_9 t_play_10 H locs ls hF
      rw [L_X1_syntaxError_6] at hF
      cases hF
    | succ n ih =>
      intro v1_4 t_at_5 t_error_6 t_kind_7 t_positive_8 t_negative_9 t_play_10 H locs ls hF hP hD hS hl
      rw [L_X1_syntaxError_6] at hF
      refine lv_iload_n hx hb dX1_syntaxError_6 rfl (lv_at hl 1 rfl) ?_
      refine lv_bipush (v := 50) hx hb dX1_syntaxError_7 (by decide) ?_
      refine lv_icmp_ge (tgt := 25) hx hb dX1_syntaxError_9 (by decide) (fun c_17 => ?_) (fun c_17 => ?_)
      · replace hF := ite_t c_17 hF
        exact hexit_6 t_at_5 t_error_6 t_kind_7 t_positive_8 t_negative_9 t_play_10 H locs ls hF hP hD hS (lv_sub hl [0] rfl)
      · replace hF := ite_f c_17 hF
        refine lv_aload_n hx hb dX1_syntaxError_12 rfl (lv_at hl 0 rfl) ?_
        obtain ⟨r_18, t_at_19, t_error_20, t_kind_21, t_positive_22, t_negative_23, t_play_24, hF_25, hF⟩ := ob7_some hF
        refine kcV (q := (RX1, TX1, 8)) (ci := 1) (q0 := 0) (As := []) (rest := []) (wr := []) (wsN := (w_X1_syntaxError cy A_t A_t_bytes t_length t_at_19 t_error_20 t_kind_21 t_positive_22 t_negative_23 t_play_24 t_bytes)) ⟨hx, hb, hml, hown, hts⟩ hE hP hD hS hA hAs [0, 1] [] [0, 1] (c_X1_readOrder l D cy s0 tW N A_t A_t_bytes t_length t_at_5 t_error_6 t_kind_7 t_positive_8 t_negative_9 t_play_10 t_bytes _ hF_25) (gV q_391 q_393 q_21 q_87 q_394) hd_X1_readOrder ⟨Nat.le_of_ble_eq_true rfl, Nat.le_of_ble_eq_true rfl⟩ rfl rfl rfl rfl rfl rfl rfl rfl rfl hl.1 rfl (Nat.le_of_ble_eq_true rfl) dX1_syntaxError_13 ⟨Nat.zero_le _, Nat.zero_le _⟩ (fun H locs hP hD hS => ?_)
        refine W.eq (g2 := F0 m 16 ls [.int (bI r_18)]) rfl ?_
        refine lv_if_eq (tgt := 25) hx hb dX1_syntaxError_16 (by decide) (fun c_26 => ?_) (fun c_26 => ?_)
        · replace hF := ite_f (bI_f c_26) hF
          exact hexit_6 t_at_19 t_error_20 t_kind_21 t_positive_22 t_negative_23 t_play_24 H locs ls hF hP hD hS (lv_sub hl [0] rfl)
        · replace hF := ite_t (bI_t c_26) hF
          refine lv_iinc (v := (v1_4 + 1)) (lv' := [(1, .int (v1_4 + 1)), (0, .ref A_t)]) hx hb dX1_syntaxError_19 hl (k := 1) rfl (by first | rfl | decide) (by decide) rfl (fun ls hl => ?_)
          refine lv_goto (tgt := 6) hx hb dX1_syntaxError_22 (by decide) ?_
          exact ih (v1_4 + 1) t_at_19 t_error_20 t_kind_21 t_positive_22 t_negative_23 t_play_24 H locs ls hF hP hD hS (lv_sub hl [1, 0] rfl)
  refine hloop_6 _ (fun t_at_11 t_error_12 t_kind_13 t_positive_14 t_negative_15 t_play_16 H locs ls hF hP hD hS hl => ?_) N 0 t_at_1 t_error_2 t_kind t_positive t_negative t_play _ _ ls hF hP hD hS (lv_sub hl [1, 0] rfl)
  refine lv_aload_n hx hb dX1_syntaxError_25 rfl (lv_at hl 0 rfl) ?_
  refine va_get (D := D) (ci := 1) (v := .int t_error_12) (C := RX1) (T := TX1) (N := 8) hx hb hts inX1 hown hK hP 0 rfl rfl 3 (by decide) (hts _ q_186) (fun _ h9 => h9) rfl dX1_syntaxError_26 ?_
  cases hF
  exact kret_i hx hb hr hlocks hP hD hS dX1_syntaxError_29
