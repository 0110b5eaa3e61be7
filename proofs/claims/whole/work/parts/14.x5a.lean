theorem q_735 : Cond.fieldLink RX5 30 "ForAllGameModel" "thrown" "I" ∈ wAll := wAll_mem 735 (by decide +kernel) (by decide +kernel)
abbrev w_X5_thrown (cy : Nat → ClassId) (A_t : Nat) (A_t_s : Nat) (A_t_past : Nat) (A_t_begun : Nat) (A_t_text : Nat) (A_t_wins : Nat) (A_t_fits : Nat) (t_pasts : Int32) (t_thrown : Int32) (t_typed : Int32) (t_at : Int32) (t_letter : Int32) (t_one : Int32) (t_other : Int32) : va_W := [(A_t, .inr (5, [.ref A_t_s, .ref A_t_past, .ref A_t_begun, .int t_pasts, .int t_thrown, .ref A_t_text, .int t_typed, .int t_at, .int t_letter, .int t_one, .int t_other, .ref A_t_wins, .ref A_t_fits]))]
def F_X5_thrown (N : Nat) (t_thrown : Int32) : Option (Int32) :=
  some t_thrown
set_option maxHeartbeats 4000000 in
set_option maxRecDepth 100000 in
theorem c_X5_thrown (l : Launch) (D : va_G) (cy : Nat → ClassId) (s0 tW N : Nat) (A_t : Nat) (A_t_s : Nat) (A_t_past : Nat) (A_t_begun : Nat) (A_t_text : Nat) (A_t_wins : Nat) (A_t_fits : Nat) (t_pasts : Int32) (t_thrown : Int32) (t_typed : Int32) (t_at : Int32) (t_letter : Int32) (t_one : Int32) (t_other : Int32) (sz : Nat) {r9 : Int32} (hF : F_X5_thrown N t_thrown = some r9) : KM l D cy s0 tW yX5_thrown cX5_thrown 1 (some .int) 0 0 [.ref A_t] sz (w_X5_thrown cy A_t A_t_s A_t_past A_t_begun A_t_text A_t_wins A_t_fits t_pasts t_thrown t_typed t_at t_letter t_one t_other) (some (.int r9)) (w_X5_thrown cy A_t A_t_s A_t_past A_t_begun A_t_text A_t_wins A_t_fits t_pasts t_thrown t_typed t_at t_letter t_one t_other) := by
  refine KM.intro rfl (Nat.le_of_ble_eq_true rfl) ?_
  intro p e s m args below meth c A ls hx hb hr hml hown hts hlocks hE hP hD hS hA hAs hl
  have hK := hE.1
  have hl : lv_has ls 1 [(0, .ref A_t)] := hl
  unfold F_X5_thrown at hF
  refine lv_aload_n hx hb dX5_thrown_0 rfl (lv_at hl 0 rfl) ?_
  refine va_get (D := D) (ci := 5) (v := .int t_thrown) (C := RX5) (T := TX5) (N := 13) hx hb hts inX5 hown hK hP 0 rfl rfl 4 (by decide) (hts _ q_735) (fun _ h9 => h9) rfl dX5_thrown_1 ?_
  cases hF
  exact kret_i hx hb hr hlocks hP hD hS dX5_thrown_4

def F_X5_in (N : Nat) (p0 : Int32) (p1 : Int32) (p2 : Int32) : Option (Bool) :=
  (if p0 < p1 then some false else (if p2 < p0 then some false else some true))
set_option maxHeartbeats 4000000 in
set_option maxRecDepth 100000 in
theorem c_X5_in (l : Launch) (D : va_G) (cy : Nat → ClassId) (s0 tW N : Nat) (p0 : Int32) (p1 : Int32) (p2 : Int32) (sz : Nat) {r9 : Bool} (hF : F_X5_in N p0 p1 p2 = some r9) : KM l D cy s0 tW yX5_in cX5_in 3 (some .boolean) 0 0 [.int p0, .int p1, .int p2] sz [] (some (.int (bI r9))) [] := by
  refine KM.intro rfl (Nat.le_of_ble_eq_true rfl) ?_
  intro p e s m args below meth c A ls hx hb hr hml hown hts hlocks hE hP hD hS hA hAs hl
  have hK := hE.1
  have hl : lv_has ls 3 [(0, .int p0), (1, .int p1), (2, .int p2)] := hl
  unfold F_X5_in at hF
  refine lv_iload_n hx hb dX5_in_0 rfl (lv_at hl 0 rfl) ?_
  refine lv_iload_n hx hb dX5_in_1 rfl (lv_at hl 1 rfl) ?_
  refine lv_icmp_lt (tgt := 14) hx hb dX5_in_2 (by decide) (fun c_1 => ?_) (fun c_1 => ?_)
  · replace hF := ite_t c_1 hF
    refine lv_iconst (v := 0) hx hb dX5_in_14 (by decide) ?_
    cases hF
    exact kret_z hx hb hr hlocks hP hD hS dX5_in_15
  · replace hF := ite_f c_1 hF
    refine lv_iload_n hx hb dX5_in_5 rfl (lv_at hl 0 rfl) ?_
    refine lv_iload_n hx hb dX5_in_6 rfl (lv_at hl 2 rfl) ?_
    refine lv_icmp_gt (tgt := 14) hx hb dX5_in_7 (by decide) (fun c_2 => ?_) (fun c_2 => ?_)
    · replace hF := ite_t c_2 hF
      refine lv_iconst (v := 0) hx hb dX5_in_14 (by decide) ?_
      cases hF
      exact kret_z hx hb hr hlocks hP hD hS dX5_in_15
    · replace hF := ite_f c_2 hF
      refine lv_iconst (v := 1) hx hb dX5_in_10 (by decide) ?_
      refine lv_goto (tgt := 15) hx hb dX5_in_11 (by decide) ?_
      cases hF
      exact kret_z hx hb hr hlocks hP hD hS dX5_in_15

abbrev w_X5_fails (cy : Nat → ClassId) (A_t : Nat) (A_t_s : Nat) (A_t_past : Nat) (A_t_begun : Nat) (A_t_text : Nat) (A_t_wins : Nat) (A_t_fits : Nat) (t_pasts : Int32) (t_thrown : Int32) (t_typed : Int32) (t_at : Int32) (t_letter : Int32) (t_one : Int32) (t_other : Int32) : va_W := [(A_t, .inr (5, [.ref A_t_s, .ref A_t_past, .ref A_t_begun, .int t_pasts, .int t_thrown, .ref A_t_text, .int t_typed, .int t_at, .int t_letter, .int t_one, .int t_other, .ref A_t_wins, .ref A_t_fits]))]
def F_X5_fails (N : Nat) (p0 : Int32) (t_thrown : Int32) : Option (Int32 × Int32) :=
  some (0, p0)
set_option maxHeartbeats 4000000 in
set_option maxRecDepth 100000 in
theorem c_X5_fails (l : Launch) (D : va_G) (cy : Nat → ClassId) (s0 tW N : Nat) (A_t : Nat) (A_t_s : Nat) (A_t_past : Nat) (A_t_begun : Nat) (A_t_text : Nat) (A_t_wins : Nat) (A_t_fits : Nat) (p0 : Int32) (t_pasts : Int32) (t_thrown : Int32) (t_typed : Int32) (t_at : Int32) (t_letter : Int32) (t_one : Int32) (t_other : Int32) (sz : Nat) {r9 : Int32} {t_thrown9 : Int32} (hF : F_X5_fails N p0 t_thrown = some (r9, t_thrown9)) : KM l D cy s0 tW yX5_fails cX5_fails 2 (some .int) 0 0 [.ref A_t, .int p0] sz (w_X5_fails cy A_t A_t_s A_t_past A_t_begun A_t_text A_t_wins A_t_fits t_pasts t_thrown t_typed t_at t_letter t_one t_other) (some (.int r9)) (w_X5_fails cy A_t A_t_s A_t_past A_t_begun A_t_text A_t_wins A_t_fits t_pasts t_thrown9 t_typed t_at t_letter t_one t_other) := by
  refine KM.intro rfl (Nat.le_of_ble_eq_true rfl) ?_
  intro p e s m args below meth c A ls hx hb hr hml hown hts hlocks hE hP hD hS hA hAs hl
  have hK := hE.1
  have hl : lv_has ls 2 [(0, .ref A_t), (1, .int p0)] := hl
  unfold F_X5_fails at hF
  refine lv_aload_n hx hb dX5_fails_0 rfl (lv_at hl 0 rfl) ?_
  refine lv_iload_n hx hb dX5_fails_1 rfl (lv_at hl 1 rfl) ?_
  refine ka_put (ci := 5) (v := .int p0) (ty := .int) (C := RX5) (T := TX5) (N := 13) (wsN := (w_X5_fails cy A_t A_t_s A_t_past A_t_begun A_t_text A_t_wins A_t_fits t_pasts p0 t_typed t_at t_letter t_one t_other)) hx hb hts inX5 tyX5 tyX5_ok nmX5 hown hK hP hD hS 0 rfl rfl 4 (by decide) (hts _ q_735) (fun _ h9 => h9) rfl (by decide +kernel) rfl rfl (Nat.le_of_ble_eq_true rfl) rfl dX5_fails_2 (fun H locs hP hD hS => ?_)
  refine lv_iconst (v := 0) hx hb dX5_fails_5 (by decide) ?_
  cases hF
  exact kret_i hx hb hr hlocks hP hD hS dX5_fails_6

abbrev w_X5_tells (cy : Nat → ClassId) (A_t : Nat) (A_t_s : Nat) (A_t_past : Nat) (A_t_begun : Nat) (A_t_text : Nat) (A_t_wins : Nat) (A_t_fits : Nat) (t_pasts : Int32) (t_thrown : Int32) (t_typed : Int32) (t_at : Int32) (t_letter : Int32) (t_one : Int32) (t_other : Int32) : va_W := [(A_t, .inr (5, [.ref A_t_s, .ref A_t_past, .ref A_t_begun, .int t_pasts, .int t_thrown, .ref A_t_text, .int t_typed, .int t_at, .int t_letter, .int t_one, .int t_other, .ref A_t_wins, .ref A_t_fits]))]
def F_X5_tells (N : Nat) (p0 : Int32) (t_thrown : Int32) : Option (Int32 × Int32) :=
  some (p0, 0)
set_option maxHeartbeats 4000000 in
set_option maxRecDepth 100000 in
theorem c_X5_tells (l : Launch) (D : va_G) (cy : Nat → ClassId) (s0 tW N : Nat) (A_t : Nat) (A_t_s : Nat) (A_t_past : Nat) (A_t_begun : Nat) (A_t_text : Nat) (A_t_wins : Nat) (A_t_fits : Nat) (p0 : Int32) (t_pasts : Int32) (t_thrown : Int32) (t_typed : Int32) (t_at : Int32) (t_letter : Int32) (t_one : Int32) (t_other : Int32) (sz : Nat) {r9 : Int32} {t_thrown9 : Int32} (hF : F_X5_tells N p0 t_thrown = some (r9, t_thrown9)) : KM l D cy s0 tW yX5_tells cX5_tells 2 (some .int) 0 0 [.ref A_t, .int p0] sz (w_X5_tells cy A_t A_t_s A_t_past A_t_begun A_t_text A_t_wins A_t_fits t_pasts t_thrown t_typed t_at t_letter t_one t_other) (some (.int r9)) (w_X5_tells cy A_t A_t_s A_t_past A_t_begun A_t_text A_t_wins A_t_fits t_pasts t_thrown9 t_typed t_at t_letter t_one t_other) := by
  refine KM.intro rfl (Nat.le_of_ble_eq_true rfl) ?_
  intro p e s m args below meth c A ls hx hb hr hml hown hts hlocks hE hP hD hS hA hAs hl
  have hK := hE.1
  have hl : lv_has ls 2 [(0, .ref A_t), (1, .int p0)] := hl
  unfold F_X5_tells at hF
  refine lv_aload_n hx hb dX5_tells_0 rfl (lv_at hl 0 rfl) ?_
  refine lv_iconst (v := 0) hx hb dX5_tells_1 (by decide) ?_
  refine ka_put (ci := 5) (v := .int 0) (ty := .int) (C := RX5) (T := TX5) (N := 13) (wsN := (w_X5_tells cy A_t A_t_s A_t_past A_t_begun A_t_text A_t_wins A_t_fits t_pasts 0 t_typed t_at t_letter t_one t_other)) hx hb hts inX5 tyX5 tyX5_ok nmX5 hown hK hP hD hS 0 rfl rfl 4 (by decide) (hts _ q_735) (fun _ h9 => h9) rfl (by decide +kernel) rfl rfl (Nat.le_of_ble_eq_true rfl) rfl dX5_tells_2 (fun H locs hP hD hS => ?_)
  refine lv_iload_n hx hb dX5_tells_5 rfl (lv_at hl 1 rfl) ?_
  cases hF
  exact kret_i hx hb hr hlocks hP hD hS dX5_tells_6

abbrev w_X5_is (cy : Nat → ClassId) (A_t : Nat) (A_t_s : Nat) (A_t_past : Nat) (A_t_begun : Nat) (A_t_text : Nat) (A_t_wins : Nat) (A_t_fits : Nat) (t_pasts : Int32) (t_thrown : Int32) (t_typed : Int32) (t_at : Int32) (t_letter : Int32) (t_one : Int32) (t_other : Int32) : va_W := [(A_t, .inr (5, [.ref A_t_s, .ref A_t_past, .ref A_t_begun, .int t_pasts, .int t_thrown, .ref A_t_text, .int t_typed, .int t_at, .int t_letter, .int t_one, .int t_other, .ref A_t_wins, .ref A_t_fits]))]
def F_X5_is (N : Nat) (p0 : Bool) (t_thrown : Int32) : Option (Bool × Int32) :=
  some (p0, 0)
set_option maxHeartbeats 4000000 in
set_option maxRecDepth 100000 in
theorem c_X5_is (l : Launch) (D : va_G) (cy : Nat → ClassId) (s0 tW N : Nat) (A_t : Nat) (A_t_s : Nat) (A_t_past : Nat) (A_t_begun : Nat) (A_t_text : Nat) (A_t_wins : Nat) (A_t_fits : Nat) (p0 : Bool) (t_pasts : Int32) (t_thrown : Int32) (t_typed : Int32) (t_at : Int32) (t_letter : Int32) (t_one : Int32) (t_other : Int32) (sz : Nat) {r9 : Bool} {t_thrown9 : Int32} (hF : F_X5_is N p0 t_thrown = some (r9, t_thrown9)) : KM l D cy s0 tW yX5_is cX5_is 2 (some .boolean) 0 0 [.ref A_t, .int (bI p0)] sz (w_X5_is cy A_t A_t_s A_t_past A_t_begun A_t_text A_t_wins A_t_fits t_pasts t_thrown t_typed t_at t_letter t_one t_other) (some (.int (bI r9))) (w_X5_is cy A_t A_t_s A_t_past A_t_begun A_t_text A_t_wins A_t_fits t_pasts t_thrown9 t_typed t_at t_letter t_one t_other) := by
  refine KM.intro rfl (Nat.le_of_ble_eq_true rfl) ?_
  intro p e s m args below meth c A ls hx hb hr hml hown hts hlocks hE hP hD hS hA hAs hl
  have hK := hE.1
  have hl : lv_has ls 2 [(0, .ref A_t), (1, .int (bI p0))] := hl
  unfold F_X5_is at hF
  refine lv_aload_n hx hb dX5_is_0 rfl (lv_at hl 0 rfl) ?_
  refine lv_iconst (v := 0) hx hb dX5_is_1 (by decide) ?_
  refine ka_put (ci := 5) (v := .int 0) (ty := .int) (C := RX5) (T := TX5) (N := 13) (wsN := (w_X5_is cy A_t A_t_s A_t_past A_t_begun A_t_text A_t_wins A_t_fits t_pasts 0 t_typed t_at t_letter t_one t_other)) hx hb hts inX5 tyX5 tyX5_ok nmX5 hown hK hP hD hS 0 rfl rfl 4 (by decide) (hts _ q_735) (fun _ h9 => h9) rfl (by decide +kernel) rfl rfl (Nat.le_of_ble_eq_true rfl) rfl dX5_is_2 (fun H locs hP hD hS => ?_)
  refine lv_iload_n hx hb dX5_is_5 rfl (lv_at hl 1 rfl) ?_
  cases hF
  exact kret_z hx hb hr hlocks hP hD hS dX5_is_6

theorem q_731 : Cond.fieldLink RX5 7 "ForAllGameModel" "s" "[I" ∈ wAll := wAll_mem 731 (by decide +kernel) (by decide +kernel)
theorem q_733 : Cond.fieldLink RX5 16 "ForAllGameModel" "begun" "[I" ∈ wAll := wAll_mem 733 (by decide +kernel) (by decide +kernel)
abbrev w_X5_begins (cy : Nat → ClassId) (A_t : Nat) (A_t_s : Nat) (A_t_past : Nat) (A_t_begun : Nat) (A_t_text : Nat) (A_t_wins : Nat) (A_t_fits : Nat) (t_pasts : Int32) (t_thrown : Int32) (t_typed : Int32) (t_at : Int32) (t_letter : Int32) (t_one : Int32) (t_other : Int32) (t_s : Nat → Int32) (t_begun : Nat → Int32) : va_W := [(A_t, .inr (5, [.ref A_t_s, .ref A_t_past, .ref A_t_begun, .int t_pasts, .int t_thrown, .ref A_t_text, .int t_typed, .int t_at, .int t_letter, .int t_one, .int t_other, .ref A_t_wins, .ref A_t_fits])), (A_t_s, .inl (cy 0, 45, .inl t_s)), (A_t_begun, .inl (cy 0, 45, .inl t_begun))]
def L_X5_begins_2 (N : Nat) (t_s : Nat → Int32) (kont : (Nat → Int32) → Option ((Nat → Int32))) : Nat → Int32 → (Nat → Int32) → Option ((Nat → Int32))
  | 0, _, _ => none
  | n + 1, v1_1, t_begun_2 => (if (45 : Int32) ≤ v1_1 then kont t_begun_2 else gd (inb v1_1 45) (gd (inb v1_1 45) (L_X5_begins_2 N t_s kont n (v1_1 + 1) (upd t_begun_2 v1_1.toNatClampNeg (t_s v1_1.toNatClampNeg)))))
def F_X5_begins (N : Nat) (t_s : Nat → Int32) (t_begun : Nat → Int32) : Option ((Nat → Int32)) :=
  (L_X5_begins_2 N t_s (fun t_begun_3 => some t_begun_3) N 0 t_begun)
set_option maxHeartbeats 4000000 in
set_option maxRecDepth 100000 in
theorem c_X5_begins (l : Launch) (D : va_G) (cy : Nat → ClassId) (s0 tW N : Nat) (A_t : Nat) (A_t_s : Nat) (A_t_past : Nat) (A_t_begun : Nat) (A_t_text : Nat) (A_t_wins : Nat) (A_t_fits : Nat) (t_pasts : Int32) (t_thrown : Int32) (t_typed : Int32) (t_at : Int32) (t_letter : Int32) (t_one : Int32) (t_other : Int32) (t_s : Nat → Int32) (t_begun : Nat → Int32) (sz : Nat) {t_begun9 : Nat → Int32} (hF : F_X5_begins N t_s t_begun = some t_begun9) : KM l D cy s0 tW yX5_begins cX5_begins 2 none 0 0 [.ref A_t] sz (w_X5_begins cy A_t A_t_s A_t_past A_t_begun A_t_text A_t_wins A_t_fits t_pasts t_thrown t_typed t_at t_letter t_one t_other t_s t_begun) none (w_X5_begins cy A_t A_t_s A_t_past A_t_begun A_t_text A_t_wins A_t_fits t_pasts t_thrown t_typed t_at t_letter t_one t_other t_s t_begun9) := by
  refine KM.intro rfl (Nat.le_of_ble_eq_true rfl) ?_
  intro p e s m args below meth c A ls hx hb hr hml hown hts hlocks hE hP hD hS hA hAs hl
  have hK := hE.1
  have hl : lv_has ls 2 [(0, .ref A_t)] := hl
  unfold F_X5_begins at hF
  refine lv_iconst (v := 0) hx hb dX5_begins_0 (by decide) ?_
  refine lv_istore_n (lv' := [(1, .int 0), (0, .ref A_t)]) hx hb dX5_begins_1 rfl hl (by decide) rfl (fun ls hl => ?_)
  have hloop_2 : ∀ (kont : (Nat → Int32) → Option ((Nat → Int32))), (∀ (t_begun_3 : Nat → Int32) (H : Heap) (locs : List Loc) (ls : Array Slot), kont t_begun_3 = some t_begun9 → va_P D vwCl (w_X5_begins cy A_t A_t_s A_t_past A_t_begun A_t_text A_t_wins A_t_fits t_pasts t_thrown t_typed t_at t_letter t_one t_other t_s t_begun_3) H → va_D A (w_X5_begins cy A_t A_t_s A_t_past A_t_begun A_t_text A_t_wins A_t_fits t_pasts t_thrown t_typed t_at t_letter t_one t_other t_s t_begun_3) → va_S A s.heap H locs → lv_has ls 2 [] → W p l e (rmK 0 0) s m args below meth c H locs 0 0 (MQ below (kQ none D A (w_X5_begins cy A_t A_t_s A_t_past A_t_begun A_t_text A_t_wins A_t_fits t_pasts t_thrown t_typed t_at t_letter t_one t_other t_s t_begun9)) args s 0 0 A) (F0 m 26 ls [])) → ∀ (n : Nat) (v1_1 : Int32) (t_begun_2 : Nat → Int32) (H : Heap) (locs : List Loc) (ls : Array Slot), L_X5_begins_2 N t_s kont n v1_1 t_begun_2 = some t_begun9 → va_P D vwCl (w_X5_begins cy A_t A_t_s A_t_past A_t_begun A_t_text A_t_wins A_t_fits t_pasts t_thrown t_typed t_at t_letter t_one t_other t_s t_begun_2) H → va_D A (w_X5_begins cy A_t A_t_s A_t_past A_t_begun A_t_text A_t_wins A_t_fits t_pasts t_thrown t_typed t_at t_letter t_one t_other t_s t_begun_2) → va_S A s.heap H locs → lv_has ls 2 [(0, .ref A_t), (1, .int v1_1)] → W p l e (rmK 0 0) s m args below meth c H locs 0 0 (MQ below (kQ none D A (w_X5_begins cy A_t A_t_s A_t_past A_t_begun A_t_text A_t_wins A_t_fits t_pasts t_thrown t_typed t_at t_letter t_one t_other t_s t_begun9)) args s 0 0 A) (F0 m 2 ls []) := by
    intro kont hexit_2 n
    induction n with
    | zero =>
      intro v1_1 t_begun_2 H locs ls hF
      rw [L_X5_begins_2] at hF
      cases hF
    | succ n ih =>
      intro v1_1 t_begun_2 H locs ls hF hP hD hS hl
      rw [L_X5_begins_2] at hF
      refine lv_iload_n hx hb dX5_begins_2 rfl (lv_at hl 1 rfl) ?_
      refine lv_bipush (v := 45) hx hb dX5_begins_3 (by decide) ?_
      refine lv_icmp_ge (tgt := 26) hx hb dX5_begins_5 (by decide) (fun c_4 => ?_) (fun c_4 => ?_)
      · replace hF := ite_t c_4 hF
        exact hexit_2 t_begun_2 H locs ls hF hP hD hS (lv_sub hl [] rfl)
      · replace hF := ite_f c_4 hF
        refine lv_aload_n hx hb dX5_begins_8 rfl (lv_at hl 0 rfl) ?_
        refine va_get (D := D) (ci := 5) (v := .ref A_t_begun) (C := RX5) (T := TX5) (N := 13) hx hb hts inX5 hown hK hP 0 rfl rfl 2 (by decide) (hts _ q_733) (fun _ h9 => h9) rfl dX5_begins_9 ?_
        refine lv_iload_n hx hb dX5_begins_12 rfl (lv_at hl 1 rfl) ?_
        refine lv_aload_n hx hb dX5_begins_13 rfl (lv_at hl 0 rfl) ?_
        refine va_get (D := D) (ci := 5) (v := .ref A_t_s) (C := RX5) (T := TX5) (N := 13) hx hb hts inX5 hown hK hP 0 rfl rfl 0 (by decide) (hts _ q_731) (fun _ h9 => h9) rfl dX5_begins_14 ?_
        refine lv_iload_n hx hb dX5_begins_17 rfl (lv_at hl 1 rfl) ?_
        obtain ⟨hi_5, hF⟩ := gd_some hF
        refine ka_iald hx hb hK hP 1 rfl (v1_1.toNatClampNeg) rfl (inb_in hi_5) dX5_begins_18 ?_
        obtain ⟨hi_6, hF⟩ := gd_some hF
        refine ka_iast (wsN := (w_X5_begins cy A_t A_t_s A_t_past A_t_begun A_t_text A_t_wins A_t_fits t_pasts t_thrown t_typed t_at t_letter t_one t_other t_s (upd t_begun_2 v1_1.toNatClampNeg (t_s v1_1.toNatClampNeg)))) hx hb hK hP hD hS 2 rfl (v1_1.toNatClampNeg) rfl (inb_in hi_6) rfl dX5_begins_19 (fun H locs hP hD hS => ?_)
        refine lv_iinc (v := (v1_1 + 1)) (lv' := [(1, .int (v1_1 + 1)), (0, .ref A_t)]) hx hb dX5_begins_20 hl (k := 1) rfl (by first | rfl | decide) (by decide) rfl (fun ls hl => ?_)
        refine lv_goto (tgt := 2) hx hb dX5_begins_23 (by decide) ?_
        exact ih (v1_1 + 1) (upd t_begun_2 v1_1.toNatClampNeg (t_s v1_1.toNatClampNeg)) H locs ls hF hP hD hS (lv_sub hl [1, 0] rfl)
  refine hloop_2 _ (fun t_begun_3 H locs ls hF hP hD hS hl => ?_) N 0 t_begun _ _ ls hF hP hD hS (lv_sub hl [1, 0] rfl)
  cases hF
  exact kret_v hx hb hr hlocks hP hD hS dX5_begins_26

theorem q_48 : Cond.selects RX5 yX5_tells yX5_tells ∈ wAll := wAll_mem 48 (by decide +kernel) (by decide +kernel)
theorem q_88 : Cond.initialized RX5 ∈ wAll := wAll_mem 88 (by decide +kernel) (by decide +kernel)
theorem q_732 : Cond.fieldLink RX5 13 "ForAllGameModel" "past" "[I" ∈ wAll := wAll_mem 732 (by decide +kernel) (by decide +kernel)
theorem q_734 : Cond.fieldLink RX5 34 "ForAllGameModel" "pasts" "I" ∈ wAll := wAll_mem 734 (by decide +kernel) (by decide +kernel)
theorem q_788 : Cond.methodLink RX5 37 yX5_tells ∈ wAll := wAll_mem 788 (by decide +kernel) (by decide +kernel)
theorem q_790 : Cond.instanceMethod yX5_tells ∈ wAll := wAll_mem 790 (by decide +kernel) (by decide +kernel)
theorem q_791 : Cond.code yX5_tells cX5_tells 2 (some .int) ∈ wAll := wAll_mem 791 (by decide +kernel) (by decide +kernel)
theorem hd_X5_tells : yX5_tells.cls = RX5 ∧ yX5_tells.cls ≠ "java/lang/invoke/MethodHandle" ∧ yX5_tells.cls ≠ "java/lang/invoke/VarHandle" ∧ (parseMethodDescriptor yX5_tells.desc).map (fun d => d.parameters.length) = some 1 := by decide +kernel
abbrev w_X5_saved (cy : Nat → ClassId) (A_t : Nat) (A_t_s : Nat) (A_t_past : Nat) (A_t_begun : Nat) (A_t_text : Nat) (A_t_wins : Nat) (A_t_fits : Nat) (t_pasts : Int32) (t_thrown : Int32) (t_typed : Int32) (t_at : Int32) (t_letter : Int32) (t_one : Int32) (t_other : Int32) (t_past : Nat → Int32) (t_begun : Nat → Int32) : va_W := [(A_t, .inr (5, [.ref A_t_s, .ref A_t_past, .ref A_t_begun, .int t_pasts, .int t_thrown, .ref A_t_text, .int t_typed, .int t_at, .int t_letter, .int t_one, .int t_other, .ref A_t_wins, .ref A_t_fits])), (A_t_past, .inl (cy 0, 180, .inl t_past)), (A_t_begun, .inl (cy 0, 45, .inl t_begun))]
def L_X5_saved_50 (N : Nat) (t_begun : Nat → Int32) (kont : (Nat → Int32) → Int32 → Int32 → Option (Int32 × (Nat → Int32) × Int32 × Int32)) : Nat → Int32 → (Nat → Int32) → Int32 → Int32 → Option (Int32 × (Nat → Int32) × Int32 × Int32)
  | 0, _, _, _, _ => none
  | n + 1, v2_2, t_past_3, t_pasts_4, t_thrown_5 => (if (45 : Int32) ≤ v2_2 then kont t_past_3 t_pasts_4 t_thrown_5 else gd (inb v2_2 45) (gd (inb ((45 * t_pasts_4) + v2_2) 180) (L_X5_saved_50 N t_begun kont n (v2_2 + 1) (upd t_past_3 (((45 * t_pasts_4) + v2_2).toNatClampNeg) (t_begun v2_2.toNatClampNeg)) t_pasts_4 t_thrown_5)))
def L_X5_saved_10 (N : Nat)  (kont : (Nat → Int32) → Option (Int32 × (Nat → Int32) × Int32 × Int32)) : Nat → Int32 → (Nat → Int32) → Option (Int32 × (Nat → Int32) × Int32 × Int32)
  | 0, _, _ => none
  | n + 1, v2_15, t_past_16 => (if (135 : Int32) ≤ v2_15 then kont t_past_16 else gd (inb (v2_15 + 45) 180) (gd (inb v2_15 180) (L_X5_saved_10 N  kont n (v2_15 + 1) (upd t_past_16 v2_15.toNatClampNeg (t_past_16 ((v2_15 + 45).toNatClampNeg))))))
def F_X5_saved (N : Nat) (p0 : Int32) (t_past : Nat → Int32) (t_begun : Nat → Int32) (t_pasts : Int32) (t_thrown : Int32) : Option (Int32 × (Nat → Int32) × Int32 × Int32) :=
  (if t_pasts = (4 : Int32) then (L_X5_saved_10 N  (fun t_past_17 => (L_X5_saved_50 N t_begun (fun t_past_25 t_pasts_26 t_thrown_27 => ob2 (F_X5_tells N p0 t_thrown_27) (fun r_31 t_thrown_32 => some (r_31, t_past_25, (t_pasts_26 + 1), t_thrown_32))) N 0 t_past_17 (t_pasts - 1) t_thrown)) N 0 t_past) else (L_X5_saved_50 N t_begun (fun t_past_6 t_pasts_7 t_thrown_8 => ob2 (F_X5_tells N p0 t_thrown_8) (fun r_12 t_thrown_13 => some (r_12, t_past_6, (t_pasts_7 + 1), t_thrown_13))) N 0 t_past t_pasts t_thrown))
set_option maxHeartbeats 4000000 in
set_option maxRecDepth 100000 in
theorem c_X5_saved (l : Launch) (D : va_G) (cy : Nat → ClassId) (s0 tW N : Nat) (A_t : Nat) (A_t_s : Nat) (A_t_past : Nat) (A_t_begun : Nat) (A_t_text : Nat) (A_t_wins : Nat) (A_t_fits : Nat) (p0 : Int32) (t_pasts : Int32) (t_thrown : Int32) (t_typed : Int32) (t_at : Int32) (t_letter : Int32) (t_one : Int32) (t_other : Int32) (t_past : Nat → Int32) (t_begun : Nat → Int32) (sz : Nat) {r9 : Int32} {t_past9 : Nat → Int32} {t_pasts9 : Int32} {t_thrown9 : Int32} (hF : F_X5_saved N p0 t_past t_begun t_pasts t_thrown = some (r9, t_past9, t_pasts9, t_thrown9)) : KM l D cy s0 tW yX5_saved cX5_saved 3 (some .int) 1 21 [.ref A_t, .int p0] sz (w_X5_saved cy A_t A_t_s A_t_past A_t_begun A_t_text A_t_wins A_t_fits t_pasts t_thrown t_typed t_at t_letter t_one t_other t_past t_begun) (some (.int r9)) (w_X5_saved cy A_t A_t_s A_t_past A_t_begun A_t_text A_t_wins A_t_fits t_pasts9 t_thrown9 t_typed t_at t_letter t_one t_other t_past9 t_begun) := by
  refine KM.intro rfl (Nat.le_of_ble_eq_true rfl) ?_
  intro p e s m args below meth c A ls hx hb hr hml hown hts hlocks hE hP hD hS hA hAs hl
  have hK := hE.1
  have hl : lv_has ls 3 [(0, .ref A_t), (1, .int p0)] := hl
  unfold F_X5_saved at hF
  refine lv_aload_n hx hb dX5_saved_0 rfl (lv_at hl 0 rfl) ?_
  refine va_get (D := D) (ci := 5) (v := .int t_pasts) (C := RX5) (T := TX5) (N := 13) hx hb hts inX5 hown hK hP 0 rfl rfl 3 (by decide) (hts _ q_734) (fun _ h9 => h9) rfl dX5_saved_1 ?_
  refine lv_iconst (v := 4) hx hb dX5_saved_4 (by decide) ?_
  refine lv_icmp_ne (tgt := 48) hx hb dX5_saved_5 (by decide) (fun c_1 => ?_) (fun c_1 => ?_)
  · replace hF := ite_f c_1 hF
    refine lv_iconst (v := 0) hx hb dX5_saved_48 (by decide) ?_
    refine lv_istore_n (lv' := [(2, .int 0), (0, .ref A_t), (1, .int p0)]) hx hb dX5_saved_49 rfl hl (by decide) rfl (fun ls hl => ?_)
    have hloop_50 : ∀ (kont : (Nat → Int32) → Int32 → Int32 → Option (Int32 × (Nat → Int32) × Int32 × Int32)), (∀ (t_past_6 : Nat → Int32) (t_pasts_7 : Int32) (t_thrown_8 : Int32) (H : Heap) (locs : List Loc) (ls : Array Slot), kont t_past_6 t_pasts_7 t_thrown_8 = some (r9, t_past9, t_pasts9, t_thrown9) → va_P D vwCl (w_X5_saved cy A_t A_t_s A_t_past A_t_begun A_t_text A_t_wins A_t_fits t_pasts_7 t_thrown_8 t_typed t_at t_letter t_one t_other t_past_6 t_begun) H → va_D A (w_X5_saved cy A_t A_t_s A_t_past A_t_begun A_t_text A_t_wins A_t_fits t_pasts_7 t_thrown_8 t_typed t_at t_letter t_one t_other t_past_6 t_begun) → va_S A s.heap H locs → lv_has ls 3 [(0, .ref A_t), (1, .int p0)] → W p l e (rmK 1 21) s m args below meth c H locs 0 0 (MQ below (kQ (some (.int r9)) D A (w_X5_saved cy A_t A_t_s A_t_past A_t_begun A_t_text A_t_wins A_t_fits t_pasts9 t_thrown9 t_typed t_at t_letter t_one t_other t_past9 t_begun)) args s 0 0 A) (F0 m 82 ls [])) → ∀ (n : Nat) (v2_2 : Int32) (t_past_3 : Nat → Int32) (t_pasts_4 : Int32) (t_thrown_5 : Int32) (H : Heap) (locs : List Loc) (ls : Array Slot), L_X5_saved_50 N t_begun kont n v2_2 t_past_3 t_pasts_4 t_thrown_5 = some (r9, t_past9, t_pasts9, t_thrown9) → va_P D vwCl (w_X5_saved cy A_t A_t_s A_t_past A_t_begun A_t_text A_t_wins A_t_fits t_pasts_4 t_thrown_5 t_typed t_at t_letter t_one t_other t_past_3 t_begun) H → va_D A (w_X5_saved cy A_t A_t_s A_t_past A_t_begun A_t_text A_t_wins A_t_fits t_pasts_4 t_thrown_5 t_typed t_at t_letter t_one t_other t_past_3 t_begun) → va_S A s.heap H locs → lv_has ls 3 [(0, .ref A_t), (1, .int p0), (2, .int v2_2)] → W p l e (rmK 1 21) s m args below meth c H locs 0 0 (MQ below (kQ (some (.int r9)) D A (w_X5_saved cy A_t A_t_s A_t_past A_t_begun A_t_text A_t_wins A_t_fits t_pasts9 t_thrown9 t_typed t_at t_letter t_one t_other t_past9 t_begun)) args s 0 0 A) (F0 m 50 ls []) := by
      intro kont hexit_50 n
      induction n with
      | zero =>
        intro v2_2 t_past_3 t_pasts_4 t_thrown_5 H locs ls hF
        rw [L_X5_saved_50] at hF
        cases hF
      | succ n ih =>
        intro v2_2 t_past_3 t_pasts_4 t_thrown_5 H locs ls hF hP hD hS hl
        rw [L_X5_saved_50] at hF
        refine lv_iload_n hx hb dX5_saved_50 rfl (lv_at hl 2 rfl) ?_
        refine lv_bipush (v := 45) hx hb dX5_saved_51 (by decide) ?_
        refine lv_icmp_ge (tgt := 82) hx hb dX5_saved_53 (by decide) (fun c_9 => ?_) (fun c_9 => ?_)
        · replace hF := ite_t c_9 hF
          exact hexit_50 t_past_3 t_pasts_4 t_thrown_5 H locs ls hF hP hD hS (lv_sub hl [0, 1] rfl)
        · replace hF := ite_f c_9 hF
          refine lv_aload_n hx hb dX5_saved_56 rfl (lv_at hl 0 rfl) ?_
          refine va_get (D := D) (ci := 5) (v := .ref A_t_past) (C := RX5) (T := TX5) (N := 13) hx hb hts inX5 hown hK hP 0 rfl rfl 1 (by decide) (hts _ q_732) (fun _ h9 => h9) rfl dX5_saved_57 ?_
          refine lv_bipush (v := 45) hx hb dX5_saved_60 (by decide) ?_
          refine lv_aload_n hx hb dX5_saved_62 rfl (lv_at hl 0 rfl) ?_
          refine va_get (D := D) (ci := 5) (v := .int t_pasts_4) (C := RX5) (T := TX5) (N := 13) hx hb hts inX5 hown hK hP 0 rfl rfl 3 (by decide) (hts _ q_734) (fun _ h9 => h9) rfl dX5_saved_63 ?_
          refine lv_imul hx hb dX5_saved_66 ?_
          refine lv_iload_n hx hb dX5_saved_67 rfl (lv_at hl 2 rfl) ?_
          refine lv_iadd hx hb dX5_saved_68 ?_
          refine lv_aload_n hx hb dX5_saved_69 rfl (lv_at hl 0 rfl) ?_
          refine va_get (D := D) (ci := 5) (v := .ref A_t_begun) (C := RX5) (T := TX5) (N := 13) hx hb hts inX5 hown hK hP 0 rfl rfl 2 (by decide) (hts _ q_733) (fun _ h9 => h9) rfl dX5_saved_70 ?_
          refine lv_iload_n hx hb dX5_saved_73 rfl (lv_at hl 2 rfl) ?_
          obtain ⟨hi_10, hF⟩ := gd_some hF
          refine ka_iald hx hb hK hP 2 rfl (v2_2.toNatClampNeg) rfl (inb_in hi_10) dX5_saved_74 ?_
          obtain ⟨hi_11, hF⟩ := gd_some hF
          refine ka_iast (wsN := (w_X5_saved cy A_t A_t_s A_t_past A_t_begun A_t_text A_t_wins A_t_fits t_pasts_4 t_thrown_5 t_typed t_at t_letter t_one t_other (upd t_past_3 (((45 * t_pasts_4) + v2_2).toNatClampNeg) (t_begun v2_2.toNatClampNeg)) t_begun)) hx hb hK hP hD hS 1 rfl (((45 * t_pasts_4) + v2_2).toNatClampNeg) rfl (inb_in hi_11) rfl dX5_saved_75 (fun H locs hP hD hS => ?_)
          refine lv_iinc (v := (v2_2 + 1)) (lv' := [(2, .int (v2_2 + 1)), (0, .ref A_t), (1, .int p0)]) hx hb dX5_saved_76 hl (k := 2) rfl (by first | rfl | decide) (by decide) rfl (fun ls hl => ?_)
          refine lv_goto (tgt := 50) hx hb dX5_saved_79 (by decide) ?_
          exact ih (v2_2 + 1) (upd t_past_3 (((45 * t_pasts_4) + v2_2).toNatClampNeg) (t_begun v2_2.toNatClampNeg)) t_pasts_4 t_thrown_5 H locs ls hF hP hD hS (lv_sub hl [1, 2, 0] rfl)
    refine hloop_50 _ (fun t_past_6 t_pasts_7 t_thrown_8 H locs ls hF hP hD hS hl => ?_) N 0 t_past t_pasts t_thrown _ _ ls hF hP hD hS (lv_sub hl [1, 2, 0] rfl)
    refine lv_aload_n hx hb dX5_saved_82 rfl (lv_at hl 0 rfl) ?_
    refine lv_dup hx hb dX5_saved_83 rfl ?_
    refine va_get (D := D) (ci := 5) (v := .int t_pasts_7) (C := RX5) (T := TX5) (N := 13) hx hb hts inX5 hown hK hP 0 rfl rfl 3 (by decide) (hts _ q_734) (fun _ h9 => h9) rfl dX5_saved_84 ?_
    refine lv_iconst (v := 1) hx hb dX5_saved_87 (by decide) ?_
    refine lv_iadd hx hb dX5_saved_88 ?_
    refine ka_put (ci := 5) (v := .int (t_pasts_7 + 1)) (ty := .int) (C := RX5) (T := TX5) (N := 13) (wsN := (w_X5_saved cy A_t A_t_s A_t_past A_t_begun A_t_text A_t_wins A_t_fits (t_pasts_7 + 1) t_thrown_8 t_typed t_at t_letter t_one t_other t_past_6 t_begun)) hx hb hts inX5 tyX5 tyX5_ok nmX5 hown hK hP hD hS 0 rfl rfl 3 (by decide) (hts _ q_734) (fun _ h9 => h9) rfl (by decide +kernel) rfl rfl (Nat.le_of_ble_eq_true rfl) rfl dX5_saved_89 (fun H locs hP hD hS => ?_)
    refine lv_aload_n hx hb dX5_saved_92 rfl (lv_at hl 0 rfl) ?_
    refine lv_iload_n hx hb dX5_saved_93 rfl (lv_at hl 1 rfl) ?_
    obtain ⟨r_12, t_thrown_13, hF_14, hF⟩ := ob2_some hF
    refine kcV (q := (RX5, TX5, 13)) (ci := 5) (q0 := 0) (As := [.int p0]) (rest := []) (wr := [(A_t_past, .inl (cy 0, 180, .inl t_past_6)), (A_t_begun, .inl (cy 0, 45, .inl t_begun))]) (wsN := (w_X5_saved cy A_t A_t_s A_t_past A_t_begun A_t_text A_t_wins A_t_fits (t_pasts_7 + 1) t_thrown_13 t_typed t_at t_letter t_one t_other t_past_6 t_begun)) ⟨hx, hb, hml, hown, hts⟩ hE hP hD hS hA hAs [0] [1, 2] [2, 0, 1] (c_X5_tells l D cy s0 tW N A_t A_t_s A_t_past A_t_begun A_t_text A_t_wins A_t_fits p0 (t_pasts_7 + 1) t_thrown_8 t_typed t_at t_letter t_one t_other _ hF_14) (gV q_788 q_790 q_48 q_88 q_791) hd_X5_tells ⟨Nat.le_of_ble_eq_true rfl, Nat.le_of_ble_eq_true rfl⟩ rfl rfl rfl rfl rfl rfl rfl rfl rfl hl.1 rfl (Nat.le_of_ble_eq_true rfl) dX5_saved_94 ⟨Nat.zero_le _, Nat.zero_le _⟩ (fun H locs hP hD hS => ?_)
    refine W.eq (g2 := F0 m 97 ls [.int r_12]) rfl ?_
    cases hF
    exact kret_i hx hb hr hlocks hP hD hS dX5_saved_97
  · replace hF := ite_t c_1 hF
    refine lv_iconst (v := 0) hx hb dX5_saved_8 (by decide) ?_
    refine lv_istore_n (lv' := [(2, .int 0), (0, .ref A_t), (1, .int p0)]) hx hb dX5_saved_9 rfl hl (by decide) rfl (fun ls hl => ?_)
    have hloop_10 : ∀ (kont : (Nat → Int32) → Option (Int32 × (Nat → Int32) × Int32 × Int32)), (∀ (t_past_17 : Nat → Int32) (H : Heap) (locs : List Loc) (ls : Array Slot), kont t_past_17 = some (r9, t_past9, t_pasts9, t_thrown9) → va_P D vwCl (w_X5_saved cy A_t A_t_s A_t_past A_t_begun A_t_text A_t_wins A_t_fits t_pasts t_thrown t_typed t_at t_letter t_one t_other t_past_17 t_begun) H → va_D A (w_X5_saved cy A_t A_t_s A_t_past A_t_begun A_t_text A_t_wins A_t_fits t_pasts t_thrown t_typed t_at t_letter t_one t_other t_past_17 t_begun) → va_S A s.heap H locs → lv_has ls 3 [(0, .ref A_t), (1, .int p0)] → W p l e (rmK 1 21) s m args below meth c H locs 0 0 (MQ below (kQ (some (.int r9)) D A (w_X5_saved cy A_t A_t_s A_t_past A_t_begun A_t_text A_t_wins A_t_fits t_pasts9 t_thrown9 t_typed t_at t_letter t_one t_other t_past9 t_begun)) args s 0 0 A) (F0 m 38 ls [])) → ∀ (n : Nat) (v2_15 : Int32) (t_past_16 : Nat → Int32) (H : Heap) (locs : List Loc) (ls : Array Slot), L_X5_saved_10 N  kont n v2_15 t_past_16 = some (r9, t_past9, t_pasts9, t_thrown9) → va_P D vwCl (w_X5_saved cy A_t A_t_s A_t_past A_t_begun A_t_text A_t_wins A_t_fits t_pasts t_thrown t_typed t_at t_letter t_one t_other t_past_16 t_begun) H → va_D A (w_X5_saved cy A_t A_t_s A_t_past A_t_begun A_t_text A_t_wins A_t_fits t_pasts t_thrown t_typed t_at t_letter t_one t_other t_past_16 t_begun) → va_S A s.heap H locs → lv_has ls 3 [(0, .ref A_t), (1, .int p0), (2, .int v2_15)] → W p l e (rmK 1 21) s m args below meth c H locs 0 0 (MQ below (kQ (some (.int r9)) D A (w_X5_saved cy A_t A_t_s A_t_past A_t_begun A_t_text A_t_wins A_t_fits t_pasts9 t_thrown9 t_typed t_at t_letter t_one t_other t_past9 t_begun)) args s 0 0 A) (F0 m 10 ls []) := by
      intro kont hexit_10 n
      induction n with
      | zero =>
        intro v2_15 t_past_16 H locs ls hF
        rw [L_X5_saved_10] at hF
        cases hF
      | succ n ih =>
        intro v2_15 t_past_16 H locs ls hF hP hD hS hl
        rw [L_X5_saved_10] at hF
        refine lv_iload_n hx hb dX5_saved_10 rfl (lv_at hl 2 rfl) ?_
        refine lv_sipush (v := 135) hx hb dX5_saved_11 (by decide) ?_
        refine lv_icmp_ge (tgt := 38) hx hb dX5_saved_14 (by decide) (fun c_18 => ?_) (fun c_18 => ?_)
        · replace hF := ite_t c_18 hF
          exact hexit_10 t_past_16 H locs ls hF hP hD hS (lv_sub hl [0, 1] rfl)
        · replace hF := ite_f c_18 hF
          refine lv_aload_n hx hb dX5_saved_17 rfl (lv_at hl 0 rfl) ?_
          refine va_get (D := D) (ci := 5) (v := .ref A_t_past) (C := RX5) (T := TX5) (N := 13) hx hb hts inX5 hown hK hP 0 rfl rfl 1 (by decide) (hts _ q_732) (fun _ h9 => h9) rfl dX5_saved_18 ?_
          refine lv_iload_n hx hb dX5_saved_21 rfl (lv_at hl 2 rfl) ?_
          refine lv_aload_n hx hb dX5_saved_22 rfl (lv_at hl 0 rfl) ?_
          refine va_get (D := D) (ci := 5) (v := .ref A_t_past) (C := RX5) (T := TX5) (N := 13) hx hb hts inX5 hown hK hP 0 rfl rfl 1 (by decide) (hts _ q_732) (fun _ h9 => h9) rfl dX5_saved_23 ?_
          refine lv_iload_n hx hb dX5_saved_26 rfl (lv_at hl 2 rfl) ?_
          refine lv_bipush (v := 45) hx hb dX5_saved_27 (by decide) ?_
          refine lv_iadd hx hb dX5_saved_29 ?_
          obtain ⟨hi_19, hF⟩ := gd_some hF
          refine ka_iald hx hb hK hP 1 rfl ((v2_15 + 45).toNatClampNeg) rfl (inb_in hi_19) dX5_saved_30 ?_
          obtain ⟨hi_20, hF⟩ := gd_some hF
          refine ka_iast (wsN := (w_X5_saved cy A_t A_t_s A_t_past A_t_begun A_t_text A_t_wins A_t_fits t_pasts t_thrown t_typed t_at t_letter t_one t_other (upd t_past_16 v2_15.toNatClampNeg (t_past_16 ((v2_15 + 45).toNatClampNeg))) t_begun)) hx hb hK hP hD hS 1 rfl (v2_15.toNatClampNeg) rfl (inb_in hi_20) rfl dX5_saved_31 (fun H locs hP hD hS => ?_)
          refine lv_iinc (v := (v2_15 + 1)) (lv' := [(2, .int (v2_15 + 1)), (0, .ref A_t), (1, .int p0)]) hx hb dX5_saved_32 hl (k := 2) rfl (by first | rfl | decide) (by decide) rfl (fun ls hl => ?_)
          refine lv_goto (tgt := 10) hx hb dX5_saved_35 (by decide) ?_
          exact ih (v2_15 + 1) (upd t_past_16 v2_15.toNatClampNeg (t_past_16 ((v2_15 + 45).toNatClampNeg))) H locs ls hF hP hD hS (lv_sub hl [1, 2, 0] rfl)
    refine hloop_10 _ (fun t_past_17 H locs ls hF hP hD hS hl => ?_) N 0 t_past _ _ ls hF hP hD hS (lv_sub hl [1, 2, 0] rfl)
    refine lv_aload_n hx hb dX5_saved_38 rfl (lv_at hl 0 rfl) ?_
    refine lv_dup hx hb dX5_saved_39 rfl ?_
    refine va_get (D := D) (ci := 5) (v := .int t_pasts) (C := RX5) (T := TX5) (N := 13) hx hb hts inX5 hown hK hP 0 rfl rfl 3 (by decide) (hts _ q_734) (fun _ h9 => h9) rfl dX5_saved_40 ?_
    refine lv_iconst (v := 1) hx hb dX5_saved_43 (by decide) ?_
    refine lv_isub hx hb dX5_saved_44 ?_
    refine ka_put (ci := 5) (v := .int (t_pasts - 1)) (ty := .int) (C := RX5) (T := TX5) (N := 13) (wsN := (w_X5_saved cy A_t A_t_s A_t_past A_t_begun A_t_text A_t_wins A_t_fits (t_pasts - 1) t_thrown t_typed t_at t_letter t_one t_other t_past_17 t_begun)) hx hb hts inX5 tyX5 tyX5_ok nmX5 hown hK hP hD hS 0 rfl rfl 3 (by decide) (hts _ q_734) (fun _ h9 => h9) rfl (by decide +kernel) rfl rfl (Nat.le_of_ble_eq_true rfl) rfl dX5_saved_45 (fun H locs hP hD hS => ?_)
    refine lv_iconst (v := 0) hx hb dX5_saved_48 (by decide) ?_
    refine lv_istore_n (lv' := [(2, .int 0), (0, .ref A_t), (1, .int p0)]) hx hb dX5_saved_49 rfl hl (by decide) rfl (fun ls hl => ?_)
    have hloop_50 : ∀ (kont : (Nat → Int32) → Int32 → Int32 → Option (Int32 × (Nat → Int32) × Int32 × Int32)), (∀ (t_past_25 : Nat → Int32) (t_pasts_26 : Int32) (t_thrown_27 : Int32) (H : Heap) (locs : List Loc) (ls : Array Slot), kont t_past_25 t_pasts_26 t_thrown_27 = some (r9, t_past9, t_pasts9, t_thrown9) → va_P D vwCl (w_X5_saved cy A_t A_t_s A_t_past A_t_begun A_t_text A_t_wins A_t_fits t_pasts_26 t_thrown_27 t_typed t_at t_letter t_one t_other t_past_25 t_begun) H → va_D A (w_X5_saved cy A_t A_t_s A_t_past A_t_begun A_t_text A_t_wins A_t_fits t_pasts_26 t_thrown_27 t_typed t_at t_letter t_one t_other t_past_25 t_begun) → va_S A s.heap H locs → lv_has ls 3 [(0, .ref A_t), (1, .int p0)] → W p l e (rmK 1 21) s m args below meth c H locs 0 0 (MQ below (kQ (some (.int r9)) D A (w_X5_saved cy A_t A_t_s A_t_past A_t_begun A_t_text A_t_wins A_t_fits t_pasts9 t_thrown9 t_typed t_at t_letter t_one t_other t_past9 t_begun)) args s 0 0 A) (F0 m 82 ls [])) → ∀ (n : Nat) (v2_21 : Int32) (t_past_22 : Nat → Int32) (t_pasts_23 : Int32) (t_thrown_24 : Int32) (H : Heap) (locs : List Loc) (ls : Array Slot), L_X5_saved_50 N t_begun kont n v2_21 t_past_22 t_pasts_23 t_thrown_24 = some (r9, t_past9, t_pasts9, t_thrown9) → va_P D vwCl (w_X5_saved cy A_t A_t_s A_t_past A_t_begun A_t_text A_t_wins A_t_fits t_pasts_23 t_thrown_24 t_typed t_at t_letter t_one t_other t_past_22 t_begun) H → va_D A (w_X5_saved cy A_t A_t_s A_t_past A_t_begun A_t_text A_t_wins A_t_fits t_pasts_23 t_thrown_24 t_typed t_at t_letter t_one t_other t_past_22 t_begun) → va_S A s.heap H locs → lv_has ls 3 [(0, .ref A_t), (1, .int p0), (2, .int v2_21)] → W p l e (rmK 1 21) s m args below meth c H locs 0 0 (MQ below (kQ (some (.int r9)) D A (w_X5_saved cy A_t A_t_s A_t_past A_t_begun A_t_text A_t_wins A_t_fits t_pasts9 t_thrown9 t_typed t_at t_letter t_one t_other t_past9 t_begun)) args s 0 0 A) (F0 m 50 ls []) := by
      intro kont hexit_50 n
      induction n with
      | zero =>
        intro v2_21 t_past_22 t_pasts_23 t_thrown_24 H locs ls hF
        rw [L_X5_saved_50] at hF
        cases hF
      | succ n ih =>
        intro v2_21 t_past_22 t_pasts_23 t_thrown_24 H locs ls hF hP hD hS hl
        rw [L_X5_saved_50] at hF
        refine lv_iload_n hx hb dX5_saved_50 rfl (lv_at hl 2 rfl) ?_
        refine lv_bipush (v := 45) hx hb dX5_saved_51 (by decide) ?_
        refine lv_icmp_ge (tgt := 82) hx hb dX5_saved_53 (by decide) (fun c_28 => ?_) (fun c_28 => ?_)
        · replace hF := ite_t c_28 hF
          exact hexit_50 t_past_22 t_pasts_23 t_thrown_24 H locs ls hF hP hD hS (lv_sub hl [0, 1] rfl)
        · replace hF := ite_f c_28 hF
          refine lv_aload_n hx hb dX5_saved_56 rfl (lv_at hl 0 rfl) ?_
          refine va_get (D := D) (ci := 5) (v := .ref A_t_past) (C := RX5) (T := TX5) (N := 13) hx hb hts inX5 hown hK hP 0 rfl rfl 1 (by decide) (hts _ q_732) (fun _ h9 => h9) rfl dX5_saved_57 ?_
          refine lv_bipush (v := 45) hx hb dX5_saved_60 (by decide) ?_
          refine lv_aload_n hx hb dX5_saved_62 rfl (lv_at hl 0 rfl) ?_
          refine va_get (D := D) (ci := 5) (v := .int t_pasts_23) (C := RX5) (T := TX5) (N := 13) hx hb hts inX5 hown hK hP 0 rfl rfl 3 (by decide) (hts _ q_734) (fun _ h9 => h9) rfl dX5_saved_63 ?_
          refine lv_imul hx hb dX5_saved_66 ?_
          refine lv_iload_n hx hb dX5_saved_67 rfl (lv_at hl 2 rfl) ?_
          refine lv_iadd hx hb dX5_saved_68 ?_
          refine lv_aload_n hx hb dX5_saved_69 rfl (lv_at hl 0 rfl) ?_
          refine va_get (D := D) (ci := 5) (v := .ref A_t_begun) (C := RX5) (T := TX5) (N := 13) hx hb hts inX5 hown hK hP 0 rfl rfl 2 (by decide) (hts _ q_733) (fun _ h9 => h9) rfl dX5_saved_70 ?_
          refine lv_iload_n hx hb dX5_saved_73 rfl (lv_at hl 2 rfl) ?_
          obtain ⟨hi_29, hF⟩ := gd_some hF
          refine ka_iald hx hb hK hP 2 rfl (v2_21.toNatClampNeg) rfl (inb_in hi_29) dX5_saved_74 ?_
          obtain ⟨hi_30, hF⟩ := gd_some hF
          refine ka_iast (wsN := (w_X5_saved cy A_t A_t_s A_t_past A_t_begun A_t_text A_t_wins A_t_fits t_pasts_23 t_thrown_24 t_typed t_at t_letter t_one t_other (upd t_past_22 (((45 * t_pasts_23) + v2_21).toNatClampNeg) (t_begun v2_21.toNatClampNeg)) t_begun)) hx hb hK hP hD hS 1 rfl (((45 * t_pasts_23) + v2_21).toNatClampNeg) rfl (inb_in hi_30) rfl dX5_saved_75 (fun H locs hP hD hS => ?_)
          refine lv_iinc (v := (v2_21 + 1)) (lv' := [(2, .int (v2_21 + 1)), (0, .ref A_t), (1, .int p0)]) hx hb dX5_saved_76 hl (k := 2) rfl (by first | rfl | decide) (by decide) rfl (fun ls hl => ?_)
          refine lv_goto (tgt := 50) hx hb dX5_saved_79 (by decide) ?_
          exact ih (v2_21 + 1) (upd t_past_22 (((45 * t_pasts_23) + v2_21).toNatClampNeg) (t_begun v2_21.toNatClampNeg)) t_pasts_23 t_thrown_24 H locs ls hF hP hD hS (lv_sub hl [1, 2, 0] rfl)
    refine hloop_50 _ (fun t_past_25 t_pasts_26 t_thrown_27 H locs ls hF hP hD hS hl => ?_) N 0 t_past_17 (t_pasts - 1) t_thrown _ _ ls hF hP hD hS (lv_sub hl [1, 2, 0] rfl)
    refine lv_aload_n hx hb dX5_saved_82 rfl (lv_at hl 0 rfl) ?_
    refine lv_dup hx hb dX5_saved_83 rfl ?_
    refine va_get (D := D) (ci := 5) (v := .int t_pasts_26) (C := RX5) (T := TX5) (N := 13) hx hb hts inX5 hown hK hP 0 rfl rfl 3 (by decide) (hts _ q_734) (fun _ h9 => h9) rfl dX5_saved_84 ?_
    refine lv_iconst (v := 1) hx hb dX5_saved_87 (by decide) ?_
    refine lv_iadd hx hb dX5_saved_88 ?_
    refine ka_put (ci := 5) (v := .int (t_pasts_26 + 1)) (ty := .int) (C := RX5) (T := TX5) (N := 13) (wsN := (w_X5_saved cy A_t A_t_s A_t_past A_t_begun A_t_text A_t_wins A_t_fits (t_pasts_26 + 1) t_thrown_27 t_typed t_at t_letter t_one t_other t_past_25 t_begun)) hx hb hts inX5 tyX5 tyX5_ok nmX5 hown hK hP hD hS 0 rfl rfl 3 (by decide) (hts _ q_734) (fun _ h9 => h9) rfl (by decide +kernel) rfl rfl (Nat.le_of_ble_eq_true rfl) rfl dX5_saved_89 (fun H locs hP hD hS => ?_)
    refine lv_aload_n hx hb dX5_saved_92 rfl (lv_at hl 0 rfl) ?_
    refine lv_iload_n hx hb dX5_saved_93 rfl (lv_at hl 1 rfl) ?_
    obtain ⟨r_31, t_thrown_32, hF_33, hF⟩ := ob2_some hF
    refine kcV (q := (RX5, TX5, 13)) (ci := 5) (q0 := 0) (As := [.int p0]) (rest := []) (wr := [(A_t_past, .inl (cy 0, 180, .inl t_past_25)), (A_t_begun, .inl (cy 0, 45, .inl t_begun))]) (wsN := (w_X5_saved cy A_t A_t_s A_t_past A_t_begun A_t_text A_t_wins A_t_fits (t_pasts_26 + 1) t_thrown_32 t_typed t_at t_letter t_one t_other t_past_25 t_begun)) ⟨hx, hb, hml, hown, hts⟩ hE hP hD hS hA hAs [0] [1, 2] [2, 0, 1] (c_X5_tells l D cy s0 tW N A_t A_t_s A_t_past A_t_begun A_t_text A_t_wins A_t_fits p0 (t_pasts_26 + 1) t_thrown_27 t_typed t_at t_letter t_one t_other _ hF_33) (gV q_788 q_790 q_48 q_88 q_791) hd_X5_tells ⟨Nat.le_of_ble_eq_true rfl, Nat.le_of_ble_eq_true rfl⟩ rfl rfl rfl rfl rfl rfl rfl rfl rfl hl.1 rfl (Nat.le_of_ble_eq_true rfl) dX5_saved_94 ⟨Nat.zero_le _, Nat.zero_le _⟩ (fun H locs hP hD hS => ?_)
    refine W.eq (g2 := F0 m 97 ls [.int r_31]) rfl ?_
    cases hF
    exact kret_i hx hb hr hlocks hP hD hS dX5_saved_97

def L_X5_ones_4 (N : Nat) (p0 : Int32) (kont : Int32 → Option (Int32)) : Nat → Int32 → Int32 → Option (Int32)
  | 0, _, _ => none
  | n + 1, v1_1, v2_2 => (if (9 : Int32) ≤ v2_2 then kont v1_1 else L_X5_ones_4 N p0 kont n (v1_1 + ((p0 >>> (v2_2 &&& 31)) &&& 1)) (v2_2 + 1))
def F_X5_ones (N : Nat) (p0 : Int32) : Option (Int32) :=
  (L_X5_ones_4 N p0 (fun u1_3 => some u1_3) N 0 0)
set_option maxHeartbeats 4000000 in
set_option maxRecDepth 100000 in
theorem c_X5_ones (l : Launch) (D : va_G) (cy : Nat → ClassId) (s0 tW N : Nat) (p0 : Int32) (sz : Nat) {r9 : Int32} (hF : F_X5_ones N p0 = some r9) : KM l D cy s0 tW yX5_ones cX5_ones 3 (some .int) 0 0 [.int p0] sz [] (some (.int r9)) [] := by
  refine KM.intro rfl (Nat.le_of_ble_eq_true rfl) ?_
  intro p e s m args below meth c A ls hx hb hr hml hown hts hlocks hE hP hD hS hA hAs hl
  have hK := hE.1
  have hl : lv_has ls 3 [(0, .int p0)] := hl
  unfold F_X5_ones at hF
  refine lv_iconst (v := 0) hx hb dX5_ones_0 (by decide) ?_
  refine lv_istore_n (lv' := [(1, .int 0), (0, .int p0)]) hx hb dX5_ones_1 rfl hl (by decide) rfl (fun ls hl => ?_)
  refine lv_iconst (v := 0) hx hb dX5_ones_2 (by decide) ?_
  refine lv_istore_n (lv' := [(2, .int 0), (1, .int 0), (0, .int p0)]) hx hb dX5_ones_3 rfl hl (by decide) rfl (fun ls hl => ?_)
  have hloop_4 : ∀ (kont : Int32 → Option (Int32)), (∀ (u1_3 : Int32) (H : Heap) (locs : List Loc) (ls : Array Slot), kont u1_3 = some r9 → va_P D vwCl [] H → va_D A [] → va_S A s.heap H locs → lv_has ls 3 [(1, .int u1_3)] → W p l e (rmK 0 0) s m args below meth c H locs 0 0 (MQ below (kQ (some (.int r9)) D A []) args s 0 0 A) (F0 m 24 ls [])) → ∀ (n : Nat) (v1_1 : Int32) (v2_2 : Int32) (H : Heap) (locs : List Loc) (ls : Array Slot), L_X5_ones_4 N p0 kont n v1_1 v2_2 = some r9 → va_P D vwCl [] H → va_D A [] → va_S A s.heap H locs → lv_has ls 3 [(0, .int p0), (1, .int v1_1), (2, .int v2_2)] → W p l e (rmK 0 0) s m args below meth c H locs 0 0 (MQ below (kQ (some (.int r9)) D A []) args s 0 0 A) (F0 m 4 ls []) := by
    intro kont hexit_4 n
    induction n with
    | zero =>
      intro v1_1 v2_2 H locs ls hF
      rw [L_X5_ones_4] at hF
      cases hF
    | succ n ih =>
      intro v1_1 v2_2 H locs ls hF hP hD hS hl
      rw [L_X5_ones_4] at hF
      refine lv_iload_n hx hb dX5_ones_4 rfl (lv_at hl 2 rfl) ?_
      refine lv_bipush (v := 9) hx hb dX5_ones_5 (by decide) ?_
      refine lv_icmp_ge (tgt := 24) hx hb dX5_ones_7 (by decide) (fun c_4 => ?_) (fun c_4 => ?_)
      · replace hF := ite_t c_4 hF
        exact hexit_4 v1_1 H locs ls hF hP hD hS (lv_sub hl [1] rfl)
      · replace hF := ite_f c_4 hF
        refine lv_iload_n hx hb dX5_ones_10 rfl (lv_at hl 1 rfl) ?_
        refine lv_iload_n hx hb dX5_ones_11 rfl (lv_at hl 0 rfl) ?_
        refine lv_iload_n hx hb dX5_ones_12 rfl (lv_at hl 2 rfl) ?_
        refine lv_ishr hx hb dX5_ones_13 ?_
        refine lv_iconst (v := 1) hx hb dX5_ones_14 (by decide) ?_
        refine lv_iand hx hb dX5_ones_15 ?_
        refine lv_iadd hx hb dX5_ones_16 ?_
        refine lv_istore_n (lv' := [(1, .int (v1_1 + ((p0 >>> (v2_2 &&& 31)) &&& 1))), (0, .int p0), (2, .int v2_2)]) hx hb dX5_ones_17 rfl hl (by decide) rfl (fun ls hl => ?_)
        refine lv_iinc (v := (v2_2 + 1)) (lv' := [(2, .int (v2_2 + 1)), (1, .int (v1_1 + ((p0 >>> (v2_2 &&& 31)) &&& 1))), (0, .int p0)]) hx hb dX5_ones_18 hl (k := 2) rfl (by first | rfl | decide) (by decide) rfl (fun ls hl => ?_)
        refine lv_goto (tgt := 4) hx hb dX5_ones_21 (by decide) ?_
        exact ih (v1_1 + ((p0 >>> (v2_2 &&& 31)) &&& 1)) (v2_2 + 1) H locs ls hF hP hD hS (lv_sub hl [2, 1, 0] rfl)
  refine hloop_4 _ (fun u1_3 H locs ls hF hP hD hS hl => ?_) N 0 0 _ _ ls hF hP hD hS (lv_sub hl [2, 1, 0] rfl)
  refine lv_iload_n hx hb dX5_ones_24 rfl (lv_at hl 0 rfl) ?_
  cases hF
  exact kret_i hx hb hr hlocks hP hD hS dX5_ones_25

theorem q_800 : Cond.methodLink RX5 41 yX5_ones ∈ wAll := wAll_mem 800 (by decide +kernel) (by decide +kernel)
theorem q_801 : Cond.static yX5_ones ∈ wAll := wAll_mem 801 (by decide +kernel) (by decide +kernel)
theorem q_802 : Cond.code yX5_ones cX5_ones 3 (some .int) ∈ wAll := wAll_mem 802 (by decide +kernel) (by decide +kernel)
theorem hd_X5_ones : yX5_ones.cls = RX5 ∧ yX5_ones.cls ≠ "java/lang/invoke/MethodHandle" ∧ yX5_ones.cls ≠ "java/lang/invoke/VarHandle" ∧ (parseMethodDescriptor yX5_ones.desc).map (fun d => d.parameters.length) = some 1 := by decide +kernel
abbrev w_X5_plays (cy : Nat → ClassId) (A_t : Nat) (A_t_s : Nat) (A_t_past : Nat) (A_t_begun : Nat) (A_t_text : Nat) (A_t_wins : Nat) (A_t_fits : Nat) (t_pasts : Int32) (t_thrown : Int32) (t_typed : Int32) (t_at : Int32) (t_letter : Int32) (t_one : Int32) (t_other : Int32) (t_s : Nat → Int32) : va_W := [(A_t, .inr (5, [.ref A_t_s, .ref A_t_past, .ref A_t_begun, .int t_pasts, .int t_thrown, .ref A_t_text, .int t_typed, .int t_at, .int t_letter, .int t_one, .int t_other, .ref A_t_wins, .ref A_t_fits])), (A_t_s, .inl (cy 0, 45, .inl t_s))]
def F_X5_plays (N : Nat) (t_s : Nat → Int32) : Option (Int32) :=
  ob1 (F_X5_ones N (t_s 1)) (fun r_1 => some ((1 : Int32) <<< (r_1 &&& 31)))
set_option maxHeartbeats 4000000 in
set_option maxRecDepth 100000 in
theorem c_X5_plays (l : Launch) (D : va_G) (cy : Nat → ClassId) (s0 tW N : Nat) (A_t : Nat) (A_t_s : Nat) (A_t_past : Nat) (A_t_begun : Nat) (A_t_text : Nat) (A_t_wins : Nat) (A_t_fits : Nat) (t_pasts : Int32) (t_thrown : Int32) (t_typed : Int32) (t_at : Int32) (t_letter : Int32) (t_one : Int32) (t_other : Int32) (t_s : Nat → Int32) (sz : Nat) {r9 : Int32} (hF : F_X5_plays N t_s = some r9) : KM l D cy s0 tW yX5_plays cX5_plays 1 (some .int) 1 22 [.ref A_t] sz (w_X5_plays cy A_t A_t_s A_t_past A_t_begun A_t_text A_t_wins A_t_fits t_pasts t_thrown t_typed t_at t_letter t_one t_other t_s) (some (.int r9)) (w_X5_plays cy A_t A_t_s A_t_past A_t_begun A_t_text A_t_wins A_t_fits t_pasts t_thrown t_typed t_at t_letter t_one t_other t_s) := by
  refine KM.intro rfl (Nat.le_of_ble_eq_true rfl) ?_
  intro p e s m args below meth c A ls hx hb hr hml hown hts hlocks hE hP hD hS hA hAs hl
  have hK := hE.1
  have hl : lv_has ls 1 [(0, .ref A_t)] := hl
  unfold F_X5_plays at hF
  refine lv_iconst (v := 1) hx hb dX5_plays_0 (by decide) ?_
  refine lv_aload_n hx hb dX5_plays_1 rfl (lv_at hl 0 rfl) ?_
  refine va_get (D := D) (ci := 5) (v := .ref A_t_s) (C := RX5) (T := TX5) (N := 13) hx hb hts inX5 hown hK hP 0 rfl rfl 0 (by decide) (hts _ q_731) (fun _ h9 => h9) rfl dX5_plays_2 ?_
  refine lv_iconst (v := 1) hx hb dX5_plays_5 (by decide) ?_
  refine ka_iald hx hb hK hP 1 rfl (1) rfl (inb_in (by decide)) dX5_plays_6 ?_
  obtain ⟨r_1, hF_2, hF⟩ := ob1_some hF
  refine kcS (As := [.int (t_s 1)]) (rest := [.int 1]) (wr := [(A_t, .inr (5, [.ref A_t_s, .ref A_t_past, .ref A_t_begun, .int t_pasts, .int t_thrown, .ref A_t_text, .int t_typed, .int t_at, .int t_letter, .int t_one, .int t_other, .ref A_t_wins, .ref A_t_fits])), (A_t_s, .inl (cy 0, 45, .inl t_s))]) (wsN := (w_X5_plays cy A_t A_t_s A_t_past A_t_begun A_t_text A_t_wins A_t_fits t_pasts t_thrown t_typed t_at t_letter t_one t_other t_s)) ⟨hx, hb, hml, hown, hts⟩ hE hP hD hS hA hAs [] [0, 1] [0, 1] (c_X5_ones l D cy s0 tW N (t_s 1) _ hF_2) (gS q_800 q_801 q_88 q_802) hd_X5_ones.2 ⟨Nat.le_of_ble_eq_true rfl, Nat.le_of_ble_eq_true rfl⟩ rfl rfl rfl rfl rfl rfl rfl hl.1 rfl (Nat.le_of_ble_eq_true rfl) dX5_plays_7 ⟨Nat.zero_le _, Nat.zero_le _⟩ (fun H locs hP hD hS => ?_)
  refine W.eq (g2 := F0 m 10 ls [.int r_1, .int 1]) rfl ?_
  refine lv_ishl hx hb dX5_plays_10 ?_
  cases hF
  exact kret_i hx hb hr hlocks hP hD hS dX5_plays_11

theorem q_58 : Cond.selects RX5 yX5_plays yX5_plays ∈ wAll := wAll_mem 58 (by decide +kernel) (by decide +kernel)
theorem q_823 : Cond.methodLink RX5 48 yX5_in ∈ wAll := wAll_mem 823 (by decide +kernel) (by decide +kernel)
theorem q_824 : Cond.static yX5_in ∈ wAll := wAll_mem 824 (by decide +kernel) (by decide +kernel)
theorem q_825 : Cond.code yX5_in cX5_in 3 (some .boolean) ∈ wAll := wAll_mem 825 (by decide +kernel) (by decide +kernel)
theorem q_850 : Cond.methodLink RX5 44 yX5_plays ∈ wAll := wAll_mem 850 (by decide +kernel) (by decide +kernel)
theorem q_852 : Cond.instanceMethod yX5_plays ∈ wAll := wAll_mem 852 (by decide +kernel) (by decide +kernel)
theorem q_853 : Cond.code yX5_plays cX5_plays 1 (some .int) ∈ wAll := wAll_mem 853 (by decide +kernel) (by decide +kernel)
theorem hd_X5_in : yX5_in.cls = RX5 ∧ yX5_in.cls ≠ "java/lang/invoke/MethodHandle" ∧ yX5_in.cls ≠ "java/lang/invoke/VarHandle" ∧ (parseMethodDescriptor yX5_in.desc).map (fun d => d.parameters.length) = some 3 := by decide +kernel
theorem hd_X5_plays : yX5_plays.cls = RX5 ∧ yX5_plays.cls ≠ "java/lang/invoke/MethodHandle" ∧ yX5_plays.cls ≠ "java/lang/invoke/VarHandle" ∧ (parseMethodDescriptor yX5_plays.desc).map (fun d => d.parameters.length) = some 0 := by decide +kernel
abbrev w_X5_isPlay (cy : Nat → ClassId) (A_t : Nat) (A_t_s : Nat) (A_t_past : Nat) (A_t_begun : Nat) (A_t_text : Nat) (A_t_wins : Nat) (A_t_fits : Nat) (t_pasts : Int32) (t_thrown : Int32) (t_typed : Int32) (t_at : Int32) (t_letter : Int32) (t_one : Int32) (t_other : Int32) (t_s : Nat → Int32) : va_W := [(A_t, .inr (5, [.ref A_t_s, .ref A_t_past, .ref A_t_begun, .int t_pasts, .int t_thrown, .ref A_t_text, .int t_typed, .int t_at, .int t_letter, .int t_one, .int t_other, .ref A_t_wins, .ref A_t_fits])), (A_t_s, .inl (cy 0, 45, .inl t_s))]
def F_X5_isPlay (N : Nat) (p0 : Int32) (t_s : Nat → Int32) : Option (Bool) :=
  ob1 (F_X5_plays N t_s) (fun r_1 => ob1 (F_X5_in N p0 0 (r_1 - 1)) (fun r_3 => some r_3))
set_option maxHeartbeats 4000000 in
set_option maxRecDepth 100000 in
theorem c_X5_isPlay (l : Launch) (D : va_G) (cy : Nat → ClassId) (s0 tW N : Nat) (A_t : Nat) (A_t_s : Nat) (A_t_past : Nat) (A_t_begun : Nat) (A_t_text : Nat) (A_t_wins : Nat) (A_t_fits : Nat) (p0 : Int32) (t_pasts : Int32) (t_thrown : Int32) (t_typed : Int32) (t_at : Int32) (t_letter : Int32) (t_one : Int32) (t_other : Int32) (t_s : Nat → Int32) (sz : Nat) {r9 : Bool} (hF : F_X5_isPlay N p0 t_s = some r9) : KM l D cy s0 tW yX5_isPlay cX5_isPlay 2 (some .boolean) 2 42 [.ref A_t, .int p0] sz (w_X5_isPlay cy A_t A_t_s A_t_past A_t_begun A_t_text A_t_wins A_t_fits t_pasts t_thrown t_typed t_at t_letter t_one t_other t_s) (some (.int (bI r9))) (w_X5_isPlay cy A_t A_t_s A_t_past A_t_begun A_t_text A_t_wins A_t_fits t_pasts t_thrown t_typed t_at t_letter t_one t_other t_s) := by
  refine KM.intro rfl (Nat.le_of_ble_eq_true rfl) ?_
  intro p e s m args below meth c A ls hx hb hr hml hown hts hlocks hE hP hD hS hA hAs hl
  have hK := hE.1
  have hl : lv_has ls 2 [(0, .ref A_t), (1, .int p0)] := hl
  unfold F_X5_isPlay at hF
  refine lv_iload_n hx hb dX5_isPlay_0 rfl (lv_at hl 1 rfl) ?_
  refine lv_iconst (v := 0) hx hb dX5_isPlay_1 (by decide) ?_
  refine lv_aload_n hx hb dX5_isPlay_2 rfl (lv_at hl 0 rfl) ?_
  obtain ⟨r_1, hF_2, hF⟩ := ob1_some hF
  refine kcV (q := (RX5, TX5, 13)) (ci := 5) (q0 := 0) (As := []) (rest := [.int 0, .int p0]) (wr := []) (wsN := (w_X5_isPlay cy A_t A_t_s A_t_past A_t_begun A_t_text A_t_wins A_t_fits t_pasts t_thrown t_typed t_at t_letter t_one t_other t_s)) ⟨hx, hb, hml, hown, hts⟩ hE hP hD hS hA hAs [0, 1] [] [0, 1] (c_X5_plays l D cy s0 tW N A_t A_t_s A_t_past A_t_begun A_t_text A_t_wins A_t_fits t_pasts t_thrown t_typed t_at t_letter t_one t_other t_s _ hF_2) (gV q_850 q_852 q_58 q_88 q_853) hd_X5_plays ⟨Nat.le_of_ble_eq_true rfl, Nat.le_of_ble_eq_true rfl⟩ rfl rfl rfl rfl rfl rfl rfl rfl rfl hl.1 rfl (Nat.le_of_ble_eq_true rfl) dX5_isPlay_3 ⟨Nat.zero_le _, Nat.zero_le _⟩ (fun H locs hP hD hS => ?_)
  refine W.eq (g2 := F0 m 6 ls [.int r_1, .int 0, .int p0]) rfl ?_
  refine lv_iconst (v := 1) hx hb dX5_isPlay_6 (by decide) ?_
  refine lv_isub hx hb dX5_isPlay_7 ?_
  obtain ⟨r_3, hF_4, hF⟩ := ob1_some hF
  refine kcS (As := [.int p0, .int 0, .int (r_1 - 1)]) (rest := []) (wr := [(A_t, .inr (5, [.ref A_t_s, .ref A_t_past, .ref A_t_begun, .int t_pasts, .int t_thrown, .ref A_t_text, .int t_typed, .int t_at, .int t_letter, .int t_one, .int t_other, .ref A_t_wins, .ref A_t_fits])), (A_t_s, .inl (cy 0, 45, .inl t_s))]) (wsN := (w_X5_isPlay cy A_t A_t_s A_t_past A_t_begun A_t_text A_t_wins A_t_fits t_pasts t_thrown t_typed t_at t_letter t_one t_other t_s)) ⟨hx, hb, hml, hown, hts⟩ hE hP hD hS hA hAs [] [0, 1] [0, 1] (c_X5_in l D cy s0 tW N p0 0 (r_1 - 1) _ hF_4) (gS q_823 q_824 q_88 q_825) hd_X5_in.2 ⟨Nat.le_of_ble_eq_true rfl, Nat.le_of_ble_eq_true rfl⟩ rfl rfl rfl rfl rfl rfl rfl hl.1 rfl (Nat.le_of_ble_eq_true rfl) dX5_isPlay_8 ⟨Nat.zero_le _, Nat.zero_le _⟩ (fun H locs hP hD hS => ?_)
  refine W.eq (g2 := F0 m 11 ls [.int (bI r_3)]) rfl ?_
  cases hF
  exact kret_z hx hb hr hlocks hP hD hS dX5_isPlay_11

abbrev w_X5_isBreakersOwn (cy : Nat → ClassId) (A_t : Nat) (A_t_s : Nat) (A_t_past : Nat) (A_t_begun : Nat) (A_t_text : Nat) (A_t_wins : Nat) (A_t_fits : Nat) (t_pasts : Int32) (t_thrown : Int32) (t_typed : Int32) (t_at : Int32) (t_letter : Int32) (t_one : Int32) (t_other : Int32) (t_s : Nat → Int32) : va_W := [(A_t, .inr (5, [.ref A_t_s, .ref A_t_past, .ref A_t_begun, .int t_pasts, .int t_thrown, .ref A_t_text, .int t_typed, .int t_at, .int t_letter, .int t_one, .int t_other, .ref A_t_wins, .ref A_t_fits])), (A_t_s, .inl (cy 0, 45, .inl t_s))]
def F_X5_isBreakersOwn (N : Nat) (p0 : Int32) (t_s : Nat → Int32) : Option (Bool) :=
  (if (((t_s 1) >>> (p0 &&& 31)) &&& 1) = (1 : Int32) then some true else some false)
set_option maxHeartbeats 4000000 in
set_option maxRecDepth 100000 in
theorem c_X5_isBreakersOwn (l : Launch) (D : va_G) (cy : Nat → ClassId) (s0 tW N : Nat) (A_t : Nat) (A_t_s : Nat) (A_t_past : Nat) (A_t_begun : Nat) (A_t_text : Nat) (A_t_wins : Nat) (A_t_fits : Nat) (p0 : Int32) (t_pasts : Int32) (t_thrown : Int32) (t_typed : Int32) (t_at : Int32) (t_letter : Int32) (t_one : Int32) (t_other : Int32) (t_s : Nat → Int32) (sz : Nat) {r9 : Bool} (hF : F_X5_isBreakersOwn N p0 t_s = some r9) : KM l D cy s0 tW yX5_isBreakersOwn cX5_isBreakersOwn 2 (some .boolean) 0 0 [.ref A_t, .int p0] sz (w_X5_isBreakersOwn cy A_t A_t_s A_t_past A_t_begun A_t_text A_t_wins A_t_fits t_pasts t_thrown t_typed t_at t_letter t_one t_other t_s) (some (.int (bI r9))) (w_X5_isBreakersOwn cy A_t A_t_s A_t_past A_t_begun A_t_text A_t_wins A_t_fits t_pasts t_thrown t_typed t_at t_letter t_one t_other t_s) := by
  refine KM.intro rfl (Nat.le_of_ble_eq_true rfl) ?_
  intro p e s m args below meth c A ls hx hb hr hml hown hts hlocks hE hP hD hS hA hAs hl
  have hK := hE.1
  have hl : lv_has ls 2 [(0, .ref A_t), (1, .int p0)] := hl
  unfold F_X5_isBreakersOwn at hF
  refine lv_aload_n hx hb dX5_isBreakersOwn_0 rfl (lv_at hl 0 rfl) ?_
  refine va_get (D := D) (ci := 5) (v := .ref A_t_s) (C := RX5) (T := TX5) (N := 13) hx hb hts inX5 hown hK hP 0 rfl rfl 0 (by decide) (hts _ q_731) (fun _ h9 => h9) rfl dX5_isBreakersOwn_1 ?_
  refine lv_iconst (v := 1) hx hb dX5_isBreakersOwn_4 (by decide) ?_
  refine ka_iald hx hb hK hP 1 rfl (1) rfl (inb_in (by decide)) dX5_isBreakersOwn_5 ?_
  refine lv_iload_n hx hb dX5_isBreakersOwn_6 rfl (lv_at hl 1 rfl) ?_
  refine lv_ishr hx hb dX5_isBreakersOwn_7 ?_
  refine lv_iconst (v := 1) hx hb dX5_isBreakersOwn_8 (by decide) ?_
  refine lv_iand hx hb dX5_isBreakersOwn_9 ?_
  refine lv_iconst (v := 1) hx hb dX5_isBreakersOwn_10 (by decide) ?_
  refine lv_icmp_ne (tgt := 18) hx hb dX5_isBreakersOwn_11 (by decide) (fun c_1 => ?_) (fun c_1 => ?_)
  · replace hF := ite_f c_1 hF
    refine lv_iconst (v := 0) hx hb dX5_isBreakersOwn_18 (by decide) ?_
    cases hF
    exact kret_z hx hb hr hlocks hP hD hS dX5_isBreakersOwn_19
  · replace hF := ite_t c_1 hF
    refine lv_iconst (v := 1) hx hb dX5_isBreakersOwn_14 (by decide) ?_
    refine lv_goto (tgt := 19) hx hb dX5_isBreakersOwn_15 (by decide) ?_
    cases hF
    exact kret_z hx hb hr hlocks hP hD hS dX5_isBreakersOwn_19

abbrev w_X5_isSet (cy : Nat → ClassId) (A_t : Nat) (A_t_s : Nat) (A_t_past : Nat) (A_t_begun : Nat) (A_t_text : Nat) (A_t_wins : Nat) (A_t_fits : Nat) (t_pasts : Int32) (t_thrown : Int32) (t_typed : Int32) (t_at : Int32) (t_letter : Int32) (t_one : Int32) (t_other : Int32) (t_s : Nat → Int32) : va_W := [(A_t, .inr (5, [.ref A_t_s, .ref A_t_past, .ref A_t_begun, .int t_pasts, .int t_thrown, .ref A_t_text, .int t_typed, .int t_at, .int t_letter, .int t_one, .int t_other, .ref A_t_wins, .ref A_t_fits])), (A_t_s, .inl (cy 0, 45, .inl t_s))]
def F_X5_isSet (N : Nat) (p0 : Int32) (t_s : Nat → Int32) : Option (Bool) :=
  ob1 (F_X5_in N p0 0 (((1 : Int32) <<< ((t_s 0) &&& 31)) - 1)) (fun r_1 => some r_1)
set_option maxHeartbeats 4000000 in
set_option maxRecDepth 100000 in
theorem c_X5_isSet (l : Launch) (D : va_G) (cy : Nat → ClassId) (s0 tW N : Nat) (A_t : Nat) (A_t_s : Nat) (A_t_past : Nat) (A_t_begun : Nat) (A_t_text : Nat) (A_t_wins : Nat) (A_t_fits : Nat) (p0 : Int32) (t_pasts : Int32) (t_thrown : Int32) (t_typed : Int32) (t_at : Int32) (t_letter : Int32) (t_one : Int32) (t_other : Int32) (t_s : Nat → Int32) (sz : Nat) {r9 : Bool} (hF : F_X5_isSet N p0 t_s = some r9) : KM l D cy s0 tW yX5_isSet cX5_isSet 2 (some .boolean) 1 22 [.ref A_t, .int p0] sz (w_X5_isSet cy A_t A_t_s A_t_past A_t_begun A_t_text A_t_wins A_t_fits t_pasts t_thrown t_typed t_at t_letter t_one t_other t_s) (some (.int (bI r9))) (w_X5_isSet cy A_t A_t_s A_t_past A_t_begun A_t_text A_t_wins A_t_fits t_pasts t_thrown t_typed t_at t_letter t_one t_other t_s) := by
  refine KM.intro rfl (Nat.le_of_ble_eq_true rfl) ?_
  intro p e s m args below meth c A ls hx hb hr hml hown hts hlocks hE hP hD hS hA hAs hl
  have hK := hE.1
  have hl : lv_has ls 2 [(0, .ref A_t), (1, .int p0)] := hl
  unfold F_X5_isSet at hF
  refine lv_iload_n hx hb dX5_isSet_0 rfl (lv_at hl 1 rfl) ?_
  refine lv_iconst (v := 0) hx hb dX5_isSet_1 (by decide) ?_
  refine lv_iconst (v := 1) hx hb dX5_isSet_2 (by decide) ?_
  refine lv_aload_n hx hb dX5_isSet_3 rfl (lv_at hl 0 rfl) ?_
  refine va_get (D := D) (ci := 5) (v := .ref A_t_s) (C := RX5) (T := TX5) (N := 13) hx hb hts inX5 hown hK hP 0 rfl rfl 0 (by decide) (hts _ q_731) (fun _ h9 => h9) rfl dX5_isSet_4 ?_
  refine lv_iconst (v := 0) hx hb dX5_isSet_7 (by decide) ?_
  refine ka_iald hx hb hK hP 1 rfl (0) rfl (inb_in (by decide)) dX5_isSet_8 ?_
  refine lv_ishl hx hb dX5_isSet_9 ?_
  refine lv_iconst (v := 1) hx hb dX5_isSet_10 (by decide) ?_
  refine lv_isub hx hb dX5_isSet_11 ?_
  obtain ⟨r_1, hF_2, hF⟩ := ob1_some hF
  refine kcS (As := [.int p0, .int 0, .int (((1 : Int32) <<< ((t_s 0) &&& 31)) - 1)]) (rest := []) (wr := [(A_t, .inr (5, [.ref A_t_s, .ref A_t_past, .ref A_t_begun, .int t_pasts, .int t_thrown, .ref A_t_text, .int t_typed, .int t_at, .int t_letter, .int t_one, .int t_other, .ref A_t_wins, .ref A_t_fits])), (A_t_s, .inl (cy 0, 45, .inl t_s))]) (wsN := (w_X5_isSet cy A_t A_t_s A_t_past A_t_begun A_t_text A_t_wins A_t_fits t_pasts t_thrown t_typed t_at t_letter t_one t_other t_s)) ⟨hx, hb, hml, hown, hts⟩ hE hP hD hS hA hAs [] [0, 1] [0, 1] (c_X5_in l D cy s0 tW N p0 0 (((1 : Int32) <<< ((t_s 0) &&& 31)) - 1) _ hF_2) (gS q_823 q_824 q_88 q_825) hd_X5_in.2 ⟨Nat.le_of_ble_eq_true rfl, Nat.le_of_ble_eq_true rfl⟩ rfl rfl rfl rfl rfl rfl rfl hl.1 rfl (Nat.le_of_ble_eq_true rfl) dX5_isSet_12 ⟨Nat.zero_le _, Nat.zero_le _⟩ (fun H locs hP hD hS => ?_)
  refine W.eq (g2 := F0 m 15 ls [.int (bI r_1)]) rfl ?_
  cases hF
  exact kret_z hx hb hr hlocks hP hD hS dX5_isSet_15

theorem q_46 : Cond.selects RX5 yX5_begins yX5_begins ∈ wAll := wAll_mem 46 (by decide +kernel) (by decide +kernel)
theorem q_47 : Cond.selects RX5 yX5_saved yX5_saved ∈ wAll := wAll_mem 47 (by decide +kernel) (by decide +kernel)
theorem q_780 : Cond.methodLink RX5 52 yX5_begins ∈ wAll := wAll_mem 780 (by decide +kernel) (by decide +kernel)
theorem q_782 : Cond.instanceMethod yX5_begins ∈ wAll := wAll_mem 782 (by decide +kernel) (by decide +kernel)
theorem q_783 : Cond.code yX5_begins cX5_begins 2 none ∈ wAll := wAll_mem 783 (by decide +kernel) (by decide +kernel)
theorem q_784 : Cond.methodLink RX5 55 yX5_saved ∈ wAll := wAll_mem 784 (by decide +kernel) (by decide +kernel)
theorem q_786 : Cond.instanceMethod yX5_saved ∈ wAll := wAll_mem 786 (by decide +kernel) (by decide +kernel)
theorem q_787 : Cond.code yX5_saved cX5_saved 3 (some .int) ∈ wAll := wAll_mem 787 (by decide +kernel) (by decide +kernel)
theorem hd_X5_begins : yX5_begins.cls = RX5 ∧ yX5_begins.cls ≠ "java/lang/invoke/MethodHandle" ∧ yX5_begins.cls ≠ "java/lang/invoke/VarHandle" ∧ (parseMethodDescriptor yX5_begins.desc).map (fun d => d.parameters.length) = some 0 := by decide +kernel
theorem hd_X5_saved : yX5_saved.cls = RX5 ∧ yX5_saved.cls ≠ "java/lang/invoke/MethodHandle" ∧ yX5_saved.cls ≠ "java/lang/invoke/VarHandle" ∧ (parseMethodDescriptor yX5_saved.desc).map (fun d => d.parameters.length) = some 1 := by decide +kernel
abbrev w_X5_begin (cy : Nat → ClassId) (A_t : Nat) (A_t_s : Nat) (A_t_past : Nat) (A_t_begun : Nat) (A_t_text : Nat) (A_t_wins : Nat) (A_t_fits : Nat) (t_pasts : Int32) (t_thrown : Int32) (t_typed : Int32) (t_at : Int32) (t_letter : Int32) (t_one : Int32) (t_other : Int32) (t_s : Nat → Int32) (t_past : Nat → Int32) (t_begun : Nat → Int32) : va_W := [(A_t, .inr (5, [.ref A_t_s, .ref A_t_past, .ref A_t_begun, .int t_pasts, .int t_thrown, .ref A_t_text, .int t_typed, .int t_at, .int t_letter, .int t_one, .int t_other, .ref A_t_wins, .ref A_t_fits])), (A_t_s, .inl (cy 0, 45, .inl t_s)), (A_t_past, .inl (cy 0, 180, .inl t_past)), (A_t_begun, .inl (cy 0, 45, .inl t_begun))]
def L_X5_begin_13 (N : Nat)  (kont : (Nat → Int32) → Option (Int32 × (Nat → Int32) × (Nat → Int32) × (Nat → Int32) × Int32 × Int32)) : Nat → Int32 → (Nat → Int32) → Option (Int32 × (Nat → Int32) × (Nat → Int32) × (Nat → Int32) × Int32 × Int32)
  | 0, _, _ => none
  | n + 1, v2_3, t_s_4 => (if (45 : Int32) ≤ v2_3 then kont t_s_4 else gd (inb v2_3 45) (L_X5_begin_13 N  kont n (v2_3 + 1) (upd t_s_4 v2_3.toNatClampNeg 0)))
def F_X5_begin (N : Nat) (t_s : Nat → Int32) (t_past : Nat → Int32) (t_begun : Nat → Int32) (t_pasts : Int32) (t_thrown : Int32) : Option (Int32 × (Nat → Int32) × (Nat → Int32) × (Nat → Int32) × Int32 × Int32) :=
  ob1 (F_X5_begins N t_s t_begun) (fun t_begun_1 => (L_X5_begin_13 N  (fun t_s_5 => ob4 (F_X5_saved N (t_s 0) t_past t_begun_1 t_pasts t_thrown) (fun r_8 t_past_9 t_pasts_10 t_thrown_11 => some (r_8, t_s_5, t_past_9, t_begun_1, t_pasts_10, t_thrown_11))) N 0 t_s))
set_option maxHeartbeats 4000000 in
set_option maxRecDepth 100000 in
theorem c_X5_begin (l : Launch) (D : va_G) (cy : Nat → ClassId) (s0 tW N : Nat) (A_t : Nat) (A_t_s : Nat) (A_t_past : Nat) (A_t_begun : Nat) (A_t_text : Nat) (A_t_wins : Nat) (A_t_fits : Nat) (t_pasts : Int32) (t_thrown : Int32) (t_typed : Int32) (t_at : Int32) (t_letter : Int32) (t_one : Int32) (t_other : Int32) (t_s : Nat → Int32) (t_past : Nat → Int32) (t_begun : Nat → Int32) (sz : Nat) {r9 : Int32} {t_s9 : Nat → Int32} {t_past9 : Nat → Int32} {t_begun9 : Nat → Int32} {t_pasts9 : Int32} {t_thrown9 : Int32} (hF : F_X5_begin N t_s t_past t_begun t_pasts t_thrown = some (r9, t_s9, t_past9, t_begun9, t_pasts9, t_thrown9)) : KM l D cy s0 tW yX5_begin cX5_begin 3 (some .int) 2 43 [.ref A_t] sz (w_X5_begin cy A_t A_t_s A_t_past A_t_begun A_t_text A_t_wins A_t_fits t_pasts t_thrown t_typed t_at t_letter t_one t_other t_s t_past t_begun) (some (.int r9)) (w_X5_begin cy A_t A_t_s A_t_past A_t_begun A_t_text A_t_wins A_t_fits t_pasts9 t_thrown9 t_typed t_at t_letter t_one t_other t_s9 t_past9 t_begun9) := by
  refine KM.intro rfl (Nat.le_of_ble_eq_true rfl) ?_
  intro p e s m args below meth c A ls hx hb hr hml hown hts hlocks hE hP hD hS hA hAs hl
  have hK := hE.1
  have hl : lv_has ls 3 [(0, .ref A_t)] := hl
  unfold F_X5_begin at hF
  refine lv_aload_n hx hb dX5_begin_0 rfl (lv_at hl 0 rfl) ?_
  obtain ⟨t_begun_1, hF_2, hF⟩ := ob1_some hF
  refine kcV (q := (RX5, TX5, 13)) (ci := 5) (q0 := 0) (As := []) (rest := []) (wr := [(A_t_past, .inl (cy 0, 180, .inl t_past))]) (wsN := (w_X5_begin cy A_t A_t_s A_t_past A_t_begun A_t_text A_t_wins A_t_fits t_pasts t_thrown t_typed t_at t_letter t_one t_other t_s t_past t_begun_1)) ⟨hx, hb, hml, hown, hts⟩ hE hP hD hS hA hAs [0, 1, 3] [2] [1, 2, 0, 3] (c_X5_begins l D cy s0 tW N A_t A_t_s A_t_past A_t_begun A_t_text A_t_wins A_t_fits t_pasts t_thrown t_typed t_at t_letter t_one t_other t_s t_begun _ hF_2) (gV q_780 q_782 q_46 q_88 q_783) hd_X5_begins ⟨Nat.le_of_ble_eq_true rfl, Nat.le_of_ble_eq_true rfl⟩ rfl rfl rfl rfl rfl rfl rfl rfl rfl hl.1 rfl (Nat.le_of_ble_eq_true rfl) dX5_begin_1 ⟨Nat.zero_le _, Nat.zero_le _⟩ (fun H locs hP hD hS => ?_)
  refine W.eq (g2 := F0 m 4 ls []) rfl ?_
  refine lv_aload_n hx hb dX5_begin_4 rfl (lv_at hl 0 rfl) ?_
  refine va_get (D := D) (ci := 5) (v := .ref A_t_s) (C := RX5) (T := TX5) (N := 13) hx hb hts inX5 hown hK hP 0 rfl rfl 0 (by decide) (hts _ q_731) (fun _ h9 => h9) rfl dX5_begin_5 ?_
  refine lv_iconst (v := 0) hx hb dX5_begin_8 (by decide) ?_
  refine ka_iald hx hb hK hP 1 rfl (0) rfl (inb_in (by decide)) dX5_begin_9 ?_
  refine lv_istore_n (lv' := [(1, .int (t_s 0)), (0, .ref A_t)]) hx hb dX5_begin_10 rfl hl (by decide) rfl (fun ls hl => ?_)
  refine lv_iconst (v := 0) hx hb dX5_begin_11 (by decide) ?_
  refine lv_istore_n (lv' := [(2, .int 0), (1, .int (t_s 0)), (0, .ref A_t)]) hx hb dX5_begin_12 rfl hl (by decide) rfl (fun ls hl => ?_)
  have hloop_13 : ∀ (kont : (Nat → Int32) → Option (Int32 × (Nat → Int32) × (Nat → Int32) × (Nat → Int32) × Int32 × Int32)), (∀ (t_s_5 : Nat → Int32) (H : Heap) (locs : List Loc) (ls : Array Slot), kont t_s_5 = some (r9, t_s9, t_past9, t_begun9, t_pasts9, t_thrown9) → va_P D vwCl (w_X5_begin cy A_t A_t_s A_t_past A_t_begun A_t_text A_t_wins A_t_fits t_pasts t_thrown t_typed t_at t_letter t_one t_other t_s_5 t_past t_begun_1) H → va_D A (w_X5_begin cy A_t A_t_s A_t_past A_t_begun A_t_text A_t_wins A_t_fits t_pasts t_thrown t_typed t_at t_letter t_one t_other t_s_5 t_past t_begun_1) → va_S A s.heap H locs → lv_has ls 3 [(0, .ref A_t), (1, .int (t_s 0))] → W p l e (rmK 2 43) s m args below meth c H locs 0 0 (MQ below (kQ (some (.int r9)) D A (w_X5_begin cy A_t A_t_s A_t_past A_t_begun A_t_text A_t_wins A_t_fits t_pasts9 t_thrown9 t_typed t_at t_letter t_one t_other t_s9 t_past9 t_begun9)) args s 0 0 A) (F0 m 32 ls [])) → ∀ (n : Nat) (v2_3 : Int32) (t_s_4 : Nat → Int32) (H : Heap) (locs : List Loc) (ls : Array Slot), L_X5_begin_13 N  kont n v2_3 t_s_4 = some (r9, t_s9, t_past9, t_begun9, t_pasts9, t_thrown9) → va_P D vwCl (w_X5_begin cy A_t A_t_s A_t_past A_t_begun A_t_text A_t_wins A_t_fits t_pasts t_thrown t_typed t_at t_letter t_one t_other t_s_4 t_past t_begun_1) H → va_D A (w_X5_begin cy A_t A_t_s A_t_past A_t_begun A_t_text A_t_wins A_t_fits t_pasts t_thrown t_typed t_at t_letter t_one t_other t_s_4 t_past t_begun_1) → va_S A s.heap H locs → lv_has ls 3 [(0, .ref A_t), (1, .int (t_s 0)), (2, .int v2_3)] → W p l e (rmK 2 43) s m args below meth c H locs 0 0 (MQ below (kQ (some (.int r9)) D A (w_X5_begin cy A_t A_t_s A_t_past A_t_begun A_t_text A_t_wins A_t_fits t_pasts9 t_thrown9 t_typed t_at t_letter t_one t_other t_s9 t_past9 t_begun9)) args s 0 0 A) (F0 m 13 ls []) := by
    intro kont hexit_13 n
    induction n with
    | zero =>
      intro v2_3 t_s_4 H locs ls hF
      rw [L_X5_begin_13] at hF
      cases hF
    | succ n ih =>
      intro v2_3 t_s_4 H locs ls hF hP hD hS hl
      rw [L_X5_begin_13] at hF
      refine lv_iload_n hx hb dX5_begin_13 rfl (lv_at hl 2 rfl) ?_
      refine lv_bipush (v := 45) hx hb dX5_begin_14 (by decide) ?_
      refine lv_icmp_ge (tgt := 32) hx hb dX5_begin_16 (by decide) (fun c_6 => ?_) (fun c_6 => ?_)
      · replace hF := ite_t c_6 hF
        exact hexit_13 t_s_4 H locs ls hF hP hD hS (lv_sub hl [0, 1] rfl)
      · replace hF := ite_f c_6 hF
        refine lv_aload_n hx hb dX5_begin_19 rfl (lv_at hl 0 rfl) ?_
        refine va_get (D := D) (ci := 5) (v := .ref A_t_s) (C := RX5) (T := TX5) (N := 13) hx hb hts inX5 hown hK hP 0 rfl rfl 0 (by decide) (hts _ q_731) (fun _ h9 => h9) rfl dX5_begin_20 ?_
        refine lv_iload_n hx hb dX5_begin_23 rfl (lv_at hl 2 rfl) ?_
        refine lv_iconst (v := 0) hx hb dX5_begin_24 (by decide) ?_
        obtain ⟨hi_7, hF⟩ := gd_some hF
        refine ka_iast (wsN := (w_X5_begin cy A_t A_t_s A_t_past A_t_begun A_t_text A_t_wins A_t_fits t_pasts t_thrown t_typed t_at t_letter t_one t_other (upd t_s_4 v2_3.toNatClampNeg 0) t_past t_begun_1)) hx hb hK hP hD hS 1 rfl (v2_3.toNatClampNeg) rfl (inb_in hi_7) rfl dX5_begin_25 (fun H locs hP hD hS => ?_)
        refine lv_iinc (v := (v2_3 + 1)) (lv' := [(2, .int (v2_3 + 1)), (0, .ref A_t), (1, .int (t_s 0))]) hx hb dX5_begin_26 hl (k := 2) rfl (by first | rfl | decide) (by decide) rfl (fun ls hl => ?_)
        refine lv_goto (tgt := 13) hx hb dX5_begin_29 (by decide) ?_
        exact ih (v2_3 + 1) (upd t_s_4 v2_3.toNatClampNeg 0) H locs ls hF hP hD hS (lv_sub hl [1, 2, 0] rfl)
  refine hloop_13 _ (fun t_s_5 H locs ls hF hP hD hS hl => ?_) N 0 t_s _ _ ls hF hP hD hS (lv_sub hl [2, 1, 0] rfl)
  refine lv_aload_n hx hb dX5_begin_32 rfl (lv_at hl 0 rfl) ?_
  refine lv_iload_n hx hb dX5_begin_33 rfl (lv_at hl 1 rfl) ?_
  obtain ⟨r_8, t_past_9, t_pasts_10, t_thrown_11, hF_12, hF⟩ := ob4_some hF
  refine kcV (q := (RX5, TX5, 13)) (ci := 5) (q0 := 0) (As := [.int (t_s 0)]) (rest := []) (wr := [(A_t_s, .inl (cy 0, 45, .inl t_s_5))]) (wsN := (w_X5_begin cy A_t A_t_s A_t_past A_t_begun A_t_text A_t_wins A_t_fits t_pasts_10 t_thrown_11 t_typed t_at t_letter t_one t_other t_s_5 t_past_9 t_begun_1)) ⟨hx, hb, hml, hown, hts⟩ hE hP hD hS hA hAs [0, 2, 3] [1] [1, 0, 2, 3] (c_X5_saved l D cy s0 tW N A_t A_t_s A_t_past A_t_begun A_t_text A_t_wins A_t_fits (t_s 0) t_pasts t_thrown t_typed t_at t_letter t_one t_other t_past t_begun_1 _ hF_12) (gV q_784 q_786 q_47 q_88 q_787) hd_X5_saved ⟨Nat.le_of_ble_eq_true rfl, Nat.le_of_ble_eq_true rfl⟩ rfl rfl rfl rfl rfl rfl rfl rfl rfl hl.1 rfl (Nat.le_of_ble_eq_true rfl) dX5_begin_34 ⟨Nat.zero_le _, Nat.zero_le _⟩ (fun H locs hP hD hS => ?_)
  refine W.eq (g2 := F0 m 37 ls [.int r_8]) rfl ?_
  cases hF
  exact kret_i hx hb hr hlocks hP hD hS dX5_begin_37

abbrev w_X5_canAdd (cy : Nat → ClassId) (A_t : Nat) (A_t_s : Nat) (A_t_past : Nat) (A_t_begun : Nat) (A_t_text : Nat) (A_t_wins : Nat) (A_t_fits : Nat) (t_pasts : Int32) (t_thrown : Int32) (t_typed : Int32) (t_at : Int32) (t_letter : Int32) (t_one : Int32) (t_other : Int32) (t_s : Nat → Int32) : va_W := [(A_t, .inr (5, [.ref A_t_s, .ref A_t_past, .ref A_t_begun, .int t_pasts, .int t_thrown, .ref A_t_text, .int t_typed, .int t_at, .int t_letter, .int t_one, .int t_other, .ref A_t_wins, .ref A_t_fits])), (A_t_s, .inl (cy 0, 45, .inl t_s))]
def F_X5_canAdd (N : Nat) (p0 : Bool) (t_s : Nat → Int32) : Option (Bool) :=
  ob1 (F_X5_ones N (t_s 1)) (fun r_1 => (if p0 = true then (if (3 : Int32) ≤ r_1 then some false else some true) else (if (6 : Int32) ≤ ((t_s 0) - r_1) then some false else some true)))
set_option maxHeartbeats 4000000 in
set_option maxRecDepth 100000 in
theorem c_X5_canAdd (l : Launch) (D : va_G) (cy : Nat → ClassId) (s0 tW N : Nat) (A_t : Nat) (A_t_s : Nat) (A_t_past : Nat) (A_t_begun : Nat) (A_t_text : Nat) (A_t_wins : Nat) (A_t_fits : Nat) (p0 : Bool) (t_pasts : Int32) (t_thrown : Int32) (t_typed : Int32) (t_at : Int32) (t_letter : Int32) (t_one : Int32) (t_other : Int32) (t_s : Nat → Int32) (sz : Nat) {r9 : Bool} (hF : F_X5_canAdd N p0 t_s = some r9) : KM l D cy s0 tW yX5_canAdd cX5_canAdd 3 (some .boolean) 1 22 [.ref A_t, .int (bI p0)] sz (w_X5_canAdd cy A_t A_t_s A_t_past A_t_begun A_t_text A_t_wins A_t_fits t_pasts t_thrown t_typed t_at t_letter t_one t_other t_s) (some (.int (bI r9))) (w_X5_canAdd cy A_t A_t_s A_t_past A_t_begun A_t_text A_t_wins A_t_fits t_pasts t_thrown t_typed t_at t_letter t_one t_other t_s) := by
  refine KM.intro rfl (Nat.le_of_ble_eq_true rfl) ?_
  intro p e s m args below meth c A ls hx hb hr hml hown hts hlocks hE hP hD hS hA hAs hl
  have hK := hE.1
  have hl : lv_has ls 3 [(0, .ref A_t), (1, .int (bI p0))] := hl
  unfold F_X5_canAdd at hF
  refine lv_aload_n hx hb dX5_canAdd_0 rfl (lv_at hl 0 rfl) ?_
  refine va_get (D := D) (ci := 5) (v := .ref A_t_s) (C := RX5) (T := TX5) (N := 13) hx hb hts inX5 hown hK hP 0 rfl rfl 0 (by decide) (hts _ q_731) (fun _ h9 => h9) rfl dX5_canAdd_1 ?_
  refine lv_iconst (v := 1) hx hb dX5_canAdd_4 (by decide) ?_
  refine ka_iald hx hb hK hP 1 rfl (1) rfl (inb_in (by decide)) dX5_canAdd_5 ?_
  obtain ⟨r_1, hF_2, hF⟩ := ob1_some hF
  refine kcS (As := [.int (t_s 1)]) (rest := []) (wr := [(A_t, .inr (5, [.ref A_t_s, .ref A_t_past, .ref A_t_begun, .int t_pasts, .int t_thrown, .ref A_t_text, .int t_typed, .int t_at, .int t_letter, .int t_one, .int t_other, .ref A_t_wins, .ref A_t_fits])), (A_t_s, .inl (cy 0, 45, .inl t_s))]) (wsN := (w_X5_canAdd cy A_t A_t_s A_t_past A_t_begun A_t_text A_t_wins A_t_fits t_pasts t_thrown t_typed t_at t_letter t_one t_other t_s)) ⟨hx, hb, hml, hown, hts⟩ hE hP hD hS hA hAs [] [0, 1] [0, 1] (c_X5_ones l D cy s0 tW N (t_s 1) _ hF_2) (gS q_800 q_801 q_88 q_802) hd_X5_ones.2 ⟨Nat.le_of_ble_eq_true rfl, Nat.le_of_ble_eq_true rfl⟩ rfl rfl rfl rfl rfl rfl rfl hl.1 rfl (Nat.le_of_ble_eq_true rfl) dX5_canAdd_6 ⟨Nat.zero_le _, Nat.zero_le _⟩ (fun H locs hP hD hS => ?_)
  refine W.eq (g2 := F0 m 9 ls [.int r_1]) rfl ?_
  refine lv_istore_n (lv' := [(2, .int r_1), (0, .ref A_t), (1, .int (bI p0))]) hx hb dX5_canAdd_9 rfl hl (by decide) rfl (fun ls hl => ?_)
  refine lv_iload_n hx hb dX5_canAdd_10 rfl (lv_at hl 2 rfl) ?_
  refine lv_if_eq (tgt := 27) hx hb dX5_canAdd_11 (by decide) (fun c_3 => ?_) (fun c_3 => ?_)
  · replace hF := ite_f (bI_f c_3) hF
    refine lv_aload_n hx hb dX5_canAdd_27 rfl (lv_at hl 1 rfl) ?_
    refine va_get (D := D) (ci := 5) (v := .ref A_t_s) (C := RX5) (T := TX5) (N := 13) hx hb hts inX5 hown hK hP 0 rfl rfl 0 (by decide) (hts _ q_731) (fun _ h9 => h9) rfl dX5_canAdd_28 ?_
    refine lv_iconst (v := 0) hx hb dX5_canAdd_31 (by decide) ?_
    refine ka_iald hx hb hK hP 1 rfl (0) rfl (inb_in (by decide)) dX5_canAdd_32 ?_
    refine lv_iload_n hx hb dX5_canAdd_33 rfl (lv_at hl 0 rfl) ?_
    refine lv_isub hx hb dX5_canAdd_34 ?_
    refine lv_bipush (v := 6) hx hb dX5_canAdd_35 (by decide) ?_
    refine lv_icmp_ge (tgt := 44) hx hb dX5_canAdd_37 (by decide) (fun c_4 => ?_) (fun c_4 => ?_)
    · replace hF := ite_t c_4 hF
      refine lv_iconst (v := 0) hx hb dX5_canAdd_44 (by decide) ?_
      cases hF
      exact kret_z hx hb hr hlocks hP hD hS dX5_canAdd_45
    · replace hF := ite_f c_4 hF
      refine lv_iconst (v := 1) hx hb dX5_canAdd_40 (by decide) ?_
      refine lv_goto (tgt := 45) hx hb dX5_canAdd_41 (by decide) ?_
      cases hF
      exact kret_z hx hb hr hlocks hP hD hS dX5_canAdd_45
  · replace hF := ite_t (bI_t c_3) hF
    refine lv_iload_n hx hb dX5_canAdd_14 rfl (lv_at hl 0 rfl) ?_
    refine lv_iconst (v := 3) hx hb dX5_canAdd_15 (by decide) ?_
    refine lv_icmp_ge (tgt := 23) hx hb dX5_canAdd_16 (by decide) (fun c_5 => ?_) (fun c_5 => ?_)
    · replace hF := ite_t c_5 hF
      refine lv_iconst (v := 0) hx hb dX5_canAdd_23 (by decide) ?_
      refine lv_goto (tgt := 45) hx hb dX5_canAdd_24 (by decide) ?_
      cases hF
      exact kret_z hx hb hr hlocks hP hD hS dX5_canAdd_45
    · replace hF := ite_f c_5 hF
      refine lv_iconst (v := 1) hx hb dX5_canAdd_19 (by decide) ?_
      refine lv_goto (tgt := 45) hx hb dX5_canAdd_20 (by decide) ?_
      cases hF
      exact kret_z hx hb hr hlocks hP hD hS dX5_canAdd_45

abbrev w_X5_adds (cy : Nat → ClassId) (A_t : Nat) (A_t_s : Nat) (A_t_past : Nat) (A_t_begun : Nat) (A_t_text : Nat) (A_t_wins : Nat) (A_t_fits : Nat) (t_pasts : Int32) (t_thrown : Int32) (t_typed : Int32) (t_at : Int32) (t_letter : Int32) (t_one : Int32) (t_other : Int32) (t_s : Nat → Int32) : va_W := [(A_t, .inr (5, [.ref A_t_s, .ref A_t_past, .ref A_t_begun, .int t_pasts, .int t_thrown, .ref A_t_text, .int t_typed, .int t_at, .int t_letter, .int t_one, .int t_other, .ref A_t_wins, .ref A_t_fits])), (A_t_s, .inl (cy 0, 45, .inl t_s))]
def F_X5_adds (N : Nat) (p0 : Bool) (t_s : Nat → Int32) : Option (Int32 × (Nat → Int32)) :=
  (if p0 = true then nmv (((upd t_s 1 ((t_s 1) ||| ((1 : Int32) <<< ((t_s 0) &&& 31)))) 0) + 1) (fun x_2 => some ((((upd (upd (upd t_s 1 ((t_s 1) ||| ((1 : Int32) <<< ((t_s 0) &&& 31)))) 0 x_2) 3 0) 0) - 1), (upd (upd (upd t_s 1 ((t_s 1) ||| ((1 : Int32) <<< ((t_s 0) &&& 31)))) 0 x_2) 3 0))) else some ((((upd (upd (upd t_s 1 ((t_s 1) ||| 0)) 0 (((upd t_s 1 ((t_s 1) ||| 0)) 0) + 1)) 3 0) 0) - 1), (upd (upd (upd t_s 1 ((t_s 1) ||| 0)) 0 (((upd t_s 1 ((t_s 1) ||| 0)) 0) + 1)) 3 0)))
set_option maxHeartbeats 4000000 in
set_option maxRecDepth 100000 in
theorem c_X5_adds (l : Launch) (D : va_G) (cy : Nat → ClassId) (s0 tW N : Nat) (A_t : Nat) (A_t_s : Nat) (A_t_past : Nat) (A_t_begun : Nat) (A_t_text : Nat) (A_t_wins : Nat) (A_t_fits : Nat) (p0 : Bool) (t_pasts : Int32) (t_thrown : Int32) (t_typed : Int32) (t_at : Int32) (t_letter : Int32) (t_one : Int32) (t_other : Int32) (t_s : Nat → Int32) (sz : Nat) {r9 : Int32} {t_s9 : Nat → Int32} (hF : F_X5_adds N p0 t_s = some (r9, t_s9)) : KM l D cy s0 tW yX5_adds cX5_adds 2 (some .int) 0 0 [.ref A_t, .int (bI p0)] sz (w_X5_adds cy A_t A_t_s A_t_past A_t_begun A_t_text A_t_wins A_t_fits t_pasts t_thrown t_typed t_at t_letter t_one t_other t_s) (some (.int r9)) (w_X5_adds cy A_t A_t_s A_t_past A_t_begun A_t_text A_t_wins A_t_fits t_pasts t_thrown t_typed t_at t_letter t_one t_other t_s9) := by
  refine KM.intro rfl (Nat.le_of_ble_eq_true rfl) ?_
  intro p e s m args below meth c A ls hx hb hr hml hown hts hlocks hE hP hD hS hA hAs hl
  have hK := hE.1
  have hl : lv_has ls 2 [(0, .ref A_t), (1, .int (bI p0))] := hl
  unfold F_X5_adds at hF
  refine lv_aload_n hx hb dX5_adds_0 rfl (lv_at hl 0 rfl) ?_
  refine va_get (D := D) (ci := 5) (v := .ref A_t_s) (C := RX5) (T := TX5) (N := 13) hx hb hts inX5 hown hK hP 0 rfl rfl 0 (by decide) (hts _ q_731) (fun _ h9 => h9) rfl dX5_adds_1 ?_
  refine lv_iconst (v := 1) hx hb dX5_adds_4 (by decide) ?_
  refine lv_dup2_11 hx hb dX5_adds_5 rfl rfl ?_
  refine ka_iald hx hb hK hP 1 rfl (1) rfl (inb_in (by decide)) dX5_adds_6 ?_
  refine lv_iload_n hx hb dX5_adds_7 rfl (lv_at hl 1 rfl) ?_
  refine lv_if_eq (tgt := 22) hx hb dX5_adds_8 (by decide) (fun c_1 => ?_) (fun c_1 => ?_)
  · replace hF := ite_f (bI_f c_1) hF
    refine lv_iconst (v := 0) hx hb dX5_adds_22 (by decide) ?_
    refine lv_ior hx hb dX5_adds_23 ?_
    refine ka_iast (wsN := (w_X5_adds cy A_t A_t_s A_t_past A_t_begun A_t_text A_t_wins A_t_fits t_pasts t_thrown t_typed t_at t_letter t_one t_other (upd t_s 1 ((t_s 1) ||| 0)))) hx hb hK hP hD hS 1 rfl (1) rfl (inb_in (by decide)) rfl dX5_adds_24 (fun H locs hP hD hS => ?_)
    refine lv_aload_n hx hb dX5_adds_25 rfl (lv_at hl 0 rfl) ?_
    refine va_get (D := D) (ci := 5) (v := .ref A_t_s) (C := RX5) (T := TX5) (N := 13) hx hb hts inX5 hown hK hP 0 rfl rfl 0 (by decide) (hts _ q_731) (fun _ h9 => h9) rfl dX5_adds_26 ?_
    refine lv_iconst (v := 0) hx hb dX5_adds_29 (by decide) ?_
    refine lv_dup2_11 hx hb dX5_adds_30 rfl rfl ?_
    refine ka_iald hx hb hK hP 1 rfl (0) rfl (inb_in (by decide)) dX5_adds_31 ?_
    refine lv_iconst (v := 1) hx hb dX5_adds_32 (by decide) ?_
    refine lv_iadd hx hb dX5_adds_33 ?_
    refine ka_iast (wsN := (w_X5_adds cy A_t A_t_s A_t_past A_t_begun A_t_text A_t_wins A_t_fits t_pasts t_thrown t_typed t_at t_letter t_one t_other (upd (upd t_s 1 ((t_s 1) ||| 0)) 0 (((upd t_s 1 ((t_s 1) ||| 0)) 0) + 1)))) hx hb hK hP hD hS 1 rfl (0) rfl (inb_in (by decide)) rfl dX5_adds_34 (fun H locs hP hD hS => ?_)
    refine lv_aload_n hx hb dX5_adds_35 rfl (lv_at hl 0 rfl) ?_
    refine va_get (D := D) (ci := 5) (v := .ref A_t_s) (C := RX5) (T := TX5) (N := 13) hx hb hts inX5 hown hK hP 0 rfl rfl 0 (by decide) (hts _ q_731) (fun _ h9 => h9) rfl dX5_adds_36 ?_
    refine lv_iconst (v := 3) hx hb dX5_adds_39 (by decide) ?_
    refine lv_iconst (v := 0) hx hb dX5_adds_40 (by decide) ?_
    refine ka_iast (wsN := (w_X5_adds cy A_t A_t_s A_t_past A_t_begun A_t_text A_t_wins A_t_fits t_pasts t_thrown t_typed t_at t_letter t_one t_other (upd (upd (upd t_s 1 ((t_s 1) ||| 0)) 0 (((upd t_s 1 ((t_s 1) ||| 0)) 0) + 1)) 3 0))) hx hb hK hP hD hS 1 rfl (3) rfl (inb_in (by decide)) rfl dX5_adds_41 (fun H locs hP hD hS => ?_)
    refine lv_aload_n hx hb dX5_adds_42 rfl (lv_at hl 0 rfl) ?_
    refine va_get (D := D) (ci := 5) (v := .ref A_t_s) (C := RX5) (T := TX5) (N := 13) hx hb hts inX5 hown hK hP 0 rfl rfl 0 (by decide) (hts _ q_731) (fun _ h9 => h9) rfl dX5_adds_43 ?_
    refine lv_iconst (v := 0) hx hb dX5_adds_46 (by decide) ?_
    refine ka_iald hx hb hK hP 1 rfl (0) rfl (inb_in (by decide)) dX5_adds_47 ?_
    refine lv_iconst (v := 1) hx hb dX5_adds_48 (by decide) ?_
    refine lv_isub hx hb dX5_adds_49 ?_
    cases hF
    exact kret_i hx hb hr hlocks hP hD hS dX5_adds_50
  · replace hF := ite_t (bI_t c_1) hF
    refine lv_iconst (v := 1) hx hb dX5_adds_11 (by decide) ?_
    refine lv_aload_n hx hb dX5_adds_12 rfl (lv_at hl 0 rfl) ?_
    refine va_get (D := D) (ci := 5) (v := .ref A_t_s) (C := RX5) (T := TX5) (N := 13) hx hb hts inX5 hown hK hP 0 rfl rfl 0 (by decide) (hts _ q_731) (fun _ h9 => h9) rfl dX5_adds_13 ?_
    refine lv_iconst (v := 0) hx hb dX5_adds_16 (by decide) ?_
    refine ka_iald hx hb hK hP 1 rfl (0) rfl (inb_in (by decide)) dX5_adds_17 ?_
    refine lv_ishl hx hb dX5_adds_18 ?_
    refine lv_goto (tgt := 23) hx hb dX5_adds_19 (by decide) ?_
    refine lv_ior hx hb dX5_adds_23 ?_
    refine ka_iast (wsN := (w_X5_adds cy A_t A_t_s A_t_past A_t_begun A_t_text A_t_wins A_t_fits t_pasts t_thrown t_typed t_at t_letter t_one t_other (upd t_s 1 ((t_s 1) ||| ((1 : Int32) <<< ((t_s 0) &&& 31)))))) hx hb hK hP hD hS 1 rfl (1) rfl (inb_in (by decide)) rfl dX5_adds_24 (fun H locs hP hD hS => ?_)
    refine lv_aload_n hx hb dX5_adds_25 rfl (lv_at hl 0 rfl) ?_
    refine va_get (D := D) (ci := 5) (v := .ref A_t_s) (C := RX5) (T := TX5) (N := 13) hx hb hts inX5 hown hK hP 0 rfl rfl 0 (by decide) (hts _ q_731) (fun _ h9 => h9) rfl dX5_adds_26 ?_
    refine lv_iconst (v := 0) hx hb dX5_adds_29 (by decide) ?_
    refine lv_dup2_11 hx hb dX5_adds_30 rfl rfl ?_
    refine ka_iald hx hb hK hP 1 rfl (0) rfl (inb_in (by decide)) dX5_adds_31 ?_
    refine lv_iconst (v := 1) hx hb dX5_adds_32 (by decide) ?_
    refine lv_iadd hx hb dX5_adds_33 ?_
    refine lv_topi (fun x_2 ex_2 => ?_)
    replace hF := nmv_at ex_2 hF
    refine ka_iast (wsN := (w_X5_adds cy A_t A_t_s A_t_past A_t_begun A_t_text A_t_wins A_t_fits t_pasts t_thrown t_typed t_at t_letter t_one t_other (upd (upd t_s 1 ((t_s 1) ||| ((1 : Int32) <<< ((t_s 0) &&& 31)))) 0 x_2))) hx hb hK hP hD hS 1 rfl (0) rfl (inb_in (by decide)) rfl dX5_adds_34 (fun H locs hP hD hS => ?_)
    refine lv_aload_n hx hb dX5_adds_35 rfl (lv_at hl 0 rfl) ?_
    refine va_get (D := D) (ci := 5) (v := .ref A_t_s) (C := RX5) (T := TX5) (N := 13) hx hb hts inX5 hown hK hP 0 rfl rfl 0 (by decide) (hts _ q_731) (fun _ h9 => h9) rfl dX5_adds_36 ?_
    refine lv_iconst (v := 3) hx hb dX5_adds_39 (by decide) ?_
    refine lv_iconst (v := 0) hx hb dX5_adds_40 (by decide) ?_
    refine ka_iast (wsN := (w_X5_adds cy A_t A_t_s A_t_past A_t_begun A_t_text A_t_wins A_t_fits t_pasts t_thrown t_typed t_at t_letter t_one t_other (upd (upd (upd t_s 1 ((t_s 1) ||| ((1 : Int32) <<< ((t_s 0) &&& 31)))) 0 x_2) 3 0))) hx hb hK hP hD hS 1 rfl (3) rfl (inb_in (by decide)) rfl dX5_adds_41 (fun H locs hP hD hS => ?_)
    refine lv_aload_n hx hb dX5_adds_42 rfl (lv_at hl 0 rfl) ?_
    refine va_get (D := D) (ci := 5) (v := .ref A_t_s) (C := RX5) (T := TX5) (N := 13) hx hb hts inX5 hown hK hP 0 rfl rfl 0 (by decide) (hts _ q_731) (fun _ h9 => h9) rfl dX5_adds_43 ?_
    refine lv_iconst (v := 0) hx hb dX5_adds_46 (by decide) ?_
    refine ka_iald hx hb hK hP 1 rfl (0) rfl (inb_in (by decide)) dX5_adds_47 ?_
    refine lv_iconst (v := 1) hx hb dX5_adds_48 (by decide) ?_
    refine lv_isub hx hb dX5_adds_49 ?_
    cases hF
    exact kret_i hx hb hr hlocks hP hD hS dX5_adds_50

theorem q_49 : Cond.selects RX5 yX5_canAdd yX5_canAdd ∈ wAll := wAll_mem 49 (by decide +kernel) (by decide +kernel)
theorem q_50 : Cond.selects RX5 yX5_fails yX5_fails ∈ wAll := wAll_mem 50 (by decide +kernel) (by decide +kernel)
theorem q_51 : Cond.selects RX5 yX5_adds yX5_adds ∈ wAll := wAll_mem 51 (by decide +kernel) (by decide +kernel)
theorem q_796 : Cond.methodLink RX5 58 yX5_canAdd ∈ wAll := wAll_mem 796 (by decide +kernel) (by decide +kernel)
theorem q_798 : Cond.instanceMethod yX5_canAdd ∈ wAll := wAll_mem 798 (by decide +kernel) (by decide +kernel)
theorem q_799 : Cond.code yX5_canAdd cX5_canAdd 3 (some .boolean) ∈ wAll := wAll_mem 799 (by decide +kernel) (by decide +kernel)
theorem q_803 : Cond.methodLink RX5 62 yX5_fails ∈ wAll := wAll_mem 803 (by decide +kernel) (by decide +kernel)
theorem q_805 : Cond.instanceMethod yX5_fails ∈ wAll := wAll_mem 805 (by decide +kernel) (by decide +kernel)
theorem q_806 : Cond.code yX5_fails cX5_fails 2 (some .int) ∈ wAll := wAll_mem 806 (by decide +kernel) (by decide +kernel)
theorem q_807 : Cond.methodLink RX5 65 yX5_adds ∈ wAll := wAll_mem 807 (by decide +kernel) (by decide +kernel)
theorem q_809 : Cond.instanceMethod yX5_adds ∈ wAll := wAll_mem 809 (by decide +kernel) (by decide +kernel)
theorem q_810 : Cond.code yX5_adds cX5_adds 2 (some .int) ∈ wAll := wAll_mem 810 (by decide +kernel) (by decide +kernel)
theorem hd_X5_adds : yX5_adds.cls = RX5 ∧ yX5_adds.cls ≠ "java/lang/invoke/MethodHandle" ∧ yX5_adds.cls ≠ "java/lang/invoke/VarHandle" ∧ (parseMethodDescriptor yX5_adds.desc).map (fun d => d.parameters.length) = some 1 := by decide +kernel
theorem hd_X5_canAdd : yX5_canAdd.cls = RX5 ∧ yX5_canAdd.cls ≠ "java/lang/invoke/MethodHandle" ∧ yX5_canAdd.cls ≠ "java/lang/invoke/VarHandle" ∧ (parseMethodDescriptor yX5_canAdd.desc).map (fun d => d.parameters.length) = some 1 := by decide +kernel
theorem hd_X5_fails : yX5_fails.cls = RX5 ∧ yX5_fails.cls ≠ "java/lang/invoke/MethodHandle" ∧ yX5_fails.cls ≠ "java/lang/invoke/VarHandle" ∧ (parseMethodDescriptor yX5_fails.desc).map (fun d => d.parameters.length) = some 1 := by decide +kernel
abbrev w_X5_addVariable (cy : Nat → ClassId) (A_t : Nat) (A_t_s : Nat) (A_t_past : Nat) (A_t_begun : Nat) (A_t_text : Nat) (A_t_wins : Nat) (A_t_fits : Nat) (t_pasts : Int32) (t_thrown : Int32) (t_typed : Int32) (t_at : Int32) (t_letter : Int32) (t_one : Int32) (t_other : Int32) (t_s : Nat → Int32) (t_past : Nat → Int32) (t_begun : Nat → Int32) : va_W := [(A_t, .inr (5, [.ref A_t_s, .ref A_t_past, .ref A_t_begun, .int t_pasts, .int t_thrown, .ref A_t_text, .int t_typed, .int t_at, .int t_letter, .int t_one, .int t_other, .ref A_t_wins, .ref A_t_fits])), (A_t_s, .inl (cy 0, 45, .inl t_s)), (A_t_past, .inl (cy 0, 180, .inl t_past)), (A_t_begun, .inl (cy 0, 45, .inl t_begun))]
def F_X5_addVariable (N : Nat) (p0 : Bool) (t_s : Nat → Int32) (t_past : Nat → Int32) (t_begun : Nat → Int32) (t_pasts : Int32) (t_thrown : Int32) : Option (Int32 × (Nat → Int32) × (Nat → Int32) × (Nat → Int32) × Int32 × Int32) :=
  ob1 (F_X5_canAdd N p0 t_s) (fun r_1 => (if r_1 = true then ob1 (F_X5_begins N t_s t_begun) (fun t_begun_4 => ob2 (F_X5_adds N p0 t_s) (fun r_6 t_s_7 => ob4 (F_X5_saved N r_6 t_past t_begun_4 t_pasts t_thrown) (fun r_9 t_past_10 t_pasts_11 t_thrown_12 => some (r_9, t_s_7, t_past_10, t_begun_4, t_pasts_11, t_thrown_12)))) else ob2 (F_X5_fails N 1 t_thrown) (fun r_14 t_thrown_15 => some (r_14, t_s, t_past, t_begun, t_pasts, t_thrown_15))))
set_option maxHeartbeats 4000000 in
set_option maxRecDepth 100000 in
theorem c_X5_addVariable (l : Launch) (D : va_G) (cy : Nat → ClassId) (s0 tW N : Nat) (A_t : Nat) (A_t_s : Nat) (A_t_past : Nat) (A_t_begun : Nat) (A_t_text : Nat) (A_t_wins : Nat) (A_t_fits : Nat) (p0 : Bool) (t_pasts : Int32) (t_thrown : Int32) (t_typed : Int32) (t_at : Int32) (t_letter : Int32) (t_one : Int32) (t_other : Int32) (t_s : Nat → Int32) (t_past : Nat → Int32) (t_begun : Nat → Int32) (sz : Nat) {r9 : Int32} {t_s9 : Nat → Int32} {t_past9 : Nat → Int32} {t_begun9 : Nat → Int32} {t_pasts9 : Int32} {t_thrown9 : Int32} (hF : F_X5_addVariable N p0 t_s t_past t_begun t_pasts t_thrown = some (r9, t_s9, t_past9, t_begun9, t_pasts9, t_thrown9)) : KM l D cy s0 tW yX5_addVariable cX5_addVariable 2 (some .int) 2 44 [.ref A_t, .int (bI p0)] sz (w_X5_addVariable cy A_t A_t_s A_t_past A_t_begun A_t_text A_t_wins A_t_fits t_pasts t_thrown t_typed t_at t_letter t_one t_other t_s t_past t_begun) (some (.int r9)) (w_X5_addVariable cy A_t A_t_s A_t_past A_t_begun A_t_text A_t_wins A_t_fits t_pasts9 t_thrown9 t_typed t_at t_letter t_one t_other t_s9 t_past9 t_begun9) := by
  refine KM.intro rfl (Nat.le_of_ble_eq_true rfl) ?_
  intro p e s m args below meth c A ls hx hb hr hml hown hts hlocks hE hP hD hS hA hAs hl
  have hK := hE.1
  have hl : lv_has ls 2 [(0, .ref A_t), (1, .int (bI p0))] := hl
  unfold F_X5_addVariable at hF
  refine lv_aload_n hx hb dX5_addVariable_0 rfl (lv_at hl 0 rfl) ?_
  refine lv_iload_n hx hb dX5_addVariable_1 rfl (lv_at hl 1 rfl) ?_
  obtain ⟨r_1, hF_2, hF⟩ := ob1_some hF
  refine kcV (q := (RX5, TX5, 13)) (ci := 5) (q0 := 0) (As := [.int (bI p0)]) (rest := []) (wr := [(A_t_past, .inl (cy 0, 180, .inl t_past)), (A_t_begun, .inl (cy 0, 45, .inl t_begun))]) (wsN := (w_X5_addVariable cy A_t A_t_s A_t_past A_t_begun A_t_text A_t_wins A_t_fits t_pasts t_thrown t_typed t_at t_letter t_one t_other t_s t_past t_begun)) ⟨hx, hb, hml, hown, hts⟩ hE hP hD hS hA hAs [0, 1] [2, 3] [2, 3, 0, 1] (c_X5_canAdd l D cy s0 tW N A_t A_t_s A_t_past A_t_begun A_t_text A_t_wins A_t_fits p0 t_pasts t_thrown t_typed t_at t_letter t_one t_other t_s _ hF_2) (gV q_796 q_798 q_49 q_88 q_799) hd_X5_canAdd ⟨Nat.le_of_ble_eq_true rfl, Nat.le_of_ble_eq_true rfl⟩ rfl rfl rfl rfl rfl rfl rfl rfl rfl hl.1 rfl (Nat.le_of_ble_eq_true rfl) dX5_addVariable_2 ⟨Nat.zero_le _, Nat.zero_le _⟩ (fun H locs hP hD hS => ?_)
  refine W.eq (g2 := F0 m 5 ls [.int (bI r_1)]) rfl ?_
  refine lv_if_ne (tgt := 14) hx hb dX5_addVariable_5 (by decide) (fun c_3 => ?_) (fun c_3 => ?_)
  · replace hF := ite_t (bI_t c_3) hF
    refine lv_aload_n hx hb dX5_addVariable_14 rfl (lv_at hl 0 rfl) ?_
    obtain ⟨t_begun_4, hF_5, hF⟩ := ob1_some hF
    refine kcV (q := (RX5, TX5, 13)) (ci := 5) (q0 := 0) (As := []) (rest := []) (wr := [(A_t_past, .inl (cy 0, 180, .inl t_past))]) (wsN := (w_X5_addVariable cy A_t A_t_s A_t_past A_t_begun A_t_text A_t_wins A_t_fits t_pasts t_thrown t_typed t_at t_letter t_one t_other t_s t_past t_begun_4)) ⟨hx, hb, hml, hown, hts⟩ hE hP hD hS hA hAs [0, 1, 3] [2] [1, 2, 0, 3] (c_X5_begins l D cy s0 tW N A_t A_t_s A_t_past A_t_begun A_t_text A_t_wins A_t_fits t_pasts t_thrown t_typed t_at t_letter t_one t_other t_s t_begun _ hF_5) (gV q_780 q_782 q_46 q_88 q_783) hd_X5_begins ⟨Nat.le_of_ble_eq_true rfl, Nat.le_of_ble_eq_true rfl⟩ rfl rfl rfl rfl rfl rfl rfl rfl rfl hl.1 rfl (Nat.le_of_ble_eq_true rfl) dX5_addVariable_15 ⟨Nat.zero_le _, Nat.zero_le _⟩ (fun H locs hP hD hS => ?_)
    refine W.eq (g2 := F0 m 18 ls []) rfl ?_
    refine lv_aload_n hx hb dX5_addVariable_18 rfl (lv_at hl 0 rfl) ?_
    refine lv_aload_n hx hb dX5_addVariable_19 rfl (lv_at hl 0 rfl) ?_
    refine lv_iload_n hx hb dX5_addVariable_20 rfl (lv_at hl 1 rfl) ?_
    obtain ⟨r_6, t_s_7, hF_8, hF⟩ := ob2_some hF
    refine kcV (q := (RX5, TX5, 13)) (ci := 5) (q0 := 0) (As := [.int (bI p0)]) (rest := [.ref A_t]) (wr := [(A_t_past, .inl (cy 0, 180, .inl t_past)), (A_t_begun, .inl (cy 0, 45, .inl t_begun_4))]) (wsN := (w_X5_addVariable cy A_t A_t_s A_t_past A_t_begun A_t_text A_t_wins A_t_fits t_pasts t_thrown t_typed t_at t_letter t_one t_other t_s_7 t_past t_begun_4)) ⟨hx, hb, hml, hown, hts⟩ hE hP hD hS hA hAs [0, 1] [2, 3] [2, 3, 0, 1] (c_X5_adds l D cy s0 tW N A_t A_t_s A_t_past A_t_begun A_t_text A_t_wins A_t_fits p0 t_pasts t_thrown t_typed t_at t_letter t_one t_other t_s _ hF_8) (gV q_807 q_809 q_51 q_88 q_810) hd_X5_adds ⟨Nat.le_of_ble_eq_true rfl, Nat.le_of_ble_eq_true rfl⟩ rfl rfl rfl rfl rfl rfl rfl rfl rfl hl.1 rfl (Nat.le_of_ble_eq_true rfl) dX5_addVariable_21 ⟨Nat.zero_le _, Nat.zero_le _⟩ (fun H locs hP hD hS => ?_)
    refine W.eq (g2 := F0 m 24 ls [.int r_6, .ref A_t]) rfl ?_
    obtain ⟨r_9, t_past_10, t_pasts_11, t_thrown_12, hF_13, hF⟩ := ob4_some hF
    refine kcV (q := (RX5, TX5, 13)) (ci := 5) (q0 := 0) (As := [.int r_6]) (rest := []) (wr := [(A_t_s, .inl (cy 0, 45, .inl t_s_7))]) (wsN := (w_X5_addVariable cy A_t A_t_s A_t_past A_t_begun A_t_text A_t_wins A_t_fits t_pasts_11 t_thrown_12 t_typed t_at t_letter t_one t_other t_s_7 t_past_10 t_begun_4)) ⟨hx, hb, hml, hown, hts⟩ hE hP hD hS hA hAs [0, 2, 3] [1] [1, 0, 2, 3] (c_X5_saved l D cy s0 tW N A_t A_t_s A_t_past A_t_begun A_t_text A_t_wins A_t_fits r_6 t_pasts t_thrown t_typed t_at t_letter t_one t_other t_past t_begun_4 _ hF_13) (gV q_784 q_786 q_47 q_88 q_787) hd_X5_saved ⟨Nat.le_of_ble_eq_true rfl, Nat.le_of_ble_eq_true rfl⟩ rfl rfl rfl rfl rfl rfl rfl rfl rfl hl.1 rfl (Nat.le_of_ble_eq_true rfl) dX5_addVariable_24 ⟨Nat.zero_le _, Nat.zero_le _⟩ (fun H locs hP hD hS => ?_)
    refine W.eq (g2 := F0 m 27 ls [.int r_9]) rfl ?_
    cases hF
    exact kret_i hx hb hr hlocks hP hD hS dX5_addVariable_27
  · replace hF := ite_f (bI_f c_3) hF
    refine lv_aload_n hx hb dX5_addVariable_8 rfl (lv_at hl 0 rfl) ?_
    refine lv_iconst (v := 1) hx hb dX5_addVariable_9 (by decide) ?_
    obtain ⟨r_14, t_thrown_15, hF_16, hF⟩ := ob2_some hF
    refine kcV (q := (RX5, TX5, 13)) (ci := 5) (q0 := 0) (As := [.int 1]) (rest := []) (wr := [(A_t_s, .inl (cy 0, 45, .inl t_s)), (A_t_past, .inl (cy 0, 180, .inl t_past)), (A_t_begun, .inl (cy 0, 45, .inl t_begun))]) (wsN := (w_X5_addVariable cy A_t A_t_s A_t_past A_t_begun A_t_text A_t_wins A_t_fits t_pasts t_thrown_15 t_typed t_at t_letter t_one t_other t_s t_past t_begun)) ⟨hx, hb, hml, hown, hts⟩ hE hP hD hS hA hAs [0] [1, 2, 3] [3, 0, 1, 2] (c_X5_fails l D cy s0 tW N A_t A_t_s A_t_past A_t_begun A_t_text A_t_wins A_t_fits 1 t_pasts t_thrown t_typed t_at t_letter t_one t_other _ hF_16) (gV q_803 q_805 q_50 q_88 q_806) hd_X5_fails ⟨Nat.le_of_ble_eq_true rfl, Nat.le_of_ble_eq_true rfl⟩ rfl rfl rfl rfl rfl rfl rfl rfl rfl hl.1 rfl (Nat.le_of_ble_eq_true rfl) dX5_addVariable_10 ⟨Nat.zero_le _, Nat.zero_le _⟩ (fun H locs hP hD hS => ?_)
    refine W.eq (g2 := F0 m 13 ls [.int r_14]) rfl ?_
    cases hF
    exact kret_i hx hb hr hlocks hP hD hS dX5_addVariable_13

theorem q_53 : Cond.selects RX5 yX5_isSet yX5_isSet ∈ wAll := wAll_mem 53 (by decide +kernel) (by decide +kernel)
theorem q_819 : Cond.methodLink RX5 69 yX5_isSet ∈ wAll := wAll_mem 819 (by decide +kernel) (by decide +kernel)
theorem q_821 : Cond.instanceMethod yX5_isSet ∈ wAll := wAll_mem 821 (by decide +kernel) (by decide +kernel)
theorem q_822 : Cond.code yX5_isSet cX5_isSet 2 (some .boolean) ∈ wAll := wAll_mem 822 (by decide +kernel) (by decide +kernel)
theorem hd_X5_isSet : yX5_isSet.cls = RX5 ∧ yX5_isSet.cls ≠ "java/lang/invoke/MethodHandle" ∧ yX5_isSet.cls ≠ "java/lang/invoke/VarHandle" ∧ (parseMethodDescriptor yX5_isSet.desc).map (fun d => d.parameters.length) = some 1 := by decide +kernel
abbrev w_X5_whyNotClause (cy : Nat → ClassId) (A_t : Nat) (A_t_s : Nat) (A_t_past : Nat) (A_t_begun : Nat) (A_t_text : Nat) (A_t_wins : Nat) (A_t_fits : Nat) (t_pasts : Int32) (t_thrown : Int32) (t_typed : Int32) (t_at : Int32) (t_letter : Int32) (t_one : Int32) (t_other : Int32) (t_s : Nat → Int32) : va_W := [(A_t, .inr (5, [.ref A_t_s, .ref A_t_past, .ref A_t_begun, .int t_pasts, .int t_thrown, .ref A_t_text, .int t_typed, .int t_at, .int t_letter, .int t_one, .int t_other, .ref A_t_wins, .ref A_t_fits])), (A_t_s, .inl (cy 0, 45, .inl t_s))]
def F_X5_whyNotClause (N : Nat) (p0 : Int32) (p1 : Int32) (t_s : Nat → Int32) : Option (Int32) :=
  ob1 (F_X5_isSet N p0 t_s) (fun r_1 => (if r_1 = true then ob1 (F_X5_isSet N p1 t_s) (fun r_4 => (if r_4 = true then (if (t_s 2) = (20 : Int32) then some 2 else some 0) else some 1)) else some 1))
set_option maxHeartbeats 4000000 in
set_option maxRecDepth 100000 in
theorem c_X5_whyNotClause (l : Launch) (D : va_G) (cy : Nat → ClassId) (s0 tW N : Nat) (A_t : Nat) (A_t_s : Nat) (A_t_past : Nat) (A_t_begun : Nat) (A_t_text : Nat) (A_t_wins : Nat) (A_t_fits : Nat) (p0 : Int32) (p1 : Int32) (t_pasts : Int32) (t_thrown : Int32) (t_typed : Int32) (t_at : Int32) (t_letter : Int32) (t_one : Int32) (t_other : Int32) (t_s : Nat → Int32) (sz : Nat) {r9 : Int32} (hF : F_X5_whyNotClause N p0 p1 t_s = some r9) : KM l D cy s0 tW yX5_whyNotClause cX5_whyNotClause 3 (some .int) 2 43 [.ref A_t, .int p0, .int p1] sz (w_X5_whyNotClause cy A_t A_t_s A_t_past A_t_begun A_t_text A_t_wins A_t_fits t_pasts t_thrown t_typed t_at t_letter t_one t_other t_s) (some (.int r9)) (w_X5_whyNotClause cy A_t A_t_s A_t_past A_t_begun A_t_text A_t_wins A_t_fits t_pasts t_thrown t_typed t_at t_letter t_one t_other t_s) := by
  refine KM.intro rfl (Nat.le_of_ble_eq_true rfl) ?_
  intro p e s m args below meth c A ls hx hb hr hml hown hts hlocks hE hP hD hS hA hAs hl
  have hK := hE.1
  have hl : lv_has ls 3 [(0, .ref A_t), (1, .int p0), (2, .int p1)] := hl
  unfold F_X5_whyNotClause at hF
  refine lv_aload_n hx hb dX5_whyNotClause_0 rfl (lv_at hl 0 rfl) ?_
  refine lv_iload_n hx hb dX5_whyNotClause_1 rfl (lv_at hl 1 rfl) ?_
  obtain ⟨r_1, hF_2, hF⟩ := ob1_some hF
  refine kcV (q := (RX5, TX5, 13)) (ci := 5) (q0 := 0) (As := [.int p0]) (rest := []) (wr := []) (wsN := (w_X5_whyNotClause cy A_t A_t_s A_t_past A_t_begun A_t_text A_t_wins A_t_fits t_pasts t_thrown t_typed t_at t_letter t_one t_other t_s)) ⟨hx, hb, hml, hown, hts⟩ hE hP hD hS hA hAs [0, 1] [] [0, 1] (c_X5_isSet l D cy s0 tW N A_t A_t_s A_t_past A_t_begun A_t_text A_t_wins A_t_fits p0 t_pasts t_thrown t_typed t_at t_letter t_one t_other t_s _ hF_2) (gV q_819 q_821 q_53 q_88 q_822) hd_X5_isSet ⟨Nat.le_of_ble_eq_true rfl, Nat.le_of_ble_eq_true rfl⟩ rfl rfl rfl rfl rfl rfl rfl rfl rfl hl.1 rfl (Nat.le_of_ble_eq_true rfl) dX5_whyNotClause_2 ⟨Nat.zero_le _, Nat.zero_le _⟩ (fun H locs hP hD hS => ?_)
  refine W.eq (g2 := F0 m 5 ls [.int (bI r_1)]) rfl ?_
  refine lv_if_eq (tgt := 16) hx hb dX5_whyNotClause_5 (by decide) (fun c_3 => ?_) (fun c_3 => ?_)
  · replace hF := ite_f (bI_f c_3) hF
    refine lv_iconst (v := 1) hx hb dX5_whyNotClause_16 (by decide) ?_
    refine lv_goto (tgt := 36) hx hb dX5_whyNotClause_17 (by decide) ?_
    cases hF
    exact kret_i hx hb hr hlocks hP hD hS dX5_whyNotClause_36
  · replace hF := ite_t (bI_t c_3) hF
    refine lv_aload_n hx hb dX5_whyNotClause_8 rfl (lv_at hl 0 rfl) ?_
    refine lv_iload_n hx hb dX5_whyNotClause_9 rfl (lv_at hl 2 rfl) ?_
    obtain ⟨r_4, hF_5, hF⟩ := ob1_some hF
    refine kcV (q := (RX5, TX5, 13)) (ci := 5) (q0 := 0) (As := [.int p1]) (rest := []) (wr := []) (wsN := (w_X5_whyNotClause cy A_t A_t_s A_t_past A_t_begun A_t_text A_t_wins A_t_fits t_pasts t_thrown t_typed t_at t_letter t_one t_other t_s)) ⟨hx, hb, hml, hown, hts⟩ hE hP hD hS hA hAs [0, 1] [] [0, 1] (c_X5_isSet l D cy s0 tW N A_t A_t_s A_t_past A_t_begun A_t_text A_t_wins A_t_fits p1 t_pasts t_thrown t_typed t_at t_letter t_one t_other t_s _ hF_5) (gV q_819 q_821 q_53 q_88 q_822) hd_X5_isSet ⟨Nat.le_of_ble_eq_true rfl, Nat.le_of_ble_eq_true rfl⟩ rfl rfl rfl rfl rfl rfl rfl rfl rfl hl.1 rfl (Nat.le_of_ble_eq_true rfl) dX5_whyNotClause_10 ⟨Nat.zero_le _, Nat.zero_le _⟩ (fun H locs hP hD hS => ?_)
    refine W.eq (g2 := F0 m 13 ls [.int (bI r_4)]) rfl ?_
    refine lv_if_ne (tgt := 20) hx hb dX5_whyNotClause_13 (by decide) (fun c_6 => ?_) (fun c_6 => ?_)
    · replace hF := ite_t (bI_t c_6) hF
      refine lv_aload_n hx hb dX5_whyNotClause_20 rfl (lv_at hl 0 rfl) ?_
      refine va_get (D := D) (ci := 5) (v := .ref A_t_s) (C := RX5) (T := TX5) (N := 13) hx hb hts inX5 hown hK hP 0 rfl rfl 0 (by decide) (hts _ q_731) (fun _ h9 => h9) rfl dX5_whyNotClause_21 ?_
      refine lv_iconst (v := 2) hx hb dX5_whyNotClause_24 (by decide) ?_
      refine ka_iald hx hb hK hP 1 rfl (2) rfl (inb_in (by decide)) dX5_whyNotClause_25 ?_
      refine lv_bipush (v := 20) hx hb dX5_whyNotClause_26 (by decide) ?_
      refine lv_icmp_ne (tgt := 35) hx hb dX5_whyNotClause_28 (by decide) (fun c_7 => ?_) (fun c_7 => ?_)
      · replace hF := ite_f c_7 hF
        refine lv_iconst (v := 0) hx hb dX5_whyNotClause_35 (by decide) ?_
        cases hF
        exact kret_i hx hb hr hlocks hP hD hS dX5_whyNotClause_36
      · replace hF := ite_t c_7 hF
        refine lv_iconst (v := 2) hx hb dX5_whyNotClause_31 (by decide) ?_
        refine lv_goto (tgt := 36) hx hb dX5_whyNotClause_32 (by decide) ?_
        cases hF
        exact kret_i hx hb hr hlocks hP hD hS dX5_whyNotClause_36
    · replace hF := ite_f (bI_f c_6) hF
      refine lv_iconst (v := 1) hx hb dX5_whyNotClause_16 (by decide) ?_
      refine lv_goto (tgt := 36) hx hb dX5_whyNotClause_17 (by decide) ?_
      cases hF
      exact kret_i hx hb hr hlocks hP hD hS dX5_whyNotClause_36

abbrev w_X5_addsClause (cy : Nat → ClassId) (A_t : Nat) (A_t_s : Nat) (A_t_past : Nat) (A_t_begun : Nat) (A_t_text : Nat) (A_t_wins : Nat) (A_t_fits : Nat) (t_pasts : Int32) (t_thrown : Int32) (t_typed : Int32) (t_at : Int32) (t_letter : Int32) (t_one : Int32) (t_other : Int32) (t_s : Nat → Int32) : va_W := [(A_t, .inr (5, [.ref A_t_s, .ref A_t_past, .ref A_t_begun, .int t_pasts, .int t_thrown, .ref A_t_text, .int t_typed, .int t_at, .int t_letter, .int t_one, .int t_other, .ref A_t_wins, .ref A_t_fits])), (A_t_s, .inl (cy 0, 45, .inl t_s))]
def F_X5_addsClause (N : Nat) (p0 : Int32) (p1 : Int32) (t_s : Nat → Int32) : Option (Int32 × (Nat → Int32)) :=
  gd (inb (5 + (t_s 2)) 45) (gd (inb (25 + ((upd t_s ((5 + (t_s 2)).toNatClampNeg) p0) 2)) 45) (nmv (((upd (upd t_s ((5 + (t_s 2)).toNatClampNeg) p0) ((25 + ((upd t_s ((5 + (t_s 2)).toNatClampNeg) p0) 2)).toNatClampNeg) p1) 2) + 1) (fun x_3 => some ((((upd (upd (upd (upd t_s ((5 + (t_s 2)).toNatClampNeg) p0) ((25 + ((upd t_s ((5 + (t_s 2)).toNatClampNeg) p0) 2)).toNatClampNeg) p1) 2 x_3) 3 0) 2) - 1), (upd (upd (upd (upd t_s ((5 + (t_s 2)).toNatClampNeg) p0) ((25 + ((upd t_s ((5 + (t_s 2)).toNatClampNeg) p0) 2)).toNatClampNeg) p1) 2 x_3) 3 0)))))
set_option maxHeartbeats 4000000 in
set_option maxRecDepth 100000 in
theorem c_X5_addsClause (l : Launch) (D : va_G) (cy : Nat → ClassId) (s0 tW N : Nat) (A_t : Nat) (A_t_s : Nat) (A_t_past : Nat) (A_t_begun : Nat) (A_t_text : Nat) (A_t_wins : Nat) (A_t_fits : Nat) (p0 : Int32) (p1 : Int32) (t_pasts : Int32) (t_thrown : Int32) (t_typed : Int32) (t_at : Int32) (t_letter : Int32) (t_one : Int32) (t_other : Int32) (t_s : Nat → Int32) (sz : Nat) {r9 : Int32} {t_s9 : Nat → Int32} (hF : F_X5_addsClause N p0 p1 t_s = some (r9, t_s9)) : KM l D cy s0 tW yX5_addsClause cX5_addsClause 3 (some .int) 0 0 [.ref A_t, .int p0, .int p1] sz (w_X5_addsClause cy A_t A_t_s A_t_past A_t_begun A_t_text A_t_wins A_t_fits t_pasts t_thrown t_typed t_at t_letter t_one t_other t_s) (some (.int r9)) (w_X5_addsClause cy A_t A_t_s A_t_past A_t_begun A_t_text A_t_wins A_t_fits t_pasts t_thrown t_typed t_at t_letter t_one t_other t_s9) := by
  refine KM.intro rfl (Nat.le_of_ble_eq_true rfl) ?_
  intro p e s m args below meth c A ls hx hb hr hml hown hts hlocks hE hP hD hS hA hAs hl
  have hK := hE.1
  have hl : lv_has ls 3 [(0, .ref A_t), (1, .int p0), (2, .int p1)] := hl
  unfold F_X5_addsClause at hF
  refine lv_aload_n hx hb dX5_addsClause_0 rfl (lv_at hl 0 rfl) ?_
  refine va_get (D := D) (ci := 5) (v := .ref A_t_s) (C := RX5) (T := TX5) (N := 13) hx hb hts inX5 hown hK hP 0 rfl rfl 0 (by decide) (hts _ q_731) (fun _ h9 => h9) rfl dX5_addsClause_1 ?_
  refine lv_iconst (v := 5) hx hb dX5_addsClause_4 (by decide) ?_
  refine lv_aload_n hx hb dX5_addsClause_5 rfl (lv_at hl 0 rfl) ?_
  refine va_get (D := D) (ci := 5) (v := .ref A_t_s) (C := RX5) (T := TX5) (N := 13) hx hb hts inX5 hown hK hP 0 rfl rfl 0 (by decide) (hts _ q_731) (fun _ h9 => h9) rfl dX5_addsClause_6 ?_
  refine lv_iconst (v := 2) hx hb dX5_addsClause_9 (by decide) ?_
  refine ka_iald hx hb hK hP 1 rfl (2) rfl (inb_in (by decide)) dX5_addsClause_10 ?_
  refine lv_iadd hx hb dX5_addsClause_11 ?_
  refine lv_iload_n hx hb dX5_addsClause_12 rfl (lv_at hl 1 rfl) ?_
  obtain ⟨hi_1, hF⟩ := gd_some hF
  refine ka_iast (wsN := (w_X5_addsClause cy A_t A_t_s A_t_past A_t_begun A_t_text A_t_wins A_t_fits t_pasts t_thrown t_typed t_at t_letter t_one t_other (upd t_s ((5 + (t_s 2)).toNatClampNeg) p0))) hx hb hK hP hD hS 1 rfl ((5 + (t_s 2)).toNatClampNeg) rfl (inb_in hi_1) rfl dX5_addsClause_13 (fun H locs hP hD hS => ?_)
  refine lv_aload_n hx hb dX5_addsClause_14 rfl (lv_at hl 0 rfl) ?_
  refine va_get (D := D) (ci := 5) (v := .ref A_t_s) (C := RX5) (T := TX5) (N := 13) hx hb hts inX5 hown hK hP 0 rfl rfl 0 (by decide) (hts _ q_731) (fun _ h9 => h9) rfl dX5_addsClause_15 ?_
  refine lv_bipush (v := 25) hx hb dX5_addsClause_18 (by decide) ?_
  refine lv_aload_n hx hb dX5_addsClause_20 rfl (lv_at hl 0 rfl) ?_
  refine va_get (D := D) (ci := 5) (v := .ref A_t_s) (C := RX5) (T := TX5) (N := 13) hx hb hts inX5 hown hK hP 0 rfl rfl 0 (by decide) (hts _ q_731) (fun _ h9 => h9) rfl dX5_addsClause_21 ?_
  refine lv_iconst (v := 2) hx hb dX5_addsClause_24 (by decide) ?_
  refine ka_iald hx hb hK hP 1 rfl (2) rfl (inb_in (by decide)) dX5_addsClause_25 ?_
  refine lv_iadd hx hb dX5_addsClause_26 ?_
  refine lv_iload_n hx hb dX5_addsClause_27 rfl (lv_at hl 2 rfl) ?_
  obtain ⟨hi_2, hF⟩ := gd_some hF
  refine ka_iast (wsN := (w_X5_addsClause cy A_t A_t_s A_t_past A_t_begun A_t_text A_t_wins A_t_fits t_pasts t_thrown t_typed t_at t_letter t_one t_other (upd (upd t_s ((5 + (t_s 2)).toNatClampNeg) p0) ((25 + ((upd t_s ((5 + (t_s 2)).toNatClampNeg) p0) 2)).toNatClampNeg) p1))) hx hb hK hP hD hS 1 rfl ((25 + ((upd t_s ((5 + (t_s 2)).toNatClampNeg) p0) 2)).toNatClampNeg) rfl (inb_in hi_2) rfl dX5_addsClause_28 (fun H locs hP hD hS => ?_)
  refine lv_aload_n hx hb dX5_addsClause_29 rfl (lv_at hl 0 rfl) ?_
  refine va_get (D := D) (ci := 5) (v := .ref A_t_s) (C := RX5) (T := TX5) (N := 13) hx hb hts inX5 hown hK hP 0 rfl rfl 0 (by decide) (hts _ q_731) (fun _ h9 => h9) rfl dX5_addsClause_30 ?_
  refine lv_iconst (v := 2) hx hb dX5_addsClause_33 (by decide) ?_
  refine lv_dup2_11 hx hb dX5_addsClause_34 rfl rfl ?_
  refine ka_iald hx hb hK hP 1 rfl (2) rfl (inb_in (by decide)) dX5_addsClause_35 ?_
  refine lv_iconst (v := 1) hx hb dX5_addsClause_36 (by decide) ?_
  refine lv_iadd hx hb dX5_addsClause_37 ?_
  refine lv_topi (fun x_3 ex_3 => ?_)
  replace hF := nmv_at ex_3 hF
  refine ka_iast (wsN := (w_X5_addsClause cy A_t A_t_s A_t_past A_t_begun A_t_text A_t_wins A_t_fits t_pasts t_thrown t_typed t_at t_letter t_one t_other (upd (upd (upd t_s ((5 + (t_s 2)).toNatClampNeg) p0) ((25 + ((upd t_s ((5 + (t_s 2)).toNatClampNeg) p0) 2)).toNatClampNeg) p1) 2 x_3))) hx hb hK hP hD hS 1 rfl (2) rfl (inb_in (by decide)) rfl dX5_addsClause_38 (fun H locs hP hD hS => ?_)
  refine lv_aload_n hx hb dX5_addsClause_39 rfl (lv_at hl 0 rfl) ?_
  refine va_get (D := D) (ci := 5) (v := .ref A_t_s) (C := RX5) (T := TX5) (N := 13) hx hb hts inX5 hown hK hP 0 rfl rfl 0 (by decide) (hts _ q_731) (fun _ h9 => h9) rfl dX5_addsClause_40 ?_
  refine lv_iconst (v := 3) hx hb dX5_addsClause_43 (by decide) ?_
  refine lv_iconst (v := 0) hx hb dX5_addsClause_44 (by decide) ?_
  refine ka_iast (wsN := (w_X5_addsClause cy A_t A_t_s A_t_past A_t_begun A_t_text A_t_wins A_t_fits t_pasts t_thrown t_typed t_at t_letter t_one t_other (upd (upd (upd (upd t_s ((5 + (t_s 2)).toNatClampNeg) p0) ((25 + ((upd t_s ((5 + (t_s 2)).toNatClampNeg) p0) 2)).toNatClampNeg) p1) 2 x_3) 3 0))) hx hb hK hP hD hS 1 rfl (3) rfl (inb_in (by decide)) rfl dX5_addsClause_45 (fun H locs hP hD hS => ?_)
  refine lv_aload_n hx hb dX5_addsClause_46 rfl (lv_at hl 0 rfl) ?_
  refine va_get (D := D) (ci := 5) (v := .ref A_t_s) (C := RX5) (T := TX5) (N := 13) hx hb hts inX5 hown hK hP 0 rfl rfl 0 (by decide) (hts _ q_731) (fun _ h9 => h9) rfl dX5_addsClause_47 ?_
  refine lv_iconst (v := 2) hx hb dX5_addsClause_50 (by decide) ?_
  refine ka_iald hx hb hK hP 1 rfl (2) rfl (inb_in (by decide)) dX5_addsClause_51 ?_
  refine lv_iconst (v := 1) hx hb dX5_addsClause_52 (by decide) ?_
  refine lv_isub hx hb dX5_addsClause_53 ?_
  cases hF
  exact kret_i hx hb hr hlocks hP hD hS dX5_addsClause_54

theorem q_52 : Cond.selects RX5 yX5_whyNotClause yX5_whyNotClause ∈ wAll := wAll_mem 52 (by decide +kernel) (by decide +kernel)
theorem q_54 : Cond.selects RX5 yX5_addsClause yX5_addsClause ∈ wAll := wAll_mem 54 (by decide +kernel) (by decide +kernel)
theorem q_815 : Cond.methodLink RX5 73 yX5_whyNotClause ∈ wAll := wAll_mem 815 (by decide +kernel) (by decide +kernel)
theorem q_817 : Cond.instanceMethod yX5_whyNotClause ∈ wAll := wAll_mem 817 (by decide +kernel) (by decide +kernel)
theorem q_818 : Cond.code yX5_whyNotClause cX5_whyNotClause 3 (some .int) ∈ wAll := wAll_mem 818 (by decide +kernel) (by decide +kernel)
theorem q_826 : Cond.methodLink RX5 77 yX5_addsClause ∈ wAll := wAll_mem 826 (by decide +kernel) (by decide +kernel)
theorem q_828 : Cond.instanceMethod yX5_addsClause ∈ wAll := wAll_mem 828 (by decide +kernel) (by decide +kernel)
theorem q_829 : Cond.code yX5_addsClause cX5_addsClause 3 (some .int) ∈ wAll := wAll_mem 829 (by decide +kernel) (by decide +kernel)
theorem hd_X5_addsClause : yX5_addsClause.cls = RX5 ∧ yX5_addsClause.cls ≠ "java/lang/invoke/MethodHandle" ∧ yX5_addsClause.cls ≠ "java/lang/invoke/VarHandle" ∧ (parseMethodDescriptor yX5_addsClause.desc).map (fun d => d.parameters.length) = some 2 := by decide +kernel
theorem hd_X5_whyNotClause : yX5_whyNotClause.cls = RX5 ∧ yX5_whyNotClause.cls ≠ "java/lang/invoke/MethodHandle" ∧ yX5_whyNotClause.cls ≠ "java/lang/invoke/VarHandle" ∧ (parseMethodDescriptor yX5_whyNotClause.desc).map (fun d => d.parameters.length) = some 2 := by decide +kernel
abbrev w_X5_addClause (cy : Nat → ClassId) (A_t : Nat) (A_t_s : Nat) (A_t_past : Nat) (A_t_begun : Nat) (A_t_text : Nat) (A_t_wins : Nat) (A_t_fits : Nat) (t_pasts : Int32) (t_thrown : Int32) (t_typed : Int32) (t_at : Int32) (t_letter : Int32) (t_one : Int32) (t_other : Int32) (t_s : Nat → Int32) (t_past : Nat → Int32) (t_begun : Nat → Int32) : va_W := [(A_t, .inr (5, [.ref A_t_s, .ref A_t_past, .ref A_t_begun, .int t_pasts, .int t_thrown, .ref A_t_text, .int t_typed, .int t_at, .int t_letter, .int t_one, .int t_other, .ref A_t_wins, .ref A_t_fits])), (A_t_s, .inl (cy 0, 45, .inl t_s)), (A_t_past, .inl (cy 0, 180, .inl t_past)), (A_t_begun, .inl (cy 0, 45, .inl t_begun))]
def F_X5_addClause (N : Nat) (p0 : Int32) (p1 : Int32) (t_s : Nat → Int32) (t_past : Nat → Int32) (t_begun : Nat → Int32) (t_pasts : Int32) (t_thrown : Int32) : Option (Int32 × (Nat → Int32) × (Nat → Int32) × (Nat → Int32) × Int32 × Int32) :=
  ob1 (F_X5_whyNotClause N p0 p1 t_s) (fun r_1 => (if r_1 ≤ (0 : Int32) then ob1 (F_X5_begins N t_s t_begun) (fun t_begun_4 => ob2 (F_X5_addsClause N p0 p1 t_s) (fun r_6 t_s_7 => ob4 (F_X5_saved N r_6 t_past t_begun_4 t_pasts t_thrown) (fun r_9 t_past_10 t_pasts_11 t_thrown_12 => some (r_9, t_s_7, t_past_10, t_begun_4, t_pasts_11, t_thrown_12)))) else ob2 (F_X5_fails N r_1 t_thrown) (fun r_14 t_thrown_15 => some (r_14, t_s, t_past, t_begun, t_pasts, t_thrown_15))))
set_option maxHeartbeats 4000000 in
set_option maxRecDepth 100000 in
theorem c_X5_addClause (l : Launch) (D : va_G) (cy : Nat → ClassId) (s0 tW N : Nat) (A_t : Nat) (A_t_s : Nat) (A_t_past : Nat) (A_t_begun : Nat) (A_t_text : Nat) (A_t_wins : Nat) (A_t_fits : Nat) (p0 : Int32) (p1 : Int32) (t_pasts : Int32) (t_thrown : Int32) (t_typed : Int32) (t_at : Int32) (t_letter : Int32) (t_one : Int32) (t_other : Int32) (t_s : Nat → Int32) (t_past : Nat → Int32) (t_begun : Nat → Int32) (sz : Nat) {r9 : Int32} {t_s9 : Nat → Int32} {t_past9 : Nat → Int32} {t_begun9 : Nat → Int32} {t_pasts9 : Int32} {t_thrown9 : Int32} (hF : F_X5_addClause N p0 p1 t_s t_past t_begun t_pasts t_thrown = some (r9, t_s9, t_past9, t_begun9, t_pasts9, t_thrown9)) : KM l D cy s0 tW yX5_addClause cX5_addClause 4 (some .int) 3 65 [.ref A_t, .int p0, .int p1] sz (w_X5_addClause cy A_t A_t_s A_t_past A_t_begun A_t_text A_t_wins A_t_fits t_pasts t_thrown t_typed t_at t_letter t_one t_other t_s t_past t_begun) (some (.int r9)) (w_X5_addClause cy A_t A_t_s A_t_past A_t_begun A_t_text A_t_wins A_t_fits t_pasts9 t_thrown9 t_typed t_at t_letter t_one t_other t_s9 t_past9 t_begun9) := by
  refine KM.intro rfl (Nat.le_of_ble_eq_true rfl) ?_
  intro p e s m args below meth c A ls hx hb hr hml hown hts hlocks hE hP hD hS hA hAs hl
  have hK := hE.1
  have hl : lv_has ls 4 [(0, .ref A_t), (1, .int p0), (2, .int p1)] := hl
  unfold F_X5_addClause at hF
  refine lv_aload_n hx hb dX5_addClause_0 rfl (lv_at hl 0 rfl) ?_
  refine lv_iload_n hx hb dX5_addClause_1 rfl (lv_at hl 1 rfl) ?_
  refine lv_iload_n hx hb dX5_addClause_2 rfl (lv_at hl 2 rfl) ?_
  obtain ⟨r_1, hF_2, hF⟩ := ob1_some hF
  refine kcV (q := (RX5, TX5, 13)) (ci := 5) (q0 := 0) (As := [.int p0, .int p1]) (rest := []) (wr := [(A_t_past, .inl (cy 0, 180, .inl t_past)), (A_t_begun, .inl (cy 0, 45, .inl t_begun))]) (wsN := (w_X5_addClause cy A_t A_t_s A_t_past A_t_begun A_t_text A_t_wins A_t_fits t_pasts t_thrown t_typed t_at t_letter t_one t_other t_s t_past t_begun)) ⟨hx, hb, hml, hown, hts⟩ hE hP hD hS hA hAs [0, 1] [2, 3] [2, 3, 0, 1] (c_X5_whyNotClause l D cy s0 tW N A_t A_t_s A_t_past A_t_begun A_t_text A_t_wins A_t_fits p0 p1 t_pasts t_thrown t_typed t_at t_letter t_one t_other t_s _ hF_2) (gV q_815 q_817 q_52 q_88 q_818) hd_X5_whyNotClause ⟨Nat.le_of_ble_eq_true rfl, Nat.le_of_ble_eq_true rfl⟩ rfl rfl rfl rfl rfl rfl rfl rfl rfl hl.1 rfl (Nat.le_of_ble_eq_true rfl) dX5_addClause_3 ⟨Nat.zero_le _, Nat.zero_le _⟩ (fun H locs hP hD hS => ?_)
  refine W.eq (g2 := F0 m 6 ls [.int r_1]) rfl ?_
  refine lv_istore_n (lv' := [(3, .int r_1), (0, .ref A_t), (1, .int p0), (2, .int p1)]) hx hb dX5_addClause_6 rfl hl (by decide) rfl (fun ls hl => ?_)
  refine lv_iload_n hx hb dX5_addClause_7 rfl (lv_at hl 0 rfl) ?_
  refine lv_if_le (tgt := 17) hx hb dX5_addClause_8 (by decide) (fun c_3 => ?_) (fun c_3 => ?_)
  · replace hF := ite_t c_3 hF
    refine lv_aload_n hx hb dX5_addClause_17 rfl (lv_at hl 1 rfl) ?_
    obtain ⟨t_begun_4, hF_5, hF⟩ := ob1_some hF
    refine kcV (q := (RX5, TX5, 13)) (ci := 5) (q0 := 0) (As := []) (rest := []) (wr := [(A_t_past, .inl (cy 0, 180, .inl t_past))]) (wsN := (w_X5_addClause cy A_t A_t_s A_t_past A_t_begun A_t_text A_t_wins A_t_fits t_pasts t_thrown t_typed t_at t_letter t_one t_other t_s t_past t_begun_4)) ⟨hx, hb, hml, hown, hts⟩ hE hP hD hS hA hAs [0, 1, 3] [2] [1, 2, 0, 3] (c_X5_begins l D cy s0 tW N A_t A_t_s A_t_past A_t_begun A_t_text A_t_wins A_t_fits t_pasts t_thrown t_typed t_at t_letter t_one t_other t_s t_begun _ hF_5) (gV q_780 q_782 q_46 q_88 q_783) hd_X5_begins ⟨Nat.le_of_ble_eq_true rfl, Nat.le_of_ble_eq_true rfl⟩ rfl rfl rfl rfl rfl rfl rfl rfl rfl hl.1 rfl (Nat.le_of_ble_eq_true rfl) dX5_addClause_18 ⟨Nat.zero_le _, Nat.zero_le _⟩ (fun H locs hP hD hS => ?_)
    refine W.eq (g2 := F0 m 21 ls []) rfl ?_
    refine lv_aload_n hx hb dX5_addClause_21 rfl (lv_at hl 1 rfl) ?_
    refine lv_aload_n hx hb dX5_addClause_22 rfl (lv_at hl 1 rfl) ?_
    refine lv_iload_n hx hb dX5_addClause_23 rfl (lv_at hl 2 rfl) ?_
    refine lv_iload_n hx hb dX5_addClause_24 rfl (lv_at hl 3 rfl) ?_
    obtain ⟨r_6, t_s_7, hF_8, hF⟩ := ob2_some hF
    refine kcV (q := (RX5, TX5, 13)) (ci := 5) (q0 := 0) (As := [.int p0, .int p1]) (rest := [.ref A_t]) (wr := [(A_t_past, .inl (cy 0, 180, .inl t_past)), (A_t_begun, .inl (cy 0, 45, .inl t_begun_4))]) (wsN := (w_X5_addClause cy A_t A_t_s A_t_past A_t_begun A_t_text A_t_wins A_t_fits t_pasts t_thrown t_typed t_at t_letter t_one t_other t_s_7 t_past t_begun_4)) ⟨hx, hb, hml, hown, hts⟩ hE hP hD hS hA hAs [0, 1] [2, 3] [2, 3, 0, 1] (c_X5_addsClause l D cy s0 tW N A_t A_t_s A_t_past A_t_begun A_t_text A_t_wins A_t_fits p0 p1 t_pasts t_thrown t_typed t_at t_letter t_one t_other t_s _ hF_8) (gV q_826 q_828 q_54 q_88 q_829) hd_X5_addsClause ⟨Nat.le_of_ble_eq_true rfl, Nat.le_of_ble_eq_true rfl⟩ rfl rfl rfl rfl rfl rfl rfl rfl rfl hl.1 rfl (Nat.le_of_ble_eq_true rfl) dX5_addClause_25 ⟨Nat.zero_le _, Nat.zero_le _⟩ (fun H locs hP hD hS => ?_)
    refine W.eq (g2 := F0 m 28 ls [.int r_6, .ref A_t]) rfl ?_
    obtain ⟨r_9, t_past_10, t_pasts_11, t_thrown_12, hF_13, hF⟩ := ob4_some hF
    refine kcV (q := (RX5, TX5, 13)) (ci := 5) (q0 := 0) (As := [.int r_6]) (rest := []) (wr := [(A_t_s, .inl (cy 0, 45, .inl t_s_7))]) (wsN := (w_X5_addClause cy A_t A_t_s A_t_past A_t_begun A_t_text A_t_wins A_t_fits t_pasts_11 t_thrown_12 t_typed t_at t_letter t_one t_other t_s_7 t_past_10 t_begun_4)) ⟨hx, hb, hml, hown, hts⟩ hE hP hD hS hA hAs [0, 2, 3] [1] [1, 0, 2, 3] (c_X5_saved l D cy s0 tW N A_t A_t_s A_t_past A_t_begun A_t_text A_t_wins A_t_fits r_6 t_pasts t_thrown t_typed t_at t_letter t_one t_other t_past t_begun_4 _ hF_13) (gV q_784 q_786 q_47 q_88 q_787) hd_X5_saved ⟨Nat.le_of_ble_eq_true rfl, Nat.le_of_ble_eq_true rfl⟩ rfl rfl rfl rfl rfl rfl rfl rfl rfl hl.1 rfl (Nat.le_of_ble_eq_true rfl) dX5_addClause_28 ⟨Nat.zero_le _, Nat.zero_le _⟩ (fun H locs hP hD hS => ?_)
    refine W.eq (g2 := F0 m 31 ls [.int r_9]) rfl ?_
    cases hF
    exact kret_i hx hb hr hlocks hP hD hS dX5_addClause_31
  · replace hF := ite_f c_3 hF
    refine lv_aload_n hx hb dX5_addClause_11 rfl (lv_at hl 1 rfl) ?_
    refine lv_iload_n hx hb dX5_addClause_12 rfl (lv_at hl 0 rfl) ?_
    obtain ⟨r_14, t_thrown_15, hF_16, hF⟩ := ob2_some hF
    refine kcV (q := (RX5, TX5, 13)) (ci := 5) (q0 := 0) (As := [.int r_1]) (rest := []) (wr := [(A_t_s, .inl (cy 0, 45, .inl t_s)), (A_t_past, .inl (cy 0, 180, .inl t_past)), (A_t_begun, .inl (cy 0, 45, .inl t_begun))]) (wsN := (w_X5_addClause cy A_t A_t_s A_t_past A_t_begun A_t_text A_t_wins A_t_fits t_pasts t_thrown_15 t_typed t_at t_letter t_one t_other t_s t_past t_begun)) ⟨hx, hb, hml, hown, hts⟩ hE hP hD hS hA hAs [0] [1, 2, 3] [3, 0, 1, 2] (c_X5_fails l D cy s0 tW N A_t A_t_s A_t_past A_t_begun A_t_text A_t_wins A_t_fits r_1 t_pasts t_thrown t_typed t_at t_letter t_one t_other _ hF_16) (gV q_803 q_805 q_50 q_88 q_806) hd_X5_fails ⟨Nat.le_of_ble_eq_true rfl, Nat.le_of_ble_eq_true rfl⟩ rfl rfl rfl rfl rfl rfl rfl rfl rfl hl.1 rfl (Nat.le_of_ble_eq_true rfl) dX5_addClause_13 ⟨Nat.zero_le _, Nat.zero_le _⟩ (fun H locs hP hD hS => ?_)
    refine W.eq (g2 := F0 m 16 ls [.int r_14]) rfl ?_
    cases hF
    exact kret_i hx hb hr hlocks hP hD hS dX5_addClause_16

abbrev w_X5_isClause (cy : Nat → ClassId) (A_t : Nat) (A_t_s : Nat) (A_t_past : Nat) (A_t_begun : Nat) (A_t_text : Nat) (A_t_wins : Nat) (A_t_fits : Nat) (t_pasts : Int32) (t_thrown : Int32) (t_typed : Int32) (t_at : Int32) (t_letter : Int32) (t_one : Int32) (t_other : Int32) (t_s : Nat → Int32) : va_W := [(A_t, .inr (5, [.ref A_t_s, .ref A_t_past, .ref A_t_begun, .int t_pasts, .int t_thrown, .ref A_t_text, .int t_typed, .int t_at, .int t_letter, .int t_one, .int t_other, .ref A_t_wins, .ref A_t_fits])), (A_t_s, .inl (cy 0, 45, .inl t_s))]
def F_X5_isClause (N : Nat) (p0 : Int32) (t_s : Nat → Int32) : Option (Bool) :=
  ob1 (F_X5_in N p0 0 ((t_s 2) - 1)) (fun r_1 => some r_1)
set_option maxHeartbeats 4000000 in
set_option maxRecDepth 100000 in
theorem c_X5_isClause (l : Launch) (D : va_G) (cy : Nat → ClassId) (s0 tW N : Nat) (A_t : Nat) (A_t_s : Nat) (A_t_past : Nat) (A_t_begun : Nat) (A_t_text : Nat) (A_t_wins : Nat) (A_t_fits : Nat) (p0 : Int32) (t_pasts : Int32) (t_thrown : Int32) (t_typed : Int32) (t_at : Int32) (t_letter : Int32) (t_one : Int32) (t_other : Int32) (t_s : Nat → Int32) (sz : Nat) {r9 : Bool} (hF : F_X5_isClause N p0 t_s = some r9) : KM l D cy s0 tW yX5_isClause cX5_isClause 2 (some .boolean) 1 22 [.ref A_t, .int p0] sz (w_X5_isClause cy A_t A_t_s A_t_past A_t_begun A_t_text A_t_wins A_t_fits t_pasts t_thrown t_typed t_at t_letter t_one t_other t_s) (some (.int (bI r9))) (w_X5_isClause cy A_t A_t_s A_t_past A_t_begun A_t_text A_t_wins A_t_fits t_pasts t_thrown t_typed t_at t_letter t_one t_other t_s) := by
  refine KM.intro rfl (Nat.le_of_ble_eq_true rfl) ?_
  intro p e s m args below meth c A ls hx hb hr hml hown hts hlocks hE hP hD hS hA hAs hl
  have hK := hE.1
  have hl : lv_has ls 2 [(0, .ref A_t), (1, .int p0)] := hl
  unfold F_X5_isClause at hF
  refine lv_iload_n hx hb dX5_isClause_0 rfl (lv_at hl 1 rfl) ?_
  refine lv_iconst (v := 0) hx hb dX5_isClause_1 (by decide) ?_
  refine lv_aload_n hx hb dX5_isClause_2 rfl (lv_at hl 0 rfl) ?_
  refine va_get (D := D) (ci := 5) (v := .ref A_t_s) (C := RX5) (T := TX5) (N := 13) hx hb hts inX5 hown hK hP 0 rfl rfl 0 (by decide) (hts _ q_731) (fun _ h9 => h9) rfl dX5_isClause_3 ?_
  refine lv_iconst (v := 2) hx hb dX5_isClause_6 (by decide) ?_
  refine ka_iald hx hb hK hP 1 rfl (2) rfl (inb_in (by decide)) dX5_isClause_7 ?_
  refine lv_iconst (v := 1) hx hb dX5_isClause_8 (by decide) ?_
  refine lv_isub hx hb dX5_isClause_9 ?_
  obtain ⟨r_1, hF_2, hF⟩ := ob1_some hF
  refine kcS (As := [.int p0, .int 0, .int ((t_s 2) - 1)]) (rest := []) (wr := [(A_t, .inr (5, [.ref A_t_s, .ref A_t_past, .ref A_t_begun, .int t_pasts, .int t_thrown, .ref A_t_text, .int t_typed, .int t_at, .int t_letter, .int t_one, .int t_other, .ref A_t_wins, .ref A_t_fits])), (A_t_s, .inl (cy 0, 45, .inl t_s))]) (wsN := (w_X5_isClause cy A_t A_t_s A_t_past A_t_begun A_t_text A_t_wins A_t_fits t_pasts t_thrown t_typed t_at t_letter t_one t_other t_s)) ⟨hx, hb, hml, hown, hts⟩ hE hP hD hS hA hAs [] [0, 1] [0, 1] (c_X5_in l D cy s0 tW N p0 0 ((t_s 2) - 1) _ hF_2) (gS q_823 q_824 q_88 q_825) hd_X5_in.2 ⟨Nat.le_of_ble_eq_true rfl, Nat.le_of_ble_eq_true rfl⟩ rfl rfl rfl rfl rfl rfl rfl hl.1 rfl (Nat.le_of_ble_eq_true rfl) dX5_isClause_10 ⟨Nat.zero_le _, Nat.zero_le _⟩ (fun H locs hP hD hS => ?_)
  refine W.eq (g2 := F0 m 13 ls [.int (bI r_1)]) rfl ?_
  cases hF
  exact kret_z hx hb hr hlocks hP hD hS dX5_isClause_13

theorem q_55 : Cond.selects RX5 yX5_isClause yX5_isClause ∈ wAll := wAll_mem 55 (by decide +kernel) (by decide +kernel)
theorem q_834 : Cond.methodLink RX5 80 yX5_isClause ∈ wAll := wAll_mem 834 (by decide +kernel) (by decide +kernel)
theorem q_836 : Cond.instanceMethod yX5_isClause ∈ wAll := wAll_mem 836 (by decide +kernel) (by decide +kernel)
theorem q_837 : Cond.code yX5_isClause cX5_isClause 2 (some .boolean) ∈ wAll := wAll_mem 837 (by decide +kernel) (by decide +kernel)
theorem hd_X5_isClause : yX5_isClause.cls = RX5 ∧ yX5_isClause.cls ≠ "java/lang/invoke/MethodHandle" ∧ yX5_isClause.cls ≠ "java/lang/invoke/VarHandle" ∧ (parseMethodDescriptor yX5_isClause.desc).map (fun d => d.parameters.length) = some 1 := by decide +kernel
abbrev w_X5_removeClause (cy : Nat → ClassId) (A_t : Nat) (A_t_s : Nat) (A_t_past : Nat) (A_t_begun : Nat) (A_t_text : Nat) (A_t_wins : Nat) (A_t_fits : Nat) (t_pasts : Int32) (t_thrown : Int32) (t_typed : Int32) (t_at : Int32) (t_letter : Int32) (t_one : Int32) (t_other : Int32) (t_s : Nat → Int32) (t_past : Nat → Int32) (t_begun : Nat → Int32) : va_W := [(A_t, .inr (5, [.ref A_t_s, .ref A_t_past, .ref A_t_begun, .int t_pasts, .int t_thrown, .ref A_t_text, .int t_typed, .int t_at, .int t_letter, .int t_one, .int t_other, .ref A_t_wins, .ref A_t_fits])), (A_t_s, .inl (cy 0, 45, .inl t_s)), (A_t_past, .inl (cy 0, 180, .inl t_past)), (A_t_begun, .inl (cy 0, 45, .inl t_begun))]
def L_X5_removeClause_20 (N : Nat)  (kont : (Nat → Int32) → Option (Int32 × (Nat → Int32) × (Nat → Int32) × (Nat → Int32) × Int32 × Int32)) : Nat → Int32 → (Nat → Int32) → Option (Int32 × (Nat → Int32) × (Nat → Int32) × (Nat → Int32) × Int32 × Int32)
  | 0, _, _ => none
  | n + 1, v2_6, t_s_7 => (if ((t_s_7 2) - 1) ≤ v2_6 then kont t_s_7 else gd (inb ((5 + v2_6) + 1) 45) (gd (inb (5 + v2_6) 45) (gd (inb ((25 + v2_6) + 1) 45) (nmv ((upd t_s_7 ((5 + v2_6).toNatClampNeg) (t_s_7 (((5 + v2_6) + 1).toNatClampNeg))) (((25 + v2_6) + 1).toNatClampNeg)) (fun x_13 => gd (inb (25 + v2_6) 45) (L_X5_removeClause_20 N  kont n (v2_6 + 1) (upd (upd t_s_7 ((5 + v2_6).toNatClampNeg) (t_s_7 (((5 + v2_6) + 1).toNatClampNeg))) ((25 + v2_6).toNatClampNeg) x_13)))))))
def F_X5_removeClause (N : Nat) (p0 : Int32) (t_s : Nat → Int32) (t_past : Nat → Int32) (t_begun : Nat → Int32) (t_pasts : Int32) (t_thrown : Int32) : Option (Int32 × (Nat → Int32) × (Nat → Int32) × (Nat → Int32) × Int32 × Int32) :=
  ob1 (F_X5_isClause N p0 t_s) (fun r_1 => (if r_1 = true then ob1 (F_X5_begins N t_s t_begun) (fun t_begun_4 => (L_X5_removeClause_20 N  (fun t_s_8 => ob4 (F_X5_saved N ((upd (upd t_s_8 2 ((t_s_8 2) - 1)) 3 0) 2) t_past t_begun_4 t_pasts t_thrown) (fun r_15 t_past_16 t_pasts_17 t_thrown_18 => some (r_15, (upd (upd t_s_8 2 ((t_s_8 2) - 1)) 3 0), t_past_16, t_begun_4, t_pasts_17, t_thrown_18))) N p0 t_s)) else ob2 (F_X5_fails N 1 t_thrown) (fun r_20 t_thrown_21 => some (r_20, t_s, t_past, t_begun, t_pasts, t_thrown_21))))
set_option maxHeartbeats 4000000 in
set_option maxRecDepth 100000 in
theorem c_X5_removeClause (l : Launch) (D : va_G) (cy : Nat → ClassId) (s0 tW N : Nat) (A_t : Nat) (A_t_s : Nat) (A_t_past : Nat) (A_t_begun : Nat) (A_t_text : Nat) (A_t_wins : Nat) (A_t_fits : Nat) (p0 : Int32) (t_pasts : Int32) (t_thrown : Int32) (t_typed : Int32) (t_at : Int32) (t_letter : Int32) (t_one : Int32) (t_other : Int32) (t_s : Nat → Int32) (t_past : Nat → Int32) (t_begun : Nat → Int32) (sz : Nat) {r9 : Int32} {t_s9 : Nat → Int32} {t_past9 : Nat → Int32} {t_begun9 : Nat → Int32} {t_pasts9 : Int32} {t_thrown9 : Int32} (hF : F_X5_removeClause N p0 t_s t_past t_begun t_pasts t_thrown = some (r9, t_s9, t_past9, t_begun9, t_pasts9, t_thrown9)) : KM l D cy s0 tW yX5_removeClause cX5_removeClause 3 (some .int) 2 43 [.ref A_t, .int p0] sz (w_X5_removeClause cy A_t A_t_s A_t_past A_t_begun A_t_text A_t_wins A_t_fits t_pasts t_thrown t_typed t_at t_letter t_one t_other t_s t_past t_begun) (some (.int r9)) (w_X5_removeClause cy A_t A_t_s A_t_past A_t_begun A_t_text A_t_wins A_t_fits t_pasts9 t_thrown9 t_typed t_at t_letter t_one t_other t_s9 t_past9 t_begun9) := by
  refine KM.intro rfl (Nat.le_of_ble_eq_true rfl) ?_
  intro p e s m args below meth c A ls hx hb hr hml hown hts hlocks hE hP hD hS hA hAs hl
  have hK := hE.1
  have hl : lv_has ls 3 [(0, .ref A_t), (1, .int p0)] := hl
  unfold F_X5_removeClause at hF
  refine lv_aload_n hx hb dX5_removeClause_0 rfl (lv_at hl 0 rfl) ?_
  refine lv_iload_n hx hb dX5_removeClause_1 rfl (lv_at hl 1 rfl) ?_
  obtain ⟨r_1, hF_2, hF⟩ := ob1_some hF
  refine kcV (q := (RX5, TX5, 13)) (ci := 5) (q0 := 0) (As := [.int p0]) (rest := []) (wr := [(A_t_past, .inl (cy 0, 180, .inl t_past)), (A_t_begun, .inl (cy 0, 45, .inl t_begun))]) (wsN := (w_X5_removeClause cy A_t A_t_s A_t_past A_t_begun A_t_text A_t_wins A_t_fits t_pasts t_thrown t_typed t_at t_letter t_one t_other t_s t_past t_begun)) ⟨hx, hb, hml, hown, hts⟩ hE hP hD hS hA hAs [0, 1] [2, 3] [2, 3, 0, 1] (c_X5_isClause l D cy s0 tW N A_t A_t_s A_t_past A_t_begun A_t_text A_t_wins A_t_fits p0 t_pasts t_thrown t_typed t_at t_letter t_one t_other t_s _ hF_2) (gV q_834 q_836 q_55 q_88 q_837) hd_X5_isClause ⟨Nat.le_of_ble_eq_true rfl, Nat.le_of_ble_eq_true rfl⟩ rfl rfl rfl rfl rfl rfl rfl rfl rfl hl.1 rfl (Nat.le_of_ble_eq_true rfl) dX5_removeClause_2 ⟨Nat.zero_le _, Nat.zero_le _⟩ (fun H locs hP hD hS => ?_)
  refine W.eq (g2 := F0 m 5 ls [.int (bI r_1)]) rfl ?_
  refine lv_if_ne (tgt := 14) hx hb dX5_removeClause_5 (by decide) (fun c_3 => ?_) (fun c_3 => ?_)
  · replace hF := ite_t (bI_t c_3) hF
    refine lv_aload_n hx hb dX5_removeClause_14 rfl (lv_at hl 0 rfl) ?_
    obtain ⟨t_begun_4, hF_5, hF⟩ := ob1_some hF
    refine kcV (q := (RX5, TX5, 13)) (ci := 5) (q0 := 0) (As := []) (rest := []) (wr := [(A_t_past, .inl (cy 0, 180, .inl t_past))]) (wsN := (w_X5_removeClause cy A_t A_t_s A_t_past A_t_begun A_t_text A_t_wins A_t_fits t_pasts t_thrown t_typed t_at t_letter t_one t_other t_s t_past t_begun_4)) ⟨hx, hb, hml, hown, hts⟩ hE hP hD hS hA hAs [0, 1, 3] [2] [1, 2, 0, 3] (c_X5_begins l D cy s0 tW N A_t A_t_s A_t_past A_t_begun A_t_text A_t_wins A_t_fits t_pasts t_thrown t_typed t_at t_letter t_one t_other t_s t_begun _ hF_5) (gV q_780 q_782 q_46 q_88 q_783) hd_X5_begins ⟨Nat.le_of_ble_eq_true rfl, Nat.le_of_ble_eq_true rfl⟩ rfl rfl rfl rfl rfl rfl rfl rfl rfl hl.1 rfl (Nat.le_of_ble_eq_true rfl) dX5_removeClause_15 ⟨Nat.zero_le _, Nat.zero_le _⟩ (fun H locs hP hD hS => ?_)
    refine W.eq (g2 := F0 m 18 ls []) rfl ?_
    refine lv_iload_n hx hb dX5_removeClause_18 rfl (lv_at hl 1 rfl) ?_
    refine lv_istore_n (lv' := [(2, .int p0), (0, .ref A_t), (1, .int p0)]) hx hb dX5_removeClause_19 rfl hl (by decide) rfl (fun ls hl => ?_)
    have hloop_20 : ∀ (kont : (Nat → Int32) → Option (Int32 × (Nat → Int32) × (Nat → Int32) × (Nat → Int32) × Int32 × Int32)), (∀ (t_s_8 : Nat → Int32) (H : Heap) (locs : List Loc) (ls : Array Slot), kont t_s_8 = some (r9, t_s9, t_past9, t_begun9, t_pasts9, t_thrown9) → va_P D vwCl (w_X5_removeClause cy A_t A_t_s A_t_past A_t_begun A_t_text A_t_wins A_t_fits t_pasts t_thrown t_typed t_at t_letter t_one t_other t_s_8 t_past t_begun_4) H → va_D A (w_X5_removeClause cy A_t A_t_s A_t_past A_t_begun A_t_text A_t_wins A_t_fits t_pasts t_thrown t_typed t_at t_letter t_one t_other t_s_8 t_past t_begun_4) → va_S A s.heap H locs → lv_has ls 3 [(0, .ref A_t)] → W p l e (rmK 2 43) s m args below meth c H locs 0 0 (MQ below (kQ (some (.int r9)) D A (w_X5_removeClause cy A_t A_t_s A_t_past A_t_begun A_t_text A_t_wins A_t_fits t_pasts9 t_thrown9 t_typed t_at t_letter t_one t_other t_s9 t_past9 t_begun9)) args s 0 0 A) (F0 m 76 ls [])) → ∀ (n : Nat) (v2_6 : Int32) (t_s_7 : Nat → Int32) (H : Heap) (locs : List Loc) (ls : Array Slot), L_X5_removeClause_20 N  kont n v2_6 t_s_7 = some (r9, t_s9, t_past9, t_begun9, t_pasts9, t_thrown9) → va_P D vwCl (w_X5_removeClause cy A_t A_t_s A_t_past A_t_begun A_t_text A_t_wins A_t_fits t_pasts t_thrown t_typed t_at t_letter t_one t_other t_s_7 t_past t_begun_4) H → va_D A (w_X5_removeClause cy A_t A_t_s A_t_past A_t_begun A_t_text A_t_wins A_t_fits t_pasts t_thrown t_typed t_at t_letter t_one t_other t_s_7 t_past t_begun_4) → va_S A s.heap H locs → lv_has ls 3 [(0, .ref A_t), (2, .int v2_6)] → W p l e (rmK 2 43) s m args below meth c H locs 0 0 (MQ below (kQ (some (.int r9)) D A (w_X5_removeClause cy A_t A_t_s A_t_past A_t_begun A_t_text A_t_wins A_t_fits t_pasts9 t_thrown9 t_typed t_at t_letter t_one t_other t_s9 t_past9 t_begun9)) args s 0 0 A) (F0 m 20 ls []) := by
      intro kont hexit_20 n
      induction n with
      | zero =>
        intro v2_6 t_s_7 H locs ls hF
        rw [L_X5_removeClause_20] at hF
        cases hF
      | succ n ih =>
        intro v2_6 t_s_7 H locs ls hF hP hD hS hl
        rw [L_X5_removeClause_20] at hF
        refine lv_iload_n hx hb dX5_removeClause_20 rfl (lv_at hl 1 rfl) ?_
        refine lv_aload_n hx hb dX5_removeClause_21 rfl (lv_at hl 0 rfl) ?_
        refine va_get (D := D) (ci := 5) (v := .ref A_t_s) (C := RX5) (T := TX5) (N := 13) hx hb hts inX5 hown hK hP 0 rfl rfl 0 (by decide) (hts _ q_731) (fun _ h9 => h9) rfl dX5_removeClause_22 ?_
        refine lv_iconst (v := 2) hx hb dX5_removeClause_25 (by decide) ?_
        refine ka_iald hx hb hK hP 1 rfl (2) rfl (inb_in (by decide)) dX5_removeClause_26 ?_
        refine lv_iconst (v := 1) hx hb dX5_removeClause_27 (by decide) ?_
        refine lv_isub hx hb dX5_removeClause_28 ?_
        refine lv_icmp_ge (tgt := 76) hx hb dX5_removeClause_29 (by decide) (fun c_9 => ?_) (fun c_9 => ?_)
        · replace hF := ite_t c_9 hF
          exact hexit_20 t_s_7 H locs ls hF hP hD hS (lv_sub hl [0] rfl)
        · replace hF := ite_f c_9 hF
          refine lv_aload_n hx hb dX5_removeClause_32 rfl (lv_at hl 0 rfl) ?_
          refine va_get (D := D) (ci := 5) (v := .ref A_t_s) (C := RX5) (T := TX5) (N := 13) hx hb hts inX5 hown hK hP 0 rfl rfl 0 (by decide) (hts _ q_731) (fun _ h9 => h9) rfl dX5_removeClause_33 ?_
          refine lv_iconst (v := 5) hx hb dX5_removeClause_36 (by decide) ?_
          refine lv_iload_n hx hb dX5_removeClause_37 rfl (lv_at hl 1 rfl) ?_
          refine lv_iadd hx hb dX5_removeClause_38 ?_
          refine lv_aload_n hx hb dX5_removeClause_39 rfl (lv_at hl 0 rfl) ?_
          refine va_get (D := D) (ci := 5) (v := .ref A_t_s) (C := RX5) (T := TX5) (N := 13) hx hb hts inX5 hown hK hP 0 rfl rfl 0 (by decide) (hts _ q_731) (fun _ h9 => h9) rfl dX5_removeClause_40 ?_
          refine lv_iconst (v := 5) hx hb dX5_removeClause_43 (by decide) ?_
          refine lv_iload_n hx hb dX5_removeClause_44 rfl (lv_at hl 1 rfl) ?_
          refine lv_iadd hx hb dX5_removeClause_45 ?_
          refine lv_iconst (v := 1) hx hb dX5_removeClause_46 (by decide) ?_
          refine lv_iadd hx hb dX5_removeClause_47 ?_
          obtain ⟨hi_10, hF⟩ := gd_some hF
          refine ka_iald hx hb hK hP 1 rfl (((5 + v2_6) + 1).toNatClampNeg) rfl (inb_in hi_10) dX5_removeClause_48 ?_
          obtain ⟨hi_11, hF⟩ := gd_some hF
          refine ka_iast (wsN := (w_X5_removeClause cy A_t A_t_s A_t_past A_t_begun A_t_text A_t_wins A_t_fits t_pasts t_thrown t_typed t_at t_letter t_one t_other (upd t_s_7 ((5 + v2_6).toNatClampNeg) (t_s_7 (((5 + v2_6) + 1).toNatClampNeg))) t_past t_begun_4)) hx hb hK hP hD hS 1 rfl ((5 + v2_6).toNatClampNeg) rfl (inb_in hi_11) rfl dX5_removeClause_49 (fun H locs hP hD hS => ?_)
          refine lv_aload_n hx hb dX5_removeClause_50 rfl (lv_at hl 0 rfl) ?_
          refine va_get (D := D) (ci := 5) (v := .ref A_t_s) (C := RX5) (T := TX5) (N := 13) hx hb hts inX5 hown hK hP 0 rfl rfl 0 (by decide) (hts _ q_731) (fun _ h9 => h9) rfl dX5_removeClause_51 ?_
          refine lv_bipush (v := 25) hx hb dX5_removeClause_54 (by decide) ?_
          refine lv_iload_n hx hb dX5_removeClause_56 rfl (lv_at hl 1 rfl) ?_
          refine lv_iadd hx hb dX5_removeClause_57 ?_
          refine lv_aload_n hx hb dX5_removeClause_58 rfl (lv_at hl 0 rfl) ?_
          refine va_get (D := D) (ci := 5) (v := .ref A_t_s) (C := RX5) (T := TX5) (N := 13) hx hb hts inX5 hown hK hP 0 rfl rfl 0 (by decide) (hts _ q_731) (fun _ h9 => h9) rfl dX5_removeClause_59 ?_
          refine lv_bipush (v := 25) hx hb dX5_removeClause_62 (by decide) ?_
          refine lv_iload_n hx hb dX5_removeClause_64 rfl (lv_at hl 1 rfl) ?_
          refine lv_iadd hx hb dX5_removeClause_65 ?_
          refine lv_iconst (v := 1) hx hb dX5_removeClause_66 (by decide) ?_
          refine lv_iadd hx hb dX5_removeClause_67 ?_
          obtain ⟨hi_12, hF⟩ := gd_some hF
          refine ka_iald hx hb hK hP 1 rfl (((25 + v2_6) + 1).toNatClampNeg) rfl (inb_in hi_12) dX5_removeClause_68 ?_
          refine lv_topi (fun x_13 ex_13 => ?_)
          replace hF := nmv_at ex_13 hF
          obtain ⟨hi_14, hF⟩ := gd_some hF
          refine ka_iast (wsN := (w_X5_removeClause cy A_t A_t_s A_t_past A_t_begun A_t_text A_t_wins A_t_fits t_pasts t_thrown t_typed t_at t_letter t_one t_other (upd (upd t_s_7 ((5 + v2_6).toNatClampNeg) (t_s_7 (((5 + v2_6) + 1).toNatClampNeg))) ((25 + v2_6).toNatClampNeg) x_13) t_past t_begun_4)) hx hb hK hP hD hS 1 rfl ((25 + v2_6).toNatClampNeg) rfl (inb_in hi_14) rfl dX5_removeClause_69 (fun H locs hP hD hS => ?_)
          refine lv_iinc (v := (v2_6 + 1)) (lv' := [(2, .int (v2_6 + 1)), (0, .ref A_t)]) hx hb dX5_removeClause_70 hl (k := 1) rfl (by first | rfl | decide) (by decide) rfl (fun ls hl => ?_)
          refine lv_goto (tgt := 20) hx hb dX5_removeClause_73 (by decide) ?_
          exact ih (v2_6 + 1) (upd (upd t_s_7 ((5 + v2_6).toNatClampNeg) (t_s_7 (((5 + v2_6) + 1).toNatClampNeg))) ((25 + v2_6).toNatClampNeg) x_13) H locs ls hF hP hD hS (lv_sub hl [1, 0] rfl)
    refine hloop_20 _ (fun t_s_8 H locs ls hF hP hD hS hl => ?_) N p0 t_s _ _ ls hF hP hD hS (lv_sub hl [1, 0] rfl)
    refine lv_aload_n hx hb dX5_removeClause_76 rfl (lv_at hl 0 rfl) ?_
    refine va_get (D := D) (ci := 5) (v := .ref A_t_s) (C := RX5) (T := TX5) (N := 13) hx hb hts inX5 hown hK hP 0 rfl rfl 0 (by decide) (hts _ q_731) (fun _ h9 => h9) rfl dX5_removeClause_77 ?_
    refine lv_iconst (v := 2) hx hb dX5_removeClause_80 (by decide) ?_
    refine lv_dup2_11 hx hb dX5_removeClause_81 rfl rfl ?_
    refine ka_iald hx hb hK hP 1 rfl (2) rfl (inb_in (by decide)) dX5_removeClause_82 ?_
    refine lv_iconst (v := 1) hx hb dX5_removeClause_83 (by decide) ?_
    refine lv_isub hx hb dX5_removeClause_84 ?_
    refine ka_iast (wsN := (w_X5_removeClause cy A_t A_t_s A_t_past A_t_begun A_t_text A_t_wins A_t_fits t_pasts t_thrown t_typed t_at t_letter t_one t_other (upd t_s_8 2 ((t_s_8 2) - 1)) t_past t_begun_4)) hx hb hK hP hD hS 1 rfl (2) rfl (inb_in (by decide)) rfl dX5_removeClause_85 (fun H locs hP hD hS => ?_)
    refine lv_aload_n hx hb dX5_removeClause_86 rfl (lv_at hl 0 rfl) ?_
    refine va_get (D := D) (ci := 5) (v := .ref A_t_s) (C := RX5) (T := TX5) (N := 13) hx hb hts inX5 hown hK hP 0 rfl rfl 0 (by decide) (hts _ q_731) (fun _ h9 => h9) rfl dX5_removeClause_87 ?_
    refine lv_iconst (v := 3) hx hb dX5_removeClause_90 (by decide) ?_
    refine lv_iconst (v := 0) hx hb dX5_removeClause_91 (by decide) ?_
    refine ka_iast (wsN := (w_X5_removeClause cy A_t A_t_s A_t_past A_t_begun A_t_text A_t_wins A_t_fits t_pasts t_thrown t_typed t_at t_letter t_one t_other (upd (upd t_s_8 2 ((t_s_8 2) - 1)) 3 0) t_past t_begun_4)) hx hb hK hP hD hS 1 rfl (3) rfl (inb_in (by decide)) rfl dX5_removeClause_92 (fun H locs hP hD hS => ?_)
    refine lv_aload_n hx hb dX5_removeClause_93 rfl (lv_at hl 0 rfl) ?_
    refine lv_aload_n hx hb dX5_removeClause_94 rfl (lv_at hl 0 rfl) ?_
    refine va_get (D := D) (ci := 5) (v := .ref A_t_s) (C := RX5) (T := TX5) (N := 13) hx hb hts inX5 hown hK hP 0 rfl rfl 0 (by decide) (hts _ q_731) (fun _ h9 => h9) rfl dX5_removeClause_95 ?_
    refine lv_iconst (v := 2) hx hb dX5_removeClause_98 (by decide) ?_
    refine ka_iald hx hb hK hP 1 rfl (2) rfl (inb_in (by decide)) dX5_removeClause_99 ?_
    obtain ⟨r_15, t_past_16, t_pasts_17, t_thrown_18, hF_19, hF⟩ := ob4_some hF
    refine kcV (q := (RX5, TX5, 13)) (ci := 5) (q0 := 0) (As := [.int ((upd (upd t_s_8 2 ((t_s_8 2) - 1)) 3 0) 2)]) (rest := []) (wr := [(A_t_s, .inl (cy 0, 45, .inl (upd (upd t_s_8 2 ((t_s_8 2) - 1)) 3 0)))]) (wsN := (w_X5_removeClause cy A_t A_t_s A_t_past A_t_begun A_t_text A_t_wins A_t_fits t_pasts_17 t_thrown_18 t_typed t_at t_letter t_one t_other (upd (upd t_s_8 2 ((t_s_8 2) - 1)) 3 0) t_past_16 t_begun_4)) ⟨hx, hb, hml, hown, hts⟩ hE hP hD hS hA hAs [0, 2, 3] [1] [1, 0, 2, 3] (c_X5_saved l D cy s0 tW N A_t A_t_s A_t_past A_t_begun A_t_text A_t_wins A_t_fits ((upd (upd t_s_8 2 ((t_s_8 2) - 1)) 3 0) 2) t_pasts t_thrown t_typed t_at t_letter t_one t_other t_past t_begun_4 _ hF_19) (gV q_784 q_786 q_47 q_88 q_787) hd_X5_saved ⟨Nat.le_of_ble_eq_true rfl, Nat.le_of_ble_eq_true rfl⟩ rfl rfl rfl rfl rfl rfl rfl rfl rfl hl.1 rfl (Nat.le_of_ble_eq_true rfl) dX5_removeClause_100 ⟨Nat.zero_le _, Nat.zero_le _⟩ (fun H locs hP hD hS => ?_)
    refine W.eq (g2 := F0 m 103 ls [.int r_15]) rfl ?_
    cases hF
    exact kret_i hx hb hr hlocks hP hD hS dX5_removeClause_103
  · replace hF := ite_f (bI_f c_3) hF
    refine lv_aload_n hx hb dX5_removeClause_8 rfl (lv_at hl 0 rfl) ?_
    refine lv_iconst (v := 1) hx hb dX5_removeClause_9 (by decide) ?_
    obtain ⟨r_20, t_thrown_21, hF_22, hF⟩ := ob2_some hF
    refine kcV (q := (RX5, TX5, 13)) (ci := 5) (q0 := 0) (As := [.int 1]) (rest := []) (wr := [(A_t_s, .inl (cy 0, 45, .inl t_s)), (A_t_past, .inl (cy 0, 180, .inl t_past)), (A_t_begun, .inl (cy 0, 45, .inl t_begun))]) (wsN := (w_X5_removeClause cy A_t A_t_s A_t_past A_t_begun A_t_text A_t_wins A_t_fits t_pasts t_thrown_21 t_typed t_at t_letter t_one t_other t_s t_past t_begun)) ⟨hx, hb, hml, hown, hts⟩ hE hP hD hS hA hAs [0] [1, 2, 3] [3, 0, 1, 2] (c_X5_fails l D cy s0 tW N A_t A_t_s A_t_past A_t_begun A_t_text A_t_wins A_t_fits 1 t_pasts t_thrown t_typed t_at t_letter t_one t_other _ hF_22) (gV q_803 q_805 q_50 q_88 q_806) hd_X5_fails ⟨Nat.le_of_ble_eq_true rfl, Nat.le_of_ble_eq_true rfl⟩ rfl rfl rfl rfl rfl rfl rfl rfl rfl hl.1 rfl (Nat.le_of_ble_eq_true rfl) dX5_removeClause_10 ⟨Nat.zero_le _, Nat.zero_le _⟩ (fun H locs hP hD hS => ?_)
    refine W.eq (g2 := F0 m 13 ls [.int r_20]) rfl ?_
    cases hF
    exact kret_i hx hb hr hlocks hP hD hS dX5_removeClause_13
