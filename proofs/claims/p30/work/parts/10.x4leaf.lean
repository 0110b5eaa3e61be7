def F_X4_bit (N : Nat) (p0 : Int32) (p1 : Int32) : Option (Int32) :=
  some ((p0 >>> (p1 &&& 31)) &&& 1)
set_option maxHeartbeats 4000000 in
set_option maxRecDepth 100000 in
theorem c_X4_bit (l : Launch) (D : va_G) (cy : Nat → ClassId) (s0 tW N : Nat) (p0 : Int32) (p1 : Int32) (sz : Nat) {r9 : Int32} (hF : F_X4_bit N p0 p1 = some r9) : KM l D cy s0 tW yX4_bit cX4_bit 2 (some .int) 0 0 [.int p0, .int p1] sz [] (some (.int r9)) [] := by
  refine KM.intro rfl (Nat.le_of_ble_eq_true rfl) ?_
  intro p e s m args below meth c A ls hx hb hr hml hown hts hlocks hE hP hD hS hA hAs hl
  have hK := hE.1
  have hl : lv_has ls 2 [(0, .int p0), (1, .int p1)] := hl
  unfold F_X4_bit at hF
  refine lv_iload_n hx hb dX4_bit_0 rfl (lv_at hl 0 rfl) ?_
  refine lv_iload_n hx hb dX4_bit_1 rfl (lv_at hl 1 rfl) ?_
  refine lv_ishr hx hb dX4_bit_2 ?_
  refine lv_iconst (v := 1) hx hb dX4_bit_3 (by decide) ?_
  refine lv_iand hx hb dX4_bit_4 ?_
  cases hF
  exact kret_i hx hb hr hlocks hP hD hS dX4_bit_5

abbrev w_X4_read (cy : Nat → ClassId) (A_p0 : Nat) (L_p0 : Nat) (p0 : Nat → Int32) : va_W := [(A_p0, .inl (cy 0, L_p0, .inl p0))]
def F_X4_read (N : Nat) (L_p0 : Nat) (p1 : Int32) (p0 : Nat → Int32) : Option (Int32) :=
  (if p1 < (0 : Int32) then some 0 else (if (nI L_p0) ≤ p1 then some 0 else gd (inb p1 L_p0) (some (p0 p1.toNatClampNeg))))
set_option maxHeartbeats 4000000 in
set_option maxRecDepth 100000 in
theorem c_X4_read (l : Launch) (D : va_G) (cy : Nat → ClassId) (s0 tW N : Nat) (A_p0 : Nat) (L_p0 : Nat) (p1 : Int32) (p0 : Nat → Int32) (sz : Nat) {r9 : Int32} (hF : F_X4_read N L_p0 p1 p0 = some r9) : KM l D cy s0 tW yX4_read cX4_read 2 (some .int) 0 0 [.ref A_p0, .int p1] sz (w_X4_read cy A_p0 L_p0 p0) (some (.int r9)) (w_X4_read cy A_p0 L_p0 p0) := by
  refine KM.intro rfl (Nat.le_of_ble_eq_true rfl) ?_
  intro p e s m args below meth c A ls hx hb hr hml hown hts hlocks hE hP hD hS hA hAs hl
  have hK := hE.1
  have hl : lv_has ls 2 [(0, .ref A_p0), (1, .int p1)] := hl
  unfold F_X4_read at hF
  refine lv_iload_n hx hb dX4_read_0 rfl (lv_at hl 1 rfl) ?_
  refine lv_if_lt (tgt := 16) hx hb dX4_read_1 (by decide) (fun c_1 => ?_) (fun c_1 => ?_)
  · replace hF := ite_t c_1 hF
    refine lv_iconst (v := 0) hx hb dX4_read_16 (by decide) ?_
    cases hF
    exact kret_i hx hb hr hlocks hP hD hS dX4_read_17
  · replace hF := ite_f c_1 hF
    refine lv_iload_n hx hb dX4_read_4 rfl (lv_at hl 1 rfl) ?_
    refine lv_aload_n hx hb dX4_read_5 rfl (lv_at hl 0 rfl) ?_
    refine va_alen (v := (nI L_p0)) hx hb hK hP 0 0 rfl rfl rfl dX4_read_6 ?_
    refine lv_icmp_ge (tgt := 16) hx hb dX4_read_7 (by decide) (fun c_2 => ?_) (fun c_2 => ?_)
    · replace hF := ite_t c_2 hF
      refine lv_iconst (v := 0) hx hb dX4_read_16 (by decide) ?_
      cases hF
      exact kret_i hx hb hr hlocks hP hD hS dX4_read_17
    · replace hF := ite_f c_2 hF
      refine lv_aload_n hx hb dX4_read_10 rfl (lv_at hl 0 rfl) ?_
      refine lv_iload_n hx hb dX4_read_11 rfl (lv_at hl 1 rfl) ?_
      obtain ⟨hi_3, hF⟩ := gd_some hF
      refine ka_iald hx hb hK hP 0 rfl (p1.toNatClampNeg) rfl (inb_in hi_3) dX4_read_12 ?_
      refine lv_goto (tgt := 17) hx hb dX4_read_13 (by decide) ?_
      cases hF
      exact kret_i hx hb hr hlocks hP hD hS dX4_read_17

abbrev w_X4_write (cy : Nat → ClassId) (A_p0 : Nat) (L_p0 : Nat) (p0 : Nat → Int32) : va_W := [(A_p0, .inl (cy 0, L_p0, .inl p0))]
def F_X4_write (N : Nat) (L_p0 : Nat) (p1 : Int32) (p2 : Int32) (p0 : Nat → Int32) : Option ((Nat → Int32)) :=
  (if p1 < (0 : Int32) then some p0 else (if (nI L_p0) ≤ p1 then some p0 else gd (inb p1 L_p0) (some (upd p0 p1.toNatClampNeg p2))))
set_option maxHeartbeats 4000000 in
set_option maxRecDepth 100000 in
theorem c_X4_write (l : Launch) (D : va_G) (cy : Nat → ClassId) (s0 tW N : Nat) (A_p0 : Nat) (L_p0 : Nat) (p1 : Int32) (p2 : Int32) (p0 : Nat → Int32) (sz : Nat) {p09 : Nat → Int32} (hF : F_X4_write N L_p0 p1 p2 p0 = some p09) : KM l D cy s0 tW yX4_write cX4_write 3 none 0 0 [.ref A_p0, .int p1, .int p2] sz (w_X4_write cy A_p0 L_p0 p0) none (w_X4_write cy A_p0 L_p0 p09) := by
  refine KM.intro rfl (Nat.le_of_ble_eq_true rfl) ?_
  intro p e s m args below meth c A ls hx hb hr hml hown hts hlocks hE hP hD hS hA hAs hl
  have hK := hE.1
  have hl : lv_has ls 3 [(0, .ref A_p0), (1, .int p1), (2, .int p2)] := hl
  unfold F_X4_write at hF
  refine lv_iload_n hx hb dX4_write_0 rfl (lv_at hl 1 rfl) ?_
  refine lv_if_lt (tgt := 14) hx hb dX4_write_1 (by decide) (fun c_1 => ?_) (fun c_1 => ?_)
  · replace hF := ite_t c_1 hF
    cases hF
    exact kret_v hx hb hr hlocks hP hD hS dX4_write_14
  · replace hF := ite_f c_1 hF
    refine lv_iload_n hx hb dX4_write_4 rfl (lv_at hl 1 rfl) ?_
    refine lv_aload_n hx hb dX4_write_5 rfl (lv_at hl 0 rfl) ?_
    refine va_alen (v := (nI L_p0)) hx hb hK hP 0 0 rfl rfl rfl dX4_write_6 ?_
    refine lv_icmp_ge (tgt := 14) hx hb dX4_write_7 (by decide) (fun c_2 => ?_) (fun c_2 => ?_)
    · replace hF := ite_t c_2 hF
      cases hF
      exact kret_v hx hb hr hlocks hP hD hS dX4_write_14
    · replace hF := ite_f c_2 hF
      refine lv_aload_n hx hb dX4_write_10 rfl (lv_at hl 0 rfl) ?_
      refine lv_iload_n hx hb dX4_write_11 rfl (lv_at hl 1 rfl) ?_
      refine lv_iload_n hx hb dX4_write_12 rfl (lv_at hl 2 rfl) ?_
      obtain ⟨hi_3, hF⟩ := gd_some hF
      refine ka_iast (wsN := (w_X4_write cy A_p0 L_p0 (upd p0 p1.toNatClampNeg p2))) hx hb hK hP hD hS 0 rfl (p1.toNatClampNeg) rfl (inb_in hi_3) rfl dX4_write_13 (fun H locs hP hD hS => ?_)
      cases hF
      exact kret_v hx hb hr hlocks hP hD hS dX4_write_14

abbrev w_X4_readLong (cy : Nat → ClassId) (A_p0 : Nat) (L_p0 : Nat) (p0 : Nat → Int64) : va_W := [(A_p0, .inl (cy 1, L_p0, .inr (.inl p0)))]
def F_X4_readLong (N : Nat) (L_p0 : Nat) (p1 : Int32) (p0 : Nat → Int64) : Option (Int64) :=
  (if p1 < (0 : Int32) then some 0 else (if (nI L_p0) ≤ p1 then some 0 else gd (inb p1 L_p0) (some (p0 p1.toNatClampNeg))))
set_option maxHeartbeats 4000000 in
set_option maxRecDepth 100000 in
theorem c_X4_readLong (l : Launch) (D : va_G) (cy : Nat → ClassId) (s0 tW N : Nat) (A_p0 : Nat) (L_p0 : Nat) (p1 : Int32) (p0 : Nat → Int64) (sz : Nat) {r9 : Int64} (hF : F_X4_readLong N L_p0 p1 p0 = some r9) : KM l D cy s0 tW yX4_readLong cX4_readLong 2 (some .long) 0 0 [.ref A_p0, .int p1] sz (w_X4_readLong cy A_p0 L_p0 p0) (some (.long r9)) (w_X4_readLong cy A_p0 L_p0 p0) := by
  refine KM.intro rfl (Nat.le_of_ble_eq_true rfl) ?_
  intro p e s m args below meth c A ls hx hb hr hml hown hts hlocks hE hP hD hS hA hAs hl
  have hK := hE.1
  have hl : lv_has ls 2 [(0, .ref A_p0), (1, .int p1)] := hl
  unfold F_X4_readLong at hF
  refine lv_iload_n hx hb dX4_readLong_0 rfl (lv_at hl 1 rfl) ?_
  refine lv_if_lt (tgt := 16) hx hb dX4_readLong_1 (by decide) (fun c_1 => ?_) (fun c_1 => ?_)
  · replace hF := ite_t c_1 hF
    refine lv_lconst (v := 0) hx hb dX4_readLong_16 (by decide) ?_
    cases hF
    exact kret_l hx hb hr hlocks hP hD hS dX4_readLong_17
  · replace hF := ite_f c_1 hF
    refine lv_iload_n hx hb dX4_readLong_4 rfl (lv_at hl 1 rfl) ?_
    refine lv_aload_n hx hb dX4_readLong_5 rfl (lv_at hl 0 rfl) ?_
    refine va_alen (v := (nI L_p0)) hx hb hK hP 0 1 rfl rfl rfl dX4_readLong_6 ?_
    refine lv_icmp_ge (tgt := 16) hx hb dX4_readLong_7 (by decide) (fun c_2 => ?_) (fun c_2 => ?_)
    · replace hF := ite_t c_2 hF
      refine lv_lconst (v := 0) hx hb dX4_readLong_16 (by decide) ?_
      cases hF
      exact kret_l hx hb hr hlocks hP hD hS dX4_readLong_17
    · replace hF := ite_f c_2 hF
      refine lv_aload_n hx hb dX4_readLong_10 rfl (lv_at hl 0 rfl) ?_
      refine lv_iload_n hx hb dX4_readLong_11 rfl (lv_at hl 1 rfl) ?_
      obtain ⟨hi_3, hF⟩ := gd_some hF
      refine ka_lald hx hb hK hP 0 rfl (p1.toNatClampNeg) rfl (inb_in hi_3) dX4_readLong_12 ?_
      refine lv_goto (tgt := 17) hx hb dX4_readLong_13 (by decide) ?_
      cases hF
      exact kret_l hx hb hr hlocks hP hD hS dX4_readLong_17

abbrev w_X4_writeLong (cy : Nat → ClassId) (A_p0 : Nat) (L_p0 : Nat) (p0 : Nat → Int64) : va_W := [(A_p0, .inl (cy 1, L_p0, .inr (.inl p0)))]
def F_X4_writeLong (N : Nat) (L_p0 : Nat) (p1 : Int32) (p2 : Int64) (p0 : Nat → Int64) : Option ((Nat → Int64)) :=
  (if p1 < (0 : Int32) then some p0 else (if (nI L_p0) ≤ p1 then some p0 else gd (inb p1 L_p0) (some (vp_updL p0 p1.toNatClampNeg p2))))
set_option maxHeartbeats 4000000 in
set_option maxRecDepth 100000 in
theorem c_X4_writeLong (l : Launch) (D : va_G) (cy : Nat → ClassId) (s0 tW N : Nat) (A_p0 : Nat) (L_p0 : Nat) (p1 : Int32) (p2 : Int64) (p0 : Nat → Int64) (sz : Nat) {p09 : Nat → Int64} (hF : F_X4_writeLong N L_p0 p1 p2 p0 = some p09) : KM l D cy s0 tW yX4_writeLong cX4_writeLong 4 none 0 0 [.ref A_p0, .int p1, .long p2] sz (w_X4_writeLong cy A_p0 L_p0 p0) none (w_X4_writeLong cy A_p0 L_p0 p09) := by
  refine KM.intro rfl (Nat.le_of_ble_eq_true rfl) ?_
  intro p e s m args below meth c A ls hx hb hr hml hown hts hlocks hE hP hD hS hA hAs hl
  have hK := hE.1
  have hl : lv_has ls 4 [(0, .ref A_p0), (1, .int p1), (2, .long p2)] := hl
  unfold F_X4_writeLong at hF
  refine lv_iload_n hx hb dX4_writeLong_0 rfl (lv_at hl 1 rfl) ?_
  refine lv_if_lt (tgt := 14) hx hb dX4_writeLong_1 (by decide) (fun c_1 => ?_) (fun c_1 => ?_)
  · replace hF := ite_t c_1 hF
    cases hF
    exact kret_v hx hb hr hlocks hP hD hS dX4_writeLong_14
  · replace hF := ite_f c_1 hF
    refine lv_iload_n hx hb dX4_writeLong_4 rfl (lv_at hl 1 rfl) ?_
    refine lv_aload_n hx hb dX4_writeLong_5 rfl (lv_at hl 0 rfl) ?_
    refine va_alen (v := (nI L_p0)) hx hb hK hP 0 1 rfl rfl rfl dX4_writeLong_6 ?_
    refine lv_icmp_ge (tgt := 14) hx hb dX4_writeLong_7 (by decide) (fun c_2 => ?_) (fun c_2 => ?_)
    · replace hF := ite_t c_2 hF
      cases hF
      exact kret_v hx hb hr hlocks hP hD hS dX4_writeLong_14
    · replace hF := ite_f c_2 hF
      refine lv_aload_n hx hb dX4_writeLong_10 rfl (lv_at hl 0 rfl) ?_
      refine lv_iload_n hx hb dX4_writeLong_11 rfl (lv_at hl 1 rfl) ?_
      refine lv_lload_n hx hb dX4_writeLong_12 rfl (lv_at hl 2 rfl) ?_
      obtain ⟨hi_3, hF⟩ := gd_some hF
      refine ka_last (wsN := (w_X4_writeLong cy A_p0 L_p0 (vp_updL p0 p1.toNatClampNeg p2))) hx hb hK hP hD hS 0 rfl (p1.toNatClampNeg) rfl (inb_in hi_3) rfl dX4_writeLong_13 (fun H locs hP hD hS => ?_)
      cases hF
      exact kret_v hx hb hr hlocks hP hD hS dX4_writeLong_14

def F_X4_readLong_W (N : Nat) (p1 : Int32) : Option (Int64) :=
  (if p1 < (0 : Int32) then some 0 else (if (6 : Int32) ≤ p1 then some 0 else gd (inb p1 6) (some (WO p1.toNatClampNeg))))
set_option maxHeartbeats 4000000 in
set_option maxRecDepth 100000 in
theorem c_X4_readLong_W (l : Launch) (D : va_G) (cy : Nat → ClassId) (s0 tW N : Nat) (p1 : Int32) (sz : Nat) {r9 : Int64} (hF : F_X4_readLong_W N p1 = some r9) : KM l D cy s0 tW yX4_readLong cX4_readLong 2 (some .long) 0 0 [.ref tW, .int p1] sz [] (some (.long r9)) [] := by
  refine KM.intro rfl (Nat.le_of_ble_eq_true rfl) ?_
  intro p e s m args below meth c A ls hx hb hr hml hown hts hlocks hE hP hD hS hA hAs hl
  have hK := hE.1
  have hl : lv_has ls 2 [(0, .ref tW), (1, .int p1)] := hl
  unfold F_X4_readLong_W at hF
  refine lv_iload_n hx hb dX4_readLong_0 rfl (lv_at hl 1 rfl) ?_
  refine lv_if_lt (tgt := 16) hx hb dX4_readLong_1 (by decide) (fun c_1 => ?_) (fun c_1 => ?_)
  · replace hF := ite_t c_1 hF
    refine lv_lconst (v := 0) hx hb dX4_readLong_16 (by decide) ?_
    cases hF
    exact kret_l hx hb hr hlocks hP hD hS dX4_readLong_17
  · replace hF := ite_f c_1 hF
    refine lv_iload_n hx hb dX4_readLong_4 rfl (lv_at hl 1 rfl) ?_
    refine lv_aload_n hx hb dX4_readLong_5 rfl (lv_at hl 0 rfl) ?_
    refine va_tlen (v := 6) hx hb (va_T.narrow hE.2.2.2 hAs) hS rfl dX4_readLong_6 ?_
    refine lv_icmp_ge (tgt := 16) hx hb dX4_readLong_7 (by decide) (fun c_2 => ?_) (fun c_2 => ?_)
    · replace hF := ite_t c_2 hF
      refine lv_lconst (v := 0) hx hb dX4_readLong_16 (by decide) ?_
      cases hF
      exact kret_l hx hb hr hlocks hP hD hS dX4_readLong_17
    · replace hF := ite_f c_2 hF
      refine lv_aload_n hx hb dX4_readLong_10 rfl (lv_at hl 0 rfl) ?_
      refine lv_iload_n hx hb dX4_readLong_11 rfl (lv_at hl 1 rfl) ?_
      obtain ⟨hi_3, hF⟩ := gd_some hF
      refine va_tl (v := .long (WO p1.toNatClampNeg)) hx hb (va_T.narrow hE.2.2.2 hAs) hS (inb_in hi_3) rfl dX4_readLong_12 ?_
      refine lv_goto (tgt := 17) hx hb dX4_readLong_13 (by decide) ?_
      cases hF
      exact kret_l hx hb hr hlocks hP hD hS dX4_readLong_17

theorem q_252 : Cond.constant RJ6 265 1431655765 ∈ wAll := wAll_mem 252 (by decide +kernel) (by decide +kernel)
theorem q_253 : Cond.constant RJ6 266 858993459 ∈ wAll := wAll_mem 253 (by decide +kernel) (by decide +kernel)
theorem q_254 : Cond.constant RJ6 267 252645135 ∈ wAll := wAll_mem 254 (by decide +kernel) (by decide +kernel)
def F_J6_bitCount_0f7a4 (N : Nat) (p0 : Int32) : Option (Int32) :=
  nmv (p0 - ((p0.toUInt32 >>> ((1 : Int32).toUInt32 &&& Int32.toUInt32 31)).toInt32 &&& 1431655765)) (fun x_1 => nmv ((x_1 &&& 858993459) + ((x_1.toUInt32 >>> ((2 : Int32).toUInt32 &&& Int32.toUInt32 31)).toInt32 &&& 858993459)) (fun x_2 => nmv ((x_2 + (x_2.toUInt32 >>> ((4 : Int32).toUInt32 &&& Int32.toUInt32 31)).toInt32) &&& 252645135) (fun x_3 => nmv (x_3 + (x_3.toUInt32 >>> ((8 : Int32).toUInt32 &&& Int32.toUInt32 31)).toInt32) (fun x_4 => nmv (x_4 + (x_4.toUInt32 >>> ((16 : Int32).toUInt32 &&& Int32.toUInt32 31)).toInt32) (fun x_5 => some (x_5 &&& 63))))))
set_option maxHeartbeats 4000000 in
set_option maxRecDepth 100000 in
theorem c_J6_bitCount_0f7a4 (l : Launch) (D : va_G) (cy : Nat → ClassId) (s0 tW N : Nat) (p0 : Int32) (sz : Nat) {r9 : Int32} (hF : F_J6_bitCount_0f7a4 N p0 = some r9) : KM l D cy s0 tW yJ6_bitCount_0f7a4 cJ6_bitCount_0f7a4 1 (some .int) 0 0 [.int p0] sz [] (some (.int r9)) [] := by
  refine KM.intro rfl (Nat.le_of_ble_eq_true rfl) ?_
  intro p e s m args below meth c A ls hx hb hr hml hown hts hlocks hE hP hD hS hA hAs hl
  have hK := hE.1
  have hl : lv_has ls 1 [(0, .int p0)] := hl
  unfold F_J6_bitCount_0f7a4 at hF
  refine lv_iload_n hx hb dJ6_bitCount_0f7a4_0 rfl (lv_at hl 0 rfl) ?_
  refine lv_iload_n hx hb dJ6_bitCount_0f7a4_1 rfl (lv_at hl 0 rfl) ?_
  refine lv_iconst (v := 1) hx hb dJ6_bitCount_0f7a4_2 (by decide) ?_
  refine lv_iushr (v := (p0.toUInt32 >>> ((1 : Int32).toUInt32 &&& Int32.toUInt32 31)).toInt32) hx hb dJ6_bitCount_0f7a4_3 rfl ?_
  refine lv_ldcw (v := 1431655765) hx hb hown (hts _ q_252) dJ6_bitCount_0f7a4_4 ?_
  refine lv_iand hx hb dJ6_bitCount_0f7a4_7 ?_
  refine lv_isub hx hb dJ6_bitCount_0f7a4_8 ?_
  refine lv_topi (fun x_1 ex_1 => ?_)
  replace hF := nmv_at ex_1 hF
  refine lv_istore_n (lv' := [(0, .int x_1)]) hx hb dJ6_bitCount_0f7a4_9 rfl hl (by decide) rfl (fun ls hl => ?_)
  refine lv_iload_n hx hb dJ6_bitCount_0f7a4_10 rfl (lv_at hl 0 rfl) ?_
  refine lv_ldcw (v := 858993459) hx hb hown (hts _ q_253) dJ6_bitCount_0f7a4_11 ?_
  refine lv_iand hx hb dJ6_bitCount_0f7a4_14 ?_
  refine lv_iload_n hx hb dJ6_bitCount_0f7a4_15 rfl (lv_at hl 0 rfl) ?_
  refine lv_iconst (v := 2) hx hb dJ6_bitCount_0f7a4_16 (by decide) ?_
  refine lv_iushr (v := (x_1.toUInt32 >>> ((2 : Int32).toUInt32 &&& Int32.toUInt32 31)).toInt32) hx hb dJ6_bitCount_0f7a4_17 rfl ?_
  refine lv_ldcw (v := 858993459) hx hb hown (hts _ q_253) dJ6_bitCount_0f7a4_18 ?_
  refine lv_iand hx hb dJ6_bitCount_0f7a4_21 ?_
  refine lv_iadd hx hb dJ6_bitCount_0f7a4_22 ?_
  refine lv_topi (fun x_2 ex_2 => ?_)
  replace hF := nmv_at ex_2 hF
  refine lv_istore_n (lv' := [(0, .int x_2)]) hx hb dJ6_bitCount_0f7a4_23 rfl hl (by decide) rfl (fun ls hl => ?_)
  refine lv_iload_n hx hb dJ6_bitCount_0f7a4_24 rfl (lv_at hl 0 rfl) ?_
  refine lv_iload_n hx hb dJ6_bitCount_0f7a4_25 rfl (lv_at hl 0 rfl) ?_
  refine lv_iconst (v := 4) hx hb dJ6_bitCount_0f7a4_26 (by decide) ?_
  refine lv_iushr (v := (x_2.toUInt32 >>> ((4 : Int32).toUInt32 &&& Int32.toUInt32 31)).toInt32) hx hb dJ6_bitCount_0f7a4_27 rfl ?_
  refine lv_iadd hx hb dJ6_bitCount_0f7a4_28 ?_
  refine lv_ldcw (v := 252645135) hx hb hown (hts _ q_254) dJ6_bitCount_0f7a4_29 ?_
  refine lv_iand hx hb dJ6_bitCount_0f7a4_32 ?_
  refine lv_topi (fun x_3 ex_3 => ?_)
  replace hF := nmv_at ex_3 hF
  refine lv_istore_n (lv' := [(0, .int x_3)]) hx hb dJ6_bitCount_0f7a4_33 rfl hl (by decide) rfl (fun ls hl => ?_)
  refine lv_iload_n hx hb dJ6_bitCount_0f7a4_34 rfl (lv_at hl 0 rfl) ?_
  refine lv_iload_n hx hb dJ6_bitCount_0f7a4_35 rfl (lv_at hl 0 rfl) ?_
  refine lv_bipush (v := 8) hx hb dJ6_bitCount_0f7a4_36 (by decide) ?_
  refine lv_iushr (v := (x_3.toUInt32 >>> ((8 : Int32).toUInt32 &&& Int32.toUInt32 31)).toInt32) hx hb dJ6_bitCount_0f7a4_38 rfl ?_
  refine lv_iadd hx hb dJ6_bitCount_0f7a4_39 ?_
  refine lv_topi (fun x_4 ex_4 => ?_)
  replace hF := nmv_at ex_4 hF
  refine lv_istore_n (lv' := [(0, .int x_4)]) hx hb dJ6_bitCount_0f7a4_40 rfl hl (by decide) rfl (fun ls hl => ?_)
  refine lv_iload_n hx hb dJ6_bitCount_0f7a4_41 rfl (lv_at hl 0 rfl) ?_
  refine lv_iload_n hx hb dJ6_bitCount_0f7a4_42 rfl (lv_at hl 0 rfl) ?_
  refine lv_bipush (v := 16) hx hb dJ6_bitCount_0f7a4_43 (by decide) ?_
  refine lv_iushr (v := (x_4.toUInt32 >>> ((16 : Int32).toUInt32 &&& Int32.toUInt32 31)).toInt32) hx hb dJ6_bitCount_0f7a4_45 rfl ?_
  refine lv_iadd hx hb dJ6_bitCount_0f7a4_46 ?_
  refine lv_topi (fun x_5 ex_5 => ?_)
  replace hF := nmv_at ex_5 hF
  refine lv_istore_n (lv' := [(0, .int x_5)]) hx hb dJ6_bitCount_0f7a4_47 rfl hl (by decide) rfl (fun ls hl => ?_)
  refine lv_iload_n hx hb dJ6_bitCount_0f7a4_48 rfl (lv_at hl 0 rfl) ?_
  refine lv_bipush (v := 63) hx hb dJ6_bitCount_0f7a4_49 (by decide) ?_
  refine lv_iand hx hb dJ6_bitCount_0f7a4_51 ?_
  cases hF
  exact kret_i hx hb hr hlocks hP hD hS dJ6_bitCount_0f7a4_52
