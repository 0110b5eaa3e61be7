/-! THE PURE SIDE: calls that change the state -/
theorem pc_le {n B : Nat} (hn : n ≤ 9) (hB : B < 2 ^ n) : pc B ≤ n := by rw [pc_n hn hB]; exact cnt_le B n
def nB (own : Bool) (n B : Nat) : Nat := if own = true then B ||| 2 ^ n else B
theorem room_c {N n B C Ln : Nat} {R : Int32} {pos neg s : Nat → Int32} (hN : 2000 ≤ N) (o : Ok n B C Ln) (m : Ms n B C Ln R pos neg s) (own : Bool) : ∃ b, F_X3_hasRoomFor N own (nI n) (nI B) = some b ∧ F_X5_canAdd N own s = some b ∧ (b = true → Ok (n + 1) (nB own n B) C 0) := by
  have hB := ok_512 o
  have hl := pc_le o.1 o.2.1
  obtain ⟨o1, o2, o3, o4, o5, o6⟩ := o
  unfold F_X3_hasRoomFor F_X5_canAdd
  rw [m.1, m.2.1, bitCount_N N hB, ones_N (by omega) hB]
  show ∃ b, (if own = true then (if nI 3 ≤ nI (pc B) then some false else some true) else (if nI 6 ≤ nI n - nI (pc B) then some false else some true)) = some b ∧ (if own = true then (if nI 3 ≤ nI (pc B) then some false else some true) else (if nI 6 ≤ nI n - nI (pc B) then some false else some true)) = some b ∧ (b = true → Ok (n + 1) (nB own n B) C 0)
  rw [pk_sub hl, if_nle (by decide) (by omega), if_nle (by decide) (by omega)]
  have q : 2 ^ n < 2 ^ (n + 1) := Nat.pow_lt_pow_right (by decide) (Nat.lt_succ_self n)
  cases own
  · by_cases e : 6 ≤ n - pc B
    · exact ⟨false, if_pos e, if_pos e, fun q => by cases q⟩
    · exact ⟨true, if_neg e, if_neg e, fun _ => ⟨by omega, Nat.lt_trans o2 q, o3, by show n + 1 - pc B ≤ 6; omega, o5, pw_pos _⟩⟩
  · by_cases e : 3 ≤ pc B
    · exact ⟨false, if_pos e, if_pos e, fun q => by cases q⟩
    · have h1 : pc (B ||| 2 ^ n) = pc B + 1 := by
        unfold pc
        rw [cnt_or (bt_high o2 (Nat.le_refl n)), if_pos (by omega)]
      refine ⟨true, if_neg e, if_neg e, fun _ => ⟨by omega, Nat.or_lt_two_pow (Nat.lt_trans o2 q) q, ?_, ?_, o5, pw_pos _⟩⟩
      · show pc (B ||| 2 ^ n) ≤ 3; omega
      · show n + 1 - pc (B ||| 2 ^ n) ≤ 6; omega
theorem puts_c {N n B C Ln : Nat} {R : Int32} {pos neg s : Nat → Int32} (o : Ok n B C Ln) (m : Ms n B C Ln R pos neg s) (own st : Bool) : ∃ s', F_X4_putVariable N own (nI n) (nI B) (nI Ln) st = some (nI (n + 1), nI (nB own n B), nI 0, true) ∧ F_X5_adds N own s = some (nI n, s') ∧ Ms (n + 1) (nB own n B) C 0 R pos neg s' := by
  obtain ⟨o1, o2, o3, o4, o5, o6⟩ := o
  have key : ∀ x : Int32, Ms (n + 1) (nB own n B) C 0 R pos neg (upd (upd (upd s 1 (nI (nB own n B))) 0 (nI (n + 1))) 3 (nI 0)) := fun x => by
    obtain ⟨a, b, c, d, e, f, g⟩ := m
    refine ⟨(pk_un (by decide)).trans pk_us, (pk_un (by decide)).trans ((pk_un (by decide)).trans pk_us), (pk_un (by decide)).trans ((pk_un (by decide)).trans ((pk_un (by decide)).trans c)), pk_us, (pk_un (by decide)).trans ((pk_un (by decide)).trans ((pk_un (by decide)).trans e)), fun k hk => (pk_un (by omega)).trans ((pk_un (by omega)).trans ((pk_un (by omega)).trans (f k hk))), fun k hk => (pk_un (by omega)).trans ((pk_un (by omega)).trans ((pk_un (by omega)).trans (g k hk)))⟩
  refine ⟨_, ?_, ?_, key 0⟩
  · unfold F_X4_putVariable F_X3_putVariable
    rw [shl1 n (by omega), nI_or, nI_1]
    cases own <;> rfl
  · have h0 : ∀ x, (upd s 1 x) 0 = nI n := fun x => (pk_un (by decide)).trans m.1
    unfold F_X5_adds
    rw [m.1, m.2.1, shl1 n (by omega), nI_or, h0, h0, nI_1, show nI B ||| 0 = nI B from by rw [n0, nI_or, Nat.or_zero]]
    show (if own = true then some ((upd (upd (upd s 1 (nI (B ||| 2 ^ n))) 0 (nI (n + 1))) 3 (nI 0)) 0 - 1, upd (upd (upd s 1 (nI (B ||| 2 ^ n))) 0 (nI (n + 1))) 3 (nI 0)) else some ((upd (upd (upd s 1 (nI B)) 0 (nI (n + 1))) 3 (nI 0)) 0 - 1, upd (upd (upd s 1 (nI B)) 0 (nI (n + 1))) 3 (nI 0))) = _
    have h1 : ∀ x y z : Int32, (upd (upd (upd s 1 x) 0 y) 3 z) 0 = y := fun x y z => (pk_un (by decide)).trans pk_us
    rw [h1, h1, nI_pred]
    cases own <;> rfl
theorem addVariable_c {N n B C Ln ol c : Nat} {R : Int32} {pos neg s past begun : Nat → Int32} {ring : Nat → StT} (hN : 2000 ≤ N) (o : Ok n B C Ln) (m : Ms n B C Ln R pos neg s) (sv : SV ring ol c past) (bits : Nat → Int64) (st : Bool) (hst : st = true ∨ BT (mC pos neg C) B n 0 bits) (own : Bool) (th : Int32) (out : Nat → Int64) : ∃ code V' B' L' ring' ol' c' st' out' r s' past' begun', F_L_addVariable N 1 own (nI n) (nI B) (nI C) pos neg (nI Ln) R ring (nI ol) (nI c) st out = some (code, V', B', L', ring', nI ol', nI c', st', out') ∧ F_X5_addVariable N own s past begun (nI c) th = some (r, s', past', begun', nI c', code) ∧ (code = 0 → out' 0 = r.toInt64) ∧ XR V' B' (nI C) pos neg L' R s' st' bits ∧ SV ring' ol' c' past' := by
  obtain ⟨b, r1, r2, r3⟩ := room_c hN o m own
  unfold F_L_addVariable T_X4_addVariable F_X4_addVariable F_X5_addVariable
  rw [r1, r2]
  cases b
  · exact ⟨1, nI n, nI B, nI Ln, ring, ol, c, st, out, 0, s, past, begun, rfl, rfl, fun q => absurd q (by decide), ⟨n, B, C, Ln, rfl, rfl, rfl, rfl, o, m, hst⟩, sv⟩
  · obtain ⟨b', e1, t1⟩ := begins_N hN s begun
    obtain ⟨ring', ol', c', past', e2, sv', e3⟩ := save_c hN o m sv t1
    obtain ⟨s', e4, e5, m'⟩ := puts_c (N := N) o m own st
    refine ⟨0, nI (n + 1), nI (nB own n B), nI 0, ring', ol', c', true, vp_updL out 0 (nI n).toInt64, nI n, s', past', b', ?_, ?_, fun _ => updL_s _ _ _, ⟨_, _, _, _, rfl, rfl, rfl, rfl, r3 rfl, m', .inl rfl⟩, sv'⟩
    · rw [e2, e4]
      show some ((0 : Int32), nI (n + 1), nI (nB own n B), nI 0, ring', nI ol', nI c', true, vp_updL out 0 (nI (n + 1) - 1).toInt64) = _
      rw [nI_pred]
    · rw [e1, e5]
      show ob4 (F_X5_saved N (nI n) past b' (nI c) th) _ = _
      rw [e3]; rfl
theorem whyC {N n B C Ln : Nat} {R : Int32} {pos neg s : Nat → Int32} (o : Ok n B C Ln) (m : Ms n B C Ln R pos neg s) (x y : Int32) : (F_X5_whyNotClause N x y s = some 1 ∧ T_X4_addClause N x y (nI n) (nI C) = some 1) ∨ (F_X5_whyNotClause N x y s = some 2 ∧ T_X4_addClause N x y (nI n) (nI C) = some 2) ∨ ∃ p q : Nat, p < 2 ^ n ∧ q < 2 ^ n ∧ x = nI p ∧ y = nI q ∧ C < 20 ∧ F_X5_whyNotClause N x y s = some 0 ∧ T_X4_addClause N x y (nI n) (nI C) = none ∧ F_X3_hasVariables N x (nI n) = some true ∧ F_X3_hasVariables N y (nI n) = some true := by
  have hC := o.2.2.2.2.1
  unfold F_X5_whyNotClause T_X4_addClause
  rw [m.2.2.1]
  rcases setQ N x (s := s) o.1 m.1 with ⟨t, i⟩ | ⟨p, hp, ex, t, i⟩
  · rw [t, i]; exact .inl ⟨rfl, rfl⟩
  · subst ex
    rw [t, i]
    rcases setQ N y (s := s) o.1 m.1 with ⟨t2, i2⟩ | ⟨q, hq, ey, t2, i2⟩
    · rw [t2]
      refine .inl ⟨?_, rfl⟩
      show ob1 (F_X5_isSet N y s) _ = _
      rw [i2]; rfl
    · subst ey
      rw [t2]
      show (ob1 (F_X5_isSet N (nI q) s) (fun r => if r = true then (if nI C = nI 20 then some 2 else some 0) else some 1) = some 1 ∧ _) ∨ (ob1 (F_X5_isSet N (nI q) s) (fun r => if r = true then (if nI C = nI 20 then some 2 else some 0) else some 1) = some 2 ∧ (if nI C < nI 20 then none else some 2) = some 2) ∨ ∃ p' q', p' < 2 ^ n ∧ q' < 2 ^ n ∧ nI p = nI p' ∧ nI q = nI q' ∧ C < 20 ∧ ob1 (F_X5_isSet N (nI q) s) (fun r => if r = true then (if nI C = nI 20 then some 2 else some 0) else some 1) = some 0 ∧ (if nI C < nI 20 then none else some 2) = none ∧ _ ∧ _
      rw [i2, if_nlt (by omega) (by decide)]
      show ((if nI C = nI 20 then some 2 else some 0) = some 1 ∧ _) ∨ ((if nI C = nI 20 then some 2 else some 0) = some 2 ∧ _) ∨ ∃ p' q', p' < 2 ^ n ∧ q' < 2 ^ n ∧ nI p = nI p' ∧ nI q = nI q' ∧ C < 20 ∧ (if nI C = nI 20 then some 2 else some 0) = some 0 ∧ _ ∧ _ ∧ _
      rw [if_neq (by omega) (by decide)]
      by_cases e : C = 20
      · exact .inr (.inl ⟨if_pos e, if_neg (by omega)⟩)
      · exact .inr (.inr ⟨p, q, hp, hq, rfl, rfl, by omega, if_neg e, if_pos (by omega), rfl, rfl⟩)
theorem putC_c {N n B C Ln : Nat} {R : Int32} {pos neg s : Nat → Int32} (m : Ms n B C Ln R pos neg s) (hC : C < 20) (x y : Int32) (st : Bool) : ∃ s', F_X4_putClause N x y (nI C) pos neg (nI Ln) st = some (nI (C + 1), upd pos C x, upd neg C y, nI 0, true) ∧ F_X5_addsClause N x y s = some (nI C, s') ∧ Ms n B (C + 1) 0 R (upd pos C x) (upd neg C y) s' := by
  obtain ⟨a, b, c, d, e, f, g⟩ := m
  refine ⟨upd (upd (upd (upd s (5 + C) x) (25 + C) y) 2 (nI (C + 1))) 3 (nI 0), ?_, ?_, ?_⟩
  · unfold F_X4_putClause F_X3_putClause
    rw [write_N N pos x (by omega) (by decide), write_N N neg y (by omega) (by decide), nI_1]; rfl
  · have h2 : (upd s (5 + C) x) 2 = nI C := (pk_un (by omega)).trans c
    have h3 : (upd (upd s (5 + C) x) (25 + C) y) 2 = nI C := (pk_un (by omega)).trans h2
    unfold F_X5_addsClause
    rw [c, show (5 : Int32) = nI 5 from rfl, show (25 : Int32) = nI 25 from rfl, nI_add, inb_f (by omega) (by decide), nI_clamp (by omega), h2, nI_add, inb_f (by omega) (by decide), nI_clamp (by omega), h3, nI_1]
    show some ((upd (upd (upd (upd s (5 + C) x) (25 + C) y) 2 (nI (C + 1))) 3 (nI 0)) 2 - 1, upd (upd (upd (upd s (5 + C) x) (25 + C) y) 2 (nI (C + 1))) 3 (nI 0)) = _
    rw [show (upd (upd (upd (upd s (5 + C) x) (25 + C) y) 2 (nI (C + 1))) 3 (nI 0)) 2 = nI (C + 1) from (pk_un (by decide)).trans pk_us, nI_pred]
  · have h : ∀ i, i ≠ 2 → i ≠ 3 → (upd (upd (upd (upd s (5 + C) x) (25 + C) y) 2 (nI (C + 1))) 3 (nI 0)) i = (upd (upd s (5 + C) x) (25 + C) y) i := fun i h2 h3 => (pk_un h3).trans (pk_un h2)
    refine ⟨?_, ?_, (pk_un (by decide)).trans pk_us, pk_us, ?_, fun k hk => ?_, fun k hk => ?_⟩
    · rw [h _ (by decide) (by decide), pk_un (by omega), pk_un (by omega)]; exact a
    · rw [h _ (by decide) (by decide), pk_un (by omega), pk_un (by omega)]; exact b
    · rw [h _ (by decide) (by decide), pk_un (by omega), pk_un (by omega)]; exact e
    · rw [h _ (by omega) (by omega), pk_un (by omega)]
      by_cases ek : k = C
      · subst ek; rw [pk_us, pk_us]
      · rw [pk_un (by omega), pk_un ek]; exact f k (by omega)
    · rw [h _ (by omega) (by omega)]
      by_cases ek : k = C
      · subst ek; rw [pk_us, pk_us]
      · rw [pk_un (by omega), pk_un (by omega), pk_un ek]; exact g k (by omega)
theorem addClause_c {N n B C Ln ol c : Nat} {R : Int32} {pos neg s past begun : Nat → Int32} {ring : Nat → StT} (hN : 2000 ≤ N) (o : Ok n B C Ln) (m : Ms n B C Ln R pos neg s) (sv : SV ring ol c past) (bits : Nat → Int64) (st : Bool) (hst : st = true ∨ BT (mC pos neg C) B n 0 bits) (x y th : Int32) (out : Nat → Int64) : ∃ code C' pos' neg' L' ring' ol' c' st' out' r s' past' begun', F_L_addClause N 1 x y (nI n) (nI B) (nI C) pos neg (nI Ln) R ring (nI ol) (nI c) st out = some (code, C', pos', neg', L', ring', nI ol', nI c', st', out') ∧ F_X5_addClause N x y s past begun (nI c) th = some (r, s', past', begun', nI c', code) ∧ (code = 0 → out' 0 = r.toInt64) ∧ XR (nI n) (nI B) C' pos' neg' L' R s' st' bits ∧ SV ring' ol' c' past' := by
  unfold F_L_addClause F_X5_addClause
  rcases whyC (N := N) o m x y with ⟨a, b⟩ | ⟨a, b⟩ | ⟨p, q, hp, hq, rfl, rfl, hC, a, b, v1, v2⟩
  · rw [a, b]
    exact ⟨1, nI C, pos, neg, nI Ln, ring, ol, c, st, out, 0, s, past, begun, rfl, rfl, fun q => absurd q (by decide), ⟨n, B, C, Ln, rfl, rfl, rfl, rfl, o, m, hst⟩, sv⟩
  · rw [a, b]
    exact ⟨2, nI C, pos, neg, nI Ln, ring, ol, c, st, out, 0, s, past, begun, rfl, rfl, fun q => absurd q (by decide), ⟨n, B, C, Ln, rfl, rfl, rfl, rfl, o, m, hst⟩, sv⟩
  · rw [a, b]
    obtain ⟨b', e1, t1⟩ := begins_N hN s begun
    obtain ⟨ring', ol', c', past', e2, sv', e3⟩ := save_c hN o m sv t1
    obtain ⟨s', e4, e5, m'⟩ := putC_c (N := N) m hC (nI p) (nI q) st
    refine ⟨0, nI (C + 1), upd pos C (nI p), upd neg C (nI q), nI 0, ring', ol', c', true, vp_updL out 0 (nI C).toInt64, nI C, s', past', b', ?_, ?_, fun _ => updL_s _ _ _, ⟨n, B, C + 1, 0, rfl, rfl, rfl, rfl, ⟨o.1, o.2.1, o.2.2.1, o.2.2.2.1, by omega, pw_pos _⟩, m', .inl rfl⟩, sv'⟩
    · unfold F_X4_addClause
      rw [v1, v2]
      show ob9 (if nI C < nI 20 then ob3 (F_X2_push N ring (nI ol) (nI c) (nI n) (nI B) (nI C) pos neg (nI Ln) R) _ else none) _ = _
      rw [if_nlt (by omega) (by decide), if_pos hC, e2, e4]
      show some ((0 : Int32), nI (C + 1), upd pos C (nI p), upd neg C (nI q), nI 0, ring', nI ol', nI c', true, vp_updL out 0 (nI (C + 1) - 1).toInt64) = _
      rw [nI_pred]
    · rw [e1, e5]
      show ob4 (F_X5_saved N (nI C) past b' (nI c) th) _ = _
      rw [e3]; rfl
