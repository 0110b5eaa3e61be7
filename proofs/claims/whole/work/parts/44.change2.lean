/-! THE PURE SIDE: more calls that change the state -/
theorem begin_c {N n B C Ln ol c : Nat} {R : Int32} {pos neg s past begun : Nat → Int32} {ring : Nat → StT} (hN : 2000 ≤ N) (o : Ok n B C Ln) (m : Ms n B C Ln R pos neg s) (sv : SV ring ol c past) (bits : Nat → Int64) (st : Bool) (th : Int32) : ∃ r V' B' C' L' R' ring' ol' c' st' s' past' begun', F_X4_begin N (nI n) (nI B) (nI C) pos neg (nI Ln) R ring (nI ol) (nI c) st = some (r, V', B', C', L', R', ring', nI ol', nI c', st') ∧ F_X5_begin N s past begun (nI c) th = some (r, s', past', begun', nI c', 0) ∧ XR V' B' C' pos neg L' R' s' st' bits ∧ SV ring' ol' c' past' := by
  obtain ⟨b', e1, t1⟩ := begins_N hN s begun
  obtain ⟨ring', ol', c', past', e2, sv', e3⟩ := save_c hN o m sv t1
  have step : ∀ (d q k : Nat) (b : Nat → Int32), k + d = 45 → d < q → (∀ i, i < k → b i = nI 0) → ∃ b', (∀ kont, L_X5_begin_13 N kont q (nI k) b = kont b') ∧ ∀ i, i < 45 → b' i = nI 0 := by
    intro d
    induction d with
    | zero =>
      intro q k b hd hq h
      obtain ⟨q, rfl⟩ : ∃ q', q = q' + 1 := ⟨q - 1, by omega⟩
      refine ⟨b, fun kont => ?_, fun i hi => h i (by omega)⟩
      rw [L_X5_begin_13, show (45 : Int32) = nI 45 from rfl, if_nle (by omega) (by omega), if_pos (by omega)]
    | succ d ih =>
      intro q k b hd hq h
      obtain ⟨q, rfl⟩ : ∃ q', q = q' + 1 := ⟨q - 1, by omega⟩
      obtain ⟨b', e, t⟩ := ih q (k + 1) (upd b k (nI 0)) (by omega) (by omega) (fun i hi => by
        by_cases e : i = k
        · subst e; exact pk_us
        · rw [pk_un e]; exact h i (by omega))
      refine ⟨b', fun kont => ?_, t⟩
      rw [← e kont, L_X5_begin_13, show (45 : Int32) = nI 45 from rfl, if_nle (by omega) (by omega), if_neg (by omega), inb_f (by omega) (by decide), nI_clamp (by omega), nI_1]; rfl
  obtain ⟨s', e4, t4⟩ := step 45 N 0 s (by omega) (by omega) (fun i hi => absurd hi (Nat.not_lt_zero _))
  refine ⟨nI n, nI 0, nI 0, nI 0, nI 0, nI 0, ring', ol', c', true, s', past', b', ?_, ?_, ⟨0, 0, 0, 0, rfl, rfl, rfl, rfl, ⟨by decide, by decide, by decide, by decide, by decide, pw_pos _⟩, ⟨t4 0 (by decide), t4 1 (by decide), t4 2 (by decide), t4 3 (by decide), t4 4 (by decide), fun k hk => absurd hk (Nat.not_lt_zero _), fun k hk => absurd hk (Nat.not_lt_zero _)⟩, .inl rfl⟩, sv'⟩
  · unfold F_X4_begin
    rw [e2]; rfl
  · unfold F_X5_begin
    rw [e1, m.1]
    refine (e4 _).trans ?_
    rw [e3]; rfl
theorem drop_c {N n B C Ln : Nat} {R : Int32} (hC : C ≤ 20) : ∀ (d v : Nat) (pos neg s : Nat → Int32), v + 1 + d = C → Ms n B C Ln R pos neg s → ∃ pos' neg' s', (∀ kont q, d < q → L_X3_dropClause_12 N (nI C) kont q (nI v) pos neg = kont pos' neg') ∧ (∀ kont q, d < q → L_X5_removeClause_20 N kont q (nI v) s = kont s') ∧ Ms n B C Ln R pos' neg' s' := by
  intro d
  induction d with
  | zero =>
    intro v pos neg s hd m
    refine ⟨pos, neg, s, fun kont q hq => ?_, fun kont q hq => ?_, m⟩
    · obtain ⟨q, rfl⟩ : ∃ q', q = q' + 1 := ⟨q - 1, by omega⟩
      rw [L_X3_dropClause_12, pred_N (by omega), if_nle (by omega) (by omega), if_pos (by omega)]
    · obtain ⟨q, rfl⟩ : ∃ q', q = q' + 1 := ⟨q - 1, by omega⟩
      rw [L_X5_removeClause_20, m.2.2.1, pred_N (by omega), if_nle (by omega) (by omega), if_pos (by omega)]
  | succ d ih =>
    intro v pos neg s hd m
    have hm := m
    obtain ⟨a, b, c, d', e, f, g⟩ := m
    have m' : Ms n B C Ln R (upd pos v (pos (v + 1))) (upd neg v (neg (v + 1))) (upd (upd s (5 + v) (s (5 + v + 1))) (25 + v) (s (25 + v + 1))) := by
      refine ⟨?_, ?_, ?_, ?_, ?_, fun k hk => ?_, fun k hk => ?_⟩
      · rw [pk_un (by omega), pk_un (by omega)]; exact a
      · rw [pk_un (by omega), pk_un (by omega)]; exact b
      · rw [pk_un (by omega), pk_un (by omega)]; exact c
      · rw [pk_un (by omega), pk_un (by omega)]; exact d'
      · rw [pk_un (by omega), pk_un (by omega)]; exact e
      · rw [pk_un (by omega)]
        by_cases ek : k = v
        · subst ek; rw [pk_us, pk_us]; exact f (k + 1) (by omega)
        · rw [pk_un (by omega), pk_un ek]; exact f k hk
      · by_cases ek : k = v
        · subst ek; rw [pk_us, pk_us]; exact g (k + 1) (by omega)
        · rw [pk_un (by omega), pk_un (by omega), pk_un ek]; exact g k hk
    obtain ⟨pos', neg', s', h3, h5, m2⟩ := ih (v + 1) _ _ _ (by omega) m'
    refine ⟨pos', neg', s', fun kont q hq => ?_, fun kont q hq => ?_, m2⟩
    · obtain ⟨q, rfl⟩ : ∃ q', q = q' + 1 := ⟨q - 1, by omega⟩
      rw [← h3 kont q (by omega), L_X3_dropClause_12, pred_N (by omega), if_nle (by omega) (by omega), if_neg (by omega), nI_1, read_N N pos (by omega) (by decide), read_N N neg (by omega) (by decide)]
      show ob1 (F_X4_write N 20 (nI v) (pos (v + 1)) pos) (fun p2 => ob1 (F_X4_write N 20 (nI v) (neg (v + 1)) neg) (fun q2 => L_X3_dropClause_12 N (nI C) kont q (nI (v + 1)) p2 q2)) = _
      rw [write_N N pos _ (by omega) (by decide), write_N N neg _ (by omega) (by decide)]; rfl
    · obtain ⟨q, rfl⟩ : ∃ q', q = q' + 1 := ⟨q - 1, by omega⟩
      rw [← h5 kont q (by omega), L_X5_removeClause_20, c, pred_N (by omega), if_nle (by omega) (by omega), if_neg (by omega), show (5 : Int32) = nI 5 from rfl, show (25 : Int32) = nI 25 from rfl, nI_add, nI_add, nI_1, nI_1, nI_1, inb_f (by omega) (by decide), inb_f (by omega) (by decide), inb_f (by omega) (by decide), nI_clamp (by omega), nI_clamp (by omega), nI_clamp (by omega), nI_clamp (by omega), pk_un (by omega)]
      show gd (inb (nI (25 + v)) 45) (L_X5_removeClause_20 N kont q (nI (v + 1)) (upd (upd s (5 + v) (s (5 + v + 1))) (25 + v) (s (25 + v + 1)))) = _
      rw [inb_f (by omega) (by decide)]
theorem removeClause_c {N n B C Ln ol c : Nat} {R : Int32} {pos neg s past begun : Nat → Int32} {ring : Nat → StT} (hN : 2000 ≤ N) (o : Ok n B C Ln) (m : Ms n B C Ln R pos neg s) (sv : SV ring ol c past) (bits : Nat → Int64) (st : Bool) (hst : st = true ∨ BT (mC pos neg C) B n 0 bits) (x th : Int32) (out : Nat → Int64) : ∃ code C' pos' neg' L' ring' ol' c' st' out' r s' past' begun', F_L_removeClause N 1 x (nI n) (nI B) (nI C) pos neg (nI Ln) R ring (nI ol) (nI c) st out = some (code, C', pos', neg', L', ring', nI ol', nI c', st', out') ∧ F_X5_removeClause N x s past begun (nI c) th = some (r, s', past', begun', nI c', code) ∧ (code = 0 → out' 0 = r.toInt64) ∧ XR (nI n) (nI B) C' pos' neg' L' R s' st' bits ∧ SV ring' ol' c' past' := by
  have hC := o.2.2.2.2.1
  unfold F_L_removeClause T_X4_removeClause F_X4_removeClause F_X5_removeClause
  rcases reqC N x (s := s) hC m.2.2.1 with ⟨t, i⟩ | ⟨k, hk, rfl, t, f, i⟩
  · rw [t, i]
    exact ⟨1, nI C, pos, neg, nI Ln, ring, ol, c, st, out, 0, s, past, begun, rfl, rfl, fun q => absurd q (by decide), ⟨n, B, C, Ln, rfl, rfl, rfl, rfl, o, m, hst⟩, sv⟩
  · obtain ⟨b', e1, t1⟩ := begins_N hN s begun
    obtain ⟨ring', ol', c', past', e2, sv', e3⟩ := save_c hN o m sv t1
    obtain ⟨pos', neg', s', e4, e5, m'⟩ := drop_c (N := N) hC (C - 1 - k) k pos neg s (by omega) m
    have m2 : Ms n B (C - 1) 0 R pos' neg' (upd (upd s' 2 (nI (C - 1))) 3 (nI 0)) := by
      obtain ⟨a, b, c, d, e, f, g⟩ := m'
      refine ⟨(pk_un (by decide)).trans ((pk_un (by decide)).trans a), (pk_un (by decide)).trans ((pk_un (by decide)).trans b), (pk_un (by decide)).trans pk_us, pk_us, (pk_un (by decide)).trans ((pk_un (by decide)).trans e), fun k hk => (pk_un (by omega)).trans ((pk_un (by omega)).trans (f k (by omega))), fun k hk => (pk_un (by omega)).trans ((pk_un (by omega)).trans (g k (by omega)))⟩
    refine ⟨0, nI (C - 1), pos', neg', nI 0, ring', ol', c', true, vp_updL out 0 (nI (C - 1)).toInt64, nI (C - 1), upd (upd s' 2 (nI (C - 1))) 3 (nI 0), past', b', ?_, ?_, fun _ => updL_s _ _ _, ⟨n, B, C - 1, 0, rfl, rfl, rfl, rfl, ⟨o.1, o.2.1, o.2.2.1, o.2.2.2.1, by omega, pw_pos _⟩, m2, .inl rfl⟩, sv'⟩
    · rw [t, f, e2]
      show ob9 (ob3 (F_X3_dropClause N (nI k) (nI C) pos neg) _) _ = _
      unfold F_X3_dropClause
      rw [e4 _ N (by omega), pred_N (by omega)]; rfl
    · rw [i, e1]
      refine (e5 _ N (by omega)).trans ?_
      rw [m'.2.2.1, pred_N (by omega)]
      show ob4 (F_X5_saved N ((upd (upd s' 2 (nI (C - 1))) 3 (nI 0)) 2) past b' (nI c) th) _ = _
      rw [m2.2.2.1, e3]; rfl
theorem whyL {N n B C Ln : Nat} {R : Int32} {pos neg s : Nat → Int32} (hN : 2000 ≤ N) (o : Ok n B C Ln) (m : Ms n B C Ln R pos neg s) (x : Int32) : (F_X5_whyNotLearn N x s = some 1 ∧ T_X4_requirePlay N x (nI B) = some 1 ∧ F_X3_hasPlay N x (nI B) = some false) ∨ ∃ p : Nat, p < 2 ^ pc B ∧ x = nI p ∧ T_X4_requirePlay N x (nI B) = none ∧ F_X4_requirePlay N x (nI B) = some () ∧ F_X3_hasPlay N x (nI B) = some true ∧ ((bt Ln p = 1 ∧ F_X5_whyNotLearn N x s = some 2 ∧ F_X3_hasLearned N x (nI Ln) = some true) ∨ (bt Ln p = 0 ∧ F_X5_whyNotLearn N x s = some 0 ∧ F_X3_hasLearned N x (nI Ln) = some false)) := by
  have hL := ok_L o
  have p1 := pb8 o.2.2.1
  unfold F_X5_whyNotLearn
  rcases reqP (N := N) x hN m.2.1 (ok_512 o) o.2.2.1 with ⟨t, i, h⟩ | ⟨p, hp, rfl, t, f, i, h⟩
  · rw [i]; exact .inl ⟨rfl, t, h⟩
  · rw [i, m.2.2.2.1]
    have h1 := hasLearned_N N (show Ln < 2 ^ 31 by omega) (show p < 32 by omega)
    refine .inr ⟨p, hp, rfl, t, f, h, ?_⟩
    show (_ ∧ (if (nI Ln >>> (nI p &&& 31)) &&& 1 = nI 1 then some 2 else some 0) = some 2 ∧ _) ∨ (_ ∧ (if (nI Ln >>> (nI p &&& 31)) &&& 1 = nI 1 then some 2 else some 0) = some 0 ∧ _)
    rw [shr_and (by omega) (by omega), if_neq (by have := bt_lt Ln p; omega) (by decide)]
    rcases bt_01 Ln p with e | e
    · rw [e] at h1 ⊢
      exact .inr ⟨rfl, if_neg (by decide), h1⟩
    · rw [e] at h1 ⊢
      exact .inl ⟨rfl, if_pos rfl, h1⟩
theorem learn_c {N n B C Ln ol c : Nat} {R : Int32} {pos neg s past begun : Nat → Int32} {ring : Nat → StT} (hN : 2000 ≤ N) (o : Ok n B C Ln) (m : Ms n B C Ln R pos neg s) (sv : SV ring ol c past) (bits : Nat → Int64) (st : Bool) (hst : st = true ∨ BT (mC pos neg C) B n 0 bits) (x th : Int32) (out : Nat → Int64) : ∃ code L' ring' ol' c' out' r s' past' begun', F_L_learn N 1 x (nI n) (nI B) (nI C) pos neg (nI Ln) R ring (nI ol) (nI c) out = some (code, L', ring', nI ol', nI c', out') ∧ F_X5_learn N x s past begun (nI c) th = some (r, s', past', begun', nI c', code) ∧ (code = 0 → out' 0 = r.toInt64) ∧ XR (nI n) (nI B) (nI C) pos neg L' R s' st bits ∧ SV ring' ol' c' past' := by
  have hL := ok_L o
  have p1 := pb8 o.2.2.1
  have p2 := pb256 o.2.2.1
  unfold F_L_learn T_X4_learn F_X4_learn F_X5_learn
  rcases whyL (N := N) hN o m x with ⟨a, t, -⟩ | ⟨p, hp, rfl, t, f, -, ⟨-, a, h⟩ | ⟨hb, a, h⟩⟩
  · rw [a, t]
    exact ⟨1, nI Ln, ring, ol, c, out, 0, s, past, begun, rfl, rfl, fun q => absurd q (by decide), ⟨n, B, C, Ln, rfl, rfl, rfl, rfl, o, m, hst⟩, sv⟩
  · rw [a, t, f, h]
    exact ⟨2, nI Ln, ring, ol, c, out, 0, s, past, begun, rfl, rfl, fun q => absurd q (by decide), ⟨n, B, C, Ln, rfl, rfl, rfl, rfl, o, m, hst⟩, sv⟩
  · obtain ⟨b', e1, t1⟩ := begins_N hN s begun
    obtain ⟨ring', ol', c', past', e2, sv', e3⟩ := save_c hN o m sv t1
    have o' := ok_learn o hp
    have hL' := ok_L o'
    rw [a, t, f, h, e2, e1, m.2.2.2.1, shl1 p (by omega), nI_or, bitCount_N N (by omega), show (upd s 3 (nI (Ln ||| 2 ^ p))) 3 = nI (Ln ||| 2 ^ p) from pk_us, ones_N (by omega) (by omega)]
    refine ⟨0, nI (Ln ||| 2 ^ p), ring', ol', c', vp_updL out 0 (nI (pc (Ln ||| 2 ^ p))).toInt64, nI (pc (Ln ||| 2 ^ p)), upd s 3 (nI (Ln ||| 2 ^ p)), past', b', rfl, ?_, fun _ => updL_s _ _ _, ⟨n, B, C, Ln ||| 2 ^ p, rfl, rfl, rfl, rfl, o', ms_3 m _, hst⟩, sv'⟩
    show ob4 (F_X5_saved N (nI (pc (Ln ||| 2 ^ p))) past b' (nI c) th) _ = _
    rw [e3]; rfl
theorem forget_c {N n B C Ln ol c : Nat} {R : Int32} {pos neg s past begun : Nat → Int32} {ring : Nat → StT} (hN : 2000 ≤ N) (o : Ok n B C Ln) (m : Ms n B C Ln R pos neg s) (sv : SV ring ol c past) (bits : Nat → Int64) (st : Bool) (hst : st = true ∨ BT (mC pos neg C) B n 0 bits) (th : Int32) : ∃ r L' ring' ol' c' s' past' begun', F_X4_forget N (nI n) (nI B) (nI C) pos neg (nI Ln) R ring (nI ol) (nI c) = some (r, L', ring', nI ol', nI c') ∧ F_X5_forget N s past begun (nI c) th = some (r, s', past', begun', nI c', 0) ∧ XR (nI n) (nI B) (nI C) pos neg L' R s' st bits ∧ SV ring' ol' c' past' := by
  have hL := ok_L o
  obtain ⟨b', e1, t1⟩ := begins_N hN s begun
  obtain ⟨ring', ol', c', past', e2, sv', e3⟩ := save_c hN o m sv t1
  refine ⟨nI (pc Ln), nI 0, ring', ol', c', upd s 3 (nI 0), past', b', ?_, ?_, ⟨n, B, C, 0, rfl, rfl, rfl, rfl, ⟨o.1, o.2.1, o.2.2.1, o.2.2.2.1, o.2.2.2.2.1, pw_pos _⟩, ms_3 m 0, hst⟩, sv'⟩
  · unfold F_X4_forget
    rw [bitCount_N N (by omega), e2]; rfl
  · unfold F_X5_forget
    rw [e1, m.2.2.2.1, ones_N (by omega) (by omega)]
    show ob4 (F_X5_saved N (nI (pc Ln)) past b' (nI c) th) _ = _
    rw [e3]; rfl
theorem round_c {N n B C Ln ol c : Nat} {R : Int32} {pos neg s past begun : Nat → Int32} {ring : Nat → StT} (hN : 2000 ≤ N) (o : Ok n B C Ln) (m : Ms n B C Ln R pos neg s) (sv : SV ring ol c past) (bits : Nat → Int64) (st : Bool) (hst : st = true ∨ BT (mC pos neg C) B n 0 bits) (w : Nat → Bool) (fi : Nat → Int32) (th : Int32) : ∃ r L' R' ring' ol' c' bits' st' s' past' begun' w' f', F_X4_round N (nI n) (nI B) (nI C) pos neg (nI Ln) R ring (nI ol) (nI c) bits st = some (r, L', R', ring', nI ol', nI c', bits', st') ∧ F_X5_round N s past begun (nI c) th w fi = some (r, s', past', begun', nI c', 0, w', f') ∧ XR (nI n) (nI B) (nI C) pos neg L' R' s' st' bits' ∧ SV ring' ol' c' past' := by
  obtain ⟨b', e1, t1⟩ := begins_N hN s begun
  obtain ⟨ring', ol', c', past', e2, sv', e3⟩ := save_c hN o m sv t1
  obtain ⟨r, Ln', bits', s', w', f', a1, a2, a3, a4, a5, -⟩ := rounds_N hN o m bits st hst w fi
  refine ⟨r, nI Ln', R + 1, ring', ol', c', bits', false, s', past', b', w', f', ?_, ?_, ⟨n, B, C, Ln', rfl, rfl, rfl, rfl, a4, a5, .inr a2⟩, sv'⟩
  · unfold F_X4_round
    rw [e2, a1]; rfl
  · unfold F_X5_round
    rw [e1, a3]
    show ob4 (F_X5_saved N r past b' (nI c) th) _ = _
    rw [e3]; rfl
theorem learnAll_c {N n B C Ln ol c : Nat} {R : Int32} {pos neg s past begun : Nat → Int32} {ring : Nat → StT} (hN : 2000 ≤ N) (o : Ok n B C Ln) (m : Ms n B C Ln R pos neg s) (sv : SV ring ol c past) (bits : Nat → Int64) (st : Bool) (hst : st = true ∨ BT (mC pos neg C) B n 0 bits) (w : Nat → Bool) (fi : Nat → Int32) (th : Int32) : ∃ r L' R' ring' ol' c' bits' st' s' past' begun' w' f', F_X4_learnAll N (nI n) (nI B) (nI C) pos neg (nI Ln) R ring (nI ol) (nI c) bits st = some (r, L', R', ring', nI ol', nI c', bits', st') ∧ F_X5_learnAll N s past begun (nI c) th w fi = some (r, s', past', begun', nI c', 0, w', f') ∧ XR (nI n) (nI B) (nI C) pos neg L' R' s' st' bits' ∧ SV ring' ol' c' past' := by
  obtain ⟨b', e1, t1⟩ := begins_N hN s begun
  obtain ⟨ring', ol', c', past', e2, sv', e3⟩ := save_c hN o m sv t1
  have h1 := pc_P o
  have p1 := pb8 o.2.2.1
  obtain ⟨k', Ln', R', bits', s', w', f', a1, a2, a4, a5, a6⟩ := learnAll_loop hN (fun u2_12 t_state_learned_13 t_state_rounds_14 t_beaten_bits_15 t_beaten_stale_16 => some (u2_12, t_state_learned_13, t_state_rounds_14, ring', nI ol', nI c', t_beaten_bits_15, t_beaten_stale_16)) (fun u1_7 t_s_8 t_wins_9 t_fits_10 => ob4 (F_X5_saved N u1_7 past b' (nI c) th) (fun r_17 t_past_18 t_pasts_19 t_thrown_20 => some (r_17, t_s_8, t_past_18, b', t_pasts_19, t_thrown_20, t_wins_9, t_fits_10))) (2 ^ pc B - pc Ln) 0 N Ln R s bits st w fi o m hst (by omega) (by omega) (by omega)
  refine ⟨k', nI Ln', R', ring', ol', c', bits', false, s', past', b', w', f', ?_, ?_, ⟨n, B, C, Ln', rfl, rfl, rfl, rfl, a4, a5, .inr a6⟩, sv'⟩
  · unfold F_X4_learnAll
    rw [e2, plays3_N N (ok_512 o) o.2.2.1]
    exact a1
  · unfold F_X5_learnAll
    rw [e1]
    refine a2.trans ?_
    rw [e3]; rfl
