/-! CHANGING CALLS -/
def SVK (o c : Nat) : Prop := o < 4 ∧ c ≤ 4
theorem push_N {N n B C Ln ol c : Nat} {R : Int32} {pos neg : Nat → Int32} {ring : Nat → StT} (hN : 2000 ≤ N) (o : Ok n B C Ln) (sv : SVK ol c) : ∃ ring' ol' c' P Q, F_X2_push N ring (nI ol) (nI c) (nI n) (nI B) (nI C) pos neg (nI Ln) R = some (ring', nI ol', nI c') ∧ SVK ol' c' ∧ 1 ≤ c' ∧ ring' ((ol' + (c' - 1)) % 4) = (nI n, nI B, nI C, P, Q, nI Ln, R) := by
  obtain ⟨ho, hc⟩ := sv
  unfold F_X2_push
  by_cases e : c = 4
  · subst e
    obtain ⟨P, Q, e3, t4⟩ := copy_N hN o.2.2.2.2.1 pos neg (ring (((ol + 1) % 4 + 3) % 4)).2.2.2.1 (ring (((ol + 1) % 4 + 3) % 4)).2.2.2.2.1 (ring (((ol + 1) % 4 + 3) % 4)).1 (ring (((ol + 1) % 4 + 3) % 4)).2.1 (ring (((ol + 1) % 4 + 3) % 4)).2.2.1 (ring (((ol + 1) % 4 + 3) % 4)).2.2.2.2.2.1 (ring (((ol + 1) % 4 + 3) % 4)).2.2.2.2.2.2 (nI n) (nI B) (nI Ln) R
    refine ⟨updS ring (((ol + 1) % 4 + 3) % 4) (nI n, nI B, nI C, P, Q, nI Ln, R), (ol + 1) % 4, 4, P, Q, ?_, ⟨by omega, by omega⟩, by omega, updS_s _ _ _⟩
    rw [if_pos (by rfl), show (4 : Int32) = nI 4 from rfl, nI_1, pk_rem (by omega) (by decide) (by decide), show nI 4 - 1 = nI 3 from by decide, slot_N (by omega)]
    show ob7 (F_X3_copyFrom N (ring (((ol + 1) % 4 + 3) % 4)).1 (ring (((ol + 1) % 4 + 3) % 4)).2.1 (ring (((ol + 1) % 4 + 3) % 4)).2.2.1 (ring (((ol + 1) % 4 + 3) % 4)).2.2.2.1 (ring (((ol + 1) % 4 + 3) % 4)).2.2.2.2.1 (ring (((ol + 1) % 4 + 3) % 4)).2.2.2.2.2.1 (ring (((ol + 1) % 4 + 3) % 4)).2.2.2.2.2.2 (nI n) (nI B) (nI C) pos neg (nI Ln) R) _ = _
    rw [e3, nI_1]; rfl
  · obtain ⟨P, Q, e3, t4⟩ := copy_N hN o.2.2.2.2.1 pos neg (ring ((ol + c) % 4)).2.2.2.1 (ring ((ol + c) % 4)).2.2.2.2.1 (ring ((ol + c) % 4)).1 (ring ((ol + c) % 4)).2.1 (ring ((ol + c) % 4)).2.2.1 (ring ((ol + c) % 4)).2.2.2.2.2.1 (ring ((ol + c) % 4)).2.2.2.2.2.2 (nI n) (nI B) (nI Ln) R
    refine ⟨updS ring ((ol + c) % 4) (nI n, nI B, nI C, P, Q, nI Ln, R), ol, c + 1, P, Q, ?_, ⟨ho, by omega⟩, by omega, updS_s _ _ _⟩
    rw [show (4 : Int32) = nI 4 from rfl, if_neg (fun q => e (nI_inj (by omega) (by decide) q)), slot_N (by omega)]
    show ob7 (F_X3_copyFrom N (ring ((ol + c) % 4)).1 (ring ((ol + c) % 4)).2.1 (ring ((ol + c) % 4)).2.2.1 (ring ((ol + c) % 4)).2.2.2.1 (ring ((ol + c) % 4)).2.2.2.2.1 (ring ((ol + c) % 4)).2.2.2.2.2.1 (ring ((ol + c) % 4)).2.2.2.2.2.2 (nI n) (nI B) (nI C) pos neg (nI Ln) R) _ = _
    rw [e3, nI_1]; rfl
theorem undoes_N {N ol c C' : Nat} {V B Cl L R n' B' L' R' : Int32} {pos neg P' Q' : Nat → Int32} {ring : Nat → StT} (hN : 2000 ≤ N) (sv : SVK ol c) (h1 : 1 ≤ c) (hC : C' ≤ 20) (a1 : ring ((ol + (c - 1)) % 4) = (n', B', nI C', P', Q', L', R')) (st : Bool) : ∃ P Q, F_L_undoes N V B Cl pos neg L R ring (nI ol) (nI c) st = some (nI (c - 1), n', B', nI C', P, Q, L', R', nI (c - 1), true) := by
  obtain ⟨ho, hc⟩ := sv
  obtain ⟨P, Q, e3, t4⟩ := copy_N hN hC P' Q' pos neg V B Cl L R n' B' L' R'
  refine ⟨P, Q, ?_⟩
  unfold F_L_undoes F_X4_undo F_X2_pop
  rw [n0, if_neg (fun q => absurd (nI_inj (by omega) (by decide) q) (by omega)), pred_N (by omega), slot_N (by omega)]
  show ob10 (ob8 (ob7 (F_X3_copyFrom N V B Cl pos neg L R (ring ((ol + (c - 1)) % 4)).1 (ring ((ol + (c - 1)) % 4)).2.1 (ring ((ol + (c - 1)) % 4)).2.2.1 (ring ((ol + (c - 1)) % 4)).2.2.2.1 (ring ((ol + (c - 1)) % 4)).2.2.2.2.1 (ring ((ol + (c - 1)) % 4)).2.2.2.2.2.1 (ring ((ol + (c - 1)) % 4)).2.2.2.2.2.2) _) _) _ = _
  rw [a1]
  show ob10 (ob8 (ob7 (F_X3_copyFrom N V B Cl pos neg L R n' B' (nI C') P' Q' L' R') _) _) _ = _
  rw [e3]; rfl
theorem begin_N {N n B C Ln ol c : Nat} {R : Int32} {pos neg : Nat → Int32} {ring : Nat → StT} (hN : 2000 ≤ N) (o : Ok n B C Ln) (sv : SVK ol c) (st : Bool) : ∃ ring' ol' c' P Q, F_X4_begin N (nI n) (nI B) (nI C) pos neg (nI Ln) R ring (nI ol) (nI c) st = some (nI n, nI 0, nI 0, nI 0, nI 0, nI 0, ring', nI ol', nI c', true) ∧ SVK ol' c' ∧ 1 ≤ c' ∧ ring' ((ol' + (c' - 1)) % 4) = (nI n, nI B, nI C, P, Q, nI Ln, R) := by
  obtain ⟨ring', ol', c', P, Q, e2, h1, h2, h3⟩ := push_N (R := R) (pos := pos) (neg := neg) (ring := ring) hN o sv
  refine ⟨ring', ol', c', P, Q, ?_, h1, h2, h3⟩
  unfold F_X4_begin
  rw [e2]; rfl
theorem room_N (N : Nat) {n B C Ln : Nat} (o : Ok n B C Ln) (own : Bool) : ∃ b, F_X3_hasRoomFor N own (nI n) (nI B) = some b ∧ (b = true → Ok (n + 1) (nB own n B) C 0) ∧ (b = false → n ≤ 5 → pc B = 3) := by
  have hB := ok_512 o
  have hl := pc_le o.1 o.2.1
  obtain ⟨o1, o2, o3, o4, o5, o6⟩ := o
  unfold F_X3_hasRoomFor
  rw [bitCount_N N hB]
  show ∃ b, (if own = true then (if nI 3 ≤ nI (pc B) then some false else some true) else (if nI 6 ≤ nI n - nI (pc B) then some false else some true)) = some b ∧ (b = true → Ok (n + 1) (nB own n B) C 0) ∧ (b = false → n ≤ 5 → pc B = 3)
  rw [pk_sub hl, if_nle (by decide) (by omega), if_nle (by decide) (by omega)]
  have q : 2 ^ n < 2 ^ (n + 1) := Nat.pow_lt_pow_right (by decide) (Nat.lt_succ_self n)
  cases own
  · by_cases e : 6 ≤ n - pc B
    · exact ⟨false, if_pos e, (fun q => by cases q), fun _ h => by omega⟩
    · exact ⟨true, if_neg e, (fun _ => ⟨by omega, Nat.lt_trans o2 q, o3, by show n + 1 - pc B ≤ 6; omega, o5, pw_pos _⟩), fun h => by cases h⟩
  · by_cases e : 3 ≤ pc B
    · exact ⟨false, if_pos e, (fun q => by cases q), fun _ _ => by omega⟩
    · have h1 : pc (B ||| 2 ^ n) = pc B + 1 := by
        unfold pc
        rw [cnt_or (bt_high o2 (Nat.le_refl n)), if_pos (by omega)]
      refine ⟨true, if_neg e, (fun _ => ⟨by omega, Nat.or_lt_two_pow (Nat.lt_trans o2 q) q, ?_, ?_, o5, pw_pos _⟩), fun h => by cases h⟩
      · show pc (B ||| 2 ^ n) ≤ 3; omega
      · show n + 1 - pc (B ||| 2 ^ n) ≤ 6; omega
theorem puts_N {N n B : Nat} {L : Int32} (hn : n ≤ 9) (own st : Bool) : F_X4_putVariable N own (nI n) (nI B) L st = some (nI (n + 1), nI (nB own n B), nI 0, true) := by
  unfold F_X4_putVariable F_X3_putVariable
  rw [shl1 n (by omega), nI_or, nI_1]
  cases own <;> rfl
theorem adds_N {N n B C Ln ol c : Nat} {R : Int32} {pos neg : Nat → Int32} {ring : Nat → StT} (hN : 2000 ≤ N) (o : Ok n B C Ln) (hn5 : n ≤ 5) (sv : SVK ol c) (bits : Nat → Int64) (st : Bool) (hst : st = true ∨ BT (mC pos neg C) B n 0 bits) (own : Bool) : ∃ r n' B' L' ring' ol' c' st', F_L_adds N own (nI n) (nI B) (nI C) pos neg (nI Ln) R ring (nI ol) (nI c) st = some (r, nI n', nI B', nI L', ring', nI ol', nI c', st') ∧ Ok n' B' C L' ∧ n' ≤ n + 1 ∧ SVK ol' c' ∧ (st' = true ∨ BT (mC pos neg C) B' n' 0 bits) ∧ ∀ kont, J_L_law_71 N (nI C) R (nI n) r (nI n') (nI B') (nI L') kont = kont := by
  obtain ⟨b, r1, r3, r4⟩ := room_N N o own
  unfold F_L_adds T_X4_addVariable F_X4_addVariable
  rw [r1]
  cases b
  · refine ⟨-2000001, n, B, Ln, ring, ol, c, st, rfl, o, by omega, sv, hst, fun kont => ?_⟩
    unfold J_L_law_71
    rw [if_neg (by decide), if_pos rfl, val1 N (ok_512 o), r4 rfl hn5]; rfl
  · obtain ⟨ring', ol', c', P, Q, e2, h1, h2, h3⟩ := push_N (R := R) (pos := pos) (neg := neg) (ring := ring) hN o sv
    refine ⟨nI n, n + 1, nB own n B, 0, ring', ol', c', true, ?_, r3 rfl, Nat.le_refl _, h1, .inl rfl, fun kont => ?_⟩
    · rw [e2, puts_N o.1]
      show some (nI (n + 1) - 1, nI (n + 1), nI (nB own n B), nI 0, ring', nI ol', nI c', true) = _
      rw [nI_pred]
    · unfold J_L_law_71
      rw [if_pos (nI_pos' (by omega)), if_pos rfl]
theorem clauses_N {N n B C Ln ol c p q : Nat} {R : Int32} {pos neg : Nat → Int32} {ring : Nat → StT} (hN : 2000 ≤ N) (o : Ok n B C Ln) (hC : C < 20) (hp : p < 2 ^ n) (hq : q < 2 ^ n) (sv : SVK ol c) (st : Bool) : ∃ ring' ol' c', F_L_clauses N (nI p) (nI q) (nI n) (nI B) (nI C) pos neg (nI Ln) R ring (nI ol) (nI c) st = some (nI C, nI (C + 1), upd pos C (nI p), upd neg C (nI q), nI 0, ring', nI ol', nI c', true) ∧ SVK ol' c' ∧ Ok n B (C + 1) 0 := by
  have hn := o.1
  have p9 := pw9 hn
  obtain ⟨ring', ol', c', P, Q, e2, h1, h2, h3⟩ := push_N (R := R) (pos := pos) (neg := neg) (ring := ring) hN o sv
  refine ⟨ring', ol', c', ?_, h1, o.1, o.2.1, o.2.2.1, o.2.2.2.1, by omega, pw_pos _⟩
  unfold F_L_clauses F_X4_addClause
  rw [hasVariables_N N (by omega) (by omega), hasVariables_N N (by omega) (by omega), decide_eq_true hp, decide_eq_true hq]
  show ob9 (if nI C < nI 20 then ob3 (F_X2_push N ring (nI ol) (nI c) (nI n) (nI B) (nI C) pos neg (nI Ln) R) _ else none) _ = _
  rw [if_nlt (by omega) (by decide), if_pos hC, e2]
  unfold F_X4_putClause F_X3_putClause
  rw [write_N N pos _ (by omega) (by decide), write_N N neg _ (by omega) (by decide), nI_1]
  show some (nI (C + 1) - 1, nI (C + 1), upd pos C (nI p), upd neg C (nI q), nI 0, ring', nI ol', nI c', true) = _
  rw [nI_pred]
theorem drop_N {N C : Nat} (hC : C ≤ 20) : ∀ (d v : Nat) (pos neg : Nat → Int32), v + 1 + d = C → ∃ pos' neg', ∀ kont q, d < q → L_X3_dropClause_12 N (nI C) kont q (nI v) pos neg = kont pos' neg' := by
  intro d
  induction d with
  | zero =>
    intro v pos neg hd
    refine ⟨pos, neg, fun kont q hq => ?_⟩
    obtain ⟨q, rfl⟩ : ∃ q', q = q' + 1 := ⟨q - 1, by omega⟩
    rw [L_X3_dropClause_12, pred_N (by omega), if_nle (by omega) (by omega), if_pos (by omega)]
  | succ d ih =>
    intro v pos neg hd
    obtain ⟨pos', neg', h3⟩ := ih (v + 1) (upd pos v (pos (v + 1))) (upd neg v (neg (v + 1))) (by omega)
    refine ⟨pos', neg', fun kont q hq => ?_⟩
    obtain ⟨q, rfl⟩ : ∃ q', q = q' + 1 := ⟨q - 1, by omega⟩
    rw [← h3 kont q (by omega), L_X3_dropClause_12, pred_N (by omega), if_nle (by omega) (by omega), if_neg (by omega), nI_1, read_N N pos (by omega) (by decide), read_N N neg (by omega) (by decide)]
    show ob1 (F_X4_write N 20 (nI v) (pos (v + 1)) pos) (fun p2 => ob1 (F_X4_write N 20 (nI v) (neg (v + 1)) neg) (fun q2 => L_X3_dropClause_12 N (nI C) kont q (nI (v + 1)) p2 q2)) = _
    rw [write_N N pos _ (by omega) (by decide), write_N N neg _ (by omega) (by decide)]; rfl
theorem removes_N {N n B C Ln ol c k : Nat} {R : Int32} {pos neg : Nat → Int32} {ring : Nat → StT} (hN : 2000 ≤ N) (o : Ok n B C Ln) (hk : k < C) (sv : SVK ol c) (st : Bool) : ∃ pos' neg' ring' ol' c', F_L_removes N (nI k) (nI n) (nI B) (nI C) pos neg (nI Ln) R ring (nI ol) (nI c) st = some (nI (C - 1), nI (C - 1), pos', neg', nI 0, ring', nI ol', nI c', true) ∧ SVK ol' c' ∧ Ok n B (C - 1) 0 := by
  have hC := o.2.2.2.2.1
  obtain ⟨ring', ol', c', P, Q, e2, h1, h2, h3⟩ := push_N (R := R) (pos := pos) (neg := neg) (ring := ring) hN o sv
  obtain ⟨pos', neg', e4⟩ := drop_N (N := N) hC (C - 1 - k) k pos neg (by omega)
  refine ⟨pos', neg', ring', ol', c', ?_, h1, o.1, o.2.1, o.2.2.1, o.2.2.2.1, by omega, pw_pos _⟩
  unfold F_L_removes F_X4_removeClause
  rw [reqC_N N hC hk, e2]
  show ob9 (ob3 (F_X3_dropClause N (nI k) (nI C) pos neg) _) _ = _
  unfold F_X3_dropClause
  rw [e4 _ N (by omega), pred_N (by omega)]; rfl
