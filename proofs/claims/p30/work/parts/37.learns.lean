/-! THE LAW: learning -/
theorem rounds_N {N n B C Ln : Nat} {R : Int32} {pos neg : Nat → Int32} (hN : 2000 ≤ N) (o : Ok n B C Ln) (bits : Nat → Int64) (st : Bool) (hst : st = true ∨ BT (mC pos neg C) B n 0 bits) : ∃ r Ln' b', F_X4_makeRound N (nI n) (nI B) (nI C) pos neg (nI Ln) R bits st = some (r, nI Ln', R + 1, b', false) ∧ BT (mC pos neg C) B n 0 b' ∧ Ok n B C Ln' ∧ ((r = -1 ∧ Ln' = Ln ∧ bs (mC pos neg C) B n Ln = false) ∨ (r = -2 ∧ Ln' = Ln ∧ bs (mC pos neg C) B n Ln = true ∧ ∀ p, p < 2 ^ pc B → mC pos neg C (an (gA B n C Ln pos neg) B p n) = true) ∨ ∃ u, u < 2 ^ pc B ∧ r = nI u ∧ Ln' = Ln ||| 2 ^ u ∧ bt Ln u = 0 ∧ bs (mC pos neg C) B n Ln = true ∧ mC pos neg C (an (gA B n C Ln pos neg) B u n) = false) := by
  have hn := o.1
  have hB := ok_512 o
  have hC := o.2.2.2.2.1
  have hL := ok_L o
  have p9 := pw9 hn
  have p1 := pb8 o.2.2.1
  have eP := pc_n o.1 o.2.1
  obtain ⟨b', e1, t1⟩ := bring_N hN o.1 o.2.1 o.2.2.1 o.2.2.2.2.1 bits st hst
  have e4 := has0 (N := N) o t1 hL
  unfold F_X4_makeRound
  rw [e1]
  show ∃ r Ln' b'', ob1 (F_X0_has N 0 0 (nI Ln) b') (fun r_4 => if r_4 = true then ob1 (F_X3_plays N (nI B)) (fun r_7 => L_X4_makeRound_55 N (nI n) (nI B) (nI C) R pos neg b' false r_7 (fun t => some (-2, t, R + 1, b', false)) N 0 (nI Ln)) else some (-1, nI Ln, R + 1, b', false)) = some (r, nI Ln', R + 1, b'', false) ∧ _
  rw [e4, plays3_N N hB o.2.2.1]
  cases eg : bs (mC pos neg C) B n Ln
  · exact ⟨-1, Ln, b', rfl, t1, o, .inl ⟨rfl, rfl, rfl⟩⟩
  · have step : ∀ (kont3 : Int32 → Option (Int32 × Int32 × Int32 × (Nat → Int64) × Bool)) (d p q : Nat), p + d = 2 ^ pc B → d < q → (∀ p', p' < p → mC pos neg C (an (gA B n C Ln pos neg) B p' n) = true) → (L_X4_makeRound_55 N (nI n) (nI B) (nI C) R pos neg b' false (nI (2 ^ pc B)) kont3 q (nI p) (nI Ln) = kont3 (nI Ln) ∧ ∀ p', p' < 2 ^ pc B → mC pos neg C (an (gA B n C Ln pos neg) B p' n) = true) ∨ ∃ u, u < 2 ^ pc B ∧ bt Ln u = 0 ∧ mC pos neg C (an (gA B n C Ln pos neg) B u n) = false ∧ L_X4_makeRound_55 N (nI n) (nI B) (nI C) R pos neg b' false (nI (2 ^ pc B)) kont3 q (nI p) (nI Ln) = some (nI u, nI (Ln ||| 2 ^ u), R + 1, b', false) := by
      intro kont3 d
      induction d with
      | zero =>
        intro p q hd hq hp
        obtain ⟨q, rfl⟩ : ∃ q', q = q' + 1 := ⟨q - 1, by omega⟩
        left
        refine ⟨?_, fun p' h' => hp p' (by omega)⟩
        rw [L_X4_makeRound_55, if_nle (by omega) (by omega), if_pos (by omega)]
      | succ d ih =>
        intro p q hd hq hp
        obtain ⟨q, rfl⟩ : ∃ q', q = q' + 1 := ⟨q - 1, by omega⟩
        have k3 : L_X4_makeRound_55 N (nI n) (nI B) (nI C) R pos neg b' false (nI (2 ^ pc B)) kont3 (q + 1) (nI p) (nI Ln) = if mC pos neg C (an (gA B n C Ln pos neg) B p n) = true then L_X4_makeRound_55 N (nI n) (nI B) (nI C) R pos neg b' false (nI (2 ^ pc B)) kont3 q (nI (p + 1)) (nI Ln) else some (nI p, nI (Ln ||| 2 ^ p), R + 1, b', false) := by
          rw [L_X4_makeRound_55, if_nle (by omega) (by omega), if_neg (by omega), values_N hN hB hn hL (by omega) t1, shl1 p (by omega), nI_or, nI_1]
          show ob1 (F_X3_holds N (nI (an (gA B n C Ln pos neg) B p n)) (nI C) pos neg) _ = _
          rw [holds_N hN hC]; rfl
        rw [k3]
        cases ef : mC pos neg C (an (gA B n C Ln pos neg) B p n)
        · right
          exact ⟨p, by omega, an_new eg (by rw [← eP]; omega) ef, ef, rfl⟩
        · refine ih (p + 1) q (by omega) (by omega) (fun p' h' => ?_)
          rcases Nat.lt_or_ge p' p with z | z
          · exact hp p' z
          · rw [show p' = p by omega]; exact ef
    rcases step (fun t => some (-2, t, R + 1, b', false)) (2 ^ pc B) 0 N (by omega) (by omega) (fun p' h' => absurd h' (Nat.not_lt_zero _)) with ⟨h3, hw⟩ | ⟨u, hu, hb, hf, h3⟩
    · exact ⟨-2, Ln, b', h3, t1, o, .inr (.inl ⟨rfl, rfl, rfl, hw⟩)⟩
    · exact ⟨nI u, Ln ||| 2 ^ u, b', h3, t1, ok_learn o hu, .inr (.inr ⟨u, hu, rfl, rfl, hb, rfl, hf⟩)⟩
/-- learning has come to its end -/
def Fin (pos neg : Nat → Int32) (B n C L : Nat) : Prop := bs (mC pos neg C) B n L = false ∨ (bs (mC pos neg C) B n L = true ∧ ∀ p, p < 2 ^ pc B → mC pos neg C (an (gA B n C L pos neg) B p n) = true)
theorem learnAll_loop {N n B C : Nat} {pos neg : Nat → Int32} (hN : 2000 ≤ N) (kont3 : Int32 → Int32 → Int32 → (Nat → Int64) → Bool → Option (Int32 × Int32 × Int32 × (Nat → StT) × Int32 × Int32 × (Nat → Int64) × Bool)) : ∀ (d k q Ln : Nat) (R : Int32) (bits : Nat → Int64) (st : Bool), Ok n B C Ln → (st = true ∨ BT (mC pos neg C) B n 0 bits) → pc Ln + d = 2 ^ pc B → k + d ≤ 2 ^ pc B → d < q → ∃ k' Ln' R' b', L_X4_learnAll_21 N (nI n) (nI B) (nI C) pos neg (nI (2 ^ pc B)) kont3 q (nI k) (nI Ln) R bits st = kont3 (nI k') (nI Ln') R' b' false ∧ k' ≤ 2 ^ pc B ∧ Ok n B C Ln' ∧ BT (mC pos neg C) B n 0 b' ∧ Fin pos neg B n C Ln' := by
  intro d
  induction d with
  | zero =>
    intro k q Ln R bits st o hst hd hk hq
    obtain ⟨q, rfl⟩ : ∃ q', q = q' + 1 := ⟨q - 1, by omega⟩
    have p1 := pb8 o.2.2.1
    obtain ⟨r, Ln', b', e3, t1, o', h⟩ := rounds_N (R := R) hN o bits st hst
    rw [L_X4_learnAll_21, if_nlt (by omega) (by omega), if_neg (by omega)]
    rcases h with ⟨rfl, rfl, h⟩ | ⟨rfl, rfl, h, h2⟩ | ⟨u, hu, rfl, rfl, hb, h, h2⟩
    · exact ⟨k, Ln', R + 1, b', ob5_e e3 (if_pos (by decide)), by omega, o', t1, .inl h⟩
    · exact ⟨k, Ln', R + 1, b', ob5_e e3 (if_pos (by decide)), by omega, o', t1, .inr ⟨h, h2⟩⟩
    · have := pc_P o'
      have := pc_learn hb (by omega)
      omega
  | succ d ih =>
    intro k q Ln R bits st o hst hd hk hq
    obtain ⟨q, rfl⟩ : ∃ q', q = q' + 1 := ⟨q - 1, by omega⟩
    have p1 := pb8 o.2.2.1
    obtain ⟨r, Ln', b', e3, t1, o', h⟩ := rounds_N (R := R) hN o bits st hst
    rw [L_X4_learnAll_21, if_nlt (by omega) (by omega), if_neg (by omega)]
    rcases h with ⟨rfl, rfl, h⟩ | ⟨rfl, rfl, h, h2⟩ | ⟨u, hu, rfl, rfl, hb, h, h2⟩
    · exact ⟨k, Ln', R + 1, b', ob5_e e3 (if_pos (by decide)), by omega, o', t1, .inl h⟩
    · exact ⟨k, Ln', R + 1, b', ob5_e e3 (if_pos (by decide)), by omega, o', t1, .inr ⟨h, h2⟩⟩
    · have hl := pc_learn hb (by omega)
      obtain ⟨k2, L2, R2, b2, a, b, c⟩ := ih (k + 1) q (Ln ||| 2 ^ u) (R + 1) b' false o' (.inr t1) (by omega) (by omega) (by omega)
      refine ⟨k2, L2, R2, b2, ob5_e e3 ((if_neg (nI_pos (by omega))).trans ?_), b, c⟩
      rw [nI_1]; exact a
theorem learnAll_N {N n B C ol c : Nat} {R : Int32} {pos neg : Nat → Int32} {ring : Nat → StT} (hN : 2000 ≤ N) (o : Ok n B C 0) (sv : SVK ol c) (bits : Nat → Int64) (st : Bool) (hst : st = true ∨ BT (mC pos neg C) B n 0 bits) : ∃ k' Ln' R' ring' ol' c' b', F_X4_learnAll N (nI n) (nI B) (nI C) pos neg (nI 0) R ring (nI ol) (nI c) bits st = some (nI k', nI Ln', R', ring', nI ol', nI c', b', false) ∧ k' ≤ 8 ∧ SVK ol' c' ∧ Ok n B C Ln' ∧ BT (mC pos neg C) B n 0 b' ∧ Fin pos neg B n C Ln' := by
  obtain ⟨ring', ol', c', P, Q, e2, h1, h2, h3⟩ := push_N (R := R) (pos := pos) (neg := neg) (ring := ring) hN o sv
  have p1 := pb8 o.2.2.1
  obtain ⟨k', Ln', R', b', a1, a2, a3, a4, a5⟩ := learnAll_loop hN (fun u2_12 t_state_learned_13 t_state_rounds_14 t_beaten_bits_15 t_beaten_stale_16 => some (u2_12, t_state_learned_13, t_state_rounds_14, ring', nI ol', nI c', t_beaten_bits_15, t_beaten_stale_16)) (2 ^ pc B) 0 N 0 R bits st o hst (by rw [pc_0, Nat.zero_add]) (by omega) (by omega)
  refine ⟨k', Ln', R', ring', ol', c', b', ?_, by omega, h1, a3, a4, a5⟩
  unfold F_X4_learnAll
  refine ob3_e e2 ?_
  refine ob1_e (plays3_N N (ok_512 o) o.2.2.1) ?_
  exact a1
theorem round_N {N n B C Ln ol c : Nat} {R : Int32} {pos neg : Nat → Int32} {ring : Nat → StT} (hN : 2000 ≤ N) (o : Ok n B C Ln) (hf : Fin pos neg B n C Ln) (sv : SVK ol c) (bits : Nat → Int64) (st : Bool) (hst : st = true ∨ BT (mC pos neg C) B n 0 bits) : ∃ ring' ol' c' b', F_X4_round N (nI n) (nI B) (nI C) pos neg (nI Ln) R ring (nI ol) (nI c) bits st = some (if bs (mC pos neg C) B n Ln = true then -2 else -1, nI Ln, R + 1, ring', nI ol', nI c', b', false) ∧ SVK ol' c' ∧ BT (mC pos neg C) B n 0 b' := by
  obtain ⟨ring', ol', c', P, Q, e2, h1, h2, h3⟩ := push_N (R := R) (pos := pos) (neg := neg) (ring := ring) hN o sv
  obtain ⟨r, Ln', b', e3, t1, o', h⟩ := rounds_N (R := R) hN o bits st hst
  refine ⟨ring', ol', c', b', ?_, h1, t1⟩
  unfold F_X4_round
  refine ob3_e e2 ?_
  refine ob5_e e3 ?_
  rcases h with ⟨rfl, rfl, h⟩ | ⟨rfl, rfl, h, -⟩ | ⟨u, hu, rfl, rfl, hb, h, h2⟩
  · rw [h]; rfl
  · rw [h]; rfl
  · exfalso
    rcases hf with hf | ⟨-, hf⟩
    · rw [h] at hf; cases hf
    · rw [hf u hu] at h2; cases h2
/-- the winner of the game, when learning has come to its end -/
theorem fin_who {n B C L : Nat} {pos neg : Nat → Int32} (o : Ok n B C L) (hf : Fin pos neg B n C L) : bs (mC pos neg C) B n L = gv (mC pos neg C) B n 0 0 := by
  have eP := pc_n o.1 o.2.1
  rcases hf with hf | ⟨h1, hf⟩
  · rw [hf]
    cases eg : gv (mC pos neg C) B n 0 0
    · rfl
    · have := bs_all o.2.2.2.2.2 ((bs_full o.2.1 o.1).trans eg)
      rw [hf] at this; cases this
  · rw [h1]
    exact (an_win (fun p hp => hf p (by rw [eP]; exact hp))).symm
theorem learns_ok {N n B C ol c : Nat} {R : Int32} {pos neg : Nat → Int32} {ring : Nat → StT} (hN : 2000 ≤ N) (o : Ok n B C 0) (sv : SVK ol c) (bits : Nat → Int64) (st : Bool) (hst : st = true ∨ BT (mC pos neg C) B n 0 bits) : ∃ Ln' R' ring' ol' c' b', F_L_learns N (nI n) (nI B) (nI C) pos neg (nI 0) R ring (nI ol) (nI c) bits st = some (nI Ln', R', ring', nI ol', nI c', b', false) ∧ Ok n B C Ln' ∧ SVK ol' c' ∧ BT (mC pos neg C) B n 0 b' := by
  obtain ⟨b1, e1, t1⟩ := winner_N hN o bits st hst
  obtain ⟨k, L, R2, ring2, ol2, c2, b2, e2, hk, sv2, o2, t2, hf⟩ := learnAll_N (R := R) (ring := ring) hN o sv b1 false (.inr t1)
  obtain ⟨ring3, ol3, c3, b3, e3, sv3, t3⟩ := round_N (R := R2) (ring := ring2) hN o2 hf sv2 b2 false (.inr t2)
  obtain ⟨r4, b4, e4, t4, l4⟩ := least_N hN o2 b3 false (.inr t3)
  have hw := fin_who o2 hf
  have hL := ok_L o2
  have h35 : ∀ kont, J_L_learns_35 N (if gv (mC pos neg C) B n 0 0 = true then 0 else 1) kont = kont (if bs (mC pos neg C) B n L = true then -2 else -1) := by
    intro kont
    unfold J_L_learns_35
    rw [hw]
    cases gv (mC pos neg C) B n 0 0 <;> rfl
  have h57 : ∃ b5, BT (mC pos neg C) B n 0 b5 ∧ ∀ kont, J_L_learns_57 N (nI n) (nI B) (nI C) pos neg (if gv (mC pos neg C) B n 0 0 = true then 0 else 1) (nI L) (R2 + 1) b3 false kont = kont b5 false := by
    unfold J_L_learns_57
    cases eg : gv (mC pos neg C) B n 0 0
    · refine ⟨b4, t4, fun kont => ?_⟩
      rw [if_neg (by decide)]
      refine ob1_e (val3 N (by omega) _ _ _ _) ?_
      refine ob3_e e4 ?_
      refine ite_n ?_ rfl
      rw [eg] at hw
      rcases l4 with ⟨-, l4⟩ | ⟨u, hu1, hu, rfl, -, l4⟩
      · rw [l4 L o2.2.2.2.2.2] at hw; cases hw
      · have h9 : pc u ≤ 9 := cnt_le u 9
        have h8 : pc L ≤ 9 := cnt_le L 9
        have := l4 L o2.2.2.2.2.2 hw
        exact fun z => by have := (nI_ltI (by omega) (by omega)).mp z; omega
    · exact ⟨b3, t3, fun kont => if_pos rfl⟩
  obtain ⟨b5, t5, h57⟩ := h57
  refine ⟨L, R2 + 1, ring3, ol3, c3, b5, ?_, o2, sv3, t5⟩
  unfold F_L_learns
  refine ob3_e e1 ?_
  refine ob8_e e2 ?_
  refine ob1_e (val4 N _ _ _ _ _) ?_
  refine ob8_e e3 ?_
  refine ite_n (nI_pos (by omega)) ?_
  refine ite_n (fun z => by have := (nI_ltI (a := 8) (by decide) (by omega)).mp z; omega) ?_
  refine (h35 _).trans ?_
  refine ite_p rfl ?_
  refine ob1_e (val4 N _ _ _ _ _) ?_
  refine ite_p rfl ?_
  exact h57 _
