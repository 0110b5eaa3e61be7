/-! THE PURE SIDE: rounds -/
theorem bt_low {h v x i : Nat} (hh : h < 2 ^ v) (hi : i < v) : bt (h + x * 2 ^ v) i = bt h i := by
  refine bt_tb ?_
  rw [show h + x * 2 ^ v = 2 ^ v * x + h by rw [Nat.mul_comm, Nat.add_comm], Nat.testBit_two_pow_mul_add x hh, if_pos hi]
theorem bt_at {h v x : Nat} (hh : h < 2 ^ v) (hx : x < 2) : bt (h + x * 2 ^ v) v = x := by
  unfold bt
  rw [Nat.add_mul_div_right _ _ (pw_pos v), Nat.div_eq_of_lt hh, Nat.zero_add, Nat.mod_eq_of_lt hx]
theorem pl_congr {B x y : Nat} : ∀ v, (∀ i, i < v → bt x i = bt y i) → pl B x v = pl B y v := by
  intro v
  induction v with
  | zero => intro _; rfl
  | succ v ih =>
    intro h
    show pl B x v + (bt B v * bt x v) * 2 ^ cnt B v = pl B y v + (bt B v * bt y v) * 2 ^ cnt B v
    rw [ih (fun i q => h i (by omega)), h v (by omega)]
theorem an_pl (g : Nat → Nat → Bool) (B p : Nat) : ∀ v, pl B (an g B p v) v = p % 2 ^ cnt B v := by
  intro v
  induction v with
  | zero => show 0 = p % 1; rw [Nat.mod_one]
  | succ v ih =>
    have hl := an_lt g B p v
    rw [show an g B p (v + 1) = an g B p v + (if bt B v = 1 then bt p (cnt B v) else if g (v + 1) (an g B p v) = true then 0 else 1) * 2 ^ v from rfl]
    generalize hx : (if bt B v = 1 then bt p (cnt B v) else if g (v + 1) (an g B p v) = true then 0 else 1) = x
    have hx2 : x < 2 := by
      rw [← hx]
      split
      · exact bt_lt _ _
      · split <;> decide
    show pl B (an g B p v + x * 2 ^ v) v + (bt B v * bt (an g B p v + x * 2 ^ v) v) * 2 ^ cnt B v = p % 2 ^ (cnt B v + bt B v)
    rw [pl_congr v (fun i hi => bt_low (x := x) hl hi), bt_at hl hx2, ih]
    rcases bt_01 B v with e | e
    · rw [e, Nat.zero_mul, Nat.zero_mul, Nat.add_zero, Nat.add_zero]
    · rw [e, if_pos rfl] at hx
      rw [e, Nat.mod_pow_succ, ← hx, Nat.one_mul, Nat.mul_comm]; rfl
theorem an_gv {leaf : Nat → Bool} {B n p : Nat} (h0 : gv leaf B n 0 0 = true) : ∀ v, v ≤ n → gv leaf B (n - v) v (an (fun v h => gv leaf B (n - v) v h) B p v) = true := by
  intro v
  induction v with
  | zero => intro _; exact h0
  | succ v ih =>
    intro hv
    have h1 := ih (by omega)
    rw [gv_step leaf B (show v < n by omega)] at h1
    rw [show an (fun v h => gv leaf B (n - v) v h) B p (v + 1) = an (fun v h => gv leaf B (n - v) v h) B p v + (if bt B v = 1 then bt p (cnt B v) else if gv leaf B (n - (v + 1)) (v + 1) (an (fun v h => gv leaf B (n - v) v h) B p v) = true then 0 else 1) * 2 ^ v from rfl]
    generalize an (fun v h => gv leaf B (n - v) v h) B p v = h at h1 ⊢
    by_cases e : bt B v = 1
    · rw [if_pos e] at h1 ⊢
      rw [Bool.and_eq_true] at h1
      rcases bt_01 p (cnt B v) with e2 | e2
      · rw [e2, Nat.zero_mul, Nat.add_zero]; exact h1.1
      · rw [e2, Nat.one_mul]; exact h1.2
    · rw [if_neg e] at h1 ⊢
      cases e2 : gv leaf B (n - (v + 1)) (v + 1) h
      · rw [e2, Bool.false_or] at h1
        rw [if_neg (by decide), Nat.one_mul]; exact h1
      · rw [if_pos rfl, Nat.zero_mul, Nat.add_zero]; exact e2
theorem an_new {B n p S : Nat} {mf : Nat → Bool} (h0 : gv (lfS B n mf S) B n 0 0 = true) (hp : p < 2 ^ cnt B n) (hf : mf (an (fun v h => gv (lfS B n mf S) B (n - v) v h) B p n) = false) : bt S p = 0 := by
  have h1 := an_gv (p := p) h0 n (Nat.le_refl _)
  rw [Nat.sub_self] at h1
  have h2 : lfS B n mf S (an (fun v h => gv (lfS B n mf S) B (n - v) v h) B p n) = true := h1
  unfold lfS at h2
  have hf' : mf (an (fun v h => gv (fun h => decide (bt S (pl B h n) = 0) || mf h) B (n - v) v h) B p n) = false := hf
  rw [hf', Bool.or_false, an_pl, Nat.mod_eq_of_lt hp] at h2
  exact of_decide_eq_true h2
theorem bt_or (L p i : Nat) : bt (L ||| 2 ^ p) i = if i = p then 1 else bt L i := by
  have h := tbit (L ||| 2 ^ p) i
  rw [Nat.testBit_or, Nat.testBit_two_pow, tbit] at h
  by_cases e : i = p
  · rw [decide_eq_true (p := p = i) e.symm, Bool.or_true] at h
    rw [if_pos e]
    exact of_decide_eq_true h.symm
  · rw [decide_eq_false (p := p = i) (fun q => e q.symm), Bool.or_false] at h
    rw [if_neg e]
    rcases bt_01 (L ||| 2 ^ p) i with a | a <;> rcases bt_01 L i with b | b <;> rw [a, b] at h ⊢ <;> simp at h
theorem cnt_or {L p : Nat} (h : bt L p = 0) : ∀ v, cnt (L ||| 2 ^ p) v = cnt L v + if p < v then 1 else 0 := by
  intro v
  induction v with
  | zero => rfl
  | succ v ih =>
    show cnt (L ||| 2 ^ p) v + bt (L ||| 2 ^ p) v = cnt L v + bt L v + _
    rw [ih, bt_or]
    by_cases e : v = p
    · subst e
      rw [if_neg (Nat.lt_irrefl v), if_pos rfl, h, if_pos (Nat.lt_succ_self v)]
    · rw [if_neg e]
      by_cases e2 : p < v
      · rw [if_pos e2, if_pos (by omega)]; omega
      · rw [if_neg e2, if_neg (by omega)]; omega
theorem ms_4 {n B C Ln : Nat} {R : Int32} {pos neg s : Nat → Int32} (m : Ms n B C Ln R pos neg s) (x : Int32) : Ms n B C Ln x pos neg (upd s 4 x) := by
  obtain ⟨a, b, c, d, e, f, g⟩ := m
  refine ⟨(pk_un (by decide)).trans a, (pk_un (by decide)).trans b, (pk_un (by decide)).trans c, (pk_un (by decide)).trans d, pk_us, fun k hk => (pk_un (by omega)).trans (f k hk), fun k hk => (pk_un (by omega)).trans (g k hk)⟩
theorem ms_3 {n B C Ln : Nat} {R : Int32} {pos neg s : Nat → Int32} (m : Ms n B C Ln R pos neg s) (x : Nat) : Ms n B C x R pos neg (upd s 3 (nI x)) := by
  obtain ⟨a, b, c, d, e, f, g⟩ := m
  refine ⟨(pk_un (by decide)).trans a, (pk_un (by decide)).trans b, (pk_un (by decide)).trans c, pk_us, (pk_un (by decide)).trans e, fun k hk => (pk_un (by omega)).trans (f k hk), fun k hk => (pk_un (by omega)).trans (g k hk)⟩
theorem ok_learn {n B C Ln p : Nat} (o : Ok n B C Ln) (hp : p < 2 ^ pc B) : Ok n B C (Ln ||| 2 ^ p) :=
  ⟨o.1, o.2.1, o.2.2.1, o.2.2.2.1, o.2.2.2.2.1, Nat.or_lt_two_pow o.2.2.2.2.2 (Nat.pow_lt_pow_right (by decide) hp)⟩
theorem pc_learn {Ln p : Nat} (h : bt Ln p = 0) (hp : p < 8) : pc (Ln ||| 2 ^ p) = pc Ln + 1 := by
  unfold pc
  rw [cnt_or h, if_pos (by omega)]
theorem pc_P {n B C Ln : Nat} (o : Ok n B C Ln) : pc Ln ≤ 2 ^ pc B := by
  have p1 := pb8 o.2.2.1
  have h : pc Ln = cnt Ln (2 ^ pc B) := cnt_high o.2.2.2.2.2 (show 2 ^ pc B ≤ 9 by omega)
  rw [h]
  exact cnt_le _ _
theorem rounds_N {N n B C Ln : Nat} {R : Int32} {pos neg s : Nat → Int32} (hN : 2000 ≤ N) (o : Ok n B C Ln) (m : Ms n B C Ln R pos neg s) (bits : Nat → Int64) (st : Bool) (hst : st = true ∨ BT (mC pos neg C) B n 0 bits) (w : Nat → Bool) (fi : Nat → Int32) : ∃ r Ln' b' s' w' f', F_X4_makeRound N (nI n) (nI B) (nI C) pos neg (nI Ln) R bits st = some (r, nI Ln', R + 1, b', false) ∧ BT (mC pos neg C) B n 0 b' ∧ F_X5_rounds N s w fi = some (r, s', w', f') ∧ Ok n B C Ln' ∧ Ms n B C Ln' (R + 1) pos neg s' ∧ (r < 0 ∨ ¬ r < 0 ∧ pc Ln' = pc Ln + 1) := by
  have hn := o.1
  have hB := ok_512 o
  have hC := o.2.2.2.2.1
  have hL := ok_L o
  have p9 := pw9 hn
  have p1 := pb8 o.2.2.1
  have eP := pc_n o.1 o.2.1
  have m1 := ms_4 m (s 4 + 1)
  rw [m.2.2.2.2.1] at m1
  obtain ⟨b', e1, t1⟩ := bring_N hN o.1 o.2.1 o.2.2.1 o.2.2.2.2.1 bits st hst
  unfold F_X4_makeRound F_X5_rounds
  rw [m.2.2.2.2.1]
  generalize upd s 4 (R + 1) = s1 at m1 ⊢
  obtain ⟨f', e2, t2⟩ := finds_N hN m1.1 m1.2.1 o.2.1 o.2.2.1 o.1 fi
  obtain ⟨w', e3, t3⟩ := against_N hN m1.1 m1.2.1 m1.2.2.1 o.2.1 o.2.2.1 o.2.2.2.2.1 o.1 hL t2 w
  rw [ms_mF' m1] at e3 t3
  have e4 : F_X0_has N 0 0 (nI Ln) b' = some (gv (lfS B n (mC pos neg C) Ln) B n 0 0) := by
    have := has_B (N := N) t1 o.1 (Nat.zero_le _) (show 0 < 2 ^ 0 by decide) hL
    rw [Nat.sub_zero] at this
    exact this
  rw [e1, e2, m1.2.2.2.1]
  show ∃ r Ln' b'' s' w'' f'', ob1 (F_X0_has N 0 0 (nI Ln) b') (fun r_4 => if r_4 = true then ob1 (F_X3_plays N (nI B)) (fun r_7 => L_X4_makeRound_55 N (nI n) (nI B) (nI C) R pos neg b' false r_7 (fun t => some (-2, t, R + 1, b', false)) N 0 (nI Ln)) else some (-1, nI Ln, R + 1, b', false)) = some (r, nI Ln', R + 1, b'', false) ∧ BT (mC pos neg C) B n 0 b'' ∧ ob2 (F_X5_against N (nI Ln) s1 w f') (fun r_3 w_4 => if r_3 = true then L_X5_rounds_31 N f' w_4 (fun t => some (-2, t, w_4, f')) N 0 s1 else some (-1, s1, w_4, f')) = some (r, s', w'', f'') ∧ Ok n B C Ln' ∧ Ms n B C Ln' (R + 1) pos neg s' ∧ (r < 0 ∨ ¬ r < 0 ∧ pc Ln' = pc Ln + 1)
  rw [e4, e3, plays3_N N hB o.2.2.1]
  cases eg : gv (lfS B n (mC pos neg C) Ln) B n 0 0
  · exact ⟨-1, Ln, b', s1, w', f', rfl, t1, rfl, o, m1, .inl (by decide)⟩
  · have step : ∀ (kont3 : Int32 → Option (Int32 × Int32 × Int32 × (Nat → Int64) × Bool)) (kont5 : (Nat → Int32) → Option (Int32 × (Nat → Int32) × (Nat → Bool) × (Nat → Int32))) (d p q : Nat), p + d = 2 ^ pc B → d < q → (L_X4_makeRound_55 N (nI n) (nI B) (nI C) R pos neg b' false (nI (2 ^ pc B)) kont3 q (nI p) (nI Ln) = kont3 (nI Ln) ∧ L_X5_rounds_31 N f' w' kont5 q (nI p) s1 = kont5 s1) ∨ ∃ u, u < 2 ^ pc B ∧ bt Ln u = 0 ∧ L_X4_makeRound_55 N (nI n) (nI B) (nI C) R pos neg b' false (nI (2 ^ pc B)) kont3 q (nI p) (nI Ln) = some (nI u, nI (Ln ||| 2 ^ u), R + 1, b', false) ∧ L_X5_rounds_31 N f' w' kont5 q (nI p) s1 = some (nI u, upd s1 3 (nI (Ln ||| 2 ^ u)), w', f') := by
      intro kont3 kont5 d
      induction d with
      | zero =>
        intro p q hd hq
        obtain ⟨q, rfl⟩ : ∃ q', q = q' + 1 := ⟨q - 1, by omega⟩
        left
        constructor
        · rw [L_X4_makeRound_55, if_nle (by omega) (by omega), if_pos (by omega)]
        · rw [L_X5_rounds_31, plays5_N hN m1.2.1 hB o.2.2.1]
          show (if nI (2 ^ pc B) ≤ nI p then _ else _) = _
          rw [if_nle (by omega) (by omega), if_pos (by omega)]
      | succ d ih =>
        intro p q hd hq
        obtain ⟨q, rfl⟩ : ∃ q', q = q' + 1 := ⟨q - 1, by omega⟩
        have hi := ih (p + 1) q (by omega) (by omega)
        have k3 : L_X4_makeRound_55 N (nI n) (nI B) (nI C) R pos neg b' false (nI (2 ^ pc B)) kont3 (q + 1) (nI p) (nI Ln) = if mC pos neg C (an (gA B n C Ln pos neg) B p n) = true then L_X4_makeRound_55 N (nI n) (nI B) (nI C) R pos neg b' false (nI (2 ^ pc B)) kont3 q (nI (p + 1)) (nI Ln) else some (nI p, nI (Ln ||| 2 ^ p), R + 1, b', false) := by
          rw [L_X4_makeRound_55, if_nle (by omega) (by omega), if_neg (by omega), values_N hN hB hn hL (by omega) t1, shl1 p (by omega), nI_or, nI_1]
          show ob1 (F_X3_holds N (nI (an (gA B n C Ln pos neg) B p n)) (nI C) pos neg) _ = _
          rw [holds_N hN hC]; rfl
        have k5 : L_X5_rounds_31 N f' w' kont5 (q + 1) (nI p) s1 = if mC pos neg C (an (gA B n C Ln pos neg) B p n) = true then L_X5_rounds_31 N f' w' kont5 q (nI (p + 1)) s1 else some (nI p, upd s1 3 (nI (Ln ||| 2 ^ p)), w', f') := by
          rw [L_X5_rounds_31, plays5_N hN m1.2.1 hB o.2.2.1]
          show (if nI (2 ^ pc B) ≤ nI p then _ else _) = _
          rw [if_nle (by omega) (by omega), if_neg (by omega), answers_N hN m1.1 m1.2.1 hB hn (by omega) _ t3, m1.2.2.2.1, shl1 p (by omega), nI_or, nI_1]
          show ob1 (F_X5_isMade N (nI (an (gA B n C Ln pos neg) B p n)) s1) _ = _
          rw [made_N hN hC m1.2.2.1]
          show (if mF s1 C (an (gA B n C Ln pos neg) B p n) = true then _ else _) = _
          rw [ms_mF m1]
        rw [k3, k5]
        cases ef : mC pos neg C (an (gA B n C Ln pos neg) B p n)
        · right
          exact ⟨p, by omega, an_new eg (by rw [← eP]; omega) ef, rfl, rfl⟩
        · exact hi
    rcases step (fun t => some (-2, t, R + 1, b', false)) (fun t => some (-2, t, w', f')) (2 ^ pc B) 0 N (by omega) (by omega) with ⟨h3, h5⟩ | ⟨u, hu, hb, h3, h5⟩
    · exact ⟨-2, Ln, b', s1, w', f', h3, t1, h5, o, m1, .inl (by decide)⟩
    · exact ⟨nI u, Ln ||| 2 ^ u, b', upd s1 3 (nI (Ln ||| 2 ^ u)), w', f', h3, t1, h5, ok_learn o hu, ms_3 m1 _, .inr ⟨nI_pos (by omega), pc_learn hb (by omega)⟩⟩
theorem learnAll_loop {N n B C : Nat} {pos neg : Nat → Int32} (hN : 2000 ≤ N) (kont3 : Int32 → Int32 → Int32 → (Nat → Int64) → Bool → Option (Int32 × Int32 × Int32 × (Nat → StT) × Int32 × Int32 × (Nat → Int64) × Bool)) (kont5 : Int32 → (Nat → Int32) → (Nat → Bool) → (Nat → Int32) → Option (Int32 × (Nat → Int32) × (Nat → Int32) × (Nat → Int32) × Int32 × Int32 × (Nat → Bool) × (Nat → Int32))) : ∀ (d k q Ln : Nat) (R : Int32) (s : Nat → Int32) (bits : Nat → Int64) (st : Bool) (w : Nat → Bool) (fi : Nat → Int32), Ok n B C Ln → Ms n B C Ln R pos neg s → (st = true ∨ BT (mC pos neg C) B n 0 bits) → pc Ln + d = 2 ^ pc B → k + d ≤ 2 ^ pc B → d < q → ∃ k' Ln' R' b' s' w' f', L_X4_learnAll_21 N (nI n) (nI B) (nI C) pos neg (nI (2 ^ pc B)) kont3 q (nI k) (nI Ln) R bits st = kont3 k' (nI Ln') R' b' false ∧ L_X5_learnAll_6 N kont5 q (nI k) s w fi = kont5 k' s' w' f' ∧ Ok n B C Ln' ∧ Ms n B C Ln' R' pos neg s' ∧ BT (mC pos neg C) B n 0 b' := by
  intro d
  induction d with
  | zero =>
    intro k q Ln R s bits st w fi o m hst hd hk hq
    obtain ⟨q, rfl⟩ : ∃ q', q = q' + 1 := ⟨q - 1, by omega⟩
    have p1 := pb8 o.2.2.1
    obtain ⟨r, Ln', b', s', w', f', e3, t1, e5, o', m', h⟩ := rounds_N hN o m bits st hst w fi
    rw [L_X4_learnAll_21, if_nlt (by omega) (by omega), if_neg (by omega), e3, L_X5_learnAll_6, e5]
    rcases h with h | ⟨-, h⟩
    · exact ⟨nI k, Ln', R + 1, b', s', w', f', if_pos h, if_pos h, o', m', t1⟩
    · have := pc_P o'
      omega
  | succ d ih =>
    intro k q Ln R s bits st w fi o m hst hd hk hq
    obtain ⟨q, rfl⟩ : ∃ q', q = q' + 1 := ⟨q - 1, by omega⟩
    have p1 := pb8 o.2.2.1
    obtain ⟨r, Ln', b', s', w', f', e3, t1, e5, o', m', h⟩ := rounds_N hN o m bits st hst w fi
    rw [L_X4_learnAll_21, if_nlt (by omega) (by omega), if_neg (by omega), e3, L_X5_learnAll_6, e5]
    rcases h with h | ⟨h0, h⟩
    · exact ⟨nI k, Ln', R + 1, b', s', w', f', if_pos h, if_pos h, o', m', t1⟩
    · obtain ⟨k2, L2, R2, b2, s2, w2, f2, a, b, c⟩ := ih (k + 1) q Ln' (R + 1) s' b' false w' f' o' m' (.inr t1) (by omega) (by omega) (by omega)
      rw [nI_1]
      exact ⟨k2, L2, R2, b2, s2, w2, f2, (if_neg h0).trans a, (if_neg h0).trans b, c⟩
