/-! THE PURE SIDE: what is saved -/
def RT (w : StT) (s : Nat → Int32) : Prop := ∃ n B C Ln : Nat, ∃ R : Int32, ∃ pos neg : Nat → Int32, w = (nI n, nI B, nI C, pos, neg, nI Ln, R) ∧ Ok n B C Ln ∧ Ms n B C Ln R pos neg s
def SV (ring : Nat → StT) (o c : Nat) (past : Nat → Int32) : Prop := c ≤ 4 ∧ o < 4 ∧ ∀ j, j < c → RT (ring ((o + j) % 4)) (fun k => past (45 * j + k))
def XR (V Br Cl : Int32) (pos neg : Nat → Int32) (Le R : Int32) (s : Nat → Int32) (st : Bool) (bits : Nat → Int64) : Prop := ∃ n B C Ln : Nat, V = nI n ∧ Br = nI B ∧ Cl = nI C ∧ Le = nI Ln ∧ Ok n B C Ln ∧ Ms n B C Ln R pos neg s ∧ (st = true ∨ BT (mC pos neg C) B n 0 bits)
theorem ms_s {n B C Ln : Nat} {R : Int32} {pos neg s s' : Nat → Int32} (hC : C ≤ 20) (m : Ms n B C Ln R pos neg s) (h : ∀ i, i < 45 → s' i = s i) : Ms n B C Ln R pos neg s' := by
  obtain ⟨a, b, c, d, e, f, g⟩ := m
  exact ⟨(h 0 (by decide)).trans a, (h 1 (by decide)).trans b, (h 2 (by decide)).trans c, (h 3 (by decide)).trans d, (h 4 (by decide)).trans e, fun k hk => (h _ (by omega)).trans (f k hk), fun k hk => (h _ (by omega)).trans (g k hk)⟩
theorem ms_p {n B C Ln : Nat} {R : Int32} {pos neg pos' neg' s : Nat → Int32} (m : Ms n B C Ln R pos neg s) (h : ∀ k, k < C → pos' k = pos k ∧ neg' k = neg k) : Ms n B C Ln R pos' neg' s := by
  obtain ⟨a, b, c, d, e, f, g⟩ := m
  exact ⟨a, b, c, d, e, fun k hk => (f k hk).trans (h k hk).1.symm, fun k hk => (g k hk).trans (h k hk).2.symm⟩
theorem copy_N {N C : Nat} (hN : 2000 ≤ N) (hC : C ≤ 20) (pos neg p q : Nat → Int32) (V B' C' L' R' n B Ln R : Int32) : ∃ p' q', F_X3_copyFrom N V B' C' p q L' R' n B (nI C) pos neg Ln R = some (n, B, nI C, p', q', Ln, R) ∧ ∀ k, k < C → p' k = pos k ∧ q' k = neg k := by
  have step : ∀ (kont : (Nat → Int32) → (Nat → Int32) → Option (Int32 × Int32 × Int32 × (Nat → Int32) × (Nat → Int32) × Int32 × Int32)) (d m k : Nat) (p q : Nat → Int32), k + d = C → d < m → (∀ i, i < k → p i = pos i ∧ q i = neg i) → ∃ p' q', L_X3_copyFrom_26 N (nI C) pos neg kont m (nI k) p q = kont p' q' ∧ ∀ i, i < C → p' i = pos i ∧ q' i = neg i := by
    intro kont d
    induction d with
    | zero =>
      intro m k p q hd hm h
      obtain ⟨m, rfl⟩ : ∃ q, m = q + 1 := ⟨m - 1, by omega⟩
      refine ⟨p, q, ?_, fun i hi => h i (by omega)⟩
      rw [L_X3_copyFrom_26, if_nle (by omega) (by omega), if_pos (by omega)]
    | succ d ih =>
      intro m k p q hd hm h
      obtain ⟨m, rfl⟩ : ∃ q, m = q + 1 := ⟨m - 1, by omega⟩
      obtain ⟨p', q', e, t⟩ := ih m (k + 1) (upd p k (pos k)) (upd q k (neg k)) (by omega) (by omega) (fun i hi => by
        by_cases e : i = k
        · subst e; exact ⟨pk_us, pk_us⟩
        · rw [pk_un e, pk_un e]; exact h i (by omega))
      refine ⟨p', q', ?_, t⟩
      rw [← e, L_X3_copyFrom_26, if_nle (by omega) (by omega), if_neg (by omega), read_N N pos (by omega) (by decide), read_N N neg (by omega) (by decide), nI_1]
      show ob1 (F_X4_write N 20 (nI k) (pos k) p) (fun p2 => ob1 (F_X4_write N 20 (nI k) (neg k) q) (fun q2 => L_X3_copyFrom_26 N (nI C) pos neg kont m (nI (k + 1)) p2 q2)) = _
      rw [write_N N p (pos k) (by omega) (by decide), write_N N q (neg k) (by omega) (by decide)]; rfl
  unfold F_X3_copyFrom
  obtain ⟨p', q', e, t⟩ := step (fun a b => some (n, B, nI C, a, b, Ln, R)) C N 0 p q (by omega) (by omega) (fun i hi => absurd hi (Nat.not_lt_zero _))
  exact ⟨p', q', e, t⟩
theorem slot_N {o a : Nat} (ho : o + a < 2 ^ 31) : slotIx (nI o) (nI a) = some ((o + a) % 4) := by
  unfold slotIx
  rw [nI_add, show (4 : Int32) = nI 4 from rfl, pk_rem ho (by decide) (by decide)]
  rcases (show (o + a) % 4 = 0 ∨ (o + a) % 4 = 1 ∨ (o + a) % 4 = 2 ∨ (o + a) % 4 = 3 by omega) with e | e | e | e <;> rw [e] <;> rfl
theorem begins_N {N : Nat} (hN : 2000 ≤ N) (s begun : Nat → Int32) : ∃ b', F_X5_begins N s begun = some b' ∧ ∀ i, i < 45 → b' i = s i := by
  have step : ∀ (d m k : Nat) (b : Nat → Int32), k + d = 45 → d < m → (∀ i, i < k → b i = s i) → ∃ b', L_X5_begins_2 N s (fun t => some t) m (nI k) b = some b' ∧ ∀ i, i < 45 → b' i = s i := by
    intro d
    induction d with
    | zero =>
      intro m k b hd hm h
      obtain ⟨m, rfl⟩ : ∃ q, m = q + 1 := ⟨m - 1, by omega⟩
      refine ⟨b, ?_, fun i hi => h i (by omega)⟩
      rw [L_X5_begins_2, show (45 : Int32) = nI 45 from rfl, if_nle (by omega) (by omega), if_pos (by omega)]
    | succ d ih =>
      intro m k b hd hm h
      obtain ⟨m, rfl⟩ : ∃ q, m = q + 1 := ⟨m - 1, by omega⟩
      obtain ⟨b', e, t⟩ := ih m (k + 1) (upd b k (s k)) (by omega) (by omega) (fun i hi => by
        by_cases e : i = k
        · subst e; exact pk_us
        · rw [pk_un e]; exact h i (by omega))
      refine ⟨b', ?_, t⟩
      rw [← e, L_X5_begins_2, show (45 : Int32) = nI 45 from rfl, if_nle (by omega) (by omega), if_neg (by omega), inb_f (by omega) (by decide), inb_f (by omega) (by decide), nI_clamp (by omega), nI_1]
  exact step 45 N 0 begun (by omega) (by omega) (fun i hi => absurd hi (Nat.not_lt_zero _))
theorem saved10 {N : Nat} (past : Nat → Int32) : ∀ (d m k : Nat) (p : Nat → Int32), k + d = 135 → d < m → (∀ i, i < k → p i = past (i + 45)) → (∀ i, k ≤ i → p i = past i) → ∃ p', (∀ kont, L_X5_saved_10 N kont m (nI k) p = kont p') ∧ ∀ i, i < 135 → p' i = past (i + 45) := by
  intro d
  induction d with
  | zero =>
    intro m k p hd hm h h'
    obtain ⟨m, rfl⟩ : ∃ q, m = q + 1 := ⟨m - 1, by omega⟩
    refine ⟨p, fun kont => ?_, fun i hi => h i (by omega)⟩
    rw [L_X5_saved_10, show (135 : Int32) = nI 135 from rfl, if_nle (by omega) (by omega), if_pos (by omega)]
  | succ d ih =>
    intro m k p hd hm h h'
    obtain ⟨m, rfl⟩ : ∃ q, m = q + 1 := ⟨m - 1, by omega⟩
    obtain ⟨p', e, t⟩ := ih m (k + 1) (upd p k (p (k + 45))) (by omega) (by omega) (fun i hi => by
      by_cases e : i = k
      · subst e; exact pk_us.trans (h' _ (by omega))
      · rw [pk_un e]; exact h i (by omega)) (fun i hi => by rw [pk_un (by omega)]; exact h' i (by omega))
    refine ⟨p', fun kont => ?_, t⟩
    rw [← e kont, L_X5_saved_10, show (135 : Int32) = nI 135 from rfl, show (45 : Int32) = nI 45 from rfl, if_nle (by omega) (by omega), if_neg (by omega), nI_add, inb_f (by omega) (by decide), inb_f (by omega) (by decide), nI_clamp (by omega), nI_clamp (by omega), nI_1]
theorem saved50 {N c : Nat} (hc : c < 4) (begun past : Nat → Int32) : ∀ (d m k : Nat) (p : Nat → Int32), k + d = 45 → d < m → (∀ i, i < k → p (45 * c + i) = begun i) → (∀ i, i < 45 * c → p i = past i) → ∃ p', (∀ kont th, L_X5_saved_50 N begun kont m (nI k) p (nI c) th = kont p' (nI c) th) ∧ (∀ i, i < 45 → p' (45 * c + i) = begun i) ∧ ∀ i, i < 45 * c → p' i = past i := by
  intro d
  induction d with
  | zero =>
    intro m k p hd hm h h'
    obtain ⟨m, rfl⟩ : ∃ q, m = q + 1 := ⟨m - 1, by omega⟩
    refine ⟨p, fun kont th => ?_, fun i hi => h i (by omega), h'⟩
    rw [L_X5_saved_50, show (45 : Int32) = nI 45 from rfl, if_nle (by omega) (by omega), if_pos (by omega)]
  | succ d ih =>
    intro m k p hd hm h h'
    obtain ⟨m, rfl⟩ : ∃ q, m = q + 1 := ⟨m - 1, by omega⟩
    obtain ⟨p', e, t⟩ := ih m (k + 1) (upd p (45 * c + k) (begun k)) (by omega) (by omega) (fun i hi => by
      by_cases e : i = k
      · subst e; exact pk_us
      · rw [pk_un (by omega)]; exact h i (by omega)) (fun i hi => by rw [pk_un (by omega)]; exact h' i hi)
    refine ⟨p', fun kont th => ?_, t⟩
    rw [← e kont th, L_X5_saved_50, show (45 : Int32) = nI 45 from rfl, if_nle (by omega) (by omega), if_neg (by omega), pk_mul, nI_add, inb_f (by omega) (by decide), inb_f (by omega) (by decide), nI_clamp (by omega), nI_clamp (by omega), nI_1]
theorem updS_s (f : Nat → StT) (k : Nat) (x : StT) : updS f k x k = x := by unfold updS; rw [Nat.beq_refl]
theorem updS_n (f : Nat → StT) {k j : Nat} (x : StT) (h : j ≠ k) : updS f k x j = f j := by
  unfold updS
  rw [show Nat.beq j k = false from by rw [← Bool.not_eq_true, Nat.beq_eq]; exact h]
theorem save_c {N n B C Ln ol c : Nat} {R : Int32} {pos neg s past begun : Nat → Int32} {ring : Nat → StT} (hN : 2000 ≤ N) (o : Ok n B C Ln) (m : Ms n B C Ln R pos neg s) (sv : SV ring ol c past) (hb : ∀ i, i < 45 → begun i = s i) : ∃ ring' ol' c' past', F_X2_push N ring (nI ol) (nI c) (nI n) (nI B) (nI C) pos neg (nI Ln) R = some (ring', nI ol', nI c') ∧ SV ring' ol' c' past' ∧ ∀ x th, F_X5_saved N x past begun (nI c) th = some (x, past', nI c', 0) := by
  obtain ⟨hc, ho, h⟩ := sv
  have mb := ms_s o.2.2.2.2.1 m hb
  unfold F_X2_push F_X5_saved
  by_cases e : c = 4
  · subst e
    obtain ⟨p1, e1, t1⟩ := saved10 (N := N) past 135 N 0 past (by omega) (by omega) (fun i hi => absurd hi (Nat.not_lt_zero _)) (fun _ _ => rfl)
    obtain ⟨p2, e2, t2, t3⟩ := saved50 (N := N) (c := 3) (by decide) begun p1 45 N 0 p1 (by omega) (by omega) (fun i hi => absurd hi (Nat.not_lt_zero _)) (fun _ _ => rfl)
    obtain ⟨P, Q, e3, t4⟩ := copy_N hN o.2.2.2.2.1 pos neg (ring (((ol + 1) % 4 + 3) % 4)).2.2.2.1 (ring (((ol + 1) % 4 + 3) % 4)).2.2.2.2.1 (ring (((ol + 1) % 4 + 3) % 4)).1 (ring (((ol + 1) % 4 + 3) % 4)).2.1 (ring (((ol + 1) % 4 + 3) % 4)).2.2.1 (ring (((ol + 1) % 4 + 3) % 4)).2.2.2.2.2.1 (ring (((ol + 1) % 4 + 3) % 4)).2.2.2.2.2.2 (nI n) (nI B) (nI Ln) R
    refine ⟨updS ring (((ol + 1) % 4 + 3) % 4) (nI n, nI B, nI C, P, Q, nI Ln, R), (ol + 1) % 4, 4, p2, ?_, ⟨by omega, by omega, fun j hj => ?_⟩, fun x th => ?_⟩
    · rw [if_pos (by rfl), show (4 : Int32) = nI 4 from rfl, nI_1, pk_rem (by omega) (by decide) (by decide), show nI 4 - 1 = nI 3 from by decide, slot_N (by omega)]
      show ob7 (F_X3_copyFrom N (ring (((ol + 1) % 4 + 3) % 4)).1 (ring (((ol + 1) % 4 + 3) % 4)).2.1 (ring (((ol + 1) % 4 + 3) % 4)).2.2.1 (ring (((ol + 1) % 4 + 3) % 4)).2.2.2.1 (ring (((ol + 1) % 4 + 3) % 4)).2.2.2.2.1 (ring (((ol + 1) % 4 + 3) % 4)).2.2.2.2.2.1 (ring (((ol + 1) % 4 + 3) % 4)).2.2.2.2.2.2 (nI n) (nI B) (nI C) pos neg (nI Ln) R) _ = _
      rw [e3, nI_1]; rfl
    · by_cases ej : j = 3
      · subst ej
        rw [updS_s]
        exact ⟨n, B, C, Ln, R, P, Q, rfl, o, ms_s o.2.2.2.2.1 (ms_p mb t4) t2⟩
      · rw [updS_n _ _ (by omega), show ((ol + 1) % 4 + j) % 4 = (ol + (j + 1)) % 4 by omega]
        obtain ⟨n', B', C', L', R', P', Q', a1, a2, a3⟩ := h (j + 1) (by omega)
        refine ⟨n', B', C', L', R', P', Q', a1, a2, ms_s a2.2.2.2.2.1 a3 (fun i hi => ?_)⟩
        show p2 (45 * j + i) = past (45 * (j + 1) + i)
        rw [t3 _ (by omega), t1 _ (by omega), show 45 * j + i + 45 = 45 * (j + 1) + i by omega]
    · rw [if_pos (by rfl), show nI 4 - 1 = nI 3 from by decide]
      refine (e1 _).trans ?_
      refine (e2 _ th).trans ?_
      rw [nI_1]; rfl
  · obtain ⟨p2, e2, t2, t3⟩ := saved50 (N := N) (c := c) (by omega) begun past 45 N 0 past (by omega) (by omega) (fun i hi => absurd hi (Nat.not_lt_zero _)) (fun _ _ => rfl)
    obtain ⟨P, Q, e3, t4⟩ := copy_N hN o.2.2.2.2.1 pos neg (ring ((ol + c) % 4)).2.2.2.1 (ring ((ol + c) % 4)).2.2.2.2.1 (ring ((ol + c) % 4)).1 (ring ((ol + c) % 4)).2.1 (ring ((ol + c) % 4)).2.2.1 (ring ((ol + c) % 4)).2.2.2.2.2.1 (ring ((ol + c) % 4)).2.2.2.2.2.2 (nI n) (nI B) (nI Ln) R
    refine ⟨updS ring ((ol + c) % 4) (nI n, nI B, nI C, P, Q, nI Ln, R), ol, c + 1, p2, ?_, ⟨by omega, ho, fun j hj => ?_⟩, fun x th => ?_⟩
    · rw [show (4 : Int32) = nI 4 from rfl, if_neg (fun q => e (nI_inj (by omega) (by decide) q)), slot_N (by omega)]
      show ob7 (F_X3_copyFrom N (ring ((ol + c) % 4)).1 (ring ((ol + c) % 4)).2.1 (ring ((ol + c) % 4)).2.2.1 (ring ((ol + c) % 4)).2.2.2.1 (ring ((ol + c) % 4)).2.2.2.2.1 (ring ((ol + c) % 4)).2.2.2.2.2.1 (ring ((ol + c) % 4)).2.2.2.2.2.2 (nI n) (nI B) (nI C) pos neg (nI Ln) R) _ = _
      rw [e3, nI_1]; rfl
    · by_cases ej : j = c
      · subst ej
        rw [updS_s]
        exact ⟨n, B, C, Ln, R, P, Q, rfl, o, ms_s o.2.2.2.2.1 (ms_p mb t4) t2⟩
      · rw [updS_n _ _ (by omega)]
        obtain ⟨n', B', C', L', R', P', Q', a1, a2, a3⟩ := h j (by omega)
        exact ⟨n', B', C', L', R', P', Q', a1, a2, ms_s a2.2.2.2.2.1 a3 (fun i hi => t3 _ (by omega))⟩
    · rw [show (4 : Int32) = nI 4 from rfl, if_neg (fun q => e (nI_inj (by omega) (by decide) q))]
      refine (e2 _ th).trans ?_
      rw [nI_1]; rfl
theorem undo_c {N n B C Ln ol c : Nat} {R : Int32} {pos neg s past : Nat → Int32} {ring : Nat → StT} (hN : 2000 ≤ N) (o : Ok n B C Ln) (m : Ms n B C Ln R pos neg s) (sv : SV ring ol c past) (bits : Nat → Int64) (st : Bool) (hst : st = true ∨ BT (mC pos neg C) B n 0 bits) (th : Int32) (out : Nat → Int64) : ∃ code V' B' C' pos' neg' L' R' c' st' out' r s', F_L_undo N 1 (nI n) (nI B) (nI C) pos neg (nI Ln) R ring (nI ol) (nI c) st out = some (code, V', B', C', pos', neg', L', R', nI c', st', out') ∧ F_X5_undo N s past (nI c) th = some (r, s', nI c', code) ∧ (code = 0 → out' 0 = r.toInt64) ∧ XR V' B' C' pos' neg' L' R' s' st' bits ∧ SV ring ol c' past := by
  obtain ⟨hc, ho, h⟩ := sv
  rcases Nat.eq_zero_or_pos c with rfl | e
  · exact ⟨1, nI n, nI B, nI C, pos, neg, nI Ln, R, 0, st, out, 0, s, rfl, rfl, fun q => absurd q (by decide), ⟨n, B, C, Ln, rfl, rfl, rfl, rfl, o, m, hst⟩, hc, ho, h⟩
  · obtain ⟨n', B', C', L', R', P', Q', a1, a2, a3⟩ := h (c - 1) (by omega)
    obtain ⟨P, Q, e3, t4⟩ := copy_N hN a2.2.2.2.2.1 P' Q' pos neg (nI n) (nI B) (nI C) (nI Ln) R (nI n') (nI B') (nI L') R'
    have step : ∀ (d q k : Nat) (b : Nat → Int32), k + d = 45 → d < q → (∀ i, i < k → b i = past (45 * (c - 1) + i)) → ∃ b', (∀ kont, L_X5_undo_25 N (nI c) past kont q (nI k) b = kont b') ∧ ∀ i, i < 45 → b' i = past (45 * (c - 1) + i) := by
      intro d
      induction d with
      | zero =>
        intro q k b hd hq h
        obtain ⟨q, rfl⟩ : ∃ q', q = q' + 1 := ⟨q - 1, by omega⟩
        refine ⟨b, fun kont => ?_, fun i hi => h i (by omega)⟩
        rw [L_X5_undo_25, show (45 : Int32) = nI 45 from rfl, if_nle (by omega) (by omega), if_pos (by omega)]
      | succ d ih =>
        intro q k b hd hq h
        obtain ⟨q, rfl⟩ : ∃ q', q = q' + 1 := ⟨q - 1, by omega⟩
        obtain ⟨b', e, t⟩ := ih q (k + 1) (upd b k (past (45 * (c - 1) + k))) (by omega) (by omega) (fun i hi => by
          by_cases e : i = k
          · subst e; exact pk_us
          · rw [pk_un e]; exact h i (by omega))
        refine ⟨b', fun kont => ?_, t⟩
        rw [← e kont, L_X5_undo_25, show (45 : Int32) = nI 45 from rfl, if_nle (by omega) (by omega), if_neg (by omega), pred_N (by omega), pk_mul, nI_add, inb_f (by omega) (by decide), inb_f (by omega) (by decide), nI_clamp (by omega), nI_clamp (by omega), nI_1]
    obtain ⟨s', e5, t5⟩ := step 45 N 0 s (by omega) (by omega) (fun i hi => absurd hi (Nat.not_lt_zero _))
    refine ⟨0, nI n', nI B', nI C', P, Q, nI L', R', c - 1, true, vp_updL out 0 (nI (c - 1)).toInt64, nI (c - 1), s', ?_, ?_, fun _ => updL_s _ _ _, ⟨n', B', C', L', rfl, rfl, rfl, rfl, a2, ms_s a2.2.2.2.2.1 (ms_p a3 t4) t5, .inl rfl⟩, by omega, ho, fun j hj => h j (by omega)⟩
    · unfold F_L_undo T_X4_undo F_X4_undo F_X2_pop
      rw [n0, if_neg (fun q => absurd (nI_inj (by omega) (by decide) q) (by omega)), if_neg (fun q => absurd (nI_inj (by omega) (by decide) q) (by omega)), pred_N (by omega), slot_N (by omega)]
      show ob10 (ob8 (ob7 (F_X3_copyFrom N (nI n) (nI B) (nI C) pos neg (nI Ln) R (ring ((ol + (c - 1)) % 4)).1 (ring ((ol + (c - 1)) % 4)).2.1 (ring ((ol + (c - 1)) % 4)).2.2.1 (ring ((ol + (c - 1)) % 4)).2.2.2.1 (ring ((ol + (c - 1)) % 4)).2.2.2.2.1 (ring ((ol + (c - 1)) % 4)).2.2.2.2.2.1 (ring ((ol + (c - 1)) % 4)).2.2.2.2.2.2) _) _) _ = _
      rw [a1]
      show ob10 (ob8 (ob7 (F_X3_copyFrom N (nI n) (nI B) (nI C) pos neg (nI Ln) R (nI n') (nI B') (nI C') P' Q' (nI L') R') _) _) _ = _
      rw [e3]; rfl
    · unfold F_X5_undo
      rw [n0, if_neg (fun q => absurd (nI_inj (by omega) (by decide) q) (by omega))]
      refine (e5 _).trans ?_
      rw [pred_N (by omega)]; rfl
