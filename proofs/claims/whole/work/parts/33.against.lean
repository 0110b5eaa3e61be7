/-! AGAINST PLAYS, the model's side -/
theorem plays5_N {N B : Nat} {s : Nat → Int32} (hN : 2000 ≤ N) (h1 : s 1 = nI B) (hB : B < 512) (hp : pc B ≤ 3) : F_X5_plays N s = some (nI (2 ^ pc B)) := by
  unfold F_X5_plays
  rw [h1, ones_N (by omega) hB]
  show some ((1 : Int32) <<< (nI (pc B) &&& 31)) = _
  rw [shl1 _ (by omega)]
def fs (B v h : Nat) : Nat → Nat
  | 0 => 0
  | p + 1 => fs B v h p ||| (if sA B p h v = true then 2 ^ p else 0)
theorem finds26_N {N B v h : Nat} {s : Nat → Int32} (hN : 2000 ≤ N) (h1 : s 1 = nI B) (hB : B < 512) (hp : pc B ≤ 3) (hv : v ≤ 9) (hh : h < 512) (kont : Int32 → Option (Nat → Int32)) : ∀ (d m p : Nat), p + d = 2 ^ pc B → d < m → L_X5_finds_26 N s (nI v) (nI h) kont m (nI (fs B v h p)) (nI p) = kont (nI (fs B v h (2 ^ pc B))) := by
  have p1 : 2 ^ pc B ≤ 8 := Nat.le_trans (pw_le hp) (by decide)
  intro d
  induction d with
  | zero =>
    intro m p hd hm
    obtain ⟨m, rfl⟩ : ∃ q, m = q + 1 := ⟨m - 1, by omega⟩
    rw [L_X5_finds_26, plays5_N hN h1 hB hp]
    show (if nI (2 ^ pc B) ≤ nI p then _ else _) = _
    rw [if_nle (by omega) (by omega), if_pos (by omega), show p = 2 ^ pc B by omega]
  | succ d ih =>
    intro m p hd hm
    obtain ⟨m, rfl⟩ : ∃ q, m = q + 1 := ⟨m - 1, by omega⟩
    rw [L_X5_finds_26, plays5_N hN h1 hB hp]
    show (if nI (2 ^ pc B) ≤ nI p then _ else _) = _
    rw [if_nle (by omega) (by omega), if_neg (by omega), isAs_N hN h1 hv hB (by omega) hh, shl1 p (by omega), nI_or, show (0 : Int32) = nI 0 from rfl, nI_or, nI_1]
    have h2 := ih m (p + 1) (by omega) (by omega)
    rw [show fs B v h (p + 1) = fs B v h p ||| (if sA B p h v = true then 2 ^ p else 0) from rfl] at h2
    rw [← h2]
    show (if sA B p h v = true then _ else _) = _
    by_cases e : sA B p h v = true
    · rw [if_pos e, if_pos e]
    · rw [if_neg e, if_neg e]
theorem fs_full {B n h : Nat} : ∀ p, p ≤ 2 ^ cnt B n → fs B n h p = if pl B h n < p then 2 ^ pl B h n else 0 := by
  intro p
  induction p with
  | zero => intro _; rw [if_neg (Nat.not_lt_zero _)]; rfl
  | succ p ih =>
    intro hp
    show (fs B n h p ||| (if sA B p h n = true then 2 ^ p else 0)) = _
    rw [ih (by omega), sA_play (by omega)]
    by_cases e : p = pl B h n
    · rw [decide_eq_true e, if_pos rfl, if_neg (by omega), if_pos (by omega), Nat.zero_or, e]
    · rw [decide_eq_false e]
      simp only [Bool.false_eq_true, if_false, Nat.or_zero]
      by_cases e2 : pl B h n < p
      · rw [if_pos e2, if_pos (by omega)]
      · rw [if_neg e2, if_neg (by omega)]
def Fit (B n : Nat) (f : Nat → Int32) : Prop := ∀ h, h < 2 ^ n → f (2 ^ n + h) = nI (2 ^ pl B h n)
theorem finds14_N {N B v : Nat} {s : Nat → Int32} (hN : 2000 ≤ N) (h1 : s 1 = nI B) (hB : B < 512) (hp : pc B ≤ 3) (hv : v ≤ 9) (kont : (Nat → Int32) → Option (Nat → Int32)) : ∀ (d m h : Nat) (f : Nat → Int32), h + d = 2 ^ v → d < m → (∀ h', h' < h → f (2 ^ v + h') = nI (fs B v h' (2 ^ pc B))) → ∃ f', L_X5_finds_14 N s (nI v) kont m (nI h) f = kont f' ∧ ∀ h', h' < 2 ^ v → f' (2 ^ v + h') = nI (fs B v h' (2 ^ pc B)) := by
  have p1 := pw9 hv
  intro d
  induction d with
  | zero =>
    intro m h f hd hm hf
    obtain ⟨m, rfl⟩ : ∃ q, m = q + 1 := ⟨m - 1, by omega⟩
    refine ⟨f, ?_, fun h' q => hf h' (by omega)⟩
    rw [L_X5_finds_14, shl1 v (by omega), if_nle (by omega) (by omega), if_pos (by omega)]
  | succ d ih =>
    intro m h f hd hm hf
    obtain ⟨m, rfl⟩ : ∃ q, m = q + 1 := ⟨m - 1, by omega⟩
    have p2 : 2 ^ pc B ≤ 8 := Nat.le_trans (pw_le hp) (by decide)
    have key : L_X5_finds_14 N s (nI v) kont (m + 1) (nI h) f = L_X5_finds_14 N s (nI v) kont m (nI (h + 1)) (upd f (2 ^ v + h) (nI (fs B v h (2 ^ pc B)))) := by
      rw [L_X5_finds_14, shl1 v (by omega), if_nle (by omega) (by omega), if_neg (by omega)]
      rw [show (0 : Int32) = nI (fs B v h 0) from rfl]
      rw [show L_X5_finds_26 N s (nI v) (nI h) (fun u3_11 => gd (inb (nI (2 ^ v) + nI h) 1024) (L_X5_finds_14 N s (nI v) kont m (nI h + 1) (upd f ((nI (2 ^ v) + nI h).toNatClampNeg) u3_11))) N (nI (fs B v h 0)) (nI (fs B v h 0)) = _ from finds26_N hN h1 hB hp hv (by omega) _ (2 ^ pc B) N 0 (by omega) (by omega)]
      rw [nI_add, nI_1, inb_f (by omega) (by decide), nI_clamp (by omega)]
    rw [key]
    refine ih m (h + 1) _ (by omega) (by omega) (fun h' q => ?_)
    by_cases e : h' = h
    · rw [e, pk_us]
    · rw [pk_un (by omega)]
      exact hf h' (by omega)
theorem finds_N {N B n : Nat} {s : Nat → Int32} (hN : 2000 ≤ N) (h0 : s 0 = nI n) (h1 : s 1 = nI B) (hB : B < 2 ^ n) (hp : pc B ≤ 3) (hn : n ≤ 9) (f : Nat → Int32) : ∃ f', F_X5_finds N s f = some f' ∧ Fit B n f' := by
  have p1 := pw9 hn
  have hB9 : B < 512 := by omega
  have hcn : cnt B n = pc B := (cnt_high hB hn).symm
  have step : ∀ (d m v : Nat) (f : Nat → Int32), v + d = n + 1 → d < m → (v = n + 1 → Fit B n f) → ∃ f', L_X5_finds_2 N s (fun t_fits_3 => some t_fits_3) m (nI v) f = some f' ∧ Fit B n f' := by
    intro d
    induction d with
    | zero =>
      intro m v f hd hm hf
      obtain ⟨m, rfl⟩ : ∃ q, m = q + 1 := ⟨m - 1, by omega⟩
      refine ⟨f, ?_, hf (by omega)⟩
      rw [L_X5_finds_2, h0, if_nlt (by omega) (by omega), if_pos (by omega)]
    | succ d ih =>
      intro m v f hd hm hf
      obtain ⟨m, rfl⟩ : ∃ q, m = q + 1 := ⟨m - 1, by omega⟩
      rw [L_X5_finds_2, h0, if_nlt (by omega) (by omega), if_neg (by omega)]
      have p2 := pw9 (show v ≤ 9 by omega)
      obtain ⟨f1, e1, t1⟩ := finds14_N hN h1 hB9 hp (show v ≤ 9 by omega) (fun t_fits_7 => L_X5_finds_2 N s (fun t_fits_3 => some t_fits_3) m (nI v + 1) t_fits_7) (2 ^ v) N 0 f (by omega) (by omega) (fun h' q => absurd q (Nat.not_lt_zero _))
      rw [show (0 : Int32) = nI 0 from rfl, e1, nI_1]
      refine ih m (v + 1) f1 (by omega) (by omega) (fun e h hh => ?_)
      have hv : v = n := by omega
      subst hv
      rw [t1 h hh, fs_full _ (by rw [hcn]; exact Nat.le_refl _), if_pos (by rw [← hcn]; exact pl_lt B h v)]
  unfold F_X5_finds
  exact step (n + 1) N 0 f (by omega) (by omega) (fun e => absurd e (by omega))
theorem tbit (S k : Nat) : S.testBit k = decide (bt S k = 1) := by
  rw [Nat.testBit_eq_decide_div_mod_eq]; rfl
theorem two_and (k S : Nat) : (2 ^ k &&& S = 0) ↔ bt S k = 0 := by
  have h0 := bt_lt S k
  constructor
  · intro h
    have h1 : (2 ^ k &&& S).testBit k = false := by rw [h]; simp
    rw [Nat.testBit_and, Nat.testBit_two_pow_self, Bool.true_and, tbit, decide_eq_false_iff_not] at h1
    omega
  · intro h
    apply Nat.eq_of_testBit_eq
    intro i
    rw [Nat.testBit_and, Nat.testBit_two_pow, Nat.zero_testBit]
    by_cases e : k = i
    · subst e
      rw [tbit, h]; simp
    · rw [decide_eq_false e, Bool.false_and]
/-- a leaf against the set S: its play isn't in S, or the formula is true -/
def lfS (B n : Nat) (mf : Nat → Bool) (S h : Nat) : Bool := decide (bt S (pl B h n) = 0) || mf h
theorem against_N {N n B C S : Nat} {s : Nat → Int32} {f : Nat → Int32} (hN : 2000 ≤ N) (h0 : s 0 = nI n) (h1 : s 1 = nI B) (h2 : s 2 = nI C) (hB : B < 2 ^ n) (hp : pc B ≤ 3) (hC : C ≤ 20) (hn : n ≤ 9) (hS : S < 256) (hF : Fit B n f) (w : Nat → Bool) : ∃ w', F_X5_against N (nI S) s w f = some (gv (lfS B n (mF s C) S) B n 0 0, w') ∧ Tab (lfS B n (mF s C) S) B n 0 w' := by
  have p1 := pw9 hn
  have hB9 : B < 512 := by omega
  have hcn : cnt B n = pc B := (cnt_high hB hn).symm
  have step : ∀ (kont : (Nat → Bool) → Option (Bool × (Nat → Bool))) (d m h : Nat) (w : Nat → Bool), h + d = 2 ^ n → d < m → (∀ h', h' < h → w (2 ^ n + h') = lfS B n (mF s C) S h') → ∃ w', L_X5_against_9 N s f (nI S) kont m (nI h) w = kont w' ∧ ∀ h', h' < 2 ^ n → w' (2 ^ n + h') = lfS B n (mF s C) S h' := by
    intro kont d
    induction d with
    | zero =>
      intro m h w hd hm hw
      obtain ⟨m, rfl⟩ : ∃ q, m = q + 1 := ⟨m - 1, by omega⟩
      refine ⟨w, ?_, fun h' q => hw h' (by omega)⟩
      rw [L_X5_against_9, h0, shl1 n (by omega), if_nle (by omega) (by omega), if_pos (by omega)]
    | succ d ih =>
      intro m h w hd hm hw
      obtain ⟨m, rfl⟩ : ∃ q, m = q + 1 := ⟨m - 1, by omega⟩
      have hpl : pl B h n < 8 := Nat.lt_of_lt_of_le (pl_lt B h n) (by rw [hcn]; exact Nat.le_trans (pw_le hp) (by decide))
      have hpl2 : 2 ^ pl B h n ≤ 128 := Nat.le_trans (pw_le (show pl B h n ≤ 7 by omega)) (by decide)
      have hand : 2 ^ pl B h n &&& S ≤ S := Nat.and_le_right
      have key : L_X5_against_9 N s f (nI S) kont (m + 1) (nI h) w = L_X5_against_9 N s f (nI S) kont m (nI (h + 1)) (updB w (2 ^ n + h) (lfS B n (mF s C) S h)) := by
        rw [L_X5_against_9, h0, shl1 n (by omega), if_nle (by omega) (by omega), if_neg (by omega), made_N hN hC h2, nI_add, nI_1, inb_nI (j := 2 ^ n + h) (by omega) (by decide), nI_clamp (by omega), hF h (by omega), nI_and, show (0 : Int32) = nI 0 from rfl, if_neq (by omega) (by omega)]
        show (if 2 ^ pl B h n &&& S = 0 then L_X5_against_9 N s f (nI S) kont m (nI (h + 1)) (updB w (2 ^ n + h) true) else (if mF s C h = true then L_X5_against_9 N s f (nI S) kont m (nI (h + 1)) (updB w (2 ^ n + h) true) else L_X5_against_9 N s f (nI S) kont m (nI (h + 1)) (updB w (2 ^ n + h) false))) = _
        unfold lfS
        by_cases e : bt S (pl B h n) = 0
        · rw [if_pos ((two_and _ _).mpr e), decide_eq_true e, Bool.true_or]
        · rw [if_neg (fun q => e ((two_and _ _).mp q)), decide_eq_false e, Bool.false_or]
          cases mF s C h <;> rfl
      rw [key]
      refine ih m (h + 1) _ (by omega) (by omega) (fun h' q => ?_)
      by_cases e : h' = h
      · rw [e, updB_s]
      · rw [updB_n _ _ (by omega)]
        exact hw h' (by omega)
  unfold F_X5_against
  obtain ⟨w1, e1, t1⟩ := step (fun t_wins_3 => (L_X5_against_64 N s (fun t_wins_15 => some ((t_wins_15 1), t_wins_15)) N ((s 0) - 1) t_wins_3)) (2 ^ n) N 0 w (by omega) (by omega) (fun h' q => absurd q (Nat.not_lt_zero _))
  rw [show (0 : Int32) = nI 0 from rfl, e1, h0]
  obtain ⟨w2, e2, t2⟩ := lay64 hN h1 hB9 hn (lfS B n (mF s C) S) (fun t_wins_15 => some ((t_wins_15 1), t_wins_15)) n N w1 (Nat.le_refl _) (by omega) (tab_leaf t1)
  refine ⟨w2, ?_, t2⟩
  rw [e2, t2 0 (Nat.le_refl _) (Nat.zero_le _) 0 (by decide)]
  rfl
/-- the values when the builder answers the play p by the table g (position, history) -/
def an (g : Nat → Nat → Bool) (B p : Nat) : Nat → Nat
  | 0 => 0
  | v + 1 => an g B p v + (if bt B v = 1 then bt p (cnt B v) else if g (v + 1) (an g B p v) = true then 0 else 1) * 2 ^ v
theorem an_lt (g : Nat → Nat → Bool) (B p v : Nat) : an g B p v < 2 ^ v := by
  induction v with
  | zero => show 0 < 2 ^ 0; decide
  | succ v ih =>
    show an g B p v + (if bt B v = 1 then bt p (cnt B v) else if g (v + 1) (an g B p v) = true then 0 else 1) * 2 ^ v < 2 ^ (v + 1)
    have h1 : (if bt B v = 1 then bt p (cnt B v) else if g (v + 1) (an g B p v) = true then 0 else 1) < 2 := by
      have := bt_lt p (cnt B v)
      split
      · exact this
      · split <;> decide
    generalize (if bt B v = 1 then bt p (cnt B v) else if g (v + 1) (an g B p v) = true then 0 else 1) = x at h1 ⊢
    rw [Nat.pow_succ]
    have : x = 0 ∨ x = 1 := by omega
    rcases this with rfl | rfl <;> omega
theorem an_congr {g g' : Nat → Nat → Bool} (B p : Nat) {n : Nat} (h : ∀ v, v < n → ∀ k, k < 2 ^ (v + 1) → g (v + 1) k = g' (v + 1) k) : ∀ v, v ≤ n → an g B p v = an g' B p v := by
  intro v
  induction v with
  | zero => intro _; rfl
  | succ v ih =>
    intro hv
    show an g B p v + (if bt B v = 1 then bt p (cnt B v) else if g (v + 1) (an g B p v) = true then 0 else 1) * 2 ^ v = an g' B p v + (if bt B v = 1 then bt p (cnt B v) else if g' (v + 1) (an g' B p v) = true then 0 else 1) * 2 ^ v
    rw [ih (by omega), h v (by omega) _ (Nat.lt_of_lt_of_le (an_lt g' B p v) (pw_le (by omega)))]
theorem answers_N {N n B p : Nat} {s : Nat → Int32} {w : Nat → Bool} (hN : 2000 ≤ N) (h0 : s 0 = nI n) (h1 : s 1 = nI B) (hB : B < 512) (hn : n ≤ 9) (hp : p < 512) (leaf : Nat → Bool) (hT : Tab leaf B n 0 w) : F_X5_answers N (nI p) s w = some (nI (an (fun v h => gv leaf B (n - v) v h) B p n)) := by
  have step : ∀ (d m v : Nat), v + d = n → d < m → L_X5_answers_7 N s w (nI p) (fun u => some u) m (nI (an (fun v h => gv leaf B (n - v) v h) B p v)) (nI (cnt B v)) (nI v) = some (nI (an (fun v h => gv leaf B (n - v) v h) B p n)) := by
    intro d
    induction d with
    | zero =>
      intro m v hd hm
      obtain ⟨m, rfl⟩ : ∃ q, m = q + 1 := ⟨m - 1, by omega⟩
      rw [L_X5_answers_7, h0, if_nle (by omega) (by omega), if_pos (by omega), show v = n by omega]
    | succ d ih =>
      intro m v hd hm
      obtain ⟨m, rfl⟩ : ∃ q, m = q + 1 := ⟨m - 1, by omega⟩
      have hc := cnt_le B v
      have hi := ih m (v + 1) (by omega) (by omega)
      rw [show an (fun v h => gv leaf B (n - v) v h) B p (v + 1) = an (fun v h => gv leaf B (n - v) v h) B p v + (if bt B v = 1 then bt p (cnt B v) else if gv leaf B (n - (v + 1)) (v + 1) (an (fun v h => gv leaf B (n - v) v h) B p v) = true then 0 else 1) * 2 ^ v from rfl, show cnt B (v + 1) = cnt B v + bt B v from rfl] at hi
      have hl := an_lt (fun v h => gv leaf B (n - v) v h) B p v
      have p1 : 2 ^ v ≤ 256 := Nat.le_trans (pw_le (show v ≤ 8 by omega)) (by decide)
      have p2 : 2 ^ (v + 1) = 2 ^ v + 2 ^ v := by rw [Nat.pow_succ]; omega
      generalize an (fun v h => gv leaf B (n - v) v h) B p v = h at hi hl ⊢
      rw [L_X5_answers_7, h0, if_nle (by omega) (by omega), if_neg (by omega), shl2 v (by omega), nI_add, inb_nI (j := 2 ^ (v + 1) + h) (by omega) (by decide), nI_clamp (by omega), hT (v + 1) (by omega) (by omega) h (by omega), own5_N N h1 hB (by omega), shr_and (by omega) (by omega), or_bit hl (bt_lt _ _) (by omega)]
      rw [show (0 : Int32) = nI 0 from rfl, or_bit hl (by decide) (by omega), show (1 : Int32) = nI 1 from rfl, or_bit hl (by decide) (by omega), nI_add, nI_add]
      show (if gv leaf B (n - (v + 1)) (v + 1) h = true then (if decide (bt B v = 1) = true then L_X5_answers_7 N s w (nI p) (fun u => some u) m (nI (h + bt p (cnt B v) * 2 ^ v)) (nI (cnt B v + 1)) (nI (v + 1)) else L_X5_answers_7 N s w (nI p) (fun u => some u) m (nI (h + 0 * 2 ^ v)) (nI (cnt B v)) (nI (v + 1))) else (if decide (bt B v = 1) = true then L_X5_answers_7 N s w (nI p) (fun u => some u) m (nI (h + bt p (cnt B v) * 2 ^ v)) (nI (cnt B v + 1)) (nI (v + 1)) else L_X5_answers_7 N s w (nI p) (fun u => some u) m (nI (h + 1 * 2 ^ v)) (nI (cnt B v)) (nI (v + 1)))) = _
      rcases bt_01 B v with e | e
      · rw [e] at hi ⊢
        cases e2 : gv leaf B (n - (v + 1)) (v + 1) h
        · rw [e2] at hi; simpa using hi
        · rw [e2] at hi; simpa using hi
      · rw [e] at hi ⊢
        cases e2 : gv leaf B (n - (v + 1)) (v + 1) h
        · rw [e2] at hi; simpa using hi
        · rw [e2] at hi; simpa using hi
  unfold F_X5_answers
  exact step n N 0 (by omega) (by omega)
