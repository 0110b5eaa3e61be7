/-! THE GAME'S TABLE, the model's side -/
def gv (leaf : Nat → Bool) (B : Nat) : Nat → Nat → Nat → Bool
  | 0, _, h => leaf h
  | d + 1, v, h => if bt B v = 1 then (gv leaf B d (v + 1) h && gv leaf B d (v + 1) (h + 2 ^ v)) else (gv leaf B d (v + 1) h || gv leaf B d (v + 1) (h + 2 ^ v))
theorem gv_congr {leaf leaf' : Nat → Bool} (B : Nat) {n : Nat} (hl : ∀ h, h < 2 ^ n → leaf h = leaf' h) : ∀ (d v h : Nat), v + d = n → h < 2 ^ v → gv leaf B d v h = gv leaf' B d v h := by
  intro d
  induction d with
  | zero => intro v h hd hh; exact hl h (by rw [← hd, Nat.add_zero]; exact hh)
  | succ d ih =>
    intro v h hd hh
    have h1 : 2 ^ (v + 1) = 2 ^ v + 2 ^ v := by rw [Nat.pow_succ]; omega
    show (if bt B v = 1 then (gv leaf B d (v + 1) h && gv leaf B d (v + 1) (h + 2 ^ v)) else (gv leaf B d (v + 1) h || gv leaf B d (v + 1) (h + 2 ^ v))) = (if bt B v = 1 then (gv leaf' B d (v + 1) h && gv leaf' B d (v + 1) (h + 2 ^ v)) else (gv leaf' B d (v + 1) h || gv leaf' B d (v + 1) (h + 2 ^ v)))
    rw [ih (v + 1) h (by omega) (by omega), ih (v + 1) (h + 2 ^ v) (by omega) (by omega)]
theorem gv_step (leaf : Nat → Bool) (B : Nat) {n v h : Nat} (hv : v < n) : gv leaf B (n - v) v h = if bt B v = 1 then (gv leaf B (n - (v + 1)) (v + 1) h && gv leaf B (n - (v + 1)) (v + 1) (h + 2 ^ v)) else (gv leaf B (n - (v + 1)) (v + 1) h || gv leaf B (n - (v + 1)) (v + 1) (h + 2 ^ v)) := by
  rw [show n - v = (n - (v + 1)) + 1 by omega]
  rfl
def Tab (leaf : Nat → Bool) (B n v : Nat) (w : Nat → Bool) : Prop := ∀ v', v ≤ v' → v' ≤ n → ∀ h, h < 2 ^ v' → w (2 ^ v' + h) = gv leaf B (n - v') v' h
theorem updB_s (w : Nat → Bool) (k : Nat) (b : Bool) : updB w k b k = b := by simp [updB]
theorem updB_n (w : Nat → Bool) {k j : Nat} (b : Bool) (h : j ≠ k) : updB w k b j = w j := by simp [updB, h]
theorem pw_le {a b : Nat} (h : a ≤ b) : 2 ^ a ≤ 2 ^ b := Nat.pow_le_pow_right (by decide) h
theorem tab_up {leaf : Nat → Bool} {B n v : Nat} {w : Nat → Bool} (h : Tab leaf B n (v + 1) w) {k : Nat} (hk : k < 2 ^ v) (b : Bool) : Tab leaf B n (v + 1) (updB w (2 ^ v + k) b) := fun v' h1 h2 h' h3 => by
  have h4 : 2 ^ (v + 1) ≤ 2 ^ v' := pw_le h1
  have h5 : 2 ^ (v + 1) = 2 ^ v + 2 ^ v := by rw [Nat.pow_succ]; omega
  rw [updB_n _ _ (by omega)]
  exact h v' h1 h2 h' h3
theorem tab_done {leaf : Nat → Bool} {B n v : Nat} {w : Nat → Bool} (h : Tab leaf B n (v + 1) w) (h2 : ∀ h', h' < 2 ^ v → w (2 ^ v + h') = gv leaf B (n - v) v h') : Tab leaf B n v w := fun v' a1 a2 h' a3 => by
  rcases Nat.lt_or_ge v v' with q | q
  · exact h v' q a2 h' a3
  · have : v' = v := by omega
    subst this
    exact h2 h' a3
theorem lay40 {N n B v : Nat} {s : Nat → Int32} (hs : s 1 = nI B) (hB : B < 512) (hn : n ≤ 9) (hv : v < n) (leaf : Nat → Bool) (kont : (Nat → Bool) → Option (Nat → Bool)) : ∀ (d m h : Nat) (w : Nat → Bool), h + d = 2 ^ v → d < m → Tab leaf B n (v + 1) w → (∀ h', h' < h → w (2 ^ v + h') = gv leaf B (n - v) v h') → ∃ w', L_X5_lays_40 N s (nI v) kont m (nI h) w = kont w' ∧ Tab leaf B n v w' := by
  have p1 : 2 ^ v ≤ 256 := Nat.le_trans (pw_le (show v ≤ 8 by omega)) (by decide)
  have p2 : 2 ^ (v + 1) = 2 ^ v + 2 ^ v := by rw [Nat.pow_succ]; omega
  intro d
  induction d with
  | zero =>
    intro m h w hd hm hT hw
    obtain ⟨m, rfl⟩ : ∃ q, m = q + 1 := ⟨m - 1, by omega⟩
    refine ⟨w, ?_, tab_done hT (fun h' q => hw h' (by omega))⟩
    rw [L_X5_lays_40, shl1 v (by omega), if_nle (by omega) (by omega), if_pos (by omega)]
  | succ d ih =>
    intro m h w hd hm hT hw
    obtain ⟨m, rfl⟩ : ∃ q, m = q + 1 := ⟨m - 1, by omega⟩
    have key : L_X5_lays_40 N s (nI v) kont (m + 1) (nI h) w = L_X5_lays_40 N s (nI v) kont m (nI (h + 1)) (updB w (2 ^ v + h) (gv leaf B (n - v) v h)) := by
      rw [L_X5_lays_40, shl1 v (by omega), shl2 v (by omega), if_nle (by omega) (by omega), if_neg (by omega), own5_N N hs hB (by omega), nI_add, nI_add, nI_add, inb_nI (j := 2 ^ (v + 1) + h) (by omega) (by decide), inb_nI (j := 2 ^ (v + 1) + h + 2 ^ v) (by omega) (by decide), inb_nI (j := 2 ^ v + h) (by omega) (by decide), nI_clamp (by omega), nI_clamp (by omega), nI_clamp (by omega), nI_1, hT (v + 1) (Nat.le_refl _) hv h (by omega), Nat.add_assoc, hT (v + 1) (Nat.le_refl _) hv (h + 2 ^ v) (by omega), gv_step leaf B hv]
      show (if decide (bt B v = 1) = true then _ else _) = _
      by_cases e : bt B v = 1
      · rw [decide_eq_true e, if_pos rfl, if_pos e]
        cases gv leaf B (n - (v + 1)) (v + 1) h <;> cases gv leaf B (n - (v + 1)) (v + 1) (h + 2 ^ v) <;> rfl
      · rw [decide_eq_false e, if_neg (by decide), if_neg e]
        cases gv leaf B (n - (v + 1)) (v + 1) h <;> cases gv leaf B (n - (v + 1)) (v + 1) (h + 2 ^ v) <;> rfl
    rw [key]
    refine ih m (h + 1) _ (by omega) (by omega) (tab_up hT (by omega) _) (fun h' q => ?_)
    by_cases e : h' = h
    · rw [e, updB_s]
    · rw [updB_n _ _ (by omega)]
      exact hw h' (by omega)
theorem lay71 {N n B v : Nat} {s : Nat → Int32} (hs : s 1 = nI B) (hB : B < 512) (hn : n ≤ 9) (hv : v < n) (leaf : Nat → Bool) (kont : (Nat → Bool) → Option (Bool × (Nat → Bool))) : ∀ (d m h : Nat) (w : Nat → Bool), h + d = 2 ^ v → d < m → Tab leaf B n (v + 1) w → (∀ h', h' < h → w (2 ^ v + h') = gv leaf B (n - v) v h') → ∃ w', L_X5_against_71 N s (nI v) kont m (nI h) w = kont w' ∧ Tab leaf B n v w' := by
  have p1 : 2 ^ v ≤ 256 := Nat.le_trans (pw_le (show v ≤ 8 by omega)) (by decide)
  have p2 : 2 ^ (v + 1) = 2 ^ v + 2 ^ v := by rw [Nat.pow_succ]; omega
  intro d
  induction d with
  | zero =>
    intro m h w hd hm hT hw
    obtain ⟨m, rfl⟩ : ∃ q, m = q + 1 := ⟨m - 1, by omega⟩
    refine ⟨w, ?_, tab_done hT (fun h' q => hw h' (by omega))⟩
    rw [L_X5_against_71, shl1 v (by omega), if_nle (by omega) (by omega), if_pos (by omega)]
  | succ d ih =>
    intro m h w hd hm hT hw
    obtain ⟨m, rfl⟩ : ∃ q, m = q + 1 := ⟨m - 1, by omega⟩
    have key : L_X5_against_71 N s (nI v) kont (m + 1) (nI h) w = L_X5_against_71 N s (nI v) kont m (nI (h + 1)) (updB w (2 ^ v + h) (gv leaf B (n - v) v h)) := by
      rw [L_X5_against_71, shl1 v (by omega), shl2 v (by omega), if_nle (by omega) (by omega), if_neg (by omega), own5_N N hs hB (by omega), nI_add, nI_add, nI_add, inb_nI (j := 2 ^ (v + 1) + h) (by omega) (by decide), inb_nI (j := 2 ^ (v + 1) + h + 2 ^ v) (by omega) (by decide), inb_nI (j := 2 ^ v + h) (by omega) (by decide), nI_clamp (by omega), nI_clamp (by omega), nI_clamp (by omega), nI_1, hT (v + 1) (Nat.le_refl _) hv h (by omega), Nat.add_assoc, hT (v + 1) (Nat.le_refl _) hv (h + 2 ^ v) (by omega), gv_step leaf B hv]
      show (if decide (bt B v = 1) = true then _ else _) = _
      by_cases e : bt B v = 1
      · rw [decide_eq_true e, if_pos rfl, if_pos e]
        cases gv leaf B (n - (v + 1)) (v + 1) h <;> cases gv leaf B (n - (v + 1)) (v + 1) (h + 2 ^ v) <;> rfl
      · rw [decide_eq_false e, if_neg (by decide), if_neg e]
        cases gv leaf B (n - (v + 1)) (v + 1) h <;> cases gv leaf B (n - (v + 1)) (v + 1) (h + 2 ^ v) <;> rfl
    rw [key]
    refine ih m (h + 1) _ (by omega) (by omega) (tab_up hT (by omega) _) (fun h' q => ?_)
    by_cases e : h' = h
    · rw [e, updB_s]
    · rw [updB_n _ _ (by omega)]
      exact hw h' (by omega)
theorem xm1 (k : Nat) : nI (k + 1) - 1 = nI k := nI_pred k
theorem xm2 (k : Nat) : nI k + (-1) = nI k - 1 := by
  apply Int32.toBitVec_inj.mp
  simp [BitVec.sub_eq_add_neg]
theorem xm0 : nI 0 - 1 < 0 := by decide
theorem lay34 {N n B : Nat} {s : Nat → Int32} (hN : 2000 ≤ N) (hs : s 1 = nI B) (hB : B < 512) (hn : n ≤ 9) (leaf : Nat → Bool) (kont : (Nat → Bool) → Option (Nat → Bool)) : ∀ (k m : Nat) (w : Nat → Bool), k ≤ n → k < m → Tab leaf B n k w → ∃ w', L_X5_lays_34 N s kont m (nI k - 1) w = kont w' ∧ Tab leaf B n 0 w' := by
  intro k
  induction k with
  | zero =>
    intro m w hk hm hT
    obtain ⟨m, rfl⟩ : ∃ q, m = q + 1 := ⟨m - 1, by omega⟩
    refine ⟨w, ?_, hT⟩
    rw [L_X5_lays_34, if_pos xm0]
  | succ k ih =>
    intro m w hk hm hT
    obtain ⟨m, rfl⟩ : ∃ q, m = q + 1 := ⟨m - 1, by omega⟩
    have p1 := pw9 (show k ≤ 9 by omega)
    rw [L_X5_lays_34, xm1, if_neg (nI_pos (by omega)), xm2]
    obtain ⟨w1, e1, t1⟩ := lay40 (N := N) hs hB hn (show k < n by omega) leaf (fun t_wins_14 => L_X5_lays_34 N s kont m (nI k - 1) t_wins_14) (2 ^ k) N 0 w (by omega) (by omega) hT (fun h' q => absurd q (Nat.not_lt_zero _))
    rw [show (0 : Int32) = nI 0 from rfl, e1]
    exact ih m w1 (by omega) (by omega) t1
theorem lay64 {N n B : Nat} {s : Nat → Int32} (hN : 2000 ≤ N) (hs : s 1 = nI B) (hB : B < 512) (hn : n ≤ 9) (leaf : Nat → Bool) (kont : (Nat → Bool) → Option (Bool × (Nat → Bool))) : ∀ (k m : Nat) (w : Nat → Bool), k ≤ n → k < m → Tab leaf B n k w → ∃ w', L_X5_against_64 N s kont m (nI k - 1) w = kont w' ∧ Tab leaf B n 0 w' := by
  intro k
  induction k with
  | zero =>
    intro m w hk hm hT
    obtain ⟨m, rfl⟩ : ∃ q, m = q + 1 := ⟨m - 1, by omega⟩
    refine ⟨w, ?_, hT⟩
    rw [L_X5_against_64, if_pos xm0]
  | succ k ih =>
    intro m w hk hm hT
    obtain ⟨m, rfl⟩ : ∃ q, m = q + 1 := ⟨m - 1, by omega⟩
    have p1 := pw9 (show k ≤ 9 by omega)
    rw [L_X5_against_64, xm1, if_neg (nI_pos (by omega)), xm2]
    obtain ⟨w1, e1, t1⟩ := lay71 (N := N) hs hB hn (show k < n by omega) leaf (fun t_wins_19 => L_X5_against_64 N s kont m (nI k - 1) t_wins_19) (2 ^ k) N 0 w (by omega) (by omega) hT (fun h' q => absurd q (Nat.not_lt_zero _))
    rw [show (0 : Int32) = nI 0 from rfl, e1]
    exact ih m w1 (by omega) (by omega) t1
/-- the formula at the values h, by the model's row -/
def mF (s : Nat → Int32) (C h : Nat) : Bool := hR (fun k => s (5 + k)) (fun k => s (25 + k)) (nI h) 0 C
theorem tab_leaf {leaf : Nat → Bool} {B n : Nat} {w : Nat → Bool} (hw : ∀ h, h < 2 ^ n → w (2 ^ n + h) = leaf h) : Tab leaf B n n w := fun v' h1 h2 h h3 => by
  have : v' = n := by omega
  subst this
  rw [Nat.sub_self]
  exact hw h h3
theorem lays_N {N n B C : Nat} {s : Nat → Int32} (hN : 2000 ≤ N) (h1 : s 1 = nI B) (h2 : s 2 = nI C) (hB : B < 512) (hC : C ≤ 20) (hn : n ≤ 9) (w : Nat → Bool) : ∃ w', F_X5_lays N (nI n) s w = some w' ∧ Tab (mF s C) B n 0 w' := by
  have p1 := pw9 hn
  unfold F_X5_lays
  have step : ∀ (kont : (Nat → Bool) → Option (Nat → Bool)) (d m h : Nat) (w : Nat → Bool), h + d = 2 ^ n → d < m → (∀ h', h' < h → w (2 ^ n + h') = mF s C h') → ∃ w', L_X5_lays_2 N s (nI n) kont m (nI h) w = kont w' ∧ ∀ h', h' < 2 ^ n → w' (2 ^ n + h') = mF s C h' := by
    intro kont d
    induction d with
    | zero =>
      intro m h w hd hm hw
      obtain ⟨m, rfl⟩ : ∃ q, m = q + 1 := ⟨m - 1, by omega⟩
      refine ⟨w, ?_, fun h' q => hw h' (by omega)⟩
      rw [L_X5_lays_2, shl1 n (by omega), if_nle (by omega) (by omega), if_pos (by omega)]
    | succ d ih =>
      intro m h w hd hm hw
      obtain ⟨m, rfl⟩ : ∃ q, m = q + 1 := ⟨m - 1, by omega⟩
      have key : L_X5_lays_2 N s (nI n) kont (m + 1) (nI h) w = L_X5_lays_2 N s (nI n) kont m (nI (h + 1)) (updB w (2 ^ n + h) (mF s C h)) := by
        rw [L_X5_lays_2, shl1 n (by omega), if_nle (by omega) (by omega), if_neg (by omega), made_N hN hC h2, nI_add, nI_1, nI_clamp (by omega)]
        show gd (inb (nI (2 ^ n + h)) 1024) _ = _
        rw [inb_f (by omega) (by decide)]
        rfl
      rw [key]
      refine ih m (h + 1) _ (by omega) (by omega) (fun h' q => ?_)
      by_cases e : h' = h
      · rw [e, updB_s]
      · rw [updB_n _ _ (by omega)]
        exact hw h' (by omega)
  obtain ⟨w1, e1, t1⟩ := step (fun t_wins_3 => (L_X5_lays_34 N s (fun t_wins_10 => some t_wins_10) N (nI n - 1) t_wins_3)) (2 ^ n) N 0 w (by omega) (by omega) (fun h' q => absurd q (Nat.not_lt_zero _))
  rw [show (0 : Int32) = nI 0 from rfl, e1]
  obtain ⟨w2, e2, t2⟩ := lay34 hN h1 hB hn (mF s C) (fun t_wins_10 => some t_wins_10) n N w1 (Nat.le_refl _) (by omega) (tab_leaf t1)
  exact ⟨w2, e2, t2⟩
