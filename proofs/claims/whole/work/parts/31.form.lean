/-! THE FORMULA: rows, owners, plays -/
theorem read_N (N : Nat) {n k : Nat} (f : Nat → Int32) (hk : k < n) (hn : n < 2 ^ 31) : F_X4_read N n (nI k) f = some (f k) := by
  unfold F_X4_read
  rw [if_neg (nI_pos (by omega)), if_nle hn (by omega), if_neg (by omega), inb_f hk hn, nI_clamp (by omega)]
theorem write_N (N : Nat) {n k : Nat} (f : Nat → Int32) (x : Int32) (hk : k < n) (hn : n < 2 ^ 31) : F_X4_write N n (nI k) x f = some (upd f k x) := by
  unfold F_X4_write
  rw [if_neg (nI_pos (by omega)), if_nle hn (by omega), if_neg (by omega), inb_f hk hn, nI_clamp (by omega)]
theorem readL_N (N : Nat) {n k : Nat} (f : Nat → Int64) (hk : k < n) (hn : n < 2 ^ 31) : F_X4_readLong N n (nI k) f = some (f k) := by
  unfold F_X4_readLong
  rw [if_neg (nI_pos (by omega)), if_nle hn (by omega), if_neg (by omega), inb_f hk hn, nI_clamp (by omega)]
theorem writeL_N (N : Nat) {n k : Nat} (f : Nat → Int64) (x : Int64) (hk : k < n) (hn : n < 2 ^ 31) : F_X4_writeLong N n (nI k) x f = some (vp_updL f k x) := by
  unfold F_X4_writeLong
  rw [if_neg (nI_pos (by omega)), if_nle hn (by omega), if_neg (by omega), inb_f hk hn, nI_clamp (by omega)]
theorem bit_N (N : Nat) {x v : Nat} (hx : x < 2 ^ 31) (hv : v < 32) : F_X4_bit N (nI x) (nI v) = some (nI (bt x v)) := by
  unfold F_X4_bit
  rw [shr_and hx hv]
theorem owner_N (N : Nat) {B v : Nat} (hB : B < 512) (hv : v < 32) : F_X3_ownerOf N (nI v) (nI B) = some (nI (bt B v)) := by
  unfold F_X3_ownerOf
  rw [shr_and (by omega) hv]
theorem own5_N (N : Nat) {B v : Nat} {s : Nat → Int32} (hs : s 1 = nI B) (hB : B < 512) (hv : v < 32) : F_X5_isBreakersOwn N (nI v) s = some (decide (bt B v = 1)) := by
  unfold F_X5_isBreakersOwn
  rw [hs, shr_and (by omega) hv, show (1 : Int32) = nI 1 from rfl, if_neq (by have := bt_lt B v; omega) (by omega)]
  by_cases h : bt B v = 1
  · rw [if_pos h, decide_eq_true h]
  · rw [if_neg h, decide_eq_false h]
/-- a clause is true -/
def cl1 (pos neg : Nat → Int32) (v : Int32) (k : Nat) : Bool := !decide ((v &&& pos k) = 0) || !decide (((v ^^^ (-1)) &&& neg k) = 0)
def hR (pos neg : Nat → Int32) (v : Int32) : Nat → Nat → Bool
  | _, 0 => true
  | k, d + 1 => cl1 pos neg v k && hR pos neg v (k + 1) d
theorem hR_congr {pos neg pos' neg' : Nat → Int32} (v : Int32) : ∀ (d k : Nat), (∀ i, k ≤ i → i < k + d → pos i = pos' i ∧ neg i = neg' i) → hR pos neg v k d = hR pos' neg' v k d := by
  intro d
  induction d with
  | zero => intro k _; rfl
  | succ d ih =>
    intro k h
    have h1 := h k (Nat.le_refl _) (by omega)
    show (cl1 pos neg v k && hR pos neg v (k + 1) d) = (cl1 pos' neg' v k && hR pos' neg' v (k + 1) d)
    rw [ih (k + 1) (fun i a b => h i (by omega) (by omega))]
    unfold cl1
    rw [h1.1, h1.2]
theorem holds_N {N C : Nat} (hN : 2000 ≤ N) (hC : C ≤ 20) (pos neg : Nat → Int32) (v : Int32) : F_X3_holds N v (nI C) pos neg = some (hR pos neg v 0 C) := by
  have step : ∀ (d n k : Nat), k + d = C → d < n → L_X3_holds_2 N (nI C) pos neg v (some true) n (nI k) = some (hR pos neg v k d) := by
    intro d
    induction d with
    | zero =>
      intro n k hd hn
      obtain ⟨n, rfl⟩ : ∃ q, n = q + 1 := ⟨n - 1, by omega⟩
      rw [L_X3_holds_2, if_nle (by omega) (by omega), if_pos (by omega)]
      rfl
    | succ d ih =>
      intro n k hd hn
      obtain ⟨n, rfl⟩ : ∃ q, n = q + 1 := ⟨n - 1, by omega⟩
      rw [L_X3_holds_2, if_nle (by omega) (by omega), if_neg (by omega), read_N N pos (by omega) (by decide), read_N N neg (by omega) (by decide), nI_1, ih n (k + 1) (by omega) (by omega)]
      show (if (v &&& pos k) = 0 then (if ((v ^^^ (-1)) &&& neg k) = 0 then some false else some (hR pos neg v (k + 1) d)) else some (hR pos neg v (k + 1) d)) = some (cl1 pos neg v k && hR pos neg v (k + 1) d)
      unfold cl1
      generalize (v ^^^ (-1)) &&& neg k = q2
      generalize v &&& pos k = q1
      by_cases h1 : q1 = 0
      · by_cases h2 : q2 = 0
        · simp [h1, h2]
        · simp [h1, h2]
      · simp [h1]
  unfold F_X3_holds
  exact step C N 0 (by omega) (by omega)
theorem and_cm (a b : Int32) : a &&& b = b &&& a := by
  apply Int32.toBitVec_inj.mp
  simp [Int32.toBitVec_and, BitVec.and_comm]
theorem made_N {N C : Nat} (hN : 2000 ≤ N) (hC : C ≤ 20) {s : Nat → Int32} (hs : s 2 = nI C) (v : Int32) : F_X5_isMade N v s = some (hR (fun k => s (5 + k)) (fun k => s (25 + k)) v 0 C) := by
  have step : ∀ (d n k : Nat) (a : Bool), k + d = C → d < n → L_X5_isMade_4 N s v (fun u => some u) n a (nI k) = some (a && hR (fun k => s (5 + k)) (fun k => s (25 + k)) v k d) := by
    intro d
    induction d with
    | zero =>
      intro n k a hd hn
      obtain ⟨n, rfl⟩ : ∃ q, n = q + 1 := ⟨n - 1, by omega⟩
      rw [L_X5_isMade_4, hs, if_nle (by omega) (by omega), if_pos (by omega)]
      show some a = some (a && true)
      rw [Bool.and_true]
    | succ d ih =>
      intro n k a hd hn
      obtain ⟨n, rfl⟩ : ∃ q, n = q + 1 := ⟨n - 1, by omega⟩
      rw [L_X5_isMade_4, hs, if_nle (by omega) (by omega), if_neg (by omega)]
      rw [show (5 : Int32) + nI k = nI (5 + k) from nI_add 5 k, show (25 : Int32) + nI k = nI (25 + k) from nI_add 25 k, inb_f (by omega) (by decide), inb_f (by omega) (by decide), nI_clamp (by omega), nI_clamp (by omega), nI_1, ih n (k + 1) true (by omega) (by omega), ih n (k + 1) false (by omega) (by omega), and_cm _ v, and_cm _ (v ^^^ (-1))]
      show _ = some (a && (cl1 (fun k => s (5 + k)) (fun k => s (25 + k)) v k && hR (fun k => s (5 + k)) (fun k => s (25 + k)) v (k + 1) d))
      unfold cl1
      cases a
      · simp
      · generalize (v ^^^ (-1)) &&& s (25 + k) = q2
        generalize v &&& s (5 + k) = q1
        by_cases h1 : q1 = 0
        · by_cases h2 : q2 = 0
          · simp [h1, h2]
          · simp [h1, h2]
        · simp [h1]
  unfold F_X5_isMade
  rw [show (0 : Int32) = nI 0 from rfl, step C N 0 true (by omega) (by omega), Bool.true_and]
/-- the play in the values h of the first v variables -/
def pl (B h : Nat) : Nat → Nat
  | 0 => 0
  | v + 1 => pl B h v + (bt B v * bt h v) * 2 ^ cnt B v
theorem pl_lt (B h v : Nat) : pl B h v < 2 ^ cnt B v := by
  induction v with
  | zero => show 0 < 2 ^ 0; decide
  | succ v ih =>
    show pl B h v + (bt B v * bt h v) * 2 ^ cnt B v < 2 ^ (cnt B v + bt B v)
    rcases bt_01 B v with e | e
    · rw [e, Nat.zero_mul, Nat.zero_mul]; simpa using ih
    · rw [e, Nat.pow_succ, Nat.one_mul]
      have := bt_lt h v
      rcases bt_01 h v with e2 | e2 <;> rw [e2] <;> omega
theorem playIn_N {N n B h : Nat} (hN : 2000 ≤ N) (hn : n ≤ 9) (hB : B < 512) (hh : h < 512) : F_X3_playIn N (nI h) (nI n) (nI B) = some (nI (pl B h n)) := by
  have step : ∀ (d m v : Nat), v + d = n → d < m → L_X3_playIn_7 N (nI n) (nI B) (nI h) (fun u => some u) m (nI (pl B h v)) (nI (cnt B v)) (nI v) = some (nI (pl B h n)) := by
    intro d
    induction d with
    | zero =>
      intro m v hd hm
      obtain ⟨m, rfl⟩ : ∃ q, m = q + 1 := ⟨m - 1, by omega⟩
      rw [L_X3_playIn_7, if_nle (by omega) (by omega), if_pos (by omega), show v = n by omega]
    | succ d ih =>
      intro m v hd hm
      obtain ⟨m, rfl⟩ : ∃ q, m = q + 1 := ⟨m - 1, by omega⟩
      have hc := cnt_le B v
      rw [L_X3_playIn_7, if_nle (by omega) (by omega), if_neg (by omega), owner_N N hB (by omega), bit_N N (by omega) (by omega)]
      have h1 := ih m (v + 1) (by omega) (by omega)
      show (if nI (bt B v) = 1 then L_X3_playIn_7 N (nI n) (nI B) (nI h) (fun u => some u) m (nI (pl B h v) ||| (nI (bt h v) <<< (nI (cnt B v) &&& 31))) (nI (cnt B v) + 1) (nI v + 1) else L_X3_playIn_7 N (nI n) (nI B) (nI h) (fun u => some u) m (nI (pl B h v)) (nI (cnt B v)) (nI v + 1)) = _
      rw [or_bit (pl_lt B h v) (bt_lt h v) (by omega), nI_1, nI_1, show (1 : Int32) = nI 1 from rfl, if_neq (by have := bt_lt B v; omega) (by omega)]
      rw [show pl B h (v + 1) = pl B h v + (bt B v * bt h v) * 2 ^ cnt B v from rfl, show cnt B (v + 1) = cnt B v + bt B v from rfl] at h1
      rcases bt_01 B v with e | e
      · rw [e] at h1 ⊢
        simpa using h1
      · rw [e] at h1 ⊢
        simpa using h1
  exact step n N 0 (by omega) (by omega)
/-- a play is as the history h says, for the first v variables -/
def sA (B p h : Nat) : Nat → Bool
  | 0 => true
  | v + 1 => sA B p h v && (!decide (bt B v = 1) || decide (bt p (cnt B v) = bt h v))
theorem isAs_N {N v B p h : Nat} {s : Nat → Int32} (hN : 2000 ≤ N) (hs : s 1 = nI B) (hv : v ≤ 9) (hB : B < 512) (hp : p < 512) (hh : h < 512) : F_X5_isAs N (nI p) (nI v) (nI h) s = some (sA B p h v) := by
  have step : ∀ (d m k : Nat), k + d = v → d < m → L_X5_isAs_9 N s (nI p) (nI v) (nI h) (fun u => some u) m (sA B p h k) (nI (cnt B k)) (nI k) = some (sA B p h v) := by
    intro d
    induction d with
    | zero =>
      intro m k hd hm
      obtain ⟨m, rfl⟩ : ∃ q, m = q + 1 := ⟨m - 1, by omega⟩
      rw [L_X5_isAs_9, if_nle (by omega) (by omega), if_pos (by omega), show k = v by omega]
    | succ d ih =>
      intro m k hd hm
      obtain ⟨m, rfl⟩ : ∃ q, m = q + 1 := ⟨m - 1, by omega⟩
      have hc := cnt_le B k
      rw [L_X5_isAs_9, if_nle (by omega) (by omega), if_neg (by omega), own5_N N hs hB (by omega), shr_and (by omega) (by omega), shr_and (by omega) (by omega)]
      have h1 := ih m (k + 1) (by omega) (by omega)
      rw [show sA B p h (k + 1) = (sA B p h k && (!decide (bt B k = 1) || decide (bt p (cnt B k) = bt h k))) from rfl, show cnt B (k + 1) = cnt B k + bt B k from rfl] at h1
      show (if decide (bt B k = 1) = true then (if sA B p h k = true then (if nI (bt p (cnt B k)) = nI (bt h k) then L_X5_isAs_9 N s (nI p) (nI v) (nI h) (fun u => some u) m true (nI (cnt B k) + 1) (nI k + 1) else L_X5_isAs_9 N s (nI p) (nI v) (nI h) (fun u => some u) m false (nI (cnt B k) + 1) (nI k + 1)) else L_X5_isAs_9 N s (nI p) (nI v) (nI h) (fun u => some u) m false (nI (cnt B k) + 1) (nI k + 1)) else L_X5_isAs_9 N s (nI p) (nI v) (nI h) (fun u => some u) m (sA B p h k) (nI (cnt B k)) (nI k + 1)) = _
      rw [nI_1, nI_1, if_neq (by have := bt_lt p (cnt B k); omega) (by have := bt_lt h k; omega)]
      rcases bt_01 B k with e | e
      · rw [e] at h1 ⊢
        simpa using h1
      · rw [e] at h1 ⊢
        cases e2 : sA B p h k
        · rw [e2] at h1; simpa using h1
        · rw [e2] at h1
          by_cases e3 : bt p (cnt B k) = bt h k
          · simpa [e3] using h1
          · simpa [e3] using h1
  exact step v N 0 (by omega) (by omega)
theorem sA_iff (B p h : Nat) : ∀ v, sA B p h v = true ↔ p % 2 ^ cnt B v = pl B h v := by
  intro v
  induction v with
  | zero => show true = true ↔ p % 2 ^ 0 = 0; simp [Nat.mod_one]
  | succ v ih =>
    rw [show sA B p h (v + 1) = (sA B p h v && (!decide (bt B v = 1) || decide (bt p (cnt B v) = bt h v))) from rfl, show pl B h (v + 1) = pl B h v + (bt B v * bt h v) * 2 ^ cnt B v from rfl, show cnt B (v + 1) = cnt B v + bt B v from rfl]
    rcases bt_01 B v with e | e
    · rw [e]; simpa using ih
    · rw [e, Nat.mod_pow_succ]
      have h1 := pl_lt B h v
      have h2 : p % 2 ^ cnt B v < 2 ^ cnt B v := Nat.mod_lt _ (pw_pos _)
      rw [show p / 2 ^ cnt B v % 2 = bt p (cnt B v) from rfl]
      simp only [Bool.and_eq_true, ih, Nat.one_mul, decide_true, Bool.not_true, Bool.false_or, decide_eq_true_eq]
      have h3 := bt_lt p (cnt B v)
      have h4 := bt_lt h v
      generalize 2 ^ cnt B v = q at h1 h2 ⊢
      generalize bt p (cnt B v) = x at h3 ⊢
      generalize bt h v = y at h4 ⊢
      have hx : x = 0 ∨ x = 1 := by omega
      have hy : y = 0 ∨ y = 1 := by omega
      rcases hx with rfl | rfl <;> rcases hy with rfl | rfl <;> simp <;> omega
theorem sA_play {B p h n : Nat} (hp : p < 2 ^ cnt B n) : sA B p h n = decide (p = pl B h n) := by
  have h1 := sA_iff B p h n
  rw [Nat.mod_eq_of_lt hp] at h1
  by_cases e : p = pl B h n
  · rw [decide_eq_true e]; exact h1.mpr e
  · rw [decide_eq_false e]
    cases h2 : sA B p h n
    · rfl
    · exact absurd (h1.mp h2) e
