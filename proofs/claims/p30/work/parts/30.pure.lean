/-! THE PURE SIDE, the class alone (rows of whole) -/
theorem s31 : ∀ n, n < 32 → ((nI n &&& 31).toBitVec.smod 32).toNat = n := by decide +kernel
theorem shl1 : ∀ v, v < 16 → (1 : Int32) <<< (nI v &&& 31) = nI (2 ^ v) := by decide +kernel
theorem shl2 : ∀ v, v < 16 → (2 : Int32) <<< (nI v &&& 31) = nI (2 ^ (v + 1)) := by decide +kernel
theorem shl0 : ∀ v, v < 16 → (0 : Int32) <<< (nI v &&& 31) = nI 0 := by decide +kernel
def bt (x v : Nat) : Nat := x / 2 ^ v % 2
theorem bt_lt (x v : Nat) : bt x v < 2 := Nat.mod_lt _ (by decide)
theorem bt_01 (x v : Nat) : bt x v = 0 ∨ bt x v = 1 := by have := bt_lt x v; omega
theorem shr_and {x v : Nat} (hx : x < 2 ^ 31) (hv : v < 32) : (nI x >>> (nI v &&& 31)) &&& 1 = nI (bt x v) := by
  rw [pk_shrN hx (nI v &&& 31) v (s31 v hv)]
  rw [pk_andN (m := 1) (Nat.lt_of_le_of_lt (Nat.div_le_self _ _) (by omega)) 1 (by decide)]
  rfl
theorem shr_N {x v : Nat} (hx : x < 2 ^ 31) (hv : v < 32) : nI x >>> (nI v &&& 31) = nI (x / 2 ^ v) := pk_shrN hx (nI v &&& 31) v (s31 v hv)
theorem nI_or (a b : Nat) : nI a ||| nI b = nI (a ||| b) := by
  unfold nI
  apply Int32.toBitVec_inj.mp
  simp [Int32.toBitVec_or, BitVec.ofNat_or]
theorem nI_and (a b : Nat) : nI a &&& nI b = nI (a &&& b) := by
  unfold nI
  apply Int32.toBitVec_inj.mp
  simp [Int32.toBitVec_and, BitVec.ofNat_and]
theorem or_add {h b v : Nat} (hh : h < 2 ^ v) (hb : b < 2) : h ||| (b * 2 ^ v) = h + b * 2 ^ v := by
  have : b = 0 ∨ b = 1 := by omega
  rcases this with rfl | rfl
  · simp
  · have h1 := Nat.two_pow_add_eq_or_of_lt hh 1
    rw [Nat.mul_one] at h1
    rw [Nat.one_mul, Nat.or_comm, Nat.add_comm, h1]
theorem shlb {b v : Nat} (hb : b < 2) (hv : v < 16) : nI b <<< (nI v &&& 31) = nI (b * 2 ^ v) := by
  have : b = 0 ∨ b = 1 := by omega
  rcases this with rfl | rfl
  · rw [Nat.zero_mul]; exact shl0 v hv
  · rw [Nat.one_mul]; exact shl1 v hv
theorem or_bit {h b v : Nat} (hh : h < 2 ^ v) (hb : b < 2) (hv : v < 16) : nI h ||| (nI b <<< (nI v &&& 31)) = nI (h + b * 2 ^ v) := by
  rw [shlb hb hv, nI_or, or_add hh hb]
theorem n1 : (1 : Int32) = nI 1 := rfl
theorem n0 : (0 : Int32) = nI 0 := rfl
theorem nI_inj {a b : Nat} (ha : a < 2 ^ 31) (hb : b < 2 ^ 31) (h : nI a = nI b) : a = b := (nI_eq ha hb).mp h
theorem if_nle {α : Type} {a b : Nat} (ha : a < 2 ^ 31) (hb : b < 2 ^ 31) (x y : α) : (if nI a ≤ nI b then x else y) = if a ≤ b then x else y := by
  by_cases h : a ≤ b
  · rw [if_pos ((nI_leI ha hb).mpr h), if_pos h]
  · rw [if_neg (fun q => h ((nI_leI ha hb).mp q)), if_neg h]
theorem if_nlt {α : Type} {a b : Nat} (ha : a < 2 ^ 31) (hb : b < 2 ^ 31) (x y : α) : (if nI a < nI b then x else y) = if a < b then x else y := by
  by_cases h : a < b
  · rw [if_pos ((nI_ltI ha hb).mpr h), if_pos h]
  · rw [if_neg (fun q => h ((nI_ltI ha hb).mp q)), if_neg h]
theorem if_neq {α : Type} {a b : Nat} (ha : a < 2 ^ 31) (hb : b < 2 ^ 31) (x y : α) : (if nI a = nI b then x else y) = if a = b then x else y := by
  by_cases h : a = b
  · rw [h, if_pos rfl, if_pos rfl]
  · rw [if_neg (fun q => h ((nI_eq ha hb).mp q)), if_neg h]
theorem inb_f {j n : Nat} (h : j < n) (hn : n < 2 ^ 31) {α : Type} (x : Option α) : gd (inb (nI j) n) x = x := gd_t (inb_nI h hn)
theorem pw {v : Nat} (h : v ≤ 10) : 2 ^ v ≤ 1024 := Nat.le_trans (Nat.pow_le_pow_right (by decide) h) (by decide)
theorem pw9 {v : Nat} (h : v ≤ 9) : 2 ^ v ≤ 512 := Nat.le_trans (Nat.pow_le_pow_right (by decide) h) (by decide)
theorem pw_pos (v : Nat) : 0 < 2 ^ v := Nat.pow_pos (by decide)
def cnt (B : Nat) : Nat → Nat
  | 0 => 0
  | v + 1 => cnt B v + bt B v
def pc (B : Nat) : Nat := cnt B 9
theorem cnt_mono (B : Nat) : ∀ {a b : Nat}, a ≤ b → cnt B a ≤ cnt B b := by
  intro a b h
  induction b with
  | zero => rw [Nat.le_zero.mp h]; exact Nat.le_refl _
  | succ b ih =>
    rcases Nat.lt_or_ge a (b + 1) with h1 | h1
    · exact Nat.le_trans (ih (by omega)) (Nat.le_add_right _ _)
    · rw [show a = b + 1 by omega]; exact Nat.le_refl _
theorem cnt_le (B v : Nat) : cnt B v ≤ v := by
  induction v with
  | zero => exact Nat.le_refl _
  | succ v ih => have := bt_lt B v; show cnt B v + bt B v ≤ v + 1; omega
theorem bt_high {B n k : Nat} (hB : B < 2 ^ n) (h : n ≤ k) : bt B k = 0 := by
  unfold bt
  rw [Nat.div_eq_of_lt (Nat.lt_of_lt_of_le hB (Nat.pow_le_pow_right (by decide) h))]
theorem cnt_high {B n : Nat} (hB : B < 2 ^ n) : ∀ {k : Nat}, n ≤ k → cnt B k = cnt B n := by
  intro k h
  induction k with
  | zero => rw [Nat.le_zero.mp h]
  | succ k ih =>
    rcases Nat.lt_or_ge k n with h1 | h1
    · rw [show n = k + 1 by omega]
    · show cnt B k + bt B k = _
      rw [bt_high hB h1, ih h1, Nat.add_zero]
theorem bitCount_N (N : Nat) {B : Nat} (h : B < 512) : F_J6_bitCount_0f7a4 N (nI B) = some (nI (pc B)) := by
  have key : ∀ B, B < 512 → F_J6_bitCount_0f7a4 0 (nI B) = some (nI (pc B)) := by decide +kernel
  exact key B h
theorem read_N (N : Nat) {n k : Nat} (f : Nat → Int32) (hk : k < n) (hn : n < 2 ^ 31) : F_X4_read N n (nI k) f = some (f k) := by
  unfold F_X4_read
  rw [if_neg (nI_pos (by omega)), if_nle hn (by omega), if_neg (by omega), inb_f hk hn, nI_clamp (by omega)]
theorem write_N (N : Nat) {n k : Nat} (f : Nat → Int32) (x : Int32) (hk : k < n) (hn : n < 2 ^ 31) : F_X4_write N n (nI k) x f = some (upd f k x) := by
  unfold F_X4_write
  rw [if_neg (nI_pos (by omega)), if_nle hn (by omega), if_neg (by omega), inb_f hk hn, nI_clamp (by omega)]
theorem readL_N (N : Nat) {n k : Nat} (f : Nat → Int64) (hk : k < n) (hn : n < 2 ^ 31) : F_X4_readLong N n (nI k) f = some (f k) := by
  unfold F_X4_readLong
  rw [if_neg (nI_pos (by omega)), if_nle hn (by omega), if_neg (by omega), inb_f hk hn, nI_clamp (by omega)]
theorem writeL_N (N : Nat) {n k : Nat} (f : Nat → Int64) (x : Int64) (hk : k < n) (hn : n < 2 ^ 31) : F_X4_writeLong N n (nI k) x f = some (vp_updL f k x) := by
  unfold F_X4_writeLong
  rw [if_neg (nI_pos (by omega)), if_nle hn (by omega), if_neg (by omega), inb_f hk hn, nI_clamp (by omega)]
theorem bit_N (N : Nat) {x v : Nat} (hx : x < 2 ^ 31) (hv : v < 32) : F_X4_bit N (nI x) (nI v) = some (nI (bt x v)) := by
  unfold F_X4_bit
  rw [shr_and hx hv]
theorem owner_N (N : Nat) {B v : Nat} (hB : B < 512) (hv : v < 32) : F_X3_ownerOf N (nI v) (nI B) = some (nI (bt B v)) := by
  unfold F_X3_ownerOf
  rw [shr_and (by omega) hv]
/-- a clause is true -/
def cl1 (pos neg : Nat → Int32) (v : Int32) (k : Nat) : Bool := !decide ((v &&& pos k) = 0) || !decide (((v ^^^ (-1)) &&& neg k) = 0)
def hR (pos neg : Nat → Int32) (v : Int32) : Nat → Nat → Bool
  | _, 0 => true
  | k, d + 1 => cl1 pos neg v k && hR pos neg v (k + 1) d
theorem hR_congr {pos neg pos' neg' : Nat → Int32} (v : Int32) : ∀ (d k : Nat), (∀ i, k ≤ i → i < k + d → pos i = pos' i ∧ neg i = neg' i) → hR pos neg v k d = hR pos' neg' v k d := by
  intro d
  induction d with
  | zero => intro k _; rfl
  | succ d ih =>
    intro k h
    have h1 := h k (Nat.le_refl _) (by omega)
    show (cl1 pos neg v k && hR pos neg v (k + 1) d) = (cl1 pos' neg' v k && hR pos' neg' v (k + 1) d)
    rw [ih (k + 1) (fun i a b => h i (by omega) (by omega))]
    unfold cl1
    rw [h1.1, h1.2]
theorem holds_N {N C : Nat} (hN : 2000 ≤ N) (hC : C ≤ 20) (pos neg : Nat → Int32) (v : Int32) : F_X3_holds N v (nI C) pos neg = some (hR pos neg v 0 C) := by
  have step : ∀ (d n k : Nat), k + d = C → d < n → L_X3_holds_2 N (nI C) pos neg v (some true) n (nI k) = some (hR pos neg v k d) := by
    intro d
    induction d with
    | zero =>
      intro n k hd hn
      obtain ⟨n, rfl⟩ : ∃ q, n = q + 1 := ⟨n - 1, by omega⟩
      rw [L_X3_holds_2, if_nle (by omega) (by omega), if_pos (by omega)]
      rfl
    | succ d ih =>
      intro n k hd hn
      obtain ⟨n, rfl⟩ : ∃ q, n = q + 1 := ⟨n - 1, by omega⟩
      rw [L_X3_holds_2, if_nle (by omega) (by omega), if_neg (by omega), read_N N pos (by omega) (by decide), read_N N neg (by omega) (by decide), nI_1, ih n (k + 1) (by omega) (by omega)]
      show (if (v &&& pos k) = 0 then (if ((v ^^^ (-1)) &&& neg k) = 0 then some false else some (hR pos neg v (k + 1) d)) else some (hR pos neg v (k + 1) d)) = some (cl1 pos neg v k && hR pos neg v (k + 1) d)
      unfold cl1
      generalize (v ^^^ (-1)) &&& neg k = q2
      generalize v &&& pos k = q1
      by_cases h1 : q1 = 0
      · by_cases h2 : q2 = 0
        · simp [h1, h2]
        · simp [h1, h2]
      · simp [h1]
  unfold F_X3_holds
  exact step C N 0 (by omega) (by omega)
/-- the play in the values h of the first v variables -/
def pl (B h : Nat) : Nat → Nat
  | 0 => 0
  | v + 1 => pl B h v + (bt B v * bt h v) * 2 ^ cnt B v
theorem pl_lt (B h v : Nat) : pl B h v < 2 ^ cnt B v := by
  induction v with
  | zero => show 0 < 2 ^ 0; decide
  | succ v ih =>
    show pl B h v + (bt B v * bt h v) * 2 ^ cnt B v < 2 ^ (cnt B v + bt B v)
    rcases bt_01 B v with e | e
    · rw [e, Nat.zero_mul, Nat.zero_mul]; simpa using ih
    · rw [e, Nat.pow_succ, Nat.one_mul]
      have := bt_lt h v
      rcases bt_01 h v with e2 | e2 <;> rw [e2] <;> omega
theorem playIn_N {N n B h : Nat} (hN : 2000 ≤ N) (hn : n ≤ 9) (hB : B < 512) (hh : h < 512) : F_X3_playIn N (nI h) (nI n) (nI B) = some (nI (pl B h n)) := by
  have step : ∀ (d m v : Nat), v + d = n → d < m → L_X3_playIn_7 N (nI n) (nI B) (nI h) (fun u => some u) m (nI (pl B h v)) (nI (cnt B v)) (nI v) = some (nI (pl B h n)) := by
    intro d
    induction d with
    | zero =>
      intro m v hd hm
      obtain ⟨m, rfl⟩ : ∃ q, m = q + 1 := ⟨m - 1, by omega⟩
      rw [L_X3_playIn_7, if_nle (by omega) (by omega), if_pos (by omega), show v = n by omega]
    | succ d ih =>
      intro m v hd hm
      obtain ⟨m, rfl⟩ : ∃ q, m = q + 1 := ⟨m - 1, by omega⟩
      have hc := cnt_le B v
      rw [L_X3_playIn_7, if_nle (by omega) (by omega), if_neg (by omega), owner_N N hB (by omega), bit_N N (by omega) (by omega)]
      have h1 := ih m (v + 1) (by omega) (by omega)
      show (if nI (bt B v) = 1 then L_X3_playIn_7 N (nI n) (nI B) (nI h) (fun u => some u) m (nI (pl B h v) ||| (nI (bt h v) <<< (nI (cnt B v) &&& 31))) (nI (cnt B v) + 1) (nI v + 1) else L_X3_playIn_7 N (nI n) (nI B) (nI h) (fun u => some u) m (nI (pl B h v)) (nI (cnt B v)) (nI v + 1)) = _
      rw [or_bit (pl_lt B h v) (bt_lt h v) (by omega), nI_1, nI_1, show (1 : Int32) = nI 1 from rfl, if_neq (by have := bt_lt B v; omega) (by omega)]
      rw [show pl B h (v + 1) = pl B h v + (bt B v * bt h v) * 2 ^ cnt B v from rfl, show cnt B (v + 1) = cnt B v + bt B v from rfl] at h1
      rcases bt_01 B v with e | e
      · rw [e] at h1 ⊢
        simpa using h1
      · rw [e] at h1 ⊢
        simpa using h1
  exact step n N 0 (by omega) (by omega)
/-- a play is as the history h says, for the first v variables -/
def sA (B p h : Nat) : Nat → Bool
  | 0 => true
  | v + 1 => sA B p h v && (!decide (bt B v = 1) || decide (bt p (cnt B v) = bt h v))
theorem sA_iff (B p h : Nat) : ∀ v, sA B p h v = true ↔ p % 2 ^ cnt B v = pl B h v := by
  intro v
  induction v with
  | zero => show true = true ↔ p % 2 ^ 0 = 0; simp [Nat.mod_one]
  | succ v ih =>
    rw [show sA B p h (v + 1) = (sA B p h v && (!decide (bt B v = 1) || decide (bt p (cnt B v) = bt h v))) from rfl, show pl B h (v + 1) = pl B h v + (bt B v * bt h v) * 2 ^ cnt B v from rfl, show cnt B (v + 1) = cnt B v + bt B v from rfl]
    rcases bt_01 B v with e | e
    · rw [e]; simpa using ih
    · rw [e, Nat.mod_pow_succ]
      have h1 := pl_lt B h v
      have h2 : p % 2 ^ cnt B v < 2 ^ cnt B v := Nat.mod_lt _ (pw_pos _)
      rw [show p / 2 ^ cnt B v % 2 = bt p (cnt B v) from rfl]
      simp only [Bool.and_eq_true, ih, Nat.one_mul, decide_true, Bool.not_true, Bool.false_or, decide_eq_true_eq]
      have h3 := bt_lt p (cnt B v)
      have h4 := bt_lt h v
      generalize 2 ^ cnt B v = q at h1 h2 ⊢
      generalize bt p (cnt B v) = x at h3 ⊢
      generalize bt h v = y at h4 ⊢
      have hx : x = 0 ∨ x = 1 := by omega
      have hy : y = 0 ∨ y = 1 := by omega
      rcases hx with rfl | rfl <;> rcases hy with rfl | rfl <;> simp <;> omega
theorem sA_play {B p h n : Nat} (hp : p < 2 ^ cnt B n) : sA B p h n = decide (p = pl B h n) := by
  have h1 := sA_iff B p h n
  rw [Nat.mod_eq_of_lt hp] at h1
  by_cases e : p = pl B h n
  · rw [decide_eq_true e]; exact h1.mpr e
  · rw [decide_eq_false e]
    cases h2 : sA B p h n
    · rfl
    · exact absurd (h1.mp h2) e
def gv (leaf : Nat → Bool) (B : Nat) : Nat → Nat → Nat → Bool
  | 0, _, h => leaf h
  | d + 1, v, h => if bt B v = 1 then (gv leaf B d (v + 1) h && gv leaf B d (v + 1) (h + 2 ^ v)) else (gv leaf B d (v + 1) h || gv leaf B d (v + 1) (h + 2 ^ v))
theorem gv_congr {leaf leaf' : Nat → Bool} (B : Nat) {n : Nat} (hl : ∀ h, h < 2 ^ n → leaf h = leaf' h) : ∀ (d v h : Nat), v + d = n → h < 2 ^ v → gv leaf B d v h = gv leaf' B d v h := by
  intro d
  induction d with
  | zero => intro v h hd hh; exact hl h (by rw [← hd, Nat.add_zero]; exact hh)
  | succ d ih =>
    intro v h hd hh
    have h1 : 2 ^ (v + 1) = 2 ^ v + 2 ^ v := by rw [Nat.pow_succ]; omega
    show (if bt B v = 1 then (gv leaf B d (v + 1) h && gv leaf B d (v + 1) (h + 2 ^ v)) else (gv leaf B d (v + 1) h || gv leaf B d (v + 1) (h + 2 ^ v))) = (if bt B v = 1 then (gv leaf' B d (v + 1) h && gv leaf' B d (v + 1) (h + 2 ^ v)) else (gv leaf' B d (v + 1) h || gv leaf' B d (v + 1) (h + 2 ^ v)))
    rw [ih (v + 1) h (by omega) (by omega), ih (v + 1) (h + 2 ^ v) (by omega) (by omega)]
theorem gv_step (leaf : Nat → Bool) (B : Nat) {n v h : Nat} (hv : v < n) : gv leaf B (n - v) v h = if bt B v = 1 then (gv leaf B (n - (v + 1)) (v + 1) h && gv leaf B (n - (v + 1)) (v + 1) (h + 2 ^ v)) else (gv leaf B (n - (v + 1)) (v + 1) h || gv leaf B (n - (v + 1)) (v + 1) (h + 2 ^ v)) := by
  rw [show n - v = (n - (v + 1)) + 1 by omega]
  rfl
theorem pw_le {a b : Nat} (h : a ≤ b) : 2 ^ a ≤ 2 ^ b := Nat.pow_le_pow_right (by decide) h
theorem xm1 (k : Nat) : nI (k + 1) - 1 = nI k := nI_pred k
theorem xm2 (k : Nat) : nI k + (-1) = nI k - 1 := by
  apply Int32.toBitVec_inj.mp
  simp [BitVec.sub_eq_add_neg]
theorem xm0 : nI 0 - 1 < 0 := by decide
theorem tbit (S k : Nat) : S.testBit k = decide (bt S k = 1) := by
  rw [Nat.testBit_eq_decide_div_mod_eq]; rfl
/-- a leaf against the set S: its play isn't in S, or the formula is true -/
def lfS (B n : Nat) (mf : Nat → Bool) (S h : Nat) : Bool := decide (bt S (pl B h n) = 0) || mf h
/-- the values when the builder answers the play p by the table g (position, history) -/
def an (g : Nat → Nat → Bool) (B p : Nat) : Nat → Nat
  | 0 => 0
  | v + 1 => an g B p v + (if bt B v = 1 then bt p (cnt B v) else if g (v + 1) (an g B p v) = true then 0 else 1) * 2 ^ v
theorem an_lt (g : Nat → Nat → Bool) (B p v : Nat) : an g B p v < 2 ^ v := by
  induction v with
  | zero => show 0 < 2 ^ 0; decide
  | succ v ih =>
    show an g B p v + (if bt B v = 1 then bt p (cnt B v) else if g (v + 1) (an g B p v) = true then 0 else 1) * 2 ^ v < 2 ^ (v + 1)
    have h1 : (if bt B v = 1 then bt p (cnt B v) else if g (v + 1) (an g B p v) = true then 0 else 1) < 2 := by
      have := bt_lt p (cnt B v)
      split
      · exact this
      · split <;> decide
    generalize (if bt B v = 1 then bt p (cnt B v) else if g (v + 1) (an g B p v) = true then 0 else 1) = x at h1 ⊢
    rw [Nat.pow_succ]
    have : x = 0 ∨ x = 1 := by omega
    rcases this with rfl | rfl <;> omega
theorem an_congr {g g' : Nat → Nat → Bool} (B p : Nat) {n : Nat} (h : ∀ v, v < n → ∀ k, k < 2 ^ (v + 1) → g (v + 1) k = g' (v + 1) k) : ∀ v, v ≤ n → an g B p v = an g' B p v := by
  intro v
  induction v with
  | zero => intro _; rfl
  | succ v ih =>
    intro hv
    show an g B p v + (if bt B v = 1 then bt p (cnt B v) else if g (v + 1) (an g B p v) = true then 0 else 1) * 2 ^ v = an g' B p v + (if bt B v = 1 then bt p (cnt B v) else if g' (v + 1) (an g' B p v) = true then 0 else 1) * 2 ^ v
    rw [ih (by omega), h v (by omega) _ (Nat.lt_of_lt_of_le (an_lt g' B p v) (pw_le (by omega)))]
def bw (x : Int64) (j : Nat) : Bool := x.toBitVec.getLsbD j
theorem bw_and (x y : Int64) (j : Nat) : bw (x &&& y) j = (bw x j && bw y j) := by
  unfold bw; rw [Int64.toBitVec_and, BitVec.getLsbD_and]
theorem bw_or (x y : Int64) (j : Nat) : bw (x ||| y) j = (bw x j || bw y j) := by
  unfold bw; rw [Int64.toBitVec_or, BitVec.getLsbD_or]
theorem bw_m1 : ∀ j, j < 64 → bw (-1) j = true := by decide +kernel
theorem s63 : ∀ j, j < 64 → (((nI j).toInt64 &&& 63).toBitVec.smod 64).toNat = j := by decide +kernel
theorem shr64 (x : Int64) {j : Nat} (hj : j < 64) : ((x >>> ((nI j).toInt64 &&& 63)) &&& 1 = 1) ↔ bw x j = true := by
  rw [← Int64.toBitVec_inj, Int64.toBitVec_and, Int64.toBitVec_shiftRight]
  rw [BitVec.sshiftRight_eq', s63 j hj]
  rw [show (1 : Int64).toBitVec = 1#64 from rfl, BitVec.and_one_eq_setWidth_ofBool_getLsbD, BitVec.getLsbD_sshiftRight]
  unfold bw
  simp only [Nat.add_zero, show ¬ (64 ≤ 0) by decide, decide_false, Bool.not_false, Bool.true_and, hj, if_true]
  cases x.toBitVec.getLsbD j <;> decide
theorem wordOf_N (N : Nat) {v h : Nat} (hv : v < 16) : F_X0_wordOf N (nI v) (nI h) = some (nI ((2 ^ v + h) * 4)) := by
  unfold F_X0_wordOf
  rw [shl1 v hv, nI_add, show (4 : Int32) = nI 4 from rfl, pk_mul]
theorem has_N (N : Nat) {v h S : Nat} (bits : Nat → Int64) (hv : v ≤ 9) (hh : h < 2 ^ v) (hS : S < 256) : F_X0_has N (nI v) (nI h) (nI S) bits = some (bw (bits ((2 ^ v + h) * 4 + S / 64)) (S % 64)) := by
  have p1 := pw9 hv
  have p2 : S / 64 < 4 := by omega
  unfold F_X0_has
  rw [wordOf_N N (by omega)]
  show ob1 (F_X4_readLong N 4096 (nI ((2 ^ v + h) * 4) + (nI S >>> (nI 6 &&& 31))) bits) _ = _
  rw [shr_N (by omega) (by decide), nI_add, show S / 2 ^ 6 = S / 64 from rfl, readL_N N bits (by omega) (by decide)]
  show (if lg_cmp ((bits ((2 ^ v + h) * 4 + S / 64) >>> ((nI S &&& 63).toInt64 &&& 63)) &&& 1) 1 = (0 : Int32) then some true else some false) = _
  rw [pk_andN (by omega) 6 (m := 63) (by decide), show S % 2 ^ 6 = S % 64 from rfl]
  have h1 := shr64 (bits ((2 ^ v + h) * 4 + S / 64)) (show S % 64 < 64 from Nat.mod_lt _ (by decide))
  by_cases e : bw (bits ((2 ^ v + h) * 4 + S / 64)) (S % 64) = true
  · rw [if_pos ((lg_cmp_eq _ _).mpr (h1.mpr e)), e]
  · rw [if_neg (fun q => e (h1.mp ((lg_cmp_eq _ _).mp q))), Bool.eq_false_iff.mpr e]
def swv (p w : Nat) : Int64 := (F_X0_setsWithout 0 (nI p) (nI w)).getD 0
theorem sw_N (N : Nat) {p w : Nat} (hp : p < 8) (hw : w < 4) : F_X0_setsWithout N (nI p) (nI w) = some (swv p w) := by
  have key : ∀ p, p < 8 → ∀ w, w < 4 → F_X0_setsWithout 0 (nI p) (nI w) = some (swv p w) := by decide +kernel
  exact key p hp w hw
theorem sw_bit : ∀ p, p < 8 → ∀ w, w < 4 → ∀ j, j < 64 → bw (swv p w) j = decide (bt (64 * w + j) p = 0) := by decide +kernel
def B4 (b b' : Nat → Int64) (i : Nat) (val : Nat → Nat → Bool) : Prop := (∀ k, k < i ∨ i + 4 ≤ k → b' k = b k) ∧ ∀ w, w < 4 → ∀ j, j < 64 → bw (b' (i + w)) j = val w j
theorem updL_s (f : Nat → Int64) (k : Nat) (x : Int64) : vp_updL f k x k = x := by simp [vp_updL]
theorem updL_n (f : Nat → Int64) {k j : Nat} (x : Int64) (h : j ≠ k) : vp_updL f k x j = f j := by simp [vp_updL, h]
/-- the formula at the values h -/
def mC (pos neg : Nat → Int32) (C h : Nat) : Bool := hR pos neg (nI h) 0 C
theorem setEnd_N {N n B C h : Nat} {pos neg : Nat → Int32} (hN : 2000 ≤ N) (hn : n ≤ 9) (hB : B < 2 ^ n) (hp : pc B ≤ 3) (hC : C ≤ 20) (hh : h < 2 ^ n) (bits : Nat → Int64) : ∃ b', F_X0_setEnd N (nI h) bits (nI n) (nI B) (nI C) pos neg = some b' ∧ B4 bits b' ((2 ^ n + h) * 4) (fun w j => lfS B n (mC pos neg C) (64 * w + j) h) := by
  have p1 := pw9 hn
  have hB9 : B < 512 := by omega
  have hcn : cnt B n = pc B := (cnt_high hB hn).symm
  have hpl : pl B h n < 8 := Nat.lt_of_lt_of_le (pl_lt B h n) (by rw [hcn]; exact Nat.le_trans (pw_le hp) (by decide))
  unfold F_X0_setEnd
  rw [wordOf_N N (by omega), holds_N hN hC, playIn_N hN hn hB9 (by omega)]
  show ∃ b', L_X0_setEnd_26 N (nI ((2 ^ n + h) * 4)) (mC pos neg C h) (nI (pl B h n)) (fun t_bits_9 => some t_bits_9) N (nI 0) bits = some b' ∧ _
  have step : ∀ (d m w : Nat) (b : Nat → Int64), w + d = 4 → d < m → (∀ k, k < (2 ^ n + h) * 4 ∨ (2 ^ n + h) * 4 + 4 ≤ k → b k = bits k) → (∀ w', w' < w → ∀ j, j < 64 → bw (b ((2 ^ n + h) * 4 + w')) j = lfS B n (mC pos neg C) (64 * w' + j) h) → ∃ b', L_X0_setEnd_26 N (nI ((2 ^ n + h) * 4)) (mC pos neg C h) (nI (pl B h n)) (fun t_bits_9 => some t_bits_9) m (nI w) b = some b' ∧ B4 bits b' ((2 ^ n + h) * 4) (fun w j => lfS B n (mC pos neg C) (64 * w + j) h) := by
    intro d
    induction d with
    | zero =>
      intro m w b hd hm h1 h2
      obtain ⟨m, rfl⟩ : ∃ q, m = q + 1 := ⟨m - 1, by omega⟩
      refine ⟨b, ?_, h1, fun w' q => h2 w' (by omega)⟩
      rw [L_X0_setEnd_26, show (4 : Int32) = nI 4 from rfl, if_nle (by omega) (by omega), if_pos (by omega)]
    | succ d ih =>
      intro m w b hd hm h1 h2
      obtain ⟨m, rfl⟩ : ∃ q, m = q + 1 := ⟨m - 1, by omega⟩
      have key : ∃ x, L_X0_setEnd_26 N (nI ((2 ^ n + h) * 4)) (mC pos neg C h) (nI (pl B h n)) (fun t_bits_9 => some t_bits_9) (m + 1) (nI w) b = L_X0_setEnd_26 N (nI ((2 ^ n + h) * 4)) (mC pos neg C h) (nI (pl B h n)) (fun t_bits_9 => some t_bits_9) m (nI (w + 1)) (vp_updL b ((2 ^ n + h) * 4 + w) x) ∧ ∀ j, j < 64 → bw x j = lfS B n (mC pos neg C) (64 * w + j) h := by
        rw [L_X0_setEnd_26, show (4 : Int32) = nI 4 from rfl, if_nle (by omega) (by omega), if_neg (by omega), sw_N N hpl (by omega), nI_add, nI_1]
        unfold lfS
        cases e : mC pos neg C h
        · refine ⟨swv (pl B h n) w, ?_, fun j hj => ?_⟩
          · show ob1 (F_X4_writeLong N 4096 (nI ((2 ^ n + h) * 4 + w)) (swv (pl B h n) w) b) _ = _
            rw [writeL_N N b _ (by omega) (by decide)]
            rfl
          · rw [sw_bit _ hpl _ (by omega) _ hj, Bool.or_false]
        · refine ⟨-1, ?_, fun j hj => ?_⟩
          · show ob1 (F_X4_writeLong N 4096 (nI ((2 ^ n + h) * 4 + w)) (-1) b) _ = _
            rw [writeL_N N b _ (by omega) (by decide)]
            rfl
          · rw [bw_m1 j hj, Bool.or_true]
      obtain ⟨x, k1, k2⟩ := key
      rw [k1]
      refine ih m (w + 1) _ (by omega) (by omega) (fun k hk => ?_) (fun w' q j hj => ?_)
      · rw [updL_n _ _ (by omega)]; exact h1 k hk
      · by_cases e : w' = w
        · rw [e, updL_s]; exact k2 j hj
        · rw [updL_n _ _ (by omega)]; exact h2 w' (by omega) j hj
  exact step 4 N 0 bits (by omega) (by omega) (fun k _ => rfl) (fun w' q => absurd q (Nat.not_lt_zero _))
theorem join_N {N n v h : Nat} (hN : 2000 ≤ N) (hn : n ≤ 9) (hv : v < n) (hh : h < 2 ^ v) (own : Bool) (bits : Nat → Int64) : ∃ b', F_X0_join N (nI v) (nI h) own bits = some b' ∧ B4 bits b' ((2 ^ v + h) * 4) (fun w j => if own = true then (bw (bits ((2 ^ (v + 1) + h) * 4 + w)) j && bw (bits ((2 ^ (v + 1) + (h + 2 ^ v)) * 4 + w)) j) else (bw (bits ((2 ^ (v + 1) + h) * 4 + w)) j || bw (bits ((2 ^ (v + 1) + (h + 2 ^ v)) * 4 + w)) j)) := by
  have p1 : 2 ^ v ≤ 256 := Nat.le_trans (pw_le (show v ≤ 8 by omega)) (by decide)
  have p2 : 2 ^ (v + 1) = 2 ^ v + 2 ^ v := by rw [Nat.pow_succ]; omega
  have ho : nI h ||| ((1 : Int32) <<< (nI v &&& 31)) = nI (h + 2 ^ v) := by
    have := or_bit (b := 1) hh (by decide) (show v < 16 by omega)
    rw [Nat.one_mul] at this
    exact this
  unfold F_X0_join
  rw [wordOf_N N (by omega), nI_1, wordOf_N N (by omega), ho, wordOf_N N (by omega)]
  show ∃ b', L_X0_join_32 N own (nI ((2 ^ v + h) * 4)) (nI ((2 ^ (v + 1) + h) * 4)) (nI ((2 ^ (v + 1) + (h + 2 ^ v)) * 4)) (fun t_bits_9 => some t_bits_9) N (nI 0) bits = some b' ∧ _
  have step : ∀ (d m w : Nat) (b : Nat → Int64), w + d = 4 → d < m → (∀ k, k < (2 ^ v + h) * 4 ∨ (2 ^ v + h) * 4 + 4 ≤ k → b k = bits k) → (∀ w', w' < w → ∀ j, j < 64 → bw (b ((2 ^ v + h) * 4 + w')) j = if own = true then (bw (bits ((2 ^ (v + 1) + h) * 4 + w')) j && bw (bits ((2 ^ (v + 1) + (h + 2 ^ v)) * 4 + w')) j) else (bw (bits ((2 ^ (v + 1) + h) * 4 + w')) j || bw (bits ((2 ^ (v + 1) + (h + 2 ^ v)) * 4 + w')) j)) → ∃ b', L_X0_join_32 N own (nI ((2 ^ v + h) * 4)) (nI ((2 ^ (v + 1) + h) * 4)) (nI ((2 ^ (v + 1) + (h + 2 ^ v)) * 4)) (fun t_bits_9 => some t_bits_9) m (nI w) b = some b' ∧ B4 bits b' ((2 ^ v + h) * 4) (fun w j => if own = true then (bw (bits ((2 ^ (v + 1) + h) * 4 + w)) j && bw (bits ((2 ^ (v + 1) + (h + 2 ^ v)) * 4 + w)) j) else (bw (bits ((2 ^ (v + 1) + h) * 4 + w)) j || bw (bits ((2 ^ (v + 1) + (h + 2 ^ v)) * 4 + w)) j)) := by
    intro d
    induction d with
    | zero =>
      intro m w b hd hm h1 h2
      obtain ⟨m, rfl⟩ : ∃ q, m = q + 1 := ⟨m - 1, by omega⟩
      refine ⟨b, ?_, h1, fun w' q => h2 w' (by omega)⟩
      rw [L_X0_join_32, show (4 : Int32) = nI 4 from rfl, if_nle (by omega) (by omega), if_pos (by omega)]
    | succ d ih =>
      intro m w b hd hm h1 h2
      obtain ⟨m, rfl⟩ : ∃ q, m = q + 1 := ⟨m - 1, by omega⟩
      have key : ∃ x, L_X0_join_32 N own (nI ((2 ^ v + h) * 4)) (nI ((2 ^ (v + 1) + h) * 4)) (nI ((2 ^ (v + 1) + (h + 2 ^ v)) * 4)) (fun t_bits_9 => some t_bits_9) (m + 1) (nI w) b = L_X0_join_32 N own (nI ((2 ^ v + h) * 4)) (nI ((2 ^ (v + 1) + h) * 4)) (nI ((2 ^ (v + 1) + (h + 2 ^ v)) * 4)) (fun t_bits_9 => some t_bits_9) m (nI (w + 1)) (vp_updL b ((2 ^ v + h) * 4 + w) x) ∧ ∀ j, j < 64 → bw x j = if own = true then (bw (bits ((2 ^ (v + 1) + h) * 4 + w)) j && bw (bits ((2 ^ (v + 1) + (h + 2 ^ v)) * 4 + w)) j) else (bw (bits ((2 ^ (v + 1) + h) * 4 + w)) j || bw (bits ((2 ^ (v + 1) + (h + 2 ^ v)) * 4 + w)) j) := by
        rw [L_X0_join_32, show (4 : Int32) = nI 4 from rfl, if_nle (by omega) (by omega), if_neg (by omega), nI_add, nI_add, nI_add, nI_1, readL_N N b (by omega) (by decide), readL_N N b (by omega) (by decide), h1 ((2 ^ (v + 1) + h) * 4 + w) (by omega), h1 ((2 ^ (v + 1) + (h + 2 ^ v)) * 4 + w) (by omega)]
        cases own
        · refine ⟨bits ((2 ^ (v + 1) + h) * 4 + w) ||| bits ((2 ^ (v + 1) + (h + 2 ^ v)) * 4 + w), ?_, fun j hj => ?_⟩
          · show ob1 (F_X4_writeLong N 4096 (nI ((2 ^ v + h) * 4 + w)) (bits ((2 ^ (v + 1) + h) * 4 + w) ||| bits ((2 ^ (v + 1) + (h + 2 ^ v)) * 4 + w)) b) _ = _
            rw [writeL_N N b _ (by omega) (by decide)]
            rfl
          · rw [bw_or]; rfl
        · refine ⟨bits ((2 ^ (v + 1) + h) * 4 + w) &&& bits ((2 ^ (v + 1) + (h + 2 ^ v)) * 4 + w), ?_, fun j hj => ?_⟩
          · show ob1 (F_X4_writeLong N 4096 (nI ((2 ^ v + h) * 4 + w)) (bits ((2 ^ (v + 1) + h) * 4 + w) &&& bits ((2 ^ (v + 1) + (h + 2 ^ v)) * 4 + w)) b) _ = _
            rw [writeL_N N b _ (by omega) (by decide)]
            rfl
          · rw [bw_and]; rfl
      obtain ⟨x, k1, k2⟩ := key
      rw [k1]
      refine ih m (w + 1) _ (by omega) (by omega) (fun k hk => ?_) (fun w' q j hj => ?_)
      · rw [updL_n _ _ (by omega)]; exact h1 k hk
      · by_cases e : w' = w
        · rw [e, updL_s]; exact k2 j hj
        · rw [updL_n _ _ (by omega)]; exact h2 w' (by omega) j hj
  exact step 4 N 0 bits (by omega) (by omega) (fun k _ => rfl) (fun w' q => absurd q (Nat.not_lt_zero _))
/-- the bits from position v on -/
def BT (mf : Nat → Bool) (B n v : Nat) (b : Nat → Int64) : Prop := ∀ v', v ≤ v' → v' ≤ n → ∀ h, h < 2 ^ v' → ∀ w, w < 4 → ∀ j, j < 64 → bw (b ((2 ^ v' + h) * 4 + w)) j = gv (lfS B n mf (64 * w + j)) B (n - v') v' h
theorem bt_done {mf : Nat → Bool} {B n v : Nat} {b : Nat → Int64} (h : BT mf B n (v + 1) b) (h2 : ∀ h', h' < 2 ^ v → ∀ w, w < 4 → ∀ j, j < 64 → bw (b ((2 ^ v + h') * 4 + w)) j = gv (lfS B n mf (64 * w + j)) B (n - v) v h') : BT mf B n v b := fun v' a1 a2 h' a3 => by
  rcases Nat.lt_or_ge v v' with q | q
  · exact h v' q a2 h' a3
  · have : v' = v := by omega
    subst this
    exact h2 h' a3
theorem bup69 {N n B v : Nat} (mf : Nat → Bool) (hN : 2000 ≤ N) (hn : n ≤ 9) (hv : v < n) (kont : (Nat → Int64) → Option ((Nat → Int64) × Bool)) : ∀ (d m h : Nat) (b : Nat → Int64), h + d = 2 ^ v → d < m → BT mf B n (v + 1) b → (∀ h', h' < h → ∀ w, w < 4 → ∀ j, j < 64 → bw (b ((2 ^ v + h') * 4 + w)) j = gv (lfS B n mf (64 * w + j)) B (n - v) v h') → ∃ b', L_X0_bringUpToDate_69 N (nI v) kont m (decide (bt B v = 1)) (nI h) b = kont b' ∧ BT mf B n v b' := by
  have p1 : 2 ^ v ≤ 256 := Nat.le_trans (pw_le (show v ≤ 8 by omega)) (by decide)
  have p2 : 2 ^ (v + 1) = 2 ^ v + 2 ^ v := by rw [Nat.pow_succ]; omega
  intro d
  induction d with
  | zero =>
    intro m h b hd hm hT hb
    obtain ⟨m, rfl⟩ : ∃ q, m = q + 1 := ⟨m - 1, by omega⟩
    refine ⟨b, ?_, bt_done hT (fun h' q => hb h' (by omega))⟩
    rw [L_X0_bringUpToDate_69, shl1 v (by omega), if_nle (by omega) (by omega), if_pos (by omega)]
  | succ d ih =>
    intro m h b hd hm hT hb
    obtain ⟨m, rfl⟩ : ∃ q, m = q + 1 := ⟨m - 1, by omega⟩
    obtain ⟨b1, e1, t1, t2⟩ := join_N hN hn hv (show h < 2 ^ v by omega) (decide (bt B v = 1)) b
    rw [L_X0_bringUpToDate_69, shl1 v (by omega), if_nle (by omega) (by omega), if_neg (by omega), e1, nI_1]
    refine ih m (h + 1) b1 (by omega) (by omega) (fun v' a1 a2 h' a3 w hw j hj => ?_) (fun h' q w hw j hj => ?_)
    · have h4 : 2 ^ (v + 1) ≤ 2 ^ v' := pw_le a1
      rw [t1 _ (by omega)]
      exact hT v' a1 a2 h' a3 w hw j hj
    · by_cases e : h' = h
      · subst e
        refine (t2 w hw j hj).trans ?_
        show (if decide (bt B v = 1) = true then (bw (b ((2 ^ (v + 1) + h') * 4 + w)) j && bw (b ((2 ^ (v + 1) + (h' + 2 ^ v)) * 4 + w)) j) else (bw (b ((2 ^ (v + 1) + h') * 4 + w)) j || bw (b ((2 ^ (v + 1) + (h' + 2 ^ v)) * 4 + w)) j)) = _
        rw [hT (v + 1) (Nat.le_refl _) hv h' (by omega) w hw j hj, hT (v + 1) (Nat.le_refl _) hv (h' + 2 ^ v) (by omega) w hw j hj, gv_step _ B hv]
        by_cases e2 : bt B v = 1
        · rw [decide_eq_true e2, if_pos rfl, if_pos e2]
        · rw [decide_eq_false e2, if_neg e2]; rfl
      · rw [t1 _ (by omega)]
        exact hb h' (by omega) w hw j hj
theorem bup46 {N n B : Nat} (mf : Nat → Bool) (hN : 2000 ≤ N) (hn : n ≤ 9) (hB : B < 512) (kont : (Nat → Int64) → Option ((Nat → Int64) × Bool)) : ∀ (k m : Nat) (b : Nat → Int64), k ≤ n → k < m → BT mf B n k b → ∃ b', L_X0_bringUpToDate_46 N (nI B) kont m (nI k - 1) b = kont b' ∧ BT mf B n 0 b' := by
  intro k
  induction k with
  | zero =>
    intro m b hk hm hT
    obtain ⟨m, rfl⟩ : ∃ q, m = q + 1 := ⟨m - 1, by omega⟩
    refine ⟨b, ?_, hT⟩
    rw [L_X0_bringUpToDate_46, if_pos xm0]
  | succ k ih =>
    intro m b hk hm hT
    obtain ⟨m, rfl⟩ : ∃ q, m = q + 1 := ⟨m - 1, by omega⟩
    have p1 := pw9 (show k ≤ 9 by omega)
    rw [L_X0_bringUpToDate_46, xm1, if_neg (nI_pos (by omega)), xm2, owner_N N hB (by omega)]
    show ∃ b', (if nI (bt B k) = nI 1 then L_X0_bringUpToDate_69 N (nI k) (fun t_bits_25 => L_X0_bringUpToDate_46 N (nI B) kont m (nI k - 1) t_bits_25) N true (nI 0) b else L_X0_bringUpToDate_69 N (nI k) (fun t_bits_18 => L_X0_bringUpToDate_46 N (nI B) kont m (nI k - 1) t_bits_18) N false (nI 0) b) = kont b' ∧ BT mf B n 0 b'
    obtain ⟨b1, e1, t1⟩ := bup69 (N := N) (B := B) mf hN hn (show k < n by omega) (fun t_bits => L_X0_bringUpToDate_46 N (nI B) kont m (nI k - 1) t_bits) (2 ^ k) N 0 b (by omega) (by omega) hT (fun h' q => absurd q (Nat.not_lt_zero _))
    have hbl := bt_lt B k
    rw [if_neq (by omega) (by omega)]
    by_cases e : bt B k = 1
    · rw [decide_eq_true e] at e1
      rw [if_pos e, e1]
      exact ih m b1 (by omega) (by omega) t1
    · rw [decide_eq_false e] at e1
      rw [if_neg e, e1]
      exact ih m b1 (by omega) (by omega) t1
theorem bring_N {N n B C : Nat} {pos neg : Nat → Int32} (hN : 2000 ≤ N) (hn : n ≤ 9) (hB : B < 2 ^ n) (hp : pc B ≤ 3) (hC : C ≤ 20) (bits : Nat → Int64) (st : Bool) (hst : st = true ∨ BT (mC pos neg C) B n 0 bits) : ∃ b', F_X0_bringUpToDate N bits st (nI n) (nI B) (nI C) pos neg = some (b', false) ∧ BT (mC pos neg C) B n 0 b' := by
  have p1 := pw9 hn
  unfold F_X0_bringUpToDate
  cases st
  · rcases hst with q | q
    · cases q
    · exact ⟨bits, rfl, q⟩
  · rw [if_pos rfl]
    have step : ∀ (kont : (Nat → Int64) → Option ((Nat → Int64) × Bool)) (d m h : Nat) (b : Nat → Int64), h + d = 2 ^ n → d < m → (∀ h', h' < h → ∀ w, w < 4 → ∀ j, j < 64 → bw (b ((2 ^ n + h') * 4 + w)) j = lfS B n (mC pos neg C) (64 * w + j) h') → ∃ b', L_X0_bringUpToDate_22 N (nI n) (nI B) (nI C) pos neg kont m (nI h) b = kont b' ∧ ∀ h', h' < 2 ^ n → ∀ w, w < 4 → ∀ j, j < 64 → bw (b' ((2 ^ n + h') * 4 + w)) j = lfS B n (mC pos neg C) (64 * w + j) h' := by
      intro kont d
      induction d with
      | zero =>
        intro m h b hd hm hb
        obtain ⟨m, rfl⟩ : ∃ q, m = q + 1 := ⟨m - 1, by omega⟩
        refine ⟨b, ?_, fun h' q => hb h' (by omega)⟩
        rw [L_X0_bringUpToDate_22, shl1 n (by omega), if_nle (by omega) (by omega), if_pos (by omega)]
      | succ d ih =>
        intro m h b hd hm hb
        obtain ⟨m, rfl⟩ : ∃ q, m = q + 1 := ⟨m - 1, by omega⟩
        obtain ⟨b1, e1, t1, t2⟩ := setEnd_N (pos := pos) (neg := neg) hN hn hB hp hC (show h < 2 ^ n by omega) b
        rw [L_X0_bringUpToDate_22, shl1 n (by omega), if_nle (by omega) (by omega), if_neg (by omega), e1, nI_1]
        refine ih m (h + 1) b1 (by omega) (by omega) (fun h' q w hw j hj => ?_)
        by_cases e : h' = h
        · subst e; exact t2 w hw j hj
        · rw [t1 _ (by omega)]; exact hb h' (by omega) w hw j hj
    obtain ⟨b1, e1, t1⟩ := step (fun t_bits_4 => (L_X0_bringUpToDate_46 N (nI B) (fun t_bits_10 => some (t_bits_10, false)) N (nI n - 1) t_bits_4)) (2 ^ n) N 0 bits (by omega) (by omega) (fun h' q => absurd q (Nat.not_lt_zero _))
    rw [show (0 : Int32) = nI 0 from rfl, e1]
    refine bup46 (mC pos neg C) hN hn (by omega) (fun t_bits_10 => some (t_bits_10, false)) n N b1 (Nat.le_refl _) (by omega) (fun v' a1 a2 h a3 w hw j hj => ?_) |>.imp (fun b' q => q)
    have : v' = n := by omega
    subst this
    rw [Nat.sub_self]
    exact t1 h a3 w hw j hj
theorem has_B {N n B v h S : Nat} {mf : Nat → Bool} {bits : Nat → Int64} (hT : BT mf B n 0 bits) (hn : n ≤ 9) (hv : v ≤ n) (hh : h < 2 ^ v) (hS : S < 256) : F_X0_has N (nI v) (nI h) (nI S) bits = some (gv (lfS B n mf S) B (n - v) v h) := by
  rw [has_N N bits (by omega) hh hS, hT v (Nat.zero_le _) hv h hh (S / 64) (by omega) (S % 64) (Nat.mod_lt _ (by decide)), show 64 * (S / 64) + S % 64 = S from Nat.div_add_mod S 64]
def Ok (n B C Ln : Nat) : Prop := n ≤ 9 ∧ B < 2 ^ n ∧ pc B ≤ 3 ∧ n - pc B ≤ 6 ∧ C ≤ 20 ∧ Ln < 2 ^ 2 ^ pc B
theorem ok_512 {n B C Ln : Nat} (o : Ok n B C Ln) : B < 512 := Nat.lt_of_lt_of_le o.2.1 (pw9 o.1)
theorem pc_n {n B : Nat} (hn : n ≤ 9) (hB : B < 2 ^ n) : pc B = cnt B n := cnt_high hB hn
theorem pb8 {B : Nat} (hp : pc B ≤ 3) : 2 ^ pc B ≤ 8 := Nat.pow_le_pow_right (by decide) hp
theorem pb256 {B : Nat} (hp : pc B ≤ 3) : 2 ^ 2 ^ pc B ≤ 256 := Nat.pow_le_pow_right (by decide) (pb8 hp)
theorem ok_L {n B C Ln : Nat} (o : Ok n B C Ln) : Ln < 256 := Nat.lt_of_lt_of_le o.2.2.2.2.2 (pb256 o.2.2.1)
theorem plays3_N (N : Nat) {B : Nat} (hB : B < 512) (hp : pc B ≤ 3) : F_X3_plays N (nI B) = some (nI (2 ^ pc B)) := by
  unfold F_X3_plays
  rw [bitCount_N N hB]
  show some ((1 : Int32) <<< (nI (pc B) &&& 31)) = _
  rw [shl1 _ (by omega)]
theorem pred_N {k : Nat} (h : 0 < k) : nI k - 1 = nI (k - 1) := by
  obtain ⟨q, rfl⟩ : ∃ q, k = q + 1 := ⟨k - 1, by omega⟩
  exact nI_pred q
theorem allPlays_N (N : Nat) {B : Nat} (hB : B < 512) (hp : pc B ≤ 3) : F_X3_allPlays N (nI B) = some (nI (2 ^ 2 ^ pc B - 1)) := by
  have h1 := pb8 hp
  unfold F_X3_allPlays
  rw [plays3_N N hB hp]
  show some ((1 : Int32) <<< (nI (2 ^ pc B) &&& 31) - 1) = _
  rw [shl1 _ (by omega), pred_N (pw_pos _)]
theorem hasPlay_N (N : Nat) {B k : Nat} (hB : B < 512) (hp : pc B ≤ 3) (hk : k < 2 ^ 31) : F_X3_hasPlay N (nI k) (nI B) = some (decide (k < 2 ^ pc B)) := by
  have h1 := pb8 hp
  unfold F_X3_hasPlay
  rw [if_neg (nI_pos hk), plays3_N N hB hp]
  show (if nI (2 ^ pc B) ≤ nI k then some false else some true) = _
  rw [if_nle (by omega) hk]
  by_cases e : k < 2 ^ pc B
  · rw [if_neg (by omega), decide_eq_true e]
  · rw [if_pos (by omega), decide_eq_false e]
theorem hasPlay_neg (N : Nat) {x b : Int32} (h : x < 0) : F_X3_hasPlay N x b = some false := if_pos h
theorem hasLearned_N (N : Nat) {L p : Nat} (hL : L < 2 ^ 31) (hp : p < 32) : F_X3_hasLearned N (nI p) (nI L) = some (decide (bt L p = 1)) := by
  have h2 := bt_lt L p
  unfold F_X3_hasLearned
  rw [bit_N N hL hp]
  show (if nI (bt L p) = nI 1 then some true else some false) = _
  rw [if_neq (by omega) (by decide)]
  by_cases e : bt L p = 1
  · rw [if_pos e, decide_eq_true e]
  · rw [if_neg e, decide_eq_false e]
theorem hasVariables_neg (N : Nat) {x b : Int32} (h : x < 0) : F_X3_hasVariables N x b = some false := if_pos h
theorem div_pow {k n : Nat} : k / 2 ^ n = 0 ↔ k < 2 ^ n := by
  rw [Nat.div_eq_zero_iff]
  have := pw_pos n
  omega
theorem hasVariables_N (N : Nat) {k n : Nat} (hk : k < 2 ^ 31) (hn : n < 32) : F_X3_hasVariables N (nI k) (nI n) = some (decide (k < 2 ^ n)) := by
  have h1 : k / 2 ^ n < 2 ^ 31 := Nat.lt_of_le_of_lt (Nat.div_le_self _ _) hk
  unfold F_X3_hasVariables
  rw [if_neg (nI_pos hk), shr_N hk hn, n0, if_neq h1 (by decide)]
  by_cases e : k < 2 ^ n
  · rw [if_pos (div_pow.mpr e), decide_eq_true e]
  · rw [if_neg (fun q => e (div_pow.mp q)), decide_eq_false e]
theorem neg_or (x : Int32) : x < 0 ∨ ∃ k, k < 2 ^ 31 ∧ x = nI k := by
  by_cases h : x < 0
  · exact .inl h
  · exact .inr (nI_of h)
theorem g01 {α : Type} (x : Option α) : gd (inb 0 1) x = x := gd_t (by decide)
theorem full_bit {k i : Nat} (h : i < k) : bt (2 ^ k - 1) i = 1 := by
  have h1 := tbit (2 ^ k - 1) i
  rw [Nat.testBit_two_pow_sub_one, decide_eq_true h] at h1
  exact of_decide_eq_true h1.symm
theorem full_gv {B n v h : Nat} (mf : Nat → Bool) (hB : B < 2 ^ n) (hn : n ≤ 9) (hv : v ≤ n) (hh : h < 2 ^ v) : gv (lfS B n mf (2 ^ 2 ^ pc B - 1)) B (n - v) v h = gv mf B (n - v) v h := by
  refine gv_congr B (n := n) (fun h' q => ?_) (n - v) v h (by omega) hh
  unfold lfS
  have h1 := pl_lt B h' n
  rw [← pc_n hn hB] at h1
  rw [full_bit h1]; rfl
theorem winnerIn_N (N : Nat) {n B v h : Nat} {mf : Nat → Bool} {bits : Nat → Int64} (hB : B < 2 ^ n) (hn : n ≤ 9) (hp : pc B ≤ 3) (hT : BT mf B n 0 bits) (hv : v ≤ n) (hh : h < 2 ^ v) : F_X4_winnerIn N (nI v) (nI h) (nI B) bits = some (if gv mf B (n - v) v h = true then 0 else 1) := by
  have p1 := pw9 hn
  have p2 := pb256 hp
  have p3 := pw_pos (2 ^ pc B)
  unfold F_X4_winnerIn
  rw [allPlays_N N (by omega) hp]
  show ob1 (F_X0_has N (nI v) (nI h) (nI (2 ^ 2 ^ pc B - 1)) bits) _ = _
  rw [has_B hT hn hv hh (by omega), full_gv mf hB hn hv hh]
  cases gv mf B (n - v) v h <;> rfl
def gA (B n C Ln : Nat) (pos neg : Nat → Int32) (v h : Nat) : Bool := gv (lfS B n (mC pos neg C) Ln) B (n - v) v h
theorem values_N {N n B C Ln p : Nat} {pos neg : Nat → Int32} {bits : Nat → Int64} (hN : 2000 ≤ N) (hB : B < 512) (hn : n ≤ 9) (hL : Ln < 256) (hp : p < 512) (hT : BT (mC pos neg C) B n 0 bits) : F_X4_valuesAgainst N (nI p) (nI n) (nI B) (nI Ln) bits = some (nI (an (gA B n C Ln pos neg) B p n)) := by
  have step : ∀ (d m v : Nat), v + d = n → d < m → L_X4_valuesAgainst_7 N (nI n) (nI B) (nI Ln) bits (nI p) (fun u => some u) m (nI (an (gA B n C Ln pos neg) B p v)) (nI (cnt B v)) (nI v) = some (nI (an (gA B n C Ln pos neg) B p n)) := by
    intro d
    induction d with
    | zero =>
      intro m v hd hm
      obtain ⟨m, rfl⟩ : ∃ q, m = q + 1 := ⟨m - 1, by omega⟩
      rw [L_X4_valuesAgainst_7, if_nle (by omega) (by omega), if_pos (by omega), show v = n by omega]
    | succ d ih =>
      intro m v hd hm
      obtain ⟨m, rfl⟩ : ∃ q, m = q + 1 := ⟨m - 1, by omega⟩
      have hc := cnt_le B v
      have hi := ih m (v + 1) (by omega) (by omega)
      rw [show an (gA B n C Ln pos neg) B p (v + 1) = an (gA B n C Ln pos neg) B p v + (if bt B v = 1 then bt p (cnt B v) else if gA B n C Ln pos neg (v + 1) (an (gA B n C Ln pos neg) B p v) = true then 0 else 1) * 2 ^ v from rfl, show cnt B (v + 1) = cnt B v + bt B v from rfl] at hi
      have hl := an_lt (gA B n C Ln pos neg) B p v
      have p1 : 2 ^ v ≤ 256 := Nat.le_trans (pw_le (show v ≤ 8 by omega)) (by decide)
      have p2 : 2 ^ (v + 1) = 2 ^ v + 2 ^ v := by rw [Nat.pow_succ]; omega
      generalize an (gA B n C Ln pos neg) B p v = h at hi hl ⊢
      rw [L_X4_valuesAgainst_7, if_nle (by omega) (by omega), if_neg (by omega), owner_N N hB (by omega), bit_N N (by omega) (by omega)]
      rw [show nI v + 1 = nI (v + 1) from nI_1 v, nI_1 (cnt B v), has_B hT hn (by omega) (show h < 2 ^ (v + 1) by omega) hL]
      show (if nI (bt B v) = 1 then L_X4_valuesAgainst_7 N (nI n) (nI B) (nI Ln) bits (nI p) (fun u => some u) m (nI h ||| (nI (bt p (cnt B v)) <<< (nI v &&& 31))) (nI (cnt B v + 1)) (nI (v + 1)) else (if gA B n C Ln pos neg (v + 1) h = true then L_X4_valuesAgainst_7 N (nI n) (nI B) (nI Ln) bits (nI p) (fun u => some u) m (nI h ||| (nI 0 <<< (nI v &&& 31))) (nI (cnt B v)) (nI (v + 1)) else L_X4_valuesAgainst_7 N (nI n) (nI B) (nI Ln) bits (nI p) (fun u => some u) m (nI h ||| (nI 1 <<< (nI v &&& 31))) (nI (cnt B v)) (nI (v + 1)))) = _
      rw [or_bit hl (bt_lt _ _) (by omega), or_bit hl (by decide) (by omega), or_bit hl (by decide) (by omega)]
      rcases bt_01 B v with e | e
      · rw [e] at hi ⊢
        rw [if_neg (by decide)]
        cases e2 : gA B n C Ln pos neg (v + 1) h
        · rw [e2] at hi; simpa using hi
        · rw [e2] at hi; simpa using hi
      · rw [e] at hi ⊢
        rw [if_pos (by decide)]
        simpa using hi
  unfold F_X4_valuesAgainst
  exact step n N 0 (by omega) (by omega)
def wy (mf : Nat → Bool) (B n p : Nat) : Nat → Nat
  | 0 => 0
  | h + 1 => wy mf B n p h + if p = pl B h n ∧ mf h = true then 1 else 0
theorem wy_le (mf : Nat → Bool) (B n p h : Nat) : wy mf B n p h ≤ h := by
  induction h with
  | zero => exact Nat.le_refl _
  | succ h ih =>
    show wy mf B n p h + (if p = pl B h n ∧ mf h = true then 1 else 0) ≤ h + 1
    split <;> omega
theorem ways3_N {N n B C p : Nat} {pos neg : Nat → Int32} (hN : 2000 ≤ N) (hB : B < 512) (hn : n ≤ 9) (hC : C ≤ 20) (hp : p < 512) : L_X4_ways_20 N (nI n) (nI B) (nI C) pos neg (nI p) (fun u => some u) N 0 0 = some (nI (wy (mC pos neg C) B n p (2 ^ n))) := by
  have p9 := pw9 hn
  have step : ∀ (d m h : Nat), h + d = 2 ^ n → d < m → L_X4_ways_20 N (nI n) (nI B) (nI C) pos neg (nI p) (fun u => some u) m (nI (wy (mC pos neg C) B n p h)) (nI h) = some (nI (wy (mC pos neg C) B n p (2 ^ n))) := by
    intro d
    induction d with
    | zero =>
      intro m h hd hm
      obtain ⟨m, rfl⟩ : ∃ q, m = q + 1 := ⟨m - 1, by omega⟩
      rw [L_X4_ways_20, shl1 n (by omega), if_nle (by omega) (by omega), if_pos (by omega), show h = 2 ^ n by omega]
    | succ d ih =>
      intro m h hd hm
      obtain ⟨m, rfl⟩ : ∃ q, m = q + 1 := ⟨m - 1, by omega⟩
      have hi := ih m (h + 1) (by omega) (by omega)
      have hl := pl_lt B h n
      have hl2 : 2 ^ cnt B n ≤ 512 := pw9 (Nat.le_trans (cnt_le B n) hn)
      rw [show wy (mC pos neg C) B n p (h + 1) = wy (mC pos neg C) B n p h + (if p = pl B h n ∧ mC pos neg C h = true then 1 else 0) from rfl] at hi
      rw [L_X4_ways_20, shl1 n (by omega), if_nle (by omega) (by omega), if_neg (by omega), playIn_N hN hn hB (by omega), holds_N hN hC]
      show (if nI (pl B h n) = nI p then (if mC pos neg C h = true then L_X4_ways_20 N (nI n) (nI B) (nI C) pos neg (nI p) (fun u => some u) m (nI (wy (mC pos neg C) B n p h) + 1) (nI h + 1) else L_X4_ways_20 N (nI n) (nI B) (nI C) pos neg (nI p) (fun u => some u) m (nI (wy (mC pos neg C) B n p h)) (nI h + 1)) else L_X4_ways_20 N (nI n) (nI B) (nI C) pos neg (nI p) (fun u => some u) m (nI (wy (mC pos neg C) B n p h)) (nI h + 1)) = _
      rw [if_neq (by omega) (by omega), nI_1, nI_1]
      by_cases e : pl B h n = p
      · rw [if_pos e]
        cases e2 : mC pos neg C h
        · rw [e2, if_neg (fun q => absurd q.2 (by decide))] at hi
          exact hi
        · rw [e2, if_pos ⟨e.symm, rfl⟩] at hi
          exact hi
      · rw [if_neg e]
        rw [if_neg (fun q => e q.1.symm)] at hi
        exact hi
  exact step (2 ^ n) N 0 (by omega) (by omega)
def Vv (r : Int32) : Prop := r = -1 ∨ ∃ u, u < 256 ∧ r = nI u
theorem m1_nI {u : Nat} (hu : u < 2 ^ 31) : ¬ nI u = -1 := fun q => nI_pos hu (by rw [q]; decide)
def cm (L a : Nat) : Nat → Nat
  | 0 => 0
  | p + 1 => cm L a p ||| if bt L p = 1 then 2 ^ (p % 2 ^ a) else 0
theorem cm_lt (L a : Nat) : ∀ p, p ≤ 8 → cm L a p < 2 ^ 8 := by
  intro p
  induction p with
  | zero => intro _; exact pw_pos 8
  | succ p ih =>
    intro hp
    refine Nat.or_lt_two_pow (ih (by omega)) ?_
    split
    · exact Nat.pow_lt_pow_right (by decide) (Nat.lt_of_le_of_lt (Nat.mod_le _ _) (by omega))
    · decide
theorem cm_high {L a k : Nat} (hL : L < 2 ^ k) : ∀ d, cm L a (k + d) = cm L a k := by
  intro d
  induction d with
  | zero => rfl
  | succ d ih =>
    show cm L a (k + d) ||| (if bt L (k + d) = 1 then 2 ^ ((k + d) % 2 ^ a) else 0) = _
    rw [bt_high hL (Nat.le_add_right k d), if_neg (by decide), Nat.or_zero, ih]
theorem and_pred {p a : Nat} (ha : a < 16) : nI p &&& (((1 : Int32) <<< (nI a &&& 31)) - 1) = nI (p % 2 ^ a) := by
  rw [shl1 a ha, pred_N (pw_pos _), nI_and, Nat.and_two_pow_sub_one_eq_mod]
theorem cm_step {L a p : Nat} (hp : p < 8) (ha : a < 16) : nI (cm L a p) ||| ((1 : Int32) <<< ((nI p &&& (((1 : Int32) <<< (nI a &&& 31)) - 1)) &&& 31)) = nI (cm L a p ||| 2 ^ (p % 2 ^ a)) := by
  have : p % 2 ^ a ≤ p := Nat.mod_le _ _
  rw [and_pred ha, shl1 _ (by omega), nI_or]
theorem beginnings_N {N B L a : Nat} (hN : 2000 ≤ N) (hB : B < 512) (hp : pc B ≤ 3) (hL : L < 2 ^ 2 ^ pc B) (ha : a < 16) : F_X4_learnedBeginnings N (nI a) (nI B) (nI L) = some (nI (pc (cm L a 8))) := by
  have p1 := pb8 hp
  have p2 := pb256 hp
  have step : ∀ (d m p : Nat), p + d = 2 ^ pc B → d < m → L_X4_learnedBeginnings_13 N (nI L) (nI a) (nI (2 ^ pc B)) (fun u => ob1 (F_J6_bitCount_0f7a4 N u) (fun r => some r)) m (nI (cm L a p)) (nI p) = some (nI (pc (cm L a 8))) := by
    intro d
    induction d with
    | zero =>
      intro m p hd hm
      obtain ⟨m, rfl⟩ : ∃ q, m = q + 1 := ⟨m - 1, by omega⟩
      have h8 : cm L a 8 = cm L a p := by
        have := cm_high (a := a) hL (8 - 2 ^ pc B)
        rw [show 2 ^ pc B + (8 - 2 ^ pc B) = 8 by omega] at this
        rw [this, show p = 2 ^ pc B by omega]
      have h9 := cm_lt L a p (by omega)
      rw [L_X4_learnedBeginnings_13, if_nle (by omega) (by omega), if_pos (by omega), bitCount_N N (by omega), h8]; rfl
    | succ d ih =>
      intro m p hd hm
      obtain ⟨m, rfl⟩ : ∃ q, m = q + 1 := ⟨m - 1, by omega⟩
      have hi := ih m (p + 1) (by omega) (by omega)
      rw [show cm L a (p + 1) = cm L a p ||| (if bt L p = 1 then 2 ^ (p % 2 ^ a) else 0) from rfl] at hi
      rw [L_X4_learnedBeginnings_13, if_nle (by omega) (by omega), if_neg (by omega), hasLearned_N N (by omega) (by omega), nI_1]
      show (if decide (bt L p = 1) = true then L_X4_learnedBeginnings_13 N (nI L) (nI a) (nI (2 ^ pc B)) (fun u => ob1 (F_J6_bitCount_0f7a4 N u) (fun r => some r)) m (nI (cm L a p) ||| ((1 : Int32) <<< ((nI p &&& (((1 : Int32) <<< (nI a &&& 31)) - 1)) &&& 31))) (nI (p + 1)) else L_X4_learnedBeginnings_13 N (nI L) (nI a) (nI (2 ^ pc B)) (fun u => ob1 (F_J6_bitCount_0f7a4 N u) (fun r => some r)) m (nI (cm L a p)) (nI (p + 1))) = _
      rw [cm_step (by omega) ha]
      by_cases e : bt L p = 1
      · rw [if_pos e] at hi
        rw [decide_eq_true e, if_pos rfl]; exact hi
      · rw [if_neg e, Nat.or_zero] at hi
        rw [decide_eq_false e, if_neg (by decide)]; exact hi
  unfold F_X4_learnedBeginnings
  rw [plays3_N N hB hp]
  exact step (2 ^ pc B) N 0 (by omega) (by omega)
def cp (B L : Nat) : Nat → Nat
  | 0 => 0
  | v + 1 => cp B L v + if bt B v = 1 then 0 else pc (cm L (cnt B v) 8)
theorem copies3_N {N n B L : Nat} (hN : 2000 ≤ N) (hn : n ≤ 9) (hB : B < 512) (hp : pc B ≤ 3) (hL : L < 2 ^ 2 ^ pc B) : F_X4_copies N (nI n) (nI B) (nI L) = some (nI (cp B L n)) := by
  have step : ∀ (d m v : Nat), v + d = n → d < m → L_X4_copies_6 N (nI n) (nI B) (nI L) (fun u => some u) m (nI (cp B L v)) (nI (cnt B v)) (nI v) = some (nI (cp B L n)) := by
    intro d
    induction d with
    | zero =>
      intro m v hd hm
      obtain ⟨m, rfl⟩ : ∃ q, m = q + 1 := ⟨m - 1, by omega⟩
      rw [L_X4_copies_6, if_nle (by omega) (by omega), if_pos (by omega), show v = n by omega]
    | succ d ih =>
      intro m v hd hm
      obtain ⟨m, rfl⟩ : ∃ q, m = q + 1 := ⟨m - 1, by omega⟩
      have hc := cnt_le B v
      have hi := ih m (v + 1) (by omega) (by omega)
      rw [show cp B L (v + 1) = cp B L v + (if bt B v = 1 then 0 else pc (cm L (cnt B v) 8)) from rfl, show cnt B (v + 1) = cnt B v + bt B v from rfl] at hi
      rw [L_X4_copies_6, if_nle (by omega) (by omega), if_neg (by omega), owner_N N hB (by omega), beginnings_N hN hB hp hL (by omega), show nI v + 1 = nI (v + 1) from nI_1 v, show nI (cnt B v) + 1 = nI (cnt B v + 1) from nI_1 _]
      show (if nI (bt B v) = 1 then L_X4_copies_6 N (nI n) (nI B) (nI L) (fun u => some u) m (nI (cp B L v)) (nI (cnt B v + 1)) (nI (v + 1)) else L_X4_copies_6 N (nI n) (nI B) (nI L) (fun u => some u) m (nI (cp B L v) + nI (pc (cm L (cnt B v) 8))) (nI (cnt B v)) (nI (v + 1))) = _
      rw [nI_add]
      rcases bt_01 B v with e | e
      · rw [e] at hi ⊢
        rw [if_neg (by decide)] at hi ⊢
        exact hi
      · rw [e] at hi ⊢
        rw [if_pos rfl] at hi
        rw [if_pos (by decide)]
        exact hi
  unfold F_X4_copies
  exact step n N 0 (by omega) (by omega)
theorem cnt_congr {x y : Nat} : ∀ v, (∀ i, i < v → bt x i = bt y i) → cnt x v = cnt y v := by
  intro v
  induction v with
  | zero => intro _; rfl
  | succ v ih =>
    intro h
    show cnt x v + bt x v = cnt y v + bt y v
    rw [ih (fun i q => h i (by omega)), h v (by omega)]
theorem bt_tb {x y i j : Nat} (h : x.testBit i = y.testBit j) : bt x i = bt y j := by
  rw [tbit, tbit] at h
  rcases bt_01 x i with a | a <;> rcases bt_01 y j with b | b <;> rw [a, b] at h ⊢ <;> simp at h
theorem pc_mod (B : Nat) {v : Nat} (hv : v ≤ 9) : pc (B % 2 ^ v) = cnt B v := by
  unfold pc
  rw [cnt_high (Nat.mod_lt B (pw_pos v)) hv]
  exact cnt_congr v (fun i hi => bt_tb (by rw [Nat.testBit_mod_two_pow, decide_eq_true hi, Bool.true_and]))
theorem bt_low {h v x i : Nat} (hh : h < 2 ^ v) (hi : i < v) : bt (h + x * 2 ^ v) i = bt h i := by
  refine bt_tb ?_
  rw [show h + x * 2 ^ v = 2 ^ v * x + h by rw [Nat.mul_comm, Nat.add_comm], Nat.testBit_two_pow_mul_add x hh, if_pos hi]
theorem bt_at {h v x : Nat} (hh : h < 2 ^ v) (hx : x < 2) : bt (h + x * 2 ^ v) v = x := by
  unfold bt
  rw [Nat.add_mul_div_right _ _ (pw_pos v), Nat.div_eq_of_lt hh, Nat.zero_add, Nat.mod_eq_of_lt hx]
theorem pl_congr {B x y : Nat} : ∀ v, (∀ i, i < v → bt x i = bt y i) → pl B x v = pl B y v := by
  intro v
  induction v with
  | zero => intro _; rfl
  | succ v ih =>
    intro h
    show pl B x v + (bt B v * bt x v) * 2 ^ cnt B v = pl B y v + (bt B v * bt y v) * 2 ^ cnt B v
    rw [ih (fun i q => h i (by omega)), h v (by omega)]
theorem an_pl (g : Nat → Nat → Bool) (B p : Nat) : ∀ v, pl B (an g B p v) v = p % 2 ^ cnt B v := by
  intro v
  induction v with
  | zero => show 0 = p % 1; rw [Nat.mod_one]
  | succ v ih =>
    have hl := an_lt g B p v
    rw [show an g B p (v + 1) = an g B p v + (if bt B v = 1 then bt p (cnt B v) else if g (v + 1) (an g B p v) = true then 0 else 1) * 2 ^ v from rfl]
    generalize hx : (if bt B v = 1 then bt p (cnt B v) else if g (v + 1) (an g B p v) = true then 0 else 1) = x
    have hx2 : x < 2 := by
      rw [← hx]
      split
      · exact bt_lt _ _
      · split <;> decide
    show pl B (an g B p v + x * 2 ^ v) v + (bt B v * bt (an g B p v + x * 2 ^ v) v) * 2 ^ cnt B v = p % 2 ^ (cnt B v + bt B v)
    rw [pl_congr v (fun i hi => bt_low (x := x) hl hi), bt_at hl hx2, ih]
    rcases bt_01 B v with e | e
    · rw [e, Nat.zero_mul, Nat.zero_mul, Nat.add_zero, Nat.add_zero]
    · rw [e, if_pos rfl] at hx
      rw [e, Nat.mod_pow_succ, ← hx, Nat.one_mul, Nat.mul_comm]; rfl
theorem an_gv {leaf : Nat → Bool} {B n p : Nat} (h0 : gv leaf B n 0 0 = true) : ∀ v, v ≤ n → gv leaf B (n - v) v (an (fun v h => gv leaf B (n - v) v h) B p v) = true := by
  intro v
  induction v with
  | zero => intro _; exact h0
  | succ v ih =>
    intro hv
    have h1 := ih (by omega)
    rw [gv_step leaf B (show v < n by omega)] at h1
    rw [show an (fun v h => gv leaf B (n - v) v h) B p (v + 1) = an (fun v h => gv leaf B (n - v) v h) B p v + (if bt B v = 1 then bt p (cnt B v) else if gv leaf B (n - (v + 1)) (v + 1) (an (fun v h => gv leaf B (n - v) v h) B p v) = true then 0 else 1) * 2 ^ v from rfl]
    generalize an (fun v h => gv leaf B (n - v) v h) B p v = h at h1 ⊢
    by_cases e : bt B v = 1
    · rw [if_pos e] at h1 ⊢
      rw [Bool.and_eq_true] at h1
      rcases bt_01 p (cnt B v) with e2 | e2
      · rw [e2, Nat.zero_mul, Nat.add_zero]; exact h1.1
      · rw [e2, Nat.one_mul]; exact h1.2
    · rw [if_neg e] at h1 ⊢
      cases e2 : gv leaf B (n - (v + 1)) (v + 1) h
      · rw [e2, Bool.false_or] at h1
        rw [if_neg (by decide), Nat.one_mul]; exact h1
      · rw [if_pos rfl, Nat.zero_mul, Nat.add_zero]; exact e2
theorem an_new {B n p S : Nat} {mf : Nat → Bool} (h0 : gv (lfS B n mf S) B n 0 0 = true) (hp : p < 2 ^ cnt B n) (hf : mf (an (fun v h => gv (lfS B n mf S) B (n - v) v h) B p n) = false) : bt S p = 0 := by
  have h1 := an_gv (p := p) h0 n (Nat.le_refl _)
  rw [Nat.sub_self] at h1
  have h2 : lfS B n mf S (an (fun v h => gv (lfS B n mf S) B (n - v) v h) B p n) = true := h1
  unfold lfS at h2
  have hf' : mf (an (fun v h => gv (fun h => decide (bt S (pl B h n) = 0) || mf h) B (n - v) v h) B p n) = false := hf
  rw [hf', Bool.or_false, an_pl, Nat.mod_eq_of_lt hp] at h2
  exact of_decide_eq_true h2
theorem bt_or (L p i : Nat) : bt (L ||| 2 ^ p) i = if i = p then 1 else bt L i := by
  have h := tbit (L ||| 2 ^ p) i
  rw [Nat.testBit_or, Nat.testBit_two_pow, tbit] at h
  by_cases e : i = p
  · rw [decide_eq_true (p := p = i) e.symm, Bool.or_true] at h
    rw [if_pos e]
    exact of_decide_eq_true h.symm
  · rw [decide_eq_false (p := p = i) (fun q => e q.symm), Bool.or_false] at h
    rw [if_neg e]
    rcases bt_01 (L ||| 2 ^ p) i with a | a <;> rcases bt_01 L i with b | b <;> rw [a, b] at h ⊢ <;> simp at h
theorem cnt_or {L p : Nat} (h : bt L p = 0) : ∀ v, cnt (L ||| 2 ^ p) v = cnt L v + if p < v then 1 else 0 := by
  intro v
  induction v with
  | zero => rfl
  | succ v ih =>
    show cnt (L ||| 2 ^ p) v + bt (L ||| 2 ^ p) v = cnt L v + bt L v + _
    rw [ih, bt_or]
    by_cases e : v = p
    · subst e
      rw [if_neg (Nat.lt_irrefl v), if_pos rfl, h, if_pos (Nat.lt_succ_self v)]
    · rw [if_neg e]
      by_cases e2 : p < v
      · rw [if_pos e2, if_pos (by omega)]; omega
      · rw [if_neg e2, if_neg (by omega)]; omega
theorem ok_learn {n B C Ln p : Nat} (o : Ok n B C Ln) (hp : p < 2 ^ pc B) : Ok n B C (Ln ||| 2 ^ p) :=
  ⟨o.1, o.2.1, o.2.2.1, o.2.2.2.1, o.2.2.2.2.1, Nat.or_lt_two_pow o.2.2.2.2.2 (Nat.pow_lt_pow_right (by decide) hp)⟩
theorem pc_learn {Ln p : Nat} (h : bt Ln p = 0) (hp : p < 8) : pc (Ln ||| 2 ^ p) = pc Ln + 1 := by
  unfold pc
  rw [cnt_or h, if_pos (by omega)]
theorem pc_P {n B C Ln : Nat} (o : Ok n B C Ln) : pc Ln ≤ 2 ^ pc B := by
  have p1 := pb8 o.2.2.1
  have h : pc Ln = cnt Ln (2 ^ pc B) := cnt_high o.2.2.2.2.2 (show 2 ^ pc B ≤ 9 by omega)
  rw [h]
  exact cnt_le _ _
theorem copy_N {N C : Nat} (hN : 2000 ≤ N) (hC : C ≤ 20) (pos neg p q : Nat → Int32) (V B' C' L' R' n B Ln R : Int32) : ∃ p' q', F_X3_copyFrom N V B' C' p q L' R' n B (nI C) pos neg Ln R = some (n, B, nI C, p', q', Ln, R) ∧ ∀ k, k < C → p' k = pos k ∧ q' k = neg k := by
  have step : ∀ (kont : (Nat → Int32) → (Nat → Int32) → Option (Int32 × Int32 × Int32 × (Nat → Int32) × (Nat → Int32) × Int32 × Int32)) (d m k : Nat) (p q : Nat → Int32), k + d = C → d < m → (∀ i, i < k → p i = pos i ∧ q i = neg i) → ∃ p' q', L_X3_copyFrom_26 N (nI C) pos neg kont m (nI k) p q = kont p' q' ∧ ∀ i, i < C → p' i = pos i ∧ q' i = neg i := by
    intro kont d
    induction d with
    | zero =>
      intro m k p q hd hm h
      obtain ⟨m, rfl⟩ : ∃ q, m = q + 1 := ⟨m - 1, by omega⟩
      refine ⟨p, q, ?_, fun i hi => h i (by omega)⟩
      rw [L_X3_copyFrom_26, if_nle (by omega) (by omega), if_pos (by omega)]
    | succ d ih =>
      intro m k p q hd hm h
      obtain ⟨m, rfl⟩ : ∃ q, m = q + 1 := ⟨m - 1, by omega⟩
      obtain ⟨p', q', e, t⟩ := ih m (k + 1) (upd p k (pos k)) (upd q k (neg k)) (by omega) (by omega) (fun i hi => by
        by_cases e : i = k
        · subst e; exact ⟨pk_us, pk_us⟩
        · rw [pk_un e, pk_un e]; exact h i (by omega))
      refine ⟨p', q', ?_, t⟩
      rw [← e, L_X3_copyFrom_26, if_nle (by omega) (by omega), if_neg (by omega), read_N N pos (by omega) (by decide), read_N N neg (by omega) (by decide), nI_1]
      show ob1 (F_X4_write N 20 (nI k) (pos k) p) (fun p2 => ob1 (F_X4_write N 20 (nI k) (neg k) q) (fun q2 => L_X3_copyFrom_26 N (nI C) pos neg kont m (nI (k + 1)) p2 q2)) = _
      rw [write_N N p (pos k) (by omega) (by decide), write_N N q (neg k) (by omega) (by decide)]; rfl
  unfold F_X3_copyFrom
  obtain ⟨p', q', e, t⟩ := step (fun a b => some (n, B, nI C, a, b, Ln, R)) C N 0 p q (by omega) (by omega) (fun i hi => absurd hi (Nat.not_lt_zero _))
  exact ⟨p', q', e, t⟩
theorem slot_N {o a : Nat} (ho : o + a < 2 ^ 31) : slotIx (nI o) (nI a) = some ((o + a) % 4) := by
  unfold slotIx
  rw [nI_add, show (4 : Int32) = nI 4 from rfl, pk_rem ho (by decide) (by decide)]
  rcases (show (o + a) % 4 = 0 ∨ (o + a) % 4 = 1 ∨ (o + a) % 4 = 2 ∨ (o + a) % 4 = 3 by omega) with e | e | e | e <;> rw [e] <;> rfl
theorem updS_s (f : Nat → StT) (k : Nat) (x : StT) : updS f k x k = x := by unfold updS; rw [Nat.beq_refl]
theorem updS_n (f : Nat → StT) {k j : Nat} (x : StT) (h : j ≠ k) : updS f k x j = f j := by
  unfold updS
  rw [show Nat.beq j k = false from by rw [← Bool.not_eq_true, Nat.beq_eq]; exact h]
theorem pc_le {n B : Nat} (hn : n ≤ 9) (hB : B < 2 ^ n) : pc B ≤ n := by rw [pc_n hn hB]; exact cnt_le B n
def nB (own : Bool) (n B : Nat) : Nat := if own = true then B ||| 2 ^ n else B
