/-! PURE NUMBERS -/
theorem s31 : ∀ n, n < 32 → ((nI n &&& 31).toBitVec.smod 32).toNat = n := by decide +kernel
theorem shl1 : ∀ v, v < 16 → (1 : Int32) <<< (nI v &&& 31) = nI (2 ^ v) := by decide +kernel
theorem shl2 : ∀ v, v < 16 → (2 : Int32) <<< (nI v &&& 31) = nI (2 ^ (v + 1)) := by decide +kernel
theorem shl0 : ∀ v, v < 16 → (0 : Int32) <<< (nI v &&& 31) = nI 0 := by decide +kernel
def bt (x v : Nat) : Nat := x / 2 ^ v % 2
theorem bt_lt (x v : Nat) : bt x v < 2 := Nat.mod_lt _ (by decide)
theorem bt_01 (x v : Nat) : bt x v = 0 ∨ bt x v = 1 := by have := bt_lt x v; omega
theorem shr_and {x v : Nat} (hx : x < 2 ^ 31) (hv : v < 32) : (nI x >>> (nI v &&& 31)) &&& 1 = nI (bt x v) := by
  rw [pk_shrN hx (nI v &&& 31) v (s31 v hv)]
  rw [pk_andN (m := 1) (Nat.lt_of_le_of_lt (Nat.div_le_self _ _) (by omega)) 1 (by decide)]
  rfl
theorem shr_N {x v : Nat} (hx : x < 2 ^ 31) (hv : v < 32) : nI x >>> (nI v &&& 31) = nI (x / 2 ^ v) := pk_shrN hx (nI v &&& 31) v (s31 v hv)
theorem nI_or (a b : Nat) : nI a ||| nI b = nI (a ||| b) := by
  unfold nI
  apply Int32.toBitVec_inj.mp
  simp [Int32.toBitVec_or, BitVec.ofNat_or]
theorem nI_and (a b : Nat) : nI a &&& nI b = nI (a &&& b) := by
  unfold nI
  apply Int32.toBitVec_inj.mp
  simp [Int32.toBitVec_and, BitVec.ofNat_and]
theorem or_add {h b v : Nat} (hh : h < 2 ^ v) (hb : b < 2) : h ||| (b * 2 ^ v) = h + b * 2 ^ v := by
  have : b = 0 ∨ b = 1 := by omega
  rcases this with rfl | rfl
  · simp
  · have h1 := Nat.two_pow_add_eq_or_of_lt hh 1
    rw [Nat.mul_one] at h1
    rw [Nat.one_mul, Nat.or_comm, Nat.add_comm, h1]
theorem shlb {b v : Nat} (hb : b < 2) (hv : v < 16) : nI b <<< (nI v &&& 31) = nI (b * 2 ^ v) := by
  have : b = 0 ∨ b = 1 := by omega
  rcases this with rfl | rfl
  · rw [Nat.zero_mul]; exact shl0 v hv
  · rw [Nat.one_mul]; exact shl1 v hv
theorem or_bit {h b v : Nat} (hh : h < 2 ^ v) (hb : b < 2) (hv : v < 16) : nI h ||| (nI b <<< (nI v &&& 31)) = nI (h + b * 2 ^ v) := by
  rw [shlb hb hv, nI_or, or_add hh hb]
theorem n1 : (1 : Int32) = nI 1 := rfl
theorem n0 : (0 : Int32) = nI 0 := rfl
theorem nI_inj {a b : Nat} (ha : a < 2 ^ 31) (hb : b < 2 ^ 31) (h : nI a = nI b) : a = b := (nI_eq ha hb).mp h
theorem if_nle {α : Type} {a b : Nat} (ha : a < 2 ^ 31) (hb : b < 2 ^ 31) (x y : α) : (if nI a ≤ nI b then x else y) = if a ≤ b then x else y := by
  by_cases h : a ≤ b
  · rw [if_pos ((nI_leI ha hb).mpr h), if_pos h]
  · rw [if_neg (fun q => h ((nI_leI ha hb).mp q)), if_neg h]
theorem if_nlt {α : Type} {a b : Nat} (ha : a < 2 ^ 31) (hb : b < 2 ^ 31) (x y : α) : (if nI a < nI b then x else y) = if a < b then x else y := by
  by_cases h : a < b
  · rw [if_pos ((nI_ltI ha hb).mpr h), if_pos h]
  · rw [if_neg (fun q => h ((nI_ltI ha hb).mp q)), if_neg h]
theorem if_neq {α : Type} {a b : Nat} (ha : a < 2 ^ 31) (hb : b < 2 ^ 31) (x y : α) : (if nI a = nI b then x else y) = if a = b then x else y := by
  by_cases h : a = b
  · rw [h, if_pos rfl, if_pos rfl]
  · rw [if_neg (fun q => h ((nI_eq ha hb).mp q)), if_neg h]
theorem inb_f {j n : Nat} (h : j < n) (hn : n < 2 ^ 31) {α : Type} (x : Option α) : gd (inb (nI j) n) x = x := gd_t (inb_nI h hn)
theorem pw {v : Nat} (h : v ≤ 10) : 2 ^ v ≤ 1024 := Nat.le_trans (Nat.pow_le_pow_right (by decide) h) (by decide)
theorem pw9 {v : Nat} (h : v ≤ 9) : 2 ^ v ≤ 512 := Nat.le_trans (Nat.pow_le_pow_right (by decide) h) (by decide)
theorem pw_pos (v : Nat) : 0 < 2 ^ v := Nat.pow_pos (by decide)
/-! counts of bits -/
def cnt (B : Nat) : Nat → Nat
  | 0 => 0
  | v + 1 => cnt B v + bt B v
def pc (B : Nat) : Nat := cnt B 9
theorem cnt_mono (B : Nat) : ∀ {a b : Nat}, a ≤ b → cnt B a ≤ cnt B b := by
  intro a b h
  induction b with
  | zero => rw [Nat.le_zero.mp h]; exact Nat.le_refl _
  | succ b ih =>
    rcases Nat.lt_or_ge a (b + 1) with h1 | h1
    · exact Nat.le_trans (ih (by omega)) (Nat.le_add_right _ _)
    · rw [show a = b + 1 by omega]; exact Nat.le_refl _
theorem cnt_le (B v : Nat) : cnt B v ≤ v := by
  induction v with
  | zero => exact Nat.le_refl _
  | succ v ih => have := bt_lt B v; show cnt B v + bt B v ≤ v + 1; omega
theorem bt_high {B n k : Nat} (hB : B < 2 ^ n) (h : n ≤ k) : bt B k = 0 := by
  unfold bt
  rw [Nat.div_eq_of_lt (Nat.lt_of_lt_of_le hB (Nat.pow_le_pow_right (by decide) h))]
theorem cnt_high {B n : Nat} (hB : B < 2 ^ n) : ∀ {k : Nat}, n ≤ k → cnt B k = cnt B n := by
  intro k h
  induction k with
  | zero => rw [Nat.le_zero.mp h]
  | succ k ih =>
    rcases Nat.lt_or_ge k n with h1 | h1
    · rw [show n = k + 1 by omega]
    · show cnt B k + bt B k = _
      rw [bt_high hB h1, ih h1, Nat.add_zero]
theorem bitCount_N (N : Nat) {B : Nat} (h : B < 512) : F_J6_bitCount_0f7a4 N (nI B) = some (nI (pc B)) := by
  have key : ∀ B, B < 512 → F_J6_bitCount_0f7a4 0 (nI B) = some (nI (pc B)) := by decide +kernel
  exact key B h
theorem ones_N {N : Nat} (hN : 10 ≤ N) {B : Nat} (h : B < 512) : F_X5_ones N (nI B) = some (nI (pc B)) := by
  obtain ⟨M, rfl⟩ : ∃ M, N = M + 10 := ⟨N - 10, by omega⟩
  have hk : ∀ k, k < 9 → (nI B >>> (nI k &&& 31)) &&& 1 = nI (bt B k) := fun k hk => shr_and (by omega) (by omega)
  have step : ∀ (d n a k : Nat), d + k = 9 → d < n → a + d < 1000 → L_X5_ones_4 (M + 10) (nI B) (fun u => some u) n (nI a) (nI k) = some (nI (a + (cnt B 9 - cnt B k))) := by
    intro d
    induction d with
    | zero =>
      intro n a k hd hn ha
      obtain ⟨n, rfl⟩ : ∃ q, n = q + 1 := ⟨n - 1, by omega⟩
      rw [L_X5_ones_4]
      rw [show k = 9 by omega, if_pos (by decide)]
      rw [Nat.sub_self, Nat.add_zero]
    | succ d ih =>
      intro n a k hd hn ha
      obtain ⟨n, rfl⟩ : ∃ q, n = q + 1 := ⟨n - 1, by omega⟩
      rw [L_X5_ones_4]
      rw [show (9 : Int32) = nI 9 from rfl, if_nle (by omega) (by omega), if_neg (by omega), hk k (by omega), nI_add, nI_1]
      have := bt_lt B k
      rw [ih n (a + bt B k) (k + 1) (by omega) (by omega) (by omega)]
      have h1 : cnt B (k + 1) = cnt B k + bt B k := rfl
      have h2 := cnt_mono B (show k + 1 ≤ 9 by omega)
      congr 2
      omega
  have := step 9 (M + 10) 0 0 (by omega) (by omega) (by omega)
  unfold F_X5_ones
  rw [show (0 : Int32) = nI 0 from rfl, this]
  show some (nI (0 + (cnt B 9 - 0))) = _
  rw [Nat.zero_add, Nat.sub_zero]; rfl
