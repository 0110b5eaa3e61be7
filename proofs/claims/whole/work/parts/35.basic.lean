/-! THE PURE SIDE: the state, and the small questions -/
def Ok (n B C Ln : Nat) : Prop := n ≤ 9 ∧ B < 2 ^ n ∧ pc B ≤ 3 ∧ n - pc B ≤ 6 ∧ C ≤ 20 ∧ Ln < 2 ^ 2 ^ pc B
def Ms (n B C Ln : Nat) (R : Int32) (pos neg s : Nat → Int32) : Prop := s 0 = nI n ∧ s 1 = nI B ∧ s 2 = nI C ∧ s 3 = nI Ln ∧ s 4 = R ∧ (∀ k, k < C → s (5 + k) = pos k) ∧ ∀ k, k < C → s (25 + k) = neg k
theorem ok_512 {n B C Ln : Nat} (o : Ok n B C Ln) : B < 512 := Nat.lt_of_lt_of_le o.2.1 (pw9 o.1)
theorem pc_n {n B : Nat} (hn : n ≤ 9) (hB : B < 2 ^ n) : pc B = cnt B n := cnt_high hB hn
theorem pb8 {B : Nat} (hp : pc B ≤ 3) : 2 ^ pc B ≤ 8 := Nat.pow_le_pow_right (by decide) hp
theorem pb256 {B : Nat} (hp : pc B ≤ 3) : 2 ^ 2 ^ pc B ≤ 256 := Nat.pow_le_pow_right (by decide) (pb8 hp)
theorem ok_L {n B C Ln : Nat} (o : Ok n B C Ln) : Ln < 256 := Nat.lt_of_lt_of_le o.2.2.2.2.2 (pb256 o.2.2.1)
theorem plays3_N (N : Nat) {B : Nat} (hB : B < 512) (hp : pc B ≤ 3) : F_X3_plays N (nI B) = some (nI (2 ^ pc B)) := by
  unfold F_X3_plays
  rw [bitCount_N N hB]
  show some ((1 : Int32) <<< (nI (pc B) &&& 31)) = _
  rw [shl1 _ (by omega)]
theorem pred_N {k : Nat} (h : 0 < k) : nI k - 1 = nI (k - 1) := by
  obtain ⟨q, rfl⟩ : ∃ q, k = q + 1 := ⟨k - 1, by omega⟩
  exact nI_pred q
theorem allPlays_N (N : Nat) {B : Nat} (hB : B < 512) (hp : pc B ≤ 3) : F_X3_allPlays N (nI B) = some (nI (2 ^ 2 ^ pc B - 1)) := by
  have h1 := pb8 hp
  unfold F_X3_allPlays
  rw [plays3_N N hB hp]
  show some ((1 : Int32) <<< (nI (2 ^ pc B) &&& 31) - 1) = _
  rw [shl1 _ (by omega), pred_N (pw_pos _)]
theorem hasPlay_N (N : Nat) {B k : Nat} (hB : B < 512) (hp : pc B ≤ 3) (hk : k < 2 ^ 31) : F_X3_hasPlay N (nI k) (nI B) = some (decide (k < 2 ^ pc B)) := by
  have h1 := pb8 hp
  unfold F_X3_hasPlay
  rw [if_neg (nI_pos hk), plays3_N N hB hp]
  show (if nI (2 ^ pc B) ≤ nI k then some false else some true) = _
  rw [if_nle (by omega) hk]
  by_cases e : k < 2 ^ pc B
  · rw [if_neg (by omega), decide_eq_true e]
  · rw [if_pos (by omega), decide_eq_false e]
theorem hasPlay_neg (N : Nat) {x b : Int32} (h : x < 0) : F_X3_hasPlay N x b = some false := if_pos h
theorem hasLearned_N (N : Nat) {L p : Nat} (hL : L < 2 ^ 31) (hp : p < 32) : F_X3_hasLearned N (nI p) (nI L) = some (decide (bt L p = 1)) := by
  have h2 := bt_lt L p
  unfold F_X3_hasLearned
  rw [bit_N N hL hp]
  show (if nI (bt L p) = nI 1 then some true else some false) = _
  rw [if_neq (by omega) (by decide)]
  by_cases e : bt L p = 1
  · rw [if_pos e, decide_eq_true e]
  · rw [if_neg e, decide_eq_false e]
theorem hasVariables_neg (N : Nat) {x b : Int32} (h : x < 0) : F_X3_hasVariables N x b = some false := if_pos h
theorem div_pow {k n : Nat} : k / 2 ^ n = 0 ↔ k < 2 ^ n := by
  rw [Nat.div_eq_zero_iff]
  have := pw_pos n
  omega
theorem hasVariables_N (N : Nat) {k n : Nat} (hk : k < 2 ^ 31) (hn : n < 32) : F_X3_hasVariables N (nI k) (nI n) = some (decide (k < 2 ^ n)) := by
  have h1 : k / 2 ^ n < 2 ^ 31 := Nat.lt_of_le_of_lt (Nat.div_le_self _ _) hk
  unfold F_X3_hasVariables
  rw [if_neg (nI_pos hk), shr_N hk hn, n0, if_neq h1 (by decide)]
  by_cases e : k < 2 ^ n
  · rw [if_pos (div_pow.mpr e), decide_eq_true e]
  · rw [if_neg (fun q => e (div_pow.mp q)), decide_eq_false e]
theorem in_N (N : Nat) {a b c : Nat} (ha : a < 2 ^ 31) (hb : b < 2 ^ 31) (hc : c < 2 ^ 31) : F_X5_in N (nI a) (nI b) (nI c) = some (decide (b ≤ a ∧ a ≤ c)) := by
  unfold F_X5_in
  rw [if_nlt ha hb, if_nlt hc ha]
  by_cases e : a < b
  · rw [if_pos e, decide_eq_false (by omega)]
  · rw [if_neg e]
    by_cases e2 : c < a
    · rw [if_pos e2, decide_eq_false (by omega)]
    · rw [if_neg e2, decide_eq_true (by omega)]
theorem in_neg (N : Nat) {x c : Int32} (h : x < 0) : F_X5_in N x 0 c = some false := if_pos h
theorem in_pred (N : Nat) {k n : Nat} (hk : k < 2 ^ 31) (hn : n < 2 ^ 31) : F_X5_in N (nI k) 0 (nI n - 1) = some (decide (k < n)) := by
  rcases Nat.eq_zero_or_pos n with rfl | h
  · unfold F_X5_in
    rw [if_neg (nI_pos hk), decide_eq_false (Nat.not_lt_zero _)]
    exact if_pos (Int32.lt_of_lt_of_le (by decide) (nI_pos' hk))
  · rw [pred_N h, n0, in_N N hk (by decide) (by omega)]
    congr 1
    exact decide_eq_decide.mpr (by omega)
theorem neg_or (x : Int32) : x < 0 ∨ ∃ k, k < 2 ^ 31 ∧ x = nI k := by
  by_cases h : x < 0
  · exact .inl h
  · exact .inr (nI_of h)
theorem isPlay_N {N B k : Nat} {s : Nat → Int32} (hN : 2000 ≤ N) (h1 : s 1 = nI B) (hB : B < 512) (hp : pc B ≤ 3) (hk : k < 2 ^ 31) : F_X5_isPlay N (nI k) s = some (decide (k < 2 ^ pc B)) := by
  have := pb8 hp
  unfold F_X5_isPlay
  rw [plays5_N hN h1 hB hp]
  show ob1 (F_X5_in N (nI k) 0 (nI (2 ^ pc B) - 1)) _ = _
  rw [in_pred N hk (by omega)]; rfl
theorem isPlay_neg {N B : Nat} {s : Nat → Int32} (hN : 2000 ≤ N) (h1 : s 1 = nI B) (hB : B < 512) (hp : pc B ≤ 3) {x : Int32} (h : x < 0) : F_X5_isPlay N x s = some false := by
  unfold F_X5_isPlay
  rw [plays5_N hN h1 hB hp]
  show ob1 (F_X5_in N x 0 (nI (2 ^ pc B) - 1)) _ = _
  rw [in_neg N h]; rfl
theorem isSet_N (N : Nat) {n k : Nat} {s : Nat → Int32} (h0 : s 0 = nI n) (hn : n ≤ 9) (hk : k < 2 ^ 31) : F_X5_isSet N (nI k) s = some (decide (k < 2 ^ n)) := by
  have := pw9 hn
  unfold F_X5_isSet
  rw [h0, shl1 _ (by omega), in_pred N hk (by omega)]; rfl
theorem isSet_neg (N : Nat) {s : Nat → Int32} {x : Int32} (h : x < 0) : F_X5_isSet N x s = some false := by
  unfold F_X5_isSet
  rw [in_neg N h]; rfl
theorem isVariable_N (N : Nat) {n k : Nat} {s : Nat → Int32} (h0 : s 0 = nI n) (hn : n ≤ 9) (hk : k < 2 ^ 31) : F_X5_isVariable N (nI k) s = some (decide (k < n)) := by
  unfold F_X5_isVariable
  rw [h0, in_pred N hk (by omega)]; rfl
theorem isVariable_neg (N : Nat) {s : Nat → Int32} {x : Int32} (h : x < 0) : F_X5_isVariable N x s = some false := by
  unfold F_X5_isVariable
  rw [in_neg N h]; rfl
theorem isClause_N (N : Nat) {C k : Nat} {s : Nat → Int32} (h2 : s 2 = nI C) (hC : C ≤ 20) (hk : k < 2 ^ 31) : F_X5_isClause N (nI k) s = some (decide (k < C)) := by
  unfold F_X5_isClause
  rw [h2, in_pred N hk (by omega)]; rfl
theorem isClause_neg (N : Nat) {s : Nat → Int32} {x : Int32} (h : x < 0) : F_X5_isClause N x s = some false := by
  unfold F_X5_isClause
  rw [in_neg N h]; rfl
theorem ms_mF {n B C Ln : Nat} {R : Int32} {pos neg s : Nat → Int32} (m : Ms n B C Ln R pos neg s) (h : Nat) : mF s C h = mC pos neg C h :=
  hR_congr (nI h) C 0 (fun i _ h2 => ⟨m.2.2.2.2.2.1 i (by omega), m.2.2.2.2.2.2 i (by omega)⟩)
theorem ms_mF' {n B C Ln : Nat} {R : Int32} {pos neg s : Nat → Int32} (m : Ms n B C Ln R pos neg s) : mF s C = mC pos neg C := funext (ms_mF m)
