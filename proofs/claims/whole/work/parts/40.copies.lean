/-! THE PURE SIDE: copies, hope -/
def cm (L a : Nat) : Nat → Nat
  | 0 => 0
  | p + 1 => cm L a p ||| if bt L p = 1 then 2 ^ (p % 2 ^ a) else 0
theorem cm_lt (L a : Nat) : ∀ p, p ≤ 8 → cm L a p < 2 ^ 8 := by
  intro p
  induction p with
  | zero => intro _; exact pw_pos 8
  | succ p ih =>
    intro hp
    refine Nat.or_lt_two_pow (ih (by omega)) ?_
    split
    · exact Nat.pow_lt_pow_right (by decide) (Nat.lt_of_le_of_lt (Nat.mod_le _ _) (by omega))
    · decide
theorem cm_high {L a k : Nat} (hL : L < 2 ^ k) : ∀ d, cm L a (k + d) = cm L a k := by
  intro d
  induction d with
  | zero => rfl
  | succ d ih =>
    show cm L a (k + d) ||| (if bt L (k + d) = 1 then 2 ^ ((k + d) % 2 ^ a) else 0) = _
    rw [bt_high hL (Nat.le_add_right k d), if_neg (by decide), Nat.or_zero, ih]
theorem and_pred {p a : Nat} (ha : a < 16) : nI p &&& (((1 : Int32) <<< (nI a &&& 31)) - 1) = nI (p % 2 ^ a) := by
  rw [shl1 a ha, pred_N (pw_pos _), nI_and, Nat.and_two_pow_sub_one_eq_mod]
theorem cm_step {L a p : Nat} (hp : p < 8) (ha : a < 16) : nI (cm L a p) ||| ((1 : Int32) <<< ((nI p &&& (((1 : Int32) <<< (nI a &&& 31)) - 1)) &&& 31)) = nI (cm L a p ||| 2 ^ (p % 2 ^ a)) := by
  have : p % 2 ^ a ≤ p := Nat.mod_le _ _
  rw [and_pred ha, shl1 _ (by omega), nI_or]
theorem beginnings_N {N B L a : Nat} (hN : 2000 ≤ N) (hB : B < 512) (hp : pc B ≤ 3) (hL : L < 2 ^ 2 ^ pc B) (ha : a < 16) : F_X4_learnedBeginnings N (nI a) (nI B) (nI L) = some (nI (pc (cm L a 8))) := by
  have p1 := pb8 hp
  have p2 := pb256 hp
  have step : ∀ (d m p : Nat), p + d = 2 ^ pc B → d < m → L_X4_learnedBeginnings_13 N (nI L) (nI a) (nI (2 ^ pc B)) (fun u => ob1 (F_J6_bitCount_0f7a4 N u) (fun r => some r)) m (nI (cm L a p)) (nI p) = some (nI (pc (cm L a 8))) := by
    intro d
    induction d with
    | zero =>
      intro m p hd hm
      obtain ⟨m, rfl⟩ : ∃ q, m = q + 1 := ⟨m - 1, by omega⟩
      have h8 : cm L a 8 = cm L a p := by
        have := cm_high (a := a) hL (8 - 2 ^ pc B)
        rw [show 2 ^ pc B + (8 - 2 ^ pc B) = 8 by omega] at this
        rw [this, show p = 2 ^ pc B by omega]
      have h9 := cm_lt L a p (by omega)
      rw [L_X4_learnedBeginnings_13, if_nle (by omega) (by omega), if_pos (by omega), bitCount_N N (by omega), h8]; rfl
    | succ d ih =>
      intro m p hd hm
      obtain ⟨m, rfl⟩ : ∃ q, m = q + 1 := ⟨m - 1, by omega⟩
      have hi := ih m (p + 1) (by omega) (by omega)
      rw [show cm L a (p + 1) = cm L a p ||| (if bt L p = 1 then 2 ^ (p % 2 ^ a) else 0) from rfl] at hi
      rw [L_X4_learnedBeginnings_13, if_nle (by omega) (by omega), if_neg (by omega), hasLearned_N N (by omega) (by omega), nI_1]
      show (if decide (bt L p = 1) = true then L_X4_learnedBeginnings_13 N (nI L) (nI a) (nI (2 ^ pc B)) (fun u => ob1 (F_J6_bitCount_0f7a4 N u) (fun r => some r)) m (nI (cm L a p) ||| ((1 : Int32) <<< ((nI p &&& (((1 : Int32) <<< (nI a &&& 31)) - 1)) &&& 31))) (nI (p + 1)) else L_X4_learnedBeginnings_13 N (nI L) (nI a) (nI (2 ^ pc B)) (fun u => ob1 (F_J6_bitCount_0f7a4 N u) (fun r => some r)) m (nI (cm L a p)) (nI (p + 1))) = _
      rw [cm_step (by omega) ha]
      by_cases e : bt L p = 1
      · rw [if_pos e] at hi
        rw [decide_eq_true e, if_pos rfl]; exact hi
      · rw [if_neg e, Nat.or_zero] at hi
        rw [decide_eq_false e, if_neg (by decide)]; exact hi
  unfold F_X4_learnedBeginnings
  rw [plays3_N N hB hp]
  exact step (2 ^ pc B) N 0 (by omega) (by omega)
def cp (B L : Nat) : Nat → Nat
  | 0 => 0
  | v + 1 => cp B L v + if bt B v = 1 then 0 else pc (cm L (cnt B v) 8)
theorem copies3_N {N n B L : Nat} (hN : 2000 ≤ N) (hn : n ≤ 9) (hB : B < 512) (hp : pc B ≤ 3) (hL : L < 2 ^ 2 ^ pc B) : F_X4_copies N (nI n) (nI B) (nI L) = some (nI (cp B L n)) := by
  have step : ∀ (d m v : Nat), v + d = n → d < m → L_X4_copies_6 N (nI n) (nI B) (nI L) (fun u => some u) m (nI (cp B L v)) (nI (cnt B v)) (nI v) = some (nI (cp B L n)) := by
    intro d
    induction d with
    | zero =>
      intro m v hd hm
      obtain ⟨m, rfl⟩ : ∃ q, m = q + 1 := ⟨m - 1, by omega⟩
      rw [L_X4_copies_6, if_nle (by omega) (by omega), if_pos (by omega), show v = n by omega]
    | succ d ih =>
      intro m v hd hm
      obtain ⟨m, rfl⟩ : ∃ q, m = q + 1 := ⟨m - 1, by omega⟩
      have hc := cnt_le B v
      have hi := ih m (v + 1) (by omega) (by omega)
      rw [show cp B L (v + 1) = cp B L v + (if bt B v = 1 then 0 else pc (cm L (cnt B v) 8)) from rfl, show cnt B (v + 1) = cnt B v + bt B v from rfl] at hi
      rw [L_X4_copies_6, if_nle (by omega) (by omega), if_neg (by omega), owner_N N hB (by omega), beginnings_N hN hB hp hL (by omega), show nI v + 1 = nI (v + 1) from nI_1 v, show nI (cnt B v) + 1 = nI (cnt B v + 1) from nI_1 _]
      show (if nI (bt B v) = 1 then L_X4_copies_6 N (nI n) (nI B) (nI L) (fun u => some u) m (nI (cp B L v)) (nI (cnt B v + 1)) (nI (v + 1)) else L_X4_copies_6 N (nI n) (nI B) (nI L) (fun u => some u) m (nI (cp B L v) + nI (pc (cm L (cnt B v) 8))) (nI (cnt B v)) (nI (v + 1))) = _
      rw [nI_add]
      rcases bt_01 B v with e | e
      · rw [e] at hi ⊢
        rw [if_neg (by decide)] at hi ⊢
        exact hi
      · rw [e] at hi ⊢
        rw [if_pos rfl] at hi
        rw [if_pos (by decide)]
        exact hi
  unfold F_X4_copies
  exact step n N 0 (by omega) (by omega)
theorem cnt_congr {x y : Nat} : ∀ v, (∀ i, i < v → bt x i = bt y i) → cnt x v = cnt y v := by
  intro v
  induction v with
  | zero => intro _; rfl
  | succ v ih =>
    intro h
    show cnt x v + bt x v = cnt y v + bt y v
    rw [ih (fun i q => h i (by omega)), h v (by omega)]
theorem bt_tb {x y i j : Nat} (h : x.testBit i = y.testBit j) : bt x i = bt y j := by
  rw [tbit, tbit] at h
  rcases bt_01 x i with a | a <;> rcases bt_01 y j with b | b <;> rw [a, b] at h ⊢ <;> simp at h
theorem pc_mod (B : Nat) {v : Nat} (hv : v ≤ 9) : pc (B % 2 ^ v) = cnt B v := by
  unfold pc
  rw [cnt_high (Nat.mod_lt B (pw_pos v)) hv]
  exact cnt_congr v (fun i hi => bt_tb (by rw [Nat.testBit_mod_two_pow, decide_eq_true hi, Bool.true_and]))
theorem copies5_N {N n B L : Nat} {s : Nat → Int32} (hN : 2000 ≤ N) (h0 : s 0 = nI n) (h1 : s 1 = nI B) (h3 : s 3 = nI L) (hn : n ≤ 9) (hB : B < 512) (hp : pc B ≤ 3) (hL : L < 2 ^ 2 ^ pc B) : F_X5_copiesOfAll N s = some (nI (cp B L n)) := by
  have p2 := pb256 hp
  have inner : ∀ (a : Nat) (kont : Int32 → Option Int32), a < 16 → ∀ (d m p : Nat), p + d = 8 → d < m → L_X5_copiesOfAll_36 N s (nI a) kont m (nI (cm L a p)) (nI p) = kont (nI (cm L a 8)) := by
    intro a kont ha d
    induction d with
    | zero =>
      intro m p hd hm
      obtain ⟨m, rfl⟩ : ∃ q, m = q + 1 := ⟨m - 1, by omega⟩
      rw [L_X5_copiesOfAll_36, if_pos (by rw [show (8 : Int32) = nI 8 from rfl]; exact nI_le (by omega) (by omega)), show p = 8 by omega]
    | succ d ih =>
      intro m p hd hm
      obtain ⟨m, rfl⟩ : ∃ q, m = q + 1 := ⟨m - 1, by omega⟩
      have hi := ih m (p + 1) (by omega) (by omega)
      rw [show cm L a (p + 1) = cm L a p ||| (if bt L p = 1 then 2 ^ (p % 2 ^ a) else 0) from rfl] at hi
      rw [L_X5_copiesOfAll_36, show (8 : Int32) = nI 8 from rfl, if_nle (by omega) (by omega), if_neg (by omega), h3, shr_and (by omega) (by omega), nI_1]
      show (if nI (bt L p) = nI 1 then L_X5_copiesOfAll_36 N s (nI a) kont m (nI (cm L a p) ||| ((1 : Int32) <<< ((nI p &&& (((1 : Int32) <<< (nI a &&& 31)) - 1)) &&& 31))) (nI (p + 1)) else L_X5_copiesOfAll_36 N s (nI a) kont m (nI (cm L a p) ||| nI 0) (nI (p + 1))) = _
      rw [cm_step (by omega) ha, nI_or, Nat.or_zero]
      rcases bt_01 L p with e | e
      · rw [e] at hi ⊢
        rw [if_neg (by decide), Nat.or_zero] at hi
        rw [if_neg (by decide)]; exact hi
      · rw [e] at hi ⊢
        rw [if_pos rfl] at hi ⊢
        exact hi
  have step : ∀ (d m v : Nat), v + d = n → d < m → L_X5_copiesOfAll_4 N s (fun u => some u) m (nI (cp B L v)) (nI v) = some (nI (cp B L n)) := by
    intro d
    induction d with
    | zero =>
      intro m v hd hm
      obtain ⟨m, rfl⟩ : ∃ q, m = q + 1 := ⟨m - 1, by omega⟩
      rw [L_X5_copiesOfAll_4, h0, if_nle (by omega) (by omega), if_pos (by omega), show v = n by omega]
    | succ d ih =>
      intro m v hd hm
      obtain ⟨m, rfl⟩ : ∃ q, m = q + 1 := ⟨m - 1, by omega⟩
      have hc := cnt_le B v
      have hi := ih m (v + 1) (by omega) (by omega)
      rw [show cp B L (v + 1) = cp B L v + (if bt B v = 1 then 0 else pc (cm L (cnt B v) 8)) from rfl] at hi
      have hq := cm_lt L (cnt B v) 8 (Nat.le_refl _)
      rw [L_X5_copiesOfAll_4, h0, if_nle (by omega) (by omega), if_neg (by omega), h1, and_pred (show v < 16 by omega), ones_N (by omega) (Nat.lt_of_le_of_lt (Nat.mod_le _ _) hB), pc_mod B (show v ≤ 9 by omega)]
      show L_X5_copiesOfAll_36 N s (nI (cnt B v)) _ N (nI (cm L (cnt B v) 0)) (nI 0) = _
      rw [inner (cnt B v) _ (by omega) 8 N 0 rfl (by omega), own5_N N h1 hB (by omega), ones_N (by omega) (by omega), nI_1]
      show (if decide (bt B v = 1) = true then L_X5_copiesOfAll_4 N s (fun u => some u) m (nI (cp B L v) + nI 0) (nI (v + 1)) else L_X5_copiesOfAll_4 N s (fun u => some u) m (nI (cp B L v) + nI (pc (cm L (cnt B v) 8))) (nI (v + 1))) = _
      rw [nI_add, nI_add]
      by_cases e : bt B v = 1
      · rw [if_pos e] at hi
        rw [decide_eq_true e, if_pos rfl]; exact hi
      · rw [if_neg e] at hi
        rw [decide_eq_false e, if_neg (by decide)]; exact hi
  unfold F_X5_copiesOfAll
  exact step n N 0 (by omega) (by omega)
def hm (mf : Nat → Bool) (B n : Nat) : Nat → Nat
  | 0 => 0
  | h + 1 => hm mf B n h ||| if mf h = true then 2 ^ pl B h n else 0
theorem hm_lt (mf : Nat → Bool) (B n h : Nat) : hm mf B n h < 2 ^ 2 ^ cnt B n := by
  induction h with
  | zero => exact pw_pos _
  | succ h ih =>
    refine Nat.or_lt_two_pow ih ?_
    split
    · exact Nat.pow_lt_pow_right (by decide) (pl_lt B h n)
    · exact pw_pos _
theorem hm_wy (mf : Nat → Bool) (B n p : Nat) : ∀ h, (hm mf B n h).testBit p = decide (0 < wy mf B n p h) := by
  intro h
  induction h with
  | zero => show Nat.testBit 0 p = _; rw [Nat.zero_testBit]; rfl
  | succ h ih =>
    show (hm mf B n h ||| if mf h = true then 2 ^ pl B h n else 0).testBit p = decide (0 < wy mf B n p h + if p = pl B h n ∧ mf h = true then 1 else 0)
    rw [Nat.testBit_or, ih]
    cases e : mf h
    · rw [if_neg (by decide), if_neg (fun q => absurd q.2 (by decide)), Nat.zero_testBit, Bool.or_false]; rfl
    · rw [if_pos rfl, Nat.testBit_two_pow]
      by_cases e2 : p = pl B h n
      · rw [if_pos ⟨e2, rfl⟩, decide_eq_true e2.symm, Bool.or_true, decide_eq_true (by omega)]
      · rw [if_neg (fun q => e2 q.1), decide_eq_false (p := pl B h n = p) (fun q => e2 q.symm), Bool.or_false]; rfl
theorem nn_ok : ∀ a, a < 9 → ∀ k, k < 4 → nn64 (FP.ddiv (FP.i2d (nI a)) (FP.i2d (nI (2 ^ k)))) = true := by decide +kernel
theorem hope_c {N n B C Ln : Nat} {R : Int32} {pos neg s : Nat → Int32} (hN : 2000 ≤ N) (o : Ok n B C Ln) (m : Ms n B C Ln R pos neg s) (th : Int32) : ∃ r, F_X4_hope N (nI n) (nI B) (nI C) pos neg = some r ∧ F_X5_hope N s th = some (r, 0) := by
  have hn := o.1
  have hB := ok_512 o
  have hC := o.2.2.2.2.1
  have p9 := pw9 hn
  have p1 := pb8 o.2.2.1
  have p2 := pb256 o.2.2.1
  have eP := pc_n o.1 o.2.1
  have hM := hm_lt (mC pos neg C) B n (2 ^ n)
  rw [← eP] at hM
  have hc : pc (hm (mC pos neg C) B n (2 ^ n)) = cnt (hm (mC pos neg C) B n (2 ^ n)) (2 ^ pc B) := by
    by_cases e : 2 ^ pc B ≤ 9
    · exact cnt_high hM e
    · omega
  have hc9 := cnt_le (hm (mC pos neg C) B n (2 ^ n)) (2 ^ pc B)
  refine ⟨FP.ddiv (FP.i2d (nI (pc (hm (mC pos neg C) B n (2 ^ n))))) (FP.i2d (nI (2 ^ pc B))), ?_, ?_⟩
  · have step : ∀ (kont : Int32 → Option UInt64) (d q h : Nat), h + d = 2 ^ n → d < q → L_X4_hope_14 N (nI n) (nI B) (nI C) pos neg kont q (nI (hm (mC pos neg C) B n h)) (nI h) = kont (nI (hm (mC pos neg C) B n (2 ^ n))) := by
      intro kont d
      induction d with
      | zero =>
        intro q h hd hq
        obtain ⟨q, rfl⟩ : ∃ q', q = q' + 1 := ⟨q - 1, by omega⟩
        rw [L_X4_hope_14, shl1 n (by omega), if_nle (by omega) (by omega), if_pos (by omega), show h = 2 ^ n by omega]
      | succ d ih =>
        intro q h hd hq
        obtain ⟨q, rfl⟩ : ∃ q', q = q' + 1 := ⟨q - 1, by omega⟩
        have hi := ih q (h + 1) (by omega) (by omega)
        have hl := pl_lt B h n
        rw [← eP] at hl
        rw [show hm (mC pos neg C) B n (h + 1) = hm (mC pos neg C) B n h ||| (if mC pos neg C h = true then 2 ^ pl B h n else 0) from rfl] at hi
        rw [L_X4_hope_14, shl1 n (by omega), if_nle (by omega) (by omega), if_neg (by omega), holds_N hN hC, playIn_N hN hn hB (by omega), nI_1]
        show (if mC pos neg C h = true then L_X4_hope_14 N (nI n) (nI B) (nI C) pos neg kont q (nI (hm (mC pos neg C) B n h) ||| ((1 : Int32) <<< (nI (pl B h n) &&& 31))) (nI (h + 1)) else L_X4_hope_14 N (nI n) (nI B) (nI C) pos neg kont q (nI (hm (mC pos neg C) B n h)) (nI (h + 1))) = _
        rw [shl1 _ (by omega), nI_or]
        cases e : mC pos neg C h
        · rw [e, if_neg (by decide), Nat.or_zero] at hi
          exact hi
        · rw [e, if_pos rfl] at hi
          exact hi
    unfold F_X4_hope
    rw [show (0 : Int32) = nI (hm (mC pos neg C) B n 0) from rfl, show L_X4_hope_14 N (nI n) (nI B) (nI C) pos neg _ N (nI (hm (mC pos neg C) B n 0)) (nI (hm (mC pos neg C) B n 0)) = _ from step _ (2 ^ n) N 0 (by omega) (by omega)]
    rw [bitCount_N N (by omega), plays3_N N hB o.2.2.1]
    exact gd_t (nn_ok _ (by omega) _ (by have := o.2.2.1; omega))
  · have step : ∀ (kont : Int32 → Option (UInt64 × Int32)) (d q p : Nat), p + d = 2 ^ pc B → d < q → L_X5_hope_9 N s kont q (nI (cnt (hm (mC pos neg C) B n (2 ^ n)) p)) (nI p) = kont (nI (cnt (hm (mC pos neg C) B n (2 ^ n)) (2 ^ pc B))) := by
      intro kont d
      induction d with
      | zero =>
        intro q p hd hq
        obtain ⟨q, rfl⟩ : ∃ q', q = q' + 1 := ⟨q - 1, by omega⟩
        rw [L_X5_hope_9, plays5_N hN m.2.1 hB o.2.2.1]
        show (if nI (2 ^ pc B) ≤ nI p then _ else _) = _
        rw [if_nle (by omega) (by omega), if_pos (by omega), show p = 2 ^ pc B by omega]
      | succ d ih =>
        intro q p hd hq
        obtain ⟨q, rfl⟩ : ∃ q', q = q' + 1 := ⟨q - 1, by omega⟩
        have hi := ih q (p + 1) (by omega) (by omega)
        rw [show cnt (hm (mC pos neg C) B n (2 ^ n)) (p + 1) = cnt (hm (mC pos neg C) B n (2 ^ n)) p + bt (hm (mC pos neg C) B n (2 ^ n)) p from rfl] at hi
        have hw := wy_le (mC pos neg C) B n p (2 ^ n)
        have hb := hm_wy (mC pos neg C) B n p (2 ^ n)
        rw [tbit] at hb
        rw [L_X5_hope_9, plays5_N hN m.2.1 hB o.2.2.1]
        show (if nI (2 ^ pc B) ≤ nI p then _ else ob1 (F_X5_waysOf N (nI p) s) (fun r_7 => if r_7 ≤ nI 0 then L_X5_hope_9 N s kont q (nI (cnt (hm (mC pos neg C) B n (2 ^ n)) p) + nI 0) (nI p + nI 1) else L_X5_hope_9 N s kont q (nI (cnt (hm (mC pos neg C) B n (2 ^ n)) p) + nI 1) (nI p + nI 1))) = _
        rw [if_nle (by omega) (by omega), if_neg (by omega), ways5_N hN m.1 m.2.1 m.2.2.1 (ms_mF m) hB hn hC (by rw [← eP]; omega), nI_add, nI_add, nI_add]
        show (if nI (wy (mC pos neg C) B n p (2 ^ n)) ≤ nI 0 then L_X5_hope_9 N s kont q (nI (cnt (hm (mC pos neg C) B n (2 ^ n)) p + 0)) (nI (p + 1)) else L_X5_hope_9 N s kont q (nI (cnt (hm (mC pos neg C) B n (2 ^ n)) p + 1)) (nI (p + 1))) = _
        rw [if_nle (by omega) (by decide)]
        rcases bt_01 (hm (mC pos neg C) B n (2 ^ n)) p with e | e
        · rw [e] at hb hi
          have := of_decide_eq_false (p := 0 < wy (mC pos neg C) B n p (2 ^ n)) (hb.symm.trans (by decide))
          rw [if_pos (by omega)]; exact hi
        · rw [e] at hb hi
          have := of_decide_eq_true (p := 0 < wy (mC pos neg C) B n p (2 ^ n)) (hb.symm.trans (by decide))
          rw [if_neg (by omega)]; exact hi
    unfold F_X5_hope
    rw [show (0 : Int32) = nI 0 from rfl]
    refine (step _ (2 ^ pc B) N 0 (by omega) (by omega)).trans ?_
    rw [plays5_N hN m.2.1 hB o.2.2.1, ← hc]
    exact gd_t (nn_ok _ (by omega) _ (by have := o.2.2.1; omega))
