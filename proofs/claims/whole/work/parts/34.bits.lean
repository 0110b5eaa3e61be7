/-! THE TABLE OF BEATEN SETS -/
def bw (x : Int64) (j : Nat) : Bool := x.toBitVec.getLsbD j
theorem bw_and (x y : Int64) (j : Nat) : bw (x &&& y) j = (bw x j && bw y j) := by
  unfold bw; rw [Int64.toBitVec_and, BitVec.getLsbD_and]
theorem bw_or (x y : Int64) (j : Nat) : bw (x ||| y) j = (bw x j || bw y j) := by
  unfold bw; rw [Int64.toBitVec_or, BitVec.getLsbD_or]
theorem bw_m1 : ∀ j, j < 64 → bw (-1) j = true := by decide +kernel
theorem s63 : ∀ j, j < 64 → (((nI j).toInt64 &&& 63).toBitVec.smod 64).toNat = j := by decide +kernel
theorem shr64 (x : Int64) {j : Nat} (hj : j < 64) : ((x >>> ((nI j).toInt64 &&& 63)) &&& 1 = 1) ↔ bw x j = true := by
  rw [← Int64.toBitVec_inj, Int64.toBitVec_and, Int64.toBitVec_shiftRight]
  rw [BitVec.sshiftRight_eq', s63 j hj]
  rw [show (1 : Int64).toBitVec = 1#64 from rfl, BitVec.and_one_eq_setWidth_ofBool_getLsbD, BitVec.getLsbD_sshiftRight]
  unfold bw
  simp only [Nat.add_zero, show ¬ (64 ≤ 0) by decide, decide_false, Bool.not_false, Bool.true_and, hj, if_true]
  cases x.toBitVec.getLsbD j <;> decide
theorem wordOf_N (N : Nat) {v h : Nat} (hv : v < 16) : F_X0_wordOf N (nI v) (nI h) = some (nI ((2 ^ v + h) * 4)) := by
  unfold F_X0_wordOf
  rw [shl1 v hv, nI_add, show (4 : Int32) = nI 4 from rfl, pk_mul]
theorem has_N (N : Nat) {v h S : Nat} (bits : Nat → Int64) (hv : v ≤ 9) (hh : h < 2 ^ v) (hS : S < 256) : F_X0_has N (nI v) (nI h) (nI S) bits = some (bw (bits ((2 ^ v + h) * 4 + S / 64)) (S % 64)) := by
  have p1 := pw9 hv
  have p2 : S / 64 < 4 := by omega
  unfold F_X0_has
  rw [wordOf_N N (by omega)]
  show ob1 (F_X4_readLong N 4096 (nI ((2 ^ v + h) * 4) + (nI S >>> (nI 6 &&& 31))) bits) _ = _
  rw [shr_N (by omega) (by decide), nI_add, show S / 2 ^ 6 = S / 64 from rfl, readL_N N bits (by omega) (by decide)]
  show (if lg_cmp ((bits ((2 ^ v + h) * 4 + S / 64) >>> ((nI S &&& 63).toInt64 &&& 63)) &&& 1) 1 = (0 : Int32) then some true else some false) = _
  rw [pk_andN (by omega) 6 (m := 63) (by decide), show S % 2 ^ 6 = S % 64 from rfl]
  have h1 := shr64 (bits ((2 ^ v + h) * 4 + S / 64)) (show S % 64 < 64 from Nat.mod_lt _ (by decide))
  by_cases e : bw (bits ((2 ^ v + h) * 4 + S / 64)) (S % 64) = true
  · rw [if_pos ((lg_cmp_eq _ _).mpr (h1.mpr e)), e]
  · rw [if_neg (fun q => e (h1.mp ((lg_cmp_eq _ _).mp q))), Bool.eq_false_iff.mpr e]
def swv (p w : Nat) : Int64 := (F_X0_setsWithout 0 (nI p) (nI w)).getD 0
theorem sw_N (N : Nat) {p w : Nat} (hp : p < 8) (hw : w < 4) : F_X0_setsWithout N (nI p) (nI w) = some (swv p w) := by
  have key : ∀ p, p < 8 → ∀ w, w < 4 → F_X0_setsWithout 0 (nI p) (nI w) = some (swv p w) := by decide +kernel
  exact key p hp w hw
theorem sw_bit : ∀ p, p < 8 → ∀ w, w < 4 → ∀ j, j < 64 → bw (swv p w) j = decide (bt (64 * w + j) p = 0) := by decide +kernel
def B4 (b b' : Nat → Int64) (i : Nat) (val : Nat → Nat → Bool) : Prop := (∀ k, k < i ∨ i + 4 ≤ k → b' k = b k) ∧ ∀ w, w < 4 → ∀ j, j < 64 → bw (b' (i + w)) j = val w j
theorem updL_s (f : Nat → Int64) (k : Nat) (x : Int64) : vp_updL f k x k = x := by simp [vp_updL]
theorem updL_n (f : Nat → Int64) {k j : Nat} (x : Int64) (h : j ≠ k) : vp_updL f k x j = f j := by simp [vp_updL, h]
/-- the formula at the values h -/
def mC (pos neg : Nat → Int32) (C h : Nat) : Bool := hR pos neg (nI h) 0 C
theorem setEnd_N {N n B C h : Nat} {pos neg : Nat → Int32} (hN : 2000 ≤ N) (hn : n ≤ 9) (hB : B < 2 ^ n) (hp : pc B ≤ 3) (hC : C ≤ 20) (hh : h < 2 ^ n) (bits : Nat → Int64) : ∃ b', F_X0_setEnd N (nI h) bits (nI n) (nI B) (nI C) pos neg = some b' ∧ B4 bits b' ((2 ^ n + h) * 4) (fun w j => lfS B n (mC pos neg C) (64 * w + j) h) := by
  have p1 := pw9 hn
  have hB9 : B < 512 := by omega
  have hcn : cnt B n = pc B := (cnt_high hB hn).symm
  have hpl : pl B h n < 8 := Nat.lt_of_lt_of_le (pl_lt B h n) (by rw [hcn]; exact Nat.le_trans (pw_le hp) (by decide))
  unfold F_X0_setEnd
  rw [wordOf_N N (by omega), holds_N hN hC, playIn_N hN hn hB9 (by omega)]
  show ∃ b', L_X0_setEnd_26 N (nI ((2 ^ n + h) * 4)) (mC pos neg C h) (nI (pl B h n)) (fun t_bits_9 => some t_bits_9) N (nI 0) bits = some b' ∧ _
  have step : ∀ (d m w : Nat) (b : Nat → Int64), w + d = 4 → d < m → (∀ k, k < (2 ^ n + h) * 4 ∨ (2 ^ n + h) * 4 + 4 ≤ k → b k = bits k) → (∀ w', w' < w → ∀ j, j < 64 → bw (b ((2 ^ n + h) * 4 + w')) j = lfS B n (mC pos neg C) (64 * w' + j) h) → ∃ b', L_X0_setEnd_26 N (nI ((2 ^ n + h) * 4)) (mC pos neg C h) (nI (pl B h n)) (fun t_bits_9 => some t_bits_9) m (nI w) b = some b' ∧ B4 bits b' ((2 ^ n + h) * 4) (fun w j => lfS B n (mC pos neg C) (64 * w + j) h) := by
    intro d
    induction d with
    | zero =>
      intro m w b hd hm h1 h2
      obtain ⟨m, rfl⟩ : ∃ q, m = q + 1 := ⟨m - 1, by omega⟩
      refine ⟨b, ?_, h1, fun w' q => h2 w' (by omega)⟩
      rw [L_X0_setEnd_26, show (4 : Int32) = nI 4 from rfl, if_nle (by omega) (by omega), if_pos (by omega)]
    | succ d ih =>
      intro m w b hd hm h1 h2
      obtain ⟨m, rfl⟩ : ∃ q, m = q + 1 := ⟨m - 1, by omega⟩
      have key : ∃ x, L_X0_setEnd_26 N (nI ((2 ^ n + h) * 4)) (mC pos neg C h) (nI (pl B h n)) (fun t_bits_9 => some t_bits_9) (m + 1) (nI w) b = L_X0_setEnd_26 N (nI ((2 ^ n + h) * 4)) (mC pos neg C h) (nI (pl B h n)) (fun t_bits_9 => some t_bits_9) m (nI (w + 1)) (vp_updL b ((2 ^ n + h) * 4 + w) x) ∧ ∀ j, j < 64 → bw x j = lfS B n (mC pos neg C) (64 * w + j) h := by
        rw [L_X0_setEnd_26, show (4 : Int32) = nI 4 from rfl, if_nle (by omega) (by omega), if_neg (by omega), sw_N N hpl (by omega), nI_add, nI_1]
        unfold lfS
        cases e : mC pos neg C h
        · refine ⟨swv (pl B h n) w, ?_, fun j hj => ?_⟩
          · show ob1 (F_X4_writeLong N 4096 (nI ((2 ^ n + h) * 4 + w)) (swv (pl B h n) w) b) _ = _
            rw [writeL_N N b _ (by omega) (by decide)]
            rfl
          · rw [sw_bit _ hpl _ (by omega) _ hj, Bool.or_false]
        · refine ⟨-1, ?_, fun j hj => ?_⟩
          · show ob1 (F_X4_writeLong N 4096 (nI ((2 ^ n + h) * 4 + w)) (-1) b) _ = _
            rw [writeL_N N b _ (by omega) (by decide)]
            rfl
          · rw [bw_m1 j hj, Bool.or_true]
      obtain ⟨x, k1, k2⟩ := key
      rw [k1]
      refine ih m (w + 1) _ (by omega) (by omega) (fun k hk => ?_) (fun w' q j hj => ?_)
      · rw [updL_n _ _ (by omega)]; exact h1 k hk
      · by_cases e : w' = w
        · rw [e, updL_s]; exact k2 j hj
        · rw [updL_n _ _ (by omega)]; exact h2 w' (by omega) j hj
  exact step 4 N 0 bits (by omega) (by omega) (fun k _ => rfl) (fun w' q => absurd q (Nat.not_lt_zero _))
theorem join_N {N n v h : Nat} (hN : 2000 ≤ N) (hn : n ≤ 9) (hv : v < n) (hh : h < 2 ^ v) (own : Bool) (bits : Nat → Int64) : ∃ b', F_X0_join N (nI v) (nI h) own bits = some b' ∧ B4 bits b' ((2 ^ v + h) * 4) (fun w j => if own = true then (bw (bits ((2 ^ (v + 1) + h) * 4 + w)) j && bw (bits ((2 ^ (v + 1) + (h + 2 ^ v)) * 4 + w)) j) else (bw (bits ((2 ^ (v + 1) + h) * 4 + w)) j || bw (bits ((2 ^ (v + 1) + (h + 2 ^ v)) * 4 + w)) j)) := by
  have p1 : 2 ^ v ≤ 256 := Nat.le_trans (pw_le (show v ≤ 8 by omega)) (by decide)
  have p2 : 2 ^ (v + 1) = 2 ^ v + 2 ^ v := by rw [Nat.pow_succ]; omega
  have ho : nI h ||| ((1 : Int32) <<< (nI v &&& 31)) = nI (h + 2 ^ v) := by
    have := or_bit (b := 1) hh (by decide) (show v < 16 by omega)
    rw [Nat.one_mul] at this
    exact this
  unfold F_X0_join
  rw [wordOf_N N (by omega), nI_1, wordOf_N N (by omega), ho, wordOf_N N (by omega)]
  show ∃ b', L_X0_join_32 N own (nI ((2 ^ v + h) * 4)) (nI ((2 ^ (v + 1) + h) * 4)) (nI ((2 ^ (v + 1) + (h + 2 ^ v)) * 4)) (fun t_bits_9 => some t_bits_9) N (nI 0) bits = some b' ∧ _
  have step : ∀ (d m w : Nat) (b : Nat → Int64), w + d = 4 → d < m → (∀ k, k < (2 ^ v + h) * 4 ∨ (2 ^ v + h) * 4 + 4 ≤ k → b k = bits k) → (∀ w', w' < w → ∀ j, j < 64 → bw (b ((2 ^ v + h) * 4 + w')) j = if own = true then (bw (bits ((2 ^ (v + 1) + h) * 4 + w')) j && bw (bits ((2 ^ (v + 1) + (h + 2 ^ v)) * 4 + w')) j) else (bw (bits ((2 ^ (v + 1) + h) * 4 + w')) j || bw (bits ((2 ^ (v + 1) + (h + 2 ^ v)) * 4 + w')) j)) → ∃ b', L_X0_join_32 N own (nI ((2 ^ v + h) * 4)) (nI ((2 ^ (v + 1) + h) * 4)) (nI ((2 ^ (v + 1) + (h + 2 ^ v)) * 4)) (fun t_bits_9 => some t_bits_9) m (nI w) b = some b' ∧ B4 bits b' ((2 ^ v + h) * 4) (fun w j => if own = true then (bw (bits ((2 ^ (v + 1) + h) * 4 + w)) j && bw (bits ((2 ^ (v + 1) + (h + 2 ^ v)) * 4 + w)) j) else (bw (bits ((2 ^ (v + 1) + h) * 4 + w)) j || bw (bits ((2 ^ (v + 1) + (h + 2 ^ v)) * 4 + w)) j)) := by
    intro d
    induction d with
    | zero =>
      intro m w b hd hm h1 h2
      obtain ⟨m, rfl⟩ : ∃ q, m = q + 1 := ⟨m - 1, by omega⟩
      refine ⟨b, ?_, h1, fun w' q => h2 w' (by omega)⟩
      rw [L_X0_join_32, show (4 : Int32) = nI 4 from rfl, if_nle (by omega) (by omega), if_pos (by omega)]
    | succ d ih =>
      intro m w b hd hm h1 h2
      obtain ⟨m, rfl⟩ : ∃ q, m = q + 1 := ⟨m - 1, by omega⟩
      have key : ∃ x, L_X0_join_32 N own (nI ((2 ^ v + h) * 4)) (nI ((2 ^ (v + 1) + h) * 4)) (nI ((2 ^ (v + 1) + (h + 2 ^ v)) * 4)) (fun t_bits_9 => some t_bits_9) (m + 1) (nI w) b = L_X0_join_32 N own (nI ((2 ^ v + h) * 4)) (nI ((2 ^ (v + 1) + h) * 4)) (nI ((2 ^ (v + 1) + (h + 2 ^ v)) * 4)) (fun t_bits_9 => some t_bits_9) m (nI (w + 1)) (vp_updL b ((2 ^ v + h) * 4 + w) x) ∧ ∀ j, j < 64 → bw x j = if own = true then (bw (bits ((2 ^ (v + 1) + h) * 4 + w)) j && bw (bits ((2 ^ (v + 1) + (h + 2 ^ v)) * 4 + w)) j) else (bw (bits ((2 ^ (v + 1) + h) * 4 + w)) j || bw (bits ((2 ^ (v + 1) + (h + 2 ^ v)) * 4 + w)) j) := by
        rw [L_X0_join_32, show (4 : Int32) = nI 4 from rfl, if_nle (by omega) (by omega), if_neg (by omega), nI_add, nI_add, nI_add, nI_1, readL_N N b (by omega) (by decide), readL_N N b (by omega) (by decide), h1 ((2 ^ (v + 1) + h) * 4 + w) (by omega), h1 ((2 ^ (v + 1) + (h + 2 ^ v)) * 4 + w) (by omega)]
        cases own
        · refine ⟨bits ((2 ^ (v + 1) + h) * 4 + w) ||| bits ((2 ^ (v + 1) + (h + 2 ^ v)) * 4 + w), ?_, fun j hj => ?_⟩
          · show ob1 (F_X4_writeLong N 4096 (nI ((2 ^ v + h) * 4 + w)) (bits ((2 ^ (v + 1) + h) * 4 + w) ||| bits ((2 ^ (v + 1) + (h + 2 ^ v)) * 4 + w)) b) _ = _
            rw [writeL_N N b _ (by omega) (by decide)]
            rfl
          · rw [bw_or]; rfl
        · refine ⟨bits ((2 ^ (v + 1) + h) * 4 + w) &&& bits ((2 ^ (v + 1) + (h + 2 ^ v)) * 4 + w), ?_, fun j hj => ?_⟩
          · show ob1 (F_X4_writeLong N 4096 (nI ((2 ^ v + h) * 4 + w)) (bits ((2 ^ (v + 1) + h) * 4 + w) &&& bits ((2 ^ (v + 1) + (h + 2 ^ v)) * 4 + w)) b) _ = _
            rw [writeL_N N b _ (by omega) (by decide)]
            rfl
          · rw [bw_and]; rfl
      obtain ⟨x, k1, k2⟩ := key
      rw [k1]
      refine ih m (w + 1) _ (by omega) (by omega) (fun k hk => ?_) (fun w' q j hj => ?_)
      · rw [updL_n _ _ (by omega)]; exact h1 k hk
      · by_cases e : w' = w
        · rw [e, updL_s]; exact k2 j hj
        · rw [updL_n _ _ (by omega)]; exact h2 w' (by omega) j hj
  exact step 4 N 0 bits (by omega) (by omega) (fun k _ => rfl) (fun w' q => absurd q (Nat.not_lt_zero _))
/-- the bits from position v on -/
def BT (mf : Nat → Bool) (B n v : Nat) (b : Nat → Int64) : Prop := ∀ v', v ≤ v' → v' ≤ n → ∀ h, h < 2 ^ v' → ∀ w, w < 4 → ∀ j, j < 64 → bw (b ((2 ^ v' + h) * 4 + w)) j = gv (lfS B n mf (64 * w + j)) B (n - v') v' h
theorem bt_done {mf : Nat → Bool} {B n v : Nat} {b : Nat → Int64} (h : BT mf B n (v + 1) b) (h2 : ∀ h', h' < 2 ^ v → ∀ w, w < 4 → ∀ j, j < 64 → bw (b ((2 ^ v + h') * 4 + w)) j = gv (lfS B n mf (64 * w + j)) B (n - v) v h') : BT mf B n v b := fun v' a1 a2 h' a3 => by
  rcases Nat.lt_or_ge v v' with q | q
  · exact h v' q a2 h' a3
  · have : v' = v := by omega
    subst this
    exact h2 h' a3
theorem bup69 {N n B v : Nat} (mf : Nat → Bool) (hN : 2000 ≤ N) (hn : n ≤ 9) (hv : v < n) (kont : (Nat → Int64) → Option ((Nat → Int64) × Bool)) : ∀ (d m h : Nat) (b : Nat → Int64), h + d = 2 ^ v → d < m → BT mf B n (v + 1) b → (∀ h', h' < h → ∀ w, w < 4 → ∀ j, j < 64 → bw (b ((2 ^ v + h') * 4 + w)) j = gv (lfS B n mf (64 * w + j)) B (n - v) v h') → ∃ b', L_X0_bringUpToDate_69 N (nI v) kont m (decide (bt B v = 1)) (nI h) b = kont b' ∧ BT mf B n v b' := by
  have p1 : 2 ^ v ≤ 256 := Nat.le_trans (pw_le (show v ≤ 8 by omega)) (by decide)
  have p2 : 2 ^ (v + 1) = 2 ^ v + 2 ^ v := by rw [Nat.pow_succ]; omega
  intro d
  induction d with
  | zero =>
    intro m h b hd hm hT hb
    obtain ⟨m, rfl⟩ : ∃ q, m = q + 1 := ⟨m - 1, by omega⟩
    refine ⟨b, ?_, bt_done hT (fun h' q => hb h' (by omega))⟩
    rw [L_X0_bringUpToDate_69, shl1 v (by omega), if_nle (by omega) (by omega), if_pos (by omega)]
  | succ d ih =>
    intro m h b hd hm hT hb
    obtain ⟨m, rfl⟩ : ∃ q, m = q + 1 := ⟨m - 1, by omega⟩
    obtain ⟨b1, e1, t1, t2⟩ := join_N hN hn hv (show h < 2 ^ v by omega) (decide (bt B v = 1)) b
    rw [L_X0_bringUpToDate_69, shl1 v (by omega), if_nle (by omega) (by omega), if_neg (by omega), e1, nI_1]
    refine ih m (h + 1) b1 (by omega) (by omega) (fun v' a1 a2 h' a3 w hw j hj => ?_) (fun h' q w hw j hj => ?_)
    · have h4 : 2 ^ (v + 1) ≤ 2 ^ v' := pw_le a1
      rw [t1 _ (by omega)]
      exact hT v' a1 a2 h' a3 w hw j hj
    · by_cases e : h' = h
      · subst e
        refine (t2 w hw j hj).trans ?_
        show (if decide (bt B v = 1) = true then (bw (b ((2 ^ (v + 1) + h') * 4 + w)) j && bw (b ((2 ^ (v + 1) + (h' + 2 ^ v)) * 4 + w)) j) else (bw (b ((2 ^ (v + 1) + h') * 4 + w)) j || bw (b ((2 ^ (v + 1) + (h' + 2 ^ v)) * 4 + w)) j)) = _
        rw [hT (v + 1) (Nat.le_refl _) hv h' (by omega) w hw j hj, hT (v + 1) (Nat.le_refl _) hv (h' + 2 ^ v) (by omega) w hw j hj, gv_step _ B hv]
        by_cases e2 : bt B v = 1
        · rw [decide_eq_true e2, if_pos rfl, if_pos e2]
        · rw [decide_eq_false e2, if_neg e2]; rfl
      · rw [t1 _ (by omega)]
        exact hb h' (by omega) w hw j hj
theorem bup46 {N n B : Nat} (mf : Nat → Bool) (hN : 2000 ≤ N) (hn : n ≤ 9) (hB : B < 512) (kont : (Nat → Int64) → Option ((Nat → Int64) × Bool)) : ∀ (k m : Nat) (b : Nat → Int64), k ≤ n → k < m → BT mf B n k b → ∃ b', L_X0_bringUpToDate_46 N (nI B) kont m (nI k - 1) b = kont b' ∧ BT mf B n 0 b' := by
  intro k
  induction k with
  | zero =>
    intro m b hk hm hT
    obtain ⟨m, rfl⟩ : ∃ q, m = q + 1 := ⟨m - 1, by omega⟩
    refine ⟨b, ?_, hT⟩
    rw [L_X0_bringUpToDate_46, if_pos xm0]
  | succ k ih =>
    intro m b hk hm hT
    obtain ⟨m, rfl⟩ : ∃ q, m = q + 1 := ⟨m - 1, by omega⟩
    have p1 := pw9 (show k ≤ 9 by omega)
    rw [L_X0_bringUpToDate_46, xm1, if_neg (nI_pos (by omega)), xm2, owner_N N hB (by omega)]
    show ∃ b', (if nI (bt B k) = nI 1 then L_X0_bringUpToDate_69 N (nI k) (fun t_bits_25 => L_X0_bringUpToDate_46 N (nI B) kont m (nI k - 1) t_bits_25) N true (nI 0) b else L_X0_bringUpToDate_69 N (nI k) (fun t_bits_18 => L_X0_bringUpToDate_46 N (nI B) kont m (nI k - 1) t_bits_18) N false (nI 0) b) = kont b' ∧ BT mf B n 0 b'
    obtain ⟨b1, e1, t1⟩ := bup69 (N := N) (B := B) mf hN hn (show k < n by omega) (fun t_bits => L_X0_bringUpToDate_46 N (nI B) kont m (nI k - 1) t_bits) (2 ^ k) N 0 b (by omega) (by omega) hT (fun h' q => absurd q (Nat.not_lt_zero _))
    have hbl := bt_lt B k
    rw [if_neq (by omega) (by omega)]
    by_cases e : bt B k = 1
    · rw [decide_eq_true e] at e1
      rw [if_pos e, e1]
      exact ih m b1 (by omega) (by omega) t1
    · rw [decide_eq_false e] at e1
      rw [if_neg e, e1]
      exact ih m b1 (by omega) (by omega) t1
theorem bring_N {N n B C : Nat} {pos neg : Nat → Int32} (hN : 2000 ≤ N) (hn : n ≤ 9) (hB : B < 2 ^ n) (hp : pc B ≤ 3) (hC : C ≤ 20) (bits : Nat → Int64) (st : Bool) (hst : st = true ∨ BT (mC pos neg C) B n 0 bits) : ∃ b', F_X0_bringUpToDate N bits st (nI n) (nI B) (nI C) pos neg = some (b', false) ∧ BT (mC pos neg C) B n 0 b' := by
  have p1 := pw9 hn
  unfold F_X0_bringUpToDate
  cases st
  · rcases hst with q | q
    · cases q
    · exact ⟨bits, rfl, q⟩
  · rw [if_pos rfl]
    have step : ∀ (kont : (Nat → Int64) → Option ((Nat → Int64) × Bool)) (d m h : Nat) (b : Nat → Int64), h + d = 2 ^ n → d < m → (∀ h', h' < h → ∀ w, w < 4 → ∀ j, j < 64 → bw (b ((2 ^ n + h') * 4 + w)) j = lfS B n (mC pos neg C) (64 * w + j) h') → ∃ b', L_X0_bringUpToDate_22 N (nI n) (nI B) (nI C) pos neg kont m (nI h) b = kont b' ∧ ∀ h', h' < 2 ^ n → ∀ w, w < 4 → ∀ j, j < 64 → bw (b' ((2 ^ n + h') * 4 + w)) j = lfS B n (mC pos neg C) (64 * w + j) h' := by
      intro kont d
      induction d with
      | zero =>
        intro m h b hd hm hb
        obtain ⟨m, rfl⟩ : ∃ q, m = q + 1 := ⟨m - 1, by omega⟩
        refine ⟨b, ?_, fun h' q => hb h' (by omega)⟩
        rw [L_X0_bringUpToDate_22, shl1 n (by omega), if_nle (by omega) (by omega), if_pos (by omega)]
      | succ d ih =>
        intro m h b hd hm hb
        obtain ⟨m, rfl⟩ : ∃ q, m = q + 1 := ⟨m - 1, by omega⟩
        obtain ⟨b1, e1, t1, t2⟩ := setEnd_N (pos := pos) (neg := neg) hN hn hB hp hC (show h < 2 ^ n by omega) b
        rw [L_X0_bringUpToDate_22, shl1 n (by omega), if_nle (by omega) (by omega), if_neg (by omega), e1, nI_1]
        refine ih m (h + 1) b1 (by omega) (by omega) (fun h' q w hw j hj => ?_)
        by_cases e : h' = h
        · subst e; exact t2 w hw j hj
        · rw [t1 _ (by omega)]; exact hb h' (by omega) w hw j hj
    obtain ⟨b1, e1, t1⟩ := step (fun t_bits_4 => (L_X0_bringUpToDate_46 N (nI B) (fun t_bits_10 => some (t_bits_10, false)) N (nI n - 1) t_bits_4)) (2 ^ n) N 0 bits (by omega) (by omega) (fun h' q => absurd q (Nat.not_lt_zero _))
    rw [show (0 : Int32) = nI 0 from rfl, e1]
    refine bup46 (mC pos neg C) hN hn (by omega) (fun t_bits_10 => some (t_bits_10, false)) n N b1 (Nat.le_refl _) (by omega) (fun v' a1 a2 h a3 w hw j hj => ?_) |>.imp (fun b' q => q)
    have : v' = n := by omega
    subst this
    rw [Nat.sub_self]
    exact t1 h a3 w hw j hj
theorem has_B {N n B v h S : Nat} {mf : Nat → Bool} {bits : Nat → Int64} (hT : BT mf B n 0 bits) (hn : n ≤ 9) (hv : v ≤ n) (hh : h < 2 ^ v) (hS : S < 256) : F_X0_has N (nI v) (nI h) (nI S) bits = some (gv (lfS B n mf S) B (n - v) v h) := by
  rw [has_N N bits (by omega) hh hS, hT v (Nat.zero_le _) hv h hh (S / 64) (by omega) (S % 64) (Nat.mod_lt _ (by decide)), show 64 * (S / 64) + S % 64 = S from Nat.div_add_mod S 64]
