/-! THE LAW: the script's numbers -/
theorem and_max (x : Int32) : ∃ z, z < 2 ^ 31 ∧ x &&& 2147483647 = nI z := by
  rcases neg_or (x &&& 2147483647) with h | h
  · exfalso
    have h1 : (x &&& 2147483647).toInt < 0 := Int32.lt_iff_toInt_lt.mp h
    have h2 : (x &&& 2147483647).toBitVec.msb = true := by rw [BitVec.msb_eq_toInt]; exact decide_eq_true h1
    rw [Int32.toBitVec_and, BitVec.msb_and, show (2147483647 : Int32).toBitVec.msb = false by decide, Bool.and_false] at h2
    cases h2
  · exact h
theorem and_le {a : Nat} (ha : a < 2 ^ 31) (w : Int32) : ∃ y, y ≤ a ∧ nI a &&& w = nI y := by
  refine ⟨(nI a &&& w).toBitVec.toNat, ?_, ?_⟩
  · rw [Int32.toBitVec_and, BitVec.toNat_and]
    refine Nat.le_trans Nat.and_le_left ?_
    show (BitVec.ofNat 32 a).toNat ≤ a
    rw [BitVec.toNat_ofNat]
    exact Nat.mod_le _ _
  · apply Int32.toBitVec_inj.mp
    show _ = BitVec.ofNat 32 _
    rw [BitVec.ofNat_toNat, BitVec.setWidth_eq]
theorem cell_N (N : Nat) (xs : Nat → Int32) {L k : Nat} (hL : L ≤ 260) (hk : k < 2 ^ 31) : ∃ z, z < 2 ^ 31 ∧ F_L_cell N xs L (nI k) = some (nI z) := by
  unfold F_L_cell
  rw [if_nle (by omega) hk]
  by_cases e : L ≤ k
  · rw [if_pos e]
    obtain ⟨z, hz, ez⟩ := and_max (16807 * (nI k + 47))
    exact ⟨z, hz, by rw [ez]⟩
  · rw [if_neg e, inb_f (by omega) (by omega)]
    obtain ⟨z, hz, ez⟩ := and_max (xs (nI k).toNatClampNeg)
    exact ⟨z, hz, by rw [ez]⟩
theorem pc_full : ∀ n, n < 10 → pc (2 ^ n - 1) = n := by decide +kernel
