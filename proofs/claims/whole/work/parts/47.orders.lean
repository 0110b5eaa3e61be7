/-! THE PURE SIDE: numbers, orders -/
theorem dc (N : Nat) (r : Int32) : (∃ k, k < 10 ∧ r = nI (48 + k) ∧ F_X5_in N r 48 57 = some true ∧ F_X1_isDigit N r = some true) ∨ (F_X5_in N r 48 57 = some false ∧ F_X1_isDigit N r = some false) := by
  by_cases h : r < 48
  · exact .inr ⟨if_pos h, if_pos h⟩
  · rcases neg_or r with h0 | ⟨j, hj, rfl⟩
    · exact absurd (Int32.lt_trans h0 (by decide)) h
    · have h1 : 48 ≤ j := by
        rcases Nat.lt_or_ge j 48 with q | q
        · exact absurd (nI_lt q (by decide)) h
        · exact q
      have h2 := in_N N hj (show 48 < 2 ^ 31 by decide) (show 57 < 2 ^ 31 by decide)
      by_cases e : j ≤ 57
      · rw [decide_eq_true ⟨h1, e⟩] at h2
        exact .inl ⟨j - 48, by omega, by rw [show 48 + (j - 48) = j by omega], h2, h2⟩
      · rw [decide_eq_false (fun q => e q.2)] at h2
        exact .inr ⟨h2, h2⟩
theorem dig_val (x k : Nat) : ((10 * nI x) + nI (48 + k)) - 48 = nI (10 * x + k) := by
  rw [show (10 : Int32) = nI 10 from rfl, show (48 : Int32) = nI 48 from rfl, pk_mul, nI_add, pk_sub (by omega), show 10 * x + (48 + k) - 48 = 10 * x + k by omega]
theorem dig_59 {k : Nat} (hk : k < 10) : ¬ nI (48 + k) = 59 := fun q => absurd (nI_inj (b := 59) (by omega) (by decide) q) (by omega)
theorem nums {N t a : Nat} {bytes text : Nat → Int32} (hN : 2000 ≤ N) (tx : TX bytes t text) (ha : a ≤ t) : (∃ a' p, a < a' ∧ a' ≤ t ∧ p ≤ 7 ∧ (∀ err cp, F_X1_readPlay N bytes (nI t) (nI a) err cp = some (true, nI a', err, nI p)) ∧ ∀ one, F_X5_number_ N text (nI t) (nI a) one = some (true, nI a', nI p)) ∨ (∃ e x y, e ≤ t ∧ (∀ err cp, F_X1_readPlay N bytes (nI t) (nI a) err cp = some (false, x, nI e, y)) ∧ ((∃ z, ∀ one, F_X5_number_ N text (nI t) (nI a) one = some (false, nI e, z)) ∨ ¬ ch text t e = 59 ∧ ∃ z, ∀ one, F_X5_number_ N text (nI t) (nI a) one = some (true, nI e, z))) := by
  have ht := tx.1
  obtain ⟨N', hN'⟩ : ∃ q, N = q + 3 := ⟨N - 3, by omega⟩
  have hs0 := sign_N (N := N) tx (show a < 2 ^ 31 by omega)
  have hs1 := sign_N (N := N) tx (show a + 1 < 2 ^ 31 by omega)
  have hs2 := sign_N (N := N) tx (show a + 2 < 2 ^ 31 by omega)
  have hb0 := byteAt_N (N := N) tx (show a < 2 ^ 31 by omega)
  have hb1 := byteAt_N (N := N) tx (show a + 1 < 2 ^ 31 by omega)
  have hb2 := byteAt_N (N := N) tx (show a + 2 < 2 ^ 31 by omega)
  have c0 : ¬ nI (a + 2) ≤ nI a := nI_ge (by omega) (by omega)
  have c1 : ¬ nI (a + 2) ≤ nI (a + 1) := nI_ge (by omega) (by omega)
  have c2 : nI (a + 2) ≤ nI (a + 2) := nI_le (Nat.le_refl _) (by omega)
  have f1 : ¬ nI (a + 1) = nI a := fun q => absurd (nI_inj (by omega) (by omega) q) (by omega)
  have f2 : ¬ nI (a + 2) = nI a := fun q => absurd (nI_inj (by omega) (by omega) q) (by omega)
  have g0 : nI a ≤ nI a := nI_le (Nat.le_refl _) (by omega)
  have g1 : ¬ nI (a + 1) ≤ nI a := nI_ge (by omega) (by omega)
  have g2 : ¬ nI (a + 2) ≤ nI a := nI_ge (by omega) (by omega)
  have a2 : nI a + 2 = nI (a + 2) := nI_add a 2
  have i1 : nI a + 1 = nI (a + 1) := nI_1 a
  have i2 : nI (a + 1) + 1 = nI (a + 2) := nI_1 (a + 1)
  have z7 : (0 : Int32) ≤ 7 := by decide
  -- the loops
  have stepN : ∀ (kont : Int32 → Int32 → Option (Bool × Int32 × Int32 × Int32)) (p : Int32) (b : Nat), ¬ nI (a + 2) ≤ nI b → F_X1_byteAt N (nI b) bytes (nI t) = some (ch text t b) → F_X1_isDigit N (ch text t b) = some false → ∀ q, L_X1_readPlay_10 N (nI t) (nI a) bytes kont (q + 1) (nI b) p = kont (nI b) p := by
    intro kont p b h1 h2 h3 q
    rw [L_X1_readPlay_10, a2, if_neg h1, h2]
    simp only [ob1_s, h3, Bool.false_eq_true, if_false]
  have stepD : ∀ (kont : Int32 → Int32 → Option (Bool × Int32 × Int32 × Int32)) (x k b : Nat), ¬ nI (a + 2) ≤ nI b → F_X1_byteAt N (nI b) bytes (nI t) = some (nI (48 + k)) → F_X1_isDigit N (nI (48 + k)) = some true → ∀ q, L_X1_readPlay_10 N (nI t) (nI a) bytes kont (q + 1) (nI b) (nI x) = L_X1_readPlay_10 N (nI t) (nI a) bytes kont q (nI (b + 1)) (nI (10 * x + k)) := by
    intro kont x k b h1 h2 h3 q
    rw [L_X1_readPlay_10, a2, if_neg h1, h2]
    simp only [ob1_s, h3, if_true, dig_val, nI_1]
  have step5N : ∀ (kont : Int32 → Int32 → Option (Bool × Int32 × Int32)) (p : Int32) (b : Nat), F_X5_sign N text (nI t) (nI b) = some (ch text t b) → F_X5_in N (ch text t b) 48 57 = some false → ∀ q, L_X5_number__10 N (nI t) (nI a) text kont (q + 1) (nI b) p = kont (nI b) p := by
    intro kont p b h2 h3 q
    rw [L_X5_number__10, h2]
    simp only [ob1_s, h3, Bool.false_eq_true, if_false]
  have step5D : ∀ (kont : Int32 → Int32 → Option (Bool × Int32 × Int32)) (x k b : Nat), ¬ nI (a + 2) ≤ nI b → F_X5_sign N text (nI t) (nI b) = some (nI (48 + k)) → F_X5_in N (nI (48 + k)) 48 57 = some true → ∀ q, L_X5_number__10 N (nI t) (nI a) text kont (q + 1) (nI b) (nI x) = L_X5_number__10 N (nI t) (nI a) text kont q (nI (b + 1)) (nI (10 * x + k)) := by
    intro kont x k b h1 h2 h3 q
    rw [L_X5_number__10, a2, h2]
    simp only [ob1_s, h3, if_true, if_neg h1, dig_val, nI_1]
  have step5S : ∀ (kont : Int32 → Int32 → Option (Bool × Int32 × Int32)) (p : Int32), ∀ q, L_X5_number__10 N (nI t) (nI a) text kont (q + 1) (nI (a + 2)) p = kont (nI (a + 2)) p := by
    intro kont p q
    rw [L_X5_number__10, a2, hs2]
    rcases dc N (ch text t (a + 2)) with ⟨k, hk, hr, hi, -⟩ | ⟨hi, -⟩
    · simp only [ob1_s, hi, if_true, if_pos c2]
    · simp only [ob1_s, hi, Bool.false_eq_true, if_false]
  unfold F_X1_readPlay F_X5_number_
  rcases dc N (ch text t a) with ⟨k0, hk0, hr0, hi0, hd0⟩ | ⟨hi0, hd0⟩
  · have h0t := ch_lt (by omega) hr0
    have hb0' := hb0
    have hs0' := hs0
    rw [hr0] at hb0' hs0' hi0 hd0
    rcases dc N (ch text t (a + 1)) with ⟨k1, hk1, hr1, hi1, hd1⟩ | ⟨hi1, hd1⟩
    · have h1t := ch_lt (by omega) hr1
      have hb1' := hb1
      have hs1' := hs1
      rw [hr1] at hb1' hs1' hi1 hd1
      have L3 : ∀ kont, L_X1_readPlay_10 N (nI t) (nI a) bytes kont N (nI a) 0 = kont (nI (a + 2)) (nI (10 * k0 + k1)) := by
        intro kont
        have h1 := stepD kont 0 k0 a c0 hb0' hd0 (N' + 2)
        have h2 := stepD kont (10 * 0 + k0) k1 (a + 1) c1 hb1' hd1 (N' + 1)
        have h3 : L_X1_readPlay_10 N (nI t) (nI a) bytes kont (N' + 1) (nI (a + 2)) (nI (10 * k0 + k1)) = kont (nI (a + 2)) (nI (10 * k0 + k1)) := by
          rw [L_X1_readPlay_10, a2, if_pos c2]
        rw [show 10 * (10 * 0 + k0) + k1 = 10 * k0 + k1 by omega] at h2
        have h4 := h1.trans (h2.trans h3)
        rw [← hN'] at h4
        exact h4
      have L5 : ∀ kont, L_X5_number__10 N (nI t) (nI a) text kont N (nI a) 0 = kont (nI (a + 2)) (nI (10 * k0 + k1)) := by
        intro kont
        have h1 := step5D kont 0 k0 a c0 hs0' hi0 (N' + 2)
        have h2 := step5D kont (10 * 0 + k0) k1 (a + 1) c1 hs1' hi1 (N' + 1)
        have h3 := step5S kont (nI (10 * k0 + k1)) N'
        rw [show 10 * (10 * 0 + k0) + k1 = 10 * k0 + k1 by omega] at h2
        have h4 := h1.trans (h2.trans h3)
        rw [← hN'] at h4
        exact h4
      have q7 : nI (10 * k0 + k1) ≤ 7 ↔ 10 * k0 + k1 ≤ 7 := nI_leI (b := 7) (by omega) (by decide)
      rcases dc N (ch text t (a + 2)) with ⟨k2, hk2, hr2, hi2, hd2⟩ | ⟨hi2, hd2⟩
      · refine .inr ⟨a + 2, nI (a + 2), nI (10 * k0 + k1), by omega, fun err cp => ?_, .inr ⟨by rw [hr2]; exact dig_59 hk2, nI (10 * k0 + k1), fun one => ?_⟩⟩
        · rw [L3]
          simp only [if_neg f2, hb2, ob1_s, hd2, if_true]; rfl
        · rw [L5]
          by_cases e7 : 10 * k0 + k1 ≤ 7
          · simp only [if_pos (q7.mpr e7), if_neg g2]
          · simp only [if_neg (fun q => e7 (q7.mp q)), hs2, ob1_s, hi2, if_true, if_neg g2]
      · by_cases e7 : 10 * k0 + k1 ≤ 7
        · refine .inl ⟨a + 2, 10 * k0 + k1, by omega, by omega, e7, fun err cp => ?_, fun one => ?_⟩
          · rw [L3]
            simp only [if_neg f2, hb2, ob1_s, hd2, Bool.false_eq_true, if_false, if_pos (q7.mpr e7)]
          · rw [L5]
            simp only [if_pos (q7.mpr e7), if_neg g2]
        · refine .inr ⟨a, nI (a + 2), nI (10 * k0 + k1), ha, fun err cp => ?_, .inl ⟨nI (10 * k0 + k1), fun one => ?_⟩⟩
          · rw [L3]
            simp only [if_neg f2, hb2, ob1_s, hd2, Bool.false_eq_true, if_false, if_neg (fun q => e7 (q7.mp q))]; rfl
          · rw [L5]
            simp only [if_neg (fun q => e7 (q7.mp q)), hs2, ob1_s, hi2, Bool.false_eq_true, if_false]
    · have L3 : ∀ kont, L_X1_readPlay_10 N (nI t) (nI a) bytes kont N (nI a) 0 = kont (nI (a + 1)) (nI (10 * 0 + k0)) := by
        intro kont
        have h1 := stepD kont 0 k0 a c0 hb0' hd0 (N' + 2)
        have h2 := stepN kont (nI (10 * 0 + k0)) (a + 1) c1 hb1 hd1 (N' + 1)
        have h4 := h1.trans h2
        rw [← hN'] at h4
        exact h4
      have L5 : ∀ kont, L_X5_number__10 N (nI t) (nI a) text kont N (nI a) 0 = kont (nI (a + 1)) (nI (10 * 0 + k0)) := by
        intro kont
        have h1 := step5D kont 0 k0 a c0 hs0' hi0 (N' + 2)
        have h2 := step5N kont (nI (10 * 0 + k0)) (a + 1) hs1 hi1 (N' + 1)
        have h4 := h1.trans h2
        rw [← hN'] at h4
        exact h4
      have q7 : nI (10 * 0 + k0) ≤ 7 ↔ 10 * 0 + k0 ≤ 7 := nI_leI (b := 7) (by omega) (by decide)
      by_cases e7 : 10 * 0 + k0 ≤ 7
      · refine .inl ⟨a + 1, 10 * 0 + k0, by omega, by omega, e7, fun err cp => ?_, fun one => ?_⟩
        · rw [L3]
          simp only [if_neg f1, hb1, ob1_s, hd1, Bool.false_eq_true, if_false, if_pos (q7.mpr e7)]
        · rw [L5]
          simp only [if_pos (q7.mpr e7), if_neg g1]
      · refine .inr ⟨a, nI (a + 1), nI (10 * 0 + k0), ha, fun err cp => ?_, .inl ⟨nI (10 * 0 + k0), fun one => ?_⟩⟩
        · rw [L3]
          simp only [if_neg f1, hb1, ob1_s, hd1, Bool.false_eq_true, if_false, if_neg (fun q => e7 (q7.mp q))]; rfl
        · rw [L5]
          simp only [if_neg (fun q => e7 (q7.mp q)), hs1, ob1_s, hi1, Bool.false_eq_true, if_false]
  · have L3 : ∀ kont, L_X1_readPlay_10 N (nI t) (nI a) bytes kont N (nI a) 0 = kont (nI a) 0 := by
      intro kont
      have h1 := stepN kont 0 a c0 hb0 hd0 (N' + 2)
      rw [← hN'] at h1
      exact h1
    have L5 : ∀ kont, L_X5_number__10 N (nI t) (nI a) text kont N (nI a) 0 = kont (nI a) 0 := by
      intro kont
      have h1 := step5N kont 0 a hs0 hi0 (N' + 2)
      rw [← hN'] at h1
      exact h1
    refine .inr ⟨a, nI a, 0, ha, fun err cp => ?_, .inl ⟨0, fun one => ?_⟩⟩
    · rw [L3]
      simp only [if_true]; rfl
    · rw [L5]
      simp only [if_pos z7, if_pos g0]
