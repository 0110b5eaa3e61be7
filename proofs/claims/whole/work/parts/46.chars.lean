/-! THE PURE SIDE: signs, literals, numbers -/
theorem ob1_s {α β : Type} (a : α) (k : α → Option β) : ob1 (some a) k = k a := rfl
theorem ob2_s {α1 α2 β : Type} (a : α1) (b : α2) (k : α1 → α2 → Option β) : ob2 (some (a, b)) k = k a b := rfl
theorem ob3_s {α1 α2 α3 β : Type} (a : α1) (b : α2) (c : α3) (k : α1 → α2 → α3 → Option β) : ob3 (some (a, b, c)) k = k a b c := rfl
theorem ob4_s {α1 α2 α3 α4 β : Type} (a : α1) (b : α2) (c : α3) (d : α4) (k : α1 → α2 → α3 → α4 → Option β) : ob4 (some (a, b, c, d)) k = k a b c d := rfl
theorem ob5_s {α1 α2 α3 α4 α5 β : Type} (a : α1) (b : α2) (c : α3) (d : α4) (e : α5) (k : α1 → α2 → α3 → α4 → α5 → Option β) : ob5 (some (a, b, c, d, e)) k = k a b c d e := rfl
def ch (text : Nat → Int32) (t a : Nat) : Int32 := if t ≤ a then -1 else text a
theorem byteAt_N {N t a : Nat} {bytes text : Nat → Int32} (tx : TX bytes t text) (ha : a < 2 ^ 31) : F_X1_byteAt N (nI a) bytes (nI t) = some (ch text t a) := by
  have h1 := tx.1
  unfold F_X1_byteAt ch
  rw [if_nle (by omega) ha]
  by_cases e : t ≤ a
  · rw [if_pos e, if_pos e]
  · rw [if_neg e, if_neg e, read_N N bytes (by omega) (by decide), tx.2 a (by omega)]; rfl
theorem sign_N {N t a : Nat} {bytes text : Nat → Int32} (tx : TX bytes t text) (ha : a < 2 ^ 31) : F_X5_sign N text (nI t) (nI a) = some (ch text t a) := by
  have h1 := tx.1
  unfold F_X5_sign ch
  rw [if_nle (by omega) ha]
  by_cases e : t ≤ a
  · rw [if_pos e, if_pos e]
  · rw [if_neg e, if_neg e, inb_f (by omega) (by decide), nI_clamp ha]
theorem ch_lt {text : Nat → Int32} {t a k : Nat} (hk : k < 2 ^ 31) (h : ch text t a = nI k) : a < t := by
  unfold ch at h
  by_cases e : t ≤ a
  · rw [if_pos e] at h
    exact absurd h.symm (m1_nI hk)
  · omega
theorem lc (N : Nat) (r : Int32) : (∃ k, k < 9 ∧ r = nI (97 + k) ∧ F_X5_in N r 97 105 = some true) ∨ ((r < 97 ∨ ¬ r ≤ 105) ∧ F_X5_in N r 97 105 = some false) := by
  by_cases h : r < 97
  · exact .inr ⟨.inl h, if_pos h⟩
  · rcases neg_or r with h0 | ⟨j, hj, rfl⟩
    · exact absurd (Int32.lt_trans h0 (by decide)) h
    · have h1 : 97 ≤ j := by
        rcases Nat.lt_or_ge j 97 with q | q
        · exact absurd (nI_lt q (by decide)) h
        · exact q
      have h2 := in_N N hj (show 97 < 2 ^ 31 by decide) (show 105 < 2 ^ 31 by decide)
      by_cases e : j ≤ 105
      · rw [decide_eq_true ⟨h1, e⟩] at h2
        exact .inl ⟨j - 97, by omega, by rw [show 97 + (j - 97) = j by omega], h2⟩
      · rw [decide_eq_false (fun q => e q.2)] at h2
        exact .inr ⟨.inr (fun q => e ((nI_leI hj (by decide)).mp q)), h2⟩
theorem let_sub (k : Nat) : nI (97 + k) - 97 = nI k := by
  rw [show (97 : Int32) = nI 97 from rfl, pk_sub (by omega), show 97 + k - 97 = k by omega]
theorem nI_z (a : Nat) : nI a + 0 = nI a := by rw [n0, nI_add, Nat.add_zero]
theorem nI_oz (a : Nat) : nI a ||| 0 = nI a := by rw [n0, nI_or, Nat.or_zero]
theorem bitk {k P : Nat} (hk : k < 9) : nI P ||| ((1 : Int32) <<< ((nI (97 + k) - 97) &&& 31)) = nI (P ||| 2 ^ k) := by
  rw [let_sub, shl1 k (by omega), nI_or]
theorem or512 {P k : Nat} (hP : P < 512) (hk : k < 9) : P ||| 2 ^ k < 512 := Nat.or_lt_two_pow (n := 9) hP (Nat.pow_lt_pow_right (by decide) hk)
theorem let_45 {k : Nat} (hk : k < 9) : ¬ nI (97 + k) = 45 := fun q => absurd (nI_inj (b := 45) (by omega) (by decide) q) (by omega)
theorem let_59 {k : Nat} (hk : k < 9) : ¬ nI (97 + k) = 59 := fun q => absurd (nI_inj (b := 59) (by omega) (by decide) q) (by omega)
theorem let_97 {k : Nat} (hk : k < 9) : ¬ nI (97 + k) < 97 := nI_nlt (b := 97) (by omega) (by omega)
theorem let_105 {k : Nat} (hk : k < 9) : nI (97 + k) ≤ 105 := nI_le (b := 105) (by omega) (by decide)
theorem lits {N t : Nat} {bytes text : Nat → Int32} (tx : TX bytes t text) : ∀ (d a P Q : Nat), a ≤ t → t - a ≤ d → P < 512 → Q < 512 → (∃ a' P' Q', a ≤ a' ∧ a' ≤ t ∧ P' < 512 ∧ Q' < 512 ∧ (∀ kont q err, d < q → L_X1_readLiterals_10 N (nI t) bytes kont q (nI a) err (nI P) (nI Q) = kont (nI a') err (nI P') (nI Q')) ∧ ∀ kont q, d < q → L_X5_literals_10 N (nI t) text kont q (nI a) (nI P) (nI Q) = kont (nI a') (nI P') (nI Q')) ∨ (∃ e P' Q', e ≤ t ∧ (∀ kont q err, d < q → L_X1_readLiterals_10 N (nI t) bytes kont q (nI a) err (nI P) (nI Q) = some (false, nI e, nI e, nI P', nI Q')) ∧ ((∀ kont q, d < q → L_X5_literals_10 N (nI t) text kont q (nI a) (nI P) (nI Q) = some (false, nI e, nI P', nI Q')) ∨ (¬ ch text t e = 59 ∧ ∀ kont q, d < q → L_X5_literals_10 N (nI t) text kont q (nI a) (nI P) (nI Q) = kont (nI e) (nI P') (nI Q')))) := by
  have ht := tx.1
  intro d
  induction d with
  | zero =>
    intro a P Q ha hd hP hQ
    have ea : a = t := by omega
    subst ea
    have hs := sign_N (N := N) tx (show a < 2 ^ 31 by omega)
    have hc : ch text a a = -1 := if_pos (Nat.le_refl _)
    rw [hc] at hs
    have hi : F_X5_in N (-1) 97 105 = some false := if_pos (by decide)
    refine .inl ⟨a, P, Q, Nat.le_refl _, Nat.le_refl _, hP, hQ, fun kont q err hq => ?_, fun kont q hq => ?_⟩
    · obtain ⟨q, rfl⟩ : ∃ q', q = q' + 1 := ⟨q - 1, by omega⟩
      rw [L_X1_readLiterals_10, if_nle (by omega) (by omega), if_pos (Nat.le_refl _)]
    · obtain ⟨q, rfl⟩ : ∃ q', q = q' + 1 := ⟨q - 1, by omega⟩
      rw [L_X5_literals_10, hs]
      simp only [ob1_s, hi, Bool.false_eq_true, if_false]
      exact if_neg (by decide)
  | succ d ih =>
    intro a P Q ha hd hP hQ
    by_cases hat : a = t
    · rcases ih a P Q ha (by omega) hP hQ with ⟨a', P', Q', h1, h2, h3, h4, h5, h6⟩ | ⟨e, P', Q', h1, h2, h3⟩
      · exact .inl ⟨a', P', Q', h1, h2, h3, h4, fun kont q err hq => h5 kont q err (by omega), fun kont q hq => h6 kont q (by omega)⟩
      · exact .inr ⟨e, P', Q', h1, fun kont q err hq => h2 kont q err (by omega), h3.imp (fun h kont q hq => h kont q (by omega)) (fun h => ⟨h.1, fun kont q hq => h.2 kont q (by omega)⟩)⟩
    · have hs := sign_N (N := N) tx (show a < 2 ^ 31 by omega)
      have hb := byteAt_N (N := N) tx (show a < 2 ^ 31 by omega)
      have hlt : ¬ nI t ≤ nI a := nI_ge (by omega) (by omega)
      generalize hr : ch text t a = r at hs hb
      rcases lc N r with ⟨k, hk, rfl, hi⟩ | ⟨hno, hi⟩
      · have k3 : ∀ kont q err, L_X1_readLiterals_10 N (nI t) bytes kont (q + 1) (nI a) err (nI P) (nI Q) = L_X1_readLiterals_10 N (nI t) bytes kont q (nI (a + 1)) err (nI (P ||| 2 ^ k)) (nI Q) := by
          intro kont q err
          rw [L_X1_readLiterals_10, hb, if_neg hlt]
          simp only [ob1_s, if_neg (let_59 hk), if_neg (let_45 hk), if_neg (let_97 hk), if_pos (let_105 hk), bitk hk, nI_1]
        have k5 : ∀ kont q, L_X5_literals_10 N (nI t) text kont (q + 1) (nI a) (nI P) (nI Q) = L_X5_literals_10 N (nI t) text kont q (nI (a + 1)) (nI (P ||| 2 ^ k)) (nI Q) := by
          intro kont q
          rw [L_X5_literals_10, nI_z, hs]
          simp only [ob1_s, hi, if_true, if_neg (let_45 hk), bitk hk, nI_1, nI_oz]
        rcases ih (a + 1) (P ||| 2 ^ k) Q (by omega) (by omega) (or512 hP hk) hQ with ⟨a', P', Q', h1, h2, h3, h4, h5, h6⟩ | ⟨e, P', Q', h1, h2, h3⟩
        · refine .inl ⟨a', P', Q', by omega, h2, h3, h4, fun kont q err hq => ?_, fun kont q hq => ?_⟩
          · obtain ⟨q, rfl⟩ : ∃ q', q = q' + 1 := ⟨q - 1, by omega⟩
            rw [k3]; exact h5 kont q err (by omega)
          · obtain ⟨q, rfl⟩ : ∃ q', q = q' + 1 := ⟨q - 1, by omega⟩
            rw [k5]; exact h6 kont q (by omega)
        · refine .inr ⟨e, P', Q', h1, fun kont q err hq => ?_, h3.imp (fun h kont q hq => ?_) (fun h => ⟨h.1, fun kont q hq => ?_⟩)⟩
          · obtain ⟨q, rfl⟩ : ∃ q', q = q' + 1 := ⟨q - 1, by omega⟩
            rw [k3]; exact h2 kont q err (by omega)
          · obtain ⟨q, rfl⟩ : ∃ q', q = q' + 1 := ⟨q - 1, by omega⟩
            rw [k5]; exact h kont q (by omega)
          · obtain ⟨q, rfl⟩ : ∃ q', q = q' + 1 := ⟨q - 1, by omega⟩
            rw [k5]; exact h.2 kont q (by omega)
      · by_cases e45 : r = 45
        · subst e45
          have hs1 := sign_N (N := N) tx (show a + 1 < 2 ^ 31 by omega)
          have hb1 := byteAt_N (N := N) tx (show a + 1 < 2 ^ 31 by omega)
          generalize hr1 : ch text t (a + 1) = r1 at hs1 hb1
          rcases lc N r1 with ⟨k, hk, rfl, hi1⟩ | ⟨hno1, hi1⟩
          · have h2t := ch_lt (by omega) hr1
            have k3 : ∀ kont q err, L_X1_readLiterals_10 N (nI t) bytes kont (q + 1) (nI a) err (nI P) (nI Q) = L_X1_readLiterals_10 N (nI t) bytes kont q (nI (a + 1 + 1)) err (nI P) (nI (Q ||| 2 ^ k)) := by
              intro kont q err
              rw [L_X1_readLiterals_10, hb, if_neg hlt, nI_1, hb1]
              simp only [ob1_s, if_true, if_neg (show ¬ (45 : Int32) = 59 by decide), if_neg (let_97 hk), if_pos (let_105 hk), bitk hk, nI_1]
            have k5 : ∀ kont q, L_X5_literals_10 N (nI t) text kont (q + 1) (nI a) (nI P) (nI Q) = L_X5_literals_10 N (nI t) text kont q (nI (a + 1 + 1)) (nI P) (nI (Q ||| 2 ^ k)) := by
              intro kont q
              rw [L_X5_literals_10, hs, nI_1, hs1]
              simp only [ob1_s, hi, hi1, if_true, Bool.false_eq_true, if_false, bitk hk, nI_1, nI_oz]
            rcases ih (a + 1 + 1) P (Q ||| 2 ^ k) (by omega) (by omega) hP (or512 hQ hk) with ⟨a', P', Q', h1, h2, h3, h4, h5, h6⟩ | ⟨e, P', Q', h1, h2, h3⟩
            · refine .inl ⟨a', P', Q', by omega, h2, h3, h4, fun kont q err hq => ?_, fun kont q hq => ?_⟩
              · obtain ⟨q, rfl⟩ : ∃ q', q = q' + 1 := ⟨q - 1, by omega⟩
                rw [k3]; exact h5 kont q err (by omega)
              · obtain ⟨q, rfl⟩ : ∃ q', q = q' + 1 := ⟨q - 1, by omega⟩
                rw [k5]; exact h6 kont q (by omega)
            · refine .inr ⟨e, P', Q', h1, fun kont q err hq => ?_, h3.imp (fun h kont q hq => ?_) (fun h => ⟨h.1, fun kont q hq => ?_⟩)⟩
              · obtain ⟨q, rfl⟩ : ∃ q', q = q' + 1 := ⟨q - 1, by omega⟩
                rw [k3]; exact h2 kont q err (by omega)
              · obtain ⟨q, rfl⟩ : ∃ q', q = q' + 1 := ⟨q - 1, by omega⟩
                rw [k5]; exact h kont q (by omega)
              · obtain ⟨q, rfl⟩ : ∃ q', q = q' + 1 := ⟨q - 1, by omega⟩
                rw [k5]; exact h.2 kont q (by omega)
          · refine .inr ⟨a + 1, P, Q, by omega, fun kont q err hq => ?_, .inl (fun kont q hq => ?_)⟩
            · obtain ⟨q, rfl⟩ : ∃ q', q = q' + 1 := ⟨q - 1, by omega⟩
              rw [L_X1_readLiterals_10, hb, if_neg hlt, nI_1, hb1]
              simp only [ob1_s, if_true, if_neg (show ¬ (45 : Int32) = 59 by decide)]
              by_cases e97 : r1 < 97
              · rw [if_pos e97]; rfl
              · rw [if_neg e97, if_neg (hno1.resolve_left e97)]; rfl
            · obtain ⟨q, rfl⟩ : ∃ q', q = q' + 1 := ⟨q - 1, by omega⟩
              rw [L_X5_literals_10, hs, nI_1, hs1]
              simp only [ob1_s, hi, hi1, if_true, Bool.false_eq_true, if_false]
        · have k5 : ∀ kont q, L_X5_literals_10 N (nI t) text kont (q + 1) (nI a) (nI P) (nI Q) = kont (nI a) (nI P) (nI Q) := by
            intro kont q
            rw [L_X5_literals_10, hs]
            simp only [ob1_s, hi, Bool.false_eq_true, if_false, if_neg e45]
          by_cases e59 : r = 59
          · refine .inl ⟨a, P, Q, Nat.le_refl _, ha, hP, hQ, fun kont q err hq => ?_, fun kont q hq => ?_⟩
            · obtain ⟨q, rfl⟩ : ∃ q', q = q' + 1 := ⟨q - 1, by omega⟩
              rw [L_X1_readLiterals_10, hb, if_neg hlt]
              simp only [ob1_s, if_pos e59]
            · obtain ⟨q, rfl⟩ : ∃ q', q = q' + 1 := ⟨q - 1, by omega⟩
              exact k5 kont q
          · refine .inr ⟨a, P, Q, ha, fun kont q err hq => ?_, .inr ⟨by rw [hr]; exact e59, fun kont q hq => ?_⟩⟩
            · obtain ⟨q, rfl⟩ : ∃ q', q = q' + 1 := ⟨q - 1, by omega⟩
              rw [L_X1_readLiterals_10, hb, if_neg hlt]
              simp only [ob1_s, if_neg e59, if_neg e45]
              by_cases e97 : r < 97
              · rw [if_pos e97]; rfl
              · rw [if_neg e97, if_neg (hno.resolve_left e97)]; rfl
            · obtain ⟨q, rfl⟩ : ∃ q', q = q' + 1 := ⟨q - 1, by omega⟩
              exact k5 kont q
