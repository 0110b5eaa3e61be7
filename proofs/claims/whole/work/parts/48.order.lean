/-! THE PURE SIDE: one order -/
theorem m_e_u : ((101 : Int32) = 117) = False := eq_false (by decide)
theorem m_e_c : ((101 : Int32) = 99) = False := eq_false (by decide)
theorem m_e_l : ((101 : Int32) = 108) = False := eq_false (by decide)
theorem m_u_e : ((117 : Int32) = 101) = False := eq_false (by decide)
theorem m_u_c : ((117 : Int32) = 99) = False := eq_false (by decide)
theorem m_u_l : ((117 : Int32) = 108) = False := eq_false (by decide)
theorem m_c_e : ((99 : Int32) = 101) = False := eq_false (by decide)
theorem m_c_u : ((99 : Int32) = 117) = False := eq_false (by decide)
theorem m_c_l : ((99 : Int32) = 108) = False := eq_false (by decide)
theorem m_l_e : ((108 : Int32) = 101) = False := eq_false (by decide)
theorem m_l_u : ((108 : Int32) = 117) = False := eq_false (by decide)
theorem m_l_c : ((108 : Int32) = 99) = False := eq_false (by decide)
theorem m_r_e : ((114 : Int32) = 101) = False := eq_false (by decide)
theorem m_r_u : ((114 : Int32) = 117) = False := eq_false (by decide)
theorem m_r_c : ((114 : Int32) = 99) = False := eq_false (by decide)
theorem m_r_l : ((114 : Int32) = 108) = False := eq_false (by decide)
theorem fail_s (N : Nat) (x y : Int32) : F_X1_fail N x y = some (false, x) := rfl
def kindOk (k : Int32) : Prop := k = 101 ∨ k = 117 ∨ k = 99 ∨ k = 108 ∨ k = 114
def GO (N : Nat) (bytes text : Nat → Int32) (t a a' : Nat) (k : Int32) (P Q p : Nat) : Prop := a + 2 ≤ a' ∧ a' ≤ t ∧ P < 512 ∧ Q < 512 ∧ p ≤ 7 ∧ kindOk k ∧ (∀ err kd cP cQ cp, F_X1_readOrder N bytes (nI t) (nI a) err kd cP cQ cp = some (true, nI a', err, k, if k = 99 then nI P else cP, if k = 99 then nI Q else cQ, if k = 108 then nI p else cp)) ∧ ∀ lt one oth, F_X5_reads N text (nI t) (nI a) lt one oth = some (true, nI a', k, if k = 99 then nI P else if k = 108 then nI p else one, if k = 99 then nI Q else oth)
def BO (N : Nat) (bytes text : Nat → Int32) (t a e : Nat) : Prop := e ≤ t ∧ (∀ err kd cP cQ cp, ∃ x kd' P' Q' p', F_X1_readOrder N bytes (nI t) (nI a) err kd cP cQ cp = some (false, x, nI e, kd', P', Q', p')) ∧ ∀ lt one oth, ∃ l o1 o2, F_X5_reads N text (nI t) (nI a) lt one oth = some (false, nI e, l, o1, o2)
theorem ch59_lt {text : Nat → Int32} {t a : Nat} (h : ch text t a = 59) : a < t := ch_lt (k := 59) (by decide) h
theorem order_c {N t a : Nat} {bytes text : Nat → Int32} (hN : 2000 ≤ N) (tx : TX bytes t text) (ha : a < t) : (∃ a' k P Q p, GO N bytes text t a a' k P Q p) ∨ ∃ e, BO N bytes text t a e := by
  have ht := tx.1
  have hs := sign_N (N := N) tx (show a < 2 ^ 31 by omega)
  have hb := byteAt_N (N := N) tx (show a < 2 ^ 31 by omega)
  have hs1 := sign_N (N := N) tx (show a + 1 < 2 ^ 31 by omega)
  have hb1 := byteAt_N (N := N) tx (show a + 1 < 2 ^ 31 by omega)
  have hlt : nI a < nI t := nI_lt ha (by omega)
  generalize hr : ch text t a = r at hs hb
  by_cases e1 : r = 101
  · subst e1
    by_cases e59 : ch text t (a + 1) = 59
    · have := ch59_lt e59
      rw [e59] at hs1 hb1
      refine .inl ⟨a + 1 + 1, 101, 0, 0, 0, by omega, by omega, by decide, by decide, by decide, .inl rfl, fun err kd cP cQ cp => ?_, fun lt one oth => ?_⟩
      · unfold F_X1_readOrder
        rw [if_pos hlt, hb, nI_1, hb1]
        simp only [ob1_s, if_true, m_e_c, m_e_l, if_false, nI_1]
      · unfold F_X5_reads
        rw [hs, nI_1, hs1]
        simp only [ob1_s, if_true, m_e_c, m_e_l, if_false, nI_1]
    · refine .inr ⟨a + 1, by omega, fun err kd cP cQ cp => ?_, fun lt one oth => ?_⟩
      · unfold F_X1_readOrder
        rw [if_pos hlt, hb, nI_1, hb1]
        simp only [ob1_s, ob2_s, fail_s, if_true, m_e_c, m_e_l, if_false, if_neg e59]
        exact ⟨_, _, _, _, _, rfl⟩
      · unfold F_X5_reads
        rw [hs, nI_1, hs1]
        simp only [ob1_s, if_true, m_e_c, m_e_l, if_false, if_neg e59, nI_z]
        exact ⟨_, _, _, rfl⟩
  by_cases e2 : r = 117
  · subst e2
    by_cases e59 : ch text t (a + 1) = 59
    · have := ch59_lt e59
      rw [e59] at hs1 hb1
      refine .inl ⟨a + 1 + 1, 117, 0, 0, 0, by omega, by omega, by decide, by decide, by decide, .inr (.inl rfl), fun err kd cP cQ cp => ?_, fun lt one oth => ?_⟩
      · unfold F_X1_readOrder
        rw [if_pos hlt, hb, nI_1, hb1]
        simp only [ob1_s, if_true, m_u_e, m_u_c, m_u_l, if_false, nI_1]
      · unfold F_X5_reads
        rw [hs, nI_1, hs1]
        simp only [ob1_s, if_true, m_u_e, m_u_c, m_u_l, if_false, nI_1]
    · refine .inr ⟨a + 1, by omega, fun err kd cP cQ cp => ?_, fun lt one oth => ?_⟩
      · unfold F_X1_readOrder
        rw [if_pos hlt, hb, nI_1, hb1]
        simp only [ob1_s, ob2_s, fail_s, if_true, m_u_e, m_u_c, m_u_l, if_false, if_neg e59]
        exact ⟨_, _, _, _, _, rfl⟩
      · unfold F_X5_reads
        rw [hs, nI_1, hs1]
        simp only [ob1_s, if_true, m_u_e, m_u_c, m_u_l, if_false, if_neg e59, nI_z]
        exact ⟨_, _, _, rfl⟩
  by_cases e3 : r = 99
  · subst e3
    rcases lits (N := N) tx (t - (a + 1)) (a + 1) 0 0 (by omega) (Nat.le_refl _) (by decide) (by decide) with ⟨b, P, Q, h1, h2, h3, h4, h5, h6⟩ | ⟨e, P, Q, h1, h2, h3⟩
    · have hs2 := sign_N (N := N) tx (show b < 2 ^ 31 by omega)
      have hb2 := byteAt_N (N := N) tx (show b < 2 ^ 31 by omega)
      have L3 : ∀ err cP cQ, F_X1_readLiterals N bytes (nI t) (nI (a + 1)) err cP cQ = some (true, nI b, err, nI P, nI Q) := fun err cP cQ => h5 _ N err (by omega)
      have L5 : ∀ one oth, F_X5_literals N text (nI t) (nI (a + 1)) one oth = some (true, nI b, nI P, nI Q) := fun one oth => h6 _ N (by omega)
      by_cases e59 : ch text t b = 59
      · have := ch59_lt e59
        rw [e59] at hs2 hb2
        refine .inl ⟨b + 1, 99, P, Q, 0, by omega, by omega, h3, h4, by decide, .inr (.inr (.inl rfl)), fun err kd cP cQ cp => ?_, fun lt one oth => ?_⟩
        · unfold F_X1_readOrder
          rw [if_pos hlt, hb, nI_1, hb1]
          simp only [ob1_s, ob5_s, L3, hb2, if_true, m_c_e, m_c_u, m_c_l, if_false, nI_1]
        · unfold F_X5_reads
          rw [hs, nI_1, hs1]
          simp only [ob1_s, ob4_s, L5, hs2, if_true, m_c_e, m_c_u, m_c_l, if_false, nI_1]
      · refine .inr ⟨b, h2, fun err kd cP cQ cp => ?_, fun lt one oth => ?_⟩
        · unfold F_X1_readOrder
          rw [if_pos hlt, hb, nI_1, hb1]
          simp only [ob1_s, ob2_s, ob5_s, fail_s, L3, hb2, if_true, m_c_e, m_c_u, m_c_l, if_false, if_neg e59]
          exact ⟨_, _, _, _, _, rfl⟩
        · unfold F_X5_reads
          rw [hs, nI_1, hs1]
          simp only [ob1_s, ob4_s, L5, hs2, if_true, m_c_e, m_c_u, m_c_l, if_false, if_neg e59, nI_z]
          exact ⟨_, _, _, rfl⟩
    · have L3 : ∀ err cP cQ, F_X1_readLiterals N bytes (nI t) (nI (a + 1)) err cP cQ = some (false, nI e, nI e, nI P, nI Q) := fun err cP cQ => h2 _ N err (by omega)
      refine .inr ⟨e, h1, fun err kd cP cQ cp => ?_, fun lt one oth => ?_⟩
      · unfold F_X1_readOrder
        rw [if_pos hlt, hb, nI_1, hb1]
        simp only [ob1_s, ob5_s, L3, if_true, m_c_e, m_c_u, m_c_l, if_false, Bool.false_eq_true]
        exact ⟨_, _, _, _, _, rfl⟩
      · rcases h3 with h3 | ⟨h3, h4⟩
        · have L5 : ∀ one oth, F_X5_literals N text (nI t) (nI (a + 1)) one oth = some (false, nI e, nI P, nI Q) := fun one oth => h3 _ N (by omega)
          unfold F_X5_reads
          rw [hs, nI_1, hs1]
          simp only [ob1_s, ob4_s, L5, if_true, m_c_e, m_c_u, m_c_l, if_false, Bool.false_eq_true]
          exact ⟨_, _, _, rfl⟩
        · have L5 : ∀ one oth, F_X5_literals N text (nI t) (nI (a + 1)) one oth = some (true, nI e, nI P, nI Q) := fun one oth => h4 _ N (by omega)
          have hs2 := sign_N (N := N) tx (show e < 2 ^ 31 by omega)
          unfold F_X5_reads
          rw [hs, nI_1, hs1]
          simp only [ob1_s, ob4_s, L5, hs2, if_true, m_c_e, m_c_u, m_c_l, if_false, if_neg h3, nI_z]
          exact ⟨_, _, _, rfl⟩
  by_cases e4 : r = 108
  · subst e4
    rcases nums (N := N) (a := a + 1) hN tx (by omega) with ⟨b, p, h1, h2, h3, L3, L5⟩ | ⟨e, x, y, h1, L3, h3⟩
    · have hs2 := sign_N (N := N) tx (show b < 2 ^ 31 by omega)
      have hb2 := byteAt_N (N := N) tx (show b < 2 ^ 31 by omega)
      by_cases e59 : ch text t b = 59
      · have := ch59_lt e59
        rw [e59] at hs2 hb2
        refine .inl ⟨b + 1, 108, 0, 0, p, by omega, by omega, by decide, by decide, h3, .inr (.inr (.inr (.inl rfl))), fun err kd cP cQ cp => ?_, fun lt one oth => ?_⟩
        · unfold F_X1_readOrder
          rw [if_pos hlt, hb, nI_1, hb1]
          simp only [ob1_s, ob4_s, L3, hb2, if_true, m_l_e, m_l_u, m_l_c, if_false, nI_1]
        · unfold F_X5_reads
          rw [hs, nI_1, hs1]
          simp only [ob1_s, ob3_s, L5, hs2, if_true, m_l_e, m_l_u, m_l_c, if_false, nI_1]
      · refine .inr ⟨b, h2, fun err kd cP cQ cp => ?_, fun lt one oth => ?_⟩
        · unfold F_X1_readOrder
          rw [if_pos hlt, hb, nI_1, hb1]
          simp only [ob1_s, ob2_s, ob4_s, fail_s, L3, hb2, if_true, m_l_e, m_l_u, m_l_c, if_false, if_neg e59]
          exact ⟨_, _, _, _, _, rfl⟩
        · unfold F_X5_reads
          rw [hs, nI_1, hs1]
          simp only [ob1_s, ob3_s, L5, hs2, if_true, m_l_e, m_l_u, m_l_c, if_false, if_neg e59, nI_z]
          exact ⟨_, _, _, rfl⟩
    · refine .inr ⟨e, h1, fun err kd cP cQ cp => ?_, fun lt one oth => ?_⟩
      · unfold F_X1_readOrder
        rw [if_pos hlt, hb, nI_1, hb1]
        simp only [ob1_s, ob4_s, L3, if_true, m_l_e, m_l_u, m_l_c, if_false, Bool.false_eq_true]
        exact ⟨_, _, _, _, _, rfl⟩
      · rcases h3 with ⟨z, L5⟩ | ⟨h3, z, L5⟩
        · unfold F_X5_reads
          rw [hs, nI_1, hs1]
          simp only [ob1_s, ob3_s, L5, if_true, m_l_e, m_l_u, m_l_c, if_false, Bool.false_eq_true]
          exact ⟨_, _, _, rfl⟩
        · have hs2 := sign_N (N := N) tx (show e < 2 ^ 31 by omega)
          unfold F_X5_reads
          rw [hs, nI_1, hs1]
          simp only [ob1_s, ob3_s, L5, hs2, if_true, m_l_e, m_l_u, m_l_c, if_false, if_neg h3, nI_z]
          exact ⟨_, _, _, rfl⟩
  by_cases e5 : r = 114
  · subst e5
    by_cases e59 : ch text t (a + 1) = 59
    · have := ch59_lt e59
      rw [e59] at hs1 hb1
      refine .inl ⟨a + 1 + 1, 114, 0, 0, 0, by omega, by omega, by decide, by decide, by decide, .inr (.inr (.inr (.inr rfl))), fun err kd cP cQ cp => ?_, fun lt one oth => ?_⟩
      · unfold F_X1_readOrder
        rw [if_pos hlt, hb, nI_1, hb1]
        simp only [ob1_s, if_true, m_r_e, m_r_u, m_r_c, m_r_l, if_false, nI_1]
      · unfold F_X5_reads
        rw [hs, nI_1, hs1]
        simp only [ob1_s, if_true, m_r_e, m_r_u, m_r_c, m_r_l, if_false, nI_1]
    · refine .inr ⟨a + 1, by omega, fun err kd cP cQ cp => ?_, fun lt one oth => ?_⟩
      · unfold F_X1_readOrder
        rw [if_pos hlt, hb, nI_1, hb1]
        simp only [ob1_s, ob2_s, fail_s, if_true, m_r_e, m_r_u, m_r_c, m_r_l, if_false, if_neg e59]
        exact ⟨_, _, _, _, _, rfl⟩
      · unfold F_X5_reads
        rw [hs, nI_1, hs1]
        simp only [ob1_s, if_true, m_r_e, m_r_u, m_r_c, m_r_l, if_false, if_neg e59, nI_z]
        exact ⟨_, _, _, rfl⟩
  · refine .inr ⟨a, by omega, fun err kd cP cQ cp => ?_, fun lt one oth => ?_⟩
    · unfold F_X1_readOrder
      rw [if_pos hlt, hb]
      simp only [ob1_s, ob2_s, fail_s, if_neg e1, if_neg e2, if_neg e3, if_neg e4, if_neg e5]
      exact ⟨_, _, _, _, _, rfl⟩
    · unfold F_X5_reads
      rw [hs]
      simp only [ob1_s, if_neg e1, if_neg e2, if_neg e3, if_neg e4, if_neg e5]
      exact ⟨_, _, _, rfl⟩
