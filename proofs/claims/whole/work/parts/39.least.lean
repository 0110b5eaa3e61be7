/-! THE PURE SIDE: least proofs, copies, hope -/
def Vv (r : Int32) : Prop := r = -1 ∨ ∃ u, u < 256 ∧ r = nI u
theorem m1_nI {u : Nat} (hu : u < 2 ^ 31) : ¬ nI u = -1 := fun q => nI_pos hu (by rw [q]; decide)
theorem least_loop {N n B C Ln T : Nat} {R : Int32} {pos neg s f : Nat → Int32} {bits : Nat → Int64} (hN : 2000 ≤ N) (o : Ok n B C Ln) (m : Ms n B C Ln R pos neg s) (hF : Fit B n f) (hT : BT (mC pos neg C) B n 0 bits) (eT : T = 2 ^ 2 ^ pc B) (kont : Int32 → Option (Int32 × (Nat → Int64) × Bool)) (kont5 : Int32 → (Nat → Bool) → Option (Int32 × (Nat → Bool) × (Nat → Int32))) : ∀ (d S : Nat) (v : Int32) (w : Nat → Bool), S + d = T → Vv v → ∃ r w', Vv r ∧ (∀ q, d < q → L_X4_lowestLeastProof_23 N bits (nI (T - 1)) kont q v (nI S) = kont r) ∧ ∀ q, d < q → L_X5_least_8 N s f kont5 q v (nI S) w = kont5 r w' := by
  have hB := ok_512 o
  have p1 := pb8 o.2.2.1
  have p2 : T ≤ 256 := eT ▸ pb256 o.2.2.1
  have p3 : 0 < T := eT ▸ pw_pos _
  intro d
  induction d with
  | zero =>
    intro S v w hd hv
    refine ⟨v, w, hv, fun q hq => ?_, fun q hq => ?_⟩
    · obtain ⟨q, rfl⟩ : ∃ q', q = q' + 1 := ⟨q - 1, by omega⟩
      rw [L_X4_lowestLeastProof_23, if_nlt (by omega) (by omega), if_pos (by omega)]
    · obtain ⟨q, rfl⟩ : ∃ q', q = q' + 1 := ⟨q - 1, by omega⟩
      rw [L_X5_least_8, plays5_N hN m.2.1 hB o.2.2.1]
      show (if ((1 : Int32) <<< (nI (2 ^ pc B) &&& 31)) ≤ nI S then kont5 v w else _) = _
      rw [shl1 _ (by omega), ← eT, if_nle (by omega) (by omega), if_pos (by omega)]
  | succ d ih =>
    intro S v w hd hv
    obtain ⟨w1, e3, -⟩ := against_N hN m.1 m.2.1 m.2.2.1 o.2.1 o.2.2.1 o.2.2.2.2.1 o.1 (show S < 256 by omega) hF w
    rw [ms_mF' m] at e3
    have e4 : F_X0_has N 0 0 (nI S) bits = some (gv (lfS B n (mC pos neg C) S) B n 0 0) := by
      have := has_B (N := N) hT o.1 (Nat.zero_le _) (show 0 < 2 ^ 0 by decide) (show S < 256 by omega)
      rw [Nat.sub_zero] at this
      exact this
    have k3 : ∀ q, L_X4_lowestLeastProof_23 N bits (nI (T - 1)) kont (q + 1) v (nI S) = (if v = -1 then (if gv (lfS B n (mC pos neg C) S) B n 0 0 = true then L_X4_lowestLeastProof_23 N bits (nI (T - 1)) kont q v (nI (S + 1)) else L_X4_lowestLeastProof_23 N bits (nI (T - 1)) kont q (nI S) (nI (S + 1))) else ob1 (F_J6_bitCount_0f7a4 N (nI S)) (fun r_14 => ob1 (F_J6_bitCount_0f7a4 N v) (fun r_16 => (if r_16 ≤ r_14 then L_X4_lowestLeastProof_23 N bits (nI (T - 1)) kont q v (nI (S + 1)) else (if gv (lfS B n (mC pos neg C) S) B n 0 0 = true then L_X4_lowestLeastProof_23 N bits (nI (T - 1)) kont q v (nI (S + 1)) else L_X4_lowestLeastProof_23 N bits (nI (T - 1)) kont q (nI S) (nI (S + 1))))))) := by
      intro q
      rw [L_X4_lowestLeastProof_23, if_nlt (by omega) (by omega), if_neg (by omega), e4, nI_1]; rfl
    have k5 : ∀ q, L_X5_least_8 N s f kont5 (q + 1) v (nI S) w = (if v < 0 then (if gv (lfS B n (mC pos neg C) S) B n 0 0 = true then L_X5_least_8 N s f kont5 q v (nI (S + 1)) w1 else L_X5_least_8 N s f kont5 q (nI S) (nI (S + 1)) w1) else ob1 (F_X5_ones N (nI S)) (fun r_16 => ob1 (F_X5_ones N v) (fun r_18 => (if r_18 ≤ r_16 then L_X5_least_8 N s f kont5 q v (nI (S + 1)) w else (if gv (lfS B n (mC pos neg C) S) B n 0 0 = true then L_X5_least_8 N s f kont5 q v (nI (S + 1)) w1 else L_X5_least_8 N s f kont5 q (nI S) (nI (S + 1)) w1))))) := by
      intro q
      rw [L_X5_least_8, plays5_N hN m.2.1 hB o.2.2.1]
      show (if ((1 : Int32) <<< (nI (2 ^ pc B) &&& 31)) ≤ nI S then kont5 v w else _) = _
      rw [shl1 _ (by omega), ← eT, if_nle (by omega) (by omega), if_neg (by omega), e3, nI_1]; rfl
    have go : ∀ (v' : Int32) (w' : Nat → Bool), Vv v' → (∀ q, L_X4_lowestLeastProof_23 N bits (nI (T - 1)) kont (q + 1) v (nI S) = L_X4_lowestLeastProof_23 N bits (nI (T - 1)) kont q v' (nI (S + 1))) → (∀ q, L_X5_least_8 N s f kont5 (q + 1) v (nI S) w = L_X5_least_8 N s f kont5 q v' (nI (S + 1)) w') → ∃ r w', Vv r ∧ (∀ q, d + 1 < q → L_X4_lowestLeastProof_23 N bits (nI (T - 1)) kont q v (nI S) = kont r) ∧ ∀ q, d + 1 < q → L_X5_least_8 N s f kont5 q v (nI S) w = kont5 r w' := by
      intro v' w' h1 h3 h5
      obtain ⟨r, w2, a1, a2, a3⟩ := ih (S + 1) v' w' (by omega) h1
      refine ⟨r, w2, a1, fun q hq => ?_, fun q hq => ?_⟩
      · obtain ⟨q, rfl⟩ : ∃ q', q = q' + 1 := ⟨q - 1, by omega⟩
        rw [h3, a2 q (by omega)]
      · obtain ⟨q, rfl⟩ : ∃ q', q = q' + 1 := ⟨q - 1, by omega⟩
        rw [h5, a3 q (by omega)]
    have vS : Vv (nI S) := .inr ⟨S, by omega, rfl⟩
    rcases hv with rfl | ⟨u, hu, rfl⟩
    · cases e : gv (lfS B n (mC pos neg C) S) B n 0 0
      · rw [e] at k3 k5
        exact go (nI S) w1 vS k3 k5
      · rw [e] at k3 k5
        exact go (-1) w1 (.inl rfl) k3 k5
    · replace k3 := fun q => (k3 q).trans (if_neg (m1_nI (show u < 2 ^ 31 by omega)))
      replace k5 := fun q => (k5 q).trans (if_neg (nI_pos (show u < 2 ^ 31 by omega)))
      rw [bitCount_N N (show S < 512 by omega), bitCount_N N (show u < 512 by omega)] at k3
      rw [ones_N (show 10 ≤ N by omega) (show S < 512 by omega), ones_N (show 10 ≤ N by omega) (show u < 512 by omega)] at k5
      by_cases e2 : nI (pc u) ≤ nI (pc S)
      · exact go (nI u) w (.inr ⟨u, hu, rfl⟩) (fun q => (k3 q).trans (if_pos e2)) (fun q => (k5 q).trans (if_pos e2))
      · have k3' := fun q => (k3 q).trans (if_neg e2)
        have k5' := fun q => (k5 q).trans (if_neg e2)
        cases e : gv (lfS B n (mC pos neg C) S) B n 0 0
        · rw [e] at k3' k5'
          exact go (nI S) w1 vS k3' k5'
        · rw [e] at k3' k5'
          exact go (nI u) w1 (.inr ⟨u, hu, rfl⟩) k3' k5'
theorem least_N {N n B C Ln : Nat} {R : Int32} {pos neg s : Nat → Int32} (hN : 2000 ≤ N) (o : Ok n B C Ln) (m : Ms n B C Ln R pos neg s) (bits : Nat → Int64) (st : Bool) (hst : st = true ∨ BT (mC pos neg C) B n 0 bits) (w : Nat → Bool) (fi : Nat → Int32) : ∃ r b' w' f', Vv r ∧ F_X4_lowestLeastProof N (nI n) (nI B) (nI C) pos neg bits st = some (r, b', false) ∧ BT (mC pos neg C) B n 0 b' ∧ F_X5_least N s w fi = some (r, w', f') := by
  have p2 := pb256 o.2.2.1
  have p3 := pw_pos (2 ^ pc B)
  obtain ⟨b', e1, t1⟩ := bring_N hN o.1 o.2.1 o.2.2.1 o.2.2.2.2.1 bits st hst
  obtain ⟨f', e2, t2⟩ := finds_N hN m.1 m.2.1 o.2.1 o.2.2.1 o.1 fi
  obtain ⟨r, w', v, a3, a5⟩ := least_loop hN o m t2 t1 rfl (fun u => some (u, b', false)) (fun u w => some (u, w, f')) (2 ^ 2 ^ pc B - 1) 1 (-1) w (by omega) (.inl rfl)
  refine ⟨r, b', w', f', v, ?_, t1, ?_⟩
  · unfold F_X4_lowestLeastProof
    rw [e1, allPlays_N N (ok_512 o) o.2.2.1]
    exact a3 N (by omega)
  · unfold F_X5_least
    rw [e2]
    exact a5 N (by omega)
theorem leastProof_c {N n B C Ln : Nat} {R : Int32} {pos neg s : Nat → Int32} (hN : 2000 ≤ N) (o : Ok n B C Ln) (m : Ms n B C Ln R pos neg s) (bits : Nat → Int64) (st : Bool) (hst : st = true ∨ BT (mC pos neg C) B n 0 bits) (w : Nat → Bool) (fi : Nat → Int32) (th : Int32) : ∃ r b' w' f', F_X4_leastProof N (nI n) (nI B) (nI C) pos neg bits st = some (r, b', false) ∧ BT (mC pos neg C) B n 0 b' ∧ F_X5_leastProof N s th w fi = some (r, 0, w', f') := by
  obtain ⟨r, b', w', f', v, e1, t1, e2⟩ := least_N hN o m bits st hst w fi
  rcases v with rfl | ⟨u, hu, rfl⟩
  · refine ⟨-1, b', w', f', ?_, t1, ?_⟩
    · unfold F_X4_leastProof; rw [e1]; rfl
    · unfold F_X5_leastProof; rw [e2]; rfl
  · refine ⟨nI (pc u), b', w', f', ?_, t1, ?_⟩
    · unfold F_X4_leastProof; rw [e1]
      show (if nI u = -1 then _ else ob1 (F_J6_bitCount_0f7a4 N (nI u)) _) = _
      rw [if_neg (m1_nI (by omega)), bitCount_N N (by omega)]; rfl
    · unfold F_X5_leastProof; rw [e2]
      show (if 0 ≤ nI u then ob1 (F_X5_ones N (nI u)) _ else _) = _
      rw [if_pos (nI_pos' (by omega)), ones_N (by omega) (by omega)]; rfl
theorem proof_c {N n B C Ln : Nat} {R : Int32} {pos neg s : Nat → Int32} (hN : 2000 ≤ N) (o : Ok n B C Ln) (m : Ms n B C Ln R pos neg s) (bits : Nat → Int64) (st : Bool) (hst : st = true ∨ BT (mC pos neg C) B n 0 bits) (w : Nat → Bool) (fi : Nat → Int32) (th : Int32) : ∃ r b' w' f', F_X4_proof N (nI n) (nI B) (nI C) pos neg bits st = some (r, b', false) ∧ BT (mC pos neg C) B n 0 b' ∧ F_X5_proof N s th w fi = some (r, 0, w', f') := by
  obtain ⟨r, b', w', f', v, e1, t1, e2⟩ := least_N hN o m bits st hst w fi
  refine ⟨r, b', w', f', ?_, t1, ?_⟩
  · unfold F_X4_proof; rw [e1]; rfl
  · unfold F_X5_proof; rw [e2]; rfl
