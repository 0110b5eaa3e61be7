/-! THE LAW -/
set_option maxHeartbeats 4000000 in
theorem pure_law (xs : Nat → Int32) (L : Nat) (hL : L ≤ 260) : F_L_law 2000 xs L = some true := by
  have hN : 2000 ≤ 2000 := Nat.le_refl _
  generalize hN2 : (2000 : Nat) = N at hN ⊢
  replace hN : 2000 ≤ N := by omega
  clear hN2
  have o0 : Ok 0 0 0 0 := ⟨by decide, by decide, by decide, by decide, by decide, by decide⟩
  obtain ⟨b1, e1, t1⟩ := holds_ok (R := 0) (pos := zI) (neg := zI) hN o0 zL true (.inl rfl)
  obtain ⟨z, hz, ez⟩ := cell_N N xs hL (show 0 < 2 ^ 31 by decide)
  have eM : (1 : Int32) + (nI z - nI z / 6 * 6) = nI (1 + z % 6) := by
    rw [show nI z - nI z / 6 * 6 = nI (z % 6) from pk_rem (d := 6) hz (by decide) (by decide)]
    exact nI_add 1 _
  have hM : 1 + z % 6 ≤ 6 := by omega
  unfold F_L_law
  refine ob2_e e1 ?_
  refine ob1_e ez ?_
  obtain ⟨n, B, L2, ol2, c2, ring2, st2, o2, hn2, sv2, hst2, e2⟩ := loopA (R := 0) (pos := zI) (neg := zI) (bits := b1) hN xs hL hz eM hM _ (1 + z % 6) 0 0 0 0 0 0 zS false (by omega) o0 (Nat.le_refl 0) ⟨by decide, by decide⟩ (.inr t1)
  refine (e2 N (by omega)).trans ?_
  refine ob1_e (val0 N _ _ _ _ _) ?_
  obtain ⟨C, L3, ol3, c3, R3, pos3, neg3, ring3, st3, bits3, o3, sv3, e3⟩ := loopB (n := n) (B := B) hN xs hL (by omega) _ 14 0 0 L2 ol2 c2 0 zI zI ring2 st2 b1 rfl o2 (Nat.le_refl 0) sv2 hst2
  refine (e3 N (by omega)).trans ?_
  have p9 := pw9 o3.1
  obtain ⟨ring4, ol4, c4, P, Q, e4, sv4, h4, h5⟩ := begin_N (R := R3) (pos := pos3) (neg := neg3) (ring := ring3) hN o3 sv3 st3
  obtain ⟨P2, Q2, e5⟩ := undoes_N (V := nI 0) (B := nI 0) (Cl := nI 0) (L := nI 0) (R := nI 0) (pos := pos3) (neg := neg3) hN sv4 h4 o3.2.2.2.2.1 h5 true
  refine ob1_e (val2 N _ _ _ _ _) ?_
  refine ob10_e e4 ?_
  rw [shl1 n (by omega), pred_N (pw_pos n)]
  refine ob1_e (bits_N (by omega) (by omega)) ?_
  refine ite_p (by rw [pc_full n (by omega)]) ?_
  refine ob1_e (val2 N _ _ _ _ _) ?_
  refine ite_p rfl ?_
  refine ob10_e e5 ?_
  refine ite_n (nI_pos (by have := sv4.2; omega)) ?_
  refine ob1_e (val2 N _ _ _ _ _) ?_
  exact ite_p rfl rfl
