theorem pure_law (xs : Nat → Int32) (L : Nat) (hL : L ≤ 260) : F_L_law 2000 xs L = some true := by
  sorry
