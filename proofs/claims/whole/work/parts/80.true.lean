theorem law_true (xs : Nat → Int32) (L : Nat) (hL : L ≤ 2560) : w_L_law xs L S0 := by
  sorry
