theorem z_truth {xs : Nat → Int32} {L : Nat} (hL : L ≤ 2560) : ∃ n, L_La_law_23 xs L n 0 zM0 zN0 := by sorry
