theorem pure_law (xs : Nat → Int32) (L : Nat) (hL : L ≤ 3072) : ∃ (n k : Nat) (M1 : mem), k ≤ 4000 ∧ f_X4_fresh n M0M = some M1 ∧ lp (b_law n xs L) k (0, S0C, M1, fun _ => 0) = some 1 := by
  sorry
