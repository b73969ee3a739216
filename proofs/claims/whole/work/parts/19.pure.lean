theorem law_pure (xs : Nat → Int32) (L : Nat) (hL : L ≤ 320) : lawF xs L FU sg0 0 = some 1 := by
  sorry
