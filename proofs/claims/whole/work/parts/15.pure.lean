theorem law_true {xs : Nat → Int32} {L : Nat} (hL : L ≤ 3584) : fL_law xs L = some () := by
  sorry
