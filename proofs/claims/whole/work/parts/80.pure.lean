theorem law_pure (L : Nat) (xs : Nat → Int32) (hL : L ≤ 3073) : ∃ (N : Nat) (M9 : Mem), fL_33 N L xs 600 1 (iM (pc0 L xs)) 0 = some (1, M9) := by
  sorry
