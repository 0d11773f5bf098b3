theorem law_pure (L : Nat) (xs : Nat → Int32) (hL : L ≤ 3072) : ∃ z, pL_law_1999 L xs = some z ∧ z.1 = 1 ∧ z.2.2.1 ≤ 601024 ∧ z.2.2.2 ≤ 7293034 := by
  sorry
