/-- what is left: the law's function on the mini machine comes to its end on every script -/
theorem law_pure (xs : List Int32) (hxs : xs.length ≤ 2560) : ∃ h' : mxH, fL_law (mxH0 xs) = some h' := by
  sorry
