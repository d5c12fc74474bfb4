theorem law_pure (xs : List Int32) (hx : xs.length ≤ 260) : ∃ h', fL_law 1000000 (mxH0 xs) = some h' := sorry
