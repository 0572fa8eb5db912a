theorem law_math {xs : Nat → Int32} {L : Nat} (hL : L ≤ 3072) : ∃ M9, f_law_run xs (L / 6) 0 M0 = some M9 := by sorry
