theorem law_math (L : Nat) (xs : Nat → Int32) (hL : L ≤ 3072) : ∃ m', F_L_law L xs oM1 = some (1, m') := sorry
