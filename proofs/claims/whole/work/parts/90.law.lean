/-! THE LAW AS A FUNCTION ANSWERS 1 -/
theorem law_ok {L : Nat} (hL : L ≤ 3072) (xs : Nat → Int32) : ∃ m', mj_lp 5000 (f_L_law_18 5000 L xs) (0, mj_m1) = some (1, m') := sorry
