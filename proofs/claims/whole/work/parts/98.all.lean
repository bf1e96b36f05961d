theorem q_all (L : Nat) (xs : Nat → Int32) (hL : L ≤ 2560) : q_L_law L xs := sorry
