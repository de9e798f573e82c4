theorem law_pure (xs : Nat → Int32) (L : Nat) (hL : L ≤ 3072) : w_L_law xs L := sorry
