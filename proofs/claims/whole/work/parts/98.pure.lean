theorem pure_law (xs : Nat → Int32) (L : Nat) (hL : L ≤ 2560) : f_start xs L = some () := sorry
