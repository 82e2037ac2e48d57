theorem law_true {xs : Nat → Int32} {L : Nat} (hL : L ≤ 3072) : f_law xs L z0 z0 = some 1 := sorry
