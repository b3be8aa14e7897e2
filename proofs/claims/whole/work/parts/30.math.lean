theorem law_true (L : Nat) (hL : L ≤ 2048) (xs : Nat → Int32) : ∃ N n : Nat, f_law N L xs n 0 sg0 = some 1 := sorry
