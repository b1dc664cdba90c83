theorem law_true (L : Nat) (xs : Nat → Int32) (hL : L ≤ 3074) : wp_ZL_law L xs := sorry
