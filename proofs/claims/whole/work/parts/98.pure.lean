theorem law_pure (L : Nat) (xs : Nat → Int32) (hL : L ≤ 2560) : wp_Lw_law (L, xs) 0 0 h_nil := sorry
