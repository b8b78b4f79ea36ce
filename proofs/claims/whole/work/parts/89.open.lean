/-! open yet: the pure part -/
theorem law_true (b L : Nat) (xs : Nat → Int32) (hL : L ≤ 3072) (h0 : hp_T) (hn : hp_n h0 = 0) : wp_L_law b L xs h0 True := sorry
