/-- THE LAW's walk: open -/
theorem law_true (L : Nat) (xs : Nat → Int32) (hL : L ≤ 3072) : ∃ h' : zH, Zt (some (L, xs)) mL_law 0 0 0 [(0, .retAddr 1000)] [] zh0 (some (.int 1)) h' := sorry
