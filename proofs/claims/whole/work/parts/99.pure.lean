/-! the law's pure part, whole -/
theorem wp_pure : ∀ (L : Nat) (xs : Nat → Int32), L ≤ 3072 → wp_L_law L xs := wp_pure_open hload hwrite
