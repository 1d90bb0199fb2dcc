theorem wp_pure : ∀ (L : Nat) (xs : Nat → Int32), L ≤ 3072 → wp_L_law L xs := by
  sorry
