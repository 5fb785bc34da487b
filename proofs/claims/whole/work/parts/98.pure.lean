/-! ===== the law's pure computation comes to its end ===== -/
theorem law_pure {aC : Nat → Nat} {b L : Nat} {xs : Nat → Int32} (hL : L ≤ 2048) (n : Nat) (hn : 0 < n) (hi : ∀ i j, i < 11 → j < 11 → aC (110 + i) = aC (110 + j) → i = j) : ∃ μ', FL_law aC b L xs (mu0 n) = some (.inl (), μ') := by
  sorry
