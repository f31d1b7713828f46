/-! The meaning, open. -/
theorem kb_main {N : Nat} (hN : N ≤ 2560) (xs : Nat → Int32) : ∃ q, kfLw N xs 513 0 kzM = some q := sorry
