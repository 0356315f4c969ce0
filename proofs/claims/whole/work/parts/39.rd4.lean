/-! twenty-four orders of four -/
set_option maxRecDepth 100000 in
theorem rd_4 : ∀ a : Nat, a < 8 → ∀ b : Nat, b < 8 → ∀ c : Nat, c < 8 → ∀ d : Nat, d < 8 → (!decide (a < b) || !decide (b < c) || !decide (c < d) || rdF 4 24 (tup a b c d)) = true := by decide +kernel
