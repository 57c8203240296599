/-! bits, by looking at all -/
theorem bt_a : ∀ a, a < 64 → ∀ b, b < 64 → ∀ v, v < 12 → ((nI (64 * a + b)) >>> ((nI v) &&& 31)) &&& 1 = if (64 * a + b).testBit v then 1 else 0 := by decide +kernel
theorem bt_b : ∀ a, a < 64 → ∀ b, b < 64 → ∀ v, v < 12 → (nI (64 * a + b)) ||| ((1 : Int32) <<< ((nI v) &&& 31)) = nI ((64 * a + b) ||| 1 <<< v) := by decide +kernel
theorem bt_c : ∀ a, a < 64 → ∀ b, b < 64 → (nI (64 * a + b)) &&& 1 = nI ((64 * a + b) % 2) ∧ (nI (64 * a + b)) >>> ((1 : Int32) &&& 31) = nI ((64 * a + b) / 2) := by decide +kernel
theorem bt_d : ∀ n, n < 13 → ((1 : Int32) <<< ((nI n) &&& 31)) - 1 = nI (2 ^ n - 1) := by decide +kernel
