/-! bits of who is in: numbers below 64 -/
def pc (b : Nat) : Nat := b % 2 + b / 2 % 2 + b / 4 % 2 + b / 8 % 2 + b / 16 % 2 + b / 32 % 2
def bit (b k : Nat) : Nat := b / 2 ^ k % 2
theorem bc64 : ∀ b, b < 64 → fJ6_bitCount_0f7a4 (nI b) = nI (pc b) := by decide +kernel
theorem ones64 : ∀ b, b < 64 → fX8_ones (nI b) = some (nI (pc b)) := by decide +kernel
theorem pc_le : ∀ b, b < 64 → pc b ≤ 6 := by decide +kernel
theorem shr64 : ∀ b, b < 64 → ∀ k, k < 6 → jshr (nI b) (nI k) &&& 1 = nI (bit b k) := by decide +kernel
theorem isIn64 : ∀ b, b < 64 → ∀ k, k < 6 → fX8_isIn (nI b) (nI k) = nI (bit b k) := by decide +kernel
theorem shl6 : ∀ k, k < 7 → jshl 1 (nI k) = nI (2 ^ k) := by decide +kernel
theorem all6 : ∀ k, k < 7 → jshl 1 (nI k) - 1 = nI (2 ^ k - 1) := by decide +kernel
theorem or64 : ∀ b, b < 64 → ∀ k, k < 6 → bit b k = 0 → nI b ||| jshl 1 (nI k) = nI (b + 2 ^ k) := by decide +kernel
theorem xor64 : ∀ b, b < 64 → ∀ k, k < 6 → nI b ^^^ jshl 1 (nI k) = nI (if bit b k = 0 then b + 2 ^ k else b - 2 ^ k) := by decide +kernel
theorem andn64 : ∀ b, b < 64 → ∀ k, k < 6 → bit b k = 1 → nI b &&& (jshl 1 (nI k) ^^^ (-1)) = nI (b - 2 ^ k) := by decide +kernel
theorem bit_le (b k : Nat) : bit b k = 0 ∨ bit b k = 1 := by unfold bit; omega
theorem pc1 : ∀ b, b < 64 → pc b = 1 → fJ6_numberOfTrailingZeros_0f7a4 (nI b) < 6 ∧ fX8_firstOf (nI b) = some (fJ6_numberOfTrailingZeros_0f7a4 (nI b)) := by decide +kernel
theorem add_lt : ∀ b, b < 64 → ∀ k, k < 6 → bit b k = 0 → b + 2 ^ k < 64 := by decide +kernel
theorem bit_top : ∀ n, n < 7 → ∀ b, b < 2 ^ n → ∀ k, k < 6 → n ≤ k → bit b k = 0 := by decide +kernel
theorem add_top : ∀ n, n < 7 → ∀ b, b < 2 ^ n → ∀ k, k < n → bit b k = 0 → b + 2 ^ k < 2 ^ n := by decide +kernel
theorem sub_bit : ∀ b, b < 64 → ∀ k, k < 6 → bit b k = 1 → 2 ^ k ≤ b := by decide +kernel
