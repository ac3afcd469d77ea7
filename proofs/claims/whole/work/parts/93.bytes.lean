/-! text: bytes -/
theorem b13k : ∀ b, b < 256 → ∀ c, c < 128 → ((nI b).toInt8.toInt32 = nI c ↔ b = c) := by decide +kernel
theorem b13_32 {b : Nat} (h : b < 256) : (nI b).toInt8.toInt32 = (32 : Int32) ↔ b = 32 := b13k b h 32 (by omega)
theorem b13neg : ∀ b, b < 256 → 128 ≤ b → ∀ a, a < 128 → ((nI b).toInt8.toInt32 - nI a) < 0 := by decide +kernel
