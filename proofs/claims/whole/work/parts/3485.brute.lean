/-! my own: bits by trying all -/
set_option maxRecDepth 20000 in
theorem b_lt : ∀ m, m < 7 → ∀ S, S < 64 → (∀ u, u < 6 → Nat.testBit S u = true → u < m) → S < 2 ^ m := by decide +kernel
set_option maxRecDepth 20000 in
theorem b_pack : ∀ i, i < 6 → ∀ P, P < 4 ^ i → ∀ s, s < 4 → or32 (P : Nat) (shl32 (s : Nat) ((2 * i : Nat) : Int)) = ((P + s * 4 ^ i : Nat) : Int) := by decide +kernel
set_option maxRecDepth 60000 in
theorem b_unp : ∀ P, P < 4096 → ∀ i, i < 6 → and32 (shr32 (P : Nat) ((2 * i : Nat) : Int)) 3 = ((P / 4 ^ i % 4 : Nat) : Int) := by decide +kernel
