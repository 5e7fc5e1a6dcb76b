/-! my own: what lies outside at the law's entry, continued -/
def prB : List (Nat × Nat) := [(111, 94), (113, 94), (115, 94), (117, 94), (119, 94), (121, 94), (49, 96), (111, 96), (113, 96), (115, 96), (117, 96), (119, 96), (121, 96), (94, 96), (49, 101), (111, 101), (113, 101), (115, 101), (117, 101), (119, 101), (121, 101), (94, 101), (96, 101)]
theorem gv_prB : ∀ q ∈ prB, Cond.not (Cond.eq (.string RX3 q.1) (.string RX3 q.2)) ∈ GV := by decide +kernel
