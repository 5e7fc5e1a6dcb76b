/-! my own: what lies outside at the law's entry, continued -/
def prA : List (Nat × Nat) := [(49, 111), (49, 113), (111, 113), (49, 115), (111, 115), (113, 115), (49, 117), (111, 117), (113, 117), (115, 117), (49, 119), (111, 119), (113, 119), (115, 119), (117, 119), (49, 121), (111, 121), (113, 121), (115, 121), (117, 121), (119, 121), (49, 94)]
theorem gv_prA : ∀ q ∈ prA, Cond.not (Cond.eq (.string RX3 q.1) (.string RX3 q.2)) ∈ GV := by decide +kernel
