/-! my own: what lies outside at the law's entry, continued -/
theorem gv_2 : ∀ i, i < 10 → ∀ j, j < SLEN.getD i 0 → Cond.eq (.elem (.field (tmS i) "java/lang/String" "value" "[B") (.int (Int32.ofNat j))) (.int ((SBYT.getD i []).getD j 0)) ∈ GV := by decide +kernel
