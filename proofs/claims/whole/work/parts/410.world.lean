/-! my own: what lies outside at the law's entry: two static arrays, the texts -/
def tmO : Term := .static RX4 "ORDERS" "[I"
def tmK : Term := .static RX7 "KIND_OVER" "[I"
def SRI (i : Nat) : Nat := [111, 113, 115, 117, 119, 121, 94, 96, 101, 49].getD i 0
def SMI (i : Nat) : Nat := [457, 459, 461, 463, 465, 467, 469, 474, 483, 490].getD i 0
def tmS (i : Nat) : Term := .string RX3 (SRI i)
def GV : List Cond := flatC (Jvm.Cond.and given_1 narrow_1)
theorem gv_O : Cond.arrayOf tmO .int ∈ GV ∧ Cond.eq (.length tmO) (.int (Int32.ofNat 7)) ∈ GV ∧ ∀ j, j < 7 → Cond.eq (.elem tmO (.int (Int32.ofNat j))) (.int (ORDV.getD j 0)) ∈ GV := by decide +kernel
theorem gv_K : Cond.arrayOf tmK .int ∈ GV ∧ Cond.eq (.length tmK) (.int (Int32.ofNat 6)) ∈ GV ∧ ∀ j, j < 6 → Cond.eq (.elem tmK (.int (Int32.ofNat j))) (.int (KOVV.getD j 0)) ∈ GV := by decide +kernel
theorem gv_C : Cond.eq (.static "java/lang/String" "COMPACT_STRINGS" "Z") (.int 1) ∈ GV ∧ Cond.isRef (.static "jdk/internal/util/Preconditions" "SIOOBE_FORMATTER" "Ljava/util/function/BiFunction;") ∈ GV := by decide +kernel
theorem gv_1 : ∀ i, i < 10 → Cond.exactly (tmS i) "java/lang/String" ∈ GV ∧ Cond.eq (.field (tmS i) "java/lang/String" "coder" "B") (.int 0) ∈ GV ∧ Cond.arrayOf (.field (tmS i) "java/lang/String" "value" "[B") .byte ∈ GV ∧ Cond.eq (.length (.field (tmS i) "java/lang/String" "value" "[B")) (.int (Int32.ofNat (SLEN.getD i 0))) ∈ GV := by decide +kernel
