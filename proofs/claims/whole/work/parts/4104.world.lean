/-! my own: what lies outside at the law's entry, continued -/
def prH (a b : Nat) : Bool := (prA ++ prB).any fun q => q.1 == a && q.2 == b
theorem gv_pr : ∀ i, i < 10 → ∀ j, j < 10 → i ≠ j → prH (SRI i) (SRI j) = true ∨ prH (SRI j) (SRI i) = true := by decide +kernel
theorem gv_AB {a b : Nat} (h : prH a b = true) : Cond.not (Cond.eq (.string RX3 a) (.string RX3 b)) ∈ GV := by
  obtain ⟨q, hq, h2⟩ := List.any_eq_true.mp h
  simp only [Bool.and_eq_true, beq_iff_eq] at h2
  obtain ⟨rfl, rfl⟩ := h2
  exact (List.mem_append.mp hq).elim (gv_prA q) (gv_prB q)
theorem gv_3 (i : Nat) (hi : i < 10) (j : Nat) (hj : j < 10) (hne : i ≠ j) : Cond.not (Cond.eq (tmS i) (tmS j)) ∈ GV ∨ Cond.not (Cond.eq (tmS j) (tmS i)) ∈ GV := (gv_pr i hi j hj hne).imp gv_AB gv_AB
theorem gv_4 : ∀ i, i < 10 → Cond.eq (tmS i) (.string RX10 (SMI i)) ∈ GV := by decide +kernel
theorem gv_5 : ∀ q ∈ SREF, q.2.2 < 10 ∧ ((q.1 = RX3 ∧ q.2.1 = SRI q.2.2) ∨ (q.1 = RX10 ∧ q.2.1 = SMI q.2.2)) := by decide +kernel
theorem gv_6 : ∀ q ∈ SREF, Cond.stringRef q.1 q.2.1 (STX.getD q.2.2 "") ∈ lw_tbl := by decide +kernel
theorem gv_7 : Cond.laysStatic RX4 "ORDERS" "[I" ∈ lw_tbl ∧ Cond.initialized RX4 ∈ lw_tbl ∧ Cond.laysStatic RX7 "KIND_OVER" "[I" ∈ lw_tbl ∧ Cond.initialized RX7 ∈ lw_tbl ∧ Cond.laysStatic "java/lang/String" "COMPACT_STRINGS" "Z" ∈ lw_tbl ∧ Cond.initialized "java/lang/String" ∈ lw_tbl ∧ Cond.laysStatic "jdk/internal/util/Preconditions" "SIOOBE_FORMATTER" "Ljava/util/function/BiFunction;" ∈ lw_tbl ∧ Cond.initialized "jdk/internal/util/Preconditions" ∈ lw_tbl := by decide +kernel
theorem eq_ref {args : Array Value} {s : State} {t u : Term} {a : Nat} (h : (Cond.eq t u).before args s = true) (ht : t.eval args s none [] s = some (.ref a)) : u.eval args s none [] s = some (.ref a) := by
  cases hv : u.eval args s none [] s with
  | none => simp [Cond.before, Cond.holds, Cond.value, ht, hv] at h
  | some w =>
    simp only [Cond.before, Cond.holds, Cond.value, hv, ht] at h
    cases w <;> simp_all
theorem w_out {args : Array Value} {s : State} {A : Nat → Prop} (hts : ∀ w ∈ lw_tbl, w.before args s = true) (hgv : ∀ w ∈ GV, w.before args s = true) (hA : ∀ a : Nat, a < s.heap.size → ¬ A a) : ∃ (t0 t1 : Nat) (adK adV : Nat → Nat),
    (va_Z RX4 "ORDERS" "[I" (.ref t0) A s s.heap ∧ va_T .int t0 7 (fun j => .int (ORDV.getD j 0)) A s s.heap ∧
    va_Z RX7 "KIND_OVER" "[I" (.ref t1) A s s.heap ∧ va_T .int t1 6 (fun j => .int (KOVV.getD j 0)) A s s.heap ∧
    vk_S 10 SLEN SBYT adK adV A s s.heap ∧ va_Z "java/lang/String" "COMPACT_STRINGS" "Z" (.int 1) A s s.heap ∧
    va_Zq "jdk/internal/util/Preconditions" "SIOOBE_FORMATTER" "Ljava/util/function/BiFunction;" A s s.heap) ∧
    ∀ q ∈ SREF, vk_R q.1 q.2.1 (STX.getD q.2.2 "") (adK q.2.2) s := by
  obtain ⟨l0, l1, l2, l3, l4, l5, l6, l7⟩ := gv_7
  obtain ⟨t0, e0, T0⟩ := va_Tof (tm := tmO) (ty := .int) (N := 7) (f := fun j => .int (ORDV.getD j 0)) (A := A) (by decide) (hgv _ gv_O.1) (va_eqt (hgv _ gv_O.2.1)) (fun j hj => va_eqt (hgv _ (gv_O.2.2 j hj))) hA
  obtain ⟨t1, e1, T1⟩ := va_Tof (tm := tmK) (ty := .int) (N := 6) (f := fun j => .int (KOVV.getD j 0)) (A := A) (by decide) (hgv _ gv_K.1) (va_eqt (hgv _ gv_K.2.1)) (fun j hj => va_eqt (hgv _ (gv_K.2.2 j hj))) hA
  obtain ⟨adK, adV, hS, hK⟩ := vk_Sof (N := 10) (tm := tmS) (len := SLEN) (byt := SBYT) (A := A) (by decide) (fun i hi => hgv _ (gv_1 i hi).1) (fun i hi => hgv _ (gv_1 i hi).2.1) (fun i hi => hgv _ (gv_1 i hi).2.2.1) (fun i hi => hgv _ (gv_1 i hi).2.2.2) (fun i hi j hj => hgv _ (gv_2 i hi j hj)) (fun i j hi hj hne => (gv_3 i hi j hj hne).imp (hgv _) (hgv _)) hA
  refine ⟨t0, t1, adK, adV, ⟨va_Zref (hts _ l0) (hts _ l1) e0 hA, T0, va_Zref (hts _ l2) (hts _ l3) e1 hA, T1, hS, va_Zof (hts _ l4) (hts _ l5) (va_eqi (hgv _ gv_C.1)) hA, va_Zqof (hts _ l6) (hts _ l7) (hgv _ gv_C.2) hA⟩, fun q hq => ?_⟩
  obtain ⟨hi, h | h⟩ := gv_5 q hq
  · refine vk_R.of (hts _ (gv_6 q hq)) ?_
    rw [h.1, h.2]
    exact hK _ hi
  · refine vk_R.of (hts _ (gv_6 q hq)) ?_
    rw [h.1, h.2]
    exact eq_ref (hgv _ (gv_4 _ hi)) (hK _ hi)
theorem w_N {args : Array Value} {s : State} (hts : ∀ w ∈ lw_tbl, w.before args s = true) : XN s := by
  obtain ⟨t0, t1, t2, t3, t4, t5, t6, t7, t8⟩ := w_t1
  refine ⟨fun w hw hn => ?_, va_AO.of (hts _ t4), va_AO.of (hts _ t5), va_AO.of (hts _ t8), hts _ t6, hts _ t7⟩
  exact va_Nw.of (by cases w <;> first | rfl | cases hn) (hts w hw)
