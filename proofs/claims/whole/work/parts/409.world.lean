/-! my own: the world at the law's entry -/
theorem lwg_in {w : Cond} (h : w ∈ lw_g) : w ∈ lw_tbl := (List.mem_filter.mp h).1
theorem w_inst : ∀ q ∈ CLS.map (fun q => (q.1, q.2.2)), Cond.instantiable q.1 q.2 ∈ lw_tbl := by decide +kernel
theorem w_kn {args : Array Value} {s : State} (hts : ∀ w ∈ lw_tbl, w.before args s = true) {C : String} {T : u_T} {N : Nat} (h1 : ∀ w ∈ u_ws C T N, w ∈ lw_g) (h2 : (C, N) ∈ CLS.map (fun q => (q.1, q.2.2))) : ∃ (cC : ClassId) (iS : Nat → Nat), u_Kn s C T N cC iS :=
  u_known (n := N) hts (fun w h => lwg_in (h1 w h)) (hts _ (w_inst _ h2))
theorem w_cls {args : Array Value} {s : State} (hts : ∀ w ∈ lw_tbl, w.before args s = true) : ∃ (dC : Nat → ClassId) (dI : Nat → Nat → Nat), ∀ (k : Nat) (q : vw_C), CLS[k]? = some q → u_Kn s q.1 q.2.1 q.2.2 (dC k) (dI k) := by
  have h : ∀ k : Nat, ∃ z : ClassId × (Nat → Nat), ∀ q : vw_C, CLS[k]? = some q → u_Kn s q.1 q.2.1 q.2.2 z.1 z.2 := by
    intro k
    have key : ∀ (C : String) (T : u_T) (N : Nat), CLS[k]? = some (C, T, N) → (∃ (cC : ClassId) (iS : Nat → Nat), u_Kn s C T N cC iS) → ∃ z : ClassId × (Nat → Nat), ∀ q : vw_C, CLS[k]? = some q → u_Kn s q.1 q.2.1 q.2.2 z.1 z.2 := by
      intro C T N hk ⟨cC, iS, hz⟩
      refine ⟨(cC, iS), fun q hq => ?_⟩
      cases hk.symm.trans hq
      exact hz
    match k, key with
    | 0, key => exact key RX0 TX0 3 rfl (w_kn hts inX0 (by decide +kernel))
    | 1, key => exact key RX1 TX1 5 rfl (w_kn hts inX1 (by decide +kernel))
    | 2, key => exact key RX2 TX2 19 rfl (w_kn hts inX2 (by decide +kernel))
    | 3, key => exact key RX3 TX3 9 rfl (w_kn hts inX3 (by decide +kernel))
    | 4, key => exact key RX4 TX4 18 rfl (w_kn hts inX4 (by decide +kernel))
    | 5, key => exact key RX5 TX5 3 rfl (w_kn hts inX5 (by decide +kernel))
    | 6, key => exact key RX6 TX6 2 rfl (w_kn hts inX6 (by decide +kernel))
    | 7, key => exact key RX7 TX7 6 rfl (w_kn hts inX7 (by decide +kernel))
    | 8, key => exact key RX8 TX8 3 rfl (w_kn hts inX8 (by decide +kernel))
    | 9, key => exact key RX9 TX9 16 rfl (w_kn hts inX9 (by decide +kernel))
    | 10, key => exact key RX10 TX10 56 rfl (w_kn hts inX10 (by decide +kernel))
    | k + 11, key => exact ⟨(0, fun _ => 0), fun q hq => by simp at hq⟩
  obtain ⟨z, hz⟩ := Classical.axiomOfChoice h
  exact ⟨fun k => (z k).1, fun k => (z k).2, hz⟩
def TYL : List FieldType := [.byte, .int, .long, .boolean, .object RX5, .object RX7, .array .int, .array .long, .object "java/lang/String"]
theorem w_a1 {args : Array Value} {s : State} {ty : FieldType} (h : (Cond.arrayClass ty).before args s = true) (hn : ∀ cA, va_RA s cA ty = (s.vm.findClass ("[" ++ ty.toString) = some cA)) : ∃ c : ClassId, ArrOfT s c ty ∧ va_RA s c ty := by
  obtain ⟨c, k, comp, h1, h2, h3⟩ := Cond.arrayClass_spec (args := args) (first := s) (o := none) (s := s) (idx := []) h
  exact ⟨c, fun N z => ⟨(fun k h => by cases h), k, h2, comp, h3⟩, by rw [hn]; exact h1⟩
theorem w_a2 {args : Array Value} {s : State} {C : String} (h : (Cond.arrayOver (.object C)).before args s = true) : ∃ c : ClassId, ArrOfT s c (.object C) ∧ va_RA s c (.object C) := by
  obtain ⟨comp, c, k, h1, h2, h3, h4, h5⟩ := Cond.arrayOver_spec (args := args) (first := s) (o := none) (s := s) (idx := []) h
  exact ⟨c, fun N z => ⟨(fun k h => by cases h), k, h3, comp, h4⟩, k, comp, h3, h4, h1, h5⟩
theorem w_a3 {args : Array Value} {s : State} {t : FieldType} (h : (Cond.arrayOver (.array t)).before args s = true) : ∃ c : ClassId, ArrOfT s c (.array t) ∧ va_RA s c (.array t) := by
  obtain ⟨comp, c, k, h1, h3, h4, h5⟩ := mm_over (args := args) (first := s) (o := none) (s := s) (idx := []) h
  exact ⟨c, fun N z => ⟨(fun k h => by cases h), k, h3, comp, h4⟩, h5⟩
theorem w_t1 : Cond.arrayClass .byte ∈ lw_tbl ∧ Cond.arrayClass .int ∈ lw_tbl ∧ Cond.arrayClass .long ∈ lw_tbl ∧ Cond.arrayClass .boolean ∈ lw_tbl ∧ Cond.arrayOver (.object RX5) ∈ lw_tbl ∧ Cond.arrayOver (.object RX7) ∈ lw_tbl ∧ Cond.arrayOver (.array .int) ∈ lw_tbl ∧ Cond.arrayOver (.array .long) ∈ lw_tbl ∧ Cond.arrayOver (.object "java/lang/String") ∈ lw_tbl := by decide +kernel
theorem w_arr {args : Array Value} {s : State} (hts : ∀ w ∈ lw_tbl, w.before args s = true) : ∃ aC : Nat → ClassId, ∀ (k : Nat) (ty : FieldType), TYL[k]? = some ty → ArrOfT s (aC (k + 11)) ty ∧ va_RA s (aC (k + 11)) ty := by
  obtain ⟨t0, t1, t2, t3, t4, t5, t6, t7, t8⟩ := w_t1
  have h : ∀ k : Nat, ∃ c : ClassId, ∀ ty : FieldType, TYL[k]? = some ty → ArrOfT s c ty ∧ va_RA s c ty := by
    intro k
    have key : ∀ t, TYL[k]? = some t → (∃ c : ClassId, ArrOfT s c t ∧ va_RA s c t) → ∃ c : ClassId, ∀ ty : FieldType, TYL[k]? = some ty → ArrOfT s c ty ∧ va_RA s c ty := by
      intro t hk ⟨c, hz⟩
      refine ⟨c, fun q hq => ?_⟩
      cases hk.symm.trans hq
      exact hz
    match k, key with
    | 0, key => exact key .byte rfl (w_a1 (hts _ t0) (fun _ => rfl))
    | 1, key => exact key .int rfl (w_a1 (hts _ t1) (fun _ => rfl))
    | 2, key => exact key .long rfl (w_a1 (hts _ t2) (fun _ => rfl))
    | 3, key => exact key .boolean rfl (w_a1 (hts _ t3) (fun _ => rfl))
    | 4, key => exact key _ rfl (w_a2 (hts _ t4))
    | 5, key => exact key _ rfl (w_a2 (hts _ t5))
    | 6, key => exact key _ rfl (w_a3 (hts _ t6))
    | 7, key => exact key _ rfl (w_a3 (hts _ t7))
    | 8, key => exact key _ rfl (w_a2 (hts _ t8))
    | k + 9, key => exact ⟨0, fun q hq => by simp [TYL] at hq⟩
  obtain ⟨z, hz⟩ := Classical.axiomOfChoice h
  exact ⟨fun k => z (k - 11), fun k ty hk => by
    show ArrOfT s (z (k + 11 - 11)) ty ∧ va_RA s (z (k + 11 - 11)) ty
    rw [Nat.add_sub_cancel]
    exact hz k ty hk⟩
theorem w_K {E : Ev} {s : State} (h1 : ∀ (k : Nat) (q : vw_C), CLS[k]? = some q → u_Kn s q.1 q.2.1 q.2.2 (E.1.1 k) (E.1.2 k)) (h2 : ∀ (k : Nat) (ty : FieldType), TYL[k]? = some ty → ArrOfT s (E.2.1 (k + 11)) ty ∧ va_RA s (E.2.1 (k + 11)) ty) : va_K E.1 CLS (TYS E) s := by
  refine ⟨h1, fun k q hq => ?_⟩
  match k, hq with
  | 0, hq => cases hq; exact h2 0 _ rfl
  | 1, hq => cases hq; exact h2 1 _ rfl
  | 2, hq => cases hq; exact h2 2 _ rfl
  | 3, hq => cases hq; exact h2 3 _ rfl
  | 4, hq => cases hq; exact h2 4 _ rfl
  | 5, hq => cases hq; exact h2 5 _ rfl
  | 6, hq => cases hq; exact h2 6 _ rfl
  | 7, hq => cases hq; exact h2 7 _ rfl
  | 8, hq => cases hq; exact h2 8 _ rfl
  | k + 9, hq => simp [TYS] at hq
