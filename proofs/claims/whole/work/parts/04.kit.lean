/-! my own: what the abstract machine's values are on the machine, and when a heap holds an abstract heap -/
abbrev Ev : Type := va_G × (Nat → ClassId) × Nat × (Nat → Nat) × (Nat → Nat) × (Nat → Nat)
def eB (E : Ev) : Nat := E.2.2.1
def eA (E : Ev) : Nat → Prop := fun q => eB E < q
def rfo (E : Ev) (x : Int) : Option Nat := if x ≤ 0 then none else some (eB E + x.toNat)
def sfo (E : Ev) (x : Int) : Option Nat := if x ≤ 0 then none else some (E.2.2.2.1 (x.toNat - 1))
def cv (E : Ev) (v : Vl) : Value := match v.1 with
  | 0 => .int (Int32.ofInt v.2)
  | 1 => .long (Int64.ofInt v.2)
  | 2 => va_rf (rfo E v.2)
  | 3 => .ref (E.2.2.2.2.1 v.2.toNat)
  | _ => va_rf (sfo E v.2)
def okV (v : Vl) : Prop := match v.1 with
  | 0 => -2147483648 ≤ v.2 ∧ v.2 ≤ 2147483647
  | 1 => -9223372036854775808 ≤ v.2 ∧ v.2 ≤ 9223372036854775807
  | _ => True
def tyE (k i : Nat) : Nat := if k < 11 then FTY k i else if k = 13 then 1 else if k < 15 then 0 else if k = 19 then 4 else 2
def cellE (E : Ev) (C : Cn) (k : Nat) : va_E :=
  if (LAY k).1 < 11 then .inr ((LAY k).1, (List.range (LAY k).2).map fun i => cv E (FTY (LAY k).1 i, C k i))
  else if (LAY k).1 = 13 then .inl (E.2.1 13, (LAY k).2, .inr (.inl fun i => Int64.ofInt (C k i)))
  else if (LAY k).1 < 15 then .inl (E.2.1 (LAY k).1, (LAY k).2, .inl fun i => Int32.ofInt (C k i))
  else if (LAY k).1 = 19 then .inl (E.2.1 19, (LAY k).2, .inr (.inr (.inr (.inr fun i => sfo E (C k i)))))
  else .inl (E.2.1 (LAY k).1, (LAY k).2, .inr (.inr (.inr (.inr fun i => rfo E (C k i)))))
def Rep (E : Ev) (C : Cn) (n : Nat) (H : Heap) : Prop := H.size = eB E + n ∧ ∀ k, 0 < k → k < n → va_at E.1 CLS (eB E + k, cellE E C k) H
def okC (C : Cn) : Prop := ∀ k i, okV (tyE (LAY k).1 i, C k i)
def frC (C : Cn) (n : Nat) : Prop := ∀ k i, n ≤ k → C k i = 0
def ptC (C : Cn) (n : Nat) : Prop := ∀ k i, k < n → k < N0 → tyE (LAY k).1 i = 2 → C k i = PT k i
def HI (pm : Bool) (C : Cn) (n : Nat) : Prop := okC C ∧ frC C n ∧ (pm = true → ptC C n)
def TYS (E : Ev) : List (ClassId × FieldType) := [(E.2.1 11, .byte), (E.2.1 12, .int), (E.2.1 13, .long), (E.2.1 14, .boolean), (E.2.1 15, .object RX5), (E.2.1 16, .object RX7), (E.2.1 17, .array .int), (E.2.1 18, .array .long), (E.2.1 19, .object "java/lang/String")]
def STX : List String := ["segment", "fence", "stream", "hedge", "ditch", "road", "wide", "from", "to", "tide"]
def SLEN : List Nat := [7, 5, 6, 5, 5, 4, 4, 4, 2, 4]
def SBYT : List (List Int32) := [[115, 101, 103, 109, 101, 110, 116], [102, 101, 110, 99, 101], [115, 116, 114, 101, 97, 109], [104, 101, 100, 103, 101], [100, 105, 116, 99, 104], [114, 111, 97, 100], [119, 105, 100, 101], [102, 114, 111, 109], [116, 111], [116, 105, 100, 101]]
/-- where the text i stands: (class, entry) -/
def SREF : List (String × Nat × Nat) := [(RX3, 111, 0), (RX3, 113, 1), (RX3, 115, 2), (RX3, 117, 3), (RX3, 119, 4), (RX3, 121, 5), (RX3, 94, 6), (RX3, 96, 7), (RX3, 101, 8), (RX3, 49, 9), (RX10, 457, 0), (RX10, 459, 1), (RX10, 461, 2), (RX10, 463, 3), (RX10, 465, 4), (RX10, 467, 5), (RX10, 469, 6), (RX10, 474, 7), (RX10, 483, 8), (RX10, 490, 9)]
def ORDV : List Int32 := [1, 1, 2, 6, 24, 120, 720]
def KOVV : List Int32 := [-1, 0, 0, 1, 2, 0]
/-- what lies outside and is never written: two static arrays, the texts -/
def XO (E : Ev) (U : State) (H : Heap) : Prop :=
  va_Z RX4 "ORDERS" "[I" (.ref (E.2.2.2.2.1 0)) (eA E) U H ∧ va_T .int (E.2.2.2.2.1 0) 7 (fun j => .int (ORDV.getD j 0)) (eA E) U H ∧
  va_Z RX7 "KIND_OVER" "[I" (.ref (E.2.2.2.2.1 1)) (eA E) U H ∧ va_T .int (E.2.2.2.2.1 1) 6 (fun j => .int (KOVV.getD j 0)) (eA E) U H ∧
  vk_S 10 SLEN SBYT E.2.2.2.1 E.2.2.2.2.2 (eA E) U H ∧ va_Z "java/lang/String" "COMPACT_STRINGS" "Z" (.int 1) (eA E) U H ∧
  va_Zq "jdk/internal/util/Preconditions" "SIOOBE_FORMATTER" "Ljava/util/function/BiFunction;" (eA E) U H
def XR (E : Ev) (U : State) : Prop := ∀ q ∈ SREF, vk_R q.1 q.2.1 (STX.getD q.2.2 "") (E.2.2.2.1 q.2.2) U
def isNA : Cond → Bool
  | .methodLinkNest _ _ _ _ => true
  | _ => false
/-- what is known of nest mates' links and of classes of arrays -/
def XN (U : State) : Prop := (∀ w ∈ lw_tbl, isNA w = true → va_Nw w U) ∧ va_AO RX5 U ∧ va_AO RX7 U ∧ va_AO "java/lang/String" U ∧ (Cond.arrayOver (.array .int)).before #[] U = true ∧ (Cond.arrayOver (.array .long)).before #[] U = true
theorem XN.warm {s U : State} (hW : s.WarmedH U.vm) (h : XN s) : XN U := by
  refine ⟨fun w hw hn => ?_, h.2.1.moved hW.alike, h.2.2.1.moved hW.alike, h.2.2.2.1.moved hW.alike, over_moved hW.alike h.2.2.2.2.1, over_moved hW.alike h.2.2.2.2.2⟩
  have h1 := h.1 w hw hn
  cases w <;> first | exact va_Nw.warmM hW h1 | cases hn
theorem va_Zq.moved' {C n d : String} {A : Nat → Prop} {u U : State} {H : Heap} (hvm : u.vm.Alike U.vm) (h : va_Zq C n d A u H) : va_Zq C n d A U H := by
  rcases h with h | ⟨t, h⟩
  · exact Or.inl (h.moved hvm)
  · exact Or.inr ⟨t, h.moved hvm⟩
theorem va_Zq.kept' {C n d : String} {A : Nat → Prop} {U : State} {H H1 : Heap} (h : va_Zq C n d A U H) (hq : ∀ a : Nat, a < H.size → ¬ A a → H1[a]? = H[a]?) : va_Zq C n d A U H1 := by
  rcases h with h | ⟨t, h⟩
  · exact Or.inl (h.kept hq)
  · exact Or.inr ⟨t, h.kept hq⟩
theorem XO.moved {E : Ev} {u U : State} {H : Heap} (hvm : u.vm.Alike U.vm) (h : XO E u H) : XO E U H := by
  obtain ⟨h1, h2, h3, h4, h5, h6, h7⟩ := h
  exact ⟨h1.moved hvm, h2.moved hvm, h3.moved hvm, h4.moved hvm, h5.moved hvm, h6.moved hvm, h7.moved' hvm⟩
theorem XO.kept {E : Ev} {U : State} {H H1 : Heap} (h : XO E U H) (hq : ∀ a : Nat, a < H.size → ¬ eA E a → H1[a]? = H[a]?) : XO E U H1 := by
  obtain ⟨h1, h2, h3, h4, h5, h6, h7⟩ := h
  exact ⟨h1.kept hq, h2.kept hq, h3.kept hq, h4.kept hq, h5.kept hq, h6.kept hq, h7.kept' hq⟩
/-- own class, code, locals, answer, name, sort of the answer (8: none), room -/
abbrev Mt : Type := String × ByteArray × Nat × Option FieldType × String × Nat × Room
def rv (E : Ev) (rt : Nat) (r : Int) : Option Value := if rt = 8 then none else some (cv E (rt, r))
def lvh (E : Ev) (ls : Array Slot) (nL : Nat) (lv : List Vl) : Prop := ls.size = nL ∧ lv_wf ls ∧ ∀ (i : Nat) (v : Vl), lv[i]? = some v → v.1 < 9 → ls[i]? = some (.val (cv E v))
def EOK (E : Ev) (U : State) : Prop := va_K E.1 CLS (TYS E) U ∧ XO E U U.heap ∧ XR E U ∧ XN U ∧ eB E < U.heap.size
def PcA (E : Ev) (pm : Bool) (C : Cn) (n : Nat) (as : List Vl) : Array Value → State → Prop := va_Pc (as.map (cv E)) (fun U => Rep E C n U.heap ∧ HI pm C n ∧ EOK E U ∧ ∀ v ∈ as, okV v)
def QcA (E : Ev) (pm : Bool) (rt : Nat) (Q : Int → Cn → Nat → Prop) : Array Value → State → Outcome → State → Prop := fun _ st o t =>
  ∃ (r : Int) (C : Cn) (n : Nat), o = .returned (rv E rt r) ∧ Q r C n ∧ Rep E C n t.heap ∧ HI pm C n ∧ okV (rt, r) ∧ va_F (eA E) st t
def Cx (p : Program) (R : Room) (s : State) (m : MethodId) (args : Array Value) (meth : Method) (c : Code) (E : Ev) (M : Mt) : Prop :=
  CallFix p m c M.2.1 M.2.2.1 s args lw_g M.1 ∧ meth.sig.returnType = M.2.2.2.1 ∧ meth.locks = false ∧ meth.name = M.2.2.2.2.1 ∧ EOK E s ∧ R = M.2.2.2.2.2.2
def AW (p : Program) (l : Launch) (e : Env) (R : Room) (s : State) (m : MethodId) (args : Array Value) (below : List Frame) (meth : Method) (c : Code) (E : Ev) (M : Mt) (pm : Bool) (Q : Int → Cn → Nat → Prop) (n kc ks pc : Nat) (lv st : List Vl) (C : Cn) : Prop :=
  Cx p R s m args meth c E M → ∀ (H : Heap) (locs : List Loc) (ls : Array Slot), Rep E C n H → HI pm C n → va_S (eA E) s.heap H locs → lvh E ls M.2.2.1 lv → (∀ v ∈ lv, okV v) → (∀ v ∈ st, okV v) →
    W p l e R s m args below meth c H locs kc ks (MQ below (QcA E pm M.2.2.2.2.2.1 Q) args s M.2.2.2.2.2.2.cells M.2.2.2.2.2.2.slots (eA E)) (F0 m pc ls (st.map (cv E)))
theorem cv_cat1 (E : Ev) (v : Vl) (h : v.1 ≠ 1) : (cv E v).category = 1 := by
  obtain ⟨t, x⟩ := v
  have hq : ∀ o : Option Nat, (va_rf o).category = 1 := fun o => by cases o <;> rfl
  match t, h with
  | 0, _ => rfl
  | 1, h => exact absurd rfl h
  | 2, _ => exact hq _
  | 3, _ => rfl
  | t + 4, _ => exact hq _
def nl (lv : List Vl) (i : Nat) : Bool := match i with
  | 0 => true
  | j + 1 => match lv[j]? with
    | some v => v.1 != 1
    | none => true
def ents (E : Ev) (lv : List Vl) : List (Nat × Value) := (List.range lv.length).filterMap fun i => match lv[i]? with
  | some v => if v.1 < 9 then some (i, cv E v) else none
  | none => none
theorem ents_mem {E : Ev} {lv : List Vl} {i : Nat} {v : Vl} (h : lv[i]? = some v) (h9 : v.1 < 9) : (i, cv E v) ∈ ents E lv := by
  refine List.mem_filterMap.mpr ⟨i, List.mem_range.mpr (List.getElem?_eq_some_iff.mp h).1, ?_⟩
  rw [h]
  simp [h9]
theorem lvh_has {E : Ev} {ls : Array Slot} {nL : Nat} {lv : List Vl} (h : lvh E ls nL lv) : lv_has ls nL (ents E lv) := by
  refine ⟨h.1, h.2.1, fun q hq => ?_⟩
  obtain ⟨i, -, hi⟩ := List.mem_filterMap.mp hq
  cases hv : lv[i]? with
  | none => rw [hv] at hi; cases hi
  | some v =>
    rw [hv] at hi
    by_cases h9 : v.1 < 9
    · simp [h9] at hi
      rw [← hi]
      exact h.2.2 i v hv h9
    · simp [h9] at hi
theorem lvh_set1 {E : Ev} {ls : Array Slot} {nL i : Nat} {lv : List Vl} {v : Vl} (hn : nl lv i = true) (h : lv_has ls nL ((i, cv E v) :: (ents E lv).filter (fun q => !(q.1 == i) && !(q.1 + 1 == i && q.2.category == 2)))) : lvh E ls nL (lv.set i v) := by
  refine ⟨h.1, h.2.1, fun j w hj h9 => ?_⟩
  by_cases hij : i = j
  · subst hij
    rw [List.getElem?_set] at hj
    simp at hj
    obtain ⟨-, rfl⟩ := hj
    exact h.2.2 _ List.mem_cons_self
  · rw [List.getElem?_set_ne hij] at hj
    refine h.2.2 (j, cv E w) (List.mem_cons_of_mem _ (List.mem_filter.mpr ⟨ents_mem hj h9, ?_⟩))
    have h1 : (j == i) = false := by simp; omega
    have h2 : (j + 1 == i && (cv E w).category == 2) = false := by
      by_cases hji : j + 1 = i
      · subst hji
        have hw : w.1 ≠ 1 := by
          simp only [nl, hj] at hn
          simpa using hn
        rw [cv_cat1 E w hw]
        simp
      · simp [hji]
    simp only [h1, h2, Bool.not_false, Bool.and_self]
theorem lvh_set2 {E : Ev} {ls : Array Slot} {nL i : Nat} {lv : List Vl} {v : Vl} (hn : nl lv i = true) (h : lv_has ls nL ((i, cv E v) :: (ents E lv).filter (fun q => !(q.1 == i) && (!(q.1 == i + 1) && !(q.1 + 1 == i && q.2.category == 2))))) : lvh E ls nL ((lv.set i v).set (i + 1) (9, 0)) := by
  refine ⟨h.1, h.2.1, fun j w hj h9 => ?_⟩
  by_cases hij1 : i + 1 = j
  · subst hij1
    rw [List.getElem?_set] at hj
    simp at hj
    obtain ⟨-, rfl⟩ := hj
    exact absurd h9 (by decide)
  · rw [List.getElem?_set_ne hij1] at hj
    by_cases hij : i = j
    · subst hij
      rw [List.getElem?_set] at hj
      simp at hj
      obtain ⟨-, rfl⟩ := hj
      exact h.2.2 _ List.mem_cons_self
    · rw [List.getElem?_set_ne hij] at hj
      refine h.2.2 (j, cv E w) (List.mem_cons_of_mem _ (List.mem_filter.mpr ⟨ents_mem hj h9, ?_⟩))
      have h1 : (j == i) = false := by simp; omega
      have h3 : (j == i + 1) = false := by simp; omega
      have h2 : (j + 1 == i && (cv E w).category == 2) = false := by
        by_cases hji : j + 1 = i
        · subst hji
          have hw : w.1 ≠ 1 := by
            simp only [nl, hj] at hn
            simpa using hn
          rw [cv_cat1 E w hw]
          simp
        · simp [hji]
      simp only [h1, h2, h3, Bool.not_false, Bool.and_self]
theorem ok_set {lv : List Vl} {i : Nat} {v : Vl} (h : ∀ w ∈ lv, okV w) (hv : okV v) : ∀ w ∈ lv.set i v, okV w := by
  intro w hw
  rcases List.mem_or_eq_of_mem_set hw with h1 | h1
  · exact h w h1
  · rw [h1]; exact hv
/-- the decode rows of a method, all at once -/
def chk (cc : ByteArray) (L : List (Nat × Instr × Nat)) : Bool := L.all fun t => decide (decode cc t.1 = .ok (t.2.1, t.2.2))
theorem dc {cc : ByteArray} {L : List (Nat × Instr × Nat)} (h : chk cc L = true) (k : Nat) {pc : Nat} {i : Instr} {n : Nat} (hk : L[k]? = some (pc, i, n)) : decode cc pc = .ok (i, n) := by
  have := List.all_eq_true.mp h _ (List.mem_of_getElem? hk)
  simpa using this
