/-! my own: multianewarray of two dimensions, over the model itself -/
def mm_out (cO : ClassId) (N h0 i : Nat) : Cell := arrV cO N (fun j => va_rf (if j < i then some (h0 + 1 + j) else none))
def mm_in (cI : ClassId) (K : Nat) (v : Value) : Cell := { cls := cI, slots := Array.replicate K v, vm := .none }
/-- the state behind i rows -/
def mm_st (U : State) (cO cI : ClassId) (N K : Nat) (v : Value) : Nat → State
  | 0 => U.pushCell (mm_out cO N U.heap.size 0)
  | i + 1 => ((mm_st U cO cI N K v i).pushCell (mm_in cI K v)).setCell U.heap.size (mm_out cO N U.heap.size (i + 1))
def mm_locs (h0 : Nat) : Nat → List Loc
  | 0 => []
  | i + 1 => mm_locs h0 i ++ [⟨h0, i⟩]
theorem mm_locs_at (h0 : Nat) : ∀ (i : Nat) (x : Loc), x ∈ mm_locs h0 i → x.base = h0
  | 0, x, h => absurd h (List.not_mem_nil)
  | i + 1, x, h => by
    rcases List.mem_append.mp h with h | h
    · exact mm_locs_at h0 i x h
    · rw [List.mem_singleton.mp h]
theorem mm_out0 (cO : ClassId) (N h0 : Nat) : ({ cls := cO, slots := Array.replicate N .null, vm := .none } : Cell) = mm_out cO N h0 0 := by
  rw [arrV_new]
  unfold mm_out
  refine congrArg (arrV cO N) (funext fun j => ?_)
  simp [va_rf]
theorem mm_outS (cO : ClassId) (N h0 i : Nat) : (mm_out cO N h0 i).setSlot i (.ref (h0 + 1 + i)) = mm_out cO N h0 (i + 1) := by
  unfold mm_out
  rw [arrV_store]
  refine congrArg (arrV cO N) (funext fun j => ?_)
  by_cases e : j = i
  · subst e
    simp [updV, va_rf]
  · by_cases h : j < i
    · simp [updV, e, h, Nat.lt_succ_of_lt h]
    · simp [updV, e, h, show ¬ j < i + 1 by omega]
theorem mm_facts (U : State) (cO cI : ClassId) (N K : Nat) (v : Value) (i : Nat) : (mm_st U cO cI N K v i).vm = U.vm ∧ (mm_st U cO cI N K v i).heap.size = U.heap.size + 1 + i ∧ (mm_st U cO cI N K v i).heap[U.heap.size]? = some (mm_out cO N U.heap.size i) ∧ (∀ q, q < U.heap.size → (mm_st U cO cI N K v i).heap[q]? = U.heap[q]?) ∧ (∀ j, j < i → (mm_st U cO cI N K v i).heap[U.heap.size + 1 + j]? = some (mm_in cI K v)) := by
  induction i with
  | zero =>
    have hh : (mm_st U cO cI N K v 0).heap = U.heap.push (mm_out cO N U.heap.size 0) := rfl
    rw [hh]
    refine ⟨rfl, by rw [Array.size_push], by rw [Array.getElem?_push_size], fun q hq => ?_, fun j hj => absurd hj (Nat.not_lt_zero j)⟩
    rw [Array.getElem?_push, if_neg (Nat.ne_of_lt hq)]
  | succ i ih =>
    obtain ⟨h1, h2, h3, h4, h5⟩ := ih
    have hh : (mm_st U cO cI N K v (i + 1)).heap = ((mm_st U cO cI N K v i).heap.push (mm_in cI K v)).setIfInBounds U.heap.size (mm_out cO N U.heap.size (i + 1)) := rfl
    rw [hh]
    refine ⟨h1, ?_, ?_, fun q hq => ?_, fun j hj => ?_⟩
    · rw [Array.size_setIfInBounds, Array.size_push, h2]
      omega
    · rw [Array.getElem?_setIfInBounds, if_pos rfl, if_pos (by rw [Array.size_push, h2]; omega)]
    · rw [Array.getElem?_setIfInBounds, if_neg (by omega), Array.getElem?_push, if_neg (by rw [h2]; omega), h4 q hq]
    · rw [Array.getElem?_setIfInBounds, if_neg (by omega), Array.getElem?_push]
      by_cases hji : j = i
      · subst hji
        rw [if_pos (by rw [h2])]
      · rw [if_neg (by rw [h2]; omega), h5 j (by omega)]
section
variable {p : Program} {l : Launch} {e : Env} {R : Room} {s : State} {m : MethodId} {args : Array Value} {below : List Frame} {meth : Method} {c : Code} {U : State} {locs : List Loc} {cells slots : Nat}
theorem mm_stand (X : Stand p l e R s m args below meth c U locs cells slots) (cO cI : ClassId) (N K : Nat) (v : Value) (i : Nat) : Stand p l e R s m args below meth c (mm_st U cO cI N K v i) (locs ++ mm_locs U.heap.size i) (cells + 1 + i) (slots + N + i * K) := by
  induction i with
  | zero =>
    have Y := X.pushed (mm_out cO N U.heap.size 0)
    have e1 : (mm_out cO N U.heap.size 0).slots.size = N := arrV_size _ _ _
    rw [e1] at Y
    have e2 : locs ++ mm_locs U.heap.size 0 = locs := List.append_nil locs
    have e3 : slots + N + 0 * K = slots + N := by rw [Nat.zero_mul]; rfl
    rw [e2, e3]
    exact Y
  | succ i ih =>
    obtain ⟨-, h2, h3, -, -⟩ := mm_facts U cO cI N K v i
    have Y := ih.pushed (mm_in cI K v)
    have e1 : (mm_in cI K v).slots.size = K := Array.size_replicate
    rw [e1] at Y
    have hc : ((mm_st U cO cI N K v i).pushCell (mm_in cI K v)).heap[U.heap.size]? = some (mm_out cO N U.heap.size i) := by
      show ((mm_st U cO cI N K v i).heap.push (mm_in cI K v))[U.heap.size]? = _
      rw [Array.getElem?_push, if_neg (by rw [h2]; omega), h3]
    have Z := Y.stored hc i (.ref (U.heap.size + 1 + i))
    rw [mm_outS, List.append_assoc] at Z
    have e4 : slots + N + i * K + K = slots + N + (i + 1) * K := by rw [Nat.succ_mul]; omega
    rw [e4] at Z
    exact Z
end
section
variable {E : CtlPost} {e : Env} {d : Bool} {acts : List Action} {U : State} {f : JFrame} {cO cI cE : ClassId} {kO kI : Class} {ty : FieldType} {n k : Int32} {N K index : Nat}
theorem mm_cold {ci : Nat} {vm' : Vm} {Q : Unit → Pre} (hs : U.topJava?.isSome) (hg : (Jvm.resolveClass f.method.cls index).Gives e.toSetting U.vm (.ok ci) vm') (hr : vm'.classReady f.method.cls index ci) (hsz : vm'.classes.size ≤ U.vm.classes.size) :
    wp (multianewarray.sem index 2) Q E e d acts (U.setTop f) ↔ wp (multianewarray.sem index 2) Q E e d acts ((U.setVm vm').setTop f) := by
  simp only [multianewarray.sem, wp_bind']
  exact Jvm.W.resolveClassAt_transfer (s := U.setTop f) (State.method?_setTop f hs) hg hr hsz
theorem mm_row {Q : Addr → Pre} (hk : U.vm.classes[cI]? = some kI) (hkind : kI.kind = .array cE ty) (h0 : ¬ k < 0) (hK : k.toNatClampNeg = K) (hlimit : ¬ K > e.platform.arrayLengthLimit) (hheap : ¬ K * componentBytes ty > e.platform.maxHeapBytes) (hcells : U.heap.size < e.platform.maxCells) (hslots : U.slotsUsed + K ≤ e.platform.maxSlots) (hfit : fits ty (defaultValue ty) = true) (hq : ∀ acts', Q U.heap.size d acts' (U.pushCell (mm_in cI K (defaultValue ty)))) : wp (multianewarray.make cI [k]) Q E e d acts U := by
  subst hK
  rw [multianewarray.make]
  simp only [wp_bind', Jvm.W.ite, h0, if_false, wp_pure', Jvm.W.theClass, hk, Option.some.injEq, exists_eq_left', hkind]
  exact Jvm.W.newArray_of hk hkind hlimit hheap hcells hslots hfit hq
theorem mm_make {Q : Addr → Pre} (hkO : U.vm.classes[cO]? = some kO) (hkindO : kO.kind = .array cI (.array ty)) (hkI : U.vm.classes[cI]? = some kI) (hkindI : kI.kind = .array cE ty) (hn : ¬ n < 0) (hk : ¬ k < 0) (hN : n.toNatClampNeg = N) (hK : k.toNatClampNeg = K) (hl1 : ¬ N > e.platform.arrayLengthLimit) (hl2 : ¬ K > e.platform.arrayLengthLimit) (hh1 : ¬ N * componentBytes (.array ty) > e.platform.maxHeapBytes) (hh2 : ¬ K * componentBytes ty > e.platform.maxHeapBytes) (hc : U.heap.size < e.platform.maxCells) (hsl : U.slotsUsed + N ≤ e.platform.maxSlots) (hfit : fits ty (defaultValue ty) = true)
    (hroom : ∀ i, i < N → (mm_st U cO cI N K (defaultValue ty) i).heap.size < e.platform.maxCells ∧ (mm_st U cO cI N K (defaultValue ty) i).slotsUsed + K ≤ e.platform.maxSlots)
    (hq : ∀ d' acts', Q U.heap.size d' acts' ((mm_st U cO cI N K (defaultValue ty) N).setTop f)) : wp (multianewarray.make cO [n, k]) Q E e d acts (U.setTop f) := by
  subst hN
  have hfind : List.find? (fun x => decide (x < 0)) [k] = none := by simp [hk]
  rw [multianewarray.make]
  simp only [wp_bind', Jvm.W.ite, hn, if_false, wp_pure', Jvm.W.theClass, State.vm_setTop, hkO, Option.some.injEq, exists_eq_left', hkindO]
  refine Jvm.W.newArray_of (s := U.setTop f) hkO hkindO hl1 hh1 hc hsl rfl fun acts' => ?_
  simp only [hfind, wp_pure', wp_bind', ite_self]
  sorry
theorem mm_sem {Q : Unit → Pre} {rest : List Value} (hs : U.topJava?.isSome) (hready : U.vm.classReady f.method.cls index cO) (hst : f.stack = .int k :: .int n :: rest) (hkO : U.vm.classes[cO]? = some kO) (hkindO : kO.kind = .array cI (.array ty)) (hkI : U.vm.classes[cI]? = some kI) (hkindI : kI.kind = .array cE ty) (hn : ¬ n < 0) (hk : ¬ k < 0) (hN : n.toNatClampNeg = N) (hK : k.toNatClampNeg = K) (hl1 : ¬ N > e.platform.arrayLengthLimit) (hl2 : ¬ K > e.platform.arrayLengthLimit) (hh1 : ¬ N * componentBytes (.array ty) > e.platform.maxHeapBytes) (hh2 : ¬ K * componentBytes ty > e.platform.maxHeapBytes) (hc : U.heap.size < e.platform.maxCells) (hsl : U.slotsUsed + N ≤ e.platform.maxSlots) (hfit : fits ty (defaultValue ty) = true)
    (hroom : ∀ i, i < N → (mm_st U cO cI N K (defaultValue ty) i).heap.size < e.platform.maxCells ∧ (mm_st U cO cI N K (defaultValue ty) i).slotsUsed + K ≤ e.platform.maxSlots) (hsN : (mm_st U cO cI N K (defaultValue ty) N).topJava?.isSome)
    (hq : ∀ d' acts', Q () d' acts' ((mm_st U cO cI N K (defaultValue ty) N).setTop { f with stack := .ref U.heap.size :: rest })) : wp (multianewarray.sem index 2) Q E e d acts (U.setTop f) := by
  simp only [multianewarray.sem, wp_bind', Jvm.W.resolveClassAt_ready (State.method?_setTop f hs) hready]
  refine (popN_top (args := [.int n, .int k]) (rest := rest) hs hst).mpr ?_
  simp only [List.mapM_cons, List.mapM_nil, wp_bind', wp_pure']
  refine mm_make (f := { f with stack := rest }) hkO hkindO hkI hkindI hn hk hN hK hl1 hl2 hh1 hh2 hc hsl hfit hroom fun d' acts' => ?_
  simp only [Jvm.W.mark, Jvm.W.pushRef]
  refine ⟨_, State.topJava?_setTop' _ hsN, ?_⟩
  rw [State.setTop_setTop]
  exact hq _ _
end
