/-! my own: multianewarray of two dimensions, over the model itself -/
def mm_out (cO : ClassId) (N h0 i : Nat) : Cell := arrV cO N (fun j => va_rf (if j < i then some (h0 + 1 + j) else none))
def mm_in (cI : ClassId) (K : Nat) (v : Value) : Cell := { cls := cI, slots := Array.replicate K v, vm := .none }
/-- the state behind i rows -/
def mm_st (U : State) (cO cI : ClassId) (N K : Nat) (v : Value) : Nat → State
  | 0 => U.pushCell (mm_out cO N U.heap.size 0)
  | i + 1 => ((mm_st U cO cI N K v i).pushCell (mm_in cI K v)).setCell U.heap.size (mm_out cO N U.heap.size (i + 1))
def mm_locs (h0 : Nat) : Nat → List Loc
  | 0 => []
  | i + 1 => mm_locs h0 i ++ [⟨h0, i⟩]
theorem mm_locs_at (h0 : Nat) : ∀ (i : Nat) (x : Loc), x ∈ mm_locs h0 i → x.base = h0
  | 0, x, h => absurd h (List.not_mem_nil)
  | i + 1, x, h => by
    rcases List.mem_append.mp h with h | h
    · exact mm_locs_at h0 i x h
    · rw [List.mem_singleton.mp h]
theorem mm_out0 (cO : ClassId) (N h0 : Nat) : ({ cls := cO, slots := Array.replicate N .null, vm := .none } : Cell) = mm_out cO N h0 0 := by
  rw [arrV_new]
  unfold mm_out
  refine congrArg (arrV cO N) (funext fun j => ?_)
  simp [va_rf]
theorem mm_outS (cO : ClassId) (N h0 i : Nat) : (mm_out cO N h0 i).setSlot i (.ref (h0 + 1 + i)) = mm_out cO N h0 (i + 1) := by
  unfold mm_out
  rw [arrV_store]
  refine congrArg (arrV cO N) (funext fun j => ?_)
  by_cases e : j = i
  · subst e
    simp [updV, va_rf]
  · by_cases h : j < i
    · simp [updV, e, h, Nat.lt_succ_of_lt h]
    · simp [updV, e, h, show ¬ j < i + 1 by omega]
theorem mm_facts (U : State) (cO cI : ClassId) (N K : Nat) (v : Value) (i : Nat) : (mm_st U cO cI N K v i).vm = U.vm ∧ (mm_st U cO cI N K v i).heap.size = U.heap.size + 1 + i ∧ (mm_st U cO cI N K v i).heap[U.heap.size]? = some (mm_out cO N U.heap.size i) ∧ (∀ q, q < U.heap.size → (mm_st U cO cI N K v i).heap[q]? = U.heap[q]?) ∧ (∀ j, j < i → (mm_st U cO cI N K v i).heap[U.heap.size + 1 + j]? = some (mm_in cI K v)) := by
  induction i with
  | zero =>
    have hh : (mm_st U cO cI N K v 0).heap = U.heap.push (mm_out cO N U.heap.size 0) := rfl
    rw [hh]
    refine ⟨rfl, by rw [Array.size_push], by rw [Array.getElem?_push_size], fun q hq => ?_, fun j hj => absurd hj (Nat.not_lt_zero j)⟩
    rw [Array.getElem?_push, if_neg (Nat.ne_of_lt hq)]
  | succ i ih =>
    obtain ⟨h1, h2, h3, h4, h5⟩ := ih
    have hh : (mm_st U cO cI N K v (i + 1)).heap = ((mm_st U cO cI N K v i).heap.push (mm_in cI K v)).setIfInBounds U.heap.size (mm_out cO N U.heap.size (i + 1)) := rfl
    rw [hh]
    refine ⟨h1, ?_, ?_, fun q hq => ?_, fun j hj => ?_⟩
    · rw [Array.size_setIfInBounds, Array.size_push, h2]
      omega
    · rw [Array.getElem?_setIfInBounds, if_pos rfl, if_pos (by rw [Array.size_push, h2]; omega)]
    · rw [Array.getElem?_setIfInBounds, if_neg (by omega), Array.getElem?_push, if_neg (by rw [h2]; omega), h4 q hq]
    · rw [Array.getElem?_setIfInBounds, if_neg (by omega), Array.getElem?_push]
      by_cases hji : j = i
      · subst hji
        rw [if_pos (by rw [h2])]
      · rw [if_neg (by rw [h2]; omega), h5 j (by omega)]
section
variable {p : Program} {l : Launch} {e : Env} {R : Room} {s : State} {m : MethodId} {args : Array Value} {below : List Frame} {meth : Method} {c : Code} {U : State} {locs : List Loc} {cells slots : Nat}
theorem mm_stand (X : Stand p l e R s m args below meth c U locs cells slots) (cO cI : ClassId) (N K : Nat) (v : Value) (i : Nat) : Stand p l e R s m args below meth c (mm_st U cO cI N K v i) (locs ++ mm_locs U.heap.size i) (cells + 1 + i) (slots + N + i * K) := by
  induction i with
  | zero =>
    have Y := X.pushed (mm_out cO N U.heap.size 0)
    have e1 : (mm_out cO N U.heap.size 0).slots.size = N := arrV_size _ _ _
    rw [e1] at Y
    have e2 : locs ++ mm_locs U.heap.size 0 = locs := List.append_nil locs
    have e3 : slots + N + 0 * K = slots + N := by rw [Nat.zero_mul]; rfl
    rw [e2, e3]
    exact Y
  | succ i ih =>
    obtain ⟨-, h2, h3, -, -⟩ := mm_facts U cO cI N K v i
    have Y := ih.pushed (mm_in cI K v)
    have e1 : (mm_in cI K v).slots.size = K := Array.size_replicate
    rw [e1] at Y
    have hc : ((mm_st U cO cI N K v i).pushCell (mm_in cI K v)).heap[U.heap.size]? = some (mm_out cO N U.heap.size i) := by
      show ((mm_st U cO cI N K v i).heap.push (mm_in cI K v))[U.heap.size]? = _
      rw [Array.getElem?_push, if_neg (by rw [h2]; omega), h3]
    have Z := Y.stored hc i (.ref (U.heap.size + 1 + i))
    rw [mm_outS, List.append_assoc] at Z
    have e4 : slots + N + i * K + K = slots + N + (i + 1) * K := by rw [Nat.succ_mul]; omega
    rw [e4] at Z
    exact Z
end
section
variable {E : CtlPost} {e : Env} {d : Bool} {acts : List Action} {U : State} {f : JFrame} {cO cI cE : ClassId} {kO kI : Class} {ty : FieldType} {n k : Int32} {N K index : Nat}
theorem mm_cold {ci : Nat} {vm' : Vm} {Q : Unit → Pre} (hs : U.topJava?.isSome) (hg : (Jvm.resolveClass f.method.cls index).Gives e.toSetting U.vm (.ok ci) vm') (hr : vm'.classReady f.method.cls index ci) (hsz : vm'.classes.size ≤ U.vm.classes.size) :
    wp (multianewarray.sem index 2) Q E e d acts (U.setTop f) ↔ wp (multianewarray.sem index 2) Q E e d acts ((U.setVm vm').setTop f) := by
  simp only [multianewarray.sem, wp_bind']
  exact Jvm.W.resolveClassAt_transfer (s := U.setTop f) (State.method?_setTop f hs) hg hr hsz
theorem mm_row {Q : Addr → Pre} (hk : U.vm.classes[cI]? = some kI) (hkind : kI.kind = .array cE ty) (h0 : ¬ k < 0) (hK : k.toNatClampNeg = K) (hlimit : ¬ K > e.platform.arrayLengthLimit) (hheap : ¬ K * componentBytes ty > e.platform.maxHeapBytes) (hcells : U.heap.size < e.platform.maxCells) (hslots : U.slotsUsed + K ≤ e.platform.maxSlots) (hfit : fits ty (defaultValue ty) = true) (hq : ∀ acts', Q U.heap.size d acts' (U.pushCell (mm_in cI K (defaultValue ty)))) : wp (multianewarray.make cI [k]) Q E e d acts U := by
  subst hK
  rw [multianewarray.make]
  simp only [wp_bind', Jvm.W.ite, h0, if_false, wp_pure', Jvm.W.theClass, hk, Option.some.injEq, exists_eq_left', hkind]
  exact Jvm.W.newArray_of hk hkind hlimit hheap hcells hslots hfit hq
theorem mm_make {Q : Addr → Pre} (hkO : U.vm.classes[cO]? = some kO) (hkindO : kO.kind = .array cI (.array ty)) (hkI : U.vm.classes[cI]? = some kI) (hkindI : kI.kind = .array cE ty) (hn : ¬ n < 0) (hk : ¬ k < 0) (hN : n.toNatClampNeg = N) (hK : k.toNatClampNeg = K) (hl1 : ¬ N > e.platform.arrayLengthLimit) (hl2 : ¬ K > e.platform.arrayLengthLimit) (hh1 : ¬ N * componentBytes (.array ty) > e.platform.maxHeapBytes) (hh2 : ¬ K * componentBytes ty > e.platform.maxHeapBytes) (hc : U.heap.size < e.platform.maxCells) (hsl : U.slotsUsed + N ≤ e.platform.maxSlots) (hfit : fits ty (defaultValue ty) = true)
    (hroom : ∀ i, i < N → (mm_st U cO cI N K (defaultValue ty) i).heap.size < e.platform.maxCells ∧ (mm_st U cO cI N K (defaultValue ty) i).slotsUsed + K ≤ e.platform.maxSlots)
    (hq : ∀ d' acts', Q U.heap.size d' acts' ((mm_st U cO cI N K (defaultValue ty) N).setTop f)) : wp (multianewarray.make cO [n, k]) Q E e d acts (U.setTop f) := by
  have hfind : List.find? (fun x => decide (x < 0)) [k] = none := by simp [hk]
  rw [multianewarray.make]
  simp only [wp_bind', Jvm.W.ite, hn, if_false, wp_pure', Jvm.W.theClass, State.vm_setTop, hkO, Option.some.injEq, exists_eq_left', hkindO]
  rw [hN]
  refine Jvm.W.newArray_of (s := U.setTop f) hkO hkindO hl1 hh1 hc hsl rfl fun acts' => ?_
  simp only [hfind, wp_pure', wp_bind', ite_self]
  rw [Std.Legacy.Range.forIn_eq_forIn_range']
  refine wp_forIn_inv (fun rest s' => ∃ i, i ≤ N ∧ rest = List.range' i (N - i) 1 ∧ s' = (mm_st U cO cI N K (defaultValue ty) i).setTop f) _ _ ?_ ?_ ?_
  · refine ⟨0, Nat.zero_le N, by simp [Std.Legacy.Range.size], ?_⟩
    rw [State.pushCell_setTop]
    refine congrArg (fun z : Cell => (U.pushCell z).setTop f) ?_
    exact mm_out0 cO N U.heap.size
  · intro x rest s' d' acts' Q' hi hQ'
    obtain ⟨i, hi, hr, hs'⟩ := hi
    have hlt : i < N := by
      rcases Nat.lt_or_ge i N with h | h
      · exact h
      · rw [Nat.sub_eq_zero_of_le h] at hr
        cases hr
    rw [show N - i = (N - (i + 1)) + 1 by omega, List.range'_succ] at hr
    obtain ⟨e1, e2⟩ := List.cons.inj hr
    obtain ⟨g1, g2, g3, -, -⟩ := mm_facts U cO cI N K (defaultValue ty) i
    obtain ⟨r1, r2⟩ := hroom i hlt
    rw [hs', e1]
    simp only [wp_bind']
    refine mm_row (U := (mm_st U cO cI N K (defaultValue ty) i).setTop f) (by rw [State.vm_setTop, g1]; exact hkI) hkindI hk hK hl2 hh2 r1 r2 hfit fun acts2 => ?_
    refine ⟨mm_out cO N U.heap.size i, ?_, (fun h => by cases h), ?_, ?_, ?_⟩
    · show ((mm_st U cO cI N K (defaultValue ty) i).heap.push (mm_in cI K (defaultValue ty)))[U.heap.size]? = _
      rw [Array.getElem?_push, if_neg (by rw [g2]; omega), g3]
    · show i < (arrV _ _ _).slots.size
      rw [arrV_size]
      exact hlt
    · have hkO' : (mm_st U cO cI N K (defaultValue ty) i).vm.classes[cO]? = some kO := by rw [g1]; exact hkO
      show State.fitsSlot (mm_st U cO cI N K (defaultValue ty) i) cO .none i _ = true
      simp [State.fitsSlot, State.slotType?, hkO', hkindO, fits]
    · refine hQ' _ _ _ ⟨i + 1, hlt, e2, ?_⟩
      show ((((mm_st U cO cI N K (defaultValue ty) i).pushCell (mm_in cI K (defaultValue ty))).setCell U.heap.size ((mm_out cO N U.heap.size i).setSlot i (.ref (mm_st U cO cI N K (defaultValue ty) i).heap.size)))).setTop f = _
      rw [g2, mm_outS]
      rfl
  · intro s' d' acts' hi
    obtain ⟨i, hi, hr, hs'⟩ := hi
    have hz : N - i = 0 := by
      cases hz : N - i with
      | zero => rfl
      | succ q =>
        rw [hz, List.range'_succ] at hr
        cases hr
    have hiN : i = N := by omega
    rw [hs', hiN]
    exact hq _ _
theorem mm_sem {Q : Unit → Pre} {rest : List Value} (hs : U.topJava?.isSome) (hready : U.vm.classReady f.method.cls index cO) (hst : f.stack = .int k :: .int n :: rest) (hkO : U.vm.classes[cO]? = some kO) (hkindO : kO.kind = .array cI (.array ty)) (hkI : U.vm.classes[cI]? = some kI) (hkindI : kI.kind = .array cE ty) (hn : ¬ n < 0) (hk : ¬ k < 0) (hN : n.toNatClampNeg = N) (hK : k.toNatClampNeg = K) (hl1 : ¬ N > e.platform.arrayLengthLimit) (hl2 : ¬ K > e.platform.arrayLengthLimit) (hh1 : ¬ N * componentBytes (.array ty) > e.platform.maxHeapBytes) (hh2 : ¬ K * componentBytes ty > e.platform.maxHeapBytes) (hc : U.heap.size < e.platform.maxCells) (hsl : U.slotsUsed + N ≤ e.platform.maxSlots) (hfit : fits ty (defaultValue ty) = true)
    (hroom : ∀ i, i < N → (mm_st U cO cI N K (defaultValue ty) i).heap.size < e.platform.maxCells ∧ (mm_st U cO cI N K (defaultValue ty) i).slotsUsed + K ≤ e.platform.maxSlots) (hsN : (mm_st U cO cI N K (defaultValue ty) N).topJava?.isSome)
    (hq : ∀ d' acts', Q () d' acts' ((mm_st U cO cI N K (defaultValue ty) N).setTop { f with stack := .ref U.heap.size :: rest })) : wp (multianewarray.sem index 2) Q E e d acts (U.setTop f) := by
  simp only [multianewarray.sem, wp_bind', Jvm.W.resolveClassAt_ready (State.method?_setTop f hs) hready]
  refine (popN_top (args := [.int n, .int k]) (rest := rest) hs hst).mpr ?_
  simp only [List.mapM_cons, List.mapM_nil, wp_bind', wp_pure']
  refine mm_make (f := { f with stack := rest }) hkO hkindO hkI hkindI hn hk hN hK hl1 hl2 hh1 hh2 hc hsl hfit hroom fun d' acts' => ?_
  refine ⟨_, State.topJava?_setTop' _ hsN, ?_⟩
  rw [State.setTop_setTop]
  exact hq _ _
end
/-- an array of arrays that was made before -/
theorem mm_over {args : Array Value} {first s : State} {o : Option Outcome} {idx : List Nat} {t : FieldType} (h : (Cond.arrayOver (.array t)).holds args first o s idx = true) : ∃ (cI cO : ClassId) (kO : Class), s.vm.findClass (FieldType.array t).toString = some cI ∧ s.vm.classes[cO]? = some kO ∧ kO.kind = .array cI (.array t) ∧ s.vm.findClass ("[" ++ (FieldType.array t).toString) = some cO := by
  simp only [Cond.holds, Cond.value, beq_iff_eq] at h
  obtain ⟨cI, h1, h⟩ := Option.bind_eq_some_iff.mp h
  obtain ⟨cO, h2, h⟩ := Option.bind_eq_some_iff.mp h
  obtain ⟨kO, h3, h⟩ := Option.map_eq_some_iff.mp h
  have hp := (Array.findIdx?_eq_some_iff_getElem.mp h2)
  obtain ⟨hlt, hp, -⟩ := hp
  rw [(Array.getElem?_eq_some_iff.mp h3).2] at hp
  cases hq : kO.kind with
  | array ci ty =>
    rw [hq] at h hp
    have e1 : ci = cI := eq_of_beq hp
    have e2 := (Bool.and_eq_true _ _).mp h
    have e3 : ty = .array t := of_decide_eq_true e2.1
    exact ⟨cI, cO, kO, h1, h3, by rw [hq, e1, e3], of_decide_eq_true e2.2⟩
  | _ =>
    rw [hq] at h
    cases h
section
variable {p : Program} {l : Launch} {e : Env} {R : Room} {s : State} {m : MethodId} {args : Array Value} {below : List Frame} {meth : Method} {c : Code} {H : Heap} {locs : List Loc} {cells slots : Nat} {Q : State → Prop}
theorem mm_W {cc : ByteArray} {own : String} {index N K h : Nat} {ty : FieldType} {g : JFrame} {rest : List Value} (hexec : p.tables.exec = Jvm.exec) (hb : c.code = cc) (hown : s.vm.findClass own = some m.cls) (hclink : (Cond.classLink own index ("[" ++ (FieldType.array ty).toString)).before args s = true) (hover : (Cond.arrayOver (.array ty)).before args s = true) (harr : (Cond.arrayClass ty).before args s = true) (hg : g.method = m) (hdg : decode cc g.pc = .ok (.multianewarray index 2, 4)) (hst : g.stack = .int (nI K) :: .int (nI N) :: rest) (hN : N ≤ 4000) (hK : K ≤ 4000) (hcb : componentBytes ty ≤ 8) (hfit : fits ty (defaultValue ty) = true) (hcells : cells + (1 + N) ≤ R.cells) (hslots : slots + (N + N * K) ≤ R.slots) (hh : H.size = h)
    (kk : ∀ (H1 : Heap) (cO cI : ClassId), s.vm.findClass ("[" ++ (FieldType.array ty).toString) = some cO → s.vm.findClass (FieldType.array ty).toString = some cI → H1.size = h + 1 + N → H1[h]? = some (mm_out cO N h N) → (∀ j, j < N → H1[h + 1 + j]? = some (mm_in cI K (defaultValue ty))) → (∀ q, q < h → H1[q]? = H[q]?) → W p l e R s m args below meth c H1 (locs ++ mm_locs h N) (cells + 1 + N) (slots + N + N * K) Q { g with pc := g.pc + 4, stack := .ref h :: rest }) : W p l e R s m args below meth c H locs cells slots Q g := by
  intro T hT X
  subst hg
  subst hb
  subst hh
  subst hT
  have hpl : e.platform.magicAccessors = ({} : Platform).magicAccessors := by rw [X.admits.platform]
  obtain ⟨cI, cO, kO, o1, o2, o3, o4⟩ := mm_over hover
  obtain ⟨cI', kI, cE, a1, a2, a3⟩ := Cond.arrayClass_spec harr
  have hcI : cI' = cI := Option.some.inj (a1.symm.trans o1)
  subst hcI
  obtain ⟨cO', f1, f2⟩ := Cond.classLink_spec hown hclink e.platform hpl
  have hcO : cO' = cO := Option.some.inj (f1.symm.trans o4)
  subst hcO
  obtain ⟨w1, w2, w3⟩ := State.classEntry (e := e) X.warmed f2
  have hsz : (T.vm.noted g.method.cls index (.cls cO')).classes.size ≤ T.vm.classes.size := Nat.le_of_eq (Vm.size_noted _ _ _ _)
  generalize T.vm.noted g.method.cls index (.cls cO') = vm1 at w1 w2 w3 hsz
  obtain ⟨kO1, b1, b2⟩ := w2.alike.2.2 _ _ o2
  obtain ⟨kI1, b3, b4⟩ := w2.alike.2.2 _ _ a2
  have b5 : kO1.kind = .array cI' (.array ty) := by rw [b2]; exact o3
  have b6 : kI1.kind = .array cE ty := by rw [b4]; exact a3
  have X1 := X.noted w2
  have hmul : K * componentBytes ty ≤ 4000 * 8 := Nat.mul_le_mul hK hcb
  have XN := mm_stand X1 cO' cI' N K (defaultValue ty) N
  obtain ⟨-, z2, z3, z4, z5⟩ := mm_facts (T.setVm vm1) cO' cI' N K (defaultValue ty) N
  have hr0 := X1.roomAbove (a := 1) (b := N) (by omega) (by omega)
  obtain ⟨t, s1, s2⟩ := kk _ cO' cI' o4 a1 z2 z3 z5 z4 _ rfl XN
  refine ⟨t, ?_, s2⟩
  refine Steps.instr (c := c) (f := g) X.here ?_
  rw [hdg, hexec]
  show wp (multianewarray.sem index 2) _ _ e false [] (T.setTop g)
  rw [mm_cold X.here.top w1 w3 hsz]
  refine mm_sem (U := T.setVm vm1) (f := g) (N := N) (K := K) (n := nI N) (k := nI K) X1.here.top w3 hst b1 b5 b3 b6 (nI_pos (by omega)) (nI_pos (by omega)) (nI_clamp (by omega)) (nI_clamp (by omega)) (by rw [Launch.admits_arrayLengthLimit X.admits]; omega) (by rw [Launch.admits_arrayLengthLimit X.admits]; omega) (by rw [Launch.admits_maxHeapBytes X.admits]; show ¬ N * 4 > _; omega) (by rw [Launch.admits_maxHeapBytes X.admits]; omega) (Nat.lt_of_lt_of_le (Nat.lt_succ_self _) hr0.1) hr0.2 hfit (fun i hi => ?_) XN.here.top (fun d' acts' => ?_)
  · have hm : (i + 1) * K ≤ N * K := Nat.mul_le_mul_right K hi
    rw [Nat.succ_mul] at hm
    have hr := (mm_stand X1 cO' cI' N K (defaultValue ty) i).roomAbove (a := 1) (b := K) (by omega) (by omega)
    exact ⟨Nat.lt_of_lt_of_le (Nat.lt_succ_self _) hr.1, hr.2⟩
  · intro acts
    rw [afterInstr_ok]
    exact s1
end
