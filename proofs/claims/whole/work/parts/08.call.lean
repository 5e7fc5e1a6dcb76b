/-! my own: contracts over the abstract machine, and the rows of calls -/
def MA (l : Launch) (y : MethodName) (M : Mt) (E : Ev) (pm : Bool) (C : Cn) (n : Nat) (as : List Vl) (Q : Int → Cn → Nat → Prop) : Prop :=
  Met l y (Cond.code y M.2.1 M.2.2.1 M.2.2.2.1 :: lw_g) M.2.2.2.2.2.2 (PcA E pm C n as) (QcA E pm M.2.2.2.2.2.1 Q) M.2.2.2.2.2.2.cells M.2.2.2.2.2.2.slots (eA E)
def pu (rt : Nat) (r : Int) (st : List Vl) : List Vl := if rt = 8 then st else (rt, r) :: st
theorem pu_map (E : Ev) (rt : Nat) (r : Int) (st : List Vl) : (pu rt r st).map (cv E) = (rv E rt r).toList ++ st.map (cv E) := by
  unfold pu rv
  by_cases h : rt = 8
  · rw [if_pos h, if_pos h]; rfl
  · rw [if_neg h, if_neg h]; rfl
theorem pu_ok {rt : Nat} {r : Int} {st : List Vl} (h : okV (rt, r)) (hs : ∀ v ∈ st, okV v) : ∀ v ∈ pu rt r st, okV v := by
  unfold pu
  by_cases h8 : rt = 8
  · rw [if_pos h8]; exact hs
  · rw [if_neg h8]; exact ok_c h hs
theorem blindA (E : Ev) (pm : Bool) (C : Cn) (n : Nat) (as : List Vl) : FrameBlind (PcA E pm C n as) := by
  intro a U g mk h
  obtain ⟨h0, h1, h2, ⟨h3, h4, h5, h6, h7⟩, h8⟩ := h
  refine ⟨h0, h1, h2, ⟨va_K.moved (u := U) (U := U.calling g mk a) (Vm.Alike.refl U.vm) h3, XO.moved (u := U) (U := U.calling g mk a) (Vm.Alike.refl U.vm) h4, fun q hq => vk_R.same (u := U) rfl (h5 q hq), ?_, h7⟩, h8⟩
  exact ⟨fun w hw hn => va_Nw.same (u := U) (by cases w <;> first | rfl | cases hn) rfl (h6.1 w hw hn), h6.2.1.moved (u := U) (U := U.calling g mk a) (Vm.Alike.refl U.vm), h6.2.2.1.moved (u := U) (U := U.calling g mk a) (Vm.Alike.refl U.vm), h6.2.2.2.1.moved (u := U) (U := U.calling g mk a) (Vm.Alike.refl U.vm), over_moved (u := U) (E := U.calling g mk a) (Vm.Alike.refl U.vm) h6.2.2.2.2.1, over_moved (u := U) (E := U.calling g mk a) (Vm.Alike.refl U.vm) h6.2.2.2.2.2⟩
theorem EOK.at {E : Ev} {s U : State} {H : Heap} {locs : List Loc} (h : EOK E s) (hS : va_S (eA E) s.heap H locs) (hU : U.heap = H) (hW : s.WarmedH U.vm) : EOK E U := by
  obtain ⟨h3, h4, h5, h6, h7⟩ := h
  refine ⟨va_K.moved hW.alike h3, ?_, fun q hq => vk_R.warm hW (h5 q hq), XN.warm hW h6, ?_⟩
  · rw [hU]
    exact XO.moved hW.alike (h4.kept hS.2.1)
  · rw [hU]
    exact Nat.lt_of_lt_of_le h7 hS.1
def cat2 (st : List Vl) : Nat := (st.map fun v => if v.1 = 1 then 2 else 1).sum
theorem cat2_le (E : Ev) (st : List Vl) : ((st.map (cv E)).map fun v => v.category).sum ≤ cat2 st := by
  induction st with
  | nil => exact Nat.le_refl 0
  | cons v st ih =>
    show (cv E v).category + ((st.map (cv E)).map fun v => v.category).sum ≤ (if v.1 = 1 then 2 else 1) + cat2 st
    have h1 : (cv E v).category ≤ if v.1 = 1 then 2 else 1 := by
      by_cases h : v.1 = 1
      · rw [if_pos h]
        rcases lv_cat (cv E v) with h | h <;> omega
      · rw [if_neg h, cv_cat1 E v h]
        exact Nat.le_refl 1
    omega
/-- what the tables say of a call: the link, the method, its code -/
def CB (own : String) (i : Nat) (y : MethodName) (M2 : Mt) (k : Nat) : Prop :=
  Cond.methodLink own i y ∈ lw_g ∧ Cond.initialized y.cls ∈ lw_g ∧ Cond.code y M2.2.1 M2.2.2.1 M2.2.2.2.1 ∈ lw_g ∧ y.cls ≠ "java/lang/invoke/MethodHandle" ∧ y.cls ≠ "java/lang/invoke/VarHandle" ∧ (parseMethodDescriptor y.desc).map (fun d => d.parameters.length) = some k
def CNB (own : String) (i : Nat) (y : MethodName) (M2 : Mt) (k : Nat) (host : String) : Prop :=
  Cond.methodLinkNest own i y host ∈ lw_tbl ∧ Cond.initialized y.cls ∈ lw_g ∧ Cond.code y M2.2.1 M2.2.2.1 M2.2.2.2.1 ∈ lw_g ∧ y.cls ≠ "java/lang/invoke/MethodHandle" ∧ y.cls ≠ "java/lang/invoke/VarHandle" ∧ (parseMethodDescriptor y.desc).map (fun d => d.parameters.length) = some k
theorem lw_good {w : Cond} (h : w ∈ lw_g) : (w.onTables && w.keeps) = true ∨ ∃ ty, w = .arrayClass ty := good_of_word (List.mem_filter.mp h).2
theorem goodA {w : Cond} (h : w ∈ lw_g) : GoodIn lw_g (w :: lw_g) := fun z hz => by
  rcases List.mem_cons.mp hz with rfl | h2
  · exact ⟨h, lw_good h⟩
  · exact ⟨h2, lw_good h2⟩
section
variable {p : Program} {l : Launch} {e : Env} {R : Room} {s : State} {m : MethodId} {args : Array Value} {below : List Frame} {meth : Method} {c : Code} {E : Ev} {M : Mt} {pm : Bool} {Q : Int → Cn → Nat → Prop} {n kc ks pc pc2 : Nat} {lv st st2 : List Vl} {C : Cn}
theorem run_go {pm2 : Bool} {rt mc ms : Nat} {Q2 : Int → Cn → Nat → Prop} {a : Array Value} {H : Heap} {locs : List Loc} {ls : Array Slot} {st0 : List Value} {rest : List Vl} {Z : State → Prop} (hr : va_Run p l e R s m args below meth c H locs kc ks mc ms (F0 m pc ls st0) (rest.map (cv E)) (QcA E pm2 rt Q2 a) (eA E)) (hS : va_S (eA E) s.heap H locs)
    (kk : ∀ (r : Int) (C2 : Cn) (n2 : Nat) (H1 : Heap) (locs1 : List Loc), Q2 r C2 n2 → Rep E C2 n2 H1 → HI pm2 C2 n2 → okV (rt, r) → va_S (eA E) s.heap H1 locs1 → W p l e R s m args below meth c H1 locs1 (kc + mc) (ks + ms) Z (F0 m (pc + 3) ls ((pu rt r rest).map (cv E)))) : W p l e R s m args below meth c H locs kc ks Z (F0 m pc ls st0) := by
  intro T hT X
  obtain ⟨v, st₀, t, T', L, h0, X', hL, e1, e2, ⟨r, C2, n2, hv, hq, hR2, hI2, hok, hz, hk⟩, st⟩ := hr T hT X
  have hv : v = rv E rt r := by cases hv; rfl
  rw [h0] at hz hk
  rw [← e1] at hR2 hz hk
  obtain ⟨t2, a1, b1⟩ := kk r C2 n2 T'.heap (locs ++ L) hq hR2 hI2 hok ⟨Nat.le_trans hS.1 hz, fun q h1 h2 => by rw [hk q (Nat.lt_of_lt_of_le h1 hS.1) h2]; exact hS.2.1 q h1 h2, fun q hq => by
      rcases List.mem_append.mp hq with h | h
      · exact hS.2.2 q h
      · exact hL q h⟩ T' rfl X'
  refine ⟨t2, st t2 ?_, b1⟩
  rw [pu_map, ← hv] at a1
  exact a1
theorem HI.mode {pm pm2 : Bool} (h : HI pm C n) (hu : pm2 = true → pm = false → ptC C n) : HI pm2 C n := by
  refine ⟨h.1, h.2.1, fun h2 => ?_⟩
  cases pm with
  | true => exact h.2.2 rfl
  | false => exact hu h2 rfl
theorem HI.mode2 {pm pm2 : Bool} (h : HI pm2 C n) (hu : pm = true → pm2 = true) : HI pm C n := ⟨h.1, h.2.1, fun h2 => h.2.2 (hu h2)⟩
theorem callB_A {y : MethodName} {M2 : Mt} {i k : Nat} (hc : Cx p R s m args meth c E M) (hb : CB M.1 i y M2 k) (hrm : M2.2.2.2.2.2.2.frames + 1 ≤ M.2.2.2.2.2.2.frames ∧ 8 + (M2.2.2.1 + 11) + M2.2.2.2.2.2.2.locals ≤ M.2.2.2.2.2.2.locals) :
    CallB R s args M.1 i y M2.2.1 M2.2.2.1 M2.2.2.2.1 (Cond.code y M2.2.1 M2.2.2.1 M2.2.2.2.1 :: lw_g) M2.2.2.2.2.2.2 M2.2.2.2.2.2.2.cells M2.2.2.2.2.2.2.slots k :=
  callB_of k hc.1.2.2.2.2 (goodA hb.2.2.1) rfl rfl rfl (hc.1.2.2.2.2 _ hb.2.1) (hc.1.2.2.2.2 _ hb.1) hb.2.2.2 (by rw [hc.2.2.2.2.2]; exact hrm)
theorem AW.callS {y : MethodName} {M2 : Mt} {pm2 : Bool} {Q2 : Int → Cn → Nat → Prop} {As rest : List Vl} {i k : Nat} (hM : MA l y M2 E pm2 C n As Q2) (hb : CB M.1 i y M2 k) (hst : Cond.static y ∈ lw_g) (d : decode M.2.1 pc = .ok (.invokestatic i, 3)) (hstk : st = As.reverse ++ rest) (hk : As.length = k)
    (hrm : M2.2.2.2.2.2.2.frames + 1 ≤ M.2.2.2.2.2.2.frames ∧ 8 + (M2.2.2.1 + 11) + M2.2.2.2.2.2.2.locals ≤ M.2.2.2.2.2.2.locals) (hcs : kc + M2.2.2.2.2.2.2.cells ≤ M.2.2.2.2.2.2.cells ∧ ks + M2.2.2.2.2.2.2.slots ≤ M.2.2.2.2.2.2.slots) (hcat : cat2 rest ≤ 8) (hu : pm2 = true → pm = false → ptC C n) (hu2 : pm = true → pm2 = true)
    (kk : ∀ (r : Int) (C2 : Cn) (n2 : Nat), Q2 r C2 n2 → AW p l e R s m args below meth c E M pm Q n2 (kc + M2.2.2.2.2.2.2.cells) (ks + M2.2.2.2.2.2.2.slots) (pc + 3) lv (pu M2.2.2.2.2.2.1 r rest) C2) : AW p l e R s m args below meth c E M pm Q n kc ks pc lv st C := by
  intro hc H locs ls hR hI hS hl ol os
  subst hstk
  have oA : ∀ v ∈ As, okV v := fun v hv => os v (List.mem_append_left _ (List.mem_reverse.mpr hv))
  have oR : ∀ v ∈ rest, okV v := fun v hv => os v (List.mem_append_right _ hv)
  refine run_go (rest := rest) (va_runS (As := As.map (cv E)) (rest := rest.map (cv E)) hc.1 hM ⟨callB_A hc hb hrm, hc.1.2.2.2.2 _ hst⟩ ⟨blindA E pm2 C n As, fun U hU hW => ⟨rfl, by rw [hU]; exact hR, hI.mode hu, hc.2.2.2.2.1.at hS hU hW, oA⟩⟩ rfl (by rw [List.length_map]; exact hk) hl.1 (by show _ = _; simp) ?_ d (by rw [hc.2.2.2.2.2]; exact hcs)) hS (fun r C2 n2 H1 locs1 hq hR2 hI2 hok hS1 => kk r C2 n2 hq hc H1 locs1 ls hR2 (hI2.mode2 hu2) hS1 hl ol (pu_ok hok oR))
  have := cat2_le E rest
  show 2 * 0 + _ ≤ 8
  omega
theorem AW.callV {y : MethodName} {M2 : Mt} {pm2 : Bool} {Q2 : Int → Cn → Nat → Prop} {As rest : List Vl} {x : Int} {i k ci : Nat} (hM : MA l y M2 E pm2 C n ((2, x) :: As) Q2) (hb : CB M.1 i y M2 k) (hin : Cond.instanceMethod y ∈ lw_g) (hse : Cond.selects y.cls y y ∈ lw_g) (hcl : ∃ T N, CLS[ci]? = some (y.cls, T, N)) (hci : ci < 11) (d : decode M.2.1 pc = .ok (.invokevirtual i, 3)) (ho : okO n x ci) (hstk : st = As.reverse ++ (2, x) :: rest) (hk : As.length = k)
    (hrm : M2.2.2.2.2.2.2.frames + 1 ≤ M.2.2.2.2.2.2.frames ∧ 8 + (M2.2.2.1 + 11) + M2.2.2.2.2.2.2.locals ≤ M.2.2.2.2.2.2.locals) (hcs : kc + M2.2.2.2.2.2.2.cells ≤ M.2.2.2.2.2.2.cells ∧ ks + M2.2.2.2.2.2.2.slots ≤ M.2.2.2.2.2.2.slots) (hcat : cat2 rest ≤ 8) (hu : pm2 = true → pm = false → ptC C n) (hu2 : pm = true → pm2 = true)
    (kk : ∀ (r : Int) (C2 : Cn) (n2 : Nat), Q2 r C2 n2 → AW p l e R s m args below meth c E M pm Q n2 (kc + M2.2.2.2.2.2.2.cells) (ks + M2.2.2.2.2.2.2.slots) (pc + 3) lv (pu M2.2.2.2.2.2.1 r rest) C2) : AW p l e R s m args below meth c E M pm Q n kc ks pc lv st C := by
  intro hc H locs ls hR hI hS hl ol os
  subst hstk
  have oA : ∀ v ∈ As, okV v := fun v hv => os v (List.mem_append_left _ (List.mem_reverse.mpr hv))
  have oR : ∀ v ∈ rest, okV v := fun v hv => os v (List.mem_append_right _ (List.mem_cons_of_mem _ hv))
  have hat := hR.get ho
  rw [cellE_o ho.2.2 hci] at hat
  obtain ⟨T, N, hcl⟩ := hcl
  have hrc := va_recv hc.2.2.2.2.1.1 (va_P1 hat) hcl (q0 := 0) rfl
  refine run_go (rest := rest) (va_runV (As := As.map (cv E)) (rest := rest.map (cv E)) (b := eB E + x.toNat) (C := y.cls) hc.1 hM ⟨callB_A hc hb hrm, hc.1.2.2.2.2 _ hin, hc.1.2.2.2.2 _ hse⟩ ⟨blindA E pm2 C n _, hrc, fun U hU hW => ⟨by rw [List.map_cons, cv_obj ho.1], by rw [hU]; exact hR, hI.mode hu, hc.2.2.2.2.1.at hS hU hW, ok_c trivial oA⟩⟩ rfl (by rw [List.length_map]; exact hk) hl.1 (by show _ = _; rw [List.map_append, List.map_cons, cv_obj ho.1]; simp) ?_ d (by rw [hc.2.2.2.2.2]; exact hcs)) hS (fun r C2 n2 H1 locs1 hq hR2 hI2 hok hS1 => kk r C2 n2 hq hc H1 locs1 ls hR2 (hI2.mode2 hu2) hS1 hl ol (pu_ok hok oR))
  have := cat2_le E rest
  show 2 * 0 + _ ≤ 8
  omega
/-- a constructor -/
theorem AW.callI {y : MethodName} {M2 : Mt} {pm2 : Bool} {Q2 : Int → Cn → Nat → Prop} {As rest : List Vl} {x : Int} {i k : Nat} (hM : MA l y M2 E pm2 C n ((2, x) :: As) Q2) (hb : CB M.1 i y M2 k) (hret : M2.2.2.2.1 = none) (hin : Cond.instanceMethod y ∈ lw_g) (hnm : y.name = "<init>") (d : decode M.2.1 pc = .ok (.invokespecial i, 3)) (ho : 0 < x) (hstk : st = As.reverse ++ (2, x) :: rest) (hk : As.length = k)
    (hrm : M2.2.2.2.2.2.2.frames + 1 ≤ M.2.2.2.2.2.2.frames ∧ 8 + (M2.2.2.1 + 11) + M2.2.2.2.2.2.2.locals ≤ M.2.2.2.2.2.2.locals) (hcs : kc + M2.2.2.2.2.2.2.cells ≤ M.2.2.2.2.2.2.cells ∧ ks + M2.2.2.2.2.2.2.slots ≤ M.2.2.2.2.2.2.slots) (hcat : cat2 rest ≤ 8) (hu : pm2 = true → pm = false → ptC C n) (hu2 : pm = true → pm2 = true)
    (kk : ∀ (r : Int) (C2 : Cn) (n2 : Nat), Q2 r C2 n2 → AW p l e R s m args below meth c E M pm Q n2 (kc + M2.2.2.2.2.2.2.cells) (ks + M2.2.2.2.2.2.2.slots) (pc + 3) lv (pu M2.2.2.2.2.2.1 r rest) C2) : AW p l e R s m args below meth c E M pm Q n kc ks pc lv st C := by
  intro hc H locs ls hR hI hS hl ol os
  subst hstk
  have oA : ∀ v ∈ As, okV v := fun v hv => os v (List.mem_append_left _ (List.mem_reverse.mpr hv))
  have oR : ∀ v ∈ rest, okV v := fun v hv => os v (List.mem_append_right _ (List.mem_cons_of_mem _ hv))
  have hcb := callB_A hc hb hrm
  rw [hret] at hcb
  have hM' := hM
  unfold MA at hM'
  rw [hret] at hM'
  refine run_go (rest := rest) (va_runI (As := As.map (cv E)) (rest := rest.map (cv E)) (b := eB E + x.toNat) hc.1 hM' ⟨hcb, hnm, hc.1.2.2.2.2 _ hin⟩ ⟨blindA E pm2 C n _, fun U hU hW => ⟨by rw [List.map_cons, cv_obj ho], by rw [hU]; exact hR, hI.mode hu, hc.2.2.2.2.1.at hS hU hW, ok_c trivial oA⟩⟩ rfl (by rw [List.length_map]; exact hk) hl.1 (by show _ = _; rw [List.map_append, List.map_cons, cv_obj ho]; simp) ?_ d (by rw [hc.2.2.2.2.2]; exact hcs)) hS (fun r C2 n2 H1 locs1 hq hR2 hI2 hok hS1 => kk r C2 n2 hq hc H1 locs1 ls hR2 (hI2.mode2 hu2) hS1 hl ol (pu_ok hok oR))
  have := cat2_le E rest
  show 2 * 0 + _ ≤ 8
  omega
/-- a constructor of a nest mate -/
theorem AW.callIN {y : MethodName} {M2 : Mt} {pm2 : Bool} {Q2 : Int → Cn → Nat → Prop} {As rest : List Vl} {x : Int} {i k : Nat} {host : String} (hM : MA l y M2 E pm2 C n ((2, x) :: As) Q2) (hb : CNB M.1 i y M2 k host) (hret : M2.2.2.2.1 = none) (hin : Cond.instanceMethod y ∈ lw_g) (hnm : y.name = "<init>") (d : decode M.2.1 pc = .ok (.invokespecial i, 3)) (ho : 0 < x) (hstk : st = As.reverse ++ (2, x) :: rest) (hk : As.length = k)
    (hrm : M2.2.2.2.2.2.2.frames + 1 ≤ M.2.2.2.2.2.2.frames ∧ 8 + (M2.2.2.1 + 11) + M2.2.2.2.2.2.2.locals ≤ M.2.2.2.2.2.2.locals) (hcs : kc + M2.2.2.2.2.2.2.cells ≤ M.2.2.2.2.2.2.cells ∧ ks + M2.2.2.2.2.2.2.slots ≤ M.2.2.2.2.2.2.slots) (hcat : cat2 rest ≤ 8) (hu : pm2 = true → pm = false → ptC C n) (hu2 : pm = true → pm2 = true)
    (kk : ∀ (r : Int) (C2 : Cn) (n2 : Nat), Q2 r C2 n2 → AW p l e R s m args below meth c E M pm Q n2 (kc + M2.2.2.2.2.2.2.cells) (ks + M2.2.2.2.2.2.2.slots) (pc + 3) lv (pu M2.2.2.2.2.2.1 r rest) C2) : AW p l e R s m args below meth c E M pm Q n kc ks pc lv st C := by
  intro hc H locs ls hR hI hS hl ol os
  subst hstk
  have oA : ∀ v ∈ As, okV v := fun v hv => os v (List.mem_append_left _ (List.mem_reverse.mpr hv))
  have oR : ∀ v ∈ rest, okV v := fun v hv => os v (List.mem_append_right _ (List.mem_cons_of_mem _ hv))
  have hcn : va_CN R s args M.1 i y host M2.2.1 M2.2.2.1 M2.2.2.2.1 (Cond.code y M2.2.1 M2.2.2.1 M2.2.2.2.1 :: lw_g) M2.2.2.2.2.2.2 M2.2.2.2.2.2.2.cells M2.2.2.2.2.2.2.slots k :=
    va_cnB k hc.1.2.2.2.2 (goodA hb.2.2.1) rfl rfl rfl (hc.2.2.2.2.1.2.2.2.1.1 _ hb.1 rfl) (hc.1.2.2.2.2 _ hb.2.1) hb.2.2.2 (by rw [hc.2.2.2.2.2]; exact hrm)
  rw [hret] at hcn
  have hM' := hM
  unfold MA at hM'
  rw [hret] at hM'
  refine run_go (rest := rest) (va_runIN (As := As.map (cv E)) (rest := rest.map (cv E)) (b := eB E + x.toNat) hc.1 hM' ⟨hcn, hnm, hc.1.2.2.2.2 _ hin⟩ ⟨blindA E pm2 C n _, fun U hU hW => ⟨by rw [List.map_cons, cv_obj ho], by rw [hU]; exact hR, hI.mode hu, hc.2.2.2.2.1.at hS hU hW, ok_c trivial oA⟩⟩ rfl (by rw [List.length_map]; exact hk) hl.1 (by show _ = _; rw [List.map_append, List.map_cons, cv_obj ho]; simp) ?_ d (by rw [hc.2.2.2.2.2]; exact hcs)) hS (fun r C2 n2 H1 locs1 hq hR2 hI2 hok hS1 => kk r C2 n2 hq hc H1 locs1 ls hR2 (hI2.mode2 hu2) hS1 hl ol (pu_ok hok oR))
  have := cat2_le E rest
  show 2 * 0 + _ ≤ 8
  omega
end
/-- the locals at a method's entry -/
def lvX : List Vl → List Vl
  | [] => []
  | v :: vs => if v.1 = 1 then v :: (9, 0) :: lvX vs else v :: lvX vs
theorem lvX_args (E : Ev) : ∀ (as : List Vl) (o i : Nat) (v : Vl), (lvX as)[i]? = some v → v.1 < 9 → (o + i, cv E v) ∈ lv_args o (as.map (cv E))
  | [], _, i, v, h, _ => by simp [lvX] at h
  | a :: as, o, i, v, h, h9 => by
    rw [List.map_cons]
    unfold lv_args
    by_cases ha : a.1 = 1
    · have hcat : (cv E a).category = 2 := by
        obtain ⟨t, x⟩ := a
        have : t = 1 := ha
        subst this
        rfl
      rw [if_pos hcat]
      rw [lvX, if_pos ha] at h
      match i, h with
      | 0, h => simp at h; subst h; exact List.mem_cons_self
      | 1, h => simp at h; subst h; exact absurd h9 (by decide)
      | i + 2, h =>
        have := lvX_args E as (o + 2) i v (by simpa using h) h9
        rw [show o + (i + 2) = o + 2 + i by omega]
        exact List.mem_cons_of_mem _ this
    · rw [if_neg (by rw [cv_cat1 E a ha]; decide)]
      rw [lvX, if_neg ha] at h
      match i, h with
      | 0, h => simp at h; subst h; exact List.mem_cons_self
      | i + 1, h =>
        have := lvX_args E as (o + 1) i v (by simpa using h) h9
        rw [show o + (i + 1) = o + 1 + i by omega]
        exact List.mem_cons_of_mem _ this
theorem lvX_len (E : Ev) : ∀ as : List Vl, (lg_sl (as.map (cv E))).length = (lvX as).length
  | [] => rfl
  | a :: as => by
    have ih := lvX_len E as
    rw [List.map_cons]
    unfold lg_sl at ih ⊢
    rw [List.flatMap_cons, List.length_append, ih]
    by_cases ha : a.1 = 1
    · have hcat : (cv E a).category = 2 := by
        obtain ⟨t, x⟩ := a
        have : t = 1 := ha
        subst this
        rfl
      rw [if_pos hcat, lvX, if_pos ha]
      simp
      omega
    · rw [if_neg (by rw [cv_cat1 E a ha]; decide), lvX, if_neg ha]
      simp
      omega
theorem lvX_ok : ∀ {as : List Vl}, (∀ v ∈ as, okV v) → ∀ v ∈ lvX as, okV v
  | [], _ => fun v h => by simp [lvX] at h
  | a :: as, h => by
    have ih := lvX_ok (as := as) (ok_1 h).2
    rw [lvX]
    by_cases ha : a.1 = 1
    · rw [if_pos ha]
      exact ok_c (ok_1 h).1 (ok_c trivial ih)
    · rw [if_neg ha]
      exact ok_c (ok_1 h).1 ih
theorem MA.of {l : Launch} {y : MethodName} {M : Mt} {E : Ev} {pm : Bool} {C : Cn} {n : Nat} {as : List Vl} {Q : Int → Cn → Nat → Prop} (hy : plainName y.cls = true) (h1 : y.cls = M.1) (h2 : y.name = M.2.2.2.2.1) (k : Nat) (hl : (lvX as).length + k = M.2.2.1)
    (body : ∀ p e s m args below meth c, AW p l e M.2.2.2.2.2.2 s m args below meth c E M pm Q n 0 0 0 (lvX as ++ List.replicate k (9, 0)) [] C) : MA l y M E pm C n as Q := by
  refine Met.ofW (cc := M.2.1) (maxL := M.2.2.1) (ret := M.2.2.2.1) hy rfl ?_
  intro p e s m args below meth c s₁ B hml hv
  obtain ⟨rfl, hR, hI, hE, ho⟩ := hv
  have hw := atoms_spec (ws := Cond.code y M.2.1 M.2.2.1 M.2.2.2.1 :: lw_g) B.pre
  have hown : s.vm.findClass M.1 = some m.cls := by rw [← h1]; exact findClass_of_methodNamed B.named
  have hnm : meth.name = M.2.2.2.2.1 := by rw [← h2]; exact (name_of_methodNamed B.named B.method).1
  have hc : Cx p M.2.2.2.2.2.2 s m (as.map (cv E)).toArray meth c E M := ⟨⟨B.exec, B.bytes, hml, hown, fun w h => hw w (List.mem_cons_of_mem _ h)⟩, B.returns, B.notSynchronized, hnm, hE, rfl⟩
  have hle : (lg_sl (as.map (cv E))).length ≤ M.2.2.1 := by rw [lvX_len]; omega
  have hlv := lv_entry (as.map (cv E)) (n := M.2.2.1) hle
  rw [lg_entry_eq]
  refine body p e s m _ below meth c hc s.heap [] _ hR hI va_S.rf ⟨hlv.1, hlv.2.1, fun i v hi h9 => ?_⟩ (fun v hv => ?_) (fun v hv => by cases hv)
  · by_cases hlt : i < (lvX as).length
    · rw [List.getElem?_append_left hlt] at hi
      have := lvX_args E as 0 i v hi h9
      rw [Nat.zero_add] at this
      exact hlv.2.2 _ this
    · rw [List.getElem?_append_right (by omega)] at hi
      have := (List.mem_replicate.mp (List.mem_of_getElem? hi)).2
      rw [this] at h9
      exact absurd h9 (by decide)
  · rcases List.mem_append.mp hv with h | h
    · exact lvX_ok ho v h
    · rw [(List.mem_replicate.mp h).2]; exact trivial
