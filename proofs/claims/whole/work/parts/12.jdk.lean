/-! my own: String.length and String.charAt over the texts -/
def LJ_coder : List (Nat × Instr × Nat) := [(0, .getstatic 38, 3), (3, .ifCond .eq 10, 3), (6, .aload_n 0, 1), (7, .getfield 15, 3), (10, .goto 4, 3), (13, .iconst 1, 1), (14, .ireturn, 1)]
theorem hdJ_coder : chk prog_14_method_152_code LJ_coder = true := by decide +kernel
def LJ_isLatin1 : List (Nat × Instr × Nat) := [(0, .getstatic 38, 3), (3, .ifCond .eq 14, 3), (6, .aload_n 0, 1), (7, .getfield 15, 3), (10, .ifCond .ne 7, 3), (13, .iconst 1, 1), (14, .goto 4, 3), (17, .iconst 0, 1), (18, .ireturn, 1)]
theorem hdJ_isLatin1 : chk prog_14_method_154_code LJ_isLatin1 = true := by decide +kernel
def LJ_length : List (Nat × Instr × Nat) := [(0, .aload_n 0, 1), (1, .getfield 9, 3), (4, .arraylength, 1), (5, .aload_n 0, 1), (6, .invokevirtual 335, 3), (9, .ishr, 1), (10, .ireturn, 1)]
theorem hdJ_length : chk prog_14_method_54_code LJ_length = true := by decide +kernel
def LJ_charAt : List (Nat × Instr × Nat) := [(0, .aload_n 0, 1), (1, .invokevirtual 492, 3), (4, .ifCond .eq 12, 3), (7, .aload_n 0, 1), (8, .getfield 9, 3), (11, .iload_n 1, 1), (12, .invokestatic 495, 3), (15, .ireturn, 1), (16, .aload_n 0, 1), (17, .getfield 9, 3), (20, .iload_n 1, 1), (21, .invokestatic 498, 3), (24, .ireturn, 1)]
theorem hdJ_charAt : chk prog_14_method_56_code LJ_charAt = true := by decide +kernel
def LJ_chkS : List (Nat × Instr × Nat) := [(0, .iload_n 0, 1), (1, .iload_n 1, 1), (2, .getstatic 1053, 3), (5, .invokestatic 1059, 3), (8, .pop, 1), (9, .return_, 1)]
theorem hdJ_chkS : chk prog_14_method_155_code LJ_chkS = true := by decide +kernel
def LJ_chkP : List (Nat × Instr × Nat) := [(0, .iload_n 0, 1), (1, .ifCond .lt 8, 3), (4, .iload_n 0, 1), (5, .iload_n 1, 1), (6, .if_icmp .lt 10, 3), (9, .aload_n 2, 1), (10, .iload_n 0, 1), (11, .iload_n 1, 1), (12, .invokestatic 95, 3), (15, .athrow, 1), (16, .iload_n 0, 1), (17, .ireturn, 1)]
theorem hdJ_chkP : chk prog_18_method_11_code LJ_chkP = true := by decide +kernel
def LJ_lat : List (Nat × Instr × Nat) := [(0, .iload_n 1, 1), (1, .aload_n 0, 1), (2, .arraylength, 1), (3, .invokestatic 9, 3), (6, .aload_n 0, 1), (7, .iload_n 1, 1), (8, .baload, 1), (9, .sipush 255, 3), (12, .iand, 1), (13, .i2c, 1), (14, .ireturn, 1)]
theorem hdJ_lat : chk prog_15_method_2_code LJ_lat = true := by decide +kernel
def yJ_coder : MethodName := ⟨"java/lang/String", "coder", "()B"⟩
theorem cdJ_coder : Cond.code yJ_coder prog_14_method_152_code 1 (some .byte) ∈ lw_g := mgt4 224 (by decide +kernel) rfl
theorem imJ_coder : Cond.instanceMethod yJ_coder ∈ lw_g := mgt4 222 (by decide +kernel) rfl
theorem seJ_coder : Cond.selects "java/lang/String" yJ_coder yJ_coder ∈ lw_g := mgt4 223 (by decide +kernel) rfl
def yJ_isLatin1 : MethodName := ⟨"java/lang/String", "isLatin1", "()Z"⟩
theorem cdJ_isLatin1 : Cond.code yJ_isLatin1 prog_14_method_154_code 1 (some .boolean) ∈ lw_g := mgt4 234 (by decide +kernel) rfl
theorem imJ_isLatin1 : Cond.instanceMethod yJ_isLatin1 ∈ lw_g := mgt4 232 (by decide +kernel) rfl
theorem seJ_isLatin1 : Cond.selects "java/lang/String" yJ_isLatin1 yJ_isLatin1 ∈ lw_g := mgt4 233 (by decide +kernel) rfl
def yJ_length : MethodName := ⟨"java/lang/String", "length", "()I"⟩
theorem cdJ_length : Cond.code yJ_length prog_14_method_54_code 1 (some .int) ∈ lw_g := mgt4 220 (by decide +kernel) rfl
theorem imJ_length : Cond.instanceMethod yJ_length ∈ lw_g := mgt4 218 (by decide +kernel) rfl
theorem seJ_length : Cond.selects "java/lang/String" yJ_length yJ_length ∈ lw_g := mgt4 219 (by decide +kernel) rfl
def yJ_charAt : MethodName := ⟨"java/lang/String", "charAt", "(I)C"⟩
theorem cdJ_charAt : Cond.code yJ_charAt prog_14_method_56_code 2 (some .char) ∈ lw_g := mgt4 230 (by decide +kernel) rfl
theorem imJ_charAt : Cond.instanceMethod yJ_charAt ∈ lw_g := mgt4 228 (by decide +kernel) rfl
theorem seJ_charAt : Cond.selects "java/lang/String" yJ_charAt yJ_charAt ∈ lw_g := mgt4 229 (by decide +kernel) rfl
def yJ_chkS : MethodName := ⟨"java/lang/String", "checkIndex", "(II)V"⟩
theorem cdJ_chkS : Cond.code yJ_chkS prog_14_method_155_code 2 none ∈ lw_g := mgt5 0 (by decide +kernel) rfl
theorem smJ_chkS : Cond.static yJ_chkS ∈ lw_g := mgt4 239 (by decide +kernel) rfl
def yJ_chkP : MethodName := ⟨"jdk/internal/util/Preconditions", "checkIndex", "(IILjava/util/function/BiFunction;)I"⟩
theorem cdJ_chkP : Cond.code yJ_chkP prog_18_method_11_code 3 (some .int) ∈ lw_g := mgt5 5 (by decide +kernel) rfl
theorem smJ_chkP : Cond.static yJ_chkP ∈ lw_g := mgt5 4 (by decide +kernel) rfl
def yJ_lat : MethodName := ⟨"java/lang/StringLatin1", "charAt", "([BI)C"⟩
theorem cdJ_lat : Cond.code yJ_lat prog_15_method_2_code 2 (some .char) ∈ lw_g := mgt4 237 (by decide +kernel) rfl
theorem smJ_lat : Cond.static yJ_lat ∈ lw_g := mgt4 236 (by decide +kernel) rfl
theorem icJ_S : Cond.initialized "java/lang/String" ∈ lw_g := mgt1 13 (by decide +kernel) rfl
theorem icJ_L : Cond.initialized "java/lang/StringLatin1" ∈ lw_g := mgt1 14 (by decide +kernel) rfl
theorem icJ_P : Cond.initialized "jdk/internal/util/Preconditions" ∈ lw_g := mgt1 15 (by decide +kernel) rfl
theorem mlJ_335 : Cond.methodLink "java/lang/String" 335 yJ_coder ∈ lw_g := mgt4 221 (by decide +kernel) rfl
theorem mlJ_492 : Cond.methodLink "java/lang/String" 492 yJ_isLatin1 ∈ lw_g := mgt4 231 (by decide +kernel) rfl
theorem mlJ_495 : Cond.methodLink "java/lang/String" 495 yJ_lat ∈ lw_g := mgt4 235 (by decide +kernel) rfl
theorem mlJ_1059 : Cond.methodLink "java/lang/String" 1059 yJ_chkP ∈ lw_g := mgt5 3 (by decide +kernel) rfl
theorem mlJ_9 : Cond.methodLink "java/lang/StringLatin1" 9 yJ_chkS ∈ lw_g := mgt4 238 (by decide +kernel) rfl
theorem flJ_38 : Cond.fieldLink "java/lang/String" 38 "java/lang/String" "COMPACT_STRINGS" "Z" ∈ lw_g := mgt4 225 (by decide +kernel) rfl
theorem flJ_1053 : Cond.fieldLink "java/lang/String" 1053 "jdk/internal/util/Preconditions" "SIOOBE_FORMATTER" "Ljava/util/function/BiFunction;" ∈ lw_g := mgt5 1 (by decide +kernel) rfl
theorem flJ_9 : Cond.fieldLink "java/lang/String" 9 "java/lang/String" "value" "[B" ∈ lw_g := mgt8 108 (by decide +kernel) rfl
theorem flJ_15 : Cond.fieldLink "java/lang/String" 15 "java/lang/String" "coder" "B" ∈ lw_g := mgt8 109 (by decide +kernel) rfl
theorem slk_3_123 : Cond.methodLink RX3 123 yJ_length ∈ lw_g := mgt4 217 (by decide +kernel) rfl
theorem slk_3_128 : Cond.methodLink RX3 128 yJ_charAt ∈ lw_g := mgt4 227 (by decide +kernel) rfl
theorem slk_10_437 : Cond.methodLink RX10 437 yJ_length ∈ lw_g := mgt8 24 (by decide +kernel) rfl
theorem slk_10_442 : Cond.methodLink RX10 442 yJ_charAt ∈ lw_g := mgt8 25 (by decide +kernel) rfl
def JQ (v : Option Value) : Array Value → State → Outcome → State → Prop := fun _ st o t => o = .returned v ∧ t.heap = st.heap
def JP (E : Ev) (vs : List Value) : Array Value → State → Prop := va_Pc vs (fun U => EOK E U)
theorem EOK.blind {E : Ev} {U : State} (h : EOK E U) (g : JFrame) (mk : MethodId) (a : Array Value) : EOK E (U.calling g mk a) := by
  obtain ⟨h3, h4, h5, h6, h7⟩ := h
  refine ⟨va_K.moved (u := U) (U := U.calling g mk a) (Vm.Alike.refl U.vm) h3, XO.moved (u := U) (U := U.calling g mk a) (Vm.Alike.refl U.vm) h4, fun q hq => vk_R.same (u := U) rfl (h5 q hq), ?_, h7⟩
  exact ⟨fun w hw hn => va_Nw.same (u := U) (by cases w <;> first | rfl | cases hn) rfl (h6.1 w hw hn), h6.2.1.moved (u := U) (U := U.calling g mk a) (Vm.Alike.refl U.vm), h6.2.2.1.moved (u := U) (U := U.calling g mk a) (Vm.Alike.refl U.vm), h6.2.2.2.1.moved (u := U) (U := U.calling g mk a) (Vm.Alike.refl U.vm), over_moved (u := U) (E := U.calling g mk a) (Vm.Alike.refl U.vm) h6.2.2.2.2.1, over_moved (u := U) (E := U.calling g mk a) (Vm.Alike.refl U.vm) h6.2.2.2.2.2⟩
theorem blindJ (E : Ev) (vs : List Value) : FrameBlind (JP E vs) := fun a U g mk h => ⟨h.1, h.2.blind g mk a⟩
/-- a JDK method that writes nothing: from any state with what is known outside, it answers v -/
def JC (l : Launch) (y : MethodName) (cc : ByteArray) (nL : Nat) (ret : Option FieldType) (fr lo : Nat) (E : Ev) (vs : List Value) (v : Option Value) : Prop :=
  Met l y (Cond.code y cc nL ret :: lw_g) { frames := fr, cells := 0, slots := 0, locals := lo } (JP E vs) (JQ v) 0 0 (fun _ => False)
theorem JC.of {l : Launch} {y : MethodName} {cc : ByteArray} {nL fr lo : Nat} {ret : Option FieldType} {E : Ev} {vs : List Value} {v : Option Value} (hy : plainName y.cls = true) (hle : (lg_sl vs).length ≤ nL)
    (body : ∀ (p : Program) (e : Env) (s : State) (m : MethodId) (below : List Frame) (meth : Method) (c : Code) (ls : Array Slot), CallFix p m c cc nL s vs.toArray lw_g y.cls → meth.sig.returnType = ret → meth.locks = false → EOK E s → lv_has ls nL (lv_args 0 vs) →
      W p l e { frames := fr, cells := 0, slots := 0, locals := lo } s m vs.toArray below meth c s.heap [] 0 0 (MQ below (JQ v) vs.toArray s 0 0 (fun _ => False)) (F0 m 0 ls [])) : JC l y cc nL ret fr lo E vs v := by
  refine Met.ofW (cc := cc) (maxL := nL) (ret := ret) hy rfl ?_
  intro p e s m args below meth c s₁ B hml hv
  obtain ⟨rfl, hE⟩ := hv
  have hw := atoms_spec (ws := Cond.code y cc nL ret :: lw_g) B.pre
  rw [lg_entry_eq]
  exact body p e s m below meth c _ ⟨B.exec, B.bytes, hml, findClass_of_methodNamed B.named, fun w h => hw w (List.mem_cons_of_mem _ h)⟩ B.returns B.notSynchronized hE (lv_entry vs hle)
section
variable {p : Program} {l : Launch} {e : Env} {R : Room} {s : State} {m : MethodId} {args : Array Value} {below : List Frame} {meth : Method} {c : Code} {E : Ev}
theorem runJ {H : Heap} {locs : List Loc} {kc ks pc : Nat} {ls : Array Slot} {st0 rest : List Value} {v : Option Value} {a : Array Value} {Z : State → Prop} (hr : va_Run p l e R s m args below meth c H locs kc ks 0 0 (F0 m pc ls st0) rest (JQ v a) (fun _ => False)) (kk : W p l e R s m args below meth c H locs kc ks Z (F0 m (pc + 3) ls (v.toList ++ rest))) : W p l e R s m args below meth c H locs kc ks Z (F0 m pc ls st0) := by
  intro T hT X
  obtain ⟨v', st₀, t, T', L, h0, X', hL, e1, e2, ⟨hv, hh⟩, st⟩ := hr T hT X
  cases hv
  have hL0 : L = [] := by
    cases L with
    | nil => rfl
    | cons q L => exact absurd (hL q List.mem_cons_self) id
  subst hL0
  rw [List.append_nil] at X'
  obtain ⟨t2, a1, b1⟩ := kk T' (by rw [e1, hh, h0]) X'
  exact ⟨t2, st t2 a1, b1⟩
theorem callJS {y : MethodName} {cc2 cc : ByteArray} {nL2 nL fr lo i k kc ks pc : Nat} {ret : Option FieldType} {vs rest : List Value} {v : Option Value} {own : String} {H : Heap} {locs : List Loc} {ls : Array Slot} {Z : State → Prop} (hF : CallFix p m c cc nL s args lw_g own) (hE : EOK E s) (hM : JC l y cc2 nL2 ret fr lo E vs v) (hml : Cond.methodLink own i y ∈ lw_g) (hic : Cond.initialized y.cls ∈ lw_g) (hcd : Cond.code y cc2 nL2 ret ∈ lw_g) (hst : Cond.static y ∈ lw_g) (hd : y.cls ≠ "java/lang/invoke/MethodHandle" ∧ y.cls ≠ "java/lang/invoke/VarHandle" ∧ (parseMethodDescriptor y.desc).map (fun d => d.parameters.length) = some k) (d : decode cc pc = .ok (.invokestatic i, 3)) (hk : vs.length = k) (hls : ls.size = nL) (hS : va_S (eA E) s.heap H locs) (hR : fr + 1 ≤ R.frames ∧ 8 + (nL2 + 11) + lo ≤ R.locals) (hcs : kc ≤ R.cells ∧ ks ≤ R.slots) (hcat : (rest.map fun v => v.category).sum ≤ 8)
    (kk : W p l e R s m args below meth c H locs kc ks Z (F0 m (pc + 3) ls (v.toList ++ rest))) : W p l e R s m args below meth c H locs kc ks Z (F0 m pc ls (vs.reverse ++ rest)) := by
  refine runJ (va_runS (As := vs) (rest := rest) hF hM ⟨callB_of k hF.2.2.2.2 (goodA hcd) rfl rfl rfl (hF.2.2.2.2 _ hic) (hF.2.2.2.2 _ hml) hd hR, hF.2.2.2.2 _ hst⟩ ⟨blindJ E vs, fun U hU hW => ⟨rfl, hE.at hS hU hW⟩⟩ rfl hk hls rfl ?_ d hcs) kk
  show 2 * 0 + _ ≤ 8
  omega
theorem callJV {y : MethodName} {cc2 cc : ByteArray} {nL2 nL fr lo i k kc ks pc j : Nat} {ret : Option FieldType} {vs rest : List Value} {v : Option Value} {own : String} {H : Heap} {locs : List Loc} {ls : Array Slot} {Z : State → Prop} (hj : j < 10) (hF : CallFix p m c cc nL s args lw_g own) (hE : EOK E s) (hM : JC l y cc2 nL2 ret fr lo E (.ref (E.2.2.2.1 j) :: vs) v) (hml : Cond.methodLink own i y ∈ lw_g) (hcl : y.cls = "java/lang/String") (hcd : Cond.code y cc2 nL2 ret ∈ lw_g) (hin : Cond.instanceMethod y ∈ lw_g) (hse : Cond.selects "java/lang/String" y y ∈ lw_g) (hd : (parseMethodDescriptor y.desc).map (fun d => d.parameters.length) = some k) (d : decode cc pc = .ok (.invokevirtual i, 3)) (hk : vs.length = k) (hls : ls.size = nL) (hS : va_S (eA E) s.heap H locs) (hR : fr + 1 ≤ R.frames ∧ 8 + (nL2 + 11) + lo ≤ R.locals) (hcs : kc ≤ R.cells ∧ ks ≤ R.slots) (hcat : (rest.map fun v => v.category).sum ≤ 8)
    (kk : W p l e R s m args below meth c H locs kc ks Z (F0 m (pc + 3) ls (v.toList ++ rest))) : W p l e R s m args below meth c H locs kc ks Z (F0 m pc ls (vs.reverse ++ .ref (E.2.2.2.1 j) :: rest)) := by
  refine runJ (va_runV (As := vs) (rest := rest) (C := "java/lang/String") hF hM ⟨callB_of k hF.2.2.2.2 (goodA hcd) rfl rfl rfl (by rw [hcl]; exact hF.2.2.2.2 _ icJ_S) (hF.2.2.2.2 _ hml) ⟨by rw [hcl]; decide, by rw [hcl]; decide, hd⟩ hR, hF.2.2.2.2 _ hin, hF.2.2.2.2 _ hse⟩ ⟨blindJ E _, vk_recv hE.2.1.2.2.2.2.1 hj hS, fun U hU hW => ⟨rfl, hE.at hS hU hW⟩⟩ rfl hk hls rfl ?_ d hcs) kk
  show 2 * 0 + _ ≤ 8
  omega
end
theorem j_coder (l : Launch) (E : Ev) {j : Nat} (hj : j < 10) : JC l yJ_coder prog_14_method_152_code 1 (some .byte) 0 0 E [.ref (E.2.2.2.1 j)] (some (.int 0)) := by
  refine JC.of (by decide) (Nat.le_of_ble_eq_true rfl) (fun p e s m below meth c ls hF hr hlocks hE hl => ?_)
  have hX := hE.2.1
  refine va_gets hF.1 hF.2.1 hX.2.2.2.2.2.1 va_S.rf hF.2.2.2.1 (hF.2.2.2.2 _ flJ_38) (fun _ h => h) (dc hdJ_coder 0 rfl) ?_
  refine lv_if_eq (tgt := 13) hF.1 hF.2.1 (dc hdJ_coder 1 rfl) (by decide) (fun h => absurd h (by decide)) (fun _ => ?_)
  refine lv_aload_n hF.1 hF.2.1 (dc hdJ_coder 2 rfl) rfl (lv_at hl 0 rfl) ?_
  refine vk_getf hF.1 hF.2.1 (hX.2.2.2.2.1.1 j hj).2.1 va_S.rf hF.2.2.2.1 (hF.2.2.2.2 _ flJ_15) (fun _ h => h) (dc hdJ_coder 3 rfl) ?_
  refine lv_goto (tgt := 14) hF.1 hF.2.1 (dc hdJ_coder 4 rfl) (by decide) ?_
  exact W.zret (ty := .byte) hF.1 hF.2.1 hr (by decide +kernel) (fun t ht hW => ⟨rfl, ht⟩) (fun q h => by cases h) (dc hdJ_coder 6 rfl) hlocks
theorem j_isLatin1 (l : Launch) (E : Ev) {j : Nat} (hj : j < 10) : JC l yJ_isLatin1 prog_14_method_154_code 1 (some .boolean) 0 0 E [.ref (E.2.2.2.1 j)] (some (.int 1)) := by
  refine JC.of (by decide) (Nat.le_of_ble_eq_true rfl) (fun p e s m below meth c ls hF hr hlocks hE hl => ?_)
  have hX := hE.2.1
  refine va_gets hF.1 hF.2.1 hX.2.2.2.2.2.1 va_S.rf hF.2.2.2.1 (hF.2.2.2.2 _ flJ_38) (fun _ h => h) (dc hdJ_isLatin1 0 rfl) ?_
  refine lv_if_eq (tgt := 17) hF.1 hF.2.1 (dc hdJ_isLatin1 1 rfl) (by decide) (fun h => absurd h (by decide)) (fun _ => ?_)
  refine lv_aload_n hF.1 hF.2.1 (dc hdJ_isLatin1 2 rfl) rfl (lv_at hl 0 rfl) ?_
  refine vk_getf hF.1 hF.2.1 (hX.2.2.2.2.1.1 j hj).2.1 va_S.rf hF.2.2.2.1 (hF.2.2.2.2 _ flJ_15) (fun _ h => h) (dc hdJ_isLatin1 3 rfl) ?_
  refine lv_if_ne (tgt := 17) hF.1 hF.2.1 (dc hdJ_isLatin1 4 rfl) (by decide) (fun h => absurd rfl h) (fun _ => ?_)
  refine lv_iconst (v := 1) hF.1 hF.2.1 (dc hdJ_isLatin1 5 rfl) (by decide) ?_
  refine lv_goto (tgt := 18) hF.1 hF.2.1 (dc hdJ_isLatin1 6 rfl) (by decide) ?_
  exact W.zret (ty := .boolean) hF.1 hF.2.1 hr (by decide +kernel) (fun t ht hW => ⟨rfl, ht⟩) (fun q h => by cases h) (dc hdJ_isLatin1 8 rfl) hlocks
theorem slen_small : ∀ j, j < 10 → SLEN.getD j 0 < 8 ∧ SLEN.getD j 0 = (SBYT.getD j []).length ∧ (Int32.ofNat (SLEN.getD j 0) >>> ((0 : Int32) &&& 31)) = Int32.ofNat (SLEN.getD j 0) := by decide +kernel
theorem j_length (l : Launch) (E : Ev) {j : Nat} (hj : j < 10) : JC l yJ_length prog_14_method_54_code 1 (some .int) 1 20 E [.ref (E.2.2.2.1 j)] (some (.int (Int32.ofNat (SLEN.getD j 0)))) := by
  refine JC.of (by decide) (Nat.le_of_ble_eq_true rfl) (fun p e s m below meth c ls hF hr hlocks hE hl => ?_)
  have hX := hE.2.1
  have hj4 := hX.2.2.2.2.1.1 j hj
  refine lv_aload_n hF.1 hF.2.1 (dc hdJ_length 0 rfl) rfl (lv_at hl 0 rfl) ?_
  refine vk_getf hF.1 hF.2.1 hj4.2.2.1 va_S.rf hF.2.2.2.1 (hF.2.2.2.2 _ flJ_9) (fun _ h => h) (dc hdJ_length 1 rfl) ?_
  refine va_tlen hF.1 hF.2.1 hj4.2.2.2 va_S.rf rfl (dc hdJ_length 2 rfl) ?_
  refine lv_aload_n hF.1 hF.2.1 (dc hdJ_length 3 rfl) rfl (lv_at hl 0 rfl) ?_
  refine callJV (vs := []) (k := 0) hj hF hE (j_coder l E hj) mlJ_335 rfl cdJ_coder imJ_coder seJ_coder (by decide +kernel) (dc hdJ_length 4 rfl) rfl hl.1 va_S.rf ⟨Nat.le_of_ble_eq_true rfl, Nat.le_of_ble_eq_true rfl⟩ ⟨Nat.le_of_ble_eq_true rfl, Nat.le_of_ble_eq_true rfl⟩ (Nat.le_of_ble_eq_true rfl) ?_
  refine lv_ishr hF.1 hF.2.1 (dc hdJ_length 5 rfl) ?_
  rw [(slen_small j hj).2.2]
  exact W.iret hF.1 hF.2.1 hr (fun t ht hW => ⟨rfl, ht⟩) (fun q h => by cases h) (dc hdJ_length 6 rfl) hlocks
theorem j_chkP (l : Launch) (E : Ev) {k L : Nat} {f : Value} (hf : f = .null ∨ ∃ t, f = .ref t) (hk : k < L) (hL : L < 1000) : JC l yJ_chkP prog_18_method_11_code 3 (some .int) 0 0 E [.int (nI k), .int (nI L), f] (some (.int (nI k))) := by
  have hcat : (lg_sl [.int (nI k), .int (nI L), f]).length ≤ 3 := by
    rcases hf with rfl | ⟨t, rfl⟩ <;> exact Nat.le_of_ble_eq_true rfl
  refine JC.of (by decide) hcat (fun p e s m below meth c ls hF hr hlocks hE hl => ?_)
  refine lv_iload_n hF.1 hF.2.1 (dc hdJ_chkP 0 rfl) rfl (lv_at hl 0 rfl) ?_
  refine lv_if_lt (tgt := 9) hF.1 hF.2.1 (dc hdJ_chkP 1 rfl) (by decide) (fun h => absurd h (nI_pos (by omega))) (fun _ => ?_)
  refine lv_iload_n hF.1 hF.2.1 (dc hdJ_chkP 2 rfl) rfl (lv_at hl 0 rfl) ?_
  refine lv_iload_n hF.1 hF.2.1 (dc hdJ_chkP 3 rfl) rfl (lv_at hl 1 rfl) ?_
  refine lv_icmp_lt (tgt := 16) hF.1 hF.2.1 (dc hdJ_chkP 4 rfl) (by decide) (fun _ => ?_) (fun h => absurd (nI_lt hk (by omega)) h)
  refine lv_iload_n hF.1 hF.2.1 (dc hdJ_chkP 10 rfl) rfl (lv_at hl 0 rfl) ?_
  exact W.iret hF.1 hF.2.1 hr (fun t ht hW => ⟨rfl, ht⟩) (fun q h => by cases h) (dc hdJ_chkP 11 rfl) hlocks
theorem j_chkS (l : Launch) (E : Ev) {k L : Nat} (hk : k < L) (hL : L < 1000) : JC l yJ_chkS prog_14_method_155_code 2 none 1 22 E [.int (nI k), .int (nI L)] none := by
  refine JC.of (by decide) (Nat.le_of_ble_eq_true rfl) (fun p e s m below meth c ls hF hr hlocks hE hl => ?_)
  have hX := hE.2.1
  refine lv_iload_n hF.1 hF.2.1 (dc hdJ_chkS 0 rfl) rfl (lv_at hl 0 rfl) ?_
  refine lv_iload_n hF.1 hF.2.1 (dc hdJ_chkS 1 rfl) rfl (lv_at hl 1 rfl) ?_
  have go : ∀ f : Value, (f = .null ∨ ∃ t, f = .ref t) → va_Z "jdk/internal/util/Preconditions" "SIOOBE_FORMATTER" "Ljava/util/function/BiFunction;" f (eA E) s s.heap → W p l e { frames := 1, cells := 0, slots := 0, locals := 22 } s m [Value.int (nI k), Value.int (nI L)].toArray below meth c s.heap [] 0 0 (MQ below (JQ none) [Value.int (nI k), Value.int (nI L)].toArray s 0 0 (fun _ => False)) (F0 m 2 ls [.int (nI L), .int (nI k)]) := by
    intro f hf hZ
    refine va_gets hF.1 hF.2.1 hZ va_S.rf hF.2.2.2.1 (hF.2.2.2.2 _ flJ_1053) (fun _ h => h) (dc hdJ_chkS 2 rfl) ?_
    refine callJS (vs := [.int (nI k), .int (nI L), f]) (rest := []) (k := 3) hF hE (j_chkP l E hf hk hL) mlJ_1059 icJ_P cdJ_chkP smJ_chkP (by decide +kernel) (dc hdJ_chkS 3 rfl) rfl hl.1 va_S.rf ⟨Nat.le_of_ble_eq_true rfl, Nat.le_of_ble_eq_true rfl⟩ ⟨Nat.le_of_ble_eq_true rfl, Nat.le_of_ble_eq_true rfl⟩ (Nat.le_of_ble_eq_true rfl) ?_
    refine lv_pop hF.1 hF.2.1 (dc hdJ_chkS 4 rfl) rfl ?_
    exact W.vret hF.1 hF.2.1 hr (fun t ht hW => ⟨rfl, ht⟩) (fun q h => by cases h) (dc hdJ_chkS 5 rfl) hlocks
  rcases hX.2.2.2.2.2.2 with h | ⟨t, h⟩
  · exact go _ (Or.inl rfl) h
  · exact go _ (Or.inr ⟨t, rfl⟩) h
/-- the sign at k of the text j -/
def SCH (j k : Nat) : Int32 := (SBYT.getD j []).getD k 0
theorem sch_all : ∀ j, j < 10 → ∀ k, k < SLEN.getD j 0 → (((SCH j k &&& (Int16.ofInt 255).toInt32).toUInt32 % 65536).toInt32 = SCH j k ∧ narrow .char (.int (SCH j k)) = .int (SCH j k)) := by decide +kernel
theorem j_lat (l : Launch) (E : Ev) {j k : Nat} (hj : j < 10) (hk : k < SLEN.getD j 0) : JC l yJ_lat prog_15_method_2_code 2 (some .char) 2 43 E [.ref (E.2.2.2.2.2 j), .int (nI k)] (some (.int (SCH j k))) := by
  refine JC.of (by decide) (Nat.le_of_ble_eq_true rfl) (fun p e s m below meth c ls hF hr hlocks hE hl => ?_)
  have hX := hE.2.1
  have hj4 := hX.2.2.2.2.1.1 j hj
  have hs := slen_small j hj
  refine lv_iload_n hF.1 hF.2.1 (dc hdJ_lat 0 rfl) rfl (lv_at hl 1 rfl) ?_
  refine lv_aload_n hF.1 hF.2.1 (dc hdJ_lat 1 rfl) rfl (lv_at hl 0 rfl) ?_
  refine va_tlen hF.1 hF.2.1 hj4.2.2.2 va_S.rf rfl (dc hdJ_lat 2 rfl) ?_
  refine callJS (vs := [.int (nI k), .int (nI (SLEN.getD j 0))]) (rest := []) (k := 2) hF hE (j_chkS l E hk (by omega)) mlJ_9 icJ_S cdJ_chkS smJ_chkS (by decide +kernel) (dc hdJ_lat 3 rfl) rfl hl.1 va_S.rf ⟨Nat.le_of_ble_eq_true rfl, Nat.le_of_ble_eq_true rfl⟩ ⟨Nat.le_of_ble_eq_true rfl, Nat.le_of_ble_eq_true rfl⟩ (Nat.le_of_ble_eq_true rfl) ?_
  refine lv_aload_n hF.1 hF.2.1 (dc hdJ_lat 4 rfl) rfl (lv_at hl 0 rfl) ?_
  refine lv_iload_n hF.1 hF.2.1 (dc hdJ_lat 5 rfl) rfl (lv_at hl 1 rfl) ?_
  refine va_tb hF.1 hF.2.1 hj4.2.2.2 va_S.rf (vp_in_nI hk (by omega)) (v := .int (SCH j k)) (by rw [nI_clamp (by omega)]; rfl) (dc hdJ_lat 6 rfl) ?_
  refine lv_sipush hF.1 hF.2.1 (dc hdJ_lat 7 rfl) rfl ?_
  refine lv_iand hF.1 hF.2.1 (dc hdJ_lat 8 rfl) ?_
  refine lv_i2c hF.1 hF.2.1 (dc hdJ_lat 9 rfl) (sch_all j hj k hk).1 ?_
  exact W.zret (ty := .char) hF.1 hF.2.1 hr (sch_all j hj k hk).2 (fun t ht hW => ⟨rfl, ht⟩) (fun q h => by cases h) (dc hdJ_lat 10 rfl) hlocks
theorem j_charAt (l : Launch) (E : Ev) {j k : Nat} (hj : j < 10) (hk : k < SLEN.getD j 0) : JC l yJ_charAt prog_14_method_56_code 2 (some .char) 3 64 E [.ref (E.2.2.2.1 j), .int (nI k)] (some (.int (SCH j k))) := by
  refine JC.of (by decide) (Nat.le_of_ble_eq_true rfl) (fun p e s m below meth c ls hF hr hlocks hE hl => ?_)
  have hX := hE.2.1
  have hj4 := hX.2.2.2.2.1.1 j hj
  refine lv_aload_n hF.1 hF.2.1 (dc hdJ_charAt 0 rfl) rfl (lv_at hl 0 rfl) ?_
  refine callJV (vs := []) (rest := []) (k := 0) hj hF hE (j_isLatin1 l E hj) mlJ_492 rfl cdJ_isLatin1 imJ_isLatin1 seJ_isLatin1 (by decide +kernel) (dc hdJ_charAt 1 rfl) rfl hl.1 va_S.rf ⟨Nat.le_of_ble_eq_true rfl, Nat.le_of_ble_eq_true rfl⟩ ⟨Nat.le_of_ble_eq_true rfl, Nat.le_of_ble_eq_true rfl⟩ (Nat.le_of_ble_eq_true rfl) ?_
  refine lv_if_eq (tgt := 16) hF.1 hF.2.1 (dc hdJ_charAt 2 rfl) (by decide) (fun h => absurd h (by decide)) (fun _ => ?_)
  refine lv_aload_n hF.1 hF.2.1 (dc hdJ_charAt 3 rfl) rfl (lv_at hl 0 rfl) ?_
  refine vk_getf hF.1 hF.2.1 hj4.2.2.1 va_S.rf hF.2.2.2.1 (hF.2.2.2.2 _ flJ_9) (fun _ h => h) (dc hdJ_charAt 4 rfl) ?_
  refine lv_iload_n hF.1 hF.2.1 (dc hdJ_charAt 5 rfl) rfl (lv_at hl 1 rfl) ?_
  refine callJS (vs := [.ref (E.2.2.2.2.2 j), .int (nI k)]) (rest := []) (k := 2) hF hE (j_lat l E hj hk) mlJ_495 icJ_L cdJ_lat smJ_lat (by decide +kernel) (dc hdJ_charAt 6 rfl) rfl hl.1 va_S.rf ⟨Nat.le_of_ble_eq_true rfl, Nat.le_of_ble_eq_true rfl⟩ ⟨Nat.le_of_ble_eq_true rfl, Nat.le_of_ble_eq_true rfl⟩ (Nat.le_of_ble_eq_true rfl) ?_
  exact W.zret (ty := .char) hF.1 hF.2.1 hr (sch_all j hj k hk).2 (fun t ht hW => ⟨rfl, ht⟩) (fun q h => by cases h) (dc hdJ_charAt 7 rfl) hlocks
