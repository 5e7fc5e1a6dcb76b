section
variable {p : Program} {l : Launch} {e : Env} {R : Room} {s : State} {m : MethodId} {args : Array Value} {below : List Frame} {meth : Method} {c : Code} {E : Ev} {M : Mt} {pm : Bool} {Q : Int → Cn → Nat → Prop} {n kc ks pc pc2 : Nat} {lv st st2 : List Vl} {C : Cn}
theorem AW.step (k : AW p l e R s m args below meth c E M pm Q n kc ks pc2 lv st2 C) (hok : (∀ v ∈ st, okV v) → ∀ v ∈ st2, okV v)
    (hw : p.tables.exec = Jvm.exec → c.code = M.2.1 → (∀ v ∈ st, okV v) → ∀ (H : Heap) (locs : List Loc) (ls : Array Slot) (Z : State → Prop), W p l e R s m args below meth c H locs kc ks Z (F0 m pc2 ls (st2.map (cv E))) → W p l e R s m args below meth c H locs kc ks Z (F0 m pc ls (st.map (cv E)))) : AW p l e R s m args below meth c E M pm Q n kc ks pc lv st C :=
  fun hc H locs ls hR hI hS hl ol os => hw hc.1.1 hc.1.2.1 os H locs ls _ (k hc H locs ls hR hI hS hl ol (hok os))
theorem ok_1 {a : Vl} {st : List Vl} (h : ∀ v ∈ a :: st, okV v) : okV a ∧ ∀ v ∈ st, okV v := List.forall_mem_cons.mp h
theorem ok_c {a : Vl} {st : List Vl} (h : okV a) (h2 : ∀ v ∈ st, okV v) : ∀ v ∈ a :: st, okV v := List.forall_mem_cons.mpr ⟨h, h2⟩
theorem ok_d2 {a b : Vl} {st : List Vl} (h : ∀ v ∈ a :: b :: st, okV v) : ∀ v ∈ st, okV v := (ok_1 (ok_1 h).2).2
theorem AW.iadd {x y : Int} (d : decode M.2.1 pc = .ok (.iadd, 1)) (k : AW p l e R s m args below meth c E M pm Q n kc ks (pc + 1) lv ((0, w32 (x + y)) :: st) C) : AW p l e R s m args below meth c E M pm Q n kc ks pc lv ((0, y) :: (0, x) :: st) C := by
  refine AW.step k (fun h => ok_c (w32_in _) (ok_d2 h)) (fun hx hb os H locs ls Z kk => ?_)
  refine lv_iadd hx hb d ?_
  rw [i32_add]
  exact kk
theorem AW.isub {x y : Int} (d : decode M.2.1 pc = .ok (.isub, 1)) (k : AW p l e R s m args below meth c E M pm Q n kc ks (pc + 1) lv ((0, w32 (x - y)) :: st) C) : AW p l e R s m args below meth c E M pm Q n kc ks pc lv ((0, y) :: (0, x) :: st) C := by
  refine AW.step k (fun h => ok_c (w32_in _) (ok_d2 h)) (fun hx hb os H locs ls Z kk => ?_)
  refine lv_isub hx hb d ?_
  rw [i32_sub]
  exact kk
theorem AW.imul {x y : Int} (d : decode M.2.1 pc = .ok (.imul, 1)) (k : AW p l e R s m args below meth c E M pm Q n kc ks (pc + 1) lv ((0, w32 (x * y)) :: st) C) : AW p l e R s m args below meth c E M pm Q n kc ks pc lv ((0, y) :: (0, x) :: st) C := by
  refine AW.step k (fun h => ok_c (w32_in _) (ok_d2 h)) (fun hx hb os H locs ls Z kk => ?_)
  refine lv_imul hx hb d ?_
  rw [i32_mul]
  exact kk
theorem AW.ladd {x y : Int} (d : decode M.2.1 pc = .ok (.ladd, 1)) (k : AW p l e R s m args below meth c E M pm Q n kc ks (pc + 1) lv ((1, w64 (x + y)) :: st) C) : AW p l e R s m args below meth c E M pm Q n kc ks pc lv ((1, y) :: (1, x) :: st) C := by
  refine AW.step k (fun h => ok_c (w64_in _) (ok_d2 h)) (fun hx hb os H locs ls Z kk => ?_)
  refine lv_ladd hx hb d ?_
  rw [i64_add]
  exact kk
theorem AW.lsub {x y : Int} (d : decode M.2.1 pc = .ok (.lsub, 1)) (k : AW p l e R s m args below meth c E M pm Q n kc ks (pc + 1) lv ((1, w64 (x - y)) :: st) C) : AW p l e R s m args below meth c E M pm Q n kc ks pc lv ((1, y) :: (1, x) :: st) C := by
  refine AW.step k (fun h => ok_c (w64_in _) (ok_d2 h)) (fun hx hb os H locs ls Z kk => ?_)
  refine lv_lsub hx hb d ?_
  rw [i64_sub]
  exact kk
theorem AW.lmul {x y : Int} (d : decode M.2.1 pc = .ok (.lmul, 1)) (k : AW p l e R s m args below meth c E M pm Q n kc ks (pc + 1) lv ((1, w64 (x * y)) :: st) C) : AW p l e R s m args below meth c E M pm Q n kc ks pc lv ((1, y) :: (1, x) :: st) C := by
  refine AW.step k (fun h => ok_c (w64_in _) (ok_d2 h)) (fun hx hb os H locs ls Z kk => ?_)
  refine lv_lmul hx hb d ?_
  rw [i64_mul]
  exact kk
theorem AW.iand {x y : Int} (d : decode M.2.1 pc = .ok (.iand, 1)) (k : AW p l e R s m args below meth c E M pm Q n kc ks (pc + 1) lv ((0, and32 x y) :: st) C) : AW p l e R s m args below meth c E M pm Q n kc ks pc lv ((0, y) :: (0, x) :: st) C := by
  refine AW.step k (fun h => ok_c (i32_rng _) (ok_d2 h)) (fun hx hb os H locs ls Z kk => ?_)
  refine lv_iand hx hb d ?_
  have kk := kk
  simp only [List.map_cons, cv, and32, i32_of] at kk
  exact kk
theorem AW.ior {x y : Int} (d : decode M.2.1 pc = .ok (.ior, 1)) (k : AW p l e R s m args below meth c E M pm Q n kc ks (pc + 1) lv ((0, or32 x y) :: st) C) : AW p l e R s m args below meth c E M pm Q n kc ks pc lv ((0, y) :: (0, x) :: st) C := by
  refine AW.step k (fun h => ok_c (i32_rng _) (ok_d2 h)) (fun hx hb os H locs ls Z kk => ?_)
  refine lv_ior hx hb d ?_
  have kk := kk
  simp only [List.map_cons, cv, or32, i32_of] at kk
  exact kk
theorem AW.ixor {x y : Int} (d : decode M.2.1 pc = .ok (.ixor, 1)) (k : AW p l e R s m args below meth c E M pm Q n kc ks (pc + 1) lv ((0, xor32 x y) :: st) C) : AW p l e R s m args below meth c E M pm Q n kc ks pc lv ((0, y) :: (0, x) :: st) C := by
  refine AW.step k (fun h => ok_c (i32_rng _) (ok_d2 h)) (fun hx hb os H locs ls Z kk => ?_)
  refine lv_ixor hx hb d ?_
  have kk := kk
  simp only [List.map_cons, cv, xor32, i32_of] at kk
  exact kk
theorem AW.ishl {x y : Int} (d : decode M.2.1 pc = .ok (.ishl, 1)) (k : AW p l e R s m args below meth c E M pm Q n kc ks (pc + 1) lv ((0, shl32 x y) :: st) C) : AW p l e R s m args below meth c E M pm Q n kc ks pc lv ((0, y) :: (0, x) :: st) C := by
  refine AW.step k (fun h => ok_c (i32_rng _) (ok_d2 h)) (fun hx hb os H locs ls Z kk => ?_)
  refine lv_ishl hx hb d ?_
  have kk := kk
  simp only [List.map_cons, cv, shl32, i32_of] at kk
  exact kk
theorem AW.ishr {x y : Int} (d : decode M.2.1 pc = .ok (.ishr, 1)) (k : AW p l e R s m args below meth c E M pm Q n kc ks (pc + 1) lv ((0, shr32 x y) :: st) C) : AW p l e R s m args below meth c E M pm Q n kc ks pc lv ((0, y) :: (0, x) :: st) C := by
  refine AW.step k (fun h => ok_c (i32_rng _) (ok_d2 h)) (fun hx hb os H locs ls Z kk => ?_)
  refine lv_ishr hx hb d ?_
  have kk := kk
  simp only [List.map_cons, cv, shr32, i32_of] at kk
  exact kk
theorem AW.land {x y : Int} (d : decode M.2.1 pc = .ok (.land, 1)) (k : AW p l e R s m args below meth c E M pm Q n kc ks (pc + 1) lv ((1, and64 x y) :: st) C) : AW p l e R s m args below meth c E M pm Q n kc ks pc lv ((1, y) :: (1, x) :: st) C := by
  refine AW.step k (fun h => ok_c (i64_rng _) (ok_d2 h)) (fun hx hb os H locs ls Z kk => ?_)
  refine lv_land hx hb d ?_
  have kk := kk
  simp only [List.map_cons, cv, and64, i64_of] at kk
  exact kk
theorem AW.lor {x y : Int} (d : decode M.2.1 pc = .ok (.lor, 1)) (k : AW p l e R s m args below meth c E M pm Q n kc ks (pc + 1) lv ((1, or64 x y) :: st) C) : AW p l e R s m args below meth c E M pm Q n kc ks pc lv ((1, y) :: (1, x) :: st) C := by
  refine AW.step k (fun h => ok_c (i64_rng _) (ok_d2 h)) (fun hx hb os H locs ls Z kk => ?_)
  refine lv_lor hx hb d ?_
  have kk := kk
  simp only [List.map_cons, cv, or64, i64_of] at kk
  exact kk
theorem AW.lxor {x y : Int} (d : decode M.2.1 pc = .ok (.lxor, 1)) (k : AW p l e R s m args below meth c E M pm Q n kc ks (pc + 1) lv ((1, xor64 x y) :: st) C) : AW p l e R s m args below meth c E M pm Q n kc ks pc lv ((1, y) :: (1, x) :: st) C := by
  refine AW.step k (fun h => ok_c (i64_rng _) (ok_d2 h)) (fun hx hb os H locs ls Z kk => ?_)
  refine lv_lxor hx hb d ?_
  have kk := kk
  simp only [List.map_cons, cv, xor64, i64_of] at kk
  exact kk
theorem AW.iushr {x y : Int} (d : decode M.2.1 pc = .ok (.iushr, 1)) (k : AW p l e R s m args below meth c E M pm Q n kc ks (pc + 1) lv ((0, ushr32 x y) :: st) C) : AW p l e R s m args below meth c E M pm Q n kc ks pc lv ((0, y) :: (0, x) :: st) C := by
  refine AW.step k (fun h => ok_c (i32_rng _) (ok_d2 h)) (fun hx hb os H locs ls Z kk => ?_)
  refine lv_iushr hx hb d rfl ?_
  have kk := kk
  simp only [List.map_cons, cv, ushr32, i32_of] at kk
  exact kk
theorem AW.idiv {x y : Int} (d : decode M.2.1 pc = .ok (.idiv, 1)) (hy : y ≠ 0) (k : AW p l e R s m args below meth c E M pm Q n kc ks (pc + 1) lv ((0, w32 (x.tdiv y)) :: st) C) : AW p l e R s m args below meth c E M pm Q n kc ks pc lv ((0, y) :: (0, x) :: st) C := by
  refine AW.step k (fun h => ok_c (w32_in _) (ok_d2 h)) (fun hx hb os H locs ls Z kk => ?_)
  have oy : okV (0, y) := (ok_1 os).1
  have ox : okV (0, x) := (ok_1 (ok_1 os).2).1
  refine lv_idiv hx hb d (fun h => hy ((i32_eq (b := 0) oy ⟨by decide, by decide⟩).mp h)) ?_
  rw [i32_div ox oy]
  exact kk
theorem AW.irem {x y : Int} (d : decode M.2.1 pc = .ok (.irem, 1)) (hy : y ≠ 0) (k : AW p l e R s m args below meth c E M pm Q n kc ks (pc + 1) lv ((0, w32 (x.tmod y)) :: st) C) : AW p l e R s m args below meth c E M pm Q n kc ks pc lv ((0, y) :: (0, x) :: st) C := by
  refine AW.step k (fun h => ok_c (w32_in _) (ok_d2 h)) (fun hx hb os H locs ls Z kk => ?_)
  have oy : okV (0, y) := (ok_1 os).1
  have ox : okV (0, x) := (ok_1 (ok_1 os).2).1
  refine lv_irem hx hb d (fun h => hy ((i32_eq (b := 0) oy ⟨by decide, by decide⟩).mp h)) ?_
  have e : Int32.ofInt x - Int32.ofInt x / Int32.ofInt y * Int32.ofInt y = Int32.ofInt (w32 (x - x.tdiv y * y)) := by
    rw [i32_div ox oy, i32_w, i32_w, Int32.ofInt_sub, Int32.ofInt_mul]
  have e2 : x - x.tdiv y * y = x.tmod y := by
    have := Int.tmod_add_tdiv_mul x y
    omega
  rw [e, e2]
  exact kk
theorem AW.ldiv {x y : Int} (d : decode M.2.1 pc = .ok (.ldiv, 1)) (hy : y ≠ 0) (k : AW p l e R s m args below meth c E M pm Q n kc ks (pc + 1) lv ((1, w64 (x.tdiv y)) :: st) C) : AW p l e R s m args below meth c E M pm Q n kc ks pc lv ((1, y) :: (1, x) :: st) C := by
  refine AW.step k (fun h => ok_c (w64_in _) (ok_d2 h)) (fun hx hb os H locs ls Z kk => ?_)
  have oy : okV (1, y) := (ok_1 os).1
  have ox : okV (1, x) := (ok_1 (ok_1 os).2).1
  refine lv_ldiv hx hb d (fun h => hy ((i64_eq (b := 0) oy ⟨by decide, by decide⟩).mp h)) ?_
  rw [i64_div ox oy]
  exact kk
theorem AW.lshl {x y : Int} (d : decode M.2.1 pc = .ok (.lshl, 1)) (k : AW p l e R s m args below meth c E M pm Q n kc ks (pc + 1) lv ((1, shl64 x y) :: st) C) : AW p l e R s m args below meth c E M pm Q n kc ks pc lv ((0, y) :: (1, x) :: st) C := by
  refine AW.step k (fun h => ok_c (i64_rng _) (ok_d2 h)) (fun hx hb os H locs ls Z kk => ?_)
  refine lv_lshl hx hb d rfl ?_
  have kk := kk
  simp only [List.map_cons, cv, shl64, i64_of] at kk
  exact kk
theorem AW.ineg {x : Int} (d : decode M.2.1 pc = .ok (.ineg, 1)) (k : AW p l e R s m args below meth c E M pm Q n kc ks (pc + 1) lv ((0, w32 (-x)) :: st) C) : AW p l e R s m args below meth c E M pm Q n kc ks pc lv ((0, x) :: st) C := by
  refine AW.step k (fun h => ok_c (w32_in _) (ok_1 h).2) (fun hx hb os H locs ls Z kk => ?_)
  refine lv_ineg hx hb d ?_
  rw [i32_neg]
  exact kk
theorem AW.i2l {x : Int} (d : decode M.2.1 pc = .ok (.i2l, 1)) (k : AW p l e R s m args below meth c E M pm Q n kc ks (pc + 1) lv ((1, x) :: st) C) : AW p l e R s m args below meth c E M pm Q n kc ks pc lv ((0, x) :: st) C := by
  refine AW.step k (fun h => ok_c (by have h1 : okV (0, x) := (ok_1 h).1; exact ⟨by have := h1.1; omega, by have := h1.2; omega⟩) (ok_1 h).2) (fun hx hb os H locs ls Z kk => ?_)
  have ox : okV (0, x) := (ok_1 os).1
  refine lv_i2l hx hb d (v := Int64.ofInt x) ?_ kk
  apply Int64.toInt_inj.mp
  rw [Int32.toInt_toInt64, i32_to, i64_to, w32_id ox.1 ox.2, w64_id (by have := ox.1; omega) (by have := ox.2; omega)]
theorem AW.l2i {x : Int} (d : decode M.2.1 pc = .ok (.l2i, 1)) (k : AW p l e R s m args below meth c E M pm Q n kc ks (pc + 1) lv ((0, w32 x) :: st) C) : AW p l e R s m args below meth c E M pm Q n kc ks pc lv ((1, x) :: st) C := by
  refine AW.step k (fun h => ok_c (w32_in _) (ok_1 h).2) (fun hx hb os H locs ls Z kk => ?_)
  have ox : okV (1, x) := (ok_1 os).1
  refine lv_l2i hx hb d (v := Int32.ofInt (w32 x)) ?_ kk
  apply Int32.toInt_inj.mp
  rw [Int64.toInt_toInt32, i32_w, i32_to, i64_to, w64_id ox.1 ox.2, w32_bmod]
theorem AW.i2b {x : Int} (d : decode M.2.1 pc = .ok (.i2b, 1)) (k : AW p l e R s m args below meth c E M pm Q n kc ks (pc + 1) lv ((0, w8 x) :: st) C) : AW p l e R s m args below meth c E M pm Q n kc ks pc lv ((0, x) :: st) C := by
  refine AW.step k (fun h => ok_c (by have := w8_in x; exact ⟨by omega, by omega⟩) (ok_1 h).2) (fun hx hb os H locs ls Z kk => ?_)
  have ox : okV (0, x) := (ok_1 os).1
  refine lv_i2b hx hb d (v := Int32.ofInt (w8 x)) ?_ kk
  apply Int32.toInt_inj.mp
  have := w8_in x
  rw [Int8.toInt_toInt32, Int32.toInt_toInt8, i32_to, i32_to, w32_id ox.1 ox.2, w32_id (by omega) (by omega), w8_bmod]
theorem AW.iconst {v : Int} (d : decode M.2.1 pc = .ok (.iconst v, 1)) (hv : -2147483648 ≤ v ∧ v ≤ 2147483647) (k : AW p l e R s m args below meth c E M pm Q n kc ks (pc + 1) lv ((0, v) :: st) C) : AW p l e R s m args below meth c E M pm Q n kc ks pc lv st C :=
  AW.step k (fun h => ok_c hv h) (fun hx hb _ _ _ _ _ kk => lv_iconst hx hb d rfl kk)
theorem AW.bipush {v : Int} (d : decode M.2.1 pc = .ok (.bipush v, 2)) (hv : -2147483648 ≤ v ∧ v ≤ 2147483647) (h8 : (Int8.ofInt v).toInt32 = Int32.ofInt v) (k : AW p l e R s m args below meth c E M pm Q n kc ks (pc + 2) lv ((0, v) :: st) C) : AW p l e R s m args below meth c E M pm Q n kc ks pc lv st C :=
  AW.step k (fun h => ok_c hv h) (fun hx hb _ _ _ _ _ kk => lv_bipush hx hb d h8 kk)
theorem AW.sipush {v : Int} (d : decode M.2.1 pc = .ok (.sipush v, 3)) (hv : -2147483648 ≤ v ∧ v ≤ 2147483647) (h8 : (Int16.ofInt v).toInt32 = Int32.ofInt v) (k : AW p l e R s m args below meth c E M pm Q n kc ks (pc + 3) lv ((0, v) :: st) C) : AW p l e R s m args below meth c E M pm Q n kc ks pc lv st C :=
  AW.step k (fun h => ok_c hv h) (fun hx hb _ _ _ _ _ kk => lv_sipush hx hb d h8 kk)
theorem AW.lconst {v : Int} {f : Fin 2} (d : decode M.2.1 pc = .ok (.lconst f, 1)) (hv : -9223372036854775808 ≤ v ∧ v ≤ 9223372036854775807) (h8 : Int64.ofNat (f : Nat) = Int64.ofInt v) (k : AW p l e R s m args below meth c E M pm Q n kc ks (pc + 1) lv ((1, v) :: st) C) : AW p l e R s m args below meth c E M pm Q n kc ks pc lv st C :=
  AW.step k (fun h => ok_c hv h) (fun hx hb _ _ _ _ _ kk => lv_lconst hx hb d h8 kk)
theorem AW.ldc {v : Int} {i : Nat} {z : Int32} (d : decode M.2.1 pc = .ok (.ldc i, 2)) (hm : Cond.constant M.1 i z ∈ lw_g) (hv : -2147483648 ≤ v ∧ v ≤ 2147483647) (hz : Int32.ofInt v = z) (k : AW p l e R s m args below meth c E M pm Q n kc ks (pc + 2) lv ((0, v) :: st) C) : AW p l e R s m args below meth c E M pm Q n kc ks pc lv st C := by
  intro hc H locs ls hR hI hS hl ol os
  have h := k hc H locs ls hR hI hS hl ol (ok_c hv os)
  subst hz
  exact lv_ldc hc.1.1 hc.1.2.1 hc.1.2.2.2.1 (hc.1.2.2.2.2 _ hm) d h
theorem AW.ldc_w {v : Int} {i : Nat} {z : Int32} (d : decode M.2.1 pc = .ok (.ldc_w i, 3)) (hm : Cond.constant M.1 i z ∈ lw_g) (hv : -2147483648 ≤ v ∧ v ≤ 2147483647) (hz : Int32.ofInt v = z) (k : AW p l e R s m args below meth c E M pm Q n kc ks (pc + 3) lv ((0, v) :: st) C) : AW p l e R s m args below meth c E M pm Q n kc ks pc lv st C := by
  intro hc H locs ls hR hI hS hl ol os
  have h := k hc H locs ls hR hI hS hl ol (ok_c hv os)
  subst hz
  exact lv_ldcw hc.1.1 hc.1.2.1 hc.1.2.2.2.1 (hc.1.2.2.2.2 _ hm) d h
theorem AW.ldc2 {v : Int} {i : Nat} {z : Int64} (d : decode M.2.1 pc = .ok (.ldc2_w i, 3)) (hm : Cond.constantLong M.1 i z ∈ lw_g) (hv : -9223372036854775808 ≤ v ∧ v ≤ 9223372036854775807) (hz : Int64.ofInt v = z) (k : AW p l e R s m args below meth c E M pm Q n kc ks (pc + 3) lv ((1, v) :: st) C) : AW p l e R s m args below meth c E M pm Q n kc ks pc lv st C := by
  intro hc H locs ls hR hI hS hl ol os
  have h := k hc H locs ls hR hI hS hl ol (ok_c hv os)
  subst hz
  exact lv_ldc2 hc.1.1 hc.1.2.1 hc.1.2.2.2.1 (hc.1.2.2.2.2 _ hm) d h
theorem AW.dup {v : Vl} (d : decode M.2.1 pc = .ok (.dup, 1)) (hv : v.1 ≠ 1) (k : AW p l e R s m args below meth c E M pm Q n kc ks (pc + 1) lv (v :: v :: st) C) : AW p l e R s m args below meth c E M pm Q n kc ks pc lv (v :: st) C :=
  AW.step k (fun h => ok_c (ok_1 h).1 h) (fun hx hb _ _ _ _ _ kk => lv_dup hx hb d (cv_cat1 E v hv) kk)
theorem AW.pop {v : Vl} (d : decode M.2.1 pc = .ok (.pop, 1)) (hv : v.1 ≠ 1) (k : AW p l e R s m args below meth c E M pm Q n kc ks (pc + 1) lv st C) : AW p l e R s m args below meth c E M pm Q n kc ks pc lv (v :: st) C :=
  AW.step k (fun h => (ok_1 h).2) (fun hx hb _ _ _ _ _ kk => lv_pop hx hb d (cv_cat1 E v hv) kk)
theorem AW.dup2 {v u : Vl} (d : decode M.2.1 pc = .ok (.dup2, 1)) (hv : v.1 ≠ 1) (hu : u.1 ≠ 1) (k : AW p l e R s m args below meth c E M pm Q n kc ks (pc + 1) lv (v :: u :: v :: u :: st) C) : AW p l e R s m args below meth c E M pm Q n kc ks pc lv (v :: u :: st) C :=
  AW.step k (fun h => ok_c (ok_1 h).1 (ok_c (ok_1 (ok_1 h).2).1 h)) (fun hx hb _ _ _ _ _ kk => lv_dup2_11 hx hb d (cv_cat1 E v hv) (cv_cat1 E u hu) kk)
theorem catle (E : Ev) (st : List Vl) : ((st.map (cv E)).map fun v => v.category).sum ≤ (st.map fun v => if v.1 = 1 then 2 else 1).sum := by
  induction st with
  | nil => exact Nat.le_refl 0
  | cons v st ih =>
    show (cv E v).category + ((st.map (cv E)).map fun v => v.category).sum ≤ (if v.1 = 1 then 2 else 1) + (st.map fun v => if v.1 = 1 then 2 else 1).sum
    have h1 : (cv E v).category ≤ if v.1 = 1 then 2 else 1 := by
      by_cases h : v.1 = 1
      · rw [if_pos h]
        rcases lv_cat (cv E v) with h | h <;> omega
      · rw [if_neg h, cv_cat1 E v h]
        exact Nat.le_refl 1
    omega
theorem AW.icmp_eq {x y : Int} {o : Int} {t : Nat} (d : decode M.2.1 pc = .ok (.if_icmp .eq o, 3)) (ht : (pc : Int) + o = (t : Int)) (kt : x = y → AW p l e R s m args below meth c E M pm Q n kc ks t lv st C) (kf : ¬ x = y → AW p l e R s m args below meth c E M pm Q n kc ks (pc + 3) lv st C) : AW p l e R s m args below meth c E M pm Q n kc ks pc lv ((0, y) :: (0, x) :: st) C := by
  intro hc H locs ls hR hI hS hl ol os
  have oy : okV (0, y) := (ok_1 os).1
  have ox : okV (0, x) := (ok_1 (ok_1 os).2).1
  have o2 := ok_d2 os
  have ee := i32_eq ox oy
  exact lv_icmp_eq hc.1.1 hc.1.2.1 d ht (fun z => kt (ee.mp z) hc H locs ls hR hI hS hl ol o2) (fun z => kf (fun q => z (ee.mpr q)) hc H locs ls hR hI hS hl ol o2)
theorem AW.if_eq {x : Int} {o : Int} {t : Nat} (d : decode M.2.1 pc = .ok (.ifCond .eq o, 3)) (ht : (pc : Int) + o = (t : Int)) (kt : x = 0 → AW p l e R s m args below meth c E M pm Q n kc ks t lv st C) (kf : ¬ x = 0 → AW p l e R s m args below meth c E M pm Q n kc ks (pc + 3) lv st C) : AW p l e R s m args below meth c E M pm Q n kc ks pc lv ((0, x) :: st) C := by
  intro hc H locs ls hR hI hS hl ol os
  have oy : okV (0, 0) := ⟨by decide, by decide⟩
  have ox : okV (0, x) := (ok_1 os).1
  have o2 := (ok_1 os).2
  have ee := i32_eq ox oy
  exact lv_if_eq hc.1.1 hc.1.2.1 d ht (fun z => kt (ee.mp z) hc H locs ls hR hI hS hl ol o2) (fun z => kf (fun q => z (ee.mpr q)) hc H locs ls hR hI hS hl ol o2)
theorem AW.icmp_ne {x y : Int} {o : Int} {t : Nat} (d : decode M.2.1 pc = .ok (.if_icmp .ne o, 3)) (ht : (pc : Int) + o = (t : Int)) (kt : ¬ x = y → AW p l e R s m args below meth c E M pm Q n kc ks t lv st C) (kf : x = y → AW p l e R s m args below meth c E M pm Q n kc ks (pc + 3) lv st C) : AW p l e R s m args below meth c E M pm Q n kc ks pc lv ((0, y) :: (0, x) :: st) C := by
  intro hc H locs ls hR hI hS hl ol os
  have oy : okV (0, y) := (ok_1 os).1
  have ox : okV (0, x) := (ok_1 (ok_1 os).2).1
  have o2 := ok_d2 os
  have ee := i32_eq ox oy
  exact lv_icmp_ne hc.1.1 hc.1.2.1 d ht (fun z => kt (fun q => z (ee.mpr q)) hc H locs ls hR hI hS hl ol o2) (fun z => kf (ee.mp z) hc H locs ls hR hI hS hl ol o2)
theorem AW.if_ne {x : Int} {o : Int} {t : Nat} (d : decode M.2.1 pc = .ok (.ifCond .ne o, 3)) (ht : (pc : Int) + o = (t : Int)) (kt : ¬ x = 0 → AW p l e R s m args below meth c E M pm Q n kc ks t lv st C) (kf : x = 0 → AW p l e R s m args below meth c E M pm Q n kc ks (pc + 3) lv st C) : AW p l e R s m args below meth c E M pm Q n kc ks pc lv ((0, x) :: st) C := by
  intro hc H locs ls hR hI hS hl ol os
  have oy : okV (0, 0) := ⟨by decide, by decide⟩
  have ox : okV (0, x) := (ok_1 os).1
  have o2 := (ok_1 os).2
  have ee := i32_eq ox oy
  exact lv_if_ne hc.1.1 hc.1.2.1 d ht (fun z => kt (fun q => z (ee.mpr q)) hc H locs ls hR hI hS hl ol o2) (fun z => kf (ee.mp z) hc H locs ls hR hI hS hl ol o2)
theorem AW.icmp_lt {x y : Int} {o : Int} {t : Nat} (d : decode M.2.1 pc = .ok (.if_icmp .lt o, 3)) (ht : (pc : Int) + o = (t : Int)) (kt : x < y → AW p l e R s m args below meth c E M pm Q n kc ks t lv st C) (kf : ¬ x < y → AW p l e R s m args below meth c E M pm Q n kc ks (pc + 3) lv st C) : AW p l e R s m args below meth c E M pm Q n kc ks pc lv ((0, y) :: (0, x) :: st) C := by
  intro hc H locs ls hR hI hS hl ol os
  have oy : okV (0, y) := (ok_1 os).1
  have ox : okV (0, x) := (ok_1 (ok_1 os).2).1
  have o2 := ok_d2 os
  have ee := i32_lt ox oy
  exact lv_icmp_lt hc.1.1 hc.1.2.1 d ht (fun z => kt (ee.mp z) hc H locs ls hR hI hS hl ol o2) (fun z => kf (fun q => z (ee.mpr q)) hc H locs ls hR hI hS hl ol o2)
theorem AW.if_lt {x : Int} {o : Int} {t : Nat} (d : decode M.2.1 pc = .ok (.ifCond .lt o, 3)) (ht : (pc : Int) + o = (t : Int)) (kt : x < 0 → AW p l e R s m args below meth c E M pm Q n kc ks t lv st C) (kf : ¬ x < 0 → AW p l e R s m args below meth c E M pm Q n kc ks (pc + 3) lv st C) : AW p l e R s m args below meth c E M pm Q n kc ks pc lv ((0, x) :: st) C := by
  intro hc H locs ls hR hI hS hl ol os
  have oy : okV (0, 0) := ⟨by decide, by decide⟩
  have ox : okV (0, x) := (ok_1 os).1
  have o2 := (ok_1 os).2
  have ee := i32_lt ox oy
  exact lv_if_lt hc.1.1 hc.1.2.1 d ht (fun z => kt (ee.mp z) hc H locs ls hR hI hS hl ol o2) (fun z => kf (fun q => z (ee.mpr q)) hc H locs ls hR hI hS hl ol o2)
theorem AW.icmp_ge {x y : Int} {o : Int} {t : Nat} (d : decode M.2.1 pc = .ok (.if_icmp .ge o, 3)) (ht : (pc : Int) + o = (t : Int)) (kt : y ≤ x → AW p l e R s m args below meth c E M pm Q n kc ks t lv st C) (kf : ¬ y ≤ x → AW p l e R s m args below meth c E M pm Q n kc ks (pc + 3) lv st C) : AW p l e R s m args below meth c E M pm Q n kc ks pc lv ((0, y) :: (0, x) :: st) C := by
  intro hc H locs ls hR hI hS hl ol os
  have oy : okV (0, y) := (ok_1 os).1
  have ox : okV (0, x) := (ok_1 (ok_1 os).2).1
  have o2 := ok_d2 os
  have ee := i32_le oy ox
  exact lv_icmp_ge hc.1.1 hc.1.2.1 d ht (fun z => kt (ee.mp z) hc H locs ls hR hI hS hl ol o2) (fun z => kf (fun q => z (ee.mpr q)) hc H locs ls hR hI hS hl ol o2)
theorem AW.if_ge {x : Int} {o : Int} {t : Nat} (d : decode M.2.1 pc = .ok (.ifCond .ge o, 3)) (ht : (pc : Int) + o = (t : Int)) (kt : 0 ≤ x → AW p l e R s m args below meth c E M pm Q n kc ks t lv st C) (kf : ¬ 0 ≤ x → AW p l e R s m args below meth c E M pm Q n kc ks (pc + 3) lv st C) : AW p l e R s m args below meth c E M pm Q n kc ks pc lv ((0, x) :: st) C := by
  intro hc H locs ls hR hI hS hl ol os
  have oy : okV (0, 0) := ⟨by decide, by decide⟩
  have ox : okV (0, x) := (ok_1 os).1
  have o2 := (ok_1 os).2
  have ee := i32_le oy ox
  exact lv_if_ge hc.1.1 hc.1.2.1 d ht (fun z => kt (ee.mp z) hc H locs ls hR hI hS hl ol o2) (fun z => kf (fun q => z (ee.mpr q)) hc H locs ls hR hI hS hl ol o2)
theorem AW.icmp_gt {x y : Int} {o : Int} {t : Nat} (d : decode M.2.1 pc = .ok (.if_icmp .gt o, 3)) (ht : (pc : Int) + o = (t : Int)) (kt : y < x → AW p l e R s m args below meth c E M pm Q n kc ks t lv st C) (kf : ¬ y < x → AW p l e R s m args below meth c E M pm Q n kc ks (pc + 3) lv st C) : AW p l e R s m args below meth c E M pm Q n kc ks pc lv ((0, y) :: (0, x) :: st) C := by
  intro hc H locs ls hR hI hS hl ol os
  have oy : okV (0, y) := (ok_1 os).1
  have ox : okV (0, x) := (ok_1 (ok_1 os).2).1
  have o2 := ok_d2 os
  have ee := i32_lt oy ox
  exact lv_icmp_gt hc.1.1 hc.1.2.1 d ht (fun z => kt (ee.mp z) hc H locs ls hR hI hS hl ol o2) (fun z => kf (fun q => z (ee.mpr q)) hc H locs ls hR hI hS hl ol o2)
theorem AW.if_gt {x : Int} {o : Int} {t : Nat} (d : decode M.2.1 pc = .ok (.ifCond .gt o, 3)) (ht : (pc : Int) + o = (t : Int)) (kt : 0 < x → AW p l e R s m args below meth c E M pm Q n kc ks t lv st C) (kf : ¬ 0 < x → AW p l e R s m args below meth c E M pm Q n kc ks (pc + 3) lv st C) : AW p l e R s m args below meth c E M pm Q n kc ks pc lv ((0, x) :: st) C := by
  intro hc H locs ls hR hI hS hl ol os
  have oy : okV (0, 0) := ⟨by decide, by decide⟩
  have ox : okV (0, x) := (ok_1 os).1
  have o2 := (ok_1 os).2
  have ee := i32_lt oy ox
  exact lv_if_gt hc.1.1 hc.1.2.1 d ht (fun z => kt (ee.mp z) hc H locs ls hR hI hS hl ol o2) (fun z => kf (fun q => z (ee.mpr q)) hc H locs ls hR hI hS hl ol o2)
theorem AW.icmp_le {x y : Int} {o : Int} {t : Nat} (d : decode M.2.1 pc = .ok (.if_icmp .le o, 3)) (ht : (pc : Int) + o = (t : Int)) (kt : x ≤ y → AW p l e R s m args below meth c E M pm Q n kc ks t lv st C) (kf : ¬ x ≤ y → AW p l e R s m args below meth c E M pm Q n kc ks (pc + 3) lv st C) : AW p l e R s m args below meth c E M pm Q n kc ks pc lv ((0, y) :: (0, x) :: st) C := by
  intro hc H locs ls hR hI hS hl ol os
  have oy : okV (0, y) := (ok_1 os).1
  have ox : okV (0, x) := (ok_1 (ok_1 os).2).1
  have o2 := ok_d2 os
  have ee := i32_le ox oy
  exact lv_icmp_le hc.1.1 hc.1.2.1 d ht (fun z => kt (ee.mp z) hc H locs ls hR hI hS hl ol o2) (fun z => kf (fun q => z (ee.mpr q)) hc H locs ls hR hI hS hl ol o2)
theorem AW.if_le {x : Int} {o : Int} {t : Nat} (d : decode M.2.1 pc = .ok (.ifCond .le o, 3)) (ht : (pc : Int) + o = (t : Int)) (kt : x ≤ 0 → AW p l e R s m args below meth c E M pm Q n kc ks t lv st C) (kf : ¬ x ≤ 0 → AW p l e R s m args below meth c E M pm Q n kc ks (pc + 3) lv st C) : AW p l e R s m args below meth c E M pm Q n kc ks pc lv ((0, x) :: st) C := by
  intro hc H locs ls hR hI hS hl ol os
  have oy : okV (0, 0) := ⟨by decide, by decide⟩
  have ox : okV (0, x) := (ok_1 os).1
  have o2 := (ok_1 os).2
  have ee := i32_le ox oy
  exact lv_if_le hc.1.1 hc.1.2.1 d ht (fun z => kt (ee.mp z) hc H locs ls hR hI hS hl ol o2) (fun z => kf (fun q => z (ee.mpr q)) hc H locs ls hR hI hS hl ol o2)
theorem AW.goto {o : Int} {t : Nat} (d : decode M.2.1 pc = .ok (.goto o, 3)) (ht : (pc : Int) + o = (t : Int)) (k : AW p l e R s m args below meth c E M pm Q n kc ks t lv st C) : AW p l e R s m args below meth c E M pm Q n kc ks pc lv st C :=
  AW.step k (fun h => h) (fun hx hb _ _ _ _ _ kk => lv_goto hx hb d ht kk)
def lcmpI (x y : Int) : Int := if y < x then 1 else if x = y then 0 else -1
theorem lcmpI_in (x y : Int) : -1 ≤ lcmpI x y ∧ lcmpI x y ≤ 1 := by
  unfold lcmpI
  split
  · omega
  · split <;> omega
theorem AW.lcmp {x y : Int} (d : decode M.2.1 pc = .ok (.lcmp, 1)) (k : AW p l e R s m args below meth c E M pm Q n kc ks (pc + 1) lv ((0, lcmpI x y) :: st) C) : AW p l e R s m args below meth c E M pm Q n kc ks pc lv ((1, y) :: (1, x) :: st) C := by
  refine AW.step k (fun h => ok_c (by have h1 := lcmpI_in x y; exact ⟨by omega, by omega⟩) (ok_d2 h)) (fun hx hb os H locs ls Z kk => ?_)
  have oy : okV (1, y) := (ok_1 os).1
  have ox : okV (1, x) := (ok_1 (ok_1 os).2).1
  refine W.lcmp hx hb d ?_
  have e : lg_cmp (Int64.ofInt x) (Int64.ofInt y) = Int32.ofInt (lcmpI x y) := by
    unfold lg_cmp lcmpI
    simp only [gt_iff_lt, i64_lt oy ox, i64_eq ox oy]
    split
    · rfl
    · split <;> rfl
  rw [e]
  exact kk
theorem AW.iload {x : Int} {i : Nat} (d : decode M.2.1 pc = .ok (.iload i, 2)) (h : lv[i]? = some (0, x)) (k : AW p l e R s m args below meth c E M pm Q n kc ks (pc + 2) lv ((0, x) :: st) C) : AW p l e R s m args below meth c E M pm Q n kc ks pc lv st C := by
  intro hc H locs ls hR hI hS hl ol os
  exact lv_iload hc.1.1 hc.1.2.1 d (hl.2.2 i _ h (Nat.le_of_ble_eq_true rfl)) (k hc H locs ls hR hI hS hl ol (ok_c (ol _ (List.mem_of_getElem? h)) os))
theorem AW.iload_n {x : Int} {f : Fin 4} (d : decode M.2.1 pc = .ok (.iload_n f, 1)) (h : lv[(f : Nat)]? = some (0, x)) (k : AW p l e R s m args below meth c E M pm Q n kc ks (pc + 1) lv ((0, x) :: st) C) : AW p l e R s m args below meth c E M pm Q n kc ks pc lv st C := by
  intro hc H locs ls hR hI hS hl ol os
  exact lv_iload_n hc.1.1 hc.1.2.1 d rfl (hl.2.2 _ _ h (Nat.le_of_ble_eq_true rfl)) (k hc H locs ls hR hI hS hl ol (ok_c (ol _ (List.mem_of_getElem? h)) os))
theorem AW.lload {x : Int} {i : Nat} (d : decode M.2.1 pc = .ok (.lload i, 2)) (h : lv[i]? = some (1, x)) (k : AW p l e R s m args below meth c E M pm Q n kc ks (pc + 2) lv ((1, x) :: st) C) : AW p l e R s m args below meth c E M pm Q n kc ks pc lv st C := by
  intro hc H locs ls hR hI hS hl ol os
  exact lv_lload hc.1.1 hc.1.2.1 d (hl.2.2 i _ h (Nat.le_of_ble_eq_true rfl)) (k hc H locs ls hR hI hS hl ol (ok_c (ol _ (List.mem_of_getElem? h)) os))
theorem AW.lload_n {x : Int} {f : Fin 4} (d : decode M.2.1 pc = .ok (.lload_n f, 1)) (h : lv[(f : Nat)]? = some (1, x)) (k : AW p l e R s m args below meth c E M pm Q n kc ks (pc + 1) lv ((1, x) :: st) C) : AW p l e R s m args below meth c E M pm Q n kc ks pc lv st C := by
  intro hc H locs ls hR hI hS hl ol os
  exact lv_lload_n hc.1.1 hc.1.2.1 d rfl (hl.2.2 _ _ h (Nat.le_of_ble_eq_true rfl)) (k hc H locs ls hR hI hS hl ol (ok_c (ol _ (List.mem_of_getElem? h)) os))
theorem cv_ref (E : Ev) (v : Vl) (h0 : v.1 ≠ 0) (h1 : v.1 ≠ 1) : (∃ a, cv E v = .ref a) ∨ cv E v = .null := by
  obtain ⟨t, x⟩ := v
  have hq : ∀ o : Option Nat, (∃ a, va_rf o = .ref a) ∨ va_rf o = .null := fun o => by
    cases o with
    | none => exact Or.inr rfl
    | some a => exact Or.inl ⟨a, rfl⟩
  match t, h0, h1 with
  | 0, h0, _ => exact absurd rfl h0
  | 1, _, h1 => exact absurd rfl h1
  | 2, _, _ => exact hq _
  | 3, _, _ => exact Or.inl ⟨_, rfl⟩
  | t + 4, _, _ => exact hq _
theorem AW.aload {v : Vl} {i : Nat} (d : decode M.2.1 pc = .ok (.aload i, 2)) (h : lv[i]? = some v) (h0 : v.1 ≠ 0) (h1 : v.1 ≠ 1) (h9 : v.1 < 9) (k : AW p l e R s m args below meth c E M pm Q n kc ks (pc + 2) lv (v :: st) C) : AW p l e R s m args below meth c E M pm Q n kc ks pc lv st C := by
  intro hc H locs ls hR hI hS hl ol os
  have hk := k hc H locs ls hR hI hS hl ol (ok_c (ol _ (List.mem_of_getElem? h)) os)
  have hv := hl.2.2 _ _ h h9
  rw [List.map_cons] at hk
  rcases cv_ref E v h0 h1 with ⟨a, ha⟩ | ha
  · rw [ha] at hv hk
    exact lv_aload hc.1.1 hc.1.2.1 d hv hk
  · rw [ha] at hv hk
    exact lv_aloadN hc.1.1 hc.1.2.1 d hv hk
theorem AW.istore {x : Int} {i : Nat} (lv2 : List Vl) (d : decode M.2.1 pc = .ok (.istore i, 2)) (hn : i < M.2.2.1) (hn2 : nl lv i = true) (hlv : lv.set i (0, x) = lv2) (k : AW p l e R s m args below meth c E M pm Q n kc ks (pc + 2) lv2 st C) : AW p l e R s m args below meth c E M pm Q n kc ks pc lv ((0, x) :: st) C := by
  subst hlv
  intro hc H locs ls hR hI hS hl ol os
  exact lv_istore hc.1.1 hc.1.2.1 d (lvh_has hl) hn rfl (fun ls2 h2 => k hc H locs ls2 hR hI hS (lvh_set1 (v := (0, x)) hn2 h2) (ok_set ol (ok_1 os).1) (ok_1 os).2)
theorem AW.lstore {x : Int} {i : Nat} (lv2 : List Vl) (d : decode M.2.1 pc = .ok (.lstore i, 2)) (hn : i + 1 < M.2.2.1) (hn2 : nl lv i = true) (hlv : (lv.set i (1, x)).set (i + 1) (9, 0) = lv2) (k : AW p l e R s m args below meth c E M pm Q n kc ks (pc + 2) lv2 st C) : AW p l e R s m args below meth c E M pm Q n kc ks pc lv ((1, x) :: st) C := by
  subst hlv
  intro hc H locs ls hR hI hS hl ol os
  exact lv_lstore hc.1.1 hc.1.2.1 d (lvh_has hl) hn rfl (fun ls2 h2 => k hc H locs ls2 hR hI hS (lvh_set2 (v := (1, x)) hn2 h2) (ok_set (ok_set ol (ok_1 os).1) trivial) (ok_1 os).2)
theorem AW.astore {v : Vl} {i : Nat} (lv2 : List Vl) (d : decode M.2.1 pc = .ok (.astore i, 2)) (hn : i < M.2.2.1) (hn2 : nl lv i = true) (h0 : v.1 ≠ 0) (h1 : v.1 ≠ 1) (hlv : lv.set i v = lv2) (k : AW p l e R s m args below meth c E M pm Q n kc ks (pc + 2) lv2 st C) : AW p l e R s m args below meth c E M pm Q n kc ks pc lv (v :: st) C := by
  subst hlv
  intro hc H locs ls hR hI hS hl ol os
  have kk : ∀ ls2, lv_has ls2 M.2.2.1 ((i, cv E v) :: (ents E lv).filter (fun q => !(q.1 == i) && !(q.1 + 1 == i && q.2.category == 2))) → W p l e R s m args below meth c H locs kc ks (MQ below (QcA E pm M.2.2.2.2.2.1 Q) args s M.2.2.2.2.2.2.cells M.2.2.2.2.2.2.slots (eA E)) (F0 m (pc + 2) ls2 (st.map (cv E))) := fun ls2 h2 => k hc H locs ls2 hR hI hS (lvh_set1 hn2 h2) (ok_set ol (ok_1 os).1) (ok_1 os).2
  rw [List.map_cons]
  rcases cv_ref E v h0 h1 with ⟨a, ha⟩ | ha
  · rw [ha] at kk ⊢
    exact lv_astore hc.1.1 hc.1.2.1 d (lvh_has hl) hn rfl kk
  · rw [ha] at kk ⊢
    exact lv_astoreN hc.1.1 hc.1.2.1 d (lvh_has hl) hn rfl kk
theorem AW.aload_n {v : Vl} {f : Fin 4} (d : decode M.2.1 pc = .ok (.aload_n f, 1)) (h : lv[(f : Nat)]? = some v) (h0 : v.1 ≠ 0) (h1 : v.1 ≠ 1) (h9 : v.1 < 9) (k : AW p l e R s m args below meth c E M pm Q n kc ks (pc + 1) lv (v :: st) C) : AW p l e R s m args below meth c E M pm Q n kc ks pc lv st C := by
  intro hc H locs ls hR hI hS hl ol os
  have hk := k hc H locs ls hR hI hS hl ol (ok_c (ol _ (List.mem_of_getElem? h)) os)
  have hv := hl.2.2 _ _ h h9
  rw [List.map_cons] at hk
  rcases cv_ref E v h0 h1 with ⟨a, ha⟩ | ha
  · rw [ha] at hv hk
    exact lv_aload_n hc.1.1 hc.1.2.1 d rfl hv hk
  · rw [ha] at hv hk
    exact lv_aload_nN hc.1.1 hc.1.2.1 d rfl hv hk
theorem AW.istore_n {x : Int} {f : Fin 4} (lv2 : List Vl) (d : decode M.2.1 pc = .ok (.istore_n f, 1)) (hn : (f : Nat) < M.2.2.1) (hn2 : nl lv (f : Nat) = true) (hlv : lv.set (f : Nat) (0, x) = lv2) (k : AW p l e R s m args below meth c E M pm Q n kc ks (pc + 1) lv2 st C) : AW p l e R s m args below meth c E M pm Q n kc ks pc lv ((0, x) :: st) C := by
  subst hlv
  intro hc H locs ls hR hI hS hl ol os
  exact lv_istore_n hc.1.1 hc.1.2.1 d rfl (lvh_has hl) hn rfl (fun ls2 h2 => k hc H locs ls2 hR hI hS (lvh_set1 (v := (0, x)) hn2 h2) (ok_set ol (ok_1 os).1) (ok_1 os).2)
theorem AW.lstore_n {x : Int} {f : Fin 4} (lv2 : List Vl) (d : decode M.2.1 pc = .ok (.lstore_n f, 1)) (hn : (f : Nat) + 1 < M.2.2.1) (hn2 : nl lv (f : Nat) = true) (hlv : (lv.set (f : Nat) (1, x)).set ((f : Nat) + 1) (9, 0) = lv2) (k : AW p l e R s m args below meth c E M pm Q n kc ks (pc + 1) lv2 st C) : AW p l e R s m args below meth c E M pm Q n kc ks pc lv ((1, x) :: st) C := by
  subst hlv
  intro hc H locs ls hR hI hS hl ol os
  exact lv_lstore_n hc.1.1 hc.1.2.1 d rfl (lvh_has hl) hn rfl (fun ls2 h2 => k hc H locs ls2 hR hI hS (lvh_set2 (v := (1, x)) hn2 h2) (ok_set (ok_set ol (ok_1 os).1) trivial) (ok_1 os).2)
theorem AW.astore_n {v : Vl} {f : Fin 4} (lv2 : List Vl) (d : decode M.2.1 pc = .ok (.astore_n f, 1)) (hn : (f : Nat) < M.2.2.1) (hn2 : nl lv (f : Nat) = true) (h0 : v.1 ≠ 0) (h1 : v.1 ≠ 1) (hlv : lv.set (f : Nat) v = lv2) (k : AW p l e R s m args below meth c E M pm Q n kc ks (pc + 1) lv2 st C) : AW p l e R s m args below meth c E M pm Q n kc ks pc lv (v :: st) C := by
  subst hlv
  intro hc H locs ls hR hI hS hl ol os
  have kk : ∀ ls2, lv_has ls2 M.2.2.1 (((f : Nat), cv E v) :: (ents E lv).filter (fun q => !(q.1 == (f : Nat)) && !(q.1 + 1 == (f : Nat) && q.2.category == 2))) → W p l e R s m args below meth c H locs kc ks (MQ below (QcA E pm M.2.2.2.2.2.1 Q) args s M.2.2.2.2.2.2.cells M.2.2.2.2.2.2.slots (eA E)) (F0 m (pc + 1) ls2 (st.map (cv E))) := fun ls2 h2 => k hc H locs ls2 hR hI hS (lvh_set1 hn2 h2) (ok_set ol (ok_1 os).1) (ok_1 os).2
  rw [List.map_cons]
  rcases cv_ref E v h0 h1 with ⟨a, ha⟩ | ha
  · rw [ha] at kk ⊢
    exact lv_astore_n hc.1.1 hc.1.2.1 d rfl (lvh_has hl) hn rfl kk
  · rw [ha] at kk ⊢
    exact lv_astore_nN hc.1.1 hc.1.2.1 d rfl (lvh_has hl) hn rfl kk
theorem AW.iinc {x : Int} {i : Nat} {o : Int} (lv2 : List Vl) (d : decode M.2.1 pc = .ok (.iinc i o, 3)) (h : lv[i]? = some (0, x)) (hn : i < M.2.2.1) (hn2 : nl lv i = true) (hlv : lv.set i (0, w32 (x + o)) = lv2) (k : AW p l e R s m args below meth c E M pm Q n kc ks (pc + 3) lv2 st C) : AW p l e R s m args below meth c E M pm Q n kc ks pc lv st C := by
  subst hlv
  intro hc H locs ls hR hI hS hl ol os
  obtain ⟨j, hj⟩ := List.getElem?_of_mem (ents_mem (E := E) h (Nat.le_of_ble_eq_true rfl))
  refine lv_iinc (v := Int32.ofInt (w32 (x + o))) hc.1.1 hc.1.2.1 d (lvh_has hl) hj (i32_add x o) hn rfl (fun ls2 h2 => k hc H locs ls2 hR hI hS (lvh_set1 (v := (0, w32 (x + o))) hn2 h2) (ok_set ol (w32_in _)) os)
def lvle : List Vl → List Vl → Prop
  | [], _ => True
  | a :: l, b :: k => (a = b ∨ a = (9, 0)) ∧ lvle l k
  | _ :: _, [] => False
theorem lvle_get : ∀ {a b : List Vl}, lvle a b → ∀ (i : Nat) (v : Vl), a[i]? = some v → v = (9, 0) ∨ b[i]? = some v
  | [], _, _, i, v, h => by simp at h
  | x :: l, [], hl, _, _, _ => False.elim hl
  | x :: l, y :: k, hl, 0, v, h => by
    simp at h
    subst h
    rcases hl.1 with h | h
    · exact Or.inr (by rw [h]; rfl)
    · exact Or.inl h
  | x :: l, y :: k, hl, i + 1, v, h => by
    have := lvle_get hl.2 i v (by simpa using h)
    simpa using this
theorem AW.fgt (lv2 : List Vl) (h : lvle lv2 lv) (k : AW p l e R s m args below meth c E M pm Q n kc ks pc lv2 st C) : AW p l e R s m args below meth c E M pm Q n kc ks pc lv st C := by
  intro hc H locs ls hR hI hS hl ol os
  refine k hc H locs ls hR hI hS ⟨hl.1, hl.2.1, fun i v hv h9 => ?_⟩ (fun v hv => ?_) os
  · rcases lvle_get h i v hv with h1 | h1
    · rw [h1] at h9; exact absurd h9 (by decide)
    · exact hl.2.2 i v h1 h9
  · obtain ⟨i, hi⟩ := List.getElem?_of_mem hv
    rcases lvle_get h i v hi with h1 | h1
    · rw [h1]; exact trivial
    · exact ol v (List.mem_of_getElem? h1)
theorem AW.tsw {x dflt lo hi : Int} {offs : Array Int} {len : Nat} {td : Nat} (d : decode M.2.1 pc = .ok (.tableswitch dflt lo hi offs, len)) (tg : List Nat) (hs : offs.toList = tg.map (fun (t : Nat) => (t : Int) - (pc : Int))) (hd : (pc : Int) + dflt = (td : Int)) (hlen : (tg.length : Int) = hi - lo + 1)
    (kin : ∀ (j : Nat) (t : Nat), tg[j]? = some t → x = lo + j → AW p l e R s m args below meth c E M pm Q n kc ks t lv st C) (kout : (x < lo ∨ hi < x) → AW p l e R s m args below meth c E M pm Q n kc ks td lv st C) : AW p l e R s m args below meth c E M pm Q n kc ks pc lv ((0, x) :: st) C := by
  intro hc H locs ls hR hI hS hl ol os
  have ox : okV (0, x) := (ok_1 os).1
  have ex : (Int32.ofInt x).toInt = x := by rw [i32_to, w32_id ox.1 ox.2]
  by_cases h1 : x < lo ∨ hi < x
  · exact lv_tableOut hc.1.1 hc.1.2.1 d (by rw [ex]; exact h1) hd (kout h1 hc H locs ls hR hI hS hl ol (ok_1 os).2)
  · have hj : (x - lo).toNat < tg.length := by omega
    refine lv_tableIn (tgt := tg[(x - lo).toNat]) hc.1.1 hc.1.2.1 d (by rw [ex]; omega) (by rw [ex]; omega) (off := (tg[(x - lo).toNat] : Int) - (pc : Int)) ?_ (by omega) (kin (x - lo).toNat _ (List.getElem?_eq_getElem hj) (by omega) hc H locs ls hR hI hS hl ol (ok_1 os).2)
    rw [ex, ← Array.getElem?_toList, hs, List.getElem?_map, List.getElem?_eq_getElem hj]
    rfl
theorem AW.iret {x : Int} (d : decode M.2.1 pc = .ok (.ireturn, 1)) (hr : M.2.2.2.1 = some .int) (ht : M.2.2.2.2.2.1 = 0) (h1 : kc ≤ M.2.2.2.2.2.2.cells) (h2 : ks ≤ M.2.2.2.2.2.2.slots) (hq : Q x C n) : AW p l e R s m args below meth c E M pm Q n kc ks pc lv ((0, x) :: []) C := by
  intro hc H locs ls hR hI hS hl ol os
  refine W.widen h1 h2 ?_
  exact W.iret hc.1.1 hc.1.2.1 (hc.2.1.trans hr) (fun t e hW => ⟨x, C, n, by rw [ht]; rfl, hq, by rw [e]; exact hR, hI, by rw [ht]; exact (ok_1 os).1, hS.F e⟩) hS.2.2 d hc.2.2.1
theorem nar_b {x : Int} (h : x = 0 ∨ x = 1) : narrow .boolean (.int (Int32.ofInt x)) = .int (Int32.ofInt x) := by
  rcases h with rfl | rfl <;> decide +kernel
theorem AW.zret {x : Int} (d : decode M.2.1 pc = .ok (.ireturn, 1)) (hr : M.2.2.2.1 = some .boolean) (ht : M.2.2.2.2.2.1 = 0) (h1 : kc ≤ M.2.2.2.2.2.2.cells) (h2 : ks ≤ M.2.2.2.2.2.2.slots) (hb : x = 0 ∨ x = 1) (hq : Q x C n) : AW p l e R s m args below meth c E M pm Q n kc ks pc lv ((0, x) :: []) C := by
  intro hc H locs ls hR hI hS hl ol os
  refine W.widen h1 h2 ?_
  exact W.zret hc.1.1 hc.1.2.1 (hc.2.1.trans hr) (nar_b hb) (fun t e hW => ⟨x, C, n, by rw [ht]; rfl, hq, by rw [e]; exact hR, hI, by rw [ht]; exact (ok_1 os).1, hS.F e⟩) hS.2.2 d hc.2.2.1
theorem AW.lret {x : Int} (d : decode M.2.1 pc = .ok (.lreturn, 1)) (hr : M.2.2.2.1 = some .long) (ht : M.2.2.2.2.2.1 = 1) (h1 : kc ≤ M.2.2.2.2.2.2.cells) (h2 : ks ≤ M.2.2.2.2.2.2.slots) (hq : Q x C n) : AW p l e R s m args below meth c E M pm Q n kc ks pc lv ((1, x) :: []) C := by
  intro hc H locs ls hR hI hS hl ol os
  refine W.widen h1 h2 ?_
  exact W.lret hc.1.1 hc.1.2.1 (hc.2.1.trans hr) (fun t e hW => ⟨x, C, n, by rw [ht]; rfl, hq, by rw [e]; exact hR, hI, by rw [ht]; exact (ok_1 os).1, hS.F e⟩) hS.2.2 d hc.2.2.1
theorem AW.vret (d : decode M.2.1 pc = .ok (.return_, 1)) (hr : M.2.2.2.1 = none) (ht : M.2.2.2.2.2.1 = 8) (h1 : kc ≤ M.2.2.2.2.2.2.cells) (h2 : ks ≤ M.2.2.2.2.2.2.slots) (hq : Q 0 C n) : AW p l e R s m args below meth c E M pm Q n kc ks pc lv [] C := by
  intro hc H locs ls hR hI hS hl ol os
  refine W.widen h1 h2 ?_
  exact W.vret hc.1.1 hc.1.2.1 (hc.2.1.trans hr) (fun t e hW => ⟨0, C, n, by rw [ht]; rfl, hq, by rw [e]; exact hR, hI, by rw [ht]; exact trivial, hS.F e⟩) hS.2.2 d hc.2.2.1
def imax (x y : Int) : Int := if x < y then y else x
def imin (x y : Int) : Int := if y < x then y else x
theorem AW.mmax {x y : Int} {i : Nat} (d : decode M.2.1 pc = .ok (.invokestatic i, 3)) (hm : Cond.methodLink M.1 i Lib.Math.max.name ∈ lw_g ∧ Cond.static Lib.Math.max.name ∈ lw_g ∧ Cond.initialized "java/lang/Math" ∈ lw_g ∧ Cond.code Lib.Math.max.name Lib.Math.max.code 2 (some .int) ∈ lw_g) (hf : 1 ≤ M.2.2.2.2.2.2.frames) (hlo : 21 ≤ M.2.2.2.2.2.2.locals) (hcat : ((st.map fun v => if v.1 = 1 then 2 else 1).sum : Nat) ≤ 8) (h1 : kc ≤ M.2.2.2.2.2.2.cells) (h2 : ks ≤ M.2.2.2.2.2.2.slots) (k : AW p l e R s m args below meth c E M pm Q n kc ks (pc + 3) lv ((0, imax x y) :: st) C) : AW p l e R s m args below meth c E M pm Q n kc ks pc lv ((0, y) :: (0, x) :: st) C := by
  intro hc H locs ls hR hI hS hl ol os
  have oy : okV (0, y) := (ok_1 os).1
  have ox : okV (0, x) := (ok_1 (ok_1 os).2).1
  have kk := k hc H locs ls hR hI hS hl ol (ok_c (by unfold imax; split; exact oy; exact ox) (ok_d2 os))
  have hw := hc.1.2.2.2.2
  have hcl := catle E st
  refine va_mmax hc.1.1 hc.1.2.1 (hc.1.2.2.1.trans hl.1.symm) hc.1.2.2.2.1 (hw _ hm.1) (hw _ hm.2.1) (hw _ hm.2.2.1) (hw _ hm.2.2.2) (by rw [hc.2.2.2.2.2]; exact hf) (by rw [hc.2.2.2.2.2]; omega) (by rw [hc.2.2.2.2.2]; exact h1) (by rw [hc.2.2.2.2.2]; exact h2) d ?_
  have e : (if Int32.ofInt x < Int32.ofInt y then Int32.ofInt y else Int32.ofInt x) = Int32.ofInt (imax x y) := by
    unfold imax
    by_cases h : x < y
    · rw [if_pos h, if_pos ((i32_lt ox oy).mpr h)]
    · rw [if_neg h, if_neg (fun q => h ((i32_lt ox oy).mp q))]
  rw [e]
  exact kk
theorem AW.mmin {x y : Int} {i : Nat} (d : decode M.2.1 pc = .ok (.invokestatic i, 3)) (hm : Cond.methodLink M.1 i Lib.Math.min.name ∈ lw_g ∧ Cond.static Lib.Math.min.name ∈ lw_g ∧ Cond.initialized "java/lang/Math" ∈ lw_g ∧ Cond.code Lib.Math.min.name Lib.Math.min.code 2 (some .int) ∈ lw_g) (hf : 1 ≤ M.2.2.2.2.2.2.frames) (hlo : 21 ≤ M.2.2.2.2.2.2.locals) (hcat : ((st.map fun v => if v.1 = 1 then 2 else 1).sum : Nat) ≤ 8) (h1 : kc ≤ M.2.2.2.2.2.2.cells) (h2 : ks ≤ M.2.2.2.2.2.2.slots) (k : AW p l e R s m args below meth c E M pm Q n kc ks (pc + 3) lv ((0, imin x y) :: st) C) : AW p l e R s m args below meth c E M pm Q n kc ks pc lv ((0, y) :: (0, x) :: st) C := by
  intro hc H locs ls hR hI hS hl ol os
  have oy : okV (0, y) := (ok_1 os).1
  have ox : okV (0, x) := (ok_1 (ok_1 os).2).1
  have kk := k hc H locs ls hR hI hS hl ol (ok_c (by unfold imin; split; exact oy; exact ox) (ok_d2 os))
  have hw := hc.1.2.2.2.2
  have hcl := catle E st
  refine va_mmin hc.1.1 hc.1.2.1 (hc.1.2.2.1.trans hl.1.symm) hc.1.2.2.2.1 (hw _ hm.1) (hw _ hm.2.1) (hw _ hm.2.2.1) (hw _ hm.2.2.2) (by rw [hc.2.2.2.2.2]; exact hf) (by rw [hc.2.2.2.2.2]; omega) (by rw [hc.2.2.2.2.2]; exact h1) (by rw [hc.2.2.2.2.2]; exact h2) d ?_
  have e : (if Int32.ofInt y < Int32.ofInt x then Int32.ofInt y else Int32.ofInt x) = Int32.ofInt (imin x y) := by
    unfold imin
    by_cases h : y < x
    · rw [if_pos h, if_pos ((i32_lt oy ox).mpr h)]
    · rw [if_neg h, if_neg (fun q => h ((i32_lt oy ox).mp q))]
  rw [e]
  exact kk
theorem lc_lt (x y : Int) : lcmpI x y < 0 ↔ x < y := by
  unfold lcmpI
  split
  · omega
  · split <;> omega
theorem lc_ge (x y : Int) : 0 ≤ lcmpI x y ↔ y ≤ x := by
  unfold lcmpI
  split
  · omega
  · split <;> omega
theorem lc_gt (x y : Int) : 0 < lcmpI x y ↔ y < x := by
  unfold lcmpI
  split
  · omega
  · split <;> omega
theorem lc_le (x y : Int) : lcmpI x y ≤ 0 ↔ x ≤ y := by
  unfold lcmpI
  split
  · omega
  · split <;> omega
theorem lc_eq (x y : Int) : lcmpI x y = 0 ↔ x = y := by
  unfold lcmpI
  split
  · omega
  · split <;> omega
/-- a loop: B tells what one round asks for, given what the next round asks for -/
def lp {S : Type} (B : (S → Prop) → S → Prop) : Nat → S → Prop
  | 0, _ => False
  | f + 1, z => B (lp B f) z
theorem lp_rule {S : Type} {B : (S → Prop) → S → Prop} (I : S → Prop) (μ : S → Nat) (hB : ∀ z, I z → ∀ K : S → Prop, (∀ z2, I z2 → μ z2 < μ z → K z2) → B K z) (z : S) (hz : I z) : ∃ f, lp B f z := by
  have h : ∀ f z, I z → μ z < f → lp B f z := by
    intro f
    induction f with
    | zero => intro z _ h; omega
    | succ f ih => intro z hz h; exact hB z hz (lp B f) (fun z2 h2 h3 => ih z2 h2 (by omega))
  exact ⟨μ z + 1, h _ z hz (by omega)⟩
end
