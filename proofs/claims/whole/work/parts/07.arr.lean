/-! my own: the rows of arrays -/
def okI (x i : Int) : Prop := 0 ≤ i ∧ i < (LAY x.toNat).2
theorem okI_in {x i : Int} (h : okI x i) : vp_in (Int32.ofInt i) (LAY x.toNat).2 ∧ (Int32.ofInt i).toNatClampNeg = i.toNat ∧ i.toNat < (LAY x.toNat).2 := by
  have h1 := LAY_small x.toNat
  obtain ⟨h2, h3⟩ := h
  have e := i32_clamp h2 (by omega)
  refine ⟨fun q => ?_, e, by omega⟩
  rcases q with q | q
  · have := (i32_lt (a := i) (b := 0) ⟨by omega, by omega⟩ ⟨by decide, by decide⟩).mp q
    omega
  · rw [e] at q
    omega
theorem fn_i {C : Cn} {a j : Nat} {v : Int} : (fun i => Int32.ofInt (wr C a j v a i)) = upd (fun i => Int32.ofInt (C a i)) j (Int32.ofInt v) := by
  funext i
  unfold upd
  by_cases h : i = j
  · subst h
    rw [wr_same, if_pos rfl]
  · rw [wr_ne (fun q => h q.2), if_neg h]
theorem fn_j {C : Cn} {a j : Nat} {v : Int} : (fun i => Int64.ofInt (wr C a j v a i)) = vp_updL (fun i => Int64.ofInt (C a i)) j (Int64.ofInt v) := by
  funext i
  unfold vp_updL
  by_cases h : i = j
  · subst h
    rw [wr_same, if_pos rfl]
  · rw [wr_ne (fun q => h q.2), if_neg h]
theorem sl_i {cA : ClassId} {N j : Nat} {f : Nat → Int32} {x : Int32} : (vp_cell cA (N, .inl f)).setSlot j (.int x) = vp_cell cA (N, .inl (upd f j x)) := by
  rw [vp_cell_i, vp_cell_i, arrV_store]
  congr 1
  funext q
  by_cases hq : q = j
  · subst hq
    simp [updV, upd]
  · simp [updV, upd, hq]
theorem sl_j {cA : ClassId} {N j : Nat} {f : Nat → Int64} {x : Int64} : (vp_cell cA (N, .inr (.inl f))).setSlot j (.long x) = vp_cell cA (N, .inr (.inl (vp_updL f j x))) := by
  rw [vp_cell_l, vp_cell_l, arrV_store]
  congr 1
  funext q
  by_cases hq : q = j
  · subst hq
    simp [updV, vp_updL]
  · simp [updV, vp_updL, hq]
theorem TYS_11 (E : Ev) : (TYS E)[0]? = some (E.2.1 11, .byte) := rfl
theorem TYS_12 (E : Ev) : (TYS E)[1]? = some (E.2.1 12, .int) := rfl
theorem TYS_13 (E : Ev) : (TYS E)[2]? = some (E.2.1 13, .long) := rfl
theorem TYS_14 (E : Ev) : (TYS E)[3]? = some (E.2.1 14, .boolean) := rfl
section
variable {p : Program} {l : Launch} {e : Env} {R : Room} {s : State} {m : MethodId} {args : Array Value} {below : List Frame} {meth : Method} {c : Code} {E : Ev} {M : Mt} {pm : Bool} {Q : Int → Cn → Nat → Prop} {n kc ks pc pc2 : Nat} {lv st st2 : List Vl} {C : Cn}
theorem va_P1 {D : va_G} {cl : List vw_C} {q : Nat × va_E} {H : Heap} (h : va_at D cl q H) : va_P D cl [q] H := by
  intro k z hz
  match k, hz with
  | 0, hz => cases hz; exact h
  | k + 1, hz => simp at hz
theorem tyE_i {k i : Nat} (h : k = 11 ∨ k = 12 ∨ k = 14) : tyE k i = 0 := by
  unfold tyE
  rw [if_neg (by omega), if_neg (by omega), if_pos (by omega)]
theorem tyE_j {i : Nat} : tyE 13 i = 1 := rfl
theorem AW.iald {x i : Int} (d : decode M.2.1 pc = .ok (.iaload, 1)) (ho : okO n x 12) (hi : okI x i) (k : AW p l e R s m args below meth c E M pm Q n kc ks (pc + 1) lv ((0, C x.toNat i.toNat) :: st) C) : AW p l e R s m args below meth c E M pm Q n kc ks pc lv ((0, i) :: (2, x) :: st) C := by
  intro hc H locs ls hR hI hS hl ol os
  obtain ⟨h1, h2, h3⟩ := okI_in hi
  have hat := hR.get ho
  rw [cellE_i ho.2.2 (by decide)] at hat
  have okv : okV (0, C x.toNat i.toNat) := by
    have := hI.1 x.toNat i.toNat
    rw [ho.2.2, tyE_i (by decide)] at this
    exact this
  have kk := k hc H locs ls hR hI hS hl ol (ok_c okv (ok_d2 os))
  rw [List.map_cons, List.map_cons, cv_obj ho.1]
  refine va_iald hc.1.1 hc.1.2.1 hc.2.2.2.2.1.1 (va_P1 hat) 0 1 rfl (TYS_12 E) h1 d ?_
  rw [h2]
  exact kk
theorem AW.bald {x i : Int} (d : decode M.2.1 pc = .ok (.baload, 1)) (ho : okO n x 11) (hi : okI x i) (k : AW p l e R s m args below meth c E M pm Q n kc ks (pc + 1) lv ((0, C x.toNat i.toNat) :: st) C) : AW p l e R s m args below meth c E M pm Q n kc ks pc lv ((0, i) :: (2, x) :: st) C := by
  intro hc H locs ls hR hI hS hl ol os
  obtain ⟨h1, h2, h3⟩ := okI_in hi
  have hat := hR.get ho
  rw [cellE_i ho.2.2 (by decide)] at hat
  have okv : okV (0, C x.toNat i.toNat) := by
    have := hI.1 x.toNat i.toNat
    rw [ho.2.2, tyE_i (by decide)] at this
    exact this
  have kk := k hc H locs ls hR hI hS hl ol (ok_c okv (ok_d2 os))
  rw [List.map_cons, List.map_cons, cv_obj ho.1]
  refine va_bald hc.1.1 hc.1.2.1 hc.2.2.2.2.1.1 (va_P1 hat) 0 0 rfl (TYS_11 E) h1 d ?_
  rw [h2]
  exact kk
theorem AW.zald {x i : Int} (d : decode M.2.1 pc = .ok (.baload, 1)) (ho : okO n x 14) (hi : okI x i) (k : AW p l e R s m args below meth c E M pm Q n kc ks (pc + 1) lv ((0, C x.toNat i.toNat) :: st) C) : AW p l e R s m args below meth c E M pm Q n kc ks pc lv ((0, i) :: (2, x) :: st) C := by
  intro hc H locs ls hR hI hS hl ol os
  obtain ⟨h1, h2, h3⟩ := okI_in hi
  have hat := hR.get ho
  rw [cellE_i ho.2.2 (by decide)] at hat
  have okv : okV (0, C x.toNat i.toNat) := by
    have := hI.1 x.toNat i.toNat
    rw [ho.2.2, tyE_i (by decide)] at this
    exact this
  have kk := k hc H locs ls hR hI hS hl ol (ok_c okv (ok_d2 os))
  rw [List.map_cons, List.map_cons, cv_obj ho.1]
  refine va_zald hc.1.1 hc.1.2.1 hc.2.2.2.2.1.1 (va_P1 hat) 0 3 rfl (TYS_14 E) h1 d ?_
  rw [h2]
  exact kk
theorem AW.lald {x i : Int} (d : decode M.2.1 pc = .ok (.laload, 1)) (ho : okO n x 13) (hi : okI x i) (k : AW p l e R s m args below meth c E M pm Q n kc ks (pc + 1) lv ((1, C x.toNat i.toNat) :: st) C) : AW p l e R s m args below meth c E M pm Q n kc ks pc lv ((0, i) :: (2, x) :: st) C := by
  intro hc H locs ls hR hI hS hl ol os
  obtain ⟨h1, h2, h3⟩ := okI_in hi
  have hat := hR.get ho
  rw [cellE_j ho.2.2] at hat
  have okv : okV (1, C x.toNat i.toNat) := by
    have := hI.1 x.toNat i.toNat
    rw [ho.2.2, tyE_j] at this
    exact this
  have kk := k hc H locs ls hR hI hS hl ol (ok_c okv (ok_d2 os))
  rw [List.map_cons, List.map_cons, cv_obj ho.1]
  refine va_lald hc.1.1 hc.1.2.1 hc.2.2.2.2.1.1 (va_P1 hat) 0 2 rfl (TYS_13 E) h1 d ?_
  rw [h2]
  exact kk
/-- a place of an array of references, once the constructors are through -/
theorem AW.aaldp {x i : Int} {kd : Nat} (hkd : kd = 15 ∨ kd = 16 ∨ kd = 17 ∨ kd = 18) (d : decode M.2.1 pc = .ok (.aaload, 1)) (ho : okO n x kd) (hi : okI x i) (hpm : pm = true) (k : AW p l e R s m args below meth c E M pm Q n kc ks (pc + 1) lv ((2, PT x.toNat i.toNat) :: st) C) : AW p l e R s m args below meth c E M pm Q n kc ks pc lv ((0, i) :: (2, x) :: st) C := by
  intro hc H locs ls hR hI hS hl ol os
  obtain ⟨h1, h2, h3⟩ := okI_in hi
  have hat := hR.get ho
  rw [cellE_r ho.2.2 (by omega)] at hat
  have hk : C x.toNat i.toNat = PT x.toNat i.toNat := by
    refine hI.2.2 hpm x.toNat i.toNat (by have := ho.1; have := ho.2.1; omega) (LAY_lt (by rw [ho.2.2]; omega)) ?_
    unfold tyE
    rw [ho.2.2, if_neg (by omega), if_neg (by omega), if_neg (by omega), if_neg (by omega)]
  have kk := k hc H locs ls hR hI hS hl ol (ok_c trivial (ok_d2 os))
  rw [List.map_cons, List.map_cons, cv_obj ho.1]
  have ht : ∃ (t0 : Nat) (ty : FieldType), (TYS E)[t0]? = some (E.2.1 kd, ty) ∧ ty.isReference = true := by
    rcases hkd with rfl | rfl | rfl | rfl
    · exact ⟨4, _, rfl, rfl⟩
    · exact ⟨5, _, rfl, rfl⟩
    · exact ⟨6, _, rfl, rfl⟩
    · exact ⟨7, _, rfl, rfl⟩
  obtain ⟨t0, ty, ht, hty⟩ := ht
  refine W.aald (v := va_rf (rfo E (C x.toNat i.toNat))) (ty := ty) hc.1.1 hc.1.2.1 hat ((hc.2.2.2.2.1.1.2 t0 _ ht).1 _ (fun j => va_rf (rfo E (C x.toNat j)))) hty (fun q => by cases q) (by show ¬ (_ ∨ (arrV _ _ _).slots.size ≤ _); rw [arrV_size]; exact h1) (by show (arrV _ _ _).slots[_]? = _; rw [h2, arrV_read _ _ h3]) rfl rfl d ?_
  rw [hk]
  exact kk
theorem AW.iast {x i v : Int} (d : decode M.2.1 pc = .ok (.iastore, 1)) (ho : okO n x 12) (hi : okI x i) (k : AW p l e R s m args below meth c E M pm Q n kc ks (pc + 1) lv st (wr C x.toNat i.toNat v)) : AW p l e R s m args below meth c E M pm Q n kc ks pc lv ((0, v) :: (0, i) :: (2, x) :: st) C := by
  intro hc H locs ls hR hI hS hl ol os
  obtain ⟨h1, h2, h3⟩ := okI_in hi
  have hat := hR.get ho
  rw [cellE_i ho.2.2 (by decide)] at hat
  rw [List.map_cons, List.map_cons, List.map_cons, cv_obj ho.1]
  refine W.iast hc.1.1 hc.1.2.1 hat ((hc.2.2.2.2.1.1.2 1 _ (TYS_12 E)).1 _ (fun j => .int (Int32.ofInt (C x.toNat j)))) (fun q => by cases q) (by show ¬ (_ ∨ (arrV _ _ _).slots.size ≤ _); rw [arrV_size]; exact h1) rfl rfl d fun H1 e1 e2 e3 => ?_
  refine k hc H1 _ ls (hR.put e2 e3 ?_) (hI.put ?_ (by have := ho.1; have := ho.2.1; omega) (fun _ => by rw [ho.2.2, tyE_i (by decide)]; decide)) (hS.put e2 e3 ?_) hl ol (ok_1 (ok_d2 os)).2
  · rw [cellE_i ho.2.2 (by decide), fn_i]
    show H1[_]? = _
    rw [e1, h2, sl_i]
  · rw [ho.2.2, tyE_i (by decide)]
    exact (ok_1 os).1
  · show eB E < eB E + x.toNat
    have := ho.1
    omega
theorem AW.last {x i v : Int} (d : decode M.2.1 pc = .ok (.lastore, 1)) (ho : okO n x 13) (hi : okI x i) (k : AW p l e R s m args below meth c E M pm Q n kc ks (pc + 1) lv st (wr C x.toNat i.toNat v)) : AW p l e R s m args below meth c E M pm Q n kc ks pc lv ((1, v) :: (0, i) :: (2, x) :: st) C := by
  intro hc H locs ls hR hI hS hl ol os
  obtain ⟨h1, h2, h3⟩ := okI_in hi
  have hat := hR.get ho
  rw [cellE_j ho.2.2] at hat
  rw [List.map_cons, List.map_cons, List.map_cons, cv_obj ho.1]
  refine W.last hc.1.1 hc.1.2.1 hat ((hc.2.2.2.2.1.1.2 2 _ (TYS_13 E)).1 _ (fun j => .long (Int64.ofInt (C x.toNat j)))) (fun q => by cases q) (by show ¬ (_ ∨ (arrV _ _ _).slots.size ≤ _); rw [arrV_size]; exact h1) rfl rfl d fun H1 e1 e2 e3 => ?_
  refine k hc H1 _ ls (hR.put e2 e3 ?_) (hI.put ?_ (by have := ho.1; have := ho.2.1; omega) (fun _ => by rw [ho.2.2, tyE_j]; decide)) (hS.put e2 e3 ?_) hl ol (ok_1 (ok_d2 os)).2
  · rw [cellE_j ho.2.2, fn_j]
    show H1[_]? = _
    rw [e1, h2, sl_j]
  · rw [ho.2.2, tyE_j]
    exact (ok_1 os).1
  · show eB E < eB E + x.toNat
    have := ho.1
    omega
theorem nar_8 {v : Int} (ov : -2147483648 ≤ v ∧ v ≤ 2147483647) : narrow .byte (.int (Int32.ofInt v)) = .int (Int32.ofInt (w8 v)) := by
  have h := vp_nar_byte (Int32.ofInt v)
  have e : (Int32.ofInt v).toInt8.toInt32 = Int32.ofInt (w8 v) := by
    apply Int32.toInt_inj.mp
    have := w8_in v
    rw [Int8.toInt_toInt32, Int32.toInt_toInt8, i32_to, i32_to, w32_id ov.1 ov.2, w32_id (by omega) (by omega), w8_bmod]
  rw [← e, ← h]
  rfl
theorem AW.bast {x i v : Int} (d : decode M.2.1 pc = .ok (.bastore, 1)) (ho : okO n x 11) (hi : okI x i) (k : AW p l e R s m args below meth c E M pm Q n kc ks (pc + 1) lv st (wr C x.toNat i.toNat (w8 v))) : AW p l e R s m args below meth c E M pm Q n kc ks pc lv ((0, v) :: (0, i) :: (2, x) :: st) C := by
  intro hc H locs ls hR hI hS hl ol os
  obtain ⟨h1, h2, h3⟩ := okI_in hi
  have hat := hR.get ho
  rw [cellE_i ho.2.2 (by decide)] at hat
  rw [List.map_cons, List.map_cons, List.map_cons, cv_obj ho.1]
  refine W.bast hc.1.1 hc.1.2.1 hat ((hc.2.2.2.2.1.1.2 0 _ (TYS_11 E)).1 _ (fun j => .int (Int32.ofInt (C x.toNat j)))) (fun q => by cases q) (by show ¬ (_ ∨ (arrV _ _ _).slots.size ≤ _); rw [arrV_size]; exact h1) rfl rfl d fun H1 e1 e2 e3 => ?_
  refine k hc H1 _ ls (hR.put e2 e3 ?_) (hI.put ?_ (by have := ho.1; have := ho.2.1; omega) (fun _ => by rw [ho.2.2, tyE_i (by decide)]; decide)) (hS.put e2 e3 ?_) hl ol (ok_1 (ok_d2 os)).2
  · rw [cellE_i ho.2.2 (by decide), fn_i]
    show H1[_]? = _
    rw [e1, h2, nar_8 (ok_1 os).1, sl_i]
  · rw [ho.2.2, tyE_i (by decide)]
    have := w8_in v
    exact ⟨by omega, by omega⟩
  · show eB E < eB E + x.toNat
    have := ho.1
    omega
theorem AW.zast {x i v : Int} (d : decode M.2.1 pc = .ok (.bastore, 1)) (ho : okO n x 14) (hi : okI x i) (hv : v = 0 ∨ v = 1) (k : AW p l e R s m args below meth c E M pm Q n kc ks (pc + 1) lv st (wr C x.toNat i.toNat v)) : AW p l e R s m args below meth c E M pm Q n kc ks pc lv ((0, v) :: (0, i) :: (2, x) :: st) C := by
  intro hc H locs ls hR hI hS hl ol os
  obtain ⟨h1, h2, h3⟩ := okI_in hi
  have hat := hR.get ho
  rw [cellE_i ho.2.2 (by decide)] at hat
  rw [List.map_cons, List.map_cons, List.map_cons, cv_obj ho.1]
  refine W.zast hc.1.1 hc.1.2.1 hat ((hc.2.2.2.2.1.1.2 3 _ (TYS_14 E)).1 _ (fun j => .int (Int32.ofInt (C x.toNat j)))) (fun q => by cases q) (by show ¬ (_ ∨ (arrV _ _ _).slots.size ≤ _); rw [arrV_size]; exact h1) rfl rfl d fun H1 e1 e2 e3 => ?_
  refine k hc H1 _ ls (hR.put e2 e3 ?_) (hI.put ?_ (by have := ho.1; have := ho.2.1; omega) (fun _ => by rw [ho.2.2, tyE_i (by decide)]; decide)) (hS.put e2 e3 ?_) hl ol (ok_1 (ok_d2 os)).2
  · rw [cellE_i ho.2.2 (by decide), fn_i]
    show H1[_]? = _
    rw [e1, h2, nar_b hv, sl_i]
  · rw [ho.2.2, tyE_i (by decide)]
    exact (ok_1 os).1
  · show eB E < eB E + x.toNat
    have := ho.1
    omega
/-- the two static arrays -/
def SAV (t : Nat) : List Int32 := if t = 0 then ORDV else KOVV
def SAL (t : Nat) : Nat := if t = 0 then 7 else 6
theorem AW.gets {i t : Nat} {own nm : String} (hw : Cond.fieldLink M.1 i own nm "[I" ∈ lw_g) (ht : (t = 0 ∧ own = RX4 ∧ nm = "ORDERS") ∨ (t = 1 ∧ own = RX7 ∧ nm = "KIND_OVER")) (d : decode M.2.1 pc = .ok (.getstatic i, 3)) (k : AW p l e R s m args below meth c E M pm Q n kc ks (pc + 3) lv ((3, (t : Int)) :: st) C) : AW p l e R s m args below meth c E M pm Q n kc ks pc lv st C := by
  intro hc H locs ls hR hI hS hl ol os
  have kk := k hc H locs ls hR hI hS hl ol (ok_c trivial os)
  have hX := hc.2.2.2.2.1.2.1
  rcases ht with ⟨rfl, rfl, rfl⟩ | ⟨rfl, rfl, rfl⟩
  · exact va_gets hc.1.1 hc.1.2.1 hX.1 hS hc.1.2.2.2.1 (hc.1.2.2.2.2 _ hw) (fun _ h => h) d kk
  · exact va_gets hc.1.1 hc.1.2.1 hX.2.2.1 hS hc.1.2.2.2.1 (hc.1.2.2.2.2 _ hw) (fun _ h => h) d kk
theorem AW.sald {i : Int} {t : Nat} (ht : t = 0 ∨ t = 1) (d : decode M.2.1 pc = .ok (.iaload, 1)) (h0 : 0 ≤ i) (h1 : i < SAL t) (k : AW p l e R s m args below meth c E M pm Q n kc ks (pc + 1) lv ((0, ((SAV t).getD i.toNat 0).toInt) :: st) C) : AW p l e R s m args below meth c E M pm Q n kc ks pc lv ((0, i) :: (3, (t : Int)) :: st) C := by
  intro hc H locs ls hR hI hS hl ol os
  have kk := k hc H locs ls hR hI hS hl ol (ok_c (i32_rng _) (ok_d2 os))
  have hX := hc.2.2.2.2.1.2.1
  have hs : SAL t ≤ 7 := by unfold SAL; split <;> omega
  have e := i32_clamp h0 (show i ≤ 2147483647 by omega)
  have hT : va_T .int (E.2.2.2.2.1 t) (SAL t) (fun j => .int ((SAV t).getD j 0)) (eA E) s s.heap := by
    rcases ht with rfl | rfl
    · exact hX.2.1
    · exact hX.2.2.2.1
  obtain ⟨cell, g1, g2, g3, g4, g5, g6, g7⟩ := hT
  have hcell : H[E.2.2.2.2.1 t]? = some cell := by rw [hS.2.1 _ (Array.getElem?_eq_some_iff.mp g1).1 g7]; exact g1
  rw [List.map_cons, List.map_cons]
  have kk' := kk
  rw [List.map_cons] at kk'
  simp only [cv, i32_of] at kk'
  refine W.iald (v := .int ((SAV t).getD i.toNat 0)) hc.1.1 hc.1.2.1 hcell g2 g3 ?_ ?_ rfl rfl d kk'
  · intro q
    rcases q with q | q
    · have := (i32_lt (a := i) (b := 0) ⟨by omega, by omega⟩ ⟨by decide, by decide⟩).mp q
      omega
    · rw [e] at q
      omega
  · rw [e]
    exact g6 i.toNat (by omega)
end
