/-! my own: arrays that are made, arrays of references that are written, numbers copied -/
section
variable {p : Program} {l : Launch} {e : Env} {R : Room} {s : State} {m : MethodId} {args : Array Value} {below : List Frame} {meth : Method} {c : Code} {E : Ev} {M : Mt} {pm : Bool} {Q : Int → Cn → Nat → Prop} {n kc ks pc pc2 : Nat} {lv st st2 : List Vl} {C : Cn}
theorem at_i {kd N : Nat} {ty : FieldType} (hk : kd = 11 ∨ kd = 12 ∨ kd = 14) (hl : LAY n = (kd, N)) (hd : defaultValue ty = .int 0) (H1 : Heap) (hf : frC C n) (he : H1[eB E + n]? = some (arrV (E.2.1 kd) N (fun _ => defaultValue ty))) : va_at E.1 CLS (eB E + n, cellE E C n) H1 := by
  rw [cellE_i (by rw [hl]) hk, hl]
  show H1[eB E + n]? = some (vp_cell _ _)
  rw [vp_cell_i, he, hd]
  congr 2
  funext i
  rw [hf n i (Nat.le_refl n)]
  rfl
theorem at_j {N : Nat} (hl : LAY n = (13, N)) (H1 : Heap) (hf : frC C n) (he : H1[eB E + n]? = some (arrV (E.2.1 13) N (fun _ => defaultValue .long))) : va_at E.1 CLS (eB E + n, cellE E C n) H1 := by
  rw [cellE_j (by rw [hl]), hl]
  show H1[eB E + n]? = some (vp_cell _ _)
  rw [vp_cell_l, he]
  congr 2
  funext i
  rw [hf n i (Nat.le_refl n)]
  rfl
theorem lay_le {kd N : Nat} (hl : LAY n = (kd, N)) : N ≤ 4000 := by
  have := LAY_small n
  rw [hl] at this
  exact this
theorem AW.newa12 {x : Int} {N : Nat} (d : decode M.2.1 pc = .ok (.newarray .int, 2)) (hl : LAY n = (12, N)) (hx : x = (N : Int)) (hwd : Cond.arrayClass .int ∈ lw_g) (hp : pm = true → N0 ≤ n) (h1 : kc + 1 ≤ M.2.2.2.2.2.2.cells) (h2 : ks + N ≤ M.2.2.2.2.2.2.slots) (k : AW p l e R s m args below meth c E M pm Q (n + 1) (kc + 1) (ks + N) (pc + 2) lv ((2, (n : Int)) :: st) C) : AW p l e R s m args below meth c E M pm Q n kc ks pc lv ((0, x) :: st) C := by
  subst hx
  have := lay_le hl
  exact AW.newaG (at_ := .int) (ty := .int) (kd := 12) (t0 := 1) rfl rfl (fun _ _ h => h) hwd d (by omega) (by show N * 4 ≤ _; omega) (at_i (by decide) hl rfl) hp h1 h2 k
theorem AW.newa11 {x : Int} {N : Nat} (d : decode M.2.1 pc = .ok (.newarray .byte, 2)) (hl : LAY n = (11, N)) (hx : x = (N : Int)) (hwd : Cond.arrayClass .byte ∈ lw_g) (hp : pm = true → N0 ≤ n) (h1 : kc + 1 ≤ M.2.2.2.2.2.2.cells) (h2 : ks + N ≤ M.2.2.2.2.2.2.slots) (k : AW p l e R s m args below meth c E M pm Q (n + 1) (kc + 1) (ks + N) (pc + 2) lv ((2, (n : Int)) :: st) C) : AW p l e R s m args below meth c E M pm Q n kc ks pc lv ((0, x) :: st) C := by
  subst hx
  have := lay_le hl
  exact AW.newaG (at_ := .byte) (ty := .byte) (kd := 11) (t0 := 0) rfl rfl (fun _ _ h => h) hwd d (by omega) (by show N * 1 ≤ _; omega) (at_i (by decide) hl rfl) hp h1 h2 k
theorem AW.newa14 {x : Int} {N : Nat} (d : decode M.2.1 pc = .ok (.newarray .boolean, 2)) (hl : LAY n = (14, N)) (hx : x = (N : Int)) (hwd : Cond.arrayClass .boolean ∈ lw_g) (hp : pm = true → N0 ≤ n) (h1 : kc + 1 ≤ M.2.2.2.2.2.2.cells) (h2 : ks + N ≤ M.2.2.2.2.2.2.slots) (k : AW p l e R s m args below meth c E M pm Q (n + 1) (kc + 1) (ks + N) (pc + 2) lv ((2, (n : Int)) :: st) C) : AW p l e R s m args below meth c E M pm Q n kc ks pc lv ((0, x) :: st) C := by
  subst hx
  have := lay_le hl
  exact AW.newaG (at_ := .boolean) (ty := .boolean) (kd := 14) (t0 := 3) rfl rfl (fun _ _ h => h) hwd d (by omega) (by show N * 1 ≤ _; omega) (at_i (by decide) hl rfl) hp h1 h2 k
theorem AW.newa13 {x : Int} {N : Nat} (d : decode M.2.1 pc = .ok (.newarray .long, 2)) (hl : LAY n = (13, N)) (hx : x = (N : Int)) (hwd : Cond.arrayClass .long ∈ lw_g) (hp : pm = true → N0 ≤ n) (h1 : kc + 1 ≤ M.2.2.2.2.2.2.cells) (h2 : ks + N ≤ M.2.2.2.2.2.2.slots) (k : AW p l e R s m args below meth c E M pm Q (n + 1) (kc + 1) (ks + N) (pc + 2) lv ((2, (n : Int)) :: st) C) : AW p l e R s m args below meth c E M pm Q n kc ks pc lv ((0, x) :: st) C := by
  subst hx
  have := lay_le hl
  exact AW.newaG (at_ := .long) (ty := .long) (kd := 13) (t0 := 2) rfl rfl (fun _ _ h => h) hwd d (by omega) (by show N * 8 ≤ _; omega) (at_j hl) hp h1 h2 k
theorem AW.anewG {kd N t0 i : Nat} {x : Int} {Cs : String} (hT : (TYS E)[t0]? = some (E.2.1 kd, .object Cs)) (hov : XN s → va_AO Cs s) (hcell : cellE E C n = .inl (E.2.1 kd, N, .inr (.inr (.inr (.inr fun _ => none))))) (d : decode M.2.1 pc = .ok (.anewarray i, 3)) (hwc : Cond.classLink M.1 i Cs ∈ lw_g) (hl : LAY n = (kd, N)) (hx : x = (N : Int)) (hp : pm = true → N0 ≤ n) (h1 : kc + 1 ≤ M.2.2.2.2.2.2.cells) (h2 : ks + N ≤ M.2.2.2.2.2.2.slots) (k : AW p l e R s m args below meth c E M pm Q (n + 1) (kc + 1) (ks + N) (pc + 3) lv ((2, (n : Int)) :: st) C) : AW p l e R s m args below meth c E M pm Q n kc ks pc lv ((0, x) :: st) C := by
  intro hc H locs ls hR hI hS hlv ol os
  subst hx
  have hN := lay_le hl
  have hn := n_pos hc.2.2.2.2.1 hR hS
  have hcl : (nI N).toNatClampNeg = N := nI_clamp (by omega)
  refine W.anew (g := F0 m pc ls (.int (nI N) :: st.map (cv E))) (n := nI N) hc.1.1 hc.1.2.1 hc.1.2.2.2.1 (hc.1.2.2.2.2 _ hwc) (va_AO.use (hov hc.2.2.2.2.1.2.2.2.1)) rfl d rfl (nI_pos (by omega)) (by rw [hcl]; omega) (by rw [hc.2.2.2.2.2]; exact h1) (by rw [hc.2.2.2.2.2, hcl]; exact h2) fun cA kA comp f1 f2 f3 f4 => ?_
  rw [hcl]
  generalize hH1 : H.push ({ cls := cA, slots := Array.replicate N .null, vm := .none } : Cell) = H1
  have z1 : H1.size = H.size + 1 := by rw [← hH1, Array.size_push]
  have e1 : H1[H.size]? = some (arrV cA N (fun _ => .null)) := by rw [← hH1, Array.getElem?_push_size, ← arrV_new]
  have o1 : ∀ q, q < H.size → H1[q]? = H[q]? := fun q hq => by rw [← hH1, Array.getElem?_push, if_neg (Nat.ne_of_lt hq)]
  obtain ⟨kA', comp', g1, g2, g3, g4⟩ := (hc.2.2.2.2.1.1.2 t0 _ hT).2
  have hcA : cA = E.2.1 kd := Option.some.inj (f1.symm.trans g4)
  subst hcA
  rw [hR.1] at e1 z1 o1
  have hat : va_at E.1 CLS (eB E + n, cellE E C n) H1 := by
    rw [hcell]
    show H1[eB E + n]? = some (vp_cell _ _)
    rw [vp_cell_q, e1]
    rfl
  have kk := k hc H1 locs ls (hR.grow z1 o1 hat) (hI.grow hp) (vaS_grow (b := 0) hS (by rw [z1, hR.1]; omega) (fun q hq => o1 q (by rw [hR.1] at hq; exact hq))) hlv ol (ok_c trivial (ok_1 os).2)
  rw [List.map_cons, cv_n hn] at kk
  show W p l e R s m args below meth c H1 locs (kc + 1) (ks + N) _ (F0 m (pc + 3) ls (.ref H.size :: st.map (cv E)))
  rw [hR.1]
  exact kk
theorem cell_r0 {kd N : Nat} (hk : 15 ≤ kd ∧ kd < 19) (hl : LAY n = (kd, N)) (hf : frC C n) : cellE E C n = .inl (E.2.1 kd, N, .inr (.inr (.inr (.inr fun _ => none)))) := by
  rw [cellE_r (by rw [hl]) hk, hl]
  have : (fun i => rfo E (C n i)) = fun _ => none := by
    funext i
    rw [hf n i (Nat.le_refl n)]
    rfl
  rw [this]
theorem cell_s0 {N : Nat} (hl : LAY n = (19, N)) (hf : frC C n) : cellE E C n = .inl (E.2.1 19, N, .inr (.inr (.inr (.inr fun _ => none)))) := by
  rw [cellE_s (by rw [hl]), hl]
  have : (fun i => sfo E (C n i)) = fun _ => none := by
    funext i
    rw [hf n i (Nat.le_refl n)]
    rfl
  rw [this]
theorem AW.withI (h : HI pm C n → AW p l e R s m args below meth c E M pm Q n kc ks pc lv st C) : AW p l e R s m args below meth c E M pm Q n kc ks pc lv st C := fun hc H locs ls hR hI hS hl ol os => h hI hc H locs ls hR hI hS hl ol os
theorem AW.anew16 {x : Int} {N i : Nat} (d : decode M.2.1 pc = .ok (.anewarray i, 3)) (hwc : Cond.classLink M.1 i RX7 ∈ lw_g) (hl : LAY n = (16, N)) (hx : x = (N : Int)) (hp : pm = true → N0 ≤ n) (h1 : kc + 1 ≤ M.2.2.2.2.2.2.cells) (h2 : ks + N ≤ M.2.2.2.2.2.2.slots) (k : AW p l e R s m args below meth c E M pm Q (n + 1) (kc + 1) (ks + N) (pc + 3) lv ((2, (n : Int)) :: st) C) : AW p l e R s m args below meth c E M pm Q n kc ks pc lv ((0, x) :: st) C :=
  AW.withI fun hI => AW.anewG (t0 := 5) rfl (fun h => h.2.2.1) (cell_r0 (by decide) hl hI.2.1) d hwc hl hx hp h1 h2 k
theorem AW.anew15 {x : Int} {N i : Nat} (d : decode M.2.1 pc = .ok (.anewarray i, 3)) (hwc : Cond.classLink M.1 i RX5 ∈ lw_g) (hl : LAY n = (15, N)) (hx : x = (N : Int)) (hp : pm = true → N0 ≤ n) (h1 : kc + 1 ≤ M.2.2.2.2.2.2.cells) (h2 : ks + N ≤ M.2.2.2.2.2.2.slots) (k : AW p l e R s m args below meth c E M pm Q (n + 1) (kc + 1) (ks + N) (pc + 3) lv ((2, (n : Int)) :: st) C) : AW p l e R s m args below meth c E M pm Q n kc ks pc lv ((0, x) :: st) C :=
  AW.withI fun hI => AW.anewG (t0 := 4) rfl (fun h => h.2.1) (cell_r0 (by decide) hl hI.2.1) d hwc hl hx hp h1 h2 k
theorem AW.anew19 {x : Int} {N i : Nat} (d : decode M.2.1 pc = .ok (.anewarray i, 3)) (hwc : Cond.classLink M.1 i "java/lang/String" ∈ lw_g) (hl : LAY n = (19, N)) (hx : x = (N : Int)) (hp : pm = true → N0 ≤ n) (h1 : kc + 1 ≤ M.2.2.2.2.2.2.cells) (h2 : ks + N ≤ M.2.2.2.2.2.2.slots) (k : AW p l e R s m args below meth c E M pm Q (n + 1) (kc + 1) (ks + N) (pc + 3) lv ((2, (n : Int)) :: st) C) : AW p l e R s m args below meth c E M pm Q n kc ks pc lv ((0, x) :: st) C :=
  AW.withI fun hI => AW.anewG (t0 := 8) rfl (fun h => h.2.2.2.1) (cell_s0 hl hI.2.1) d hwc hl hx hp h1 h2 k
theorem sl_q {cA : ClassId} {N j y : Nat} {f : Nat → Option Nat} : (vp_cell cA (N, .inr (.inr (.inr (.inr f))))).setSlot j (.ref y) = vp_cell cA (N, .inr (.inr (.inr (.inr (va_up f j (some y)))))) := by
  rw [vp_cell_q, vp_cell_q, arrV_store]
  congr 1
  funext q
  by_cases hq : q = j
  · subst hq
    simp [updV, va_up, va_rf]
  · simp [updV, va_up, hq]
theorem fn_r {a j : Nat} {v : Int} {y : Nat} (hv : rfo E v = some y) : (fun i => rfo E (wr C a j v a i)) = va_up (fun i => rfo E (C a i)) j (some y) := by
  funext i
  unfold va_up
  by_cases h : i = j
  · subst h
    rw [wr_same, if_pos rfl, hv]
  · rw [wr_ne (fun q => h q.2), if_neg h]
theorem fn_s {a j : Nat} {v : Int} {y : Nat} (hv : sfo E v = some y) : (fun i => sfo E (wr C a j v a i)) = va_up (fun i => sfo E (C a i)) j (some y) := by
  funext i
  unfold va_up
  by_cases h : i = j
  · subst h
    rw [wr_same, if_pos rfl, hv]
  · rw [wr_ne (fun q => h q.2), if_neg h]
theorem AW.naastG {x i v : Int} {kd ci t0 : Nat} {Cs : String} (hkd : 15 ≤ kd ∧ kd < 19) (hT : (TYS E)[t0]? = some (E.2.1 kd, .object Cs)) (hci : ci < 11) (hcl : ∃ T N, CLS[ci]? = some (Cs, T, N)) (d : decode M.2.1 pc = .ok (.aastore, 1)) (ho : okO n x kd) (hi : okI x i) (hv : okO n v ci) (hpm : pm = false) (k : ∀ C1, C1 = wr C x.toNat i.toNat v → AW p l e R s m args below meth c E M pm Q n kc ks (pc + 1) lv st C1) : AW p l e R s m args below meth c E M pm Q n kc ks pc lv ((2, v) :: (0, i) :: (2, x) :: st) C := by
  intro hc H locs ls hR hI hS hl ol os
  obtain ⟨h1, h2, h3⟩ := okI_in hi
  have hat := hR.get ho
  have hav := hR.get hv
  rw [cellE_r ho.2.2 hkd] at hat
  rw [cellE_o hv.2.2 hci] at hav
  obtain ⟨T, N, hcl⟩ := hcl
  rw [List.map_cons, List.map_cons, List.map_cons, cv_obj ho.1, cv_obj hv.1]
  obtain ⟨r', hr', cellV, g1, g2, g3, -⟩ := hav
  have hcls := (hc.2.2.2.2.1.1.1 ci _ hcl).2
  obtain ⟨kA, comp, k1, k2, k3, -⟩ := (hc.2.2.2.2.1.1.2 t0 _ hT).2
  have hcomp : comp = E.1.1 ci := Option.some.inj (k3.symm.trans hcls.1)
  subst hcomp
  obtain ⟨kC, hkC, hkC2⟩ := id hcls.2
  refine W.aast hc.1.1 hc.1.2.1 hat (fun q h => by cases h) (fun h => by cases h) k1 k2 rfl hkC ⟨fun q => h1 (Or.inl q), by show _ < (arrV _ _ _).slots.size; rw [arrV_size, h2]; exact h3⟩ g1 (fun q h => by rw [g3] at h; cases h) (by rw [g2]; exact hkC) (by rw [g2]; exact va_assign hcls) rfl rfl d fun H1 e1 e2 e3 => ?_
  have tyv : tyE (LAY x.toNat).1 i.toNat = 2 := by
    unfold tyE
    rw [ho.2.2, if_neg (by omega), if_neg (by omega), if_neg (by omega), if_neg (by omega)]
  refine k _ rfl hc H1 _ ls (hR.put e2 e3 ?_) (hI.put (by rw [tyv]; exact trivial) (by have := ho.1; have := ho.2.1; omega) (fun h => by rw [hpm] at h; cases h)) (hS.put e2 e3 ?_) hl ol (ok_1 (ok_d2 os)).2
  · rw [cellE_r ho.2.2 hkd, fn_r (rfo_pos hv.1)]
    show H1[_]? = _
    rw [e1, h2, sl_q]
  · show eB E < eB E + x.toNat
    have := ho.1
    omega
theorem AW.naast16 {x i v : Int} (d : decode M.2.1 pc = .ok (.aastore, 1)) (ho : okO n x 16) (hi : okI x i) (hv : okO n v 7) (hpm : pm = false) (k : ∀ C1, C1 = wr C x.toNat i.toNat v → AW p l e R s m args below meth c E M pm Q n kc ks (pc + 1) lv st C1) : AW p l e R s m args below meth c E M pm Q n kc ks pc lv ((2, v) :: (0, i) :: (2, x) :: st) C :=
  AW.naastG (t0 := 5) (by decide) rfl (by decide) ⟨_, _, rfl⟩ d ho hi hv hpm k
theorem AW.naast15 {x i v : Int} (d : decode M.2.1 pc = .ok (.aastore, 1)) (ho : okO n x 15) (hi : okI x i) (hv : okO n v 5) (hpm : pm = false) (k : ∀ C1, C1 = wr C x.toNat i.toNat v → AW p l e R s m args below meth c E M pm Q n kc ks (pc + 1) lv st C1) : AW p l e R s m args below meth c E M pm Q n kc ks pc lv ((2, v) :: (0, i) :: (2, x) :: st) C :=
  AW.naastG (t0 := 4) (by decide) rfl (by decide) ⟨_, _, rfl⟩ d ho hi hv hpm k
theorem tyE_19 {i : Nat} : tyE 19 i = 4 := rfl
theorem AW.naast19 {x i v : Int} (d : decode M.2.1 pc = .ok (.aastore, 1)) (ho : okO n x 19) (hi : okI x i) (hv : 0 < v) (hv2 : v ≤ 10) (k : ∀ C1, C1 = wr C x.toNat i.toNat v → AW p l e R s m args below meth c E M pm Q n kc ks (pc + 1) lv st C1) : AW p l e R s m args below meth c E M pm Q n kc ks pc lv ((4, v) :: (0, i) :: (2, x) :: st) C := by
  intro hc H locs ls hR hI hS hl ol os
  obtain ⟨h1, h2, h3⟩ := okI_in hi
  have hat := hR.get ho
  rw [cellE_s ho.2.2] at hat
  rw [List.map_cons, List.map_cons, List.map_cons, cv_obj ho.1, cv_txt hv]
  have hj : v.toNat - 1 < 10 := by omega
  obtain ⟨cellV, g1, g2, g3⟩ := vk_recv hc.2.2.2.2.1.2.1.2.2.2.2.1 hj hS
  obtain ⟨kA, comp, k1, k2, k3, -⟩ := (hc.2.2.2.2.1.1.2 8 _ rfl).2
  obtain ⟨kV, q1, -⟩ := Vm.findClass_spec g3
  have hcomp : comp = cellV.cls := Option.some.inj (k3.symm.trans g3)
  subst hcomp
  have hsf : sfo E v = some (E.2.2.2.1 (v.toNat - 1)) := by unfold sfo; rw [if_neg (by omega)]
  refine W.aast hc.1.1 hc.1.2.1 hat (fun q h => by cases h) (fun h => by cases h) k1 k2 rfl q1 ⟨fun q => h1 (Or.inl q), by show _ < (arrV _ _ _).slots.size; rw [arrV_size, h2]; exact h3⟩ g1 (fun q h => by rw [h] at g2; cases g2) q1 (va_asg _ _) rfl rfl d fun H1 e1 e2 e3 => ?_
  refine k _ rfl hc H1 _ ls (hR.put e2 e3 ?_) (hI.put (by rw [ho.2.2, tyE_19]; exact trivial) (by have := ho.1; have := ho.2.1; omega) (fun _ => by rw [ho.2.2, tyE_19]; decide)) (hS.put e2 e3 ?_) hl ol (ok_1 (ok_d2 os)).2
  · rw [cellE_s ho.2.2, fn_s hsf]
    show H1[_]? = _
    rw [e1, h2, sl_q]
  · show eB E < eB E + x.toNat
    have := ho.1
    omega
theorem AW.alen19 {x : Int} (d : decode M.2.1 pc = .ok (.arraylength, 1)) (ho : okO n x 19) (k : AW p l e R s m args below meth c E M pm Q n kc ks (pc + 1) lv ((0, ((LAY x.toNat).2 : Int)) :: st) C) : AW p l e R s m args below meth c E M pm Q n kc ks pc lv ((2, x) :: st) C := by
  intro hc H locs ls hR hI hS hl ol os
  have hat := hR.get ho
  have hsm := LAY_small x.toNat
  rw [cellE_s ho.2.2] at hat
  have kk := k hc H locs ls hR hI hS hl ol (ok_c ⟨by omega, by omega⟩ (ok_1 os).2)
  rw [List.map_cons, cv_obj ho.1]
  exact va_alen hc.1.1 hc.1.2.1 hc.2.2.2.2.1.1 (va_P1 hat) 0 8 rfl rfl (v := Int32.ofInt ((LAY x.toNat).2 : Int)) rfl d kk
theorem AW.saald {x i : Int} (d : decode M.2.1 pc = .ok (.aaload, 1)) (ho : okO n x 19) (hi : okI x i) (k : AW p l e R s m args below meth c E M pm Q n kc ks (pc + 1) lv ((4, C x.toNat i.toNat) :: st) C) : AW p l e R s m args below meth c E M pm Q n kc ks pc lv ((0, i) :: (2, x) :: st) C := by
  intro hc H locs ls hR hI hS hl ol os
  obtain ⟨h1, h2, h3⟩ := okI_in hi
  have hat := hR.get ho
  rw [cellE_s ho.2.2] at hat
  have kk := k hc H locs ls hR hI hS hl ol (ok_c trivial (ok_d2 os))
  rw [List.map_cons, List.map_cons, cv_obj ho.1]
  refine va_aldq hc.1.1 hc.1.2.1 hc.2.2.2.2.1.1 (va_P1 hat) 0 8 rfl rfl h1 d ?_
  rw [h2]
  exact kk
theorem AW.nputF {x v : Int} {i ci j : Nat} {ty : FieldType} (f : FL M.1 i ci j 2 ty true) (d : decode M.2.1 pc = .ok (.putfield i, 3)) (ho : okO n x ci) (hown : ∀ Cc T N, CLS[ci]? = some (Cc, T, N) → Cc = M.1) (hnm : M.2.2.2.2.1 = "<init>") (hn : ∀ o : Option Nat, narrow ty (va_rf o) = va_rf o) (hf : ∀ o : Option Nat, fits ty (va_rf o) = true) (hpm : pm = false) (k : ∀ C1, C1 = wr C x.toNat j v → AW p l e R s m args below meth c E M pm Q n kc ks (pc + 3) lv st C1) : AW p l e R s m args below meth c E M pm Q n kc ks pc lv ((2, v) :: (2, x) :: st) C := AW.putF f d ho hown hnm hn hf hpm (k _ rfl)
end
