/-! my own: the rows that read and write the heap -/
def NF (k : Nat) : Nat := (FTL.getD k []).length
def okO (n : Nat) (x : Int) (k : Nat) : Prop := 0 < x ∧ x < n ∧ (LAY x.toNat).1 = k
theorem LAY_mem {P : Nat × Nat → Prop} (h : ∀ q ∈ LAYL, P q) (h0 : P (19, 6)) (k : Nat) : P (LAY k) := by
  unfold LAY
  rw [List.getD_eq_getElem?_getD]
  cases hk : LAYL[k]? with
  | none => exact h0
  | some q => exact h q (List.mem_of_getElem? hk)
theorem LAY_N {k : Nat} (h : (LAY k).1 < 11) : (LAY k).2 = NF (LAY k).1 :=
  LAY_mem (P := fun q => q.1 < 11 → q.2 = NF q.1) (by decide +kernel) (by decide) k h
theorem LAY_lt {k : Nat} (h : (LAY k).1 < 19) : k < N0 := by
  rcases Nat.lt_or_ge k N0 with hk | hk
  · exact hk
  · unfold LAY at h
    rw [List.getD_eq_getElem?_getD, List.getElem?_eq_none (by have : LAYL.length = N0 := by decide +kernel
                                                              omega)] at h
    exact absurd h (by decide)
theorem LAY_small (k : Nat) : (LAY k).2 ≤ 4000 := LAY_mem (P := fun q => q.2 ≤ 4000) (by decide +kernel) (by decide) k
theorem LAY_kind (k : Nat) : (LAY k).1 < 20 := LAY_mem (P := fun q => q.1 < 20) (by decide +kernel) (by decide) k
theorem Rep.get {E : Ev} {C : Cn} {n : Nat} {H : Heap} (h : Rep E C n H) {x : Int} {k : Nat} (ho : okO n x k) : va_at E.1 CLS (eB E + x.toNat, cellE E C x.toNat) H :=
  h.2 x.toNat (by have := ho.1; omega) (by have := ho.1; have := ho.2.1; omega)
theorem rfo_pos {E : Ev} {x : Int} (h : 0 < x) : rfo E x = some (eB E + x.toNat) := by
  unfold rfo
  rw [if_neg (by omega)]
theorem cv_obj {E : Ev} {x : Int} (h : 0 < x) : cv E (2, x) = .ref (eB E + x.toNat) := by
  show va_rf (rfo E x) = _
  rw [rfo_pos h]
  rfl
theorem cellE_o {E : Ev} {C : Cn} {k ci : Nat} (h : (LAY k).1 = ci) (hc : ci < 11) : cellE E C k = .inr (ci, (List.range (NF ci)).map fun i => cv E (FTY ci i, C k i)) := by
  unfold cellE
  rw [if_pos (by omega), LAY_N (by omega), h]
theorem cellE_i {E : Ev} {C : Cn} {k kd : Nat} (h : (LAY k).1 = kd) (hc : kd = 11 ∨ kd = 12 ∨ kd = 14) : cellE E C k = .inl (E.2.1 kd, (LAY k).2, .inl fun i => Int32.ofInt (C k i)) := by
  unfold cellE
  rw [if_neg (by omega), if_neg (by omega), if_pos (by omega), h]
theorem cellE_j {E : Ev} {C : Cn} {k : Nat} (h : (LAY k).1 = 13) : cellE E C k = .inl (E.2.1 13, (LAY k).2, .inr (.inl fun i => Int64.ofInt (C k i))) := by
  unfold cellE
  rw [if_neg (by omega), if_pos h]
theorem cellE_r {E : Ev} {C : Cn} {k kd : Nat} (h : (LAY k).1 = kd) (hc : 15 ≤ kd ∧ kd < 19) : cellE E C k = .inl (E.2.1 kd, (LAY k).2, .inr (.inr (.inr (.inr fun i => rfo E (C k i))))) := by
  unfold cellE
  rw [if_neg (by omega), if_neg (by omega), if_neg (by omega), if_neg (by omega), h]
theorem cellE_s {E : Ev} {C : Cn} {k : Nat} (h : (LAY k).1 = 19) : cellE E C k = .inl (E.2.1 19, (LAY k).2, .inr (.inr (.inr (.inr fun i => sfo E (C k i))))) := by
  unfold cellE
  rw [if_neg (by omega), if_neg (by omega), if_neg (by omega), if_pos h]
theorem cellE_ne {E : Ev} {C : Cn} {a i k : Nat} {v : Int} (h : k ≠ a) : cellE E (wr C a i v) k = cellE E C k := by
  have : ∀ j, wr C a i v k j = C k j := fun j => wr_ne (fun q => h q.1)
  unfold cellE
  simp only [this]
theorem Rep.put {E : Ev} {C : Cn} {n a i : Nat} {v : Int} {H H1 : Heap} (hR : Rep E C n H) (hz : H1.size = H.size) (ho : ∀ q, q ≠ eB E + a → H1[q]? = H[q]?) (hc : va_at E.1 CLS (eB E + a, cellE E (wr C a i v) a) H1) : Rep E (wr C a i v) n H1 := by
  refine ⟨hz.trans hR.1, fun k h0 hn => ?_⟩
  by_cases hk : k = a
  · subst hk
    exact hc
  · rw [cellE_ne hk]
    exact (hR.2 k h0 hn).kept (ho _ (by show eB E + k ≠ eB E + a; omega))
theorem HI.put {pm : Bool} {C : Cn} {n a i : Nat} {v : Int} (h : HI pm C n) (hv : okV (tyE (LAY a).1 i, v)) (ha : a < n) (hp : pm = true → tyE (LAY a).1 i ≠ 2) : HI pm (wr C a i v) n := by
  obtain ⟨h1, h2, h3⟩ := h
  refine ⟨fun k j => ?_, fun k j hk => ?_, fun hpm k j hk hk2 ht => ?_⟩
  · by_cases hq : k = a ∧ j = i
    · obtain ⟨rfl, rfl⟩ := hq
      rw [wr_same]
      exact hv
    · rw [wr_ne hq]
      exact h1 k j
  · rw [wr_ne (by omega)]
    exact h2 k j hk
  · by_cases hq : k = a ∧ j = i
    · obtain ⟨rfl, rfl⟩ := hq
      exact absurd ht (hp hpm)
    · rw [wr_ne hq]
      exact h3 hpm k j hk hk2 ht
theorem map_set {E : Ev} {C : Cn} {ci a j N : Nat} {v : Int} : ((List.range N).map fun i => cv E (FTY ci i, C a i)).set j (cv E (FTY ci j, v)) = (List.range N).map fun i => cv E (FTY ci i, wr C a j v a i) := by
  apply List.ext_getElem?
  intro i
  rw [List.getElem?_set, List.getElem?_map]
  by_cases hi : i < N
  · by_cases hij : j = i
    · subst hij
      simp [hi, wr_same]
    · simp [hij, hi, wr_ne (show ¬ (a = a ∧ i = j) from fun q => hij q.2.symm)]
  · by_cases hij : j = i
    · subst hij
      simp [hi]
    · simp [hij, hi]
/-- what is known of a class: its place, its fields -/
def KF (ci : Nat) (Cc : String) (T : u_T) (N : Nat) (ty : Nat → FieldType) : Prop :=
  CLS[ci]? = some (Cc, T, N) ∧ (∀ w ∈ u_ws Cc T N, w ∈ lw_g) ∧ (∀ k, k < N → parseFieldDescriptor (T k).2.2.1 = some (ty k)) ∧ (∀ a, a < N → ∀ b, b < N → a ≠ b → (T a).2.1 ≠ (T b).2.1) ∧ NF ci = N ∧ ci < 11
theorem kfX0 : KF 0 RX0 TX0 3 tyX0 := ⟨rfl, inX0, tyX0_ok, nmX0, rfl, by decide⟩
theorem kfX1 : KF 1 RX1 TX1 5 tyX1 := ⟨rfl, inX1, tyX1_ok, nmX1, rfl, by decide⟩
theorem kfX2 : KF 2 RX2 TX2 19 tyX2 := ⟨rfl, inX2, tyX2_ok, nmX2, rfl, by decide⟩
theorem kfX3 : KF 3 RX3 TX3 9 tyX3 := ⟨rfl, inX3, tyX3_ok, nmX3, rfl, by decide⟩
theorem kfX4 : KF 4 RX4 TX4 18 tyX4 := ⟨rfl, inX4, tyX4_ok, nmX4, rfl, by decide⟩
theorem kfX5 : KF 5 RX5 TX5 3 tyX5 := ⟨rfl, inX5, tyX5_ok, nmX5, rfl, by decide⟩
theorem kfX6 : KF 6 RX6 TX6 2 tyX6 := ⟨rfl, inX6, tyX6_ok, nmX6, rfl, by decide⟩
theorem kfX7 : KF 7 RX7 TX7 6 tyX7 := ⟨rfl, inX7, tyX7_ok, nmX7, rfl, by decide⟩
theorem kfX8 : KF 8 RX8 TX8 3 tyX8 := ⟨rfl, inX8, tyX8_ok, nmX8, rfl, by decide⟩
theorem kfX9 : KF 9 RX9 TX9 16 tyX9 := ⟨rfl, inX9, tyX9_ok, nmX9, rfl, by decide⟩
theorem kfX10 : KF 10 RX10 TX10 56 tyX10 := ⟨rfl, inX10, tyX10_ok, nmX10, rfl, by decide⟩
/-- an entry of a class's pool that names a field: class ci, place j, of sort t -/
def FL (own : String) (i ci j t : Nat) (ty : FieldType) (fin : Bool) : Prop :=
  ∃ (Cc : String) (T : u_T) (N : Nat) (tyf : Nat → FieldType), KF ci Cc T N tyf ∧ j < N ∧ Cond.fieldLink own i Cc (T j).2.1 (T j).2.2.1 ∈ lw_g ∧ (T j).1 = Cc ∧ FTY ci j = t ∧ tyf j = ty ∧ (T j).2.2.2 = fin
section
variable {p : Program} {l : Launch} {e : Env} {R : Room} {s : State} {m : MethodId} {args : Array Value} {below : List Frame} {meth : Method} {c : Code} {E : Ev} {M : Mt} {pm : Bool} {Q : Int → Cn → Nat → Prop} {n kc ks pc pc2 : Nat} {lv st st2 : List Vl} {C : Cn}
theorem AW.getf {x : Int} {i ci j t : Nat} {ty : FieldType} {fin : Bool} (f : FL M.1 i ci j t ty fin) (d : decode M.2.1 pc = .ok (.getfield i, 3)) (ho : okO n x ci) (k : AW p l e R s m args below meth c E M pm Q n kc ks (pc + 3) lv ((t, C x.toNat j) :: st) C) : AW p l e R s m args below meth c E M pm Q n kc ks pc lv ((2, x) :: st) C := by
  intro hc H locs ls hR hI hS hl ol os
  obtain ⟨Cc, T, N, tyf, ⟨k1, k2, k3, k4, k5, k6⟩, f1, f2, f3, f4, f5, f6⟩ := f
  subst f4
  have hat := hR.get ho
  rw [cellE_o ho.2.2 k6] at hat
  rw [List.map_cons, cv_obj ho.1]
  have okv : okV (FTY ci j, C x.toNat j) := by
    have := hI.1 x.toNat j
    unfold tyE at this
    rw [ho.2.2, if_pos k6] at this
    exact this
  have kk := k hc H locs ls hR hI hS hl ol (ok_c okv (ok_1 os).2)
  refine va_get (D := E.1) (cl := CLS) (tys := TYS E) (ws := [(eB E + x.toNat, .inr (ci, (List.range (NF ci)).map fun i => cv E (FTY ci i, C x.toNat i)))]) (C := Cc) (T := T) (N := N) (ci := ci) (ref := Cc) hc.1.1 hc.1.2.1 hc.1.2.2.2.2 k2 hc.1.2.2.2.1 hc.2.2.2.2.1.1 (fun k q hq => ?_) 0 rfl k1 j f1 (hc.1.2.2.2.2 _ f2) (fun z hz => by rw [← f3]; exact hz) ?_ d kk
  · match k, hq with
    | 0, hq => cases hq; exact hat
    | k + 1, hq => simp at hq
  · rw [List.getElem?_map, List.getElem?_range (by omega)]
    rfl
theorem AW.getp {x : Int} {i ci j : Nat} {ty : FieldType} {fin : Bool} (f : FL M.1 i ci j 2 ty fin) (d : decode M.2.1 pc = .ok (.getfield i, 3)) (ho : okO n x ci) (hpm : pm = true) (k : AW p l e R s m args below meth c E M pm Q n kc ks (pc + 3) lv ((2, PT x.toNat j) :: st) C) : AW p l e R s m args below meth c E M pm Q n kc ks pc lv ((2, x) :: st) C := by
  intro hc H locs ls hR hI hS hl ol os
  have hk : C x.toNat j = PT x.toNat j := by
    obtain ⟨Cc, T, N, tyf, ⟨k1, k2, k3, k4, k5, k6⟩, f1, f2, f3, f4, f5, f6⟩ := f
    refine hI.2.2 hpm x.toNat j (by have := ho.1; have := ho.2.1; omega) (LAY_lt (by rw [ho.2.2]; omega)) ?_
    unfold tyE
    rw [ho.2.2, if_pos k6, f4]
  refine AW.getf f d ho ?_ hc H locs ls hR hI hS hl ol os
  rw [hk]
  exact k
theorem AW.put0 {x v : Int} {i ci j t : Nat} {ty : FieldType} (f : FL M.1 i ci j t ty false) (d : decode M.2.1 pc = .ok (.putfield i, 3)) (ho : okO n x ci) (hn : narrow ty (cv E (t, v)) = cv E (t, v)) (hf : fits ty (cv E (t, v)) = true) (hpm : pm = true → t ≠ 2) (k : AW p l e R s m args below meth c E M pm Q n kc ks (pc + 3) lv st (wr C x.toNat j v)) : AW p l e R s m args below meth c E M pm Q n kc ks pc lv ((t, v) :: (2, x) :: st) C := by
  intro hc H locs ls hR hI hS hl ol os
  obtain ⟨Cc, T, N, tyf, ⟨k1, k2, k3, k4, k5, k6⟩, f1, f2, f3, f4, f5, f6⟩ := f
  subst f4
  subst f5
  have hat := hR.get ho
  have hd := k3 j f1
  rw [cellE_o ho.2.2 k6] at hat
  rw [List.map_cons, List.map_cons, cv_obj ho.1]
  have hK := hc.2.2.2.2.1.1
  have hap := va_apart (own := M.1) hc.1.2.2.2.2 k2 tyf k3 k4 hK k1
  obtain ⟨r, h1, cell, q1, q2, q3, q4⟩ := hat
  have hr : r = (Cc, T, N) := Option.some.inj (h1.symm.trans k1)
  subst hr
  obtain ⟨hS1, hfc, kC, hkC, hkind⟩ := hK.1 ci _ k1
  obtain ⟨cf, kf, fi, fd, hi, hsl⟩ := hS1 j f1
  have hlay := hc.1.2.2.2.2 _ (k2 _ (u_in_lay f1))
  unfold u_lay at hlay
  rw [if_neg (by rw [f6]; decide)] at hlay
  have hst := (u_facts hfc hkC (u_lays hc.1.2.2.2.2 k2 f1) hi).1
  have h6 := u_store hfc hkC hkind hlay hi hd hn hf
  refine W.putK hc.1.1 hc.1.2.1 (f := fd) ⟨hc.1.2.2.2.1, hc.1.2.2.2.2 _ f2, ⟨_, _, _, by rw [← f3]; exact hi⟩, hst⟩ (by rw [q2]; exact h6) q1 q3 (by rw [hsl]; exact k2_hasslot (q4 j f1)) rfl rfl d fun H1 e1 e2 e3 => ?_
  rw [hsl] at e1 ⊢
  have okv : okV (FTY ci j, v) := (ok_1 os).1
  have tyv : tyE (LAY x.toNat).1 j = FTY ci j := by unfold tyE; rw [ho.2.2, if_pos k6]
  refine k hc H1 _ ls (hR.put e2 e3 ?_) (hI.put (by rw [tyv]; exact okv) (by have := ho.1; have := ho.2.1; omega) (fun h => by rw [tyv]; exact hpm h)) (hS.put e2 e3 ?_) hl ol (ok_d2 os)
  · rw [cellE_o ho.2.2 k6, ← map_set]
    exact ⟨_, k1, t_OB.to (V := updV (vp_V _) j (cv E (FTY ci j, v))) ⟨_, e1, q2, q3, t_set q4 hap f1 _⟩ (fun a _ => vp_updV_set (by simp; omega) _ a)⟩
  · show eB E < eB E + x.toNat
    have := ho.1
    omega
theorem AW.putI {x v : Int} {i ci j : Nat} (f : FL M.1 i ci j 0 .int false) (d : decode M.2.1 pc = .ok (.putfield i, 3)) (ho : okO n x ci) (k : AW p l e R s m args below meth c E M pm Q n kc ks (pc + 3) lv st (wr C x.toNat j v)) : AW p l e R s m args below meth c E M pm Q n kc ks pc lv ((0, v) :: (2, x) :: st) C :=
  AW.put0 f d ho rfl rfl (fun _ => by decide) k
theorem AW.putJ {x v : Int} {i ci j : Nat} (f : FL M.1 i ci j 1 .long false) (d : decode M.2.1 pc = .ok (.putfield i, 3)) (ho : okO n x ci) (k : AW p l e R s m args below meth c E M pm Q n kc ks (pc + 3) lv st (wr C x.toNat j v)) : AW p l e R s m args below meth c E M pm Q n kc ks pc lv ((1, v) :: (2, x) :: st) C :=
  AW.put0 f d ho rfl rfl (fun _ => by decide) k
theorem fits_b {x : Int} (h : x = 0 ∨ x = 1) : fits .boolean (.int (Int32.ofInt x)) = true := by
  rcases h with rfl | rfl <;> decide +kernel
theorem AW.putZ {x v : Int} {i ci j : Nat} (f : FL M.1 i ci j 0 .boolean false) (d : decode M.2.1 pc = .ok (.putfield i, 3)) (ho : okO n x ci) (hv : v = 0 ∨ v = 1) (k : AW p l e R s m args below meth c E M pm Q n kc ks (pc + 3) lv st (wr C x.toNat j v)) : AW p l e R s m args below meth c E M pm Q n kc ks pc lv ((0, v) :: (2, x) :: st) C :=
  AW.put0 f d ho (nar_b hv) (fits_b hv) (fun _ => by decide) k
/-- a final field of a reference, in a constructor -/
theorem AW.putF {x v : Int} {i ci j : Nat} {ty : FieldType} (f : FL M.1 i ci j 2 ty true) (d : decode M.2.1 pc = .ok (.putfield i, 3)) (ho : okO n x ci) (hown : ∀ Cc T N, CLS[ci]? = some (Cc, T, N) → Cc = M.1) (hnm : M.2.2.2.2.1 = "<init>") (hn : ∀ o : Option Nat, narrow ty (va_rf o) = va_rf o) (hf : ∀ o : Option Nat, fits ty (va_rf o) = true) (hpm : pm = false) (k : AW p l e R s m args below meth c E M pm Q n kc ks (pc + 3) lv st (wr C x.toNat j v)) : AW p l e R s m args below meth c E M pm Q n kc ks pc lv ((2, v) :: (2, x) :: st) C := by
  intro hc H locs ls hR hI hS hl ol os
  obtain ⟨Cc, T, N, tyf, ⟨k1, k2, k3, k4, k5, k6⟩, f1, f2, f3, f4, f5, f6⟩ := f
  subst f5
  have hat := hR.get ho
  have hd := k3 j f1
  have hCc := hown _ _ _ k1
  rw [cellE_o ho.2.2 k6] at hat
  rw [List.map_cons, List.map_cons, cv_obj ho.1]
  have hK := hc.2.2.2.2.1.1
  have hap := va_apart (own := M.1) hc.1.2.2.2.2 k2 tyf k3 k4 hK k1
  obtain ⟨r, h1, cell, q1, q2, q3, q4⟩ := hat
  have hr : r = (Cc, T, N) := Option.some.inj (h1.symm.trans k1)
  subst hr
  obtain ⟨hS1, hfc, kC, hkC, hkind⟩ := hK.1 ci _ k1
  obtain ⟨cf, kf, fi, fd, hi, hsl⟩ := hS1 j f1
  have hlay := hc.1.2.2.2.2 _ (k2 _ (u_in_lay f1))
  unfold u_lay at hlay
  rw [if_pos f6] at hlay
  have hst := (u_facts hfc hkC (u_lays hc.1.2.2.2.2 k2 f1) hi).1
  have hcf : cf = m.cls := by
    obtain ⟨_, _, c', _, _, _, -, -, hf', -, -, -, hown2, -⟩ := Cond.laysFinal_spec hlay
    have e1 : c' = cf := by have := hi.symm.trans hf'; simp at this; exact this.1.symm
    rw [f3, hCc] at hown2
    rw [← e1]
    exact Option.some.inj (hown2.symm.trans hc.1.2.2.2.1)
  have hcv : ∀ o, cv E (2, o) = va_rf (rfo E o) := fun _ => rfl
  have h6 := u_fits (v := cv E (2, v)) hfc hkC hkind (Or.inr hlay) hi hd (hn _) (hf _)
  refine W.putFinK hc.1.1 hc.1.2.1 hc.1.2.2.2.1 (hc.1.2.2.2.2 _ f2) (by rw [← f3]; exact hi) hst hcf.symm (hc.2.2.2.1.trans hnm) (by rw [q2]; exact h6) q1 q3 (by rw [hsl]; exact k2_hasslot (q4 j f1)) rfl rfl d fun H1 e1 e2 e3 => ?_
  rw [hsl] at e1 ⊢
  have tyv : tyE (LAY x.toNat).1 j = 2 := by unfold tyE; rw [ho.2.2, if_pos k6, f4]
  refine k hc H1 _ ls (hR.put e2 e3 ?_) (hI.put (by rw [tyv]; exact trivial) (by have := ho.1; have := ho.2.1; omega) (fun h => by rw [hpm] at h; cases h)) (hS.put e2 e3 ?_) hl ol (ok_d2 os)
  · rw [cellE_o ho.2.2 k6, ← map_set, f4]
    exact ⟨_, k1, t_OB.to (V := updV (vp_V _) j (cv E (2, v))) ⟨_, e1, q2, q3, t_set q4 hap f1 _⟩ (fun a _ => vp_updV_set (by simp; omega) _ a)⟩
  · show eB E < eB E + x.toNat
    have := ho.1
    omega
end
