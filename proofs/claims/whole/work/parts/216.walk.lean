section
variable {p : Program} {l : Launch} {e : Env} {R : Room} {s : State} {m : MethodId} {args : Array Value} {below : List Frame} {meth : Method} {c : Code} {E : Ev}
def B_G_costs_78 (n : Nat) (v0 v1 v2 : Int) (kz58 : Cn × Int → Prop) (kz68 : Cn × Int → Prop) (Q : Int → Cn → Prop) (kz78 : Cn × Int → Prop) (z : Cn × Int) : Prop := match z with
  | (C, v3) => okO n v0 10 ∧ ((C v0.toNat 18 ≤ v3 → (kz68 (C, w32 (v2 + 1)))) ∧ (¬ C v0.toNat 18 ≤ v3 → (okO n (PT v0.toNat 32) 17 ∧ (okI (PT v0.toNat 32) v2 ∧ (okO n (PT (PT v0.toNat 32).toNat v2.toNat) 12 ∧ (okI (PT (PT v0.toNat 32).toNat v2.toNat) v3 ∧ (okI (PT (PT v0.toNat 32).toNat v2.toNat) v1 ∧ (okI (PT v0.toNat 32) v1 ∧ (okO n (PT (PT v0.toNat 32).toNat v1.toNat) 12 ∧ (okI (PT (PT v0.toNat 32).toNat v1.toNat) v3 ∧ (∀ C_26 : Cn, C_26 = wr C (PT (PT v0.toNat 32).toNat v2.toNat).toNat v3.toNat (imin (C (PT (PT v0.toNat 32).toNat v2.toNat).toNat v3.toNat) (w32 (C (PT (PT v0.toNat 32).toNat v2.toNat).toNat v1.toNat + C (PT (PT v0.toNat 32).toNat v1.toNat).toNat v3.toNat))) → (kz78 (C_26, w32 (v3 + 1))))))))))))))
theorem bB_G_costs_78 (n : Nat) (v0 v1 v2 : Int) (kz58 : Cn × Int → Prop) (kz68 : Cn × Int → Prop) (Q : Int → Cn → Prop) (hkz58 : ∀ (Cz : Cn) (z1 : Int), kz58 (Cz, z1) → AW p l e R s m args below meth c E M_G_costs true (fun r C2 n2 => n2 = n ∧ Q r C2) n 0 0 58 [(2, v0), (0, z1), (9, 0), (9, 0)] [] Cz) (hkz68 : ∀ (Cz : Cn) (z2 : Int), kz68 (Cz, z2) → AW p l e R s m args below meth c E M_G_costs true (fun r C2 n2 => n2 = n ∧ Q r C2) n 0 0 68 [(2, v0), (0, v1), (0, z2), (9, 0)] [] Cz) (kz78 : Cn × Int → Prop) (hkz78 : ∀ (Cz : Cn) (z3 : Int), kz78 (Cz, z3) → AW p l e R s m args below meth c E M_G_costs true (fun r C2 n2 => n2 = n ∧ Q r C2) n 0 0 78 [(2, v0), (0, v1), (0, v2), (0, z3)] [] Cz) (C : Cn) (v3 : Int) (h : B_G_costs_78 n v0 v1 v2 kz58 kz68 Q kz78 (C, v3)) : AW p l e R s m args below meth c E M_G_costs true (fun r C2 n2 => n2 = n ∧ Q r C2) n 0 0 78 [(2, v0), (0, v1), (0, v2), (0, v3)] [] C := by
  unfold B_G_costs_78 at h
  dsimp only at h
  refine AW.iload_n (dc hd_G_costs 46 rfl) rfl ?_
  refine AW.ra_n (dc hd_G_costs 47 rfl) rfl rfl rfl ?_
  obtain ⟨g_16, h⟩ := h
  refine AW.getf fl_10_214 (dc hd_G_costs 48 rfl) g_16 ?_
  refine AW.icmp_ge (t := 128) (dc hd_G_costs 49 rfl) (by decide) (fun c_17 => ?_) (fun c_17 => ?_)
  · have h := h.1 c_17
    refine AW.iinc [(2, v0), (0, v1), (0, w32 (v2 + 1)), (0, v3)] (dc hd_G_costs 78 rfl) rfl (Nat.le_of_ble_eq_true rfl) rfl rfl ?_
    refine AW.goto (t := 68) (dc hd_G_costs 79 rfl) (by decide) ?_
    refine AW.fgt [(2, v0), (0, v1), (0, w32 (v2 + 1)), (9, 0)] ⟨.inl rfl, .inl rfl, .inl rfl, .inr rfl, trivial⟩ ?_
    exact hkz68 C (w32 (v2 + 1)) h
  · have h := h.2 c_17
    refine AW.ra_n (dc hd_G_costs 50 rfl) rfl rfl rfl ?_
    refine AW.getp fl_10_70 (dc hd_G_costs 51 rfl) g_16 rfl ?_
    refine AW.iload_n (dc hd_G_costs 52 rfl) rfl ?_
    obtain ⟨g_18, h⟩ := h
    obtain ⟨g_19, h⟩ := h
    refine AW.aaldp (by decide) (dc hd_G_costs 53 rfl) g_18 g_19 rfl ?_
    refine AW.iload_n (dc hd_G_costs 54 rfl) rfl ?_
    refine AW.ra_n (dc hd_G_costs 55 rfl) rfl rfl rfl ?_
    refine AW.getp fl_10_70 (dc hd_G_costs 56 rfl) g_16 rfl ?_
    refine AW.iload_n (dc hd_G_costs 57 rfl) rfl ?_
    refine AW.aaldp (by decide) (dc hd_G_costs 58 rfl) g_18 g_19 rfl ?_
    refine AW.iload_n (dc hd_G_costs 59 rfl) rfl ?_
    obtain ⟨g_20, h⟩ := h
    obtain ⟨g_21, h⟩ := h
    refine AW.iald (dc hd_G_costs 60 rfl) g_20 g_21 ?_
    refine AW.ra_n (dc hd_G_costs 61 rfl) rfl rfl rfl ?_
    refine AW.getp fl_10_70 (dc hd_G_costs 62 rfl) g_16 rfl ?_
    refine AW.iload_n (dc hd_G_costs 63 rfl) rfl ?_
    refine AW.aaldp (by decide) (dc hd_G_costs 64 rfl) g_18 g_19 rfl ?_
    refine AW.iload_n (dc hd_G_costs 65 rfl) rfl ?_
    obtain ⟨g_22, h⟩ := h
    refine AW.iald (dc hd_G_costs 66 rfl) g_20 g_22 ?_
    refine AW.ra_n (dc hd_G_costs 67 rfl) rfl rfl rfl ?_
    refine AW.getp fl_10_70 (dc hd_G_costs 68 rfl) g_16 rfl ?_
    refine AW.iload_n (dc hd_G_costs 69 rfl) rfl ?_
    obtain ⟨g_23, h⟩ := h
    refine AW.aaldp (by decide) (dc hd_G_costs 70 rfl) g_18 g_23 rfl ?_
    refine AW.iload_n (dc hd_G_costs 71 rfl) rfl ?_
    obtain ⟨g_24, h⟩ := h
    obtain ⟨g_25, h⟩ := h
    refine AW.iald (dc hd_G_costs 72 rfl) g_24 g_25 ?_
    refine AW.iadd (dc hd_G_costs 73 rfl) ?_
    refine AW.mmin (dc hd_G_costs 74 rfl) mt_10_346 (Nat.le_of_ble_eq_true rfl) (Nat.le_of_ble_eq_true rfl) (Nat.le_of_ble_eq_true rfl) (Nat.le_of_ble_eq_true rfl) (Nat.le_of_ble_eq_true rfl) ?_
    refine AW.niast (dc hd_G_costs 75 rfl) g_20 g_21 (fun C_26 eC_26 => ?_)
    have h := h C_26 eC_26
    refine AW.iinc [(2, v0), (0, v1), (0, v2), (0, w32 (v3 + 1))] (dc hd_G_costs 76 rfl) rfl (Nat.le_of_ble_eq_true rfl) rfl rfl ?_
    refine AW.goto (t := 78) (dc hd_G_costs 77 rfl) (by decide) ?_
    exact hkz78 C_26 (w32 (v3 + 1)) h
theorem aB_G_costs_78 (n : Nat) (v0 v1 v2 : Int) (kz58 : Cn × Int → Prop) (kz68 : Cn × Int → Prop) (Q : Int → Cn → Prop) (hkz58 : ∀ (Cz : Cn) (z1 : Int), kz58 (Cz, z1) → AW p l e R s m args below meth c E M_G_costs true (fun r C2 n2 => n2 = n ∧ Q r C2) n 0 0 58 [(2, v0), (0, z1), (9, 0), (9, 0)] [] Cz) (hkz68 : ∀ (Cz : Cn) (z2 : Int), kz68 (Cz, z2) → AW p l e R s m args below meth c E M_G_costs true (fun r C2 n2 => n2 = n ∧ Q r C2) n 0 0 68 [(2, v0), (0, v1), (0, z2), (9, 0)] [] Cz) : ∀ (f : Nat) (z : Cn × Int), lp (B_G_costs_78 n v0 v1 v2 kz58 kz68 Q) f z → AW p l e R s m args below meth c E M_G_costs true (fun r C2 n2 => n2 = n ∧ Q r C2) n 0 0 78 [(2, v0), (0, v1), (0, v2), (0, z.2)] [] (z.1) := by
  intro f
  induction f with
  | zero => intro z h; exact False.elim h
  | succ f ih => intro z h; exact bB_G_costs_78 n v0 v1 v2 kz58 kz68 Q hkz58 hkz68 (lp (B_G_costs_78 n v0 v1 v2 kz58 kz68 Q) f) (fun a0 a1 h => ih (a0, a1) h) z.1 z.2 h
def B_G_costs_68 (n : Nat) (v0 v1 : Int) (kz58 : Cn × Int → Prop) (Q : Int → Cn → Prop) (kz68 : Cn × Int → Prop) (z : Cn × Int) : Prop := match z with
  | (C, v2) => okO n v0 10 ∧ ((C v0.toNat 18 ≤ v2 → (kz58 (C, w32 (v1 + 1)))) ∧ (¬ C v0.toNat 18 ≤ v2 → (∃ f_27 : Nat, lp (B_G_costs_78 n v0 v1 v2 kz58 kz68 Q) f_27 (C, 0))))
theorem bB_G_costs_68 (n : Nat) (v0 v1 : Int) (kz58 : Cn × Int → Prop) (Q : Int → Cn → Prop) (hkz58 : ∀ (Cz : Cn) (z1 : Int), kz58 (Cz, z1) → AW p l e R s m args below meth c E M_G_costs true (fun r C2 n2 => n2 = n ∧ Q r C2) n 0 0 58 [(2, v0), (0, z1), (9, 0), (9, 0)] [] Cz) (kz68 : Cn × Int → Prop) (hkz68 : ∀ (Cz : Cn) (z2 : Int), kz68 (Cz, z2) → AW p l e R s m args below meth c E M_G_costs true (fun r C2 n2 => n2 = n ∧ Q r C2) n 0 0 68 [(2, v0), (0, v1), (0, z2), (9, 0)] [] Cz) (C : Cn) (v2 : Int) (h : B_G_costs_68 n v0 v1 kz58 Q kz68 (C, v2)) : AW p l e R s m args below meth c E M_G_costs true (fun r C2 n2 => n2 = n ∧ Q r C2) n 0 0 68 [(2, v0), (0, v1), (0, v2), (9, 0)] [] C := by
  unfold B_G_costs_68 at h
  dsimp only at h
  refine AW.iload_n (dc hd_G_costs 40 rfl) rfl ?_
  refine AW.ra_n (dc hd_G_costs 41 rfl) rfl rfl rfl ?_
  obtain ⟨g_14, h⟩ := h
  refine AW.getf fl_10_214 (dc hd_G_costs 42 rfl) g_14 ?_
  refine AW.icmp_ge (t := 134) (dc hd_G_costs 43 rfl) (by decide) (fun c_15 => ?_) (fun c_15 => ?_)
  · have h := h.1 c_15
    refine AW.iinc [(2, v0), (0, w32 (v1 + 1)), (0, v2), (9, 0)] (dc hd_G_costs 80 rfl) rfl (Nat.le_of_ble_eq_true rfl) rfl rfl ?_
    refine AW.goto (t := 58) (dc hd_G_costs 81 rfl) (by decide) ?_
    refine AW.fgt [(2, v0), (0, w32 (v1 + 1)), (9, 0), (9, 0)] ⟨.inl rfl, .inl rfl, .inr rfl, .inl rfl, trivial⟩ ?_
    exact hkz58 C (w32 (v1 + 1)) h
  · have h := h.2 c_15
    refine AW.iconst (dc hd_G_costs 44 rfl) (by decide) ?_
    refine AW.istore_n [(2, v0), (0, v1), (0, v2), (0, 0)] (dc hd_G_costs 45 rfl) (Nat.le_of_ble_eq_true rfl) rfl rfl ?_
    obtain ⟨f_27, h⟩ := h
    exact aB_G_costs_78 n v0 v1 v2 kz58 kz68 Q hkz58 hkz68 f_27 (C, 0) h
theorem aB_G_costs_68 (n : Nat) (v0 v1 : Int) (kz58 : Cn × Int → Prop) (Q : Int → Cn → Prop) (hkz58 : ∀ (Cz : Cn) (z1 : Int), kz58 (Cz, z1) → AW p l e R s m args below meth c E M_G_costs true (fun r C2 n2 => n2 = n ∧ Q r C2) n 0 0 58 [(2, v0), (0, z1), (9, 0), (9, 0)] [] Cz) : ∀ (f : Nat) (z : Cn × Int), lp (B_G_costs_68 n v0 v1 kz58 Q) f z → AW p l e R s m args below meth c E M_G_costs true (fun r C2 n2 => n2 = n ∧ Q r C2) n 0 0 68 [(2, v0), (0, v1), (0, z.2), (9, 0)] [] (z.1) := by
  intro f
  induction f with
  | zero => intro z h; exact False.elim h
  | succ f ih => intro z h; exact bB_G_costs_68 n v0 v1 kz58 Q hkz58 (lp (B_G_costs_68 n v0 v1 kz58 Q) f) (fun a0 a1 h => ih (a0, a1) h) z.1 z.2 h
def B_G_costs_58 (n : Nat) (v0 : Int) (Q : Int → Cn → Prop) (kz58 : Cn × Int → Prop) (z : Cn × Int) : Prop := match z with
  | (C, v1) => okO n v0 10 ∧ ((C v0.toNat 18 ≤ v1 → (Q 0 C)) ∧ (¬ C v0.toNat 18 ≤ v1 → (∃ f_28 : Nat, lp (B_G_costs_68 n v0 v1 kz58 Q) f_28 (C, 0))))
theorem bB_G_costs_58 (n : Nat) (v0 : Int) (Q : Int → Cn → Prop) (kz58 : Cn × Int → Prop) (hkz58 : ∀ (Cz : Cn) (z1 : Int), kz58 (Cz, z1) → AW p l e R s m args below meth c E M_G_costs true (fun r C2 n2 => n2 = n ∧ Q r C2) n 0 0 58 [(2, v0), (0, z1), (9, 0), (9, 0)] [] Cz) (C : Cn) (v1 : Int) (h : B_G_costs_58 n v0 Q kz58 (C, v1)) : AW p l e R s m args below meth c E M_G_costs true (fun r C2 n2 => n2 = n ∧ Q r C2) n 0 0 58 [(2, v0), (0, v1), (9, 0), (9, 0)] [] C := by
  unfold B_G_costs_58 at h
  dsimp only at h
  refine AW.iload_n (dc hd_G_costs 34 rfl) rfl ?_
  refine AW.ra_n (dc hd_G_costs 35 rfl) rfl rfl rfl ?_
  obtain ⟨g_12, h⟩ := h
  refine AW.getf fl_10_214 (dc hd_G_costs 36 rfl) g_12 ?_
  refine AW.icmp_ge (t := 140) (dc hd_G_costs 37 rfl) (by decide) (fun c_13 => ?_) (fun c_13 => ?_)
  · have h := h.1 c_13
    exact AW.vret (dc hd_G_costs 82 rfl) rfl rfl (Nat.le_of_ble_eq_true rfl) (Nat.le_of_ble_eq_true rfl) ⟨rfl, h⟩
  · have h := h.2 c_13
    refine AW.iconst (dc hd_G_costs 38 rfl) (by decide) ?_
    refine AW.istore_n [(2, v0), (0, v1), (0, 0), (9, 0)] (dc hd_G_costs 39 rfl) (Nat.le_of_ble_eq_true rfl) rfl rfl ?_
    obtain ⟨f_28, h⟩ := h
    exact aB_G_costs_68 n v0 v1 kz58 Q hkz58 f_28 (C, 0) h
theorem aB_G_costs_58 (n : Nat) (v0 : Int) (Q : Int → Cn → Prop) : ∀ (f : Nat) (z : Cn × Int), lp (B_G_costs_58 n v0 Q) f z → AW p l e R s m args below meth c E M_G_costs true (fun r C2 n2 => n2 = n ∧ Q r C2) n 0 0 58 [(2, v0), (0, z.2), (9, 0), (9, 0)] [] (z.1) := by
  intro f
  induction f with
  | zero => intro z h; exact False.elim h
  | succ f ih => intro z h; exact bB_G_costs_58 n v0 Q (lp (B_G_costs_58 n v0 Q) f) (fun a0 a1 h => ih (a0, a1) h) z.1 z.2 h
def B_G_costs_20 (n : Nat) (v0 v1 : Int) (kz10 : Cn × Int → Prop) (Q : Int → Cn → Prop) (kz20 : Cn × Int → Prop) (z : Cn × Int) : Prop := match z with
  | (C, v2) => okO n v0 10 ∧ ((C v0.toNat 18 ≤ v2 → (kz10 (C, w32 (v1 + 1)))) ∧ (¬ C v0.toNat 18 ≤ v2 → (okO n (PT v0.toNat 33) 17 ∧ (okI (PT v0.toNat 33) v1 ∧ (okO n (PT v0.toNat 32) 17 ∧ (okI (PT v0.toNat 32) v1 ∧ (okO n (PT (PT v0.toNat 32).toNat v1.toNat) 12 ∧ (okI (PT (PT v0.toNat 32).toNat v1.toNat) v2 ∧ (okO n (PT (PT v0.toNat 33).toNat v1.toNat) 12 ∧ (okI (PT (PT v0.toNat 33).toNat v1.toNat) v2 ∧ (∀ C_40 : Cn, C_40 = wr C (PT (PT v0.toNat 33).toNat v1.toNat).toNat v2.toNat (C (PT (PT v0.toNat 32).toNat v1.toNat).toNat v2.toNat) → (kz20 (C_40, w32 (v2 + 1))))))))))))))
theorem bB_G_costs_20 (n : Nat) (v0 v1 : Int) (kz10 : Cn × Int → Prop) (Q : Int → Cn → Prop) (hkz10 : ∀ (Cz : Cn) (z1 : Int), kz10 (Cz, z1) → AW p l e R s m args below meth c E M_G_costs true (fun r C2 n2 => n2 = n ∧ Q r C2) n 0 0 10 [(2, v0), (0, z1), (9, 0), (9, 0)] [] Cz) (kz20 : Cn × Int → Prop) (hkz20 : ∀ (Cz : Cn) (z2 : Int), kz20 (Cz, z2) → AW p l e R s m args below meth c E M_G_costs true (fun r C2 n2 => n2 = n ∧ Q r C2) n 0 0 20 [(2, v0), (0, v1), (0, z2), (9, 0)] [] Cz) (C : Cn) (v2 : Int) (h : B_G_costs_20 n v0 v1 kz10 Q kz20 (C, v2)) : AW p l e R s m args below meth c E M_G_costs true (fun r C2 n2 => n2 = n ∧ Q r C2) n 0 0 20 [(2, v0), (0, v1), (0, v2), (9, 0)] [] C := by
  unfold B_G_costs_20 at h
  dsimp only at h
  refine AW.iload_n (dc hd_G_costs 12 rfl) rfl ?_
  refine AW.ra_n (dc hd_G_costs 13 rfl) rfl rfl rfl ?_
  obtain ⟨g_30, h⟩ := h
  refine AW.getf fl_10_214 (dc hd_G_costs 14 rfl) g_30 ?_
  refine AW.icmp_ge (t := 50) (dc hd_G_costs 15 rfl) (by decide) (fun c_31 => ?_) (fun c_31 => ?_)
  · have h := h.1 c_31
    refine AW.iinc [(2, v0), (0, w32 (v1 + 1)), (0, v2), (9, 0)] (dc hd_G_costs 30 rfl) rfl (Nat.le_of_ble_eq_true rfl) rfl rfl ?_
    refine AW.goto (t := 10) (dc hd_G_costs 31 rfl) (by decide) ?_
    refine AW.fgt [(2, v0), (0, w32 (v1 + 1)), (9, 0), (9, 0)] ⟨.inl rfl, .inl rfl, .inr rfl, .inl rfl, trivial⟩ ?_
    exact hkz10 C (w32 (v1 + 1)) h
  · have h := h.2 c_31
    refine AW.ra_n (dc hd_G_costs 16 rfl) rfl rfl rfl ?_
    refine AW.getp fl_10_73 (dc hd_G_costs 17 rfl) g_30 rfl ?_
    refine AW.iload_n (dc hd_G_costs 18 rfl) rfl ?_
    obtain ⟨g_32, h⟩ := h
    obtain ⟨g_33, h⟩ := h
    refine AW.aaldp (by decide) (dc hd_G_costs 19 rfl) g_32 g_33 rfl ?_
    refine AW.iload_n (dc hd_G_costs 20 rfl) rfl ?_
    refine AW.ra_n (dc hd_G_costs 21 rfl) rfl rfl rfl ?_
    refine AW.getp fl_10_70 (dc hd_G_costs 22 rfl) g_30 rfl ?_
    refine AW.iload_n (dc hd_G_costs 23 rfl) rfl ?_
    obtain ⟨g_34, h⟩ := h
    obtain ⟨g_35, h⟩ := h
    refine AW.aaldp (by decide) (dc hd_G_costs 24 rfl) g_34 g_35 rfl ?_
    refine AW.iload_n (dc hd_G_costs 25 rfl) rfl ?_
    obtain ⟨g_36, h⟩ := h
    obtain ⟨g_37, h⟩ := h
    refine AW.iald (dc hd_G_costs 26 rfl) g_36 g_37 ?_
    obtain ⟨g_38, h⟩ := h
    obtain ⟨g_39, h⟩ := h
    refine AW.niast (dc hd_G_costs 27 rfl) g_38 g_39 (fun C_40 eC_40 => ?_)
    have h := h C_40 eC_40
    refine AW.iinc [(2, v0), (0, v1), (0, w32 (v2 + 1)), (9, 0)] (dc hd_G_costs 28 rfl) rfl (Nat.le_of_ble_eq_true rfl) rfl rfl ?_
    refine AW.goto (t := 20) (dc hd_G_costs 29 rfl) (by decide) ?_
    exact hkz20 C_40 (w32 (v2 + 1)) h
theorem aB_G_costs_20 (n : Nat) (v0 v1 : Int) (kz10 : Cn × Int → Prop) (Q : Int → Cn → Prop) (hkz10 : ∀ (Cz : Cn) (z1 : Int), kz10 (Cz, z1) → AW p l e R s m args below meth c E M_G_costs true (fun r C2 n2 => n2 = n ∧ Q r C2) n 0 0 10 [(2, v0), (0, z1), (9, 0), (9, 0)] [] Cz) : ∀ (f : Nat) (z : Cn × Int), lp (B_G_costs_20 n v0 v1 kz10 Q) f z → AW p l e R s m args below meth c E M_G_costs true (fun r C2 n2 => n2 = n ∧ Q r C2) n 0 0 20 [(2, v0), (0, v1), (0, z.2), (9, 0)] [] (z.1) := by
  intro f
  induction f with
  | zero => intro z h; exact False.elim h
  | succ f ih => intro z h; exact bB_G_costs_20 n v0 v1 kz10 Q hkz10 (lp (B_G_costs_20 n v0 v1 kz10 Q) f) (fun a0 a1 h => ih (a0, a1) h) z.1 z.2 h
def B_G_costs_10 (n : Nat) (v0 : Int) (Q : Int → Cn → Prop) (kz10 : Cn × Int → Prop) (z : Cn × Int) : Prop := match z with
  | (C, v1) => okO n v0 10 ∧ ((C v0.toNat 18 ≤ v1 → (∃ f_29 : Nat, lp (B_G_costs_58 n v0 Q) f_29 (C, 0))) ∧ (¬ C v0.toNat 18 ≤ v1 → (∃ f_41 : Nat, lp (B_G_costs_20 n v0 v1 kz10 Q) f_41 (C, 0))))
theorem bB_G_costs_10 (n : Nat) (v0 : Int) (Q : Int → Cn → Prop) (kz10 : Cn × Int → Prop) (hkz10 : ∀ (Cz : Cn) (z1 : Int), kz10 (Cz, z1) → AW p l e R s m args below meth c E M_G_costs true (fun r C2 n2 => n2 = n ∧ Q r C2) n 0 0 10 [(2, v0), (0, z1), (9, 0), (9, 0)] [] Cz) (C : Cn) (v1 : Int) (h : B_G_costs_10 n v0 Q kz10 (C, v1)) : AW p l e R s m args below meth c E M_G_costs true (fun r C2 n2 => n2 = n ∧ Q r C2) n 0 0 10 [(2, v0), (0, v1), (9, 0), (9, 0)] [] C := by
  unfold B_G_costs_10 at h
  dsimp only at h
  refine AW.iload_n (dc hd_G_costs 6 rfl) rfl ?_
  refine AW.ra_n (dc hd_G_costs 7 rfl) rfl rfl rfl ?_
  obtain ⟨g_10, h⟩ := h
  refine AW.getf fl_10_214 (dc hd_G_costs 8 rfl) g_10 ?_
  refine AW.icmp_ge (t := 56) (dc hd_G_costs 9 rfl) (by decide) (fun c_11 => ?_) (fun c_11 => ?_)
  · have h := h.1 c_11
    refine AW.iconst (dc hd_G_costs 32 rfl) (by decide) ?_
    refine AW.istore_n [(2, v0), (0, 0), (9, 0), (9, 0)] (dc hd_G_costs 33 rfl) (Nat.le_of_ble_eq_true rfl) rfl rfl ?_
    obtain ⟨f_29, h⟩ := h
    exact aB_G_costs_58 n v0 Q f_29 (C, 0) h
  · have h := h.2 c_11
    refine AW.iconst (dc hd_G_costs 10 rfl) (by decide) ?_
    refine AW.istore_n [(2, v0), (0, v1), (0, 0), (9, 0)] (dc hd_G_costs 11 rfl) (Nat.le_of_ble_eq_true rfl) rfl rfl ?_
    obtain ⟨f_41, h⟩ := h
    exact aB_G_costs_20 n v0 v1 kz10 Q hkz10 f_41 (C, 0) h
theorem aB_G_costs_10 (n : Nat) (v0 : Int) (Q : Int → Cn → Prop) : ∀ (f : Nat) (z : Cn × Int), lp (B_G_costs_10 n v0 Q) f z → AW p l e R s m args below meth c E M_G_costs true (fun r C2 n2 => n2 = n ∧ Q r C2) n 0 0 10 [(2, v0), (0, z.2), (9, 0), (9, 0)] [] (z.1) := by
  intro f
  induction f with
  | zero => intro z h; exact False.elim h
  | succ f ih => intro z h; exact bB_G_costs_10 n v0 Q (lp (B_G_costs_10 n v0 Q) f) (fun a0 a1 h => ih (a0, a1) h) z.1 z.2 h
def P_G_costs (n : Nat) (C : Cn) (v0 : Int) (Q : Int → Cn → Prop) : Prop :=
  okO n v0 10 ∧ (P_G_maps n C v0 (fun (_ : Int) (C_2 : Cn) => P_G_steps1 n C_2 v0 (fun (_ : Int) (C_6 : Cn) => ∃ f_42 : Nat, lp (B_G_costs_10 n v0 Q) f_42 (C_6, 0))))
theorem m_G_costs (l : Launch) (E : Ev) (n : Nat) (C : Cn) (v0 : Int) (Q : Int → Cn → Prop) (h : P_G_costs n C v0 Q) : MA l y_G_costs M_G_costs E true C n [(2, v0)] (fun r C2 n2 => n2 = n ∧ Q r C2) := by
  refine MA.of (by decide) rfl rfl 3 rfl (fun p e s m args below meth c => ?_)
  show AW p l e _ s m args below meth c E M_G_costs true _ n 0 0 0 [(2, v0), (9, 0), (9, 0), (9, 0)] [] C
  unfold P_G_costs at h
  refine AW.ra_n (dc hd_G_costs 0 rfl) rfl rfl rfl ?_
  obtain ⟨g_1, h⟩ := h
  refine AW.callV (As := []) (rest := []) (ci := 10) (m_G_maps l E n C v0 _ h) cb_10_211 im_G_maps se_G_maps ⟨_, _, rfl⟩ (by decide) (dc hd_G_costs 1 rfl) g_1 rfl rfl ⟨Nat.le_of_ble_eq_true rfl, Nat.le_of_ble_eq_true rfl⟩ ⟨(Nat.le_of_ble_eq_true rfl), (Nat.le_of_ble_eq_true rfl)⟩ (Nat.le_of_ble_eq_true rfl) (fun _ h => by cases h) (fun _ => rfl) (fun u_4 C_2 d_5 q_3 => ?_)
  obtain ⟨q_3a, h⟩ := q_3
  subst d_5
  show AW p l e _ s m args below meth c E M_G_costs true _ n _ _ _ [(2, v0), (9, 0), (9, 0), (9, 0)] [] C_2
  refine AW.ra_n (dc hd_G_costs 2 rfl) rfl rfl rfl ?_
  refine AW.callV (As := []) (rest := []) (ci := 10) (m_G_steps1 l E n C_2 v0 _ h) cb_10_343 im_G_steps1 se_G_steps1 ⟨_, _, rfl⟩ (by decide) (dc hd_G_costs 3 rfl) g_1 rfl rfl ⟨Nat.le_of_ble_eq_true rfl, Nat.le_of_ble_eq_true rfl⟩ ⟨(Nat.le_of_ble_eq_true rfl), (Nat.le_of_ble_eq_true rfl)⟩ (Nat.le_of_ble_eq_true rfl) (fun _ h => by cases h) (fun _ => rfl) (fun u_8 C_6 d_9 q_7 => ?_)
  obtain ⟨q_7a, h⟩ := q_7
  subst d_9
  show AW p l e _ s m args below meth c E M_G_costs true _ n _ _ _ [(2, v0), (9, 0), (9, 0), (9, 0)] [] C_6
  refine AW.iconst (dc hd_G_costs 4 rfl) (by decide) ?_
  refine AW.istore_n [(2, v0), (0, 0), (9, 0), (9, 0)] (dc hd_G_costs 5 rfl) (Nat.le_of_ble_eq_true rfl) rfl rfl ?_
  obtain ⟨f_42, h⟩ := h
  exact aB_G_costs_10 n v0 Q f_42 (C_6, 0) h
def P_G_cost (n : Nat) (C : Cn) (v0 v1 v2 : Int) (Q : Int → Cn → Prop) : Prop :=
  okO n v0 10 ∧ (P_G_costs n C v0 (fun (_ : Int) (C_2 : Cn) => P_G_isField n C_2 v0 v1 (fun (r_6 : Int) => (r_6 = 0 → (P_G_finds n C_2 v0 0 (fun (r_11 : Int) (C_12 : Cn) => Q r_11 C_12))) ∧ (¬ r_6 = 0 → (P_G_isField n C_2 v0 v2 (fun (r_15 : Int) => (r_15 = 0 → (P_G_finds n C_2 v0 0 (fun (r_20 : Int) (C_21 : Cn) => Q r_20 C_21))) ∧ (¬ r_15 = 0 → (okO n (PT v0.toNat 32) 17 ∧ (okI (PT v0.toNat 32) v1 ∧ (okO n (PT (PT v0.toNat 32).toNat v1.toNat) 12 ∧ (okI (PT (PT v0.toNat 32).toNat v1.toNat) v2 ∧ (Q (C_2 (PT (PT v0.toNat 32).toNat v1.toNat).toNat v2.toNat) C_2))))))))))))
theorem m_G_cost (l : Launch) (E : Ev) (n : Nat) (C : Cn) (v0 v1 v2 : Int) (Q : Int → Cn → Prop) (h : P_G_cost n C v0 v1 v2 Q) : MA l y_G_cost M_G_cost E true C n [(2, v0), (0, v1), (0, v2)] (fun r C2 n2 => n2 = n ∧ Q r C2) := by
  refine MA.of (by decide) rfl rfl 0 rfl (fun p e s m args below meth c => ?_)
  show AW p l e _ s m args below meth c E M_G_cost true _ n 0 0 0 [(2, v0), (0, v1), (0, v2)] [] C
  unfold P_G_cost at h
  refine AW.ra_n (dc hd_G_cost 0 rfl) rfl rfl rfl ?_
  obtain ⟨g_1, h⟩ := h
  refine AW.callV (As := []) (rest := []) (ci := 10) (m_G_costs l E n C v0 _ h) cb_10_349 im_G_costs se_G_costs ⟨_, _, rfl⟩ (by decide) (dc hd_G_cost 1 rfl) g_1 rfl rfl ⟨Nat.le_of_ble_eq_true rfl, Nat.le_of_ble_eq_true rfl⟩ ⟨(Nat.le_of_ble_eq_true rfl), (Nat.le_of_ble_eq_true rfl)⟩ (Nat.le_of_ble_eq_true rfl) (fun _ h => by cases h) (fun _ => rfl) (fun u_4 C_2 d_5 q_3 => ?_)
  obtain ⟨q_3a, h⟩ := q_3
  subst d_5
  show AW p l e _ s m args below meth c E M_G_cost true _ n _ _ _ [(2, v0), (0, v1), (0, v2)] [] C_2
  refine AW.ra_n (dc hd_G_cost 2 rfl) rfl rfl rfl ?_
  refine AW.iload_n (dc hd_G_cost 3 rfl) rfl ?_
  refine AW.callV (As := [(0, v1)]) (rest := []) (ci := 10) (m_G_isField l E n C_2 v0 v1 _ h) cb_10_264 im_G_isField se_G_isField ⟨_, _, rfl⟩ (by decide) (dc hd_G_cost 4 rfl) g_1 rfl rfl ⟨Nat.le_of_ble_eq_true rfl, Nat.le_of_ble_eq_true rfl⟩ ⟨(Nat.le_of_ble_eq_true rfl), (Nat.le_of_ble_eq_true rfl)⟩ (Nat.le_of_ble_eq_true rfl) (fun _ h => by cases h) (fun _ => rfl) (fun r_6 D_8 d_9 q_7 => ?_)
  obtain ⟨q_7a, q_7b, h⟩ := q_7
  subst D_8
  subst d_9
  show AW p l e _ s m args below meth c E M_G_cost true _ n _ _ _ [(2, v0), (0, v1), (0, v2)] [(0, r_6)] C_2
  refine AW.if_eq (t := 31) (dc hd_G_cost 5 rfl) (by decide) (fun c_10 => ?_) (fun c_10 => ?_)
  · have h := h.1 c_10
    refine AW.ra_n (dc hd_G_cost 17 rfl) rfl rfl rfl ?_
    refine AW.iconst (dc hd_G_cost 18 rfl) (by decide) ?_
    refine AW.callV (As := [(0, 0)]) (rest := []) (ci := 10) (m_G_finds l E n C_2 v0 0 _ h) cb_10_186 im_G_finds se_G_finds ⟨_, _, rfl⟩ (by decide) (dc hd_G_cost 19 rfl) g_1 rfl rfl ⟨Nat.le_of_ble_eq_true rfl, Nat.le_of_ble_eq_true rfl⟩ ⟨(Nat.le_of_ble_eq_true rfl), (Nat.le_of_ble_eq_true rfl)⟩ (Nat.le_of_ble_eq_true rfl) (fun _ h => by cases h) (fun _ => rfl) (fun r_11 C_12 d_14 q_13 => ?_)
    obtain ⟨q_13a, h⟩ := q_13
    subst d_14
    show AW p l e _ s m args below meth c E M_G_cost true _ n _ _ _ [(2, v0), (0, v1), (0, v2)] [(0, r_11)] C_12
    exact AW.iret (dc hd_G_cost 20 rfl) rfl rfl (Nat.le_of_ble_eq_true rfl) (Nat.le_of_ble_eq_true rfl) ⟨rfl, h⟩
  · have h := h.2 c_10
    refine AW.ra_n (dc hd_G_cost 6 rfl) rfl rfl rfl ?_
    refine AW.iload_n (dc hd_G_cost 7 rfl) rfl ?_
    refine AW.callV (As := [(0, v2)]) (rest := []) (ci := 10) (m_G_isField l E n C_2 v0 v2 _ h) cb_10_264 im_G_isField se_G_isField ⟨_, _, rfl⟩ (by decide) (dc hd_G_cost 8 rfl) g_1 rfl rfl ⟨Nat.le_of_ble_eq_true rfl, Nat.le_of_ble_eq_true rfl⟩ ⟨(Nat.le_of_ble_eq_true rfl), (Nat.le_of_ble_eq_true rfl)⟩ (Nat.le_of_ble_eq_true rfl) (fun _ h => by cases h) (fun _ => rfl) (fun r_15 D_17 d_18 q_16 => ?_)
    obtain ⟨q_16a, q_16b, h⟩ := q_16
    subst D_17
    subst d_18
    show AW p l e _ s m args below meth c E M_G_cost true _ n _ _ _ [(2, v0), (0, v1), (0, v2)] [(0, r_15)] C_2
    refine AW.if_eq (t := 31) (dc hd_G_cost 9 rfl) (by decide) (fun c_19 => ?_) (fun c_19 => ?_)
    · have h := h.1 c_19
      refine AW.ra_n (dc hd_G_cost 17 rfl) rfl rfl rfl ?_
      refine AW.iconst (dc hd_G_cost 18 rfl) (by decide) ?_
      refine AW.callV (As := [(0, 0)]) (rest := []) (ci := 10) (m_G_finds l E n C_2 v0 0 _ h) cb_10_186 im_G_finds se_G_finds ⟨_, _, rfl⟩ (by decide) (dc hd_G_cost 19 rfl) g_1 rfl rfl ⟨Nat.le_of_ble_eq_true rfl, Nat.le_of_ble_eq_true rfl⟩ ⟨(Nat.le_of_ble_eq_true rfl), (Nat.le_of_ble_eq_true rfl)⟩ (Nat.le_of_ble_eq_true rfl) (fun _ h => by cases h) (fun _ => rfl) (fun r_20 C_21 d_23 q_22 => ?_)
      obtain ⟨q_22a, h⟩ := q_22
      subst d_23
      show AW p l e _ s m args below meth c E M_G_cost true _ n _ _ _ [(2, v0), (0, v1), (0, v2)] [(0, r_20)] C_21
      exact AW.iret (dc hd_G_cost 20 rfl) rfl rfl (Nat.le_of_ble_eq_true rfl) (Nat.le_of_ble_eq_true rfl) ⟨rfl, h⟩
    · have h := h.2 c_19
      refine AW.ra_n (dc hd_G_cost 10 rfl) rfl rfl rfl ?_
      refine AW.getp fl_10_70 (dc hd_G_cost 11 rfl) g_1 rfl ?_
      refine AW.iload_n (dc hd_G_cost 12 rfl) rfl ?_
      obtain ⟨g_24, h⟩ := h
      obtain ⟨g_25, h⟩ := h
      refine AW.aaldp (by decide) (dc hd_G_cost 13 rfl) g_24 g_25 rfl ?_
      refine AW.iload_n (dc hd_G_cost 14 rfl) rfl ?_
      obtain ⟨g_26, h⟩ := h
      obtain ⟨g_27, h⟩ := h
      refine AW.iald (dc hd_G_cost 15 rfl) g_26 g_27 ?_
      refine AW.goto (t := 36) (dc hd_G_cost 16 rfl) (by decide) ?_
      exact AW.iret (dc hd_G_cost 20 rfl) rfl rfl (Nat.le_of_ble_eq_true rfl) (Nat.le_of_ble_eq_true rfl) ⟨rfl, h⟩
def J_G_next_96 (n : Nat) (C : Cn) (v0 : Int) (Q : Int → Cn → Prop) : Prop :=
  okO n v0 10 ∧ (P_G_finds n C v0 3 (fun (r_22 : Int) (C_24 : Cn) => Q r_22 C_24))
theorem aJ_G_next_96 (n : Nat) (C : Cn) (v0 : Int) (Q : Int → Cn → Prop) (h : J_G_next_96 n C v0 Q) : AW p l e R s m args below meth c E M_G_next true (fun r C2 n2 => n2 = n ∧ Q r C2) n 0 0 96 [(2, v0), (9, 0), (9, 0), (9, 0)] [] C := by
  unfold J_G_next_96 at h
  refine AW.ra_n (dc hd_G_next 58 rfl) rfl rfl rfl ?_
  refine AW.iconst (dc hd_G_next 59 rfl) (by decide) ?_
  obtain ⟨g_23, h⟩ := h
  refine AW.callV (As := [(0, 3)]) (rest := []) (ci := 10) (m_G_finds l E n C v0 3 _ h) cb_10_186 im_G_finds se_G_finds ⟨_, _, rfl⟩ (by decide) (dc hd_G_next 60 rfl) g_23 rfl rfl ⟨Nat.le_of_ble_eq_true rfl, Nat.le_of_ble_eq_true rfl⟩ ⟨(Nat.le_of_ble_eq_true rfl), (Nat.le_of_ble_eq_true rfl)⟩ (Nat.le_of_ble_eq_true rfl) (fun _ h => by cases h) (fun _ => rfl) (fun r_22 C_24 d_26 q_25 => ?_)
  obtain ⟨q_25a, h⟩ := q_25
  subst d_26
  show AW p l e _ s m args below meth c E M_G_next true _ n _ _ _ [(2, v0), (9, 0), (9, 0), (9, 0)] [(0, r_22)] C_24
  exact AW.iret (dc hd_G_next 61 rfl) rfl rfl (Nat.le_of_ble_eq_true rfl) (Nat.le_of_ble_eq_true rfl) ⟨rfl, h⟩
def B_G_next_28 (n : Nat) (C : Cn) (v0 v1 v2 : Int) (Q : Int → Cn → Prop) (kz28 : Int → Prop) (v3 : Int) : Prop :=
  okO n v0 10 ∧ ((C v0.toNat 18 ≤ v3 → (J_G_next_96 n C v0 Q)) ∧ (¬ C v0.toNat 18 ≤ v3 → ((v1 = v2 → (J_G_next_96 n C v0 Q)) ∧ (¬ v1 = v2 → ((v3 = v1 → (kz28 (w32 (v3 + 1)))) ∧ (¬ v3 = v1 → (okO n (PT v0.toNat 33) 17 ∧ (okI (PT v0.toNat 33) v1 ∧ (okO n (PT (PT v0.toNat 33).toNat v1.toNat) 12 ∧ (okI (PT (PT v0.toNat 33).toNat v1.toNat) v3 ∧ ((1000000 ≤ C (PT (PT v0.toNat 33).toNat v1.toNat).toNat v3.toNat → (kz28 (w32 (v3 + 1)))) ∧ (¬ 1000000 ≤ C (PT (PT v0.toNat 33).toNat v1.toNat).toNat v3.toNat → (okO n (PT v0.toNat 32) 17 ∧ (okI (PT v0.toNat 32) v3 ∧ (okO n (PT (PT v0.toNat 32).toNat v3.toNat) 12 ∧ (okI (PT (PT v0.toNat 32).toNat v3.toNat) v2 ∧ (okI (PT v0.toNat 32) v1 ∧ (okO n (PT (PT v0.toNat 32).toNat v1.toNat) 12 ∧ (okI (PT (PT v0.toNat 32).toNat v1.toNat) v2 ∧ ((w32 (C (PT (PT v0.toNat 33).toNat v1.toNat).toNat v3.toNat + C (PT (PT v0.toNat 32).toNat v3.toNat).toNat v2.toNat) = C (PT (PT v0.toNat 32).toNat v1.toNat).toNat v2.toNat → (Q v3 C)) ∧ (¬ w32 (C (PT (PT v0.toNat 33).toNat v1.toNat).toNat v3.toNat + C (PT (PT v0.toNat 32).toNat v3.toNat).toNat v2.toNat) = C (PT (PT v0.toNat 32).toNat v1.toNat).toNat v2.toNat → (kz28 (w32 (v3 + 1))))))))))))))))))))))))
theorem bB_G_next_28 (n : Nat) (C : Cn) (v0 v1 v2 : Int) (Q : Int → Cn → Prop) (kz28 : Int → Prop) (hkz28 : ∀ (z3 : Int), kz28 z3 → AW p l e R s m args below meth c E M_G_next true (fun r C2 n2 => n2 = n ∧ Q r C2) n 0 0 28 [(2, v0), (0, v1), (0, v2), (0, z3)] [] C) (v3 : Int) (h : B_G_next_28 n C v0 v1 v2 Q kz28 v3) : AW p l e R s m args below meth c E M_G_next true (fun r C2 n2 => n2 = n ∧ Q r C2) n 0 0 28 [(2, v0), (0, v1), (0, v2), (0, v3)] [] C := by
  unfold B_G_next_28 at h
  refine AW.iload_n (dc hd_G_next 16 rfl) rfl ?_
  refine AW.ra_n (dc hd_G_next 17 rfl) rfl rfl rfl ?_
  obtain ⟨g_20, h⟩ := h
  refine AW.getf fl_10_214 (dc hd_G_next 18 rfl) g_20 ?_
  refine AW.icmp_ge (t := 96) (dc hd_G_next 19 rfl) (by decide) (fun c_21 => ?_) (fun c_21 => ?_)
  · have h := h.1 c_21
    refine AW.fgt [(2, v0), (9, 0), (9, 0), (9, 0)] ⟨.inl rfl, .inr rfl, .inr rfl, .inr rfl, trivial⟩ ?_
    exact aJ_G_next_96 n C v0 Q h
  · have h := h.2 c_21
    refine AW.iload_n (dc hd_G_next 20 rfl) rfl ?_
    refine AW.iload_n (dc hd_G_next 21 rfl) rfl ?_
    refine AW.icmp_eq (t := 96) (dc hd_G_next 22 rfl) (by decide) (fun c_27 => ?_) (fun c_27 => ?_)
    · have h := h.1 c_27
      refine AW.fgt [(2, v0), (9, 0), (9, 0), (9, 0)] ⟨.inl rfl, .inr rfl, .inr rfl, .inr rfl, trivial⟩ ?_
      exact aJ_G_next_96 n C v0 Q h
    · have h := h.2 c_27
      refine AW.iload_n (dc hd_G_next 23 rfl) rfl ?_
      refine AW.iload_n (dc hd_G_next 24 rfl) rfl ?_
      refine AW.icmp_eq (t := 90) (dc hd_G_next 25 rfl) (by decide) (fun c_28 => ?_) (fun c_28 => ?_)
      · have h := h.1 c_28
        refine AW.iinc [(2, v0), (0, v1), (0, v2), (0, w32 (v3 + 1))] (dc hd_G_next 56 rfl) rfl (Nat.le_of_ble_eq_true rfl) rfl rfl ?_
        refine AW.goto (t := 28) (dc hd_G_next 57 rfl) (by decide) ?_
        exact hkz28 (w32 (v3 + 1)) h
      · have h := h.2 c_28
        refine AW.ra_n (dc hd_G_next 26 rfl) rfl rfl rfl ?_
        refine AW.getp fl_10_73 (dc hd_G_next 27 rfl) g_20 rfl ?_
        refine AW.iload_n (dc hd_G_next 28 rfl) rfl ?_
        obtain ⟨g_29, h⟩ := h
        obtain ⟨g_30, h⟩ := h
        refine AW.aaldp (by decide) (dc hd_G_next 29 rfl) g_29 g_30 rfl ?_
        refine AW.iload_n (dc hd_G_next 30 rfl) rfl ?_
        obtain ⟨g_31, h⟩ := h
        obtain ⟨g_32, h⟩ := h
        refine AW.iald (dc hd_G_next 31 rfl) g_31 g_32 ?_
        refine AW.ldc_w (v := 1000000) (dc hd_G_next 32 rfl) ck_10_339 (by decide) rfl ?_
        refine AW.icmp_ge (t := 90) (dc hd_G_next 33 rfl) (by decide) (fun c_33 => ?_) (fun c_33 => ?_)
        · have h := h.1 c_33
          refine AW.iinc [(2, v0), (0, v1), (0, v2), (0, w32 (v3 + 1))] (dc hd_G_next 56 rfl) rfl (Nat.le_of_ble_eq_true rfl) rfl rfl ?_
          refine AW.goto (t := 28) (dc hd_G_next 57 rfl) (by decide) ?_
          exact hkz28 (w32 (v3 + 1)) h
        · have h := h.2 c_33
          refine AW.ra_n (dc hd_G_next 34 rfl) rfl rfl rfl ?_
          refine AW.getp fl_10_73 (dc hd_G_next 35 rfl) g_20 rfl ?_
          refine AW.iload_n (dc hd_G_next 36 rfl) rfl ?_
          refine AW.aaldp (by decide) (dc hd_G_next 37 rfl) g_29 g_30 rfl ?_
          refine AW.iload_n (dc hd_G_next 38 rfl) rfl ?_
          refine AW.iald (dc hd_G_next 39 rfl) g_31 g_32 ?_
          refine AW.ra_n (dc hd_G_next 40 rfl) rfl rfl rfl ?_
          refine AW.getp fl_10_70 (dc hd_G_next 41 rfl) g_20 rfl ?_
          refine AW.iload_n (dc hd_G_next 42 rfl) rfl ?_
          obtain ⟨g_34, h⟩ := h
          obtain ⟨g_35, h⟩ := h
          refine AW.aaldp (by decide) (dc hd_G_next 43 rfl) g_34 g_35 rfl ?_
          refine AW.iload_n (dc hd_G_next 44 rfl) rfl ?_
          obtain ⟨g_36, h⟩ := h
          obtain ⟨g_37, h⟩ := h
          refine AW.iald (dc hd_G_next 45 rfl) g_36 g_37 ?_
          refine AW.iadd (dc hd_G_next 46 rfl) ?_
          refine AW.ra_n (dc hd_G_next 47 rfl) rfl rfl rfl ?_
          refine AW.getp fl_10_70 (dc hd_G_next 48 rfl) g_20 rfl ?_
          refine AW.iload_n (dc hd_G_next 49 rfl) rfl ?_
          obtain ⟨g_38, h⟩ := h
          refine AW.aaldp (by decide) (dc hd_G_next 50 rfl) g_34 g_38 rfl ?_
          refine AW.iload_n (dc hd_G_next 51 rfl) rfl ?_
          obtain ⟨g_39, h⟩ := h
          obtain ⟨g_40, h⟩ := h
          refine AW.iald (dc hd_G_next 52 rfl) g_39 g_40 ?_
          refine AW.icmp_ne (t := 90) (dc hd_G_next 53 rfl) (by decide) (fun c_41 => ?_) (fun c_41 => ?_)
          · have h := h.2 c_41
            refine AW.iinc [(2, v0), (0, v1), (0, v2), (0, w32 (v3 + 1))] (dc hd_G_next 56 rfl) rfl (Nat.le_of_ble_eq_true rfl) rfl rfl ?_
            refine AW.goto (t := 28) (dc hd_G_next 57 rfl) (by decide) ?_
            exact hkz28 (w32 (v3 + 1)) h
          · have h := h.1 c_41
            refine AW.iload_n (dc hd_G_next 54 rfl) rfl ?_
            exact AW.iret (dc hd_G_next 55 rfl) rfl rfl (Nat.le_of_ble_eq_true rfl) (Nat.le_of_ble_eq_true rfl) ⟨rfl, h⟩
theorem aB_G_next_28 (n : Nat) (C : Cn) (v0 v1 v2 : Int) (Q : Int → Cn → Prop) : ∀ (f : Nat) (z : Int), lp (B_G_next_28 n C v0 v1 v2 Q) f z → AW p l e R s m args below meth c E M_G_next true (fun r C2 n2 => n2 = n ∧ Q r C2) n 0 0 28 [(2, v0), (0, v1), (0, v2), (0, z)] [] C := by
  intro f
  induction f with
  | zero => intro z h; exact False.elim h
  | succ f ih => intro z h; exact bB_G_next_28 n C v0 v1 v2 Q (lp (B_G_next_28 n C v0 v1 v2 Q) f) (fun a0 h => ih a0 h) z h
def P_G_next (n : Nat) (C : Cn) (v0 v1 v2 : Int) (Q : Int → Cn → Prop) : Prop :=
  okO n v0 10 ∧ (P_G_costs n C v0 (fun (_ : Int) (C_2 : Cn) => P_G_isField n C_2 v0 v1 (fun (r_6 : Int) => (r_6 = 0 → (P_G_finds n C_2 v0 0 (fun (r_11 : Int) (C_12 : Cn) => Q r_11 C_12))) ∧ (¬ r_6 = 0 → (P_G_isField n C_2 v0 v2 (fun (r_15 : Int) => (r_15 = 0 → (P_G_finds n C_2 v0 0 (fun (r_43 : Int) (C_44 : Cn) => Q r_43 C_44))) ∧ (¬ r_15 = 0 → (∃ f_42 : Nat, lp (B_G_next_28 n C_2 v0 v1 v2 Q) f_42 0))))))))
theorem m_G_next (l : Launch) (E : Ev) (n : Nat) (C : Cn) (v0 v1 v2 : Int) (Q : Int → Cn → Prop) (h : P_G_next n C v0 v1 v2 Q) : MA l y_G_next M_G_next E true C n [(2, v0), (0, v1), (0, v2)] (fun r C2 n2 => n2 = n ∧ Q r C2) := by
  refine MA.of (by decide) rfl rfl 1 rfl (fun p e s m args below meth c => ?_)
  show AW p l e _ s m args below meth c E M_G_next true _ n 0 0 0 [(2, v0), (0, v1), (0, v2), (9, 0)] [] C
  unfold P_G_next at h
  refine AW.ra_n (dc hd_G_next 0 rfl) rfl rfl rfl ?_
  obtain ⟨g_1, h⟩ := h
  refine AW.callV (As := []) (rest := []) (ci := 10) (m_G_costs l E n C v0 _ h) cb_10_349 im_G_costs se_G_costs ⟨_, _, rfl⟩ (by decide) (dc hd_G_next 1 rfl) g_1 rfl rfl ⟨Nat.le_of_ble_eq_true rfl, Nat.le_of_ble_eq_true rfl⟩ ⟨(Nat.le_of_ble_eq_true rfl), (Nat.le_of_ble_eq_true rfl)⟩ (Nat.le_of_ble_eq_true rfl) (fun _ h => by cases h) (fun _ => rfl) (fun u_4 C_2 d_5 q_3 => ?_)
  obtain ⟨q_3a, h⟩ := q_3
  subst d_5
  show AW p l e _ s m args below meth c E M_G_next true _ n _ _ _ [(2, v0), (0, v1), (0, v2), (9, 0)] [] C_2
  refine AW.ra_n (dc hd_G_next 2 rfl) rfl rfl rfl ?_
  refine AW.iload_n (dc hd_G_next 3 rfl) rfl ?_
  refine AW.callV (As := [(0, v1)]) (rest := []) (ci := 10) (m_G_isField l E n C_2 v0 v1 _ h) cb_10_264 im_G_isField se_G_isField ⟨_, _, rfl⟩ (by decide) (dc hd_G_next 4 rfl) g_1 rfl rfl ⟨Nat.le_of_ble_eq_true rfl, Nat.le_of_ble_eq_true rfl⟩ ⟨(Nat.le_of_ble_eq_true rfl), (Nat.le_of_ble_eq_true rfl)⟩ (Nat.le_of_ble_eq_true rfl) (fun _ h => by cases h) (fun _ => rfl) (fun r_6 D_8 d_9 q_7 => ?_)
  obtain ⟨q_7a, q_7b, h⟩ := q_7
  subst D_8
  subst d_9
  show AW p l e _ s m args below meth c E M_G_next true _ n _ _ _ [(2, v0), (0, v1), (0, v2), (9, 0)] [(0, r_6)] C_2
  refine AW.if_eq (t := 20) (dc hd_G_next 5 rfl) (by decide) (fun c_10 => ?_) (fun c_10 => ?_)
  · have h := h.1 c_10
    refine AW.ra_n (dc hd_G_next 10 rfl) rfl rfl rfl ?_
    refine AW.iconst (dc hd_G_next 11 rfl) (by decide) ?_
    refine AW.callV (As := [(0, 0)]) (rest := []) (ci := 10) (m_G_finds l E n C_2 v0 0 _ h) cb_10_186 im_G_finds se_G_finds ⟨_, _, rfl⟩ (by decide) (dc hd_G_next 12 rfl) g_1 rfl rfl ⟨Nat.le_of_ble_eq_true rfl, Nat.le_of_ble_eq_true rfl⟩ ⟨(Nat.le_of_ble_eq_true rfl), (Nat.le_of_ble_eq_true rfl)⟩ (Nat.le_of_ble_eq_true rfl) (fun _ h => by cases h) (fun _ => rfl) (fun r_11 C_12 d_14 q_13 => ?_)
    obtain ⟨q_13a, h⟩ := q_13
    subst d_14
    show AW p l e _ s m args below meth c E M_G_next true _ n _ _ _ [(2, v0), (0, v1), (0, v2), (9, 0)] [(0, r_11)] C_12
    exact AW.iret (dc hd_G_next 13 rfl) rfl rfl (Nat.le_of_ble_eq_true rfl) (Nat.le_of_ble_eq_true rfl) ⟨rfl, h⟩
  · have h := h.2 c_10
    refine AW.ra_n (dc hd_G_next 6 rfl) rfl rfl rfl ?_
    refine AW.iload_n (dc hd_G_next 7 rfl) rfl ?_
    refine AW.callV (As := [(0, v2)]) (rest := []) (ci := 10) (m_G_isField l E n C_2 v0 v2 _ h) cb_10_264 im_G_isField se_G_isField ⟨_, _, rfl⟩ (by decide) (dc hd_G_next 8 rfl) g_1 rfl rfl ⟨Nat.le_of_ble_eq_true rfl, Nat.le_of_ble_eq_true rfl⟩ ⟨(Nat.le_of_ble_eq_true rfl), (Nat.le_of_ble_eq_true rfl)⟩ (Nat.le_of_ble_eq_true rfl) (fun _ h => by cases h) (fun _ => rfl) (fun r_15 D_17 d_18 q_16 => ?_)
    obtain ⟨q_16a, q_16b, h⟩ := q_16
    subst D_17
    subst d_18
    show AW p l e _ s m args below meth c E M_G_next true _ n _ _ _ [(2, v0), (0, v1), (0, v2), (9, 0)] [(0, r_15)] C_2
    refine AW.if_ne (t := 26) (dc hd_G_next 9 rfl) (by decide) (fun c_19 => ?_) (fun c_19 => ?_)
    · have h := h.2 c_19
      refine AW.iconst (dc hd_G_next 14 rfl) (by decide) ?_
      refine AW.istore_n [(2, v0), (0, v1), (0, v2), (0, 0)] (dc hd_G_next 15 rfl) (Nat.le_of_ble_eq_true rfl) rfl rfl ?_
      obtain ⟨f_42, h⟩ := h
      exact aB_G_next_28 n C_2 v0 v1 v2 Q f_42 0 h
    · have h := h.1 c_19
      refine AW.ra_n (dc hd_G_next 10 rfl) rfl rfl rfl ?_
      refine AW.iconst (dc hd_G_next 11 rfl) (by decide) ?_
      refine AW.callV (As := [(0, 0)]) (rest := []) (ci := 10) (m_G_finds l E n C_2 v0 0 _ h) cb_10_186 im_G_finds se_G_finds ⟨_, _, rfl⟩ (by decide) (dc hd_G_next 12 rfl) g_1 rfl rfl ⟨Nat.le_of_ble_eq_true rfl, Nat.le_of_ble_eq_true rfl⟩ ⟨(Nat.le_of_ble_eq_true rfl), (Nat.le_of_ble_eq_true rfl)⟩ (Nat.le_of_ble_eq_true rfl) (fun _ h => by cases h) (fun _ => rfl) (fun r_43 C_44 d_46 q_45 => ?_)
      obtain ⟨q_45a, h⟩ := q_45
      subst d_46
      show AW p l e _ s m args below meth c E M_G_next true _ n _ _ _ [(2, v0), (0, v1), (0, v2), (9, 0)] [(0, r_43)] C_44
      exact AW.iret (dc hd_G_next 13 rfl) rfl rfl (Nat.le_of_ble_eq_true rfl) (Nat.le_of_ble_eq_true rfl) ⟨rfl, h⟩
def J_G_within_63 (n : Nat) (C : Cn) (v0 v1 v2 v4 s0 s1 : Int) (kz35 : Int × Int → Prop) (Q : Int → Cn → Prop) : Prop :=
  kz35 (w32 (s0 + s1), w32 (v4 + 1))
theorem aJ_G_within_63 (n : Nat) (C : Cn) (v0 v1 v2 v4 s0 s1 : Int) (kz35 : Int × Int → Prop) (Q : Int → Cn → Prop) (hkz35 : ∀ (z3 : Int) (z4 : Int), kz35 (z3, z4) → AW p l e R s m args below meth c E M_G_within true (fun r C2 n2 => n2 = n ∧ Q r C2) n 0 0 35 [(2, v0), (0, v1), (0, v2), (0, z3), (0, z4)] [] C) (h : J_G_within_63 n C v0 v1 v2 v4 s0 s1 kz35 Q) : AW p l e R s m args below meth c E M_G_within true (fun r C2 n2 => n2 = n ∧ Q r C2) n 0 0 63 [(2, v0), (0, v1), (0, v2), (9, 0), (0, v4)] [(0, s1), (0, s0)] C := by
  unfold J_G_within_63 at h
  refine AW.iadd (dc hd_G_within 36 rfl) ?_
  refine AW.istore_n [(2, v0), (0, v1), (0, v2), (0, w32 (s0 + s1)), (0, v4)] (dc hd_G_within 37 rfl) (Nat.le_of_ble_eq_true rfl) rfl rfl ?_
  refine AW.iinc [(2, v0), (0, v1), (0, v2), (0, w32 (s0 + s1)), (0, w32 (v4 + 1))] (dc hd_G_within 38 rfl) rfl (Nat.le_of_ble_eq_true rfl) rfl rfl ?_
  refine AW.goto (t := 35) (dc hd_G_within 39 rfl) (by decide) ?_
  exact hkz35 (w32 (s0 + s1)) (w32 (v4 + 1)) h
def B_G_within_35 (n : Nat) (C : Cn) (v0 v1 v2 : Int) (Q : Int → Cn → Prop) (kz35 : Int × Int → Prop) (z : Int × Int) : Prop := match z with
  | (v3, v4) => okO n v0 10 ∧ ((C v0.toNat 18 ≤ v4 → (Q v3 C)) ∧ (¬ C v0.toNat 18 ≤ v4 → (okO n (PT v0.toNat 32) 17 ∧ (okI (PT v0.toNat 32) v1 ∧ (okO n (PT (PT v0.toNat 32).toNat v1.toNat) 12 ∧ (okI (PT (PT v0.toNat 32).toNat v1.toNat) v4 ∧ (J_G_within_63 n C v0 v1 v2 v4 v3 (if v2 < C (PT (PT v0.toNat 32).toNat v1.toNat).toNat v4.toNat then 0 else 1) kz35 Q)))))))
theorem bB_G_within_35 (n : Nat) (C : Cn) (v0 v1 v2 : Int) (Q : Int → Cn → Prop) (kz35 : Int × Int → Prop) (hkz35 : ∀ (z3 : Int) (z4 : Int), kz35 (z3, z4) → AW p l e R s m args below meth c E M_G_within true (fun r C2 n2 => n2 = n ∧ Q r C2) n 0 0 35 [(2, v0), (0, v1), (0, v2), (0, z3), (0, z4)] [] C) (v3 : Int) (v4 : Int) (h : B_G_within_35 n C v0 v1 v2 Q kz35 (v3, v4)) : AW p l e R s m args below meth c E M_G_within true (fun r C2 n2 => n2 = n ∧ Q r C2) n 0 0 35 [(2, v0), (0, v1), (0, v2), (0, v3), (0, v4)] [] C := by
  unfold B_G_within_35 at h
  dsimp only at h
  refine AW.iload (dc hd_G_within 20 rfl) rfl ?_
  refine AW.ra_n (dc hd_G_within 21 rfl) rfl rfl rfl ?_
  obtain ⟨g_20, h⟩ := h
  refine AW.getf fl_10_214 (dc hd_G_within 22 rfl) g_20 ?_
  refine AW.icmp_ge (t := 71) (dc hd_G_within 23 rfl) (by decide) (fun c_21 => ?_) (fun c_21 => ?_)
  · have h := h.1 c_21
    refine AW.iload_n (dc hd_G_within 40 rfl) rfl ?_
    exact AW.iret (dc hd_G_within 41 rfl) rfl rfl (Nat.le_of_ble_eq_true rfl) (Nat.le_of_ble_eq_true rfl) ⟨rfl, h⟩
  · have h := h.2 c_21
    refine AW.iload_n (dc hd_G_within 24 rfl) rfl ?_
    refine AW.ra_n (dc hd_G_within 25 rfl) rfl rfl rfl ?_
    refine AW.getp fl_10_70 (dc hd_G_within 26 rfl) g_20 rfl ?_
    refine AW.iload_n (dc hd_G_within 27 rfl) rfl ?_
    obtain ⟨g_22, h⟩ := h
    obtain ⟨g_23, h⟩ := h
    refine AW.aaldp (by decide) (dc hd_G_within 28 rfl) g_22 g_23 rfl ?_
    refine AW.iload (dc hd_G_within 29 rfl) rfl ?_
    obtain ⟨g_24, h⟩ := h
    obtain ⟨g_25, h⟩ := h
    refine AW.iald (dc hd_G_within 30 rfl) g_24 g_25 ?_
    refine AW.iload_n (dc hd_G_within 31 rfl) rfl ?_
    refine AW.icmp_gt (t := 62) (dc hd_G_within 32 rfl) (by decide) (fun c_26 => ?_) (fun c_26 => ?_)
    · simp only [if_pos (show v2 < C (PT (PT v0.toNat 32).toNat v1.toNat).toNat v4.toNat from c_26)] at h
      refine AW.iconst (dc hd_G_within 35 rfl) (by decide) ?_
      refine AW.fgt [(2, v0), (0, v1), (0, v2), (9, 0), (0, v4)] ⟨.inl rfl, .inl rfl, .inl rfl, .inr rfl, .inl rfl, trivial⟩ ?_
      exact aJ_G_within_63 n C _ _ _ _ _ _ kz35 Q hkz35 h
    · simp only [if_neg (show ¬ (v2 < C (PT (PT v0.toNat 32).toNat v1.toNat).toNat v4.toNat) from c_26)] at h
      refine AW.iconst (dc hd_G_within 33 rfl) (by decide) ?_
      refine AW.goto (t := 63) (dc hd_G_within 34 rfl) (by decide) ?_
      refine AW.fgt [(2, v0), (0, v1), (0, v2), (9, 0), (0, v4)] ⟨.inl rfl, .inl rfl, .inl rfl, .inr rfl, .inl rfl, trivial⟩ ?_
      exact aJ_G_within_63 n C _ _ _ _ _ _ kz35 Q hkz35 h
theorem aB_G_within_35 (n : Nat) (C : Cn) (v0 v1 v2 : Int) (Q : Int → Cn → Prop) : ∀ (f : Nat) (z : Int × Int), lp (B_G_within_35 n C v0 v1 v2 Q) f z → AW p l e R s m args below meth c E M_G_within true (fun r C2 n2 => n2 = n ∧ Q r C2) n 0 0 35 [(2, v0), (0, v1), (0, v2), (0, z.1), (0, z.2)] [] C := by
  intro f
  induction f with
  | zero => intro z h; exact False.elim h
  | succ f ih => intro z h; exact bB_G_within_35 n C v0 v1 v2 Q (lp (B_G_within_35 n C v0 v1 v2 Q) f) (fun a0 a1 h => ih (a0, a1) h) z.1 z.2 h
def P_G_within (n : Nat) (C : Cn) (v0 v1 v2 : Int) (Q : Int → Cn → Prop) : Prop :=
  okO n v0 10 ∧ (P_G_costs n C v0 (fun (_ : Int) (C_2 : Cn) => P_G_isField n C_2 v0 v1 (fun (r_6 : Int) => (r_6 = 0 → (P_G_finds n C_2 v0 0 (fun (r_11 : Int) (C_12 : Cn) => Q r_11 C_12))) ∧ (¬ r_6 = 0 → (P_G_in n C_2 v2 0 999 (fun (r_15 : Int) => (r_15 = 0 → (P_G_finds n C_2 v0 0 (fun (r_28 : Int) (C_29 : Cn) => Q r_28 C_29))) ∧ (¬ r_15 = 0 → (∃ f_27 : Nat, lp (B_G_within_35 n C_2 v0 v1 v2 Q) f_27 (0, 0)))))))))
theorem m_G_within (l : Launch) (E : Ev) (n : Nat) (C : Cn) (v0 v1 v2 : Int) (Q : Int → Cn → Prop) (h : P_G_within n C v0 v1 v2 Q) : MA l y_G_within M_G_within E true C n [(2, v0), (0, v1), (0, v2)] (fun r C2 n2 => n2 = n ∧ Q r C2) := by
  refine MA.of (by decide) rfl rfl 2 rfl (fun p e s m args below meth c => ?_)
  show AW p l e _ s m args below meth c E M_G_within true _ n 0 0 0 [(2, v0), (0, v1), (0, v2), (9, 0), (9, 0)] [] C
  unfold P_G_within at h
  refine AW.ra_n (dc hd_G_within 0 rfl) rfl rfl rfl ?_
  obtain ⟨g_1, h⟩ := h
  refine AW.callV (As := []) (rest := []) (ci := 10) (m_G_costs l E n C v0 _ h) cb_10_349 im_G_costs se_G_costs ⟨_, _, rfl⟩ (by decide) (dc hd_G_within 1 rfl) g_1 rfl rfl ⟨Nat.le_of_ble_eq_true rfl, Nat.le_of_ble_eq_true rfl⟩ ⟨(Nat.le_of_ble_eq_true rfl), (Nat.le_of_ble_eq_true rfl)⟩ (Nat.le_of_ble_eq_true rfl) (fun _ h => by cases h) (fun _ => rfl) (fun u_4 C_2 d_5 q_3 => ?_)
  obtain ⟨q_3a, h⟩ := q_3
  subst d_5
  show AW p l e _ s m args below meth c E M_G_within true _ n _ _ _ [(2, v0), (0, v1), (0, v2), (9, 0), (9, 0)] [] C_2
  refine AW.ra_n (dc hd_G_within 2 rfl) rfl rfl rfl ?_
  refine AW.iload_n (dc hd_G_within 3 rfl) rfl ?_
  refine AW.callV (As := [(0, v1)]) (rest := []) (ci := 10) (m_G_isField l E n C_2 v0 v1 _ h) cb_10_264 im_G_isField se_G_isField ⟨_, _, rfl⟩ (by decide) (dc hd_G_within 4 rfl) g_1 rfl rfl ⟨Nat.le_of_ble_eq_true rfl, Nat.le_of_ble_eq_true rfl⟩ ⟨(Nat.le_of_ble_eq_true rfl), (Nat.le_of_ble_eq_true rfl)⟩ (Nat.le_of_ble_eq_true rfl) (fun _ h => by cases h) (fun _ => rfl) (fun r_6 D_8 d_9 q_7 => ?_)
  obtain ⟨q_7a, q_7b, h⟩ := q_7
  subst D_8
  subst d_9
  show AW p l e _ s m args below meth c E M_G_within true _ n _ _ _ [(2, v0), (0, v1), (0, v2), (9, 0), (9, 0)] [(0, r_6)] C_2
  refine AW.if_eq (t := 24) (dc hd_G_within 5 rfl) (by decide) (fun c_10 => ?_) (fun c_10 => ?_)
  · have h := h.1 c_10
    refine AW.ra_n (dc hd_G_within 12 rfl) rfl rfl rfl ?_
    refine AW.iconst (dc hd_G_within 13 rfl) (by decide) ?_
    refine AW.callV (As := [(0, 0)]) (rest := []) (ci := 10) (m_G_finds l E n C_2 v0 0 _ h) cb_10_186 im_G_finds se_G_finds ⟨_, _, rfl⟩ (by decide) (dc hd_G_within 14 rfl) g_1 rfl rfl ⟨Nat.le_of_ble_eq_true rfl, Nat.le_of_ble_eq_true rfl⟩ ⟨(Nat.le_of_ble_eq_true rfl), (Nat.le_of_ble_eq_true rfl)⟩ (Nat.le_of_ble_eq_true rfl) (fun _ h => by cases h) (fun _ => rfl) (fun r_11 C_12 d_14 q_13 => ?_)
    obtain ⟨q_13a, h⟩ := q_13
    subst d_14
    show AW p l e _ s m args below meth c E M_G_within true _ n _ _ _ [(2, v0), (0, v1), (0, v2), (9, 0), (9, 0)] [(0, r_11)] C_12
    exact AW.iret (dc hd_G_within 15 rfl) rfl rfl (Nat.le_of_ble_eq_true rfl) (Nat.le_of_ble_eq_true rfl) ⟨rfl, h⟩
  · have h := h.2 c_10
    refine AW.iload_n (dc hd_G_within 6 rfl) rfl ?_
    refine AW.i2l (dc hd_G_within 7 rfl) ?_
    refine AW.lconst (v := 0) (dc hd_G_within 8 rfl) (by decide) (by decide +kernel) ?_
    refine AW.ldc2 (v := 999) (dc hd_G_within 9 rfl) ck_10_352 (by decide) rfl ?_
    refine AW.callS (As := [(1, v2), (1, 0), (1, 999)]) (rest := []) (m_G_in l E n C_2 v2 0 999 _ h) cb_10_113 sm_G_in (dc hd_G_within 10 rfl) rfl rfl ⟨Nat.le_of_ble_eq_true rfl, Nat.le_of_ble_eq_true rfl⟩ ⟨(Nat.le_of_ble_eq_true rfl), (Nat.le_of_ble_eq_true rfl)⟩ (Nat.le_of_ble_eq_true rfl) (fun _ h => by cases h) (fun _ => rfl) (fun r_15 D_17 d_18 q_16 => ?_)
    obtain ⟨q_16a, q_16b, h⟩ := q_16
    subst D_17
    subst d_18
    show AW p l e _ s m args below meth c E M_G_within true _ n _ _ _ [(2, v0), (0, v1), (0, v2), (9, 0), (9, 0)] [(0, r_15)] C_2
    refine AW.if_ne (t := 30) (dc hd_G_within 11 rfl) (by decide) (fun c_19 => ?_) (fun c_19 => ?_)
    · have h := h.2 c_19
      refine AW.iconst (dc hd_G_within 16 rfl) (by decide) ?_
      refine AW.istore_n [(2, v0), (0, v1), (0, v2), (0, 0), (9, 0)] (dc hd_G_within 17 rfl) (Nat.le_of_ble_eq_true rfl) rfl rfl ?_
      refine AW.iconst (dc hd_G_within 18 rfl) (by decide) ?_
      refine AW.istore [(2, v0), (0, v1), (0, v2), (0, 0), (0, 0)] (dc hd_G_within 19 rfl) (Nat.le_of_ble_eq_true rfl) rfl rfl ?_
      obtain ⟨f_27, h⟩ := h
      exact aB_G_within_35 n C_2 v0 v1 v2 Q f_27 (0, 0) h
    · have h := h.1 c_19
      refine AW.ra_n (dc hd_G_within 12 rfl) rfl rfl rfl ?_
      refine AW.iconst (dc hd_G_within 13 rfl) (by decide) ?_
      refine AW.callV (As := [(0, 0)]) (rest := []) (ci := 10) (m_G_finds l E n C_2 v0 0 _ h) cb_10_186 im_G_finds se_G_finds ⟨_, _, rfl⟩ (by decide) (dc hd_G_within 14 rfl) g_1 rfl rfl ⟨Nat.le_of_ble_eq_true rfl, Nat.le_of_ble_eq_true rfl⟩ ⟨(Nat.le_of_ble_eq_true rfl), (Nat.le_of_ble_eq_true rfl)⟩ (Nat.le_of_ble_eq_true rfl) (fun _ h => by cases h) (fun _ => rfl) (fun r_28 C_29 d_31 q_30 => ?_)
      obtain ⟨q_30a, h⟩ := q_30
      subst d_31
      show AW p l e _ s m args below meth c E M_G_within true _ n _ _ _ [(2, v0), (0, v1), (0, v2), (9, 0), (9, 0)] [(0, r_28)] C_29
      exact AW.iret (dc hd_G_within 15 rfl) rfl rfl (Nat.le_of_ble_eq_true rfl) (Nat.le_of_ble_eq_true rfl) ⟨rfl, h⟩
def P_G_costBetween (n : Nat) (C : Cn) (v0 v1 v2 v3 v4 : Int) (Q : Int → Cn → Prop) : Prop :=
  okO n v0 10 ∧ (P_G_costs n C v0 (fun (_ : Int) (C_2 : Cn) => P_G_isIn n C_2 v0 v1 v2 (fun (r_6 : Int) (C_7 : Cn) => okO n (PT v0.toNat 32) 17 ∧ (okI (PT v0.toNat 32) r_6 ∧ (P_G_isIn n C_7 v0 v3 v4 (fun (r_12 : Int) (C_13 : Cn) => okO n (PT (PT v0.toNat 32).toNat r_6.toNat) 12 ∧ (okI (PT (PT v0.toNat 32).toNat r_6.toNat) r_12 ∧ (Q (C_13 (PT (PT v0.toNat 32).toNat r_6.toNat).toNat r_12.toNat) C_13))))))))
theorem m_G_costBetween (l : Launch) (E : Ev) (n : Nat) (C : Cn) (v0 v1 v2 v3 v4 : Int) (Q : Int → Cn → Prop) (h : P_G_costBetween n C v0 v1 v2 v3 v4 Q) : MA l y_G_costBetween M_G_costBetween E true C n [(2, v0), (0, v1), (0, v2), (0, v3), (0, v4)] (fun r C2 n2 => n2 = n ∧ Q r C2) := by
  refine MA.of (by decide) rfl rfl 0 rfl (fun p e s m args below meth c => ?_)
  show AW p l e _ s m args below meth c E M_G_costBetween true _ n 0 0 0 [(2, v0), (0, v1), (0, v2), (0, v3), (0, v4)] [] C
  unfold P_G_costBetween at h
  refine AW.ra_n (dc hd_G_costBetween 0 rfl) rfl rfl rfl ?_
  obtain ⟨g_1, h⟩ := h
  refine AW.callV (As := []) (rest := []) (ci := 10) (m_G_costs l E n C v0 _ h) cb_10_349 im_G_costs se_G_costs ⟨_, _, rfl⟩ (by decide) (dc hd_G_costBetween 1 rfl) g_1 rfl rfl ⟨Nat.le_of_ble_eq_true rfl, Nat.le_of_ble_eq_true rfl⟩ ⟨(Nat.le_of_ble_eq_true rfl), (Nat.le_of_ble_eq_true rfl)⟩ (Nat.le_of_ble_eq_true rfl) (fun _ h => by cases h) (fun _ => rfl) (fun u_4 C_2 d_5 q_3 => ?_)
  obtain ⟨q_3a, h⟩ := q_3
  subst d_5
  show AW p l e _ s m args below meth c E M_G_costBetween true _ n _ _ _ [(2, v0), (0, v1), (0, v2), (0, v3), (0, v4)] [] C_2
  refine AW.ra_n (dc hd_G_costBetween 2 rfl) rfl rfl rfl ?_
  refine AW.getp fl_10_70 (dc hd_G_costBetween 3 rfl) g_1 rfl ?_
  refine AW.ra_n (dc hd_G_costBetween 4 rfl) rfl rfl rfl ?_
  refine AW.iload_n (dc hd_G_costBetween 5 rfl) rfl ?_
  refine AW.iload_n (dc hd_G_costBetween 6 rfl) rfl ?_
  refine AW.callV (As := [(0, v1), (0, v2)]) (rest := [(2, PT v0.toNat 32)]) (ci := 10) (m_G_isIn l E n C_2 v0 v1 v2 _ h) cb_10_281 im_G_isIn se_G_isIn ⟨_, _, rfl⟩ (by decide) (dc hd_G_costBetween 7 rfl) g_1 rfl rfl ⟨Nat.le_of_ble_eq_true rfl, Nat.le_of_ble_eq_true rfl⟩ ⟨(Nat.le_of_ble_eq_true rfl), (Nat.le_of_ble_eq_true rfl)⟩ (Nat.le_of_ble_eq_true rfl) (fun _ h => by cases h) (fun _ => rfl) (fun r_6 C_7 d_9 q_8 => ?_)
  obtain ⟨q_8a, h⟩ := q_8
  subst d_9
  show AW p l e _ s m args below meth c E M_G_costBetween true _ n _ _ _ [(2, v0), (0, v1), (0, v2), (0, v3), (0, v4)] [(0, r_6), (2, PT v0.toNat 32)] C_7
  obtain ⟨g_10, h⟩ := h
  obtain ⟨g_11, h⟩ := h
  refine AW.aaldp (by decide) (dc hd_G_costBetween 8 rfl) g_10 g_11 rfl ?_
  refine AW.ra_n (dc hd_G_costBetween 9 rfl) rfl rfl rfl ?_
  refine AW.iload_n (dc hd_G_costBetween 10 rfl) rfl ?_
  refine AW.iload (dc hd_G_costBetween 11 rfl) rfl ?_
  refine AW.callV (As := [(0, v3), (0, v4)]) (rest := [(2, PT (PT v0.toNat 32).toNat r_6.toNat)]) (ci := 10) (m_G_isIn l E n C_7 v0 v3 v4 _ h) cb_10_281 im_G_isIn se_G_isIn ⟨_, _, rfl⟩ (by decide) (dc hd_G_costBetween 12 rfl) g_1 rfl rfl ⟨Nat.le_of_ble_eq_true rfl, Nat.le_of_ble_eq_true rfl⟩ ⟨(Nat.le_of_ble_eq_true rfl), (Nat.le_of_ble_eq_true rfl)⟩ (Nat.le_of_ble_eq_true rfl) (fun _ h => by cases h) (fun _ => rfl) (fun r_12 C_13 d_15 q_14 => ?_)
  obtain ⟨q_14a, h⟩ := q_14
  subst d_15
  show AW p l e _ s m args below meth c E M_G_costBetween true _ n _ _ _ [(2, v0), (0, v1), (0, v2), (0, v3), (0, v4)] [(0, r_12), (2, PT (PT v0.toNat 32).toNat r_6.toNat)] C_13
  obtain ⟨g_16, h⟩ := h
  obtain ⟨g_17, h⟩ := h
  refine AW.iald (dc hd_G_costBetween 13 rfl) g_16 g_17 ?_
  exact AW.iret (dc hd_G_costBetween 14 rfl) rfl rfl (Nat.le_of_ble_eq_true rfl) (Nat.le_of_ble_eq_true rfl) ⟨rfl, h⟩
def J_G_areFree_28 (n : Nat) (C : Cn) (s0 : Int) (Q : Int → Cn → Prop) : Prop :=
  (s0 = 0 ∨ s0 = 1) ∧ (Q s0 C)
theorem aJ_G_areFree_28 (n : Nat) (C : Cn) (s0 : Int) (Q : Int → Cn → Prop) (h : J_G_areFree_28 n C s0 Q) : AW p l e R s m args below meth c E M_G_areFree true (fun r C2 n2 => n2 = n ∧ Q r C2) n 0 0 28 [(9, 0), (9, 0), (9, 0), (9, 0), (9, 0)] [(0, s0)] C := by
  unfold J_G_areFree_28 at h
  obtain ⟨g_16, h⟩ := h
  exact AW.zret (dc hd_G_areFree 15 rfl) rfl rfl (Nat.le_of_ble_eq_true rfl) (Nat.le_of_ble_eq_true rfl) g_16 ⟨rfl, h⟩
def P_G_areFree (n : Nat) (C : Cn) (v0 v1 v2 v3 v4 : Int) (Q : Int → Cn → Prop) : Prop :=
  okO n v0 10 ∧ (P_G_maps n C v0 (fun (_ : Int) (C_2 : Cn) => P_G_isFree n C_2 v0 v1 v2 (fun (r_6 : Int) (C_7 : Cn) => (r_6 = 0 → (Q 0 C_7)) ∧ (¬ r_6 = 0 → (P_G_isFree n C_7 v0 v3 v4 (fun (r_11 : Int) (C_12 : Cn) => J_G_areFree_28 n C_12 (if r_11 = 0 then 0 else 1) Q))))))
theorem m_G_areFree (l : Launch) (E : Ev) (n : Nat) (C : Cn) (v0 v1 v2 v3 v4 : Int) (Q : Int → Cn → Prop) (h : P_G_areFree n C v0 v1 v2 v3 v4 Q) : MA l y_G_areFree M_G_areFree E true C n [(2, v0), (0, v1), (0, v2), (0, v3), (0, v4)] (fun r C2 n2 => n2 = n ∧ Q r C2) := by
  refine MA.of (by decide) rfl rfl 0 rfl (fun p e s m args below meth c => ?_)
  show AW p l e _ s m args below meth c E M_G_areFree true _ n 0 0 0 [(2, v0), (0, v1), (0, v2), (0, v3), (0, v4)] [] C
  unfold P_G_areFree at h
  refine AW.ra_n (dc hd_G_areFree 0 rfl) rfl rfl rfl ?_
  obtain ⟨g_1, h⟩ := h
  refine AW.callV (As := []) (rest := []) (ci := 10) (m_G_maps l E n C v0 _ h) cb_10_211 im_G_maps se_G_maps ⟨_, _, rfl⟩ (by decide) (dc hd_G_areFree 1 rfl) g_1 rfl rfl ⟨Nat.le_of_ble_eq_true rfl, Nat.le_of_ble_eq_true rfl⟩ ⟨(Nat.le_of_ble_eq_true rfl), (Nat.le_of_ble_eq_true rfl)⟩ (Nat.le_of_ble_eq_true rfl) (fun _ h => by cases h) (fun _ => rfl) (fun u_4 C_2 d_5 q_3 => ?_)
  obtain ⟨q_3a, h⟩ := q_3
  subst d_5
  show AW p l e _ s m args below meth c E M_G_areFree true _ n _ _ _ [(2, v0), (0, v1), (0, v2), (0, v3), (0, v4)] [] C_2
  refine AW.ra_n (dc hd_G_areFree 2 rfl) rfl rfl rfl ?_
  refine AW.iload_n (dc hd_G_areFree 3 rfl) rfl ?_
  refine AW.iload_n (dc hd_G_areFree 4 rfl) rfl ?_
  refine AW.callV (As := [(0, v1), (0, v2)]) (rest := []) (ci := 10) (m_G_isFree l E n C_2 v0 v1 v2 _ h) cb_10_284 im_G_isFree se_G_isFree ⟨_, _, rfl⟩ (by decide) (dc hd_G_areFree 5 rfl) g_1 rfl rfl ⟨Nat.le_of_ble_eq_true rfl, Nat.le_of_ble_eq_true rfl⟩ ⟨(Nat.le_of_ble_eq_true rfl), (Nat.le_of_ble_eq_true rfl)⟩ (Nat.le_of_ble_eq_true rfl) (fun _ h => by cases h) (fun _ => rfl) (fun r_6 C_7 d_9 q_8 => ?_)
  obtain ⟨q_8a, h⟩ := q_8
  subst d_9
  show AW p l e _ s m args below meth c E M_G_areFree true _ n _ _ _ [(2, v0), (0, v1), (0, v2), (0, v3), (0, v4)] [(0, r_6)] C_7
  refine AW.if_eq (t := 27) (dc hd_G_areFree 6 rfl) (by decide) (fun c_10 => ?_) (fun c_10 => ?_)
  · have h := h.1 c_10
    refine AW.iconst (dc hd_G_areFree 14 rfl) (by decide) ?_
    exact AW.zret (dc hd_G_areFree 15 rfl) rfl rfl (Nat.le_of_ble_eq_true rfl) (Nat.le_of_ble_eq_true rfl) (by decide) ⟨rfl, h⟩
  · have h := h.2 c_10
    refine AW.ra_n (dc hd_G_areFree 7 rfl) rfl rfl rfl ?_
    refine AW.iload_n (dc hd_G_areFree 8 rfl) rfl ?_
    refine AW.iload (dc hd_G_areFree 9 rfl) rfl ?_
    refine AW.callV (As := [(0, v3), (0, v4)]) (rest := []) (ci := 10) (m_G_isFree l E n C_7 v0 v3 v4 _ h) cb_10_284 im_G_isFree se_G_isFree ⟨_, _, rfl⟩ (by decide) (dc hd_G_areFree 10 rfl) g_1 rfl rfl ⟨Nat.le_of_ble_eq_true rfl, Nat.le_of_ble_eq_true rfl⟩ ⟨(Nat.le_of_ble_eq_true rfl), (Nat.le_of_ble_eq_true rfl)⟩ (Nat.le_of_ble_eq_true rfl) (fun _ h => by cases h) (fun _ => rfl) (fun r_11 C_12 d_14 q_13 => ?_)
    obtain ⟨q_13a, h⟩ := q_13
    subst d_14
    show AW p l e _ s m args below meth c E M_G_areFree true _ n _ _ _ [(2, v0), (0, v1), (0, v2), (0, v3), (0, v4)] [(0, r_11)] C_12
    refine AW.if_eq (t := 27) (dc hd_G_areFree 11 rfl) (by decide) (fun c_15 => ?_) (fun c_15 => ?_)
    · simp only [if_pos (show r_11 = 0 from c_15)] at h
      refine AW.iconst (dc hd_G_areFree 14 rfl) (by decide) ?_
      refine AW.fgt [(9, 0), (9, 0), (9, 0), (9, 0), (9, 0)] ⟨.inr rfl, .inr rfl, .inr rfl, .inr rfl, .inr rfl, trivial⟩ ?_
      exact aJ_G_areFree_28 n C_12 _ Q h
    · simp only [if_neg (show ¬ (r_11 = 0) from c_15)] at h
      refine AW.iconst (dc hd_G_areFree 12 rfl) (by decide) ?_
      refine AW.goto (t := 28) (dc hd_G_areFree 13 rfl) (by decide) ?_
      refine AW.fgt [(9, 0), (9, 0), (9, 0), (9, 0), (9, 0)] ⟨.inr rfl, .inr rfl, .inr rfl, .inr rfl, .inr rfl, trivial⟩ ?_
      exact aJ_G_areFree_28 n C_12 _ Q h
def B_G_laysAside_10 (n : Nat) (v0 : Int) (Q : Int → Cn → Prop) (kz10 : Cn × Int → Prop) (z : Cn × Int) : Prop := match z with
  | (C, v1) => (6 ≤ v1 → (Q 0 C)) ∧ (¬ 6 ≤ v1 → (okO n v0 10 ∧ (okO n (PT v0.toNat 1) 17 ∧ (okI (PT v0.toNat 1) v1 ∧ (okO n (PT v0.toNat 31) 17 ∧ (okI (PT v0.toNat 31) v1 ∧ (P_G_copies n C (PT (PT v0.toNat 1).toNat v1.toNat) (PT (PT v0.toNat 31).toNat v1.toNat) (fun (_ : Int) (C_9 : Cn) => kz10 (C_9, w32 (v1 + 1))))))))))
theorem bB_G_laysAside_10 (n : Nat) (v0 : Int) (Q : Int → Cn → Prop) (kz10 : Cn × Int → Prop) (hkz10 : ∀ (Cz : Cn) (z1 : Int), kz10 (Cz, z1) → AW p l e R s m args below meth c E M_G_laysAside true (fun r C2 n2 => n2 = n ∧ Q r C2) n 0 0 10 [(2, v0), (0, z1)] [] Cz) (C : Cn) (v1 : Int) (h : B_G_laysAside_10 n v0 Q kz10 (C, v1)) : AW p l e R s m args below meth c E M_G_laysAside true (fun r C2 n2 => n2 = n ∧ Q r C2) n 0 0 10 [(2, v0), (0, v1)] [] C := by
  unfold B_G_laysAside_10 at h
  dsimp only at h
  refine AW.iload_n (dc hd_G_laysAside 6 rfl) rfl ?_
  refine AW.bipush (dc hd_G_laysAside 7 rfl) (by decide) (by decide +kernel) ?_
  refine AW.icmp_ge (t := 37) (dc hd_G_laysAside 8 rfl) (by decide) (fun c_3 => ?_) (fun c_3 => ?_)
  · have h := h.1 c_3
    exact AW.vret (dc hd_G_laysAside 20 rfl) rfl rfl (Nat.le_of_ble_eq_true rfl) (Nat.le_of_ble_eq_true rfl) ⟨rfl, h⟩
  · have h := h.2 c_3
    refine AW.ra_n (dc hd_G_laysAside 9 rfl) rfl rfl rfl ?_
    obtain ⟨g_4, h⟩ := h
    refine AW.getp fl_10_11 (dc hd_G_laysAside 10 rfl) g_4 rfl ?_
    refine AW.iload_n (dc hd_G_laysAside 11 rfl) rfl ?_
    obtain ⟨g_5, h⟩ := h
    obtain ⟨g_6, h⟩ := h
    refine AW.aaldp (by decide) (dc hd_G_laysAside 12 rfl) g_5 g_6 rfl ?_
    refine AW.ra_n (dc hd_G_laysAside 13 rfl) rfl rfl rfl ?_
    refine AW.getp fl_10_67 (dc hd_G_laysAside 14 rfl) g_4 rfl ?_
    refine AW.iload_n (dc hd_G_laysAside 15 rfl) rfl ?_
    obtain ⟨g_7, h⟩ := h
    obtain ⟨g_8, h⟩ := h
    refine AW.aaldp (by decide) (dc hd_G_laysAside 16 rfl) g_7 g_8 rfl ?_
    refine AW.callS (As := [(2, PT (PT v0.toNat 1).toNat v1.toNat), (2, PT (PT v0.toNat 31).toNat v1.toNat)]) (rest := []) (m_G_copies l E n C (PT (PT v0.toNat 1).toNat v1.toNat) (PT (PT v0.toNat 31).toNat v1.toNat) _ h) cb_10_198 sm_G_copies (dc hd_G_laysAside 17 rfl) rfl rfl ⟨Nat.le_of_ble_eq_true rfl, Nat.le_of_ble_eq_true rfl⟩ ⟨(Nat.le_of_ble_eq_true rfl), (Nat.le_of_ble_eq_true rfl)⟩ (Nat.le_of_ble_eq_true rfl) (fun _ h => by cases h) (fun _ => rfl) (fun u_11 C_9 d_12 q_10 => ?_)
    obtain ⟨q_10a, h⟩ := q_10
    subst d_12
    show AW p l e _ s m args below meth c E M_G_laysAside true _ n _ _ _ [(2, v0), (0, v1)] [] C_9
    refine AW.iinc [(2, v0), (0, w32 (v1 + 1))] (dc hd_G_laysAside 18 rfl) rfl (Nat.le_of_ble_eq_true rfl) rfl rfl ?_
    refine AW.goto (t := 10) (dc hd_G_laysAside 19 rfl) (by decide) ?_
    exact hkz10 C_9 (w32 (v1 + 1)) h
theorem aB_G_laysAside_10 (n : Nat) (v0 : Int) (Q : Int → Cn → Prop) : ∀ (f : Nat) (z : Cn × Int), lp (B_G_laysAside_10 n v0 Q) f z → AW p l e R s m args below meth c E M_G_laysAside true (fun r C2 n2 => n2 = n ∧ Q r C2) n 0 0 10 [(2, v0), (0, z.2)] [] (z.1) := by
  intro f
  induction f with
  | zero => intro z h; exact False.elim h
  | succ f ih => intro z h; exact bB_G_laysAside_10 n v0 Q (lp (B_G_laysAside_10 n v0 Q) f) (fun a0 a1 h => ih (a0, a1) h) z.1 z.2 h
def P_G_laysAside (n : Nat) (C : Cn) (v0 : Int) (Q : Int → Cn → Prop) : Prop :=
  okO n v0 10 ∧ (∀ C_2 : Cn, C_2 = wr C v0.toNat 34 (C v0.toNat 0) → (∃ f_13 : Nat, lp (B_G_laysAside_10 n v0 Q) f_13 (C_2, 0)))
theorem m_G_laysAside (l : Launch) (E : Ev) (n : Nat) (C : Cn) (v0 : Int) (Q : Int → Cn → Prop) (h : P_G_laysAside n C v0 Q) : MA l y_G_laysAside M_G_laysAside E true C n [(2, v0)] (fun r C2 n2 => n2 = n ∧ Q r C2) := by
  refine MA.of (by decide) rfl rfl 1 rfl (fun p e s m args below meth c => ?_)
  show AW p l e _ s m args below meth c E M_G_laysAside true _ n 0 0 0 [(2, v0), (9, 0)] [] C
  unfold P_G_laysAside at h
  refine AW.ra_n (dc hd_G_laysAside 0 rfl) rfl rfl rfl ?_
  refine AW.ra_n (dc hd_G_laysAside 1 rfl) rfl rfl rfl ?_
  obtain ⟨g_1, h⟩ := h
  refine AW.getf fl_10_117 (dc hd_G_laysAside 2 rfl) g_1 ?_
  refine AW.nputI fl_10_354 (dc hd_G_laysAside 3 rfl) g_1 (fun C_2 eC_2 => ?_)
  have h := h C_2 eC_2
  refine AW.iconst (dc hd_G_laysAside 4 rfl) (by decide) ?_
  refine AW.istore_n [(2, v0), (0, 0)] (dc hd_G_laysAside 5 rfl) (Nat.le_of_ble_eq_true rfl) rfl rfl ?_
  obtain ⟨f_13, h⟩ := h
  exact aB_G_laysAside_10 n v0 Q f_13 (C_2, 0) h
def B_G_laysBack_10 (n : Nat) (v0 : Int) (Q : Int → Cn → Prop) (kz10 : Cn × Int → Prop) (z : Cn × Int) : Prop := match z with
  | (C, v1) => (6 ≤ v1 → (Q 0 C)) ∧ (¬ 6 ≤ v1 → (okO n v0 10 ∧ (okO n (PT v0.toNat 31) 17 ∧ (okI (PT v0.toNat 31) v1 ∧ (okO n (PT v0.toNat 1) 17 ∧ (okI (PT v0.toNat 1) v1 ∧ (P_G_copies n C (PT (PT v0.toNat 31).toNat v1.toNat) (PT (PT v0.toNat 1).toNat v1.toNat) (fun (_ : Int) (C_9 : Cn) => kz10 (C_9, w32 (v1 + 1))))))))))
theorem bB_G_laysBack_10 (n : Nat) (v0 : Int) (Q : Int → Cn → Prop) (kz10 : Cn × Int → Prop) (hkz10 : ∀ (Cz : Cn) (z1 : Int), kz10 (Cz, z1) → AW p l e R s m args below meth c E M_G_laysBack true (fun r C2 n2 => n2 = n ∧ Q r C2) n 0 0 10 [(2, v0), (0, z1)] [] Cz) (C : Cn) (v1 : Int) (h : B_G_laysBack_10 n v0 Q kz10 (C, v1)) : AW p l e R s m args below meth c E M_G_laysBack true (fun r C2 n2 => n2 = n ∧ Q r C2) n 0 0 10 [(2, v0), (0, v1)] [] C := by
  unfold B_G_laysBack_10 at h
  dsimp only at h
  refine AW.iload_n (dc hd_G_laysBack 6 rfl) rfl ?_
  refine AW.bipush (dc hd_G_laysBack 7 rfl) (by decide) (by decide +kernel) ?_
  refine AW.icmp_ge (t := 37) (dc hd_G_laysBack 8 rfl) (by decide) (fun c_3 => ?_) (fun c_3 => ?_)
  · have h := h.1 c_3
    exact AW.vret (dc hd_G_laysBack 20 rfl) rfl rfl (Nat.le_of_ble_eq_true rfl) (Nat.le_of_ble_eq_true rfl) ⟨rfl, h⟩
  · have h := h.2 c_3
    refine AW.ra_n (dc hd_G_laysBack 9 rfl) rfl rfl rfl ?_
    obtain ⟨g_4, h⟩ := h
    refine AW.getp fl_10_67 (dc hd_G_laysBack 10 rfl) g_4 rfl ?_
    refine AW.iload_n (dc hd_G_laysBack 11 rfl) rfl ?_
    obtain ⟨g_5, h⟩ := h
    obtain ⟨g_6, h⟩ := h
    refine AW.aaldp (by decide) (dc hd_G_laysBack 12 rfl) g_5 g_6 rfl ?_
    refine AW.ra_n (dc hd_G_laysBack 13 rfl) rfl rfl rfl ?_
    refine AW.getp fl_10_11 (dc hd_G_laysBack 14 rfl) g_4 rfl ?_
    refine AW.iload_n (dc hd_G_laysBack 15 rfl) rfl ?_
    obtain ⟨g_7, h⟩ := h
    obtain ⟨g_8, h⟩ := h
    refine AW.aaldp (by decide) (dc hd_G_laysBack 16 rfl) g_7 g_8 rfl ?_
    refine AW.callS (As := [(2, PT (PT v0.toNat 31).toNat v1.toNat), (2, PT (PT v0.toNat 1).toNat v1.toNat)]) (rest := []) (m_G_copies l E n C (PT (PT v0.toNat 31).toNat v1.toNat) (PT (PT v0.toNat 1).toNat v1.toNat) _ h) cb_10_198 sm_G_copies (dc hd_G_laysBack 17 rfl) rfl rfl ⟨Nat.le_of_ble_eq_true rfl, Nat.le_of_ble_eq_true rfl⟩ ⟨(Nat.le_of_ble_eq_true rfl), (Nat.le_of_ble_eq_true rfl)⟩ (Nat.le_of_ble_eq_true rfl) (fun _ h => by cases h) (fun _ => rfl) (fun u_11 C_9 d_12 q_10 => ?_)
    obtain ⟨q_10a, h⟩ := q_10
    subst d_12
    show AW p l e _ s m args below meth c E M_G_laysBack true _ n _ _ _ [(2, v0), (0, v1)] [] C_9
    refine AW.iinc [(2, v0), (0, w32 (v1 + 1))] (dc hd_G_laysBack 18 rfl) rfl (Nat.le_of_ble_eq_true rfl) rfl rfl ?_
    refine AW.goto (t := 10) (dc hd_G_laysBack 19 rfl) (by decide) ?_
    exact hkz10 C_9 (w32 (v1 + 1)) h
theorem aB_G_laysBack_10 (n : Nat) (v0 : Int) (Q : Int → Cn → Prop) : ∀ (f : Nat) (z : Cn × Int), lp (B_G_laysBack_10 n v0 Q) f z → AW p l e R s m args below meth c E M_G_laysBack true (fun r C2 n2 => n2 = n ∧ Q r C2) n 0 0 10 [(2, v0), (0, z.2)] [] (z.1) := by
  intro f
  induction f with
  | zero => intro z h; exact False.elim h
  | succ f ih => intro z h; exact bB_G_laysBack_10 n v0 Q (lp (B_G_laysBack_10 n v0 Q) f) (fun a0 a1 h => ih (a0, a1) h) z.1 z.2 h
def P_G_laysBack (n : Nat) (C : Cn) (v0 : Int) (Q : Int → Cn → Prop) : Prop :=
  okO n v0 10 ∧ (∀ C_2 : Cn, C_2 = wr C v0.toNat 0 (C v0.toNat 34) → (∃ f_13 : Nat, lp (B_G_laysBack_10 n v0 Q) f_13 (C_2, 0)))
theorem m_G_laysBack (l : Launch) (E : Ev) (n : Nat) (C : Cn) (v0 : Int) (Q : Int → Cn → Prop) (h : P_G_laysBack n C v0 Q) : MA l y_G_laysBack M_G_laysBack E true C n [(2, v0)] (fun r C2 n2 => n2 = n ∧ Q r C2) := by
  refine MA.of (by decide) rfl rfl 1 rfl (fun p e s m args below meth c => ?_)
  show AW p l e _ s m args below meth c E M_G_laysBack true _ n 0 0 0 [(2, v0), (9, 0)] [] C
  unfold P_G_laysBack at h
  refine AW.ra_n (dc hd_G_laysBack 0 rfl) rfl rfl rfl ?_
  refine AW.ra_n (dc hd_G_laysBack 1 rfl) rfl rfl rfl ?_
  obtain ⟨g_1, h⟩ := h
  refine AW.getf fl_10_354 (dc hd_G_laysBack 2 rfl) g_1 ?_
  refine AW.nputI fl_10_117 (dc hd_G_laysBack 3 rfl) g_1 (fun C_2 eC_2 => ?_)
  have h := h C_2 eC_2
  refine AW.iconst (dc hd_G_laysBack 4 rfl) (by decide) ?_
  refine AW.istore_n [(2, v0), (0, 0)] (dc hd_G_laysBack 5 rfl) (Nat.le_of_ble_eq_true rfl) rfl rfl ?_
  obtain ⟨f_13, h⟩ := h
  exact aB_G_laysBack_10 n v0 Q f_13 (C_2, 0) h
def J_G_lose_116 (n : Nat) (C : Cn) (v0 v1 v2 v3 v4 v5 v6 v7 : Int) (kz67 : Cn × Int × Int × Int → Prop) (Q : Int → Cn → Prop) : Prop :=
  okO n v0 10 ∧ (∀ C_33 : Cn, C_33 = wr C v0.toNat 0 (w32 (C v0.toNat 0 - 1)) → (P_G_costBetween n C_33 v0 v1 v2 v3 v4 (fun (r_34 : Int) (C_35 : Cn) => P_G_laysBack n C_35 v0 (fun (_ : Int) (C_38 : Cn) => (v5 < 0 → (kz67 (C_38, v7, r_34, w32 (v7 + 1)))) ∧ (¬ v5 < 0 → ((r_34 < v6 → (kz67 (C_38, v7, r_34, w32 (v7 + 1)))) ∧ (¬ r_34 < v6 → (kz67 (C_38, v5, v6, w32 (v7 + 1))))))))))
theorem aJ_G_lose_116 (n : Nat) (C : Cn) (v0 v1 v2 v3 v4 v5 v6 v7 : Int) (kz67 : Cn × Int × Int × Int → Prop) (Q : Int → Cn → Prop) (hkz67 : ∀ (Cz : Cn) (z5 : Int) (z6 : Int) (z7 : Int), kz67 (Cz, z5, z6, z7) → AW p l e R s m args below meth c E M_G_lose true (fun r C2 n2 => n2 = n ∧ Q r C2) n 0 0 67 [(2, v0), (0, v1), (0, v2), (0, v3), (0, v4), (0, z5), (0, z6), (0, z7), (9, 0)] [] Cz) (h : J_G_lose_116 n C v0 v1 v2 v3 v4 v5 v6 v7 kz67 Q) : AW p l e R s m args below meth c E M_G_lose true (fun r C2 n2 => n2 = n ∧ Q r C2) n 0 0 116 [(2, v0), (0, v1), (0, v2), (0, v3), (0, v4), (0, v5), (0, v6), (0, v7), (9, 0)] [] C := by
  unfold J_G_lose_116 at h
  refine AW.ra_n (dc hd_G_lose 63 rfl) rfl rfl rfl ?_
  refine AW.rdup (dc hd_G_lose 64 rfl) rfl ?_
  obtain ⟨g_32, h⟩ := h
  refine AW.getf fl_10_117 (dc hd_G_lose 65 rfl) g_32 ?_
  refine AW.iconst (dc hd_G_lose 66 rfl) (by decide) ?_
  refine AW.isub (dc hd_G_lose 67 rfl) ?_
  refine AW.nputI fl_10_117 (dc hd_G_lose 68 rfl) g_32 (fun C_33 eC_33 => ?_)
  have h := h C_33 eC_33
  refine AW.ra_n (dc hd_G_lose 69 rfl) rfl rfl rfl ?_
  refine AW.iload_n (dc hd_G_lose 70 rfl) rfl ?_
  refine AW.iload_n (dc hd_G_lose 71 rfl) rfl ?_
  refine AW.iload_n (dc hd_G_lose 72 rfl) rfl ?_
  refine AW.iload (dc hd_G_lose 73 rfl) rfl ?_
  refine AW.callV (As := [(0, v1), (0, v2), (0, v3), (0, v4)]) (rest := []) (ci := 10) (m_G_costBetween l E n C_33 v0 v1 v2 v3 v4 _ h) cb_10_363 im_G_costBetween se_G_costBetween ⟨_, _, rfl⟩ (by decide) (dc hd_G_lose 74 rfl) g_32 rfl rfl ⟨Nat.le_of_ble_eq_true rfl, Nat.le_of_ble_eq_true rfl⟩ ⟨(Nat.le_of_ble_eq_true rfl), (Nat.le_of_ble_eq_true rfl)⟩ (Nat.le_of_ble_eq_true rfl) (fun _ h => by cases h) (fun _ => rfl) (fun r_34 C_35 d_37 q_36 => ?_)
  obtain ⟨q_36a, h⟩ := q_36
  subst d_37
  show AW p l e _ s m args below meth c E M_G_lose true _ n _ _ _ [(2, v0), (0, v1), (0, v2), (0, v3), (0, v4), (0, v5), (0, v6), (0, v7), (9, 0)] [(0, r_34)] C_35
  refine AW.istore [(2, v0), (0, v1), (0, v2), (0, v3), (0, v4), (0, v5), (0, v6), (0, v7), (0, r_34)] (dc hd_G_lose 75 rfl) (Nat.le_of_ble_eq_true rfl) rfl rfl ?_
  refine AW.ra_n (dc hd_G_lose 76 rfl) rfl rfl rfl ?_
  refine AW.callV (As := []) (rest := []) (ci := 10) (m_G_laysBack l E n C_35 v0 _ h) cb_10_366 im_G_laysBack se_G_laysBack ⟨_, _, rfl⟩ (by decide) (dc hd_G_lose 77 rfl) g_32 rfl rfl ⟨Nat.le_of_ble_eq_true rfl, Nat.le_of_ble_eq_true rfl⟩ ⟨(Nat.le_of_ble_eq_true rfl), (Nat.le_of_ble_eq_true rfl)⟩ (Nat.le_of_ble_eq_true rfl) (fun _ h => by cases h) (fun _ => rfl) (fun u_40 C_38 d_41 q_39 => ?_)
  obtain ⟨q_39a, h⟩ := q_39
  subst d_41
  show AW p l e _ s m args below meth c E M_G_lose true _ n _ _ _ [(2, v0), (0, v1), (0, v2), (0, v3), (0, v4), (0, v5), (0, v6), (0, v7), (0, r_34)] [] C_38
  refine AW.iload (dc hd_G_lose 78 rfl) rfl ?_
  refine AW.if_lt (t := 156) (dc hd_G_lose 79 rfl) (by decide) (fun c_42 => ?_) (fun c_42 => ?_)
  · have h := h.1 c_42
    refine AW.iload (dc hd_G_lose 84 rfl) rfl ?_
    refine AW.istore [(2, v0), (0, v1), (0, v2), (0, v3), (0, v4), (0, v7), (0, v6), (0, v7), (0, r_34)] (dc hd_G_lose 85 rfl) (Nat.le_of_ble_eq_true rfl) rfl rfl ?_
    refine AW.iload (dc hd_G_lose 86 rfl) rfl ?_
    refine AW.istore [(2, v0), (0, v1), (0, v2), (0, v3), (0, v4), (0, v7), (0, r_34), (0, v7), (0, r_34)] (dc hd_G_lose 87 rfl) (Nat.le_of_ble_eq_true rfl) rfl rfl ?_
    refine AW.iinc [(2, v0), (0, v1), (0, v2), (0, v3), (0, v4), (0, v7), (0, r_34), (0, w32 (v7 + 1)), (0, r_34)] (dc hd_G_lose 88 rfl) rfl (Nat.le_of_ble_eq_true rfl) rfl rfl ?_
    refine AW.goto (t := 67) (dc hd_G_lose 89 rfl) (by decide) ?_
    refine AW.fgt [(2, v0), (0, v1), (0, v2), (0, v3), (0, v4), (0, v7), (0, r_34), (0, w32 (v7 + 1)), (9, 0)] ⟨.inl rfl, .inl rfl, .inl rfl, .inl rfl, .inl rfl, .inl rfl, .inl rfl, .inl rfl, .inr rfl, trivial⟩ ?_
    exact hkz67 C_38 v7 r_34 (w32 (v7 + 1)) h
  · have h := h.2 c_42
    refine AW.iload (dc hd_G_lose 80 rfl) rfl ?_
    refine AW.iload (dc hd_G_lose 81 rfl) rfl ?_
    refine AW.icmp_lt (t := 156) (dc hd_G_lose 82 rfl) (by decide) (fun c_43 => ?_) (fun c_43 => ?_)
    · have h := h.1 c_43
      refine AW.iload (dc hd_G_lose 84 rfl) rfl ?_
      refine AW.istore [(2, v0), (0, v1), (0, v2), (0, v3), (0, v4), (0, v7), (0, v6), (0, v7), (0, r_34)] (dc hd_G_lose 85 rfl) (Nat.le_of_ble_eq_true rfl) rfl rfl ?_
      refine AW.iload (dc hd_G_lose 86 rfl) rfl ?_
      refine AW.istore [(2, v0), (0, v1), (0, v2), (0, v3), (0, v4), (0, v7), (0, r_34), (0, v7), (0, r_34)] (dc hd_G_lose 87 rfl) (Nat.le_of_ble_eq_true rfl) rfl rfl ?_
      refine AW.iinc [(2, v0), (0, v1), (0, v2), (0, v3), (0, v4), (0, v7), (0, r_34), (0, w32 (v7 + 1)), (0, r_34)] (dc hd_G_lose 88 rfl) rfl (Nat.le_of_ble_eq_true rfl) rfl rfl ?_
      refine AW.goto (t := 67) (dc hd_G_lose 89 rfl) (by decide) ?_
      refine AW.fgt [(2, v0), (0, v1), (0, v2), (0, v3), (0, v4), (0, v7), (0, r_34), (0, w32 (v7 + 1)), (9, 0)] ⟨.inl rfl, .inl rfl, .inl rfl, .inl rfl, .inl rfl, .inl rfl, .inl rfl, .inl rfl, .inr rfl, trivial⟩ ?_
      exact hkz67 C_38 v7 r_34 (w32 (v7 + 1)) h
    · have h := h.2 c_43
      refine AW.goto (t := 164) (dc hd_G_lose 83 rfl) (by decide) ?_
      refine AW.iinc [(2, v0), (0, v1), (0, v2), (0, v3), (0, v4), (0, v5), (0, v6), (0, w32 (v7 + 1)), (0, r_34)] (dc hd_G_lose 88 rfl) rfl (Nat.le_of_ble_eq_true rfl) rfl rfl ?_
      refine AW.goto (t := 67) (dc hd_G_lose 89 rfl) (by decide) ?_
      refine AW.fgt [(2, v0), (0, v1), (0, v2), (0, v3), (0, v4), (0, v5), (0, v6), (0, w32 (v7 + 1)), (9, 0)] ⟨.inl rfl, .inl rfl, .inl rfl, .inl rfl, .inl rfl, .inl rfl, .inl rfl, .inl rfl, .inr rfl, trivial⟩ ?_
      exact hkz67 C_38 v5 v6 (w32 (v7 + 1)) h
def B_G_lose_80 (n : Nat) (v0 v1 v2 v3 v4 v5 v6 v7 : Int) (kz67 : Cn × Int × Int × Int → Prop) (Q : Int → Cn → Prop) (kz80 : Cn × Int → Prop) (z : Cn × Int) : Prop := match z with
  | (C, v8) => okO n v0 10 ∧ ((w32 (C v0.toNat 0 - 1) ≤ v8 → (J_G_lose_116 n C v0 v1 v2 v3 v4 v5 v6 v7 kz67 Q)) ∧ (¬ w32 (C v0.toNat 0 - 1) ≤ v8 → (okO n (PT v0.toNat 1) 17 ∧ (okI (PT v0.toNat 1) (w32 (v8 + 1)) ∧ (okI (PT v0.toNat 1) v8 ∧ (P_G_copies n C (PT (PT v0.toNat 1).toNat (w32 (v8 + 1)).toNat) (PT (PT v0.toNat 1).toNat v8.toNat) (fun (_ : Int) (C_47 : Cn) => kz80 (C_47, w32 (v8 + 1)))))))))
theorem bB_G_lose_80 (n : Nat) (v0 v1 v2 v3 v4 v5 v6 v7 : Int) (kz67 : Cn × Int × Int × Int → Prop) (Q : Int → Cn → Prop) (hkz67 : ∀ (Cz : Cn) (z5 : Int) (z6 : Int) (z7 : Int), kz67 (Cz, z5, z6, z7) → AW p l e R s m args below meth c E M_G_lose true (fun r C2 n2 => n2 = n ∧ Q r C2) n 0 0 67 [(2, v0), (0, v1), (0, v2), (0, v3), (0, v4), (0, z5), (0, z6), (0, z7), (9, 0)] [] Cz) (kz80 : Cn × Int → Prop) (hkz80 : ∀ (Cz : Cn) (z8 : Int), kz80 (Cz, z8) → AW p l e R s m args below meth c E M_G_lose true (fun r C2 n2 => n2 = n ∧ Q r C2) n 0 0 80 [(2, v0), (0, v1), (0, v2), (0, v3), (0, v4), (0, v5), (0, v6), (0, v7), (0, z8)] [] Cz) (C : Cn) (v8 : Int) (h : B_G_lose_80 n v0 v1 v2 v3 v4 v5 v6 v7 kz67 Q kz80 (C, v8)) : AW p l e R s m args below meth c E M_G_lose true (fun r C2 n2 => n2 = n ∧ Q r C2) n 0 0 80 [(2, v0), (0, v1), (0, v2), (0, v3), (0, v4), (0, v5), (0, v6), (0, v7), (0, v8)] [] C := by
  unfold B_G_lose_80 at h
  dsimp only at h
  refine AW.iload (dc hd_G_lose 44 rfl) rfl ?_
  refine AW.ra_n (dc hd_G_lose 45 rfl) rfl rfl rfl ?_
  obtain ⟨g_30, h⟩ := h
  refine AW.getf fl_10_117 (dc hd_G_lose 46 rfl) g_30 ?_
  refine AW.iconst (dc hd_G_lose 47 rfl) (by decide) ?_
  refine AW.isub (dc hd_G_lose 48 rfl) ?_
  refine AW.icmp_ge (t := 116) (dc hd_G_lose 49 rfl) (by decide) (fun c_31 => ?_) (fun c_31 => ?_)
  · have h := h.1 c_31
    refine AW.fgt [(2, v0), (0, v1), (0, v2), (0, v3), (0, v4), (0, v5), (0, v6), (0, v7), (9, 0)] ⟨.inl rfl, .inl rfl, .inl rfl, .inl rfl, .inl rfl, .inl rfl, .inl rfl, .inl rfl, .inr rfl, trivial⟩ ?_
    exact aJ_G_lose_116 n C v0 v1 v2 v3 v4 v5 v6 v7 kz67 Q hkz67 h
  · have h := h.2 c_31
    refine AW.ra_n (dc hd_G_lose 50 rfl) rfl rfl rfl ?_
    refine AW.getp fl_10_11 (dc hd_G_lose 51 rfl) g_30 rfl ?_
    refine AW.iload (dc hd_G_lose 52 rfl) rfl ?_
    refine AW.iconst (dc hd_G_lose 53 rfl) (by decide) ?_
    refine AW.iadd (dc hd_G_lose 54 rfl) ?_
    obtain ⟨g_44, h⟩ := h
    obtain ⟨g_45, h⟩ := h
    refine AW.aaldp (by decide) (dc hd_G_lose 55 rfl) g_44 g_45 rfl ?_
    refine AW.ra_n (dc hd_G_lose 56 rfl) rfl rfl rfl ?_
    refine AW.getp fl_10_11 (dc hd_G_lose 57 rfl) g_30 rfl ?_
    refine AW.iload (dc hd_G_lose 58 rfl) rfl ?_
    obtain ⟨g_46, h⟩ := h
    refine AW.aaldp (by decide) (dc hd_G_lose 59 rfl) g_44 g_46 rfl ?_
    refine AW.callS (As := [(2, PT (PT v0.toNat 1).toNat (w32 (v8 + 1)).toNat), (2, PT (PT v0.toNat 1).toNat v8.toNat)]) (rest := []) (m_G_copies l E n C (PT (PT v0.toNat 1).toNat (w32 (v8 + 1)).toNat) (PT (PT v0.toNat 1).toNat v8.toNat) _ h) cb_10_198 sm_G_copies (dc hd_G_lose 60 rfl) rfl rfl ⟨Nat.le_of_ble_eq_true rfl, Nat.le_of_ble_eq_true rfl⟩ ⟨(Nat.le_of_ble_eq_true rfl), (Nat.le_of_ble_eq_true rfl)⟩ (Nat.le_of_ble_eq_true rfl) (fun _ h => by cases h) (fun _ => rfl) (fun u_49 C_47 d_50 q_48 => ?_)
    obtain ⟨q_48a, h⟩ := q_48
    subst d_50
    show AW p l e _ s m args below meth c E M_G_lose true _ n _ _ _ [(2, v0), (0, v1), (0, v2), (0, v3), (0, v4), (0, v5), (0, v6), (0, v7), (0, v8)] [] C_47
    refine AW.iinc [(2, v0), (0, v1), (0, v2), (0, v3), (0, v4), (0, v5), (0, v6), (0, v7), (0, w32 (v8 + 1))] (dc hd_G_lose 61 rfl) rfl (Nat.le_of_ble_eq_true rfl) rfl rfl ?_
    refine AW.goto (t := 80) (dc hd_G_lose 62 rfl) (by decide) ?_
    exact hkz80 C_47 (w32 (v8 + 1)) h
theorem aB_G_lose_80 (n : Nat) (v0 v1 v2 v3 v4 v5 v6 v7 : Int) (kz67 : Cn × Int × Int × Int → Prop) (Q : Int → Cn → Prop) (hkz67 : ∀ (Cz : Cn) (z5 : Int) (z6 : Int) (z7 : Int), kz67 (Cz, z5, z6, z7) → AW p l e R s m args below meth c E M_G_lose true (fun r C2 n2 => n2 = n ∧ Q r C2) n 0 0 67 [(2, v0), (0, v1), (0, v2), (0, v3), (0, v4), (0, z5), (0, z6), (0, z7), (9, 0)] [] Cz) : ∀ (f : Nat) (z : Cn × Int), lp (B_G_lose_80 n v0 v1 v2 v3 v4 v5 v6 v7 kz67 Q) f z → AW p l e R s m args below meth c E M_G_lose true (fun r C2 n2 => n2 = n ∧ Q r C2) n 0 0 80 [(2, v0), (0, v1), (0, v2), (0, v3), (0, v4), (0, v5), (0, v6), (0, v7), (0, z.2)] [] (z.1) := by
  intro f
  induction f with
  | zero => intro z h; exact False.elim h
  | succ f ih => intro z h; exact bB_G_lose_80 n v0 v1 v2 v3 v4 v5 v6 v7 kz67 Q hkz67 (lp (B_G_lose_80 n v0 v1 v2 v3 v4 v5 v6 v7 kz67 Q) f) (fun a0 a1 h => ih (a0, a1) h) z.1 z.2 h
def B_G_lose_67 (n : Nat) (v0 v1 v2 v3 v4 : Int) (Q : Int → Cn → Prop) (kz67 : Cn × Int × Int × Int → Prop) (z : Cn × Int × Int × Int) : Prop := match z with
  | (C, v5, v6, v7) => okO n v0 10 ∧ ((C v0.toNat 34 ≤ v7 → (Q v5 C)) ∧ (¬ C v0.toNat 34 ≤ v7 → (∃ f_51 : Nat, lp (B_G_lose_80 n v0 v1 v2 v3 v4 v5 v6 v7 kz67 Q) f_51 (C, v7))))
theorem bB_G_lose_67 (n : Nat) (v0 v1 v2 v3 v4 : Int) (Q : Int → Cn → Prop) (kz67 : Cn × Int × Int × Int → Prop) (hkz67 : ∀ (Cz : Cn) (z5 : Int) (z6 : Int) (z7 : Int), kz67 (Cz, z5, z6, z7) → AW p l e R s m args below meth c E M_G_lose true (fun r C2 n2 => n2 = n ∧ Q r C2) n 0 0 67 [(2, v0), (0, v1), (0, v2), (0, v3), (0, v4), (0, z5), (0, z6), (0, z7), (9, 0)] [] Cz) (C : Cn) (v5 : Int) (v6 : Int) (v7 : Int) (h : B_G_lose_67 n v0 v1 v2 v3 v4 Q kz67 (C, v5, v6, v7)) : AW p l e R s m args below meth c E M_G_lose true (fun r C2 n2 => n2 = n ∧ Q r C2) n 0 0 67 [(2, v0), (0, v1), (0, v2), (0, v3), (0, v4), (0, v5), (0, v6), (0, v7), (9, 0)] [] C := by
  unfold B_G_lose_67 at h
  dsimp only at h
  refine AW.iload (dc hd_G_lose 38 rfl) rfl ?_
  refine AW.ra_n (dc hd_G_lose 39 rfl) rfl rfl rfl ?_
  obtain ⟨g_28, h⟩ := h
  refine AW.getf fl_10_354 (dc hd_G_lose 40 rfl) g_28 ?_
  refine AW.icmp_ge (t := 170) (dc hd_G_lose 41 rfl) (by decide) (fun c_29 => ?_) (fun c_29 => ?_)
  · have h := h.1 c_29
    refine AW.iload (dc hd_G_lose 90 rfl) rfl ?_
    exact AW.iret (dc hd_G_lose 91 rfl) rfl rfl (Nat.le_of_ble_eq_true rfl) (Nat.le_of_ble_eq_true rfl) ⟨rfl, h⟩
  · have h := h.2 c_29
    refine AW.iload (dc hd_G_lose 42 rfl) rfl ?_
    refine AW.istore [(2, v0), (0, v1), (0, v2), (0, v3), (0, v4), (0, v5), (0, v6), (0, v7), (0, v7)] (dc hd_G_lose 43 rfl) (Nat.le_of_ble_eq_true rfl) rfl rfl ?_
    obtain ⟨f_51, h⟩ := h
    exact aB_G_lose_80 n v0 v1 v2 v3 v4 v5 v6 v7 kz67 Q hkz67 f_51 (C, v7) h
theorem aB_G_lose_67 (n : Nat) (v0 v1 v2 v3 v4 : Int) (Q : Int → Cn → Prop) : ∀ (f : Nat) (z : Cn × Int × Int × Int), lp (B_G_lose_67 n v0 v1 v2 v3 v4 Q) f z → AW p l e R s m args below meth c E M_G_lose true (fun r C2 n2 => n2 = n ∧ Q r C2) n 0 0 67 [(2, v0), (0, v1), (0, v2), (0, v3), (0, v4), (0, z.2.1), (0, z.2.2.1), (0, z.2.2.2), (9, 0)] [] (z.1) := by
  intro f
  induction f with
  | zero => intro z h; exact False.elim h
  | succ f ih => intro z h; exact bB_G_lose_67 n v0 v1 v2 v3 v4 Q (lp (B_G_lose_67 n v0 v1 v2 v3 v4 Q) f) (fun a0 a1 a2 a3 h => ih (a0, a1, a2, a3) h) z.1 z.2.1 z.2.2.1 z.2.2.2 h
def P_G_lose (n : Nat) (C : Cn) (v0 v1 v2 v3 v4 : Int) (Q : Int → Cn → Prop) : Prop :=
  P_G_isPoint n C v1 v2 (fun (r_1 : Int) => (r_1 = 0 → (okO n v0 10 ∧ (P_G_finds n C v0 0 (fun (r_6 : Int) (C_8 : Cn) => Q r_6 C_8)))) ∧ (¬ r_1 = 0 → (P_G_isPoint n C v3 v4 (fun (r_11 : Int) => (r_11 = 0 → (okO n v0 10 ∧ (P_G_finds n C v0 0 (fun (r_61 : Int) (C_63 : Cn) => Q r_61 C_63)))) ∧ (¬ r_11 = 0 → (okO n v0 10 ∧ (P_G_areFree n C v0 v1 v2 v3 v4 (fun (r_16 : Int) (C_18 : Cn) => (r_16 = 0 → (P_G_finds n C_18 v0 4 (fun (r_57 : Int) (C_58 : Cn) => Q r_57 C_58))) ∧ (¬ r_16 = 0 → ((C_18 v0.toNat 0 = 0 → (P_G_finds n C_18 v0 3 (fun (r_53 : Int) (C_54 : Cn) => Q r_53 C_54))) ∧ (¬ C_18 v0.toNat 0 = 0 → (P_G_laysAside n C_18 v0 (fun (_ : Int) (C_24 : Cn) => ∃ f_52 : Nat, lp (B_G_lose_67 n v0 v1 v2 v3 v4 Q) f_52 (C_24, (-1), 0, 0))))))))))))))
theorem m_G_lose (l : Launch) (E : Ev) (n : Nat) (C : Cn) (v0 v1 v2 v3 v4 : Int) (Q : Int → Cn → Prop) (h : P_G_lose n C v0 v1 v2 v3 v4 Q) : MA l y_G_lose M_G_lose E true C n [(2, v0), (0, v1), (0, v2), (0, v3), (0, v4)] (fun r C2 n2 => n2 = n ∧ Q r C2) := by
  refine MA.of (by decide) rfl rfl 4 rfl (fun p e s m args below meth c => ?_)
  show AW p l e _ s m args below meth c E M_G_lose true _ n 0 0 0 [(2, v0), (0, v1), (0, v2), (0, v3), (0, v4), (9, 0), (9, 0), (9, 0), (9, 0)] [] C
  unfold P_G_lose at h
  refine AW.iload_n (dc hd_G_lose 0 rfl) rfl ?_
  refine AW.iload_n (dc hd_G_lose 1 rfl) rfl ?_
  refine AW.callS (As := [(0, v1), (0, v2)]) (rest := []) (m_G_isPoint l E n C v1 v2 _ h) cb_10_183 sm_G_isPoint (dc hd_G_lose 2 rfl) rfl rfl ⟨Nat.le_of_ble_eq_true rfl, Nat.le_of_ble_eq_true rfl⟩ ⟨(Nat.le_of_ble_eq_true rfl), (Nat.le_of_ble_eq_true rfl)⟩ (Nat.le_of_ble_eq_true rfl) (fun _ h => by cases h) (fun _ => rfl) (fun r_1 D_3 d_4 q_2 => ?_)
  obtain ⟨q_2a, q_2b, h⟩ := q_2
  subst D_3
  subst d_4
  show AW p l e _ s m args below meth c E M_G_lose true _ n _ _ _ [(2, v0), (0, v1), (0, v2), (0, v3), (0, v4), (9, 0), (9, 0), (9, 0), (9, 0)] [(0, r_1)] C
  refine AW.if_eq (t := 17) (dc hd_G_lose 3 rfl) (by decide) (fun c_5 => ?_) (fun c_5 => ?_)
  · have h := h.1 c_5
    refine AW.ra_n (dc hd_G_lose 8 rfl) rfl rfl rfl ?_
    refine AW.iconst (dc hd_G_lose 9 rfl) (by decide) ?_
    obtain ⟨g_7, h⟩ := h
    refine AW.callV (As := [(0, 0)]) (rest := []) (ci := 10) (m_G_finds l E n C v0 0 _ h) cb_10_186 im_G_finds se_G_finds ⟨_, _, rfl⟩ (by decide) (dc hd_G_lose 10 rfl) g_7 rfl rfl ⟨Nat.le_of_ble_eq_true rfl, Nat.le_of_ble_eq_true rfl⟩ ⟨(Nat.le_of_ble_eq_true rfl), (Nat.le_of_ble_eq_true rfl)⟩ (Nat.le_of_ble_eq_true rfl) (fun _ h => by cases h) (fun _ => rfl) (fun r_6 C_8 d_10 q_9 => ?_)
    obtain ⟨q_9a, h⟩ := q_9
    subst d_10
    show AW p l e _ s m args below meth c E M_G_lose true _ n _ _ _ [(2, v0), (0, v1), (0, v2), (0, v3), (0, v4), (9, 0), (9, 0), (9, 0), (9, 0)] [(0, r_6)] C_8
    exact AW.iret (dc hd_G_lose 11 rfl) rfl rfl (Nat.le_of_ble_eq_true rfl) (Nat.le_of_ble_eq_true rfl) ⟨rfl, h⟩
  · have h := h.2 c_5
    refine AW.iload_n (dc hd_G_lose 4 rfl) rfl ?_
    refine AW.iload (dc hd_G_lose 5 rfl) rfl ?_
    refine AW.callS (As := [(0, v3), (0, v4)]) (rest := []) (m_G_isPoint l E n C v3 v4 _ h) cb_10_183 sm_G_isPoint (dc hd_G_lose 6 rfl) rfl rfl ⟨Nat.le_of_ble_eq_true rfl, Nat.le_of_ble_eq_true rfl⟩ ⟨(Nat.le_of_ble_eq_true rfl), (Nat.le_of_ble_eq_true rfl)⟩ (Nat.le_of_ble_eq_true rfl) (fun _ h => by cases h) (fun _ => rfl) (fun r_11 D_13 d_14 q_12 => ?_)
    obtain ⟨q_12a, q_12b, h⟩ := q_12
    subst D_13
    subst d_14
    show AW p l e _ s m args below meth c E M_G_lose true _ n _ _ _ [(2, v0), (0, v1), (0, v2), (0, v3), (0, v4), (9, 0), (9, 0), (9, 0), (9, 0)] [(0, r_11)] C
    refine AW.if_ne (t := 23) (dc hd_G_lose 7 rfl) (by decide) (fun c_15 => ?_) (fun c_15 => ?_)
    · have h := h.2 c_15
      refine AW.ra_n (dc hd_G_lose 12 rfl) rfl rfl rfl ?_
      refine AW.iload_n (dc hd_G_lose 13 rfl) rfl ?_
      refine AW.iload_n (dc hd_G_lose 14 rfl) rfl ?_
      refine AW.iload_n (dc hd_G_lose 15 rfl) rfl ?_
      refine AW.iload (dc hd_G_lose 16 rfl) rfl ?_
      obtain ⟨g_17, h⟩ := h
      refine AW.callV (As := [(0, v1), (0, v2), (0, v3), (0, v4)]) (rest := []) (ci := 10) (m_G_areFree l E n C v0 v1 v2 v3 v4 _ h) cb_10_357 im_G_areFree se_G_areFree ⟨_, _, rfl⟩ (by decide) (dc hd_G_lose 17 rfl) g_17 rfl rfl ⟨Nat.le_of_ble_eq_true rfl, Nat.le_of_ble_eq_true rfl⟩ ⟨(Nat.le_of_ble_eq_true rfl), (Nat.le_of_ble_eq_true rfl)⟩ (Nat.le_of_ble_eq_true rfl) (fun _ h => by cases h) (fun _ => rfl) (fun r_16 C_18 d_20 q_19 => ?_)
      obtain ⟨q_19a, h⟩ := q_19
      subst d_20
      show AW p l e _ s m args below meth c E M_G_lose true _ n _ _ _ [(2, v0), (0, v1), (0, v2), (0, v3), (0, v4), (9, 0), (9, 0), (9, 0), (9, 0)] [(0, r_16)] C_18
      refine AW.if_ne (t := 41) (dc hd_G_lose 18 rfl) (by decide) (fun c_21 => ?_) (fun c_21 => ?_)
      · have h := h.2 c_21
        refine AW.ra_n (dc hd_G_lose 23 rfl) rfl rfl rfl ?_
        refine AW.getf fl_10_117 (dc hd_G_lose 24 rfl) g_17 ?_
        refine AW.if_ne (t := 54) (dc hd_G_lose 25 rfl) (by decide) (fun c_23 => ?_) (fun c_23 => ?_)
        · have h := h.2 c_23
          refine AW.ra_n (dc hd_G_lose 30 rfl) rfl rfl rfl ?_
          refine AW.callV (As := []) (rest := []) (ci := 10) (m_G_laysAside l E n C_18 v0 _ h) cb_10_360 im_G_laysAside se_G_laysAside ⟨_, _, rfl⟩ (by decide) (dc hd_G_lose 31 rfl) g_17 rfl rfl ⟨Nat.le_of_ble_eq_true rfl, Nat.le_of_ble_eq_true rfl⟩ ⟨(Nat.le_of_ble_eq_true rfl), (Nat.le_of_ble_eq_true rfl)⟩ (Nat.le_of_ble_eq_true rfl) (fun _ h => by cases h) (fun _ => rfl) (fun u_26 C_24 d_27 q_25 => ?_)
          obtain ⟨q_25a, h⟩ := q_25
          subst d_27
          show AW p l e _ s m args below meth c E M_G_lose true _ n _ _ _ [(2, v0), (0, v1), (0, v2), (0, v3), (0, v4), (9, 0), (9, 0), (9, 0), (9, 0)] [] C_24
          refine AW.iconst (dc hd_G_lose 32 rfl) (by decide) ?_
          refine AW.istore [(2, v0), (0, v1), (0, v2), (0, v3), (0, v4), (0, (-1)), (9, 0), (9, 0), (9, 0)] (dc hd_G_lose 33 rfl) (Nat.le_of_ble_eq_true rfl) rfl rfl ?_
          refine AW.iconst (dc hd_G_lose 34 rfl) (by decide) ?_
          refine AW.istore [(2, v0), (0, v1), (0, v2), (0, v3), (0, v4), (0, (-1)), (0, 0), (9, 0), (9, 0)] (dc hd_G_lose 35 rfl) (Nat.le_of_ble_eq_true rfl) rfl rfl ?_
          refine AW.iconst (dc hd_G_lose 36 rfl) (by decide) ?_
          refine AW.istore [(2, v0), (0, v1), (0, v2), (0, v3), (0, v4), (0, (-1)), (0, 0), (0, 0), (9, 0)] (dc hd_G_lose 37 rfl) (Nat.le_of_ble_eq_true rfl) rfl rfl ?_
          obtain ⟨f_52, h⟩ := h
          exact aB_G_lose_67 n v0 v1 v2 v3 v4 Q f_52 (C_24, (-1), 0, 0) h
        · have h := h.1 c_23
          refine AW.ra_n (dc hd_G_lose 26 rfl) rfl rfl rfl ?_
          refine AW.iconst (dc hd_G_lose 27 rfl) (by decide) ?_
          refine AW.callV (As := [(0, 3)]) (rest := []) (ci := 10) (m_G_finds l E n C_18 v0 3 _ h) cb_10_186 im_G_finds se_G_finds ⟨_, _, rfl⟩ (by decide) (dc hd_G_lose 28 rfl) g_17 rfl rfl ⟨Nat.le_of_ble_eq_true rfl, Nat.le_of_ble_eq_true rfl⟩ ⟨(Nat.le_of_ble_eq_true rfl), (Nat.le_of_ble_eq_true rfl)⟩ (Nat.le_of_ble_eq_true rfl) (fun _ h => by cases h) (fun _ => rfl) (fun r_53 C_54 d_56 q_55 => ?_)
          obtain ⟨q_55a, h⟩ := q_55
          subst d_56
          show AW p l e _ s m args below meth c E M_G_lose true _ n _ _ _ [(2, v0), (0, v1), (0, v2), (0, v3), (0, v4), (9, 0), (9, 0), (9, 0), (9, 0)] [(0, r_53)] C_54
          exact AW.iret (dc hd_G_lose 29 rfl) rfl rfl (Nat.le_of_ble_eq_true rfl) (Nat.le_of_ble_eq_true rfl) ⟨rfl, h⟩
      · have h := h.1 c_21
        refine AW.ra_n (dc hd_G_lose 19 rfl) rfl rfl rfl ?_
        refine AW.iconst (dc hd_G_lose 20 rfl) (by decide) ?_
        refine AW.callV (As := [(0, 4)]) (rest := []) (ci := 10) (m_G_finds l E n C_18 v0 4 _ h) cb_10_186 im_G_finds se_G_finds ⟨_, _, rfl⟩ (by decide) (dc hd_G_lose 21 rfl) g_17 rfl rfl ⟨Nat.le_of_ble_eq_true rfl, Nat.le_of_ble_eq_true rfl⟩ ⟨(Nat.le_of_ble_eq_true rfl), (Nat.le_of_ble_eq_true rfl)⟩ (Nat.le_of_ble_eq_true rfl) (fun _ h => by cases h) (fun _ => rfl) (fun r_57 C_58 d_60 q_59 => ?_)
        obtain ⟨q_59a, h⟩ := q_59
        subst d_60
        show AW p l e _ s m args below meth c E M_G_lose true _ n _ _ _ [(2, v0), (0, v1), (0, v2), (0, v3), (0, v4), (9, 0), (9, 0), (9, 0), (9, 0)] [(0, r_57)] C_58
        exact AW.iret (dc hd_G_lose 22 rfl) rfl rfl (Nat.le_of_ble_eq_true rfl) (Nat.le_of_ble_eq_true rfl) ⟨rfl, h⟩
    · have h := h.1 c_15
      refine AW.ra_n (dc hd_G_lose 8 rfl) rfl rfl rfl ?_
      refine AW.iconst (dc hd_G_lose 9 rfl) (by decide) ?_
      obtain ⟨g_62, h⟩ := h
      refine AW.callV (As := [(0, 0)]) (rest := []) (ci := 10) (m_G_finds l E n C v0 0 _ h) cb_10_186 im_G_finds se_G_finds ⟨_, _, rfl⟩ (by decide) (dc hd_G_lose 10 rfl) g_62 rfl rfl ⟨Nat.le_of_ble_eq_true rfl, Nat.le_of_ble_eq_true rfl⟩ ⟨(Nat.le_of_ble_eq_true rfl), (Nat.le_of_ble_eq_true rfl)⟩ (Nat.le_of_ble_eq_true rfl) (fun _ h => by cases h) (fun _ => rfl) (fun r_61 C_63 d_65 q_64 => ?_)
      obtain ⟨q_64a, h⟩ := q_64
      subst d_65
      show AW p l e _ s m args below meth c E M_G_lose true _ n _ _ _ [(2, v0), (0, v1), (0, v2), (0, v3), (0, v4), (9, 0), (9, 0), (9, 0), (9, 0)] [(0, r_61)] C_63
      exact AW.iret (dc hd_G_lose 11 rfl) rfl rfl (Nat.le_of_ble_eq_true rfl) (Nat.le_of_ble_eq_true rfl) ⟨rfl, h⟩
end
