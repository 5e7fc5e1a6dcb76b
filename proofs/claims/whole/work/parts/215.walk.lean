section
variable {p : Program} {l : Launch} {e : Env} {R : Room} {s : State} {m : MethodId} {args : Array Value} {below : List Frame} {meth : Method} {c : Code} {E : Ev}
def B_G_tellsAll_41 (n : Nat) (v0 v1 v2 v3 v4 : Int) (kz4 : Cn × Int × Int → Prop) (kz14 : Cn × Int × Int → Prop) (kz27 : Cn × Int → Prop) (Q : Int → Cn → Prop) (kz41 : Cn × Int → Prop) (z : Cn × Int) : Prop := match z with
  | (C, v5) => okO n v0 10 ∧ ((C v0.toNat 0 ≤ v5 → (kz27 (C, w32 (v4 + 1)))) ∧ (¬ C v0.toNat 0 ≤ v5 → (okO n (PT v0.toNat 30) 17 ∧ (okI (PT v0.toNat 30) v1 ∧ (P_G_has n C v4 v5 (fun (r_13 : Int) => (r_13 = 0 → (P_G_stepsOf n C v0 v2 v3 v4 v5 (fun (r_18 : Int) (C_19 : Cn) => okO n (PT (PT v0.toNat 30).toNat v1.toNat) 12 ∧ (okI (PT (PT v0.toNat 30).toNat v1.toNat) (w32 (w32 (6 * v4) + v5)) ∧ (∀ C_24 : Cn, C_24 = wr C_19 (PT (PT v0.toNat 30).toNat v1.toNat).toNat (w32 (w32 (6 * v4) + v5)).toNat r_18 → (kz41 (C_24, w32 (v5 + 1)))))))) ∧ (¬ r_13 = 0 → (okO n (PT (PT v0.toNat 30).toNat v1.toNat) 12 ∧ (okI (PT (PT v0.toNat 30).toNat v1.toNat) (w32 (w32 (6 * v4) + v5)) ∧ (∀ C_27 : Cn, C_27 = wr C (PT (PT v0.toNat 30).toNat v1.toNat).toNat (w32 (w32 (6 * v4) + v5)).toNat 0 → (kz41 (C_27, w32 (v5 + 1)))))))))))))
theorem bB_G_tellsAll_41 (n : Nat) (v0 v1 v2 v3 v4 : Int) (kz4 : Cn × Int × Int → Prop) (kz14 : Cn × Int × Int → Prop) (kz27 : Cn × Int → Prop) (Q : Int → Cn → Prop) (hkz4 : ∀ (Cz : Cn) (z1 : Int) (z2 : Int), kz4 (Cz, z1, z2) → AW p l e R s m args below meth c E M_G_tellsAll true (fun r C2 n2 => n2 = n ∧ Q r C2) n 0 0 4 [(2, v0), (0, z1), (0, z2), (9, 0), (9, 0), (9, 0)] [] Cz) (hkz14 : ∀ (Cz : Cn) (z1 : Int) (z3 : Int), kz14 (Cz, z1, z3) → AW p l e R s m args below meth c E M_G_tellsAll true (fun r C2 n2 => n2 = n ∧ Q r C2) n 0 0 14 [(2, v0), (0, z1), (0, v2), (0, z3), (9, 0), (9, 0)] [] Cz) (hkz27 : ∀ (Cz : Cn) (z4 : Int), kz27 (Cz, z4) → AW p l e R s m args below meth c E M_G_tellsAll true (fun r C2 n2 => n2 = n ∧ Q r C2) n 0 0 27 [(2, v0), (0, v1), (0, v2), (0, v3), (0, z4), (9, 0)] [] Cz) (kz41 : Cn × Int → Prop) (hkz41 : ∀ (Cz : Cn) (z5 : Int), kz41 (Cz, z5) → AW p l e R s m args below meth c E M_G_tellsAll true (fun r C2 n2 => n2 = n ∧ Q r C2) n 0 0 41 [(2, v0), (0, v1), (0, v2), (0, v3), (0, v4), (0, z5)] [] Cz) (C : Cn) (v5 : Int) (h : B_G_tellsAll_41 n v0 v1 v2 v3 v4 kz4 kz14 kz27 Q kz41 (C, v5)) : AW p l e R s m args below meth c E M_G_tellsAll true (fun r C2 n2 => n2 = n ∧ Q r C2) n 0 0 41 [(2, v0), (0, v1), (0, v2), (0, v3), (0, v4), (0, v5)] [] C := by
  unfold B_G_tellsAll_41 at h
  dsimp only at h
  refine AW.iload (dc hd_G_tellsAll 26 rfl) rfl ?_
  refine AW.ra_n (dc hd_G_tellsAll 27 rfl) rfl rfl rfl ?_
  obtain ⟨g_9, h⟩ := h
  refine AW.getf fl_10_117 (dc hd_G_tellsAll 28 rfl) g_9 ?_
  refine AW.icmp_ge (t := 95) (dc hd_G_tellsAll 29 rfl) (by decide) (fun c_10 => ?_) (fun c_10 => ?_)
  · have h := h.1 c_10
    refine AW.iinc [(2, v0), (0, v1), (0, v2), (0, v3), (0, w32 (v4 + 1)), (0, v5)] (dc hd_G_tellsAll 54 rfl) rfl (Nat.le_of_ble_eq_true rfl) rfl rfl ?_
    refine AW.goto (t := 27) (dc hd_G_tellsAll 55 rfl) (by decide) ?_
    refine AW.fgt [(2, v0), (0, v1), (0, v2), (0, v3), (0, w32 (v4 + 1)), (9, 0)] ⟨.inl rfl, .inl rfl, .inl rfl, .inl rfl, .inl rfl, .inr rfl, trivial⟩ ?_
    exact hkz27 C (w32 (v4 + 1)) h
  · have h := h.2 c_10
    refine AW.ra_n (dc hd_G_tellsAll 30 rfl) rfl rfl rfl ?_
    refine AW.getp fl_10_64 (dc hd_G_tellsAll 31 rfl) g_9 rfl ?_
    refine AW.iload_n (dc hd_G_tellsAll 32 rfl) rfl ?_
    obtain ⟨g_11, h⟩ := h
    obtain ⟨g_12, h⟩ := h
    refine AW.aaldp (by decide) (dc hd_G_tellsAll 33 rfl) g_11 g_12 rfl ?_
    refine AW.bipush (dc hd_G_tellsAll 34 rfl) (by decide) (by decide +kernel) ?_
    refine AW.iload (dc hd_G_tellsAll 35 rfl) rfl ?_
    refine AW.imul (dc hd_G_tellsAll 36 rfl) ?_
    refine AW.iload (dc hd_G_tellsAll 37 rfl) rfl ?_
    refine AW.iadd (dc hd_G_tellsAll 38 rfl) ?_
    refine AW.iload (dc hd_G_tellsAll 39 rfl) rfl ?_
    refine AW.iload (dc hd_G_tellsAll 40 rfl) rfl ?_
    refine AW.callS (As := [(0, v4), (0, v5)]) (rest := [(0, w32 (w32 (6 * v4) + v5)), (2, PT (PT v0.toNat 30).toNat v1.toNat)]) (m_G_has l E n C v4 v5 _ h) cb_10_293 sm_G_has (dc hd_G_tellsAll 41 rfl) rfl rfl ⟨Nat.le_of_ble_eq_true rfl, Nat.le_of_ble_eq_true rfl⟩ ⟨(Nat.le_of_ble_eq_true rfl), (Nat.le_of_ble_eq_true rfl)⟩ (Nat.le_of_ble_eq_true rfl) (fun _ h => by cases h) (fun _ => rfl) (fun r_13 D_15 d_16 q_14 => ?_)
    obtain ⟨q_14a, q_14b, h⟩ := q_14
    subst D_15
    subst d_16
    show AW p l e _ s m args below meth c E M_G_tellsAll true _ n _ _ _ [(2, v0), (0, v1), (0, v2), (0, v3), (0, v4), (0, v5)] [(0, r_13), (0, w32 (w32 (6 * v4) + v5)), (2, PT (PT v0.toNat 30).toNat v1.toNat)] C
    refine AW.if_eq (t := 78) (dc hd_G_tellsAll 42 rfl) (by decide) (fun c_17 => ?_) (fun c_17 => ?_)
    · have h := h.1 c_17
      refine AW.ra_n (dc hd_G_tellsAll 45 rfl) rfl rfl rfl ?_
      refine AW.iload_n (dc hd_G_tellsAll 46 rfl) rfl ?_
      refine AW.iload_n (dc hd_G_tellsAll 47 rfl) rfl ?_
      refine AW.iload (dc hd_G_tellsAll 48 rfl) rfl ?_
      refine AW.iload (dc hd_G_tellsAll 49 rfl) rfl ?_
      refine AW.callV (As := [(0, v2), (0, v3), (0, v4), (0, v5)]) (rest := [(0, w32 (w32 (6 * v4) + v5)), (2, PT (PT v0.toNat 30).toNat v1.toNat)]) (ci := 10) (m_G_stepsOf l E n C v0 v2 v3 v4 v5 _ h) cb_10_306 im_G_stepsOf se_G_stepsOf ⟨_, _, rfl⟩ (by decide) (dc hd_G_tellsAll 50 rfl) g_9 rfl rfl ⟨Nat.le_of_ble_eq_true rfl, Nat.le_of_ble_eq_true rfl⟩ ⟨(Nat.le_of_ble_eq_true rfl), (Nat.le_of_ble_eq_true rfl)⟩ (Nat.le_of_ble_eq_true rfl) (fun _ h => by cases h) (fun _ => rfl) (fun r_18 C_19 d_21 q_20 => ?_)
      obtain ⟨q_20a, h⟩ := q_20
      subst d_21
      show AW p l e _ s m args below meth c E M_G_tellsAll true _ n _ _ _ [(2, v0), (0, v1), (0, v2), (0, v3), (0, v4), (0, v5)] [(0, r_18), (0, w32 (w32 (6 * v4) + v5)), (2, PT (PT v0.toNat 30).toNat v1.toNat)] C_19
      obtain ⟨g_22, h⟩ := h
      obtain ⟨g_23, h⟩ := h
      refine AW.niast (dc hd_G_tellsAll 51 rfl) g_22 g_23 (fun C_24 eC_24 => ?_)
      have h := h C_24 eC_24
      refine AW.iinc [(2, v0), (0, v1), (0, v2), (0, v3), (0, v4), (0, w32 (v5 + 1))] (dc hd_G_tellsAll 52 rfl) rfl (Nat.le_of_ble_eq_true rfl) rfl rfl ?_
      refine AW.goto (t := 41) (dc hd_G_tellsAll 53 rfl) (by decide) ?_
      exact hkz41 C_24 (w32 (v5 + 1)) h
    · have h := h.2 c_17
      refine AW.iconst (dc hd_G_tellsAll 43 rfl) (by decide) ?_
      refine AW.goto (t := 88) (dc hd_G_tellsAll 44 rfl) (by decide) ?_
      obtain ⟨g_25, h⟩ := h
      obtain ⟨g_26, h⟩ := h
      refine AW.niast (dc hd_G_tellsAll 51 rfl) g_25 g_26 (fun C_27 eC_27 => ?_)
      have h := h C_27 eC_27
      refine AW.iinc [(2, v0), (0, v1), (0, v2), (0, v3), (0, v4), (0, w32 (v5 + 1))] (dc hd_G_tellsAll 52 rfl) rfl (Nat.le_of_ble_eq_true rfl) rfl rfl ?_
      refine AW.goto (t := 41) (dc hd_G_tellsAll 53 rfl) (by decide) ?_
      exact hkz41 C_27 (w32 (v5 + 1)) h
theorem aB_G_tellsAll_41 (n : Nat) (v0 v1 v2 v3 v4 : Int) (kz4 : Cn × Int × Int → Prop) (kz14 : Cn × Int × Int → Prop) (kz27 : Cn × Int → Prop) (Q : Int → Cn → Prop) (hkz4 : ∀ (Cz : Cn) (z1 : Int) (z2 : Int), kz4 (Cz, z1, z2) → AW p l e R s m args below meth c E M_G_tellsAll true (fun r C2 n2 => n2 = n ∧ Q r C2) n 0 0 4 [(2, v0), (0, z1), (0, z2), (9, 0), (9, 0), (9, 0)] [] Cz) (hkz14 : ∀ (Cz : Cn) (z1 : Int) (z3 : Int), kz14 (Cz, z1, z3) → AW p l e R s m args below meth c E M_G_tellsAll true (fun r C2 n2 => n2 = n ∧ Q r C2) n 0 0 14 [(2, v0), (0, z1), (0, v2), (0, z3), (9, 0), (9, 0)] [] Cz) (hkz27 : ∀ (Cz : Cn) (z4 : Int), kz27 (Cz, z4) → AW p l e R s m args below meth c E M_G_tellsAll true (fun r C2 n2 => n2 = n ∧ Q r C2) n 0 0 27 [(2, v0), (0, v1), (0, v2), (0, v3), (0, z4), (9, 0)] [] Cz) : ∀ (f : Nat) (z : Cn × Int), lp (B_G_tellsAll_41 n v0 v1 v2 v3 v4 kz4 kz14 kz27 Q) f z → AW p l e R s m args below meth c E M_G_tellsAll true (fun r C2 n2 => n2 = n ∧ Q r C2) n 0 0 41 [(2, v0), (0, v1), (0, v2), (0, v3), (0, v4), (0, z.2)] [] (z.1) := by
  intro f
  induction f with
  | zero => intro z h; exact False.elim h
  | succ f ih => intro z h; exact bB_G_tellsAll_41 n v0 v1 v2 v3 v4 kz4 kz14 kz27 Q hkz4 hkz14 hkz27 (lp (B_G_tellsAll_41 n v0 v1 v2 v3 v4 kz4 kz14 kz27 Q) f) (fun a0 a1 h => ih (a0, a1) h) z.1 z.2 h
def B_G_tellsAll_27 (n : Nat) (v0 v1 v2 v3 : Int) (kz4 : Cn × Int × Int → Prop) (kz14 : Cn × Int × Int → Prop) (Q : Int → Cn → Prop) (kz27 : Cn × Int → Prop) (z : Cn × Int) : Prop := match z with
  | (C, v4) => okO n v0 10 ∧ ((shl32 1 (C v0.toNat 0) ≤ v4 → (kz14 (C, w32 (v1 + 1), w32 (v3 + 1)))) ∧ (¬ shl32 1 (C v0.toNat 0) ≤ v4 → (∃ f_28 : Nat, lp (B_G_tellsAll_41 n v0 v1 v2 v3 v4 kz4 kz14 kz27 Q) f_28 (C, 0))))
theorem bB_G_tellsAll_27 (n : Nat) (v0 v1 v2 v3 : Int) (kz4 : Cn × Int × Int → Prop) (kz14 : Cn × Int × Int → Prop) (Q : Int → Cn → Prop) (hkz4 : ∀ (Cz : Cn) (z1 : Int) (z2 : Int), kz4 (Cz, z1, z2) → AW p l e R s m args below meth c E M_G_tellsAll true (fun r C2 n2 => n2 = n ∧ Q r C2) n 0 0 4 [(2, v0), (0, z1), (0, z2), (9, 0), (9, 0), (9, 0)] [] Cz) (hkz14 : ∀ (Cz : Cn) (z1 : Int) (z3 : Int), kz14 (Cz, z1, z3) → AW p l e R s m args below meth c E M_G_tellsAll true (fun r C2 n2 => n2 = n ∧ Q r C2) n 0 0 14 [(2, v0), (0, z1), (0, v2), (0, z3), (9, 0), (9, 0)] [] Cz) (kz27 : Cn × Int → Prop) (hkz27 : ∀ (Cz : Cn) (z4 : Int), kz27 (Cz, z4) → AW p l e R s m args below meth c E M_G_tellsAll true (fun r C2 n2 => n2 = n ∧ Q r C2) n 0 0 27 [(2, v0), (0, v1), (0, v2), (0, v3), (0, z4), (9, 0)] [] Cz) (C : Cn) (v4 : Int) (h : B_G_tellsAll_27 n v0 v1 v2 v3 kz4 kz14 Q kz27 (C, v4)) : AW p l e R s m args below meth c E M_G_tellsAll true (fun r C2 n2 => n2 = n ∧ Q r C2) n 0 0 27 [(2, v0), (0, v1), (0, v2), (0, v3), (0, v4), (9, 0)] [] C := by
  unfold B_G_tellsAll_27 at h
  dsimp only at h
  refine AW.iload (dc hd_G_tellsAll 18 rfl) rfl ?_
  refine AW.iconst (dc hd_G_tellsAll 19 rfl) (by decide) ?_
  refine AW.ra_n (dc hd_G_tellsAll 20 rfl) rfl rfl rfl ?_
  obtain ⟨g_7, h⟩ := h
  refine AW.getf fl_10_117 (dc hd_G_tellsAll 21 rfl) g_7 ?_
  refine AW.ishl (dc hd_G_tellsAll 22 rfl) ?_
  refine AW.icmp_ge (t := 101) (dc hd_G_tellsAll 23 rfl) (by decide) (fun c_8 => ?_) (fun c_8 => ?_)
  · have h := h.1 c_8
    refine AW.iinc [(2, v0), (0, w32 (v1 + 1)), (0, v2), (0, v3), (0, v4), (9, 0)] (dc hd_G_tellsAll 56 rfl) rfl (Nat.le_of_ble_eq_true rfl) rfl rfl ?_
    refine AW.iinc [(2, v0), (0, w32 (v1 + 1)), (0, v2), (0, w32 (v3 + 1)), (0, v4), (9, 0)] (dc hd_G_tellsAll 57 rfl) rfl (Nat.le_of_ble_eq_true rfl) rfl rfl ?_
    refine AW.goto (t := 14) (dc hd_G_tellsAll 58 rfl) (by decide) ?_
    refine AW.fgt [(2, v0), (0, w32 (v1 + 1)), (0, v2), (0, w32 (v3 + 1)), (9, 0), (9, 0)] ⟨.inl rfl, .inl rfl, .inl rfl, .inl rfl, .inr rfl, .inl rfl, trivial⟩ ?_
    exact hkz14 C (w32 (v1 + 1)) (w32 (v3 + 1)) h
  · have h := h.2 c_8
    refine AW.iconst (dc hd_G_tellsAll 24 rfl) (by decide) ?_
    refine AW.istore [(2, v0), (0, v1), (0, v2), (0, v3), (0, v4), (0, 0)] (dc hd_G_tellsAll 25 rfl) (Nat.le_of_ble_eq_true rfl) rfl rfl ?_
    obtain ⟨f_28, h⟩ := h
    exact aB_G_tellsAll_41 n v0 v1 v2 v3 v4 kz4 kz14 kz27 Q hkz4 hkz14 hkz27 f_28 (C, 0) h
theorem aB_G_tellsAll_27 (n : Nat) (v0 v1 v2 v3 : Int) (kz4 : Cn × Int × Int → Prop) (kz14 : Cn × Int × Int → Prop) (Q : Int → Cn → Prop) (hkz4 : ∀ (Cz : Cn) (z1 : Int) (z2 : Int), kz4 (Cz, z1, z2) → AW p l e R s m args below meth c E M_G_tellsAll true (fun r C2 n2 => n2 = n ∧ Q r C2) n 0 0 4 [(2, v0), (0, z1), (0, z2), (9, 0), (9, 0), (9, 0)] [] Cz) (hkz14 : ∀ (Cz : Cn) (z1 : Int) (z3 : Int), kz14 (Cz, z1, z3) → AW p l e R s m args below meth c E M_G_tellsAll true (fun r C2 n2 => n2 = n ∧ Q r C2) n 0 0 14 [(2, v0), (0, z1), (0, v2), (0, z3), (9, 0), (9, 0)] [] Cz) : ∀ (f : Nat) (z : Cn × Int), lp (B_G_tellsAll_27 n v0 v1 v2 v3 kz4 kz14 Q) f z → AW p l e R s m args below meth c E M_G_tellsAll true (fun r C2 n2 => n2 = n ∧ Q r C2) n 0 0 27 [(2, v0), (0, v1), (0, v2), (0, v3), (0, z.2), (9, 0)] [] (z.1) := by
  intro f
  induction f with
  | zero => intro z h; exact False.elim h
  | succ f ih => intro z h; exact bB_G_tellsAll_27 n v0 v1 v2 v3 kz4 kz14 Q hkz4 hkz14 (lp (B_G_tellsAll_27 n v0 v1 v2 v3 kz4 kz14 Q) f) (fun a0 a1 h => ih (a0, a1) h) z.1 z.2 h
def B_G_tellsAll_14 (n : Nat) (v0 v2 : Int) (kz4 : Cn × Int × Int → Prop) (Q : Int → Cn → Prop) (kz14 : Cn × Int × Int → Prop) (z : Cn × Int × Int) : Prop := match z with
  | (C, v1, v3) => okO n v0 10 ∧ (okO n (PT v0.toNat 15) 12 ∧ (okI (PT v0.toNat 15) v2 ∧ ((C (PT v0.toNat 15).toNat v2.toNat < v3 → (kz4 (C, v1, w32 (v2 + 1)))) ∧ (¬ C (PT v0.toNat 15).toNat v2.toNat < v3 → (∃ f_29 : Nat, lp (B_G_tellsAll_27 n v0 v1 v2 v3 kz4 kz14 Q) f_29 (C, 0))))))
theorem bB_G_tellsAll_14 (n : Nat) (v0 v2 : Int) (kz4 : Cn × Int × Int → Prop) (Q : Int → Cn → Prop) (hkz4 : ∀ (Cz : Cn) (z1 : Int) (z2 : Int), kz4 (Cz, z1, z2) → AW p l e R s m args below meth c E M_G_tellsAll true (fun r C2 n2 => n2 = n ∧ Q r C2) n 0 0 4 [(2, v0), (0, z1), (0, z2), (9, 0), (9, 0), (9, 0)] [] Cz) (kz14 : Cn × Int × Int → Prop) (hkz14 : ∀ (Cz : Cn) (z1 : Int) (z3 : Int), kz14 (Cz, z1, z3) → AW p l e R s m args below meth c E M_G_tellsAll true (fun r C2 n2 => n2 = n ∧ Q r C2) n 0 0 14 [(2, v0), (0, z1), (0, v2), (0, z3), (9, 0), (9, 0)] [] Cz) (C : Cn) (v1 : Int) (v3 : Int) (h : B_G_tellsAll_14 n v0 v2 kz4 Q kz14 (C, v1, v3)) : AW p l e R s m args below meth c E M_G_tellsAll true (fun r C2 n2 => n2 = n ∧ Q r C2) n 0 0 14 [(2, v0), (0, v1), (0, v2), (0, v3), (9, 0), (9, 0)] [] C := by
  unfold B_G_tellsAll_14 at h
  dsimp only at h
  refine AW.iload_n (dc hd_G_tellsAll 10 rfl) rfl ?_
  refine AW.ra_n (dc hd_G_tellsAll 11 rfl) rfl rfl rfl ?_
  obtain ⟨g_3, h⟩ := h
  refine AW.getp fl_10_40 (dc hd_G_tellsAll 12 rfl) g_3 rfl ?_
  refine AW.iload_n (dc hd_G_tellsAll 13 rfl) rfl ?_
  obtain ⟨g_4, h⟩ := h
  obtain ⟨g_5, h⟩ := h
  refine AW.iald (dc hd_G_tellsAll 14 rfl) g_4 g_5 ?_
  refine AW.icmp_gt (t := 110) (dc hd_G_tellsAll 15 rfl) (by decide) (fun c_6 => ?_) (fun c_6 => ?_)
  · have h := h.1 c_6
    refine AW.iinc [(2, v0), (0, v1), (0, w32 (v2 + 1)), (0, v3), (9, 0), (9, 0)] (dc hd_G_tellsAll 59 rfl) rfl (Nat.le_of_ble_eq_true rfl) rfl rfl ?_
    refine AW.goto (t := 4) (dc hd_G_tellsAll 60 rfl) (by decide) ?_
    refine AW.fgt [(2, v0), (0, v1), (0, w32 (v2 + 1)), (9, 0), (9, 0), (9, 0)] ⟨.inl rfl, .inl rfl, .inl rfl, .inr rfl, .inl rfl, .inl rfl, trivial⟩ ?_
    exact hkz4 C v1 (w32 (v2 + 1)) h
  · have h := h.2 c_6
    refine AW.iconst (dc hd_G_tellsAll 16 rfl) (by decide) ?_
    refine AW.istore [(2, v0), (0, v1), (0, v2), (0, v3), (0, 0), (9, 0)] (dc hd_G_tellsAll 17 rfl) (Nat.le_of_ble_eq_true rfl) rfl rfl ?_
    obtain ⟨f_29, h⟩ := h
    exact aB_G_tellsAll_27 n v0 v1 v2 v3 kz4 kz14 Q hkz4 hkz14 f_29 (C, 0) h
theorem aB_G_tellsAll_14 (n : Nat) (v0 v2 : Int) (kz4 : Cn × Int × Int → Prop) (Q : Int → Cn → Prop) (hkz4 : ∀ (Cz : Cn) (z1 : Int) (z2 : Int), kz4 (Cz, z1, z2) → AW p l e R s m args below meth c E M_G_tellsAll true (fun r C2 n2 => n2 = n ∧ Q r C2) n 0 0 4 [(2, v0), (0, z1), (0, z2), (9, 0), (9, 0), (9, 0)] [] Cz) : ∀ (f : Nat) (z : Cn × Int × Int), lp (B_G_tellsAll_14 n v0 v2 kz4 Q) f z → AW p l e R s m args below meth c E M_G_tellsAll true (fun r C2 n2 => n2 = n ∧ Q r C2) n 0 0 14 [(2, v0), (0, z.2.1), (0, v2), (0, z.2.2), (9, 0), (9, 0)] [] (z.1) := by
  intro f
  induction f with
  | zero => intro z h; exact False.elim h
  | succ f ih => intro z h; exact bB_G_tellsAll_14 n v0 v2 kz4 Q hkz4 (lp (B_G_tellsAll_14 n v0 v2 kz4 Q) f) (fun a0 a1 a2 h => ih (a0, a1, a2) h) z.1 z.2.1 z.2.2 h
def B_G_tellsAll_4 (n : Nat) (v0 : Int) (Q : Int → Cn → Prop) (kz4 : Cn × Int × Int → Prop) (z : Cn × Int × Int) : Prop := match z with
  | (C, v1, v2) => okO n v0 10 ∧ ((C v0.toNat 10 < v2 → (Q 0 C)) ∧ (¬ C v0.toNat 10 < v2 → (∃ f_30 : Nat, lp (B_G_tellsAll_14 n v0 v2 kz4 Q) f_30 (C, v1, 0))))
theorem bB_G_tellsAll_4 (n : Nat) (v0 : Int) (Q : Int → Cn → Prop) (kz4 : Cn × Int × Int → Prop) (hkz4 : ∀ (Cz : Cn) (z1 : Int) (z2 : Int), kz4 (Cz, z1, z2) → AW p l e R s m args below meth c E M_G_tellsAll true (fun r C2 n2 => n2 = n ∧ Q r C2) n 0 0 4 [(2, v0), (0, z1), (0, z2), (9, 0), (9, 0), (9, 0)] [] Cz) (C : Cn) (v1 : Int) (v2 : Int) (h : B_G_tellsAll_4 n v0 Q kz4 (C, v1, v2)) : AW p l e R s m args below meth c E M_G_tellsAll true (fun r C2 n2 => n2 = n ∧ Q r C2) n 0 0 4 [(2, v0), (0, v1), (0, v2), (9, 0), (9, 0), (9, 0)] [] C := by
  unfold B_G_tellsAll_4 at h
  dsimp only at h
  refine AW.iload_n (dc hd_G_tellsAll 4 rfl) rfl ?_
  refine AW.ra_n (dc hd_G_tellsAll 5 rfl) rfl rfl rfl ?_
  obtain ⟨g_1, h⟩ := h
  refine AW.getf fl_10_221 (dc hd_G_tellsAll 6 rfl) g_1 ?_
  refine AW.icmp_gt (t := 116) (dc hd_G_tellsAll 7 rfl) (by decide) (fun c_2 => ?_) (fun c_2 => ?_)
  · have h := h.1 c_2
    exact AW.vret (dc hd_G_tellsAll 61 rfl) rfl rfl (Nat.le_of_ble_eq_true rfl) (Nat.le_of_ble_eq_true rfl) ⟨rfl, h⟩
  · have h := h.2 c_2
    refine AW.iconst (dc hd_G_tellsAll 8 rfl) (by decide) ?_
    refine AW.istore_n [(2, v0), (0, v1), (0, v2), (0, 0), (9, 0), (9, 0)] (dc hd_G_tellsAll 9 rfl) (Nat.le_of_ble_eq_true rfl) rfl rfl ?_
    obtain ⟨f_30, h⟩ := h
    exact aB_G_tellsAll_14 n v0 v2 kz4 Q hkz4 f_30 (C, v1, 0) h
theorem aB_G_tellsAll_4 (n : Nat) (v0 : Int) (Q : Int → Cn → Prop) : ∀ (f : Nat) (z : Cn × Int × Int), lp (B_G_tellsAll_4 n v0 Q) f z → AW p l e R s m args below meth c E M_G_tellsAll true (fun r C2 n2 => n2 = n ∧ Q r C2) n 0 0 4 [(2, v0), (0, z.2.1), (0, z.2.2), (9, 0), (9, 0), (9, 0)] [] (z.1) := by
  intro f
  induction f with
  | zero => intro z h; exact False.elim h
  | succ f ih => intro z h; exact bB_G_tellsAll_4 n v0 Q (lp (B_G_tellsAll_4 n v0 Q) f) (fun a0 a1 a2 h => ih (a0, a1, a2) h) z.1 z.2.1 z.2.2 h
def P_G_tellsAll (n : Nat) (C : Cn) (v0 : Int) (Q : Int → Cn → Prop) : Prop :=
  ∃ f_31 : Nat, lp (B_G_tellsAll_4 n v0 Q) f_31 (C, 0, 0)
theorem m_G_tellsAll (l : Launch) (E : Ev) (n : Nat) (C : Cn) (v0 : Int) (Q : Int → Cn → Prop) (h : P_G_tellsAll n C v0 Q) : MA l y_G_tellsAll M_G_tellsAll E true C n [(2, v0)] (fun r C2 n2 => n2 = n ∧ Q r C2) := by
  refine MA.of (by decide) rfl rfl 5 rfl (fun p e s m args below meth c => ?_)
  show AW p l e _ s m args below meth c E M_G_tellsAll true _ n 0 0 0 [(2, v0), (9, 0), (9, 0), (9, 0), (9, 0), (9, 0)] [] C
  unfold P_G_tellsAll at h
  refine AW.iconst (dc hd_G_tellsAll 0 rfl) (by decide) ?_
  refine AW.istore_n [(2, v0), (0, 0), (9, 0), (9, 0), (9, 0), (9, 0)] (dc hd_G_tellsAll 1 rfl) (Nat.le_of_ble_eq_true rfl) rfl rfl ?_
  refine AW.iconst (dc hd_G_tellsAll 2 rfl) (by decide) ?_
  refine AW.istore_n [(2, v0), (0, 0), (0, 0), (9, 0), (9, 0), (9, 0)] (dc hd_G_tellsAll 3 rfl) (Nat.le_of_ble_eq_true rfl) rfl rfl ?_
  obtain ⟨f_31, h⟩ := h
  exact aB_G_tellsAll_4 n v0 Q f_31 (C, 0, 0) h
def J_G_searchesTold_82 (n : Nat) (C : Cn) (v0 v1 v2 v3 : Int) (kz17 : Cn × Int → Prop) (Q : Int → Cn → Prop) : Prop :=
  okO n v0 10 ∧ (∀ C_12 : Cn, C_12 = wr C v0.toNat 28 (imax (C v0.toNat 28) v3) → (∀ C_13 : Cn, C_13 = wr C_12 v0.toNat 29 (w32 (C_12 v0.toNat 29 + v3)) → (kz17 (C_13, w32 (v2 + 1)))))
theorem aJ_G_searchesTold_82 (n : Nat) (C : Cn) (v0 v1 v2 v3 : Int) (kz17 : Cn × Int → Prop) (Q : Int → Cn → Prop) (hkz17 : ∀ (Cz : Cn) (z2 : Int), kz17 (Cz, z2) → AW p l e R s m args below meth c E M_G_searchesTold true (fun r C2 n2 => n2 = n ∧ Q r C2) n 0 0 17 [(2, v0), (0, v1), (0, z2), (9, 0), (9, 0), (9, 0)] [] Cz) (h : J_G_searchesTold_82 n C v0 v1 v2 v3 kz17 Q) : AW p l e R s m args below meth c E M_G_searchesTold true (fun r C2 n2 => n2 = n ∧ Q r C2) n 0 0 82 [(2, v0), (0, v1), (0, v2), (0, v3), (9, 0), (9, 0)] [] C := by
  unfold J_G_searchesTold_82 at h
  refine AW.ra_n (dc hd_G_searchesTold 51 rfl) rfl rfl rfl ?_
  refine AW.ra_n (dc hd_G_searchesTold 52 rfl) rfl rfl rfl ?_
  obtain ⟨g_11, h⟩ := h
  refine AW.getf fl_10_316 (dc hd_G_searchesTold 53 rfl) g_11 ?_
  refine AW.iload_n (dc hd_G_searchesTold 54 rfl) rfl ?_
  refine AW.mmax (dc hd_G_searchesTold 55 rfl) mt_10_161 (Nat.le_of_ble_eq_true rfl) (Nat.le_of_ble_eq_true rfl) (Nat.le_of_ble_eq_true rfl) (Nat.le_of_ble_eq_true rfl) (Nat.le_of_ble_eq_true rfl) ?_
  refine AW.nputI fl_10_316 (dc hd_G_searchesTold 56 rfl) g_11 (fun C_12 eC_12 => ?_)
  have h := h C_12 eC_12
  refine AW.ra_n (dc hd_G_searchesTold 57 rfl) rfl rfl rfl ?_
  refine AW.rdup (dc hd_G_searchesTold 58 rfl) rfl ?_
  refine AW.getf fl_10_319 (dc hd_G_searchesTold 59 rfl) g_11 ?_
  refine AW.iload_n (dc hd_G_searchesTold 60 rfl) rfl ?_
  refine AW.iadd (dc hd_G_searchesTold 61 rfl) ?_
  refine AW.nputI fl_10_319 (dc hd_G_searchesTold 62 rfl) g_11 (fun C_13 eC_13 => ?_)
  have h := h C_13 eC_13
  refine AW.iinc [(2, v0), (0, v1), (0, w32 (v2 + 1)), (0, v3), (9, 0), (9, 0)] (dc hd_G_searchesTold 63 rfl) rfl (Nat.le_of_ble_eq_true rfl) rfl rfl ?_
  refine AW.goto (t := 17) (dc hd_G_searchesTold 64 rfl) (by decide) ?_
  refine AW.fgt [(2, v0), (0, v1), (0, w32 (v2 + 1)), (9, 0), (9, 0), (9, 0)] ⟨.inl rfl, .inl rfl, .inl rfl, .inr rfl, .inl rfl, .inl rfl, trivial⟩ ?_
  exact hkz17 C_13 (w32 (v2 + 1)) h
def B_G_searchesTold_30 (n : Nat) (C : Cn) (v0 v1 v2 : Int) (kz17 : Cn × Int → Prop) (Q : Int → Cn → Prop) (kz30 : Int × Int × Int → Prop) (z : Int × Int × Int) : Prop := match z with
  | (v3, v4, v5) => okO n v0 10 ∧ ((C v0.toNat 0 ≤ v5 → (J_G_searchesTold_82 n C v0 v1 v2 v3 kz17 Q)) ∧ (¬ C v0.toNat 0 ≤ v5 → (okO n (PT v0.toNat 30) 17 ∧ (okI (PT v0.toNat 30) v2 ∧ (okO n (PT v0.toNat 27) 12 ∧ (okI (PT v0.toNat 27) v5 ∧ (okO n (PT (PT v0.toNat 30).toNat v2.toNat) 12 ∧ (okI (PT (PT v0.toNat 30).toNat v2.toNat) (w32 (w32 (6 * v4) + C (PT v0.toNat 27).toNat v5.toNat)) ∧ (∀ v3_20 : Int, v3_20 = w32 (v3 + C (PT (PT v0.toNat 30).toNat v2.toNat).toNat (w32 (w32 (6 * v4) + C (PT v0.toNat 27).toNat v5.toNat)).toNat) → (∀ v4_21 : Int, v4_21 = or32 v4 (shl32 1 (C (PT v0.toNat 27).toNat v5.toNat)) → (kz30 (v3_20, v4_21, w32 (v5 + 1)))))))))))))
theorem bB_G_searchesTold_30 (n : Nat) (C : Cn) (v0 v1 v2 : Int) (kz17 : Cn × Int → Prop) (Q : Int → Cn → Prop) (hkz17 : ∀ (Cz : Cn) (z2 : Int), kz17 (Cz, z2) → AW p l e R s m args below meth c E M_G_searchesTold true (fun r C2 n2 => n2 = n ∧ Q r C2) n 0 0 17 [(2, v0), (0, v1), (0, z2), (9, 0), (9, 0), (9, 0)] [] Cz) (kz30 : Int × Int × Int → Prop) (hkz30 : ∀ (z3 : Int) (z4 : Int) (z5 : Int), kz30 (z3, z4, z5) → AW p l e R s m args below meth c E M_G_searchesTold true (fun r C2 n2 => n2 = n ∧ Q r C2) n 0 0 30 [(2, v0), (0, v1), (0, v2), (0, z3), (0, z4), (0, z5)] [] C) (v3 : Int) (v4 : Int) (v5 : Int) (h : B_G_searchesTold_30 n C v0 v1 v2 kz17 Q kz30 (v3, v4, v5)) : AW p l e R s m args below meth c E M_G_searchesTold true (fun r C2 n2 => n2 = n ∧ Q r C2) n 0 0 30 [(2, v0), (0, v1), (0, v2), (0, v3), (0, v4), (0, v5)] [] C := by
  unfold B_G_searchesTold_30 at h
  dsimp only at h
  refine AW.iload (dc hd_G_searchesTold 20 rfl) rfl ?_
  refine AW.ra_n (dc hd_G_searchesTold 21 rfl) rfl rfl rfl ?_
  obtain ⟨g_9, h⟩ := h
  refine AW.getf fl_10_117 (dc hd_G_searchesTold 22 rfl) g_9 ?_
  refine AW.icmp_ge (t := 82) (dc hd_G_searchesTold 23 rfl) (by decide) (fun c_10 => ?_) (fun c_10 => ?_)
  · have h := h.1 c_10
    refine AW.fgt [(2, v0), (0, v1), (0, v2), (0, v3), (9, 0), (9, 0)] ⟨.inl rfl, .inl rfl, .inl rfl, .inl rfl, .inr rfl, .inr rfl, trivial⟩ ?_
    exact aJ_G_searchesTold_82 n C v0 v1 v2 v3 kz17 Q hkz17 h
  · have h := h.2 c_10
    refine AW.iload_n (dc hd_G_searchesTold 24 rfl) rfl ?_
    refine AW.ra_n (dc hd_G_searchesTold 25 rfl) rfl rfl rfl ?_
    refine AW.getp fl_10_64 (dc hd_G_searchesTold 26 rfl) g_9 rfl ?_
    refine AW.iload_n (dc hd_G_searchesTold 27 rfl) rfl ?_
    obtain ⟨g_14, h⟩ := h
    obtain ⟨g_15, h⟩ := h
    refine AW.aaldp (by decide) (dc hd_G_searchesTold 28 rfl) g_14 g_15 rfl ?_
    refine AW.bipush (dc hd_G_searchesTold 29 rfl) (by decide) (by decide +kernel) ?_
    refine AW.iload (dc hd_G_searchesTold 30 rfl) rfl ?_
    refine AW.imul (dc hd_G_searchesTold 31 rfl) ?_
    refine AW.ra_n (dc hd_G_searchesTold 32 rfl) rfl rfl rfl ?_
    refine AW.getp fl_10_61 (dc hd_G_searchesTold 33 rfl) g_9 rfl ?_
    refine AW.iload (dc hd_G_searchesTold 34 rfl) rfl ?_
    obtain ⟨g_16, h⟩ := h
    obtain ⟨g_17, h⟩ := h
    refine AW.iald (dc hd_G_searchesTold 35 rfl) g_16 g_17 ?_
    refine AW.iadd (dc hd_G_searchesTold 36 rfl) ?_
    obtain ⟨g_18, h⟩ := h
    obtain ⟨g_19, h⟩ := h
    refine AW.iald (dc hd_G_searchesTold 37 rfl) g_18 g_19 ?_
    refine AW.iadd (dc hd_G_searchesTold 38 rfl) ?_
    refine AW.nm (fun v3_20 ev3_20 => ?_)
    have h := h v3_20 ev3_20
    refine AW.istore_n [(2, v0), (0, v1), (0, v2), (0, v3_20), (0, v4), (0, v5)] (dc hd_G_searchesTold 39 rfl) (Nat.le_of_ble_eq_true rfl) rfl rfl ?_
    refine AW.iload (dc hd_G_searchesTold 40 rfl) rfl ?_
    refine AW.iconst (dc hd_G_searchesTold 41 rfl) (by decide) ?_
    refine AW.ra_n (dc hd_G_searchesTold 42 rfl) rfl rfl rfl ?_
    refine AW.getp fl_10_61 (dc hd_G_searchesTold 43 rfl) g_9 rfl ?_
    refine AW.iload (dc hd_G_searchesTold 44 rfl) rfl ?_
    refine AW.iald (dc hd_G_searchesTold 45 rfl) g_16 g_17 ?_
    refine AW.ishl (dc hd_G_searchesTold 46 rfl) ?_
    refine AW.ior (dc hd_G_searchesTold 47 rfl) ?_
    refine AW.nm (fun v4_21 ev4_21 => ?_)
    have h := h v4_21 ev4_21
    refine AW.istore [(2, v0), (0, v1), (0, v2), (0, v3_20), (0, v4_21), (0, v5)] (dc hd_G_searchesTold 48 rfl) (Nat.le_of_ble_eq_true rfl) rfl rfl ?_
    refine AW.iinc [(2, v0), (0, v1), (0, v2), (0, v3_20), (0, v4_21), (0, w32 (v5 + 1))] (dc hd_G_searchesTold 49 rfl) rfl (Nat.le_of_ble_eq_true rfl) rfl rfl ?_
    refine AW.goto (t := 30) (dc hd_G_searchesTold 50 rfl) (by decide) ?_
    exact hkz30 v3_20 v4_21 (w32 (v5 + 1)) h
theorem aB_G_searchesTold_30 (n : Nat) (C : Cn) (v0 v1 v2 : Int) (kz17 : Cn × Int → Prop) (Q : Int → Cn → Prop) (hkz17 : ∀ (Cz : Cn) (z2 : Int), kz17 (Cz, z2) → AW p l e R s m args below meth c E M_G_searchesTold true (fun r C2 n2 => n2 = n ∧ Q r C2) n 0 0 17 [(2, v0), (0, v1), (0, z2), (9, 0), (9, 0), (9, 0)] [] Cz) : ∀ (f : Nat) (z : Int × Int × Int), lp (B_G_searchesTold_30 n C v0 v1 v2 kz17 Q) f z → AW p l e R s m args below meth c E M_G_searchesTold true (fun r C2 n2 => n2 = n ∧ Q r C2) n 0 0 30 [(2, v0), (0, v1), (0, v2), (0, z.1), (0, z.2.1), (0, z.2.2)] [] C := by
  intro f
  induction f with
  | zero => intro z h; exact False.elim h
  | succ f ih => intro z h; exact bB_G_searchesTold_30 n C v0 v1 v2 kz17 Q hkz17 (lp (B_G_searchesTold_30 n C v0 v1 v2 kz17 Q) f) (fun a0 a1 a2 h => ih (a0, a1, a2) h) z.1 z.2.1 z.2.2 h
def B_G_searchesTold_17 (n : Nat) (v0 v1 : Int) (Q : Int → Cn → Prop) (kz17 : Cn × Int → Prop) (z : Cn × Int) : Prop := match z with
  | (C, v2) => (v1 ≤ v2 → (Q 0 C)) ∧ (¬ v1 ≤ v2 → (∃ f_22 : Nat, lp (B_G_searchesTold_30 n C v0 v1 v2 kz17 Q) f_22 (0, 0, 0)))
theorem bB_G_searchesTold_17 (n : Nat) (v0 v1 : Int) (Q : Int → Cn → Prop) (kz17 : Cn × Int → Prop) (hkz17 : ∀ (Cz : Cn) (z2 : Int), kz17 (Cz, z2) → AW p l e R s m args below meth c E M_G_searchesTold true (fun r C2 n2 => n2 = n ∧ Q r C2) n 0 0 17 [(2, v0), (0, v1), (0, z2), (9, 0), (9, 0), (9, 0)] [] Cz) (C : Cn) (v2 : Int) (h : B_G_searchesTold_17 n v0 v1 Q kz17 (C, v2)) : AW p l e R s m args below meth c E M_G_searchesTold true (fun r C2 n2 => n2 = n ∧ Q r C2) n 0 0 17 [(2, v0), (0, v1), (0, v2), (9, 0), (9, 0), (9, 0)] [] C := by
  unfold B_G_searchesTold_17 at h
  dsimp only at h
  refine AW.iload_n (dc hd_G_searchesTold 11 rfl) rfl ?_
  refine AW.iload_n (dc hd_G_searchesTold 12 rfl) rfl ?_
  refine AW.icmp_ge (t := 110) (dc hd_G_searchesTold 13 rfl) (by decide) (fun c_8 => ?_) (fun c_8 => ?_)
  · have h := h.1 c_8
    exact AW.vret (dc hd_G_searchesTold 65 rfl) rfl rfl (Nat.le_of_ble_eq_true rfl) (Nat.le_of_ble_eq_true rfl) ⟨rfl, h⟩
  · have h := h.2 c_8
    refine AW.iconst (dc hd_G_searchesTold 14 rfl) (by decide) ?_
    refine AW.istore_n [(2, v0), (0, v1), (0, v2), (0, 0), (9, 0), (9, 0)] (dc hd_G_searchesTold 15 rfl) (Nat.le_of_ble_eq_true rfl) rfl rfl ?_
    refine AW.iconst (dc hd_G_searchesTold 16 rfl) (by decide) ?_
    refine AW.istore [(2, v0), (0, v1), (0, v2), (0, 0), (0, 0), (9, 0)] (dc hd_G_searchesTold 17 rfl) (Nat.le_of_ble_eq_true rfl) rfl rfl ?_
    refine AW.iconst (dc hd_G_searchesTold 18 rfl) (by decide) ?_
    refine AW.istore [(2, v0), (0, v1), (0, v2), (0, 0), (0, 0), (0, 0)] (dc hd_G_searchesTold 19 rfl) (Nat.le_of_ble_eq_true rfl) rfl rfl ?_
    obtain ⟨f_22, h⟩ := h
    exact aB_G_searchesTold_30 n C v0 v1 v2 kz17 Q hkz17 f_22 (0, 0, 0) h
theorem aB_G_searchesTold_17 (n : Nat) (v0 v1 : Int) (Q : Int → Cn → Prop) : ∀ (f : Nat) (z : Cn × Int), lp (B_G_searchesTold_17 n v0 v1 Q) f z → AW p l e R s m args below meth c E M_G_searchesTold true (fun r C2 n2 => n2 = n ∧ Q r C2) n 0 0 17 [(2, v0), (0, v1), (0, z.2), (9, 0), (9, 0), (9, 0)] [] (z.1) := by
  intro f
  induction f with
  | zero => intro z h; exact False.elim h
  | succ f ih => intro z h; exact bB_G_searchesTold_17 n v0 v1 Q (lp (B_G_searchesTold_17 n v0 v1 Q) f) (fun a0 a1 h => ih (a0, a1) h) z.1 z.2 h
def P_G_searchesTold (n : Nat) (C : Cn) (v0 : Int) (Q : Int → Cn → Prop) : Prop :=
  okO n v0 10 ∧ (∀ C_2 : Cn, C_2 = wr C v0.toNat 28 0 → (∀ C_3 : Cn, C_3 = wr C_2 v0.toNat 29 0 → (P_G_cellMany n C_3 v0 (fun (r_4 : Int) => ∃ f_23 : Nat, lp (B_G_searchesTold_17 n v0 r_4 Q) f_23 (C_3, 0)))))
theorem m_G_searchesTold (l : Launch) (E : Ev) (n : Nat) (C : Cn) (v0 : Int) (Q : Int → Cn → Prop) (h : P_G_searchesTold n C v0 Q) : MA l y_G_searchesTold M_G_searchesTold E true C n [(2, v0)] (fun r C2 n2 => n2 = n ∧ Q r C2) := by
  refine MA.of (by decide) rfl rfl 5 rfl (fun p e s m args below meth c => ?_)
  show AW p l e _ s m args below meth c E M_G_searchesTold true _ n 0 0 0 [(2, v0), (9, 0), (9, 0), (9, 0), (9, 0), (9, 0)] [] C
  unfold P_G_searchesTold at h
  refine AW.ra_n (dc hd_G_searchesTold 0 rfl) rfl rfl rfl ?_
  refine AW.iconst (dc hd_G_searchesTold 1 rfl) (by decide) ?_
  obtain ⟨g_1, h⟩ := h
  refine AW.nputI fl_10_316 (dc hd_G_searchesTold 2 rfl) g_1 (fun C_2 eC_2 => ?_)
  have h := h C_2 eC_2
  refine AW.ra_n (dc hd_G_searchesTold 3 rfl) rfl rfl rfl ?_
  refine AW.iconst (dc hd_G_searchesTold 4 rfl) (by decide) ?_
  refine AW.nputI fl_10_319 (dc hd_G_searchesTold 5 rfl) g_1 (fun C_3 eC_3 => ?_)
  have h := h C_3 eC_3
  refine AW.ra_n (dc hd_G_searchesTold 6 rfl) rfl rfl rfl ?_
  refine AW.callV (As := []) (rest := []) (ci := 10) (m_G_cellMany l E n C_3 v0 _ h) cb_10_257 im_G_cellMany se_G_cellMany ⟨_, _, rfl⟩ (by decide) (dc hd_G_searchesTold 7 rfl) g_1 rfl rfl ⟨Nat.le_of_ble_eq_true rfl, Nat.le_of_ble_eq_true rfl⟩ ⟨(Nat.le_of_ble_eq_true rfl), (Nat.le_of_ble_eq_true rfl)⟩ (Nat.le_of_ble_eq_true rfl) (fun _ h => by cases h) (fun _ => rfl) (fun r_4 D_6 d_7 q_5 => ?_)
  obtain ⟨q_5a, q_5b, h⟩ := q_5
  subst D_6
  subst d_7
  show AW p l e _ s m args below meth c E M_G_searchesTold true _ n _ _ _ [(2, v0), (9, 0), (9, 0), (9, 0), (9, 0), (9, 0)] [(0, r_4)] C_3
  refine AW.istore_n [(2, v0), (0, r_4), (9, 0), (9, 0), (9, 0), (9, 0)] (dc hd_G_searchesTold 8 rfl) (Nat.le_of_ble_eq_true rfl) rfl rfl ?_
  refine AW.iconst (dc hd_G_searchesTold 9 rfl) (by decide) ?_
  refine AW.istore_n [(2, v0), (0, r_4), (0, 0), (9, 0), (9, 0), (9, 0)] (dc hd_G_searchesTold 10 rfl) (Nat.le_of_ble_eq_true rfl) rfl rfl ?_
  obtain ⟨f_23, h⟩ := h
  exact aB_G_searchesTold_17 n v0 r_4 Q f_23 (C_3, 0) h
def J_G_best_67 (n : Nat) (C : Cn) (v0 v4 : Int) (kz17 : Cn × Int × Int × Int × Int → Prop) (Q : Int → Cn → Prop) : Prop :=
  okO n v0 10 ∧ (kz17 (C, v4, C v0.toNat 28, C v0.toNat 29, w32 (v4 + 1)))
theorem aJ_G_best_67 (n : Nat) (C : Cn) (v0 v4 : Int) (kz17 : Cn × Int × Int × Int × Int → Prop) (Q : Int → Cn → Prop) (hkz17 : ∀ (Cz : Cn) (z1 : Int) (z2 : Int) (z3 : Int) (z4 : Int), kz17 (Cz, z1, z2, z3, z4) → AW p l e R s m args below meth c E M_G_best true (fun r C2 n2 => n2 = n ∧ Q r C2) n 0 0 17 [(2, v0), (0, z1), (0, z2), (0, z3), (0, z4)] [] Cz) (h : J_G_best_67 n C v0 v4 kz17 Q) : AW p l e R s m args below meth c E M_G_best true (fun r C2 n2 => n2 = n ∧ Q r C2) n 0 0 67 [(2, v0), (9, 0), (9, 0), (9, 0), (0, v4)] [] C := by
  unfold J_G_best_67 at h
  refine AW.iload (dc hd_G_best 36 rfl) rfl ?_
  refine AW.istore_n [(2, v0), (0, v4), (9, 0), (9, 0), (0, v4)] (dc hd_G_best 37 rfl) (Nat.le_of_ble_eq_true rfl) rfl rfl ?_
  refine AW.ra_n (dc hd_G_best 38 rfl) rfl rfl rfl ?_
  obtain ⟨g_25, h⟩ := h
  refine AW.getf fl_10_316 (dc hd_G_best 39 rfl) g_25 ?_
  refine AW.istore_n [(2, v0), (0, v4), (0, C v0.toNat 28), (9, 0), (0, v4)] (dc hd_G_best 40 rfl) (Nat.le_of_ble_eq_true rfl) rfl rfl ?_
  refine AW.ra_n (dc hd_G_best 41 rfl) rfl rfl rfl ?_
  refine AW.getf fl_10_319 (dc hd_G_best 42 rfl) g_25 ?_
  refine AW.istore_n [(2, v0), (0, v4), (0, C v0.toNat 28), (0, C v0.toNat 29), (0, v4)] (dc hd_G_best 43 rfl) (Nat.le_of_ble_eq_true rfl) rfl rfl ?_
  refine AW.iinc [(2, v0), (0, v4), (0, C v0.toNat 28), (0, C v0.toNat 29), (0, w32 (v4 + 1))] (dc hd_G_best 44 rfl) rfl (Nat.le_of_ble_eq_true rfl) rfl rfl ?_
  refine AW.goto (t := 17) (dc hd_G_best 45 rfl) (by decide) ?_
  exact hkz17 C v4 (C v0.toNat 28) (C v0.toNat 29) (w32 (v4 + 1)) h
def B_G_best_17 (n : Nat) (v0 : Int) (Q : Int → Cn → Prop) (kz17 : Cn × Int × Int × Int × Int → Prop) (z : Cn × Int × Int × Int × Int) : Prop := match z with
  | (C, v1, v2, v3, v4) => okO n v0 10 ∧ (P_G_orders n C v0 (fun (r_10 : Int) => (r_10 ≤ v4 → (Q v1 C)) ∧ (¬ r_10 ≤ v4 → (P_G_laysOrder n C v0 v4 (fun (_ : Int) (C_16 : Cn) => P_G_searchesTold n C_16 v0 (fun (_ : Int) (C_20 : Cn) => (v1 < 0 → (J_G_best_67 n C_20 v0 v4 kz17 Q)) ∧ (¬ v1 < 0 → ((v2 < C_20 v0.toNat 28 → (kz17 (C_20, v1, v2, v3, w32 (v4 + 1)))) ∧ (¬ v2 < C_20 v0.toNat 28 → ((C_20 v0.toNat 28 = v2 → ((C_20 v0.toNat 29 < v3 → (J_G_best_67 n C_20 v0 v4 kz17 Q)) ∧ (¬ C_20 v0.toNat 29 < v3 → (kz17 (C_20, v1, v2, v3, w32 (v4 + 1)))))) ∧ (¬ C_20 v0.toNat 28 = v2 → (J_G_best_67 n C_20 v0 v4 kz17 Q))))))))))))
theorem bB_G_best_17 (n : Nat) (v0 : Int) (Q : Int → Cn → Prop) (kz17 : Cn × Int × Int × Int × Int → Prop) (hkz17 : ∀ (Cz : Cn) (z1 : Int) (z2 : Int) (z3 : Int) (z4 : Int), kz17 (Cz, z1, z2, z3, z4) → AW p l e R s m args below meth c E M_G_best true (fun r C2 n2 => n2 = n ∧ Q r C2) n 0 0 17 [(2, v0), (0, z1), (0, z2), (0, z3), (0, z4)] [] Cz) (C : Cn) (v1 : Int) (v2 : Int) (v3 : Int) (v4 : Int) (h : B_G_best_17 n v0 Q kz17 (C, v1, v2, v3, v4)) : AW p l e R s m args below meth c E M_G_best true (fun r C2 n2 => n2 = n ∧ Q r C2) n 0 0 17 [(2, v0), (0, v1), (0, v2), (0, v3), (0, v4)] [] C := by
  unfold B_G_best_17 at h
  dsimp only at h
  refine AW.iload (dc hd_G_best 12 rfl) rfl ?_
  refine AW.ra_n (dc hd_G_best 13 rfl) rfl rfl rfl ?_
  obtain ⟨g_11, h⟩ := h
  refine AW.callV (As := []) (rest := [(0, v4)]) (ci := 10) (m_G_orders l E n C v0 _ h) cb_10_325 im_G_orders se_G_orders ⟨_, _, rfl⟩ (by decide) (dc hd_G_best 14 rfl) g_11 rfl rfl ⟨Nat.le_of_ble_eq_true rfl, Nat.le_of_ble_eq_true rfl⟩ ⟨(Nat.le_of_ble_eq_true rfl), (Nat.le_of_ble_eq_true rfl)⟩ (Nat.le_of_ble_eq_true rfl) (fun _ h => by cases h) (fun _ => rfl) (fun r_10 D_13 d_14 q_12 => ?_)
  obtain ⟨q_12a, q_12b, h⟩ := q_12
  subst D_13
  subst d_14
  show AW p l e _ s m args below meth c E M_G_best true _ n _ _ _ [(2, v0), (0, v1), (0, v2), (0, v3), (0, v4)] [(0, r_10), (0, v4)] C
  refine AW.icmp_ge (t := 86) (dc hd_G_best 15 rfl) (by decide) (fun c_15 => ?_) (fun c_15 => ?_)
  · have h := h.1 c_15
    refine AW.iload_n (dc hd_G_best 46 rfl) rfl ?_
    exact AW.iret (dc hd_G_best 47 rfl) rfl rfl (Nat.le_of_ble_eq_true rfl) (Nat.le_of_ble_eq_true rfl) ⟨rfl, h⟩
  · have h := h.2 c_15
    refine AW.ra_n (dc hd_G_best 16 rfl) rfl rfl rfl ?_
    refine AW.iload (dc hd_G_best 17 rfl) rfl ?_
    refine AW.callV (As := [(0, v4)]) (rest := []) (ci := 10) (m_G_laysOrder l E n C v0 v4 _ h) cb_10_330 im_G_laysOrder se_G_laysOrder ⟨_, _, rfl⟩ (by decide) (dc hd_G_best 18 rfl) g_11 rfl rfl ⟨Nat.le_of_ble_eq_true rfl, Nat.le_of_ble_eq_true rfl⟩ ⟨(Nat.le_of_ble_eq_true rfl), (Nat.le_of_ble_eq_true rfl)⟩ (Nat.le_of_ble_eq_true rfl) (fun _ h => by cases h) (fun _ => rfl) (fun u_18 C_16 d_19 q_17 => ?_)
    obtain ⟨q_17a, h⟩ := q_17
    subst d_19
    show AW p l e _ s m args below meth c E M_G_best true _ n _ _ _ [(2, v0), (0, v1), (0, v2), (0, v3), (0, v4)] [] C_16
    refine AW.ra_n (dc hd_G_best 19 rfl) rfl rfl rfl ?_
    refine AW.callV (As := []) (rest := []) (ci := 10) (m_G_searchesTold l E n C_16 v0 _ h) cb_10_336 im_G_searchesTold se_G_searchesTold ⟨_, _, rfl⟩ (by decide) (dc hd_G_best 20 rfl) g_11 rfl rfl ⟨Nat.le_of_ble_eq_true rfl, Nat.le_of_ble_eq_true rfl⟩ ⟨(Nat.le_of_ble_eq_true rfl), (Nat.le_of_ble_eq_true rfl)⟩ (Nat.le_of_ble_eq_true rfl) (fun _ h => by cases h) (fun _ => rfl) (fun u_22 C_20 d_23 q_21 => ?_)
    obtain ⟨q_21a, h⟩ := q_21
    subst d_23
    show AW p l e _ s m args below meth c E M_G_best true _ n _ _ _ [(2, v0), (0, v1), (0, v2), (0, v3), (0, v4)] [] C_20
    refine AW.iload_n (dc hd_G_best 21 rfl) rfl ?_
    refine AW.if_lt (t := 67) (dc hd_G_best 22 rfl) (by decide) (fun c_24 => ?_) (fun c_24 => ?_)
    · have h := h.1 c_24
      refine AW.fgt [(2, v0), (9, 0), (9, 0), (9, 0), (0, v4)] ⟨.inl rfl, .inr rfl, .inr rfl, .inr rfl, .inl rfl, trivial⟩ ?_
      exact aJ_G_best_67 n C_20 v0 v4 kz17 Q hkz17 h
    · have h := h.2 c_24
      refine AW.ra_n (dc hd_G_best 23 rfl) rfl rfl rfl ?_
      refine AW.getf fl_10_316 (dc hd_G_best 24 rfl) g_11 ?_
      refine AW.iload_n (dc hd_G_best 25 rfl) rfl ?_
      refine AW.icmp_gt (t := 80) (dc hd_G_best 26 rfl) (by decide) (fun c_26 => ?_) (fun c_26 => ?_)
      · have h := h.1 c_26
        refine AW.iinc [(2, v0), (0, v1), (0, v2), (0, v3), (0, w32 (v4 + 1))] (dc hd_G_best 44 rfl) rfl (Nat.le_of_ble_eq_true rfl) rfl rfl ?_
        refine AW.goto (t := 17) (dc hd_G_best 45 rfl) (by decide) ?_
        exact hkz17 C_20 v1 v2 v3 (w32 (v4 + 1)) h
      · have h := h.2 c_26
        refine AW.ra_n (dc hd_G_best 27 rfl) rfl rfl rfl ?_
        refine AW.getf fl_10_316 (dc hd_G_best 28 rfl) g_11 ?_
        refine AW.iload_n (dc hd_G_best 29 rfl) rfl ?_
        refine AW.icmp_ne (t := 67) (dc hd_G_best 30 rfl) (by decide) (fun c_27 => ?_) (fun c_27 => ?_)
        · have h := h.2 c_27
          refine AW.fgt [(2, v0), (9, 0), (9, 0), (9, 0), (0, v4)] ⟨.inl rfl, .inr rfl, .inr rfl, .inr rfl, .inl rfl, trivial⟩ ?_
          exact aJ_G_best_67 n C_20 v0 v4 kz17 Q hkz17 h
        · have h := h.1 c_27
          refine AW.ra_n (dc hd_G_best 31 rfl) rfl rfl rfl ?_
          refine AW.getf fl_10_319 (dc hd_G_best 32 rfl) g_11 ?_
          refine AW.iload_n (dc hd_G_best 33 rfl) rfl ?_
          refine AW.icmp_lt (t := 67) (dc hd_G_best 34 rfl) (by decide) (fun c_28 => ?_) (fun c_28 => ?_)
          · have h := h.1 c_28
            refine AW.fgt [(2, v0), (9, 0), (9, 0), (9, 0), (0, v4)] ⟨.inl rfl, .inr rfl, .inr rfl, .inr rfl, .inl rfl, trivial⟩ ?_
            exact aJ_G_best_67 n C_20 v0 v4 kz17 Q hkz17 h
          · have h := h.2 c_28
            refine AW.goto (t := 80) (dc hd_G_best 35 rfl) (by decide) ?_
            refine AW.iinc [(2, v0), (0, v1), (0, v2), (0, v3), (0, w32 (v4 + 1))] (dc hd_G_best 44 rfl) rfl (Nat.le_of_ble_eq_true rfl) rfl rfl ?_
            refine AW.goto (t := 17) (dc hd_G_best 45 rfl) (by decide) ?_
            exact hkz17 C_20 v1 v2 v3 (w32 (v4 + 1)) h
theorem aB_G_best_17 (n : Nat) (v0 : Int) (Q : Int → Cn → Prop) : ∀ (f : Nat) (z : Cn × Int × Int × Int × Int), lp (B_G_best_17 n v0 Q) f z → AW p l e R s m args below meth c E M_G_best true (fun r C2 n2 => n2 = n ∧ Q r C2) n 0 0 17 [(2, v0), (0, z.2.1), (0, z.2.2.1), (0, z.2.2.2.1), (0, z.2.2.2.2)] [] (z.1) := by
  intro f
  induction f with
  | zero => intro z h; exact False.elim h
  | succ f ih => intro z h; exact bB_G_best_17 n v0 Q (lp (B_G_best_17 n v0 Q) f) (fun a0 a1 a2 a3 a4 h => ih (a0, a1, a2, a3, a4) h) z.1 z.2.1 z.2.2.1 z.2.2.2.1 z.2.2.2.2 h
def P_G_best (n : Nat) (C : Cn) (v0 : Int) (Q : Int → Cn → Prop) : Prop :=
  okO n v0 10 ∧ (P_G_maps n C v0 (fun (_ : Int) (C_2 : Cn) => P_G_tellsAll n C_2 v0 (fun (_ : Int) (C_6 : Cn) => ∃ f_29 : Nat, lp (B_G_best_17 n v0 Q) f_29 (C_6, (-1), 0, 0, 0))))
theorem m_G_best (l : Launch) (E : Ev) (n : Nat) (C : Cn) (v0 : Int) (Q : Int → Cn → Prop) (h : P_G_best n C v0 Q) : MA l y_G_best M_G_best E true C n [(2, v0)] (fun r C2 n2 => n2 = n ∧ Q r C2) := by
  refine MA.of (by decide) rfl rfl 4 rfl (fun p e s m args below meth c => ?_)
  show AW p l e _ s m args below meth c E M_G_best true _ n 0 0 0 [(2, v0), (9, 0), (9, 0), (9, 0), (9, 0)] [] C
  unfold P_G_best at h
  refine AW.ra_n (dc hd_G_best 0 rfl) rfl rfl rfl ?_
  obtain ⟨g_1, h⟩ := h
  refine AW.callV (As := []) (rest := []) (ci := 10) (m_G_maps l E n C v0 _ h) cb_10_211 im_G_maps se_G_maps ⟨_, _, rfl⟩ (by decide) (dc hd_G_best 1 rfl) g_1 rfl rfl ⟨Nat.le_of_ble_eq_true rfl, Nat.le_of_ble_eq_true rfl⟩ ⟨(Nat.le_of_ble_eq_true rfl), (Nat.le_of_ble_eq_true rfl)⟩ (Nat.le_of_ble_eq_true rfl) (fun _ h => by cases h) (fun _ => rfl) (fun u_4 C_2 d_5 q_3 => ?_)
  obtain ⟨q_3a, h⟩ := q_3
  subst d_5
  show AW p l e _ s m args below meth c E M_G_best true _ n _ _ _ [(2, v0), (9, 0), (9, 0), (9, 0), (9, 0)] [] C_2
  refine AW.ra_n (dc hd_G_best 2 rfl) rfl rfl rfl ?_
  refine AW.callV (As := []) (rest := []) (ci := 10) (m_G_tellsAll l E n C_2 v0 _ h) cb_10_333 im_G_tellsAll se_G_tellsAll ⟨_, _, rfl⟩ (by decide) (dc hd_G_best 3 rfl) g_1 rfl rfl ⟨Nat.le_of_ble_eq_true rfl, Nat.le_of_ble_eq_true rfl⟩ ⟨(Nat.le_of_ble_eq_true rfl), (Nat.le_of_ble_eq_true rfl)⟩ (Nat.le_of_ble_eq_true rfl) (fun _ h => by cases h) (fun _ => rfl) (fun u_8 C_6 d_9 q_7 => ?_)
  obtain ⟨q_7a, h⟩ := q_7
  subst d_9
  show AW p l e _ s m args below meth c E M_G_best true _ n _ _ _ [(2, v0), (9, 0), (9, 0), (9, 0), (9, 0)] [] C_6
  refine AW.iconst (dc hd_G_best 4 rfl) (by decide) ?_
  refine AW.istore_n [(2, v0), (0, (-1)), (9, 0), (9, 0), (9, 0)] (dc hd_G_best 5 rfl) (Nat.le_of_ble_eq_true rfl) rfl rfl ?_
  refine AW.iconst (dc hd_G_best 6 rfl) (by decide) ?_
  refine AW.istore_n [(2, v0), (0, (-1)), (0, 0), (9, 0), (9, 0)] (dc hd_G_best 7 rfl) (Nat.le_of_ble_eq_true rfl) rfl rfl ?_
  refine AW.iconst (dc hd_G_best 8 rfl) (by decide) ?_
  refine AW.istore_n [(2, v0), (0, (-1)), (0, 0), (0, 0), (9, 0)] (dc hd_G_best 9 rfl) (Nat.le_of_ble_eq_true rfl) rfl rfl ?_
  refine AW.iconst (dc hd_G_best 10 rfl) (by decide) ?_
  refine AW.istore [(2, v0), (0, (-1)), (0, 0), (0, 0), (0, 0)] (dc hd_G_best 11 rfl) (Nat.le_of_ble_eq_true rfl) rfl rfl ?_
  obtain ⟨f_29, h⟩ := h
  exact aB_G_best_17 n v0 Q f_29 (C_6, (-1), 0, 0, 0) h
def B_G_renumber_60 (n : Nat) (v0 : Int) (Q : Int → Cn → Prop) (kz60 : Cn × Int → Prop) (z : Cn × Int) : Prop := match z with
  | (C, v2) => okO n v0 10 ∧ ((C v0.toNat 0 ≤ v2 → (Q 1 C)) ∧ (¬ C v0.toNat 0 ≤ v2 → (okO n (PT v0.toNat 27) 12 ∧ (okI (PT v0.toNat 27) v2 ∧ (okO n (PT v0.toNat 31) 17 ∧ (okI (PT v0.toNat 31) (C (PT v0.toNat 27).toNat v2.toNat) ∧ (okO n (PT v0.toNat 1) 17 ∧ (okI (PT v0.toNat 1) v2 ∧ (P_G_copies n C (PT (PT v0.toNat 31).toNat (C (PT v0.toNat 27).toNat v2.toNat).toNat) (PT (PT v0.toNat 1).toNat v2.toNat) (fun (_ : Int) (C_25 : Cn) => kz60 (C_25, w32 (v2 + 1))))))))))))
theorem bB_G_renumber_60 (n : Nat) (v0 : Int) (Q : Int → Cn → Prop) (kz60 : Cn × Int → Prop) (hkz60 : ∀ (Cz : Cn) (z2 : Int), kz60 (Cz, z2) → AW p l e R s m args below meth c E M_G_renumber true (fun r C2 n2 => n2 = n ∧ Q r C2) n 0 0 60 [(2, v0), (9, 0), (0, z2)] [] Cz) (C : Cn) (v2 : Int) (h : B_G_renumber_60 n v0 Q kz60 (C, v2)) : AW p l e R s m args below meth c E M_G_renumber true (fun r C2 n2 => n2 = n ∧ Q r C2) n 0 0 60 [(2, v0), (9, 0), (0, v2)] [] C := by
  unfold B_G_renumber_60 at h
  dsimp only at h
  refine AW.iload_n (dc hd_G_renumber 36 rfl) rfl ?_
  refine AW.ra_n (dc hd_G_renumber 37 rfl) rfl rfl rfl ?_
  obtain ⟨g_17, h⟩ := h
  refine AW.getf fl_10_117 (dc hd_G_renumber 38 rfl) g_17 ?_
  refine AW.icmp_ge (t := 94) (dc hd_G_renumber 39 rfl) (by decide) (fun c_18 => ?_) (fun c_18 => ?_)
  · have h := h.1 c_18
    refine AW.iconst (dc hd_G_renumber 54 rfl) (by decide) ?_
    exact AW.iret (dc hd_G_renumber 55 rfl) rfl rfl (Nat.le_of_ble_eq_true rfl) (Nat.le_of_ble_eq_true rfl) ⟨rfl, h⟩
  · have h := h.2 c_18
    refine AW.ra_n (dc hd_G_renumber 40 rfl) rfl rfl rfl ?_
    refine AW.getp fl_10_67 (dc hd_G_renumber 41 rfl) g_17 rfl ?_
    refine AW.ra_n (dc hd_G_renumber 42 rfl) rfl rfl rfl ?_
    refine AW.getp fl_10_61 (dc hd_G_renumber 43 rfl) g_17 rfl ?_
    refine AW.iload_n (dc hd_G_renumber 44 rfl) rfl ?_
    obtain ⟨g_19, h⟩ := h
    obtain ⟨g_20, h⟩ := h
    refine AW.iald (dc hd_G_renumber 45 rfl) g_19 g_20 ?_
    obtain ⟨g_21, h⟩ := h
    obtain ⟨g_22, h⟩ := h
    refine AW.aaldp (by decide) (dc hd_G_renumber 46 rfl) g_21 g_22 rfl ?_
    refine AW.ra_n (dc hd_G_renumber 47 rfl) rfl rfl rfl ?_
    refine AW.getp fl_10_11 (dc hd_G_renumber 48 rfl) g_17 rfl ?_
    refine AW.iload_n (dc hd_G_renumber 49 rfl) rfl ?_
    obtain ⟨g_23, h⟩ := h
    obtain ⟨g_24, h⟩ := h
    refine AW.aaldp (by decide) (dc hd_G_renumber 50 rfl) g_23 g_24 rfl ?_
    refine AW.callS (As := [(2, PT (PT v0.toNat 31).toNat (C (PT v0.toNat 27).toNat v2.toNat).toNat), (2, PT (PT v0.toNat 1).toNat v2.toNat)]) (rest := []) (m_G_copies l E n C (PT (PT v0.toNat 31).toNat (C (PT v0.toNat 27).toNat v2.toNat).toNat) (PT (PT v0.toNat 1).toNat v2.toNat) _ h) cb_10_198 sm_G_copies (dc hd_G_renumber 51 rfl) rfl rfl ⟨Nat.le_of_ble_eq_true rfl, Nat.le_of_ble_eq_true rfl⟩ ⟨(Nat.le_of_ble_eq_true rfl), (Nat.le_of_ble_eq_true rfl)⟩ (Nat.le_of_ble_eq_true rfl) (fun _ h => by cases h) (fun _ => rfl) (fun u_27 C_25 d_28 q_26 => ?_)
    obtain ⟨q_26a, h⟩ := q_26
    subst d_28
    show AW p l e _ s m args below meth c E M_G_renumber true _ n _ _ _ [(2, v0), (9, 0), (0, v2)] [] C_25
    refine AW.iinc [(2, v0), (9, 0), (0, w32 (v2 + 1))] (dc hd_G_renumber 52 rfl) rfl (Nat.le_of_ble_eq_true rfl) rfl rfl ?_
    refine AW.goto (t := 60) (dc hd_G_renumber 53 rfl) (by decide) ?_
    exact hkz60 C_25 (w32 (v2 + 1)) h
theorem aB_G_renumber_60 (n : Nat) (v0 : Int) (Q : Int → Cn → Prop) : ∀ (f : Nat) (z : Cn × Int), lp (B_G_renumber_60 n v0 Q) f z → AW p l e R s m args below meth c E M_G_renumber true (fun r C2 n2 => n2 = n ∧ Q r C2) n 0 0 60 [(2, v0), (9, 0), (0, z.2)] [] (z.1) := by
  intro f
  induction f with
  | zero => intro z h; exact False.elim h
  | succ f ih => intro z h; exact bB_G_renumber_60 n v0 Q (lp (B_G_renumber_60 n v0 Q) f) (fun a0 a1 h => ih (a0, a1) h) z.1 z.2 h
def B_G_renumber_29 (n : Nat) (v0 : Int) (Q : Int → Cn → Prop) (kz29 : Cn × Int → Prop) (z : Cn × Int) : Prop := match z with
  | (C, v2) => okO n v0 10 ∧ ((C v0.toNat 0 ≤ v2 → (∃ f_29 : Nat, lp (B_G_renumber_60 n v0 Q) f_29 (C, 0))) ∧ (¬ C v0.toNat 0 ≤ v2 → (okO n (PT v0.toNat 1) 17 ∧ (okI (PT v0.toNat 1) v2 ∧ (okO n (PT v0.toNat 31) 17 ∧ (okI (PT v0.toNat 31) v2 ∧ (P_G_copies n C (PT (PT v0.toNat 1).toNat v2.toNat) (PT (PT v0.toNat 31).toNat v2.toNat) (fun (_ : Int) (C_34 : Cn) => kz29 (C_34, w32 (v2 + 1))))))))))
theorem bB_G_renumber_29 (n : Nat) (v0 : Int) (Q : Int → Cn → Prop) (kz29 : Cn × Int → Prop) (hkz29 : ∀ (Cz : Cn) (z2 : Int), kz29 (Cz, z2) → AW p l e R s m args below meth c E M_G_renumber true (fun r C2 n2 => n2 = n ∧ Q r C2) n 0 0 29 [(2, v0), (9, 0), (0, z2)] [] Cz) (C : Cn) (v2 : Int) (h : B_G_renumber_29 n v0 Q kz29 (C, v2)) : AW p l e R s m args below meth c E M_G_renumber true (fun r C2 n2 => n2 = n ∧ Q r C2) n 0 0 29 [(2, v0), (9, 0), (0, v2)] [] C := by
  unfold B_G_renumber_29 at h
  dsimp only at h
  refine AW.iload_n (dc hd_G_renumber 19 rfl) rfl ?_
  refine AW.ra_n (dc hd_G_renumber 20 rfl) rfl rfl rfl ?_
  obtain ⟨g_15, h⟩ := h
  refine AW.getf fl_10_117 (dc hd_G_renumber 21 rfl) g_15 ?_
  refine AW.icmp_ge (t := 58) (dc hd_G_renumber 22 rfl) (by decide) (fun c_16 => ?_) (fun c_16 => ?_)
  · have h := h.1 c_16
    refine AW.iconst (dc hd_G_renumber 34 rfl) (by decide) ?_
    refine AW.istore_n [(2, v0), (9, 0), (0, 0)] (dc hd_G_renumber 35 rfl) (Nat.le_of_ble_eq_true rfl) rfl rfl ?_
    obtain ⟨f_29, h⟩ := h
    exact aB_G_renumber_60 n v0 Q f_29 (C, 0) h
  · have h := h.2 c_16
    refine AW.ra_n (dc hd_G_renumber 23 rfl) rfl rfl rfl ?_
    refine AW.getp fl_10_11 (dc hd_G_renumber 24 rfl) g_15 rfl ?_
    refine AW.iload_n (dc hd_G_renumber 25 rfl) rfl ?_
    obtain ⟨g_30, h⟩ := h
    obtain ⟨g_31, h⟩ := h
    refine AW.aaldp (by decide) (dc hd_G_renumber 26 rfl) g_30 g_31 rfl ?_
    refine AW.ra_n (dc hd_G_renumber 27 rfl) rfl rfl rfl ?_
    refine AW.getp fl_10_67 (dc hd_G_renumber 28 rfl) g_15 rfl ?_
    refine AW.iload_n (dc hd_G_renumber 29 rfl) rfl ?_
    obtain ⟨g_32, h⟩ := h
    obtain ⟨g_33, h⟩ := h
    refine AW.aaldp (by decide) (dc hd_G_renumber 30 rfl) g_32 g_33 rfl ?_
    refine AW.callS (As := [(2, PT (PT v0.toNat 1).toNat v2.toNat), (2, PT (PT v0.toNat 31).toNat v2.toNat)]) (rest := []) (m_G_copies l E n C (PT (PT v0.toNat 1).toNat v2.toNat) (PT (PT v0.toNat 31).toNat v2.toNat) _ h) cb_10_198 sm_G_copies (dc hd_G_renumber 31 rfl) rfl rfl ⟨Nat.le_of_ble_eq_true rfl, Nat.le_of_ble_eq_true rfl⟩ ⟨(Nat.le_of_ble_eq_true rfl), (Nat.le_of_ble_eq_true rfl)⟩ (Nat.le_of_ble_eq_true rfl) (fun _ h => by cases h) (fun _ => rfl) (fun u_36 C_34 d_37 q_35 => ?_)
    obtain ⟨q_35a, h⟩ := q_35
    subst d_37
    show AW p l e _ s m args below meth c E M_G_renumber true _ n _ _ _ [(2, v0), (9, 0), (0, v2)] [] C_34
    refine AW.iinc [(2, v0), (9, 0), (0, w32 (v2 + 1))] (dc hd_G_renumber 32 rfl) rfl (Nat.le_of_ble_eq_true rfl) rfl rfl ?_
    refine AW.goto (t := 29) (dc hd_G_renumber 33 rfl) (by decide) ?_
    exact hkz29 C_34 (w32 (v2 + 1)) h
theorem aB_G_renumber_29 (n : Nat) (v0 : Int) (Q : Int → Cn → Prop) : ∀ (f : Nat) (z : Cn × Int), lp (B_G_renumber_29 n v0 Q) f z → AW p l e R s m args below meth c E M_G_renumber true (fun r C2 n2 => n2 = n ∧ Q r C2) n 0 0 29 [(2, v0), (9, 0), (0, z.2)] [] (z.1) := by
  intro f
  induction f with
  | zero => intro z h; exact False.elim h
  | succ f ih => intro z h; exact bB_G_renumber_29 n v0 Q (lp (B_G_renumber_29 n v0 Q) f) (fun a0 a1 h => ih (a0, a1) h) z.1 z.2 h
def P_G_renumber (n : Nat) (C : Cn) (v0 v1 : Int) (Q : Int → Cn → Prop) : Prop :=
  okO n v0 10 ∧ (P_G_orders n C v0 (fun (r_1 : Int) => P_G_in n C v1 0 (w32 (r_1 - 1)) (fun (r_6 : Int) => (r_6 = 0 → (P_G_finds n C v0 0 (fun (r_39 : Int) (C_40 : Cn) => Q r_39 C_40))) ∧ (¬ r_6 = 0 → (P_G_laysOrder n C v0 v1 (fun (_ : Int) (C_11 : Cn) => ∃ f_38 : Nat, lp (B_G_renumber_29 n v0 Q) f_38 (C_11, 0)))))))
theorem m_G_renumber (l : Launch) (E : Ev) (n : Nat) (C : Cn) (v0 v1 : Int) (Q : Int → Cn → Prop) (h : P_G_renumber n C v0 v1 Q) : MA l y_G_renumber M_G_renumber E true C n [(2, v0), (0, v1)] (fun r C2 n2 => n2 = n ∧ Q r C2) := by
  refine MA.of (by decide) rfl rfl 1 rfl (fun p e s m args below meth c => ?_)
  show AW p l e _ s m args below meth c E M_G_renumber true _ n 0 0 0 [(2, v0), (0, v1), (9, 0)] [] C
  unfold P_G_renumber at h
  refine AW.iload_n (dc hd_G_renumber 0 rfl) rfl ?_
  refine AW.i2l (dc hd_G_renumber 1 rfl) ?_
  refine AW.lconst (v := 0) (dc hd_G_renumber 2 rfl) (by decide) (by decide +kernel) ?_
  refine AW.ra_n (dc hd_G_renumber 3 rfl) rfl rfl rfl ?_
  obtain ⟨g_2, h⟩ := h
  refine AW.callV (As := []) (rest := [(1, 0), (1, v1)]) (ci := 10) (m_G_orders l E n C v0 _ h) cb_10_325 im_G_orders se_G_orders ⟨_, _, rfl⟩ (by decide) (dc hd_G_renumber 4 rfl) g_2 rfl rfl ⟨Nat.le_of_ble_eq_true rfl, Nat.le_of_ble_eq_true rfl⟩ ⟨(Nat.le_of_ble_eq_true rfl), (Nat.le_of_ble_eq_true rfl)⟩ (Nat.le_of_ble_eq_true rfl) (fun _ h => by cases h) (fun _ => rfl) (fun r_1 D_4 d_5 q_3 => ?_)
  obtain ⟨q_3a, q_3b, h⟩ := q_3
  subst D_4
  subst d_5
  show AW p l e _ s m args below meth c E M_G_renumber true _ n _ _ _ [(2, v0), (0, v1), (9, 0)] [(0, r_1), (1, 0), (1, v1)] C
  refine AW.iconst (dc hd_G_renumber 5 rfl) (by decide) ?_
  refine AW.isub (dc hd_G_renumber 6 rfl) ?_
  refine AW.i2l (dc hd_G_renumber 7 rfl) ?_
  refine AW.callS (As := [(1, v1), (1, 0), (1, w32 (r_1 - 1))]) (rest := []) (m_G_in l E n C v1 0 (w32 (r_1 - 1)) _ h) cb_10_113 sm_G_in (dc hd_G_renumber 8 rfl) rfl rfl ⟨Nat.le_of_ble_eq_true rfl, Nat.le_of_ble_eq_true rfl⟩ ⟨(Nat.le_of_ble_eq_true rfl), (Nat.le_of_ble_eq_true rfl)⟩ (Nat.le_of_ble_eq_true rfl) (fun _ h => by cases h) (fun _ => rfl) (fun r_6 D_8 d_9 q_7 => ?_)
  obtain ⟨q_7a, q_7b, h⟩ := q_7
  subst D_8
  subst d_9
  show AW p l e _ s m args below meth c E M_G_renumber true _ n _ _ _ [(2, v0), (0, v1), (9, 0)] [(0, r_6)] C
  refine AW.if_ne (t := 22) (dc hd_G_renumber 9 rfl) (by decide) (fun c_10 => ?_) (fun c_10 => ?_)
  · have h := h.2 c_10
    refine AW.ra_n (dc hd_G_renumber 14 rfl) rfl rfl rfl ?_
    refine AW.iload_n (dc hd_G_renumber 15 rfl) rfl ?_
    refine AW.callV (As := [(0, v1)]) (rest := []) (ci := 10) (m_G_laysOrder l E n C v0 v1 _ h) cb_10_330 im_G_laysOrder se_G_laysOrder ⟨_, _, rfl⟩ (by decide) (dc hd_G_renumber 16 rfl) g_2 rfl rfl ⟨Nat.le_of_ble_eq_true rfl, Nat.le_of_ble_eq_true rfl⟩ ⟨(Nat.le_of_ble_eq_true rfl), (Nat.le_of_ble_eq_true rfl)⟩ (Nat.le_of_ble_eq_true rfl) (fun _ h => by cases h) (fun _ => rfl) (fun u_13 C_11 d_14 q_12 => ?_)
    obtain ⟨q_12a, h⟩ := q_12
    subst d_14
    show AW p l e _ s m args below meth c E M_G_renumber true _ n _ _ _ [(2, v0), (0, v1), (9, 0)] [] C_11
    refine AW.iconst (dc hd_G_renumber 17 rfl) (by decide) ?_
    refine AW.istore_n [(2, v0), (0, v1), (0, 0)] (dc hd_G_renumber 18 rfl) (Nat.le_of_ble_eq_true rfl) rfl rfl ?_
    obtain ⟨f_38, h⟩ := h
    refine AW.fgt [(2, v0), (9, 0), (0, 0)] ⟨.inl rfl, .inr rfl, .inl rfl, trivial⟩ ?_
    exact aB_G_renumber_29 n v0 Q f_38 (C_11, 0) h
  · have h := h.1 c_10
    refine AW.ra_n (dc hd_G_renumber 10 rfl) rfl rfl rfl ?_
    refine AW.iconst (dc hd_G_renumber 11 rfl) (by decide) ?_
    refine AW.callV (As := [(0, 0)]) (rest := []) (ci := 10) (m_G_finds l E n C v0 0 _ h) cb_10_186 im_G_finds se_G_finds ⟨_, _, rfl⟩ (by decide) (dc hd_G_renumber 12 rfl) g_2 rfl rfl ⟨Nat.le_of_ble_eq_true rfl, Nat.le_of_ble_eq_true rfl⟩ ⟨(Nat.le_of_ble_eq_true rfl), (Nat.le_of_ble_eq_true rfl)⟩ (Nat.le_of_ble_eq_true rfl) (fun _ h => by cases h) (fun _ => rfl) (fun r_39 C_40 d_42 q_41 => ?_)
    obtain ⟨q_41a, h⟩ := q_41
    subst d_42
    show AW p l e _ s m args below meth c E M_G_renumber true _ n _ _ _ [(2, v0), (0, v1), (9, 0)] [(0, r_39)] C_40
    exact AW.iret (dc hd_G_renumber 13 rfl) rfl rfl (Nat.le_of_ble_eq_true rfl) (Nat.le_of_ble_eq_true rfl) ⟨rfl, h⟩
def P_G_mayGo (n : Nat) (C : Cn) (v0 v1 v2 v3 : Int) (Q : Int → Cn → Prop) : Prop :=
  (v1 = v2 → (Q 0 C)) ∧ (¬ v1 = v2 → (okO n v0 10 ∧ (okO n (PT v0.toNat 32) 17 ∧ (okI (PT v0.toNat 32) v1 ∧ (okO n (PT (PT v0.toNat 32).toNat v1.toNat) 12 ∧ (okI (PT (PT v0.toNat 32).toNat v1.toNat) v2 ∧ ((v3 < C (PT (PT v0.toNat 32).toNat v1.toNat).toNat v2.toNat → (∀ C_8 : Cn, C_8 = wr C (PT (PT v0.toNat 32).toNat v1.toNat).toNat v2.toNat v3 → (okI (PT v0.toNat 32) v2 ∧ (okO n (PT (PT v0.toNat 32).toNat v2.toNat) 12 ∧ (okI (PT (PT v0.toNat 32).toNat v2.toNat) v1 ∧ (∀ C_12 : Cn, C_12 = wr C_8 (PT (PT v0.toNat 32).toNat v2.toNat).toNat v1.toNat v3 → (Q 0 C_12))))))) ∧ (¬ v3 < C (PT (PT v0.toNat 32).toNat v1.toNat).toNat v2.toNat → (Q 0 C)))))))))
theorem m_G_mayGo (l : Launch) (E : Ev) (n : Nat) (C : Cn) (v0 v1 v2 v3 : Int) (Q : Int → Cn → Prop) (h : P_G_mayGo n C v0 v1 v2 v3 Q) : MA l y_G_mayGo M_G_mayGo E true C n [(2, v0), (0, v1), (0, v2), (0, v3)] (fun r C2 n2 => n2 = n ∧ Q r C2) := by
  refine MA.of (by decide) rfl rfl 0 rfl (fun p e s m args below meth c => ?_)
  show AW p l e _ s m args below meth c E M_G_mayGo true _ n 0 0 0 [(2, v0), (0, v1), (0, v2), (0, v3)] [] C
  unfold P_G_mayGo at h
  refine AW.iload_n (dc hd_G_mayGo 0 rfl) rfl ?_
  refine AW.iload_n (dc hd_G_mayGo 1 rfl) rfl ?_
  refine AW.icmp_eq (t := 17) (dc hd_G_mayGo 2 rfl) (by decide) (fun c_1 => ?_) (fun c_1 => ?_)
  · have h := h.1 c_1
    exact AW.vret (dc hd_G_mayGo 11 rfl) rfl rfl (Nat.le_of_ble_eq_true rfl) (Nat.le_of_ble_eq_true rfl) ⟨rfl, h⟩
  · have h := h.2 c_1
    refine AW.iload_n (dc hd_G_mayGo 3 rfl) rfl ?_
    refine AW.ra_n (dc hd_G_mayGo 4 rfl) rfl rfl rfl ?_
    obtain ⟨g_2, h⟩ := h
    refine AW.getp fl_10_70 (dc hd_G_mayGo 5 rfl) g_2 rfl ?_
    refine AW.iload_n (dc hd_G_mayGo 6 rfl) rfl ?_
    obtain ⟨g_3, h⟩ := h
    obtain ⟨g_4, h⟩ := h
    refine AW.aaldp (by decide) (dc hd_G_mayGo 7 rfl) g_3 g_4 rfl ?_
    refine AW.iload_n (dc hd_G_mayGo 8 rfl) rfl ?_
    obtain ⟨g_5, h⟩ := h
    obtain ⟨g_6, h⟩ := h
    refine AW.iald (dc hd_G_mayGo 9 rfl) g_5 g_6 ?_
    refine AW.icmp_lt (t := 18) (dc hd_G_mayGo 10 rfl) (by decide) (fun c_7 => ?_) (fun c_7 => ?_)
    · have h := h.1 c_7
      refine AW.ra_n (dc hd_G_mayGo 12 rfl) rfl rfl rfl ?_
      refine AW.getp fl_10_70 (dc hd_G_mayGo 13 rfl) g_2 rfl ?_
      refine AW.iload_n (dc hd_G_mayGo 14 rfl) rfl ?_
      refine AW.aaldp (by decide) (dc hd_G_mayGo 15 rfl) g_3 g_4 rfl ?_
      refine AW.iload_n (dc hd_G_mayGo 16 rfl) rfl ?_
      refine AW.iload_n (dc hd_G_mayGo 17 rfl) rfl ?_
      refine AW.niast (dc hd_G_mayGo 18 rfl) g_5 g_6 (fun C_8 eC_8 => ?_)
      have h := h C_8 eC_8
      refine AW.ra_n (dc hd_G_mayGo 19 rfl) rfl rfl rfl ?_
      refine AW.getp fl_10_70 (dc hd_G_mayGo 20 rfl) g_2 rfl ?_
      refine AW.iload_n (dc hd_G_mayGo 21 rfl) rfl ?_
      obtain ⟨g_9, h⟩ := h
      refine AW.aaldp (by decide) (dc hd_G_mayGo 22 rfl) g_3 g_9 rfl ?_
      refine AW.iload_n (dc hd_G_mayGo 23 rfl) rfl ?_
      refine AW.iload_n (dc hd_G_mayGo 24 rfl) rfl ?_
      obtain ⟨g_10, h⟩ := h
      obtain ⟨g_11, h⟩ := h
      refine AW.niast (dc hd_G_mayGo 25 rfl) g_10 g_11 (fun C_12 eC_12 => ?_)
      have h := h C_12 eC_12
      exact AW.vret (dc hd_G_mayGo 26 rfl) rfl rfl (Nat.le_of_ble_eq_true rfl) (Nat.le_of_ble_eq_true rfl) ⟨rfl, h⟩
    · have h := h.2 c_7
      exact AW.vret (dc hd_G_mayGo 11 rfl) rfl rfl (Nat.le_of_ble_eq_true rfl) (Nat.le_of_ble_eq_true rfl) ⟨rfl, h⟩
def J_G_steps1_200 (n : Nat) (C : Cn) (v0 v1 v2 : Int) (kz54 : Cn × Int → Prop) (kz64 : Cn × Int → Prop) (Q : Int → Cn → Prop) : Prop :=
  kz64 (C, w32 (v2 + 1))
theorem aJ_G_steps1_200 (n : Nat) (C : Cn) (v0 v1 v2 : Int) (kz54 : Cn × Int → Prop) (kz64 : Cn × Int → Prop) (Q : Int → Cn → Prop) (hkz54 : ∀ (Cz : Cn) (z1 : Int), kz54 (Cz, z1) → AW p l e R s m args below meth c E M_G_steps1 true (fun r C2 n2 => n2 = n ∧ Q r C2) n 0 0 54 [(2, v0), (0, z1), (9, 0), (9, 0)] [] Cz) (hkz64 : ∀ (Cz : Cn) (z2 : Int), kz64 (Cz, z2) → AW p l e R s m args below meth c E M_G_steps1 true (fun r C2 n2 => n2 = n ∧ Q r C2) n 0 0 64 [(2, v0), (0, v1), (0, z2), (9, 0)] [] Cz) (h : J_G_steps1_200 n C v0 v1 v2 kz54 kz64 Q) : AW p l e R s m args below meth c E M_G_steps1 true (fun r C2 n2 => n2 = n ∧ Q r C2) n 0 0 200 [(2, v0), (0, v1), (0, v2), (9, 0)] [] C := by
  unfold J_G_steps1_200 at h
  refine AW.iinc [(2, v0), (0, v1), (0, w32 (v2 + 1)), (9, 0)] (dc hd_G_steps1 126 rfl) rfl (Nat.le_of_ble_eq_true rfl) rfl rfl ?_
  refine AW.goto (t := 64) (dc hd_G_steps1 127 rfl) (by decide) ?_
  exact hkz64 C (w32 (v2 + 1)) h
def J_G_steps1_171 (n : Nat) (C : Cn) (v0 v1 v2 v3 : Int) (kz54 : Cn × Int → Prop) (kz64 : Cn × Int → Prop) (kz121 : Cn × Int → Prop) (Q : Int → Cn → Prop) : Prop :=
  okO n v0 10 ∧ (okO n (PT v0.toNat 17) 17 ∧ (okI (PT v0.toNat 17) v1 ∧ (okO n (PT (PT v0.toNat 17).toNat v1.toNat) 12 ∧ (okI (PT (PT v0.toNat 17).toNat v1.toNat) v2 ∧ (okI (PT v0.toNat 17) (w32 (v1 - 1)) ∧ (okO n (PT (PT v0.toNat 17).toNat (w32 (v1 - 1)).toNat) 12 ∧ (okI (PT (PT v0.toNat 17).toNat (w32 (v1 - 1)).toNat) v3 ∧ (P_G_mayGo n C v0 (C (PT (PT v0.toNat 17).toNat v1.toNat).toNat v2.toNat) (C (PT (PT v0.toNat 17).toNat (w32 (v1 - 1)).toNat).toNat v3.toNat) 0 (fun (_ : Int) (C_32 : Cn) => kz121 (C_32, w32 (v3 + 1)))))))))))
theorem aJ_G_steps1_171 (n : Nat) (C : Cn) (v0 v1 v2 v3 : Int) (kz54 : Cn × Int → Prop) (kz64 : Cn × Int → Prop) (kz121 : Cn × Int → Prop) (Q : Int → Cn → Prop) (hkz54 : ∀ (Cz : Cn) (z1 : Int), kz54 (Cz, z1) → AW p l e R s m args below meth c E M_G_steps1 true (fun r C2 n2 => n2 = n ∧ Q r C2) n 0 0 54 [(2, v0), (0, z1), (9, 0), (9, 0)] [] Cz) (hkz64 : ∀ (Cz : Cn) (z2 : Int), kz64 (Cz, z2) → AW p l e R s m args below meth c E M_G_steps1 true (fun r C2 n2 => n2 = n ∧ Q r C2) n 0 0 64 [(2, v0), (0, v1), (0, z2), (9, 0)] [] Cz) (hkz121 : ∀ (Cz : Cn) (z3 : Int), kz121 (Cz, z3) → AW p l e R s m args below meth c E M_G_steps1 true (fun r C2 n2 => n2 = n ∧ Q r C2) n 0 0 121 [(2, v0), (0, v1), (0, v2), (0, z3)] [] Cz) (h : J_G_steps1_171 n C v0 v1 v2 v3 kz54 kz64 kz121 Q) : AW p l e R s m args below meth c E M_G_steps1 true (fun r C2 n2 => n2 = n ∧ Q r C2) n 0 0 171 [(2, v0), (0, v1), (0, v2), (0, v3)] [] C := by
  unfold J_G_steps1_171 at h
  refine AW.ra_n (dc hd_G_steps1 107 rfl) rfl rfl rfl ?_
  refine AW.ra_n (dc hd_G_steps1 108 rfl) rfl rfl rfl ?_
  obtain ⟨g_24, h⟩ := h
  refine AW.getp fl_10_46 (dc hd_G_steps1 109 rfl) g_24 rfl ?_
  refine AW.iload_n (dc hd_G_steps1 110 rfl) rfl ?_
  obtain ⟨g_25, h⟩ := h
  obtain ⟨g_26, h⟩ := h
  refine AW.aaldp (by decide) (dc hd_G_steps1 111 rfl) g_25 g_26 rfl ?_
  refine AW.iload_n (dc hd_G_steps1 112 rfl) rfl ?_
  obtain ⟨g_27, h⟩ := h
  obtain ⟨g_28, h⟩ := h
  refine AW.iald (dc hd_G_steps1 113 rfl) g_27 g_28 ?_
  refine AW.ra_n (dc hd_G_steps1 114 rfl) rfl rfl rfl ?_
  refine AW.getp fl_10_46 (dc hd_G_steps1 115 rfl) g_24 rfl ?_
  refine AW.iload_n (dc hd_G_steps1 116 rfl) rfl ?_
  refine AW.iconst (dc hd_G_steps1 117 rfl) (by decide) ?_
  refine AW.isub (dc hd_G_steps1 118 rfl) ?_
  obtain ⟨g_29, h⟩ := h
  refine AW.aaldp (by decide) (dc hd_G_steps1 119 rfl) g_25 g_29 rfl ?_
  refine AW.iload_n (dc hd_G_steps1 120 rfl) rfl ?_
  obtain ⟨g_30, h⟩ := h
  obtain ⟨g_31, h⟩ := h
  refine AW.iald (dc hd_G_steps1 121 rfl) g_30 g_31 ?_
  refine AW.iconst (dc hd_G_steps1 122 rfl) (by decide) ?_
  refine AW.callV (As := [(0, C (PT (PT v0.toNat 17).toNat v1.toNat).toNat v2.toNat), (0, C (PT (PT v0.toNat 17).toNat (w32 (v1 - 1)).toNat).toNat v3.toNat), (0, 0)]) (rest := []) (ci := 10) (m_G_mayGo l E n C v0 (C (PT (PT v0.toNat 17).toNat v1.toNat).toNat v2.toNat) (C (PT (PT v0.toNat 17).toNat (w32 (v1 - 1)).toNat).toNat v3.toNat) 0 _ h) cb_10_340 im_G_mayGo se_G_mayGo ⟨_, _, rfl⟩ (by decide) (dc hd_G_steps1 123 rfl) g_24 rfl rfl ⟨Nat.le_of_ble_eq_true rfl, Nat.le_of_ble_eq_true rfl⟩ ⟨(Nat.le_of_ble_eq_true rfl), (Nat.le_of_ble_eq_true rfl)⟩ (Nat.le_of_ble_eq_true rfl) (fun _ h => by cases h) (fun _ => rfl) (fun u_34 C_32 d_35 q_33 => ?_)
  obtain ⟨q_33a, h⟩ := q_33
  subst d_35
  show AW p l e _ s m args below meth c E M_G_steps1 true _ n _ _ _ [(2, v0), (0, v1), (0, v2), (0, v3)] [] C_32
  refine AW.iinc [(2, v0), (0, v1), (0, v2), (0, w32 (v3 + 1))] (dc hd_G_steps1 124 rfl) rfl (Nat.le_of_ble_eq_true rfl) rfl rfl ?_
  refine AW.goto (t := 121) (dc hd_G_steps1 125 rfl) (by decide) ?_
  exact hkz121 C_32 (w32 (v3 + 1)) h
def B_G_steps1_121 (n : Nat) (v0 v1 v2 : Int) (kz54 : Cn × Int → Prop) (kz64 : Cn × Int → Prop) (Q : Int → Cn → Prop) (kz121 : Cn × Int → Prop) (z : Cn × Int) : Prop := match z with
  | (C, v3) => (v1 ≤ 0 → (J_G_steps1_200 n C v0 v1 v2 kz54 kz64 Q)) ∧ (¬ v1 ≤ 0 → (okO n v0 10 ∧ (okO n (PT v0.toNat 15) 12 ∧ (okI (PT v0.toNat 15) (w32 (v1 - 1)) ∧ ((C (PT v0.toNat 15).toNat (w32 (v1 - 1)).toNat < v3 → (J_G_steps1_200 n C v0 v1 v2 kz54 kz64 Q)) ∧ (¬ C (PT v0.toNat 15).toNat (w32 (v1 - 1)).toNat < v3 → (P_G_floorAt n C v0 v1 v2 (fun (r_15 : Int) => P_G_floorAt n C v0 (w32 (v1 - 1)) v3 (fun (r_19 : Int) => (r_15 = r_19 → (J_G_steps1_171 n C v0 v1 v2 v3 kz54 kz64 kz121 Q)) ∧ (¬ r_15 = r_19 → (P_G_roofAt n C v0 v1 v2 (fun (r_36 : Int) => P_G_roofAt n C v0 (w32 (v1 - 1)) v3 (fun (r_40 : Int) => (r_36 = r_40 → (J_G_steps1_171 n C v0 v1 v2 v3 kz54 kz64 kz121 Q)) ∧ (¬ r_36 = r_40 → (kz121 (C, w32 (v3 + 1)))))))))))))))))
theorem bB_G_steps1_121 (n : Nat) (v0 v1 v2 : Int) (kz54 : Cn × Int → Prop) (kz64 : Cn × Int → Prop) (Q : Int → Cn → Prop) (hkz54 : ∀ (Cz : Cn) (z1 : Int), kz54 (Cz, z1) → AW p l e R s m args below meth c E M_G_steps1 true (fun r C2 n2 => n2 = n ∧ Q r C2) n 0 0 54 [(2, v0), (0, z1), (9, 0), (9, 0)] [] Cz) (hkz64 : ∀ (Cz : Cn) (z2 : Int), kz64 (Cz, z2) → AW p l e R s m args below meth c E M_G_steps1 true (fun r C2 n2 => n2 = n ∧ Q r C2) n 0 0 64 [(2, v0), (0, v1), (0, z2), (9, 0)] [] Cz) (kz121 : Cn × Int → Prop) (hkz121 : ∀ (Cz : Cn) (z3 : Int), kz121 (Cz, z3) → AW p l e R s m args below meth c E M_G_steps1 true (fun r C2 n2 => n2 = n ∧ Q r C2) n 0 0 121 [(2, v0), (0, v1), (0, v2), (0, z3)] [] Cz) (C : Cn) (v3 : Int) (h : B_G_steps1_121 n v0 v1 v2 kz54 kz64 Q kz121 (C, v3)) : AW p l e R s m args below meth c E M_G_steps1 true (fun r C2 n2 => n2 = n ∧ Q r C2) n 0 0 121 [(2, v0), (0, v1), (0, v2), (0, v3)] [] C := by
  unfold B_G_steps1_121 at h
  dsimp only at h
  refine AW.iload_n (dc hd_G_steps1 75 rfl) rfl ?_
  refine AW.if_le (t := 200) (dc hd_G_steps1 76 rfl) (by decide) (fun c_10 => ?_) (fun c_10 => ?_)
  · have h := h.1 c_10
    refine AW.fgt [(2, v0), (0, v1), (0, v2), (9, 0)] ⟨.inl rfl, .inl rfl, .inl rfl, .inr rfl, trivial⟩ ?_
    exact aJ_G_steps1_200 n C v0 v1 v2 kz54 kz64 Q hkz54 hkz64 h
  · have h := h.2 c_10
    refine AW.iload_n (dc hd_G_steps1 77 rfl) rfl ?_
    refine AW.ra_n (dc hd_G_steps1 78 rfl) rfl rfl rfl ?_
    obtain ⟨g_11, h⟩ := h
    refine AW.getp fl_10_40 (dc hd_G_steps1 79 rfl) g_11 rfl ?_
    refine AW.iload_n (dc hd_G_steps1 80 rfl) rfl ?_
    refine AW.iconst (dc hd_G_steps1 81 rfl) (by decide) ?_
    refine AW.isub (dc hd_G_steps1 82 rfl) ?_
    obtain ⟨g_12, h⟩ := h
    obtain ⟨g_13, h⟩ := h
    refine AW.iald (dc hd_G_steps1 83 rfl) g_12 g_13 ?_
    refine AW.icmp_gt (t := 200) (dc hd_G_steps1 84 rfl) (by decide) (fun c_14 => ?_) (fun c_14 => ?_)
    · have h := h.1 c_14
      refine AW.fgt [(2, v0), (0, v1), (0, v2), (9, 0)] ⟨.inl rfl, .inl rfl, .inl rfl, .inr rfl, trivial⟩ ?_
      exact aJ_G_steps1_200 n C v0 v1 v2 kz54 kz64 Q hkz54 hkz64 h
    · have h := h.2 c_14
      refine AW.ra_n (dc hd_G_steps1 85 rfl) rfl rfl rfl ?_
      refine AW.iload_n (dc hd_G_steps1 86 rfl) rfl ?_
      refine AW.iload_n (dc hd_G_steps1 87 rfl) rfl ?_
      refine AW.callV (As := [(0, v1), (0, v2)]) (rest := []) (ci := 10) (m_G_floorAt l E n C v0 v1 v2 _ h) cb_10_233 im_G_floorAt se_G_floorAt ⟨_, _, rfl⟩ (by decide) (dc hd_G_steps1 88 rfl) g_11 rfl rfl ⟨Nat.le_of_ble_eq_true rfl, Nat.le_of_ble_eq_true rfl⟩ ⟨(Nat.le_of_ble_eq_true rfl), (Nat.le_of_ble_eq_true rfl)⟩ (Nat.le_of_ble_eq_true rfl) (fun _ h => by cases h) (fun _ => rfl) (fun r_15 D_17 d_18 q_16 => ?_)
      obtain ⟨q_16a, q_16b, h⟩ := q_16
      subst D_17
      subst d_18
      show AW p l e _ s m args below meth c E M_G_steps1 true _ n _ _ _ [(2, v0), (0, v1), (0, v2), (0, v3)] [(0, r_15)] C
      refine AW.ra_n (dc hd_G_steps1 89 rfl) rfl rfl rfl ?_
      refine AW.iload_n (dc hd_G_steps1 90 rfl) rfl ?_
      refine AW.iconst (dc hd_G_steps1 91 rfl) (by decide) ?_
      refine AW.isub (dc hd_G_steps1 92 rfl) ?_
      refine AW.iload_n (dc hd_G_steps1 93 rfl) rfl ?_
      refine AW.callV (As := [(0, w32 (v1 - 1)), (0, v3)]) (rest := [(0, r_15)]) (ci := 10) (m_G_floorAt l E n C v0 (w32 (v1 - 1)) v3 _ h) cb_10_233 im_G_floorAt se_G_floorAt ⟨_, _, rfl⟩ (by decide) (dc hd_G_steps1 94 rfl) g_11 rfl rfl ⟨Nat.le_of_ble_eq_true rfl, Nat.le_of_ble_eq_true rfl⟩ ⟨(Nat.le_of_ble_eq_true rfl), (Nat.le_of_ble_eq_true rfl)⟩ (Nat.le_of_ble_eq_true rfl) (fun _ h => by cases h) (fun _ => rfl) (fun r_19 D_21 d_22 q_20 => ?_)
      obtain ⟨q_20a, q_20b, h⟩ := q_20
      subst D_21
      subst d_22
      show AW p l e _ s m args below meth c E M_G_steps1 true _ n _ _ _ [(2, v0), (0, v1), (0, v2), (0, v3)] [(0, r_19), (0, r_15)] C
      refine AW.icmp_eq (t := 171) (dc hd_G_steps1 95 rfl) (by decide) (fun c_23 => ?_) (fun c_23 => ?_)
      · have h := h.1 c_23
        exact aJ_G_steps1_171 n C v0 v1 v2 v3 kz54 kz64 kz121 Q hkz54 hkz64 hkz121 h
      · have h := h.2 c_23
        refine AW.ra_n (dc hd_G_steps1 96 rfl) rfl rfl rfl ?_
        refine AW.iload_n (dc hd_G_steps1 97 rfl) rfl ?_
        refine AW.iload_n (dc hd_G_steps1 98 rfl) rfl ?_
        refine AW.callV (As := [(0, v1), (0, v2)]) (rest := []) (ci := 10) (m_G_roofAt l E n C v0 v1 v2 _ h) cb_10_236 im_G_roofAt se_G_roofAt ⟨_, _, rfl⟩ (by decide) (dc hd_G_steps1 99 rfl) g_11 rfl rfl ⟨Nat.le_of_ble_eq_true rfl, Nat.le_of_ble_eq_true rfl⟩ ⟨(Nat.le_of_ble_eq_true rfl), (Nat.le_of_ble_eq_true rfl)⟩ (Nat.le_of_ble_eq_true rfl) (fun _ h => by cases h) (fun _ => rfl) (fun r_36 D_38 d_39 q_37 => ?_)
        obtain ⟨q_37a, q_37b, h⟩ := q_37
        subst D_38
        subst d_39
        show AW p l e _ s m args below meth c E M_G_steps1 true _ n _ _ _ [(2, v0), (0, v1), (0, v2), (0, v3)] [(0, r_36)] C
        refine AW.ra_n (dc hd_G_steps1 100 rfl) rfl rfl rfl ?_
        refine AW.iload_n (dc hd_G_steps1 101 rfl) rfl ?_
        refine AW.iconst (dc hd_G_steps1 102 rfl) (by decide) ?_
        refine AW.isub (dc hd_G_steps1 103 rfl) ?_
        refine AW.iload_n (dc hd_G_steps1 104 rfl) rfl ?_
        refine AW.callV (As := [(0, w32 (v1 - 1)), (0, v3)]) (rest := [(0, r_36)]) (ci := 10) (m_G_roofAt l E n C v0 (w32 (v1 - 1)) v3 _ h) cb_10_236 im_G_roofAt se_G_roofAt ⟨_, _, rfl⟩ (by decide) (dc hd_G_steps1 105 rfl) g_11 rfl rfl ⟨Nat.le_of_ble_eq_true rfl, Nat.le_of_ble_eq_true rfl⟩ ⟨(Nat.le_of_ble_eq_true rfl), (Nat.le_of_ble_eq_true rfl)⟩ (Nat.le_of_ble_eq_true rfl) (fun _ h => by cases h) (fun _ => rfl) (fun r_40 D_42 d_43 q_41 => ?_)
        obtain ⟨q_41a, q_41b, h⟩ := q_41
        subst D_42
        subst d_43
        show AW p l e _ s m args below meth c E M_G_steps1 true _ n _ _ _ [(2, v0), (0, v1), (0, v2), (0, v3)] [(0, r_40), (0, r_36)] C
        refine AW.icmp_ne (t := 194) (dc hd_G_steps1 106 rfl) (by decide) (fun c_44 => ?_) (fun c_44 => ?_)
        · have h := h.2 c_44
          refine AW.iinc [(2, v0), (0, v1), (0, v2), (0, w32 (v3 + 1))] (dc hd_G_steps1 124 rfl) rfl (Nat.le_of_ble_eq_true rfl) rfl rfl ?_
          refine AW.goto (t := 121) (dc hd_G_steps1 125 rfl) (by decide) ?_
          exact hkz121 C (w32 (v3 + 1)) h
        · have h := h.1 c_44
          exact aJ_G_steps1_171 n C v0 v1 v2 v3 kz54 kz64 kz121 Q hkz54 hkz64 hkz121 h
theorem aB_G_steps1_121 (n : Nat) (v0 v1 v2 : Int) (kz54 : Cn × Int → Prop) (kz64 : Cn × Int → Prop) (Q : Int → Cn → Prop) (hkz54 : ∀ (Cz : Cn) (z1 : Int), kz54 (Cz, z1) → AW p l e R s m args below meth c E M_G_steps1 true (fun r C2 n2 => n2 = n ∧ Q r C2) n 0 0 54 [(2, v0), (0, z1), (9, 0), (9, 0)] [] Cz) (hkz64 : ∀ (Cz : Cn) (z2 : Int), kz64 (Cz, z2) → AW p l e R s m args below meth c E M_G_steps1 true (fun r C2 n2 => n2 = n ∧ Q r C2) n 0 0 64 [(2, v0), (0, v1), (0, z2), (9, 0)] [] Cz) : ∀ (f : Nat) (z : Cn × Int), lp (B_G_steps1_121 n v0 v1 v2 kz54 kz64 Q) f z → AW p l e R s m args below meth c E M_G_steps1 true (fun r C2 n2 => n2 = n ∧ Q r C2) n 0 0 121 [(2, v0), (0, v1), (0, v2), (0, z.2)] [] (z.1) := by
  intro f
  induction f with
  | zero => intro z h; exact False.elim h
  | succ f ih => intro z h; exact bB_G_steps1_121 n v0 v1 v2 kz54 kz64 Q hkz54 hkz64 (lp (B_G_steps1_121 n v0 v1 v2 kz54 kz64 Q) f) (fun a0 a1 h => ih (a0, a1) h) z.1 z.2 h
def B_G_steps1_64 (n : Nat) (v0 v1 : Int) (kz54 : Cn × Int → Prop) (Q : Int → Cn → Prop) (kz64 : Cn × Int → Prop) (z : Cn × Int) : Prop := match z with
  | (C, v2) => okO n v0 10 ∧ (okO n (PT v0.toNat 15) 12 ∧ (okI (PT v0.toNat 15) v1 ∧ ((C (PT v0.toNat 15).toNat v1.toNat < v2 → (kz54 (C, w32 (v1 + 1)))) ∧ (¬ C (PT v0.toNat 15).toNat v1.toNat < v2 → ((v2 ≤ 0 → (∃ f_45 : Nat, lp (B_G_steps1_121 n v0 v1 v2 kz54 kz64 Q) f_45 (C, 0))) ∧ (¬ v2 ≤ 0 → (okO n (PT v0.toNat 17) 17 ∧ (okI (PT v0.toNat 17) v1 ∧ (okO n (PT (PT v0.toNat 17).toNat v1.toNat) 12 ∧ (okI (PT (PT v0.toNat 17).toNat v1.toNat) (w32 (v2 - 1)) ∧ (okI (PT (PT v0.toNat 17).toNat v1.toNat) v2 ∧ (okO n (PT v0.toNat 16) 17 ∧ (okI (PT v0.toNat 16) v1 ∧ (okO n (PT (PT v0.toNat 16).toNat v1.toNat) 12 ∧ (okI (PT (PT v0.toNat 16).toNat v1.toNat) (w32 (v2 - 1)) ∧ (okO n (PT v0.toNat 1) 17 ∧ (okI (PT v0.toNat 1) (C (PT (PT v0.toNat 16).toNat v1.toNat).toNat (w32 (v2 - 1)).toNat) ∧ (P_G_toll n C v0 (PT (PT v0.toNat 1).toNat (C (PT (PT v0.toNat 16).toNat v1.toNat).toNat (w32 (v2 - 1)).toNat).toNat) (fun (r_57 : Int) => P_G_mayGo n C v0 (C (PT (PT v0.toNat 17).toNat v1.toNat).toNat (w32 (v2 - 1)).toNat) (C (PT (PT v0.toNat 17).toNat v1.toNat).toNat v2.toNat) r_57 (fun (_ : Int) (C_61 : Cn) => ∃ f_65 : Nat, lp (B_G_steps1_121 n v0 v1 v2 kz54 kz64 Q) f_65 (C_61, 0)))))))))))))))))))))
theorem bB_G_steps1_64 (n : Nat) (v0 v1 : Int) (kz54 : Cn × Int → Prop) (Q : Int → Cn → Prop) (hkz54 : ∀ (Cz : Cn) (z1 : Int), kz54 (Cz, z1) → AW p l e R s m args below meth c E M_G_steps1 true (fun r C2 n2 => n2 = n ∧ Q r C2) n 0 0 54 [(2, v0), (0, z1), (9, 0), (9, 0)] [] Cz) (kz64 : Cn × Int → Prop) (hkz64 : ∀ (Cz : Cn) (z2 : Int), kz64 (Cz, z2) → AW p l e R s m args below meth c E M_G_steps1 true (fun r C2 n2 => n2 = n ∧ Q r C2) n 0 0 64 [(2, v0), (0, v1), (0, z2), (9, 0)] [] Cz) (C : Cn) (v2 : Int) (h : B_G_steps1_64 n v0 v1 kz54 Q kz64 (C, v2)) : AW p l e R s m args below meth c E M_G_steps1 true (fun r C2 n2 => n2 = n ∧ Q r C2) n 0 0 64 [(2, v0), (0, v1), (0, v2), (9, 0)] [] C := by
  unfold B_G_steps1_64 at h
  dsimp only at h
  refine AW.iload_n (dc hd_G_steps1 36 rfl) rfl ?_
  refine AW.ra_n (dc hd_G_steps1 37 rfl) rfl rfl rfl ?_
  obtain ⟨g_5, h⟩ := h
  refine AW.getp fl_10_40 (dc hd_G_steps1 38 rfl) g_5 rfl ?_
  refine AW.iload_n (dc hd_G_steps1 39 rfl) rfl ?_
  obtain ⟨g_6, h⟩ := h
  obtain ⟨g_7, h⟩ := h
  refine AW.iald (dc hd_G_steps1 40 rfl) g_6 g_7 ?_
  refine AW.icmp_gt (t := 206) (dc hd_G_steps1 41 rfl) (by decide) (fun c_8 => ?_) (fun c_8 => ?_)
  · have h := h.1 c_8
    refine AW.iinc [(2, v0), (0, w32 (v1 + 1)), (0, v2), (9, 0)] (dc hd_G_steps1 128 rfl) rfl (Nat.le_of_ble_eq_true rfl) rfl rfl ?_
    refine AW.goto (t := 54) (dc hd_G_steps1 129 rfl) (by decide) ?_
    refine AW.fgt [(2, v0), (0, w32 (v1 + 1)), (9, 0), (9, 0)] ⟨.inl rfl, .inl rfl, .inr rfl, .inl rfl, trivial⟩ ?_
    exact hkz54 C (w32 (v1 + 1)) h
  · have h := h.2 c_8
    refine AW.iload_n (dc hd_G_steps1 42 rfl) rfl ?_
    refine AW.if_le (t := 119) (dc hd_G_steps1 43 rfl) (by decide) (fun c_9 => ?_) (fun c_9 => ?_)
    · have h := h.1 c_9
      refine AW.iconst (dc hd_G_steps1 73 rfl) (by decide) ?_
      refine AW.istore_n [(2, v0), (0, v1), (0, v2), (0, 0)] (dc hd_G_steps1 74 rfl) (Nat.le_of_ble_eq_true rfl) rfl rfl ?_
      obtain ⟨f_45, h⟩ := h
      exact aB_G_steps1_121 n v0 v1 v2 kz54 kz64 Q hkz54 hkz64 f_45 (C, 0) h
    · have h := h.2 c_9
      refine AW.ra_n (dc hd_G_steps1 44 rfl) rfl rfl rfl ?_
      refine AW.ra_n (dc hd_G_steps1 45 rfl) rfl rfl rfl ?_
      refine AW.getp fl_10_46 (dc hd_G_steps1 46 rfl) g_5 rfl ?_
      refine AW.iload_n (dc hd_G_steps1 47 rfl) rfl ?_
      obtain ⟨g_46, h⟩ := h
      obtain ⟨g_47, h⟩ := h
      refine AW.aaldp (by decide) (dc hd_G_steps1 48 rfl) g_46 g_47 rfl ?_
      refine AW.iload_n (dc hd_G_steps1 49 rfl) rfl ?_
      refine AW.iconst (dc hd_G_steps1 50 rfl) (by decide) ?_
      refine AW.isub (dc hd_G_steps1 51 rfl) ?_
      obtain ⟨g_48, h⟩ := h
      obtain ⟨g_49, h⟩ := h
      refine AW.iald (dc hd_G_steps1 52 rfl) g_48 g_49 ?_
      refine AW.ra_n (dc hd_G_steps1 53 rfl) rfl rfl rfl ?_
      refine AW.getp fl_10_46 (dc hd_G_steps1 54 rfl) g_5 rfl ?_
      refine AW.iload_n (dc hd_G_steps1 55 rfl) rfl ?_
      refine AW.aaldp (by decide) (dc hd_G_steps1 56 rfl) g_46 g_47 rfl ?_
      refine AW.iload_n (dc hd_G_steps1 57 rfl) rfl ?_
      obtain ⟨g_50, h⟩ := h
      refine AW.iald (dc hd_G_steps1 58 rfl) g_48 g_50 ?_
      refine AW.ra_n (dc hd_G_steps1 59 rfl) rfl rfl rfl ?_
      refine AW.ra_n (dc hd_G_steps1 60 rfl) rfl rfl rfl ?_
      refine AW.getp fl_10_11 (dc hd_G_steps1 61 rfl) g_5 rfl ?_
      refine AW.ra_n (dc hd_G_steps1 62 rfl) rfl rfl rfl ?_
      refine AW.getp fl_10_43 (dc hd_G_steps1 63 rfl) g_5 rfl ?_
      refine AW.iload_n (dc hd_G_steps1 64 rfl) rfl ?_
      obtain ⟨g_51, h⟩ := h
      obtain ⟨g_52, h⟩ := h
      refine AW.aaldp (by decide) (dc hd_G_steps1 65 rfl) g_51 g_52 rfl ?_
      refine AW.iload_n (dc hd_G_steps1 66 rfl) rfl ?_
      refine AW.iconst (dc hd_G_steps1 67 rfl) (by decide) ?_
      refine AW.isub (dc hd_G_steps1 68 rfl) ?_
      obtain ⟨g_53, h⟩ := h
      obtain ⟨g_54, h⟩ := h
      refine AW.iald (dc hd_G_steps1 69 rfl) g_53 g_54 ?_
      obtain ⟨g_55, h⟩ := h
      obtain ⟨g_56, h⟩ := h
      refine AW.aaldp (by decide) (dc hd_G_steps1 70 rfl) g_55 g_56 rfl ?_
      refine AW.callV (As := [(2, PT (PT v0.toNat 1).toNat (C (PT (PT v0.toNat 16).toNat v1.toNat).toNat (w32 (v2 - 1)).toNat).toNat)]) (rest := [(0, C (PT (PT v0.toNat 17).toNat v1.toNat).toNat v2.toNat), (0, C (PT (PT v0.toNat 17).toNat v1.toNat).toNat (w32 (v2 - 1)).toNat), (2, v0)]) (ci := 10) (m_G_toll l E n C v0 (PT (PT v0.toNat 1).toNat (C (PT (PT v0.toNat 16).toNat v1.toNat).toNat (w32 (v2 - 1)).toNat).toNat) _ h) cb_10_207 im_G_toll se_G_toll ⟨_, _, rfl⟩ (by decide) (dc hd_G_steps1 71 rfl) g_5 rfl rfl ⟨Nat.le_of_ble_eq_true rfl, Nat.le_of_ble_eq_true rfl⟩ ⟨(Nat.le_of_ble_eq_true rfl), (Nat.le_of_ble_eq_true rfl)⟩ (Nat.le_of_ble_eq_true rfl) (fun _ h => by cases h) (fun _ => rfl) (fun r_57 D_59 d_60 q_58 => ?_)
      obtain ⟨q_58a, q_58b, h⟩ := q_58
      subst D_59
      subst d_60
      show AW p l e _ s m args below meth c E M_G_steps1 true _ n _ _ _ [(2, v0), (0, v1), (0, v2), (9, 0)] [(0, r_57), (0, C (PT (PT v0.toNat 17).toNat v1.toNat).toNat v2.toNat), (0, C (PT (PT v0.toNat 17).toNat v1.toNat).toNat (w32 (v2 - 1)).toNat), (2, v0)] C
      refine AW.callV (As := [(0, C (PT (PT v0.toNat 17).toNat v1.toNat).toNat (w32 (v2 - 1)).toNat), (0, C (PT (PT v0.toNat 17).toNat v1.toNat).toNat v2.toNat), (0, r_57)]) (rest := []) (ci := 10) (m_G_mayGo l E n C v0 (C (PT (PT v0.toNat 17).toNat v1.toNat).toNat (w32 (v2 - 1)).toNat) (C (PT (PT v0.toNat 17).toNat v1.toNat).toNat v2.toNat) r_57 _ h) cb_10_340 im_G_mayGo se_G_mayGo ⟨_, _, rfl⟩ (by decide) (dc hd_G_steps1 72 rfl) g_5 rfl rfl ⟨Nat.le_of_ble_eq_true rfl, Nat.le_of_ble_eq_true rfl⟩ ⟨(Nat.le_of_ble_eq_true rfl), (Nat.le_of_ble_eq_true rfl)⟩ (Nat.le_of_ble_eq_true rfl) (fun _ h => by cases h) (fun _ => rfl) (fun u_63 C_61 d_64 q_62 => ?_)
      obtain ⟨q_62a, h⟩ := q_62
      subst d_64
      show AW p l e _ s m args below meth c E M_G_steps1 true _ n _ _ _ [(2, v0), (0, v1), (0, v2), (9, 0)] [] C_61
      refine AW.iconst (dc hd_G_steps1 73 rfl) (by decide) ?_
      refine AW.istore_n [(2, v0), (0, v1), (0, v2), (0, 0)] (dc hd_G_steps1 74 rfl) (Nat.le_of_ble_eq_true rfl) rfl rfl ?_
      obtain ⟨f_65, h⟩ := h
      exact aB_G_steps1_121 n v0 v1 v2 kz54 kz64 Q hkz54 hkz64 f_65 (C_61, 0) h
theorem aB_G_steps1_64 (n : Nat) (v0 v1 : Int) (kz54 : Cn × Int → Prop) (Q : Int → Cn → Prop) (hkz54 : ∀ (Cz : Cn) (z1 : Int), kz54 (Cz, z1) → AW p l e R s m args below meth c E M_G_steps1 true (fun r C2 n2 => n2 = n ∧ Q r C2) n 0 0 54 [(2, v0), (0, z1), (9, 0), (9, 0)] [] Cz) : ∀ (f : Nat) (z : Cn × Int), lp (B_G_steps1_64 n v0 v1 kz54 Q) f z → AW p l e R s m args below meth c E M_G_steps1 true (fun r C2 n2 => n2 = n ∧ Q r C2) n 0 0 64 [(2, v0), (0, v1), (0, z.2), (9, 0)] [] (z.1) := by
  intro f
  induction f with
  | zero => intro z h; exact False.elim h
  | succ f ih => intro z h; exact bB_G_steps1_64 n v0 v1 kz54 Q hkz54 (lp (B_G_steps1_64 n v0 v1 kz54 Q) f) (fun a0 a1 h => ih (a0, a1) h) z.1 z.2 h
def B_G_steps1_54 (n : Nat) (v0 : Int) (Q : Int → Cn → Prop) (kz54 : Cn × Int → Prop) (z : Cn × Int) : Prop := match z with
  | (C, v1) => okO n v0 10 ∧ ((C v0.toNat 10 < v1 → (Q 0 C)) ∧ (¬ C v0.toNat 10 < v1 → (∃ f_66 : Nat, lp (B_G_steps1_64 n v0 v1 kz54 Q) f_66 (C, 0))))
theorem bB_G_steps1_54 (n : Nat) (v0 : Int) (Q : Int → Cn → Prop) (kz54 : Cn × Int → Prop) (hkz54 : ∀ (Cz : Cn) (z1 : Int), kz54 (Cz, z1) → AW p l e R s m args below meth c E M_G_steps1 true (fun r C2 n2 => n2 = n ∧ Q r C2) n 0 0 54 [(2, v0), (0, z1), (9, 0), (9, 0)] [] Cz) (C : Cn) (v1 : Int) (h : B_G_steps1_54 n v0 Q kz54 (C, v1)) : AW p l e R s m args below meth c E M_G_steps1 true (fun r C2 n2 => n2 = n ∧ Q r C2) n 0 0 54 [(2, v0), (0, v1), (9, 0), (9, 0)] [] C := by
  unfold B_G_steps1_54 at h
  dsimp only at h
  refine AW.iload_n (dc hd_G_steps1 30 rfl) rfl ?_
  refine AW.ra_n (dc hd_G_steps1 31 rfl) rfl rfl rfl ?_
  obtain ⟨g_3, h⟩ := h
  refine AW.getf fl_10_221 (dc hd_G_steps1 32 rfl) g_3 ?_
  refine AW.icmp_gt (t := 212) (dc hd_G_steps1 33 rfl) (by decide) (fun c_4 => ?_) (fun c_4 => ?_)
  · have h := h.1 c_4
    exact AW.vret (dc hd_G_steps1 130 rfl) rfl rfl (Nat.le_of_ble_eq_true rfl) (Nat.le_of_ble_eq_true rfl) ⟨rfl, h⟩
  · have h := h.2 c_4
    refine AW.iconst (dc hd_G_steps1 34 rfl) (by decide) ?_
    refine AW.istore_n [(2, v0), (0, v1), (0, 0), (9, 0)] (dc hd_G_steps1 35 rfl) (Nat.le_of_ble_eq_true rfl) rfl rfl ?_
    obtain ⟨f_66, h⟩ := h
    exact aB_G_steps1_64 n v0 v1 kz54 Q hkz54 f_66 (C, 0) h
theorem aB_G_steps1_54 (n : Nat) (v0 : Int) (Q : Int → Cn → Prop) : ∀ (f : Nat) (z : Cn × Int), lp (B_G_steps1_54 n v0 Q) f z → AW p l e R s m args below meth c E M_G_steps1 true (fun r C2 n2 => n2 = n ∧ Q r C2) n 0 0 54 [(2, v0), (0, z.2), (9, 0), (9, 0)] [] (z.1) := by
  intro f
  induction f with
  | zero => intro z h; exact False.elim h
  | succ f ih => intro z h; exact bB_G_steps1_54 n v0 Q (lp (B_G_steps1_54 n v0 Q) f) (fun a0 a1 h => ih (a0, a1) h) z.1 z.2 h
def B_G_steps1_12 (n : Nat) (v0 v1 : Int) (kz2 : Cn × Int → Prop) (Q : Int → Cn → Prop) (kz12 : Cn × Int → Prop) (z : Cn × Int) : Prop := match z with
  | (C, v2) => okO n v0 10 ∧ ((C v0.toNat 18 ≤ v2 → (kz2 (C, w32 (v1 + 1)))) ∧ (¬ C v0.toNat 18 ≤ v2 → (okO n (PT v0.toNat 32) 17 ∧ (okI (PT v0.toNat 32) v1 ∧ ((v1 = v2 → (okO n (PT (PT v0.toNat 32).toNat v1.toNat) 12 ∧ (okI (PT (PT v0.toNat 32).toNat v1.toNat) v2 ∧ (∀ C_78 : Cn, C_78 = wr C (PT (PT v0.toNat 32).toNat v1.toNat).toNat v2.toNat 0 → (kz12 (C_78, w32 (v2 + 1))))))) ∧ (¬ v1 = v2 → (okO n (PT (PT v0.toNat 32).toNat v1.toNat) 12 ∧ (okI (PT (PT v0.toNat 32).toNat v1.toNat) v2 ∧ (∀ C_75 : Cn, C_75 = wr C (PT (PT v0.toNat 32).toNat v1.toNat).toNat v2.toNat 1000000 → (kz12 (C_75, w32 (v2 + 1))))))))))))
theorem bB_G_steps1_12 (n : Nat) (v0 v1 : Int) (kz2 : Cn × Int → Prop) (Q : Int → Cn → Prop) (hkz2 : ∀ (Cz : Cn) (z1 : Int), kz2 (Cz, z1) → AW p l e R s m args below meth c E M_G_steps1 true (fun r C2 n2 => n2 = n ∧ Q r C2) n 0 0 2 [(2, v0), (0, z1), (9, 0), (9, 0)] [] Cz) (kz12 : Cn × Int → Prop) (hkz12 : ∀ (Cz : Cn) (z2 : Int), kz12 (Cz, z2) → AW p l e R s m args below meth c E M_G_steps1 true (fun r C2 n2 => n2 = n ∧ Q r C2) n 0 0 12 [(2, v0), (0, v1), (0, z2), (9, 0)] [] Cz) (C : Cn) (v2 : Int) (h : B_G_steps1_12 n v0 v1 kz2 Q kz12 (C, v2)) : AW p l e R s m args below meth c E M_G_steps1 true (fun r C2 n2 => n2 = n ∧ Q r C2) n 0 0 12 [(2, v0), (0, v1), (0, v2), (9, 0)] [] C := by
  unfold B_G_steps1_12 at h
  dsimp only at h
  refine AW.iload_n (dc hd_G_steps1 8 rfl) rfl ?_
  refine AW.ra_n (dc hd_G_steps1 9 rfl) rfl rfl rfl ?_
  obtain ⟨g_68, h⟩ := h
  refine AW.getf fl_10_214 (dc hd_G_steps1 10 rfl) g_68 ?_
  refine AW.icmp_ge (t := 46) (dc hd_G_steps1 11 rfl) (by decide) (fun c_69 => ?_) (fun c_69 => ?_)
  · have h := h.1 c_69
    refine AW.iinc [(2, v0), (0, w32 (v1 + 1)), (0, v2), (9, 0)] (dc hd_G_steps1 26 rfl) rfl (Nat.le_of_ble_eq_true rfl) rfl rfl ?_
    refine AW.goto (t := 2) (dc hd_G_steps1 27 rfl) (by decide) ?_
    refine AW.fgt [(2, v0), (0, w32 (v1 + 1)), (9, 0), (9, 0)] ⟨.inl rfl, .inl rfl, .inr rfl, .inl rfl, trivial⟩ ?_
    exact hkz2 C (w32 (v1 + 1)) h
  · have h := h.2 c_69
    refine AW.ra_n (dc hd_G_steps1 12 rfl) rfl rfl rfl ?_
    refine AW.getp fl_10_70 (dc hd_G_steps1 13 rfl) g_68 rfl ?_
    refine AW.iload_n (dc hd_G_steps1 14 rfl) rfl ?_
    obtain ⟨g_70, h⟩ := h
    obtain ⟨g_71, h⟩ := h
    refine AW.aaldp (by decide) (dc hd_G_steps1 15 rfl) g_70 g_71 rfl ?_
    refine AW.iload_n (dc hd_G_steps1 16 rfl) rfl ?_
    refine AW.iload_n (dc hd_G_steps1 17 rfl) rfl ?_
    refine AW.iload_n (dc hd_G_steps1 18 rfl) rfl ?_
    refine AW.icmp_ne (t := 36) (dc hd_G_steps1 19 rfl) (by decide) (fun c_72 => ?_) (fun c_72 => ?_)
    · have h := h.2 c_72
      refine AW.ldc_w (v := 1000000) (dc hd_G_steps1 22 rfl) ck_10_339 (by decide) rfl ?_
      obtain ⟨g_73, h⟩ := h
      obtain ⟨g_74, h⟩ := h
      refine AW.niast (dc hd_G_steps1 23 rfl) g_73 g_74 (fun C_75 eC_75 => ?_)
      have h := h C_75 eC_75
      refine AW.iinc [(2, v0), (0, v1), (0, w32 (v2 + 1)), (9, 0)] (dc hd_G_steps1 24 rfl) rfl (Nat.le_of_ble_eq_true rfl) rfl rfl ?_
      refine AW.goto (t := 12) (dc hd_G_steps1 25 rfl) (by decide) ?_
      exact hkz12 C_75 (w32 (v2 + 1)) h
    · have h := h.1 c_72
      refine AW.iconst (dc hd_G_steps1 20 rfl) (by decide) ?_
      refine AW.goto (t := 39) (dc hd_G_steps1 21 rfl) (by decide) ?_
      obtain ⟨g_76, h⟩ := h
      obtain ⟨g_77, h⟩ := h
      refine AW.niast (dc hd_G_steps1 23 rfl) g_76 g_77 (fun C_78 eC_78 => ?_)
      have h := h C_78 eC_78
      refine AW.iinc [(2, v0), (0, v1), (0, w32 (v2 + 1)), (9, 0)] (dc hd_G_steps1 24 rfl) rfl (Nat.le_of_ble_eq_true rfl) rfl rfl ?_
      refine AW.goto (t := 12) (dc hd_G_steps1 25 rfl) (by decide) ?_
      exact hkz12 C_78 (w32 (v2 + 1)) h
theorem aB_G_steps1_12 (n : Nat) (v0 v1 : Int) (kz2 : Cn × Int → Prop) (Q : Int → Cn → Prop) (hkz2 : ∀ (Cz : Cn) (z1 : Int), kz2 (Cz, z1) → AW p l e R s m args below meth c E M_G_steps1 true (fun r C2 n2 => n2 = n ∧ Q r C2) n 0 0 2 [(2, v0), (0, z1), (9, 0), (9, 0)] [] Cz) : ∀ (f : Nat) (z : Cn × Int), lp (B_G_steps1_12 n v0 v1 kz2 Q) f z → AW p l e R s m args below meth c E M_G_steps1 true (fun r C2 n2 => n2 = n ∧ Q r C2) n 0 0 12 [(2, v0), (0, v1), (0, z.2), (9, 0)] [] (z.1) := by
  intro f
  induction f with
  | zero => intro z h; exact False.elim h
  | succ f ih => intro z h; exact bB_G_steps1_12 n v0 v1 kz2 Q hkz2 (lp (B_G_steps1_12 n v0 v1 kz2 Q) f) (fun a0 a1 h => ih (a0, a1) h) z.1 z.2 h
def B_G_steps1_2 (n : Nat) (v0 : Int) (Q : Int → Cn → Prop) (kz2 : Cn × Int → Prop) (z : Cn × Int) : Prop := match z with
  | (C, v1) => okO n v0 10 ∧ ((C v0.toNat 18 ≤ v1 → (∃ f_67 : Nat, lp (B_G_steps1_54 n v0 Q) f_67 (C, 0))) ∧ (¬ C v0.toNat 18 ≤ v1 → (∃ f_79 : Nat, lp (B_G_steps1_12 n v0 v1 kz2 Q) f_79 (C, 0))))
theorem bB_G_steps1_2 (n : Nat) (v0 : Int) (Q : Int → Cn → Prop) (kz2 : Cn × Int → Prop) (hkz2 : ∀ (Cz : Cn) (z1 : Int), kz2 (Cz, z1) → AW p l e R s m args below meth c E M_G_steps1 true (fun r C2 n2 => n2 = n ∧ Q r C2) n 0 0 2 [(2, v0), (0, z1), (9, 0), (9, 0)] [] Cz) (C : Cn) (v1 : Int) (h : B_G_steps1_2 n v0 Q kz2 (C, v1)) : AW p l e R s m args below meth c E M_G_steps1 true (fun r C2 n2 => n2 = n ∧ Q r C2) n 0 0 2 [(2, v0), (0, v1), (9, 0), (9, 0)] [] C := by
  unfold B_G_steps1_2 at h
  dsimp only at h
  refine AW.iload_n (dc hd_G_steps1 2 rfl) rfl ?_
  refine AW.ra_n (dc hd_G_steps1 3 rfl) rfl rfl rfl ?_
  obtain ⟨g_1, h⟩ := h
  refine AW.getf fl_10_214 (dc hd_G_steps1 4 rfl) g_1 ?_
  refine AW.icmp_ge (t := 52) (dc hd_G_steps1 5 rfl) (by decide) (fun c_2 => ?_) (fun c_2 => ?_)
  · have h := h.1 c_2
    refine AW.iconst (dc hd_G_steps1 28 rfl) (by decide) ?_
    refine AW.istore_n [(2, v0), (0, 0), (9, 0), (9, 0)] (dc hd_G_steps1 29 rfl) (Nat.le_of_ble_eq_true rfl) rfl rfl ?_
    obtain ⟨f_67, h⟩ := h
    exact aB_G_steps1_54 n v0 Q f_67 (C, 0) h
  · have h := h.2 c_2
    refine AW.iconst (dc hd_G_steps1 6 rfl) (by decide) ?_
    refine AW.istore_n [(2, v0), (0, v1), (0, 0), (9, 0)] (dc hd_G_steps1 7 rfl) (Nat.le_of_ble_eq_true rfl) rfl rfl ?_
    obtain ⟨f_79, h⟩ := h
    exact aB_G_steps1_12 n v0 v1 kz2 Q hkz2 f_79 (C, 0) h
theorem aB_G_steps1_2 (n : Nat) (v0 : Int) (Q : Int → Cn → Prop) : ∀ (f : Nat) (z : Cn × Int), lp (B_G_steps1_2 n v0 Q) f z → AW p l e R s m args below meth c E M_G_steps1 true (fun r C2 n2 => n2 = n ∧ Q r C2) n 0 0 2 [(2, v0), (0, z.2), (9, 0), (9, 0)] [] (z.1) := by
  intro f
  induction f with
  | zero => intro z h; exact False.elim h
  | succ f ih => intro z h; exact bB_G_steps1_2 n v0 Q (lp (B_G_steps1_2 n v0 Q) f) (fun a0 a1 h => ih (a0, a1) h) z.1 z.2 h
def P_G_steps1 (n : Nat) (C : Cn) (v0 : Int) (Q : Int → Cn → Prop) : Prop :=
  ∃ f_80 : Nat, lp (B_G_steps1_2 n v0 Q) f_80 (C, 0)
theorem m_G_steps1 (l : Launch) (E : Ev) (n : Nat) (C : Cn) (v0 : Int) (Q : Int → Cn → Prop) (h : P_G_steps1 n C v0 Q) : MA l y_G_steps1 M_G_steps1 E true C n [(2, v0)] (fun r C2 n2 => n2 = n ∧ Q r C2) := by
  refine MA.of (by decide) rfl rfl 3 rfl (fun p e s m args below meth c => ?_)
  show AW p l e _ s m args below meth c E M_G_steps1 true _ n 0 0 0 [(2, v0), (9, 0), (9, 0), (9, 0)] [] C
  unfold P_G_steps1 at h
  refine AW.iconst (dc hd_G_steps1 0 rfl) (by decide) ?_
  refine AW.istore_n [(2, v0), (0, 0), (9, 0), (9, 0)] (dc hd_G_steps1 1 rfl) (Nat.le_of_ble_eq_true rfl) rfl rfl ?_
  obtain ⟨f_80, h⟩ := h
  exact aB_G_steps1_2 n v0 Q f_80 (C, 0) h
end
