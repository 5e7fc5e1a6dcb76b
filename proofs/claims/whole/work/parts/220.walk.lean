section
variable {p : Program} {l : Launch} {e : Env} {R : Room} {s : State} {m : MethodId} {args : Array Value} {below : List Frame} {meth : Method} {c : Code} {E : Ev}
def P_Bl_init (n : Nat) (C : Cn) (v0 : Int) (Q : Int → Cn → Prop) : Prop :=
  (0 : Int) < v0 ∧ (okO n v0 0 ∧ (∀ C_3 : Cn, C_3 = wr C v0.toNat 1 (-1) → (Q 0 C_3)))
theorem m_Bl_init (l : Launch) (E : Ev) (n : Nat) (C : Cn) (v0 : Int) (Q : Int → Cn → Prop) (h : P_Bl_init n C v0 Q) : MA l y_Bl_init M_Bl_init E false C n [(2, v0)] (fun r C2 n2 => n2 = n ∧ Q r C2) := by
  refine MA.of (by decide) rfl rfl 0 rfl (fun p e s m args below meth c => ?_)
  show AW p l e _ s m args below meth c E M_Bl_init false _ n 0 0 0 [(2, v0)] [] C
  unfold P_Bl_init at h
  refine AW.ra_n (dc hd_Bl_init 0 rfl) rfl rfl rfl ?_
  obtain ⟨g_1, h⟩ := h
  refine AW.objI (dc hd_Bl_init 1 rfl) oi_0_1 g_1 (Nat.le_of_ble_eq_true rfl) (Nat.le_of_ble_eq_true rfl) (Nat.le_of_ble_eq_true rfl) ?_
  refine AW.ra_n (dc hd_Bl_init 2 rfl) rfl rfl rfl ?_
  refine AW.iconst (dc hd_Bl_init 3 rfl) (by decide) ?_
  obtain ⟨g_2, h⟩ := h
  refine AW.nputI fl_0_7 (dc hd_Bl_init 4 rfl) g_2 (fun C_3 eC_3 => ?_)
  have h := h C_3 eC_3
  exact AW.vret (dc hd_Bl_init 5 rfl) rfl rfl (Nat.le_of_ble_eq_true rfl) (Nat.le_of_ble_eq_true rfl) ⟨rfl, h⟩
def P_Wa_init (n : Nat) (C : Cn) (v0 : Int) (Q : Int → Prop) : Prop :=
  (0 : Int) < v0 ∧ (Q 0)
theorem m_Wa_init (l : Launch) (E : Ev) (n : Nat) (C : Cn) (v0 : Int) (Q : Int → Prop) (h : P_Wa_init n C v0 Q) : MA l y_Wa_init M_Wa_init E false C n [(2, v0)] (fun r C2 n2 => C2 = C ∧ n2 = n ∧ Q r) := by
  refine MA.of (by decide) rfl rfl 0 rfl (fun p e s m args below meth c => ?_)
  show AW p l e _ s m args below meth c E M_Wa_init false _ n 0 0 0 [(2, v0)] [] C
  unfold P_Wa_init at h
  refine AW.ra_n (dc hd_Wa_init 0 rfl) rfl rfl rfl ?_
  obtain ⟨g_1, h⟩ := h
  refine AW.objI (dc hd_Wa_init 1 rfl) oi_7_3 g_1 (Nat.le_of_ble_eq_true rfl) (Nat.le_of_ble_eq_true rfl) (Nat.le_of_ble_eq_true rfl) ?_
  exact AW.vret (dc hd_Wa_init 2 rfl) rfl rfl (Nat.le_of_ble_eq_true rfl) (Nat.le_of_ble_eq_true rfl) ⟨rfl, rfl, h⟩
def B_Es_init_20 (v0 : Int) (Q : Int → Cn → Nat → Prop) (kz20 : Cn × Nat × Nat × Nat × Int → Prop) (z : Cn × Nat × Nat × Nat × Int) : Prop := match z with
  | (C, n, kc, ks, v1) => (6 ≤ v1 → (kc ≤ 7 ∧ (ks ≤ 42 ∧ (Q 0 C n)))) ∧ (¬ 6 ≤ v1 → (okO n v0 1 ∧ (LAY n = (7, 6) ∧ ((kc + 1) ≤ 7 ∧ ((ks + 6) ≤ 42 ∧ ((0 : Int) < ((n : Nat) : Int) ∧ (P_Wa_init (n + 1) C ((n : Nat) : Int) (fun (_ : Int) => okO (n + 1) (C v0.toNat 0) 16 ∧ (okI (C v0.toNat 0) v1 ∧ (okO (n + 1) ((n : Nat) : Int) 7 ∧ (∀ C_21 : Cn, C_21 = wr C (C v0.toNat 0).toNat v1.toNat ((n : Nat) : Int) → (kz20 (C_21, (n + 1), (kc + 1), (ks + 6), w32 (v1 + 1))))))))))))))
theorem bB_Es_init_20 (v0 : Int) (Q : Int → Cn → Nat → Prop) (kz20 : Cn × Nat × Nat × Nat × Int → Prop) (hkz20 : ∀ (Cz : Cn) (nz : Nat) (kcz : Nat) (ksz : Nat) (z1 : Int), kz20 (Cz, nz, kcz, ksz, z1) → AW p l e R s m args below meth c E M_Es_init false Q nz kcz ksz 20 [(2, v0), (0, z1)] [] Cz) (C : Cn) (n : Nat) (kc : Nat) (ks : Nat) (v1 : Int) (h : B_Es_init_20 v0 Q kz20 (C, n, kc, ks, v1)) : AW p l e R s m args below meth c E M_Es_init false Q n kc ks 20 [(2, v0), (0, v1)] [] C := by
  unfold B_Es_init_20 at h
  dsimp only at h
  refine AW.iload_n (dc hd_Es_init 11 rfl) rfl ?_
  refine AW.bipush (dc hd_Es_init 12 rfl) (by decide) (by decide +kernel) ?_
  refine AW.icmp_ge (t := 45) (dc hd_Es_init 13 rfl) (by decide) (fun c_6 => ?_) (fun c_6 => ?_)
  · have h := h.1 c_6
    obtain ⟨g_7, h⟩ := h
    obtain ⟨g_8, h⟩ := h
    exact AW.vret (dc hd_Es_init 23 rfl) rfl rfl g_7 g_8 h
  · have h := h.2 c_6
    refine AW.ra_n (dc hd_Es_init 14 rfl) rfl rfl rfl ?_
    obtain ⟨g_9, h⟩ := h
    refine AW.getf fl_1_11 (dc hd_Es_init 15 rfl) g_9 ?_
    refine AW.iload_n (dc hd_Es_init 16 rfl) rfl ?_
    obtain ⟨g_10, h⟩ := h
    obtain ⟨g_11, h⟩ := h
    obtain ⟨g_12, h⟩ := h
    refine AW.new kfX7 dvX7 (dc hd_Es_init 17 rfl) nw_1_9 g_10 (fun h => by cases h) g_11 g_12 ?_
    refine AW.rdup (dc hd_Es_init 18 rfl) rfl ?_
    obtain ⟨g_13, h⟩ := h
    refine AW.callIN (As := []) (rest := [(2, ((n : Nat) : Int)), (0, v1), (2, C v0.toNat 0)]) (m_Wa_init l E (n + 1) C ((n : Nat) : Int) _ h) cb_1_21 rfl im_Wa_init rfl (dc hd_Es_init 19 rfl) g_13 rfl rfl ⟨Nat.le_of_ble_eq_true rfl, Nat.le_of_ble_eq_true rfl⟩ ⟨g_11, g_12⟩ (Nat.le_of_ble_eq_true rfl) (fun h => by cases h) (fun h => by cases h) (fun u_15 D_16 d_17 q_14 => ?_)
    obtain ⟨q_14a, q_14b, h⟩ := q_14
    subst D_16
    subst d_17
    show AW p l e _ s m args below meth c E M_Es_init false _ (n + 1) _ _ _ [(2, v0), (0, v1)] [(2, ((n : Nat) : Int)), (0, v1), (2, C v0.toNat 0)] C
    obtain ⟨g_18, h⟩ := h
    obtain ⟨g_19, h⟩ := h
    obtain ⟨g_20, h⟩ := h
    refine AW.naast16 (dc hd_Es_init 20 rfl) g_18 g_19 g_20 rfl (fun C_21 eC_21 => ?_)
    have h := h C_21 eC_21
    refine AW.iinc [(2, v0), (0, w32 (v1 + 1))] (dc hd_Es_init 21 rfl) rfl (Nat.le_of_ble_eq_true rfl) rfl rfl ?_
    refine AW.goto (t := 20) (dc hd_Es_init 22 rfl) (by decide) ?_
    exact hkz20 C_21 (n + 1) (kc + 1) (ks + 6) (w32 (v1 + 1)) h
theorem aB_Es_init_20 (v0 : Int) (Q : Int → Cn → Nat → Prop) : ∀ (f : Nat) (z : Cn × Nat × Nat × Nat × Int), lp (B_Es_init_20 v0 Q) f z → AW p l e R s m args below meth c E M_Es_init false Q z.2.1 z.2.2.1 z.2.2.2.1 20 [(2, v0), (0, z.2.2.2.2)] [] (z.1) := by
  intro f
  induction f with
  | zero => intro z h; exact False.elim h
  | succ f ih => intro z h; exact bB_Es_init_20 v0 Q (lp (B_Es_init_20 v0 Q) f) (fun a0 a1 a2 a3 a4 h => ih (a0, a1, a2, a3, a4) h) z.1 z.2.1 z.2.2.1 z.2.2.2.1 z.2.2.2.2 h
def P_Es_init (n : Nat) (C : Cn) (v0 : Int) (Q : Int → Cn → Nat → Prop) : Prop :=
  (0 : Int) < v0 ∧ (LAY n = (16, 6) ∧ (okO (n + 1) v0 1 ∧ (∀ C_4 : Cn, C_4 = wr C v0.toNat 0 ((n : Nat) : Int) → (∀ C_5 : Cn, C_5 = wr C_4 v0.toNat 4 1 → (∃ f_22 : Nat, lp (B_Es_init_20 v0 Q) f_22 (C_5, (n + 1), 1, 6, 0))))))
theorem m_Es_init (l : Launch) (E : Ev) (n : Nat) (C : Cn) (v0 : Int) (Q : Int → Cn → Nat → Prop) (h : P_Es_init n C v0 Q) : MA l y_Es_init M_Es_init E false C n [(2, v0)] Q := by
  refine MA.of (by decide) rfl rfl 1 rfl (fun p e s m args below meth c => ?_)
  show AW p l e _ s m args below meth c E M_Es_init false _ n 0 0 0 [(2, v0), (9, 0)] [] C
  unfold P_Es_init at h
  refine AW.ra_n (dc hd_Es_init 0 rfl) rfl rfl rfl ?_
  obtain ⟨g_1, h⟩ := h
  refine AW.objI (dc hd_Es_init 1 rfl) oi_1_3 g_1 (Nat.le_of_ble_eq_true rfl) (Nat.le_of_ble_eq_true rfl) (Nat.le_of_ble_eq_true rfl) ?_
  refine AW.ra_n (dc hd_Es_init 2 rfl) rfl rfl rfl ?_
  refine AW.bipush (dc hd_Es_init 3 rfl) (by decide) (by decide +kernel) ?_
  obtain ⟨g_2, h⟩ := h
  refine AW.anew16 (dc hd_Es_init 4 rfl) nwa_1_9 g_2 (by decide) (fun h => by cases h) (Nat.le_of_ble_eq_true rfl) (Nat.le_of_ble_eq_true rfl) ?_
  obtain ⟨g_3, h⟩ := h
  refine AW.nputF fl_1_11 (dc hd_Es_init 5 rfl) g_3 (fun _ _ _ h => by cases h; rfl) rfl (fun o => by cases o <;> rfl) (fun o => by cases o <;> rfl) rfl (fun C_4 eC_4 => ?_)
  have h := h C_4 eC_4
  refine AW.ra_n (dc hd_Es_init 6 rfl) rfl rfl rfl ?_
  refine AW.iconst (dc hd_Es_init 7 rfl) (by decide) ?_
  refine AW.nputI fl_1_17 (dc hd_Es_init 8 rfl) g_3 (fun C_5 eC_5 => ?_)
  have h := h C_5 eC_5
  refine AW.iconst (dc hd_Es_init 9 rfl) (by decide) ?_
  refine AW.istore_n [(2, v0), (0, 0)] (dc hd_Es_init 10 rfl) (Nat.le_of_ble_eq_true rfl) rfl rfl ?_
  obtain ⟨f_22, h⟩ := h
  exact aB_Es_init_20 v0 Q f_22 (C_5, (n + 1), 1, 6, 0) h
def P_La_init (n : Nat) (C : Cn) (v0 : Int) (Q : Int → Cn → Nat → Prop) : Prop :=
  (0 : Int) < v0 ∧ (LAY n = (12, 12) ∧ (okO (n + 1) v0 2 ∧ (∀ C_4 : Cn, C_4 = wr C v0.toNat 2 ((n : Nat) : Int) → (LAY (n + 1) = (12, 12) ∧ (okO ((n + 1) + 1) v0 2 ∧ (∀ C_7 : Cn, C_7 = wr C_4 v0.toNat 3 (((n + 1) : Nat) : Int) → (LAY ((n + 1) + 1) = (12, 6) ∧ (okO (((n + 1) + 1) + 1) v0 2 ∧ (∀ C_10 : Cn, C_10 = wr C_7 v0.toNat 4 ((((n + 1) + 1) : Nat) : Int) → (LAY (((n + 1) + 1) + 1) = (12, 6) ∧ (okO ((((n + 1) + 1) + 1) + 1) v0 2 ∧ (∀ C_13 : Cn, C_13 = wr C_10 v0.toNat 5 (((((n + 1) + 1) + 1) : Nat) : Int) → (LAY ((((n + 1) + 1) + 1) + 1) = (12, 78) ∧ (okO (((((n + 1) + 1) + 1) + 1) + 1) v0 2 ∧ (∀ C_16 : Cn, C_16 = wr C_13 v0.toNat 6 ((((((n + 1) + 1) + 1) + 1) : Nat) : Int) → (LAY (((((n + 1) + 1) + 1) + 1) + 1) = (12, 13) ∧ (okO ((((((n + 1) + 1) + 1) + 1) + 1) + 1) v0 2 ∧ (∀ C_19 : Cn, C_19 = wr C_16 v0.toNat 7 (((((((n + 1) + 1) + 1) + 1) + 1) : Nat) : Int) → (LAY ((((((n + 1) + 1) + 1) + 1) + 1) + 1) = (12, 13) ∧ (okO (((((((n + 1) + 1) + 1) + 1) + 1) + 1) + 1) v0 2 ∧ (∀ C_22 : Cn, C_22 = wr C_19 v0.toNat 9 ((((((((n + 1) + 1) + 1) + 1) + 1) + 1) : Nat) : Int) → (LAY (((((((n + 1) + 1) + 1) + 1) + 1) + 1) + 1) = (12, 49) ∧ (okO ((((((((n + 1) + 1) + 1) + 1) + 1) + 1) + 1) + 1) v0 2 ∧ (∀ C_25 : Cn, C_25 = wr C_22 v0.toNat 10 (((((((((n + 1) + 1) + 1) + 1) + 1) + 1) + 1) : Nat) : Int) → (LAY ((((((((n + 1) + 1) + 1) + 1) + 1) + 1) + 1) + 1) = (12, 49) ∧ (okO (((((((((n + 1) + 1) + 1) + 1) + 1) + 1) + 1) + 1) + 1) v0 2 ∧ (∀ C_28 : Cn, C_28 = wr C_25 v0.toNat 11 ((((((((((n + 1) + 1) + 1) + 1) + 1) + 1) + 1) + 1) : Nat) : Int) → (LAY (((((((((n + 1) + 1) + 1) + 1) + 1) + 1) + 1) + 1) + 1) = (12, 49) ∧ (okO ((((((((((n + 1) + 1) + 1) + 1) + 1) + 1) + 1) + 1) + 1) + 1) v0 2 ∧ (∀ C_31 : Cn, C_31 = wr C_28 v0.toNat 12 (((((((((((n + 1) + 1) + 1) + 1) + 1) + 1) + 1) + 1) + 1) : Nat) : Int) → (LAY ((((((((((n + 1) + 1) + 1) + 1) + 1) + 1) + 1) + 1) + 1) + 1) = (12, 49) ∧ (okO (((((((((((n + 1) + 1) + 1) + 1) + 1) + 1) + 1) + 1) + 1) + 1) + 1) v0 2 ∧ (∀ C_34 : Cn, C_34 = wr C_31 v0.toNat 13 ((((((((((((n + 1) + 1) + 1) + 1) + 1) + 1) + 1) + 1) + 1) + 1) : Nat) : Int) → (LAY (((((((((((n + 1) + 1) + 1) + 1) + 1) + 1) + 1) + 1) + 1) + 1) + 1) = (12, 19) ∧ (okO ((((((((((((n + 1) + 1) + 1) + 1) + 1) + 1) + 1) + 1) + 1) + 1) + 1) + 1) v0 2 ∧ (∀ C_37 : Cn, C_37 = wr C_34 v0.toNat 15 (((((((((((((n + 1) + 1) + 1) + 1) + 1) + 1) + 1) + 1) + 1) + 1) + 1) : Nat) : Int) → (LAY ((((((((((((n + 1) + 1) + 1) + 1) + 1) + 1) + 1) + 1) + 1) + 1) + 1) + 1) = (12, 19) ∧ (okO (((((((((((((n + 1) + 1) + 1) + 1) + 1) + 1) + 1) + 1) + 1) + 1) + 1) + 1) + 1) v0 2 ∧ (∀ C_40 : Cn, C_40 = wr C_37 v0.toNat 16 ((((((((((((((n + 1) + 1) + 1) + 1) + 1) + 1) + 1) + 1) + 1) + 1) + 1) + 1) : Nat) : Int) → (LAY (((((((((((((n + 1) + 1) + 1) + 1) + 1) + 1) + 1) + 1) + 1) + 1) + 1) + 1) + 1) = (12, 19) ∧ (okO ((((((((((((((n + 1) + 1) + 1) + 1) + 1) + 1) + 1) + 1) + 1) + 1) + 1) + 1) + 1) + 1) v0 2 ∧ (∀ C_43 : Cn, C_43 = wr C_40 v0.toNat 17 (((((((((((((((n + 1) + 1) + 1) + 1) + 1) + 1) + 1) + 1) + 1) + 1) + 1) + 1) + 1) : Nat) : Int) → (LAY ((((((((((((((n + 1) + 1) + 1) + 1) + 1) + 1) + 1) + 1) + 1) + 1) + 1) + 1) + 1) + 1) = (12, 361) ∧ (okO (((((((((((((((n + 1) + 1) + 1) + 1) + 1) + 1) + 1) + 1) + 1) + 1) + 1) + 1) + 1) + 1) + 1) v0 2 ∧ (∀ C_46 : Cn, C_46 = wr C_43 v0.toNat 18 ((((((((((((((((n + 1) + 1) + 1) + 1) + 1) + 1) + 1) + 1) + 1) + 1) + 1) + 1) + 1) + 1) : Nat) : Int) → (Q 0 C_46 (((((((((((((((n + 1) + 1) + 1) + 1) + 1) + 1) + 1) + 1) + 1) + 1) + 1) + 1) + 1) + 1) + 1)))))))))))))))))))))))))))))))))))))))))))))))
theorem m_La_init (l : Launch) (E : Ev) (n : Nat) (C : Cn) (v0 : Int) (Q : Int → Cn → Nat → Prop) (h : P_La_init n C v0 Q) : MA l y_La_init M_La_init E false C n [(2, v0)] Q := by
  refine MA.of (by decide) rfl rfl 0 rfl (fun p e s m args below meth c => ?_)
  show AW p l e _ s m args below meth c E M_La_init false _ n 0 0 0 [(2, v0)] [] C
  unfold P_La_init at h
  refine AW.ra_n (dc hd_La_init 0 rfl) rfl rfl rfl ?_
  obtain ⟨g_1, h⟩ := h
  refine AW.objI (dc hd_La_init 1 rfl) oi_2_3 g_1 (Nat.le_of_ble_eq_true rfl) (Nat.le_of_ble_eq_true rfl) (Nat.le_of_ble_eq_true rfl) ?_
  refine AW.ra_n (dc hd_La_init 2 rfl) rfl rfl rfl ?_
  refine AW.bipush (dc hd_La_init 3 rfl) (by decide) (by decide +kernel) ?_
  obtain ⟨g_2, h⟩ := h
  refine AW.newa12 (dc hd_La_init 4 rfl) g_2 (by decide) aw_12 (fun h => by cases h) (Nat.le_of_ble_eq_true rfl) (Nat.le_of_ble_eq_true rfl) ?_
  obtain ⟨g_3, h⟩ := h
  refine AW.nputF fl_2_9 (dc hd_La_init 5 rfl) g_3 (fun _ _ _ h => by cases h; rfl) rfl (fun o => by cases o <;> rfl) (fun o => by cases o <;> rfl) rfl (fun C_4 eC_4 => ?_)
  have h := h C_4 eC_4
  refine AW.ra_n (dc hd_La_init 6 rfl) rfl rfl rfl ?_
  refine AW.bipush (dc hd_La_init 7 rfl) (by decide) (by decide +kernel) ?_
  obtain ⟨g_5, h⟩ := h
  refine AW.newa12 (dc hd_La_init 8 rfl) g_5 (by decide) aw_12 (fun h => by cases h) (Nat.le_of_ble_eq_true rfl) (Nat.le_of_ble_eq_true rfl) ?_
  obtain ⟨g_6, h⟩ := h
  refine AW.nputF fl_2_15 (dc hd_La_init 9 rfl) g_6 (fun _ _ _ h => by cases h; rfl) rfl (fun o => by cases o <;> rfl) (fun o => by cases o <;> rfl) rfl (fun C_7 eC_7 => ?_)
  have h := h C_7 eC_7
  refine AW.ra_n (dc hd_La_init 10 rfl) rfl rfl rfl ?_
  refine AW.bipush (dc hd_La_init 11 rfl) (by decide) (by decide +kernel) ?_
  obtain ⟨g_8, h⟩ := h
  refine AW.newa12 (dc hd_La_init 12 rfl) g_8 (by decide) aw_12 (fun h => by cases h) (Nat.le_of_ble_eq_true rfl) (Nat.le_of_ble_eq_true rfl) ?_
  obtain ⟨g_9, h⟩ := h
  refine AW.nputF fl_2_18 (dc hd_La_init 13 rfl) g_9 (fun _ _ _ h => by cases h; rfl) rfl (fun o => by cases o <;> rfl) (fun o => by cases o <;> rfl) rfl (fun C_10 eC_10 => ?_)
  have h := h C_10 eC_10
  refine AW.ra_n (dc hd_La_init 14 rfl) rfl rfl rfl ?_
  refine AW.bipush (dc hd_La_init 15 rfl) (by decide) (by decide +kernel) ?_
  obtain ⟨g_11, h⟩ := h
  refine AW.newa12 (dc hd_La_init 16 rfl) g_11 (by decide) aw_12 (fun h => by cases h) (Nat.le_of_ble_eq_true rfl) (Nat.le_of_ble_eq_true rfl) ?_
  obtain ⟨g_12, h⟩ := h
  refine AW.nputF fl_2_21 (dc hd_La_init 17 rfl) g_12 (fun _ _ _ h => by cases h; rfl) rfl (fun o => by cases o <;> rfl) (fun o => by cases o <;> rfl) rfl (fun C_13 eC_13 => ?_)
  have h := h C_13 eC_13
  refine AW.ra_n (dc hd_La_init 18 rfl) rfl rfl rfl ?_
  refine AW.bipush (dc hd_La_init 19 rfl) (by decide) (by decide +kernel) ?_
  obtain ⟨g_14, h⟩ := h
  refine AW.newa12 (dc hd_La_init 20 rfl) g_14 (by decide) aw_12 (fun h => by cases h) (Nat.le_of_ble_eq_true rfl) (Nat.le_of_ble_eq_true rfl) ?_
  obtain ⟨g_15, h⟩ := h
  refine AW.nputF fl_2_24 (dc hd_La_init 21 rfl) g_15 (fun _ _ _ h => by cases h; rfl) rfl (fun o => by cases o <;> rfl) (fun o => by cases o <;> rfl) rfl (fun C_16 eC_16 => ?_)
  have h := h C_16 eC_16
  refine AW.ra_n (dc hd_La_init 22 rfl) rfl rfl rfl ?_
  refine AW.bipush (dc hd_La_init 23 rfl) (by decide) (by decide +kernel) ?_
  obtain ⟨g_17, h⟩ := h
  refine AW.newa12 (dc hd_La_init 24 rfl) g_17 (by decide) aw_12 (fun h => by cases h) (Nat.le_of_ble_eq_true rfl) (Nat.le_of_ble_eq_true rfl) ?_
  obtain ⟨g_18, h⟩ := h
  refine AW.nputF fl_2_27 (dc hd_La_init 25 rfl) g_18 (fun _ _ _ h => by cases h; rfl) rfl (fun o => by cases o <;> rfl) (fun o => by cases o <;> rfl) rfl (fun C_19 eC_19 => ?_)
  have h := h C_19 eC_19
  refine AW.ra_n (dc hd_La_init 26 rfl) rfl rfl rfl ?_
  refine AW.bipush (dc hd_La_init 27 rfl) (by decide) (by decide +kernel) ?_
  obtain ⟨g_20, h⟩ := h
  refine AW.newa12 (dc hd_La_init 28 rfl) g_20 (by decide) aw_12 (fun h => by cases h) (Nat.le_of_ble_eq_true rfl) (Nat.le_of_ble_eq_true rfl) ?_
  obtain ⟨g_21, h⟩ := h
  refine AW.nputF fl_2_30 (dc hd_La_init 29 rfl) g_21 (fun _ _ _ h => by cases h; rfl) rfl (fun o => by cases o <;> rfl) (fun o => by cases o <;> rfl) rfl (fun C_22 eC_22 => ?_)
  have h := h C_22 eC_22
  refine AW.ra_n (dc hd_La_init 30 rfl) rfl rfl rfl ?_
  refine AW.bipush (dc hd_La_init 31 rfl) (by decide) (by decide +kernel) ?_
  obtain ⟨g_23, h⟩ := h
  refine AW.newa12 (dc hd_La_init 32 rfl) g_23 (by decide) aw_12 (fun h => by cases h) (Nat.le_of_ble_eq_true rfl) (Nat.le_of_ble_eq_true rfl) ?_
  obtain ⟨g_24, h⟩ := h
  refine AW.nputF fl_2_33 (dc hd_La_init 33 rfl) g_24 (fun _ _ _ h => by cases h; rfl) rfl (fun o => by cases o <;> rfl) (fun o => by cases o <;> rfl) rfl (fun C_25 eC_25 => ?_)
  have h := h C_25 eC_25
  refine AW.ra_n (dc hd_La_init 34 rfl) rfl rfl rfl ?_
  refine AW.bipush (dc hd_La_init 35 rfl) (by decide) (by decide +kernel) ?_
  obtain ⟨g_26, h⟩ := h
  refine AW.newa12 (dc hd_La_init 36 rfl) g_26 (by decide) aw_12 (fun h => by cases h) (Nat.le_of_ble_eq_true rfl) (Nat.le_of_ble_eq_true rfl) ?_
  obtain ⟨g_27, h⟩ := h
  refine AW.nputF fl_2_36 (dc hd_La_init 37 rfl) g_27 (fun _ _ _ h => by cases h; rfl) rfl (fun o => by cases o <;> rfl) (fun o => by cases o <;> rfl) rfl (fun C_28 eC_28 => ?_)
  have h := h C_28 eC_28
  refine AW.ra_n (dc hd_La_init 38 rfl) rfl rfl rfl ?_
  refine AW.bipush (dc hd_La_init 39 rfl) (by decide) (by decide +kernel) ?_
  obtain ⟨g_29, h⟩ := h
  refine AW.newa12 (dc hd_La_init 40 rfl) g_29 (by decide) aw_12 (fun h => by cases h) (Nat.le_of_ble_eq_true rfl) (Nat.le_of_ble_eq_true rfl) ?_
  obtain ⟨g_30, h⟩ := h
  refine AW.nputF fl_2_39 (dc hd_La_init 41 rfl) g_30 (fun _ _ _ h => by cases h; rfl) rfl (fun o => by cases o <;> rfl) (fun o => by cases o <;> rfl) rfl (fun C_31 eC_31 => ?_)
  have h := h C_31 eC_31
  refine AW.ra_n (dc hd_La_init 42 rfl) rfl rfl rfl ?_
  refine AW.bipush (dc hd_La_init 43 rfl) (by decide) (by decide +kernel) ?_
  obtain ⟨g_32, h⟩ := h
  refine AW.newa12 (dc hd_La_init 44 rfl) g_32 (by decide) aw_12 (fun h => by cases h) (Nat.le_of_ble_eq_true rfl) (Nat.le_of_ble_eq_true rfl) ?_
  obtain ⟨g_33, h⟩ := h
  refine AW.nputF fl_2_42 (dc hd_La_init 45 rfl) g_33 (fun _ _ _ h => by cases h; rfl) rfl (fun o => by cases o <;> rfl) (fun o => by cases o <;> rfl) rfl (fun C_34 eC_34 => ?_)
  have h := h C_34 eC_34
  refine AW.ra_n (dc hd_La_init 46 rfl) rfl rfl rfl ?_
  refine AW.bipush (dc hd_La_init 47 rfl) (by decide) (by decide +kernel) ?_
  obtain ⟨g_35, h⟩ := h
  refine AW.newa12 (dc hd_La_init 48 rfl) g_35 (by decide) aw_12 (fun h => by cases h) (Nat.le_of_ble_eq_true rfl) (Nat.le_of_ble_eq_true rfl) ?_
  obtain ⟨g_36, h⟩ := h
  refine AW.nputF fl_2_45 (dc hd_La_init 49 rfl) g_36 (fun _ _ _ h => by cases h; rfl) rfl (fun o => by cases o <;> rfl) (fun o => by cases o <;> rfl) rfl (fun C_37 eC_37 => ?_)
  have h := h C_37 eC_37
  refine AW.ra_n (dc hd_La_init 50 rfl) rfl rfl rfl ?_
  refine AW.bipush (dc hd_La_init 51 rfl) (by decide) (by decide +kernel) ?_
  obtain ⟨g_38, h⟩ := h
  refine AW.newa12 (dc hd_La_init 52 rfl) g_38 (by decide) aw_12 (fun h => by cases h) (Nat.le_of_ble_eq_true rfl) (Nat.le_of_ble_eq_true rfl) ?_
  obtain ⟨g_39, h⟩ := h
  refine AW.nputF fl_2_48 (dc hd_La_init 53 rfl) g_39 (fun _ _ _ h => by cases h; rfl) rfl (fun o => by cases o <;> rfl) (fun o => by cases o <;> rfl) rfl (fun C_40 eC_40 => ?_)
  have h := h C_40 eC_40
  refine AW.ra_n (dc hd_La_init 54 rfl) rfl rfl rfl ?_
  refine AW.bipush (dc hd_La_init 55 rfl) (by decide) (by decide +kernel) ?_
  obtain ⟨g_41, h⟩ := h
  refine AW.newa12 (dc hd_La_init 56 rfl) g_41 (by decide) aw_12 (fun h => by cases h) (Nat.le_of_ble_eq_true rfl) (Nat.le_of_ble_eq_true rfl) ?_
  obtain ⟨g_42, h⟩ := h
  refine AW.nputF fl_2_51 (dc hd_La_init 57 rfl) g_42 (fun _ _ _ h => by cases h; rfl) rfl (fun o => by cases o <;> rfl) (fun o => by cases o <;> rfl) rfl (fun C_43 eC_43 => ?_)
  have h := h C_43 eC_43
  refine AW.ra_n (dc hd_La_init 58 rfl) rfl rfl rfl ?_
  refine AW.sipush (dc hd_La_init 59 rfl) (by decide) (by decide +kernel) ?_
  obtain ⟨g_44, h⟩ := h
  refine AW.newa12 (dc hd_La_init 60 rfl) g_44 (by decide) aw_12 (fun h => by cases h) (Nat.le_of_ble_eq_true rfl) (Nat.le_of_ble_eq_true rfl) ?_
  obtain ⟨g_45, h⟩ := h
  refine AW.nputF fl_2_54 (dc hd_La_init 61 rfl) g_45 (fun _ _ _ h => by cases h; rfl) rfl (fun o => by cases o <;> rfl) (fun o => by cases o <;> rfl) rfl (fun C_46 eC_46 => ?_)
  have h := h C_46 eC_46
  exact AW.vret (dc hd_La_init 62 rfl) rfl rfl (Nat.le_of_ble_eq_true rfl) (Nat.le_of_ble_eq_true rfl) h
def P_Re_init (n : Nat) (C : Cn) (v0 : Int) (Q : Int → Cn → Nat → Prop) : Prop :=
  (0 : Int) < v0 ∧ (LAY n = (11, 120) ∧ (okO (n + 1) v0 3 ∧ (∀ C_4 : Cn, C_4 = wr C v0.toNat 0 ((n : Nat) : Int) → (LAY (n + 1) = (7, 6) ∧ ((0 : Int) < (((n + 1) : Nat) : Int) ∧ (P_Wa_init ((n + 1) + 1) C_4 (((n + 1) : Nat) : Int) (fun (_ : Int) => okO ((n + 1) + 1) v0 3 ∧ (∀ C_12 : Cn, C_12 = wr C_4 v0.toNat 7 (((n + 1) : Nat) : Int) → (LAY ((n + 1) + 1) = (12, 4) ∧ (okO (((n + 1) + 1) + 1) v0 3 ∧ (∀ C_15 : Cn, C_15 = wr C_12 v0.toNat 8 ((((n + 1) + 1) : Nat) : Int) → (Q 0 C_15 (((n + 1) + 1) + 1)))))))))))))
theorem m_Re_init (l : Launch) (E : Ev) (n : Nat) (C : Cn) (v0 : Int) (Q : Int → Cn → Nat → Prop) (h : P_Re_init n C v0 Q) : MA l y_Re_init M_Re_init E false C n [(2, v0)] Q := by
  refine MA.of (by decide) rfl rfl 0 rfl (fun p e s m args below meth c => ?_)
  show AW p l e _ s m args below meth c E M_Re_init false _ n 0 0 0 [(2, v0)] [] C
  unfold P_Re_init at h
  refine AW.ra_n (dc hd_Re_init 0 rfl) rfl rfl rfl ?_
  obtain ⟨g_1, h⟩ := h
  refine AW.objI (dc hd_Re_init 1 rfl) oi_3_3 g_1 (Nat.le_of_ble_eq_true rfl) (Nat.le_of_ble_eq_true rfl) (Nat.le_of_ble_eq_true rfl) ?_
  refine AW.ra_n (dc hd_Re_init 2 rfl) rfl rfl rfl ?_
  refine AW.bipush (dc hd_Re_init 3 rfl) (by decide) (by decide +kernel) ?_
  obtain ⟨g_2, h⟩ := h
  refine AW.newa11 (dc hd_Re_init 4 rfl) g_2 (by decide) aw_11 (fun h => by cases h) (Nat.le_of_ble_eq_true rfl) (Nat.le_of_ble_eq_true rfl) ?_
  obtain ⟨g_3, h⟩ := h
  refine AW.nputF fl_3_9 (dc hd_Re_init 5 rfl) g_3 (fun _ _ _ h => by cases h; rfl) rfl (fun o => by cases o <;> rfl) (fun o => by cases o <;> rfl) rfl (fun C_4 eC_4 => ?_)
  have h := h C_4 eC_4
  refine AW.ra_n (dc hd_Re_init 6 rfl) rfl rfl rfl ?_
  obtain ⟨g_5, h⟩ := h
  refine AW.new kfX7 dvX7 (dc hd_Re_init 7 rfl) nw_3_15 g_5 (fun h => by cases h) (Nat.le_of_ble_eq_true rfl) (Nat.le_of_ble_eq_true rfl) ?_
  refine AW.rdup (dc hd_Re_init 8 rfl) rfl ?_
  obtain ⟨g_6, h⟩ := h
  refine AW.callIN (As := []) (rest := [(2, (((n + 1) : Nat) : Int)), (2, v0)]) (m_Wa_init l E ((n + 1) + 1) C_4 (((n + 1) : Nat) : Int) _ h) cb_3_17 rfl im_Wa_init rfl (dc hd_Re_init 9 rfl) g_6 rfl rfl ⟨Nat.le_of_ble_eq_true rfl, Nat.le_of_ble_eq_true rfl⟩ ⟨(Nat.le_of_ble_eq_true rfl), (Nat.le_of_ble_eq_true rfl)⟩ (Nat.le_of_ble_eq_true rfl) (fun h => by cases h) (fun h => by cases h) (fun u_8 D_9 d_10 q_7 => ?_)
  obtain ⟨q_7a, q_7b, h⟩ := q_7
  subst D_9
  subst d_10
  show AW p l e _ s m args below meth c E M_Re_init false _ ((n + 1) + 1) _ _ _ [(2, v0)] [(2, (((n + 1) : Nat) : Int)), (2, v0)] C_4
  obtain ⟨g_11, h⟩ := h
  refine AW.nputF fl_3_18 (dc hd_Re_init 10 rfl) g_11 (fun _ _ _ h => by cases h; rfl) rfl (fun o => by cases o <;> rfl) (fun o => by cases o <;> rfl) rfl (fun C_12 eC_12 => ?_)
  have h := h C_12 eC_12
  refine AW.ra_n (dc hd_Re_init 11 rfl) rfl rfl rfl ?_
  refine AW.iconst (dc hd_Re_init 12 rfl) (by decide) ?_
  obtain ⟨g_13, h⟩ := h
  refine AW.newa12 (dc hd_Re_init 13 rfl) g_13 (by decide) aw_12 (fun h => by cases h) (Nat.le_of_ble_eq_true rfl) (Nat.le_of_ble_eq_true rfl) ?_
  obtain ⟨g_14, h⟩ := h
  refine AW.nputF fl_3_22 (dc hd_Re_init 14 rfl) g_14 (fun _ _ _ h => by cases h; rfl) rfl (fun o => by cases o <;> rfl) (fun o => by cases o <;> rfl) rfl (fun C_15 eC_15 => ?_)
  have h := h C_15 eC_15
  exact AW.vret (dc hd_Re_init 15 rfl) rfl rfl (Nat.le_of_ble_eq_true rfl) (Nat.le_of_ble_eq_true rfl) h
def B_Re_isWord_28 (n : Nat) (C : Cn) (v0 v1 : Int) (Q : Int → Prop) (kz28 : Int → Prop) (v2 : Int) : Prop :=
  (0 : Int) < v1 ∧ ((v1 : Int) ≤ 10 ∧ ((sLen v1 ≤ v2 → (Q 1)) ∧ (¬ sLen v1 ≤ v2 → (okO n v0 3 ∧ (okO n (PT v0.toNat 0) 11 ∧ (okI (PT v0.toNat 0) (w32 (C v0.toNat 3 + v2)) ∧ (0 ≤ v2 ∧ (v2 < sLen v1 ∧ ((C (PT v0.toNat 0).toNat (w32 (C v0.toNat 3 + v2)).toNat = sChr v1 v2 → (kz28 (w32 (v2 + 1)))) ∧ (¬ C (PT v0.toNat 0).toNat (w32 (C v0.toNat 3 + v2)).toNat = sChr v1 v2 → (Q 0)))))))))))
theorem bB_Re_isWord_28 (n : Nat) (C : Cn) (v0 v1 : Int) (Q : Int → Prop) (kz28 : Int → Prop) (hkz28 : ∀ (z2 : Int), kz28 z2 → AW p l e R s m args below meth c E M_Re_isWord true (fun r C2 n2 => C2 = C ∧ n2 = n ∧ Q r) n 0 0 28 [(2, v0), (4, v1), (0, z2)] [] C) (v2 : Int) (h : B_Re_isWord_28 n C v0 v1 Q kz28 v2) : AW p l e R s m args below meth c E M_Re_isWord true (fun r C2 n2 => C2 = C ∧ n2 = n ∧ Q r) n 0 0 28 [(2, v0), (4, v1), (0, v2)] [] C := by
  unfold B_Re_isWord_28 at h
  refine AW.iload_n (dc hd_Re_isWord 16 rfl) rfl ?_
  refine AW.ra_n (dc hd_Re_isWord 17 rfl) rfl rfl rfl ?_
  obtain ⟨g_6, h⟩ := h
  obtain ⟨g_7, h⟩ := h
  refine AW.slen (dc hd_Re_isWord 18 rfl) g_6 g_7 slk_3_123 ⟨Nat.le_of_ble_eq_true rfl, Nat.le_of_ble_eq_true rfl⟩ (Nat.le_of_ble_eq_true rfl) (Nat.le_of_ble_eq_true rfl) (Nat.le_of_ble_eq_true rfl) ?_
  refine AW.icmp_ge (t := 63) (dc hd_Re_isWord 19 rfl) (by decide) (fun c_8 => ?_) (fun c_8 => ?_)
  · have h := h.1 c_8
    refine AW.iconst (dc hd_Re_isWord 35 rfl) (by decide) ?_
    exact AW.zret (dc hd_Re_isWord 36 rfl) rfl rfl (Nat.le_of_ble_eq_true rfl) (Nat.le_of_ble_eq_true rfl) (by decide) ⟨rfl, rfl, h⟩
  · have h := h.2 c_8
    refine AW.ra_n (dc hd_Re_isWord 20 rfl) rfl rfl rfl ?_
    obtain ⟨g_9, h⟩ := h
    refine AW.getp fl_3_9 (dc hd_Re_isWord 21 rfl) g_9 rfl ?_
    refine AW.ra_n (dc hd_Re_isWord 22 rfl) rfl rfl rfl ?_
    refine AW.getf fl_3_43 (dc hd_Re_isWord 23 rfl) g_9 ?_
    refine AW.iload_n (dc hd_Re_isWord 24 rfl) rfl ?_
    refine AW.iadd (dc hd_Re_isWord 25 rfl) ?_
    obtain ⟨g_10, h⟩ := h
    obtain ⟨g_11, h⟩ := h
    refine AW.bald (dc hd_Re_isWord 26 rfl) g_10 g_11 ?_
    refine AW.ra_n (dc hd_Re_isWord 27 rfl) rfl rfl rfl ?_
    refine AW.iload_n (dc hd_Re_isWord 28 rfl) rfl ?_
    obtain ⟨g_12, h⟩ := h
    obtain ⟨g_13, h⟩ := h
    refine AW.schr (dc hd_Re_isWord 29 rfl) g_6 g_7 g_12 g_13 slk_3_128 ⟨Nat.le_of_ble_eq_true rfl, Nat.le_of_ble_eq_true rfl⟩ (Nat.le_of_ble_eq_true rfl) (Nat.le_of_ble_eq_true rfl) (Nat.le_of_ble_eq_true rfl) ?_
    refine AW.icmp_eq (t := 57) (dc hd_Re_isWord 30 rfl) (by decide) (fun c_14 => ?_) (fun c_14 => ?_)
    · have h := h.1 c_14
      refine AW.iinc [(2, v0), (4, v1), (0, w32 (v2 + 1))] (dc hd_Re_isWord 33 rfl) rfl (Nat.le_of_ble_eq_true rfl) rfl rfl ?_
      refine AW.goto (t := 28) (dc hd_Re_isWord 34 rfl) (by decide) ?_
      exact hkz28 (w32 (v2 + 1)) h
    · have h := h.2 c_14
      refine AW.iconst (dc hd_Re_isWord 31 rfl) (by decide) ?_
      exact AW.zret (dc hd_Re_isWord 32 rfl) rfl rfl (Nat.le_of_ble_eq_true rfl) (Nat.le_of_ble_eq_true rfl) (by decide) ⟨rfl, rfl, h⟩
theorem aB_Re_isWord_28 (n : Nat) (C : Cn) (v0 v1 : Int) (Q : Int → Prop) : ∀ (f : Nat) (z : Int), lp (B_Re_isWord_28 n C v0 v1 Q) f z → AW p l e R s m args below meth c E M_Re_isWord true (fun r C2 n2 => C2 = C ∧ n2 = n ∧ Q r) n 0 0 28 [(2, v0), (4, v1), (0, z)] [] C := by
  intro f
  induction f with
  | zero => intro z h; exact False.elim h
  | succ f ih => intro z h; exact bB_Re_isWord_28 n C v0 v1 Q (lp (B_Re_isWord_28 n C v0 v1 Q) f) (fun a0 h => ih a0 h) z h
def P_Re_isWord (n : Nat) (C : Cn) (v0 v1 : Int) (Q : Int → Prop) : Prop :=
  okO n v0 3 ∧ ((C v0.toNat 2 = 1 → ((0 : Int) < v1 ∧ ((v1 : Int) ≤ 10 ∧ ((w32 (C v0.toNat 4 - (C v0.toNat 3)) = sLen v1 → (∃ f_15 : Nat, lp (B_Re_isWord_28 n C v0 v1 Q) f_15 0)) ∧ (¬ w32 (C v0.toNat 4 - (C v0.toNat 3)) = sLen v1 → (Q 0)))))) ∧ (¬ C v0.toNat 2 = 1 → (Q 0)))
theorem m_Re_isWord (l : Launch) (E : Ev) (n : Nat) (C : Cn) (v0 v1 : Int) (Q : Int → Prop) (h : P_Re_isWord n C v0 v1 Q) : MA l y_Re_isWord M_Re_isWord E true C n [(2, v0), (4, v1)] (fun r C2 n2 => C2 = C ∧ n2 = n ∧ Q r) := by
  refine MA.of (by decide) rfl rfl 1 rfl (fun p e s m args below meth c => ?_)
  show AW p l e _ s m args below meth c E M_Re_isWord true _ n 0 0 0 [(2, v0), (4, v1), (9, 0)] [] C
  unfold P_Re_isWord at h
  refine AW.ra_n (dc hd_Re_isWord 0 rfl) rfl rfl rfl ?_
  obtain ⟨g_1, h⟩ := h
  refine AW.getf fl_3_40 (dc hd_Re_isWord 1 rfl) g_1 ?_
  refine AW.iconst (dc hd_Re_isWord 2 rfl) (by decide) ?_
  refine AW.icmp_ne (t := 24) (dc hd_Re_isWord 3 rfl) (by decide) (fun c_2 => ?_) (fun c_2 => ?_)
  · have h := h.2 c_2
    refine AW.iconst (dc hd_Re_isWord 12 rfl) (by decide) ?_
    exact AW.zret (dc hd_Re_isWord 13 rfl) rfl rfl (Nat.le_of_ble_eq_true rfl) (Nat.le_of_ble_eq_true rfl) (by decide) ⟨rfl, rfl, h⟩
  · have h := h.1 c_2
    refine AW.ra_n (dc hd_Re_isWord 4 rfl) rfl rfl rfl ?_
    refine AW.getf fl_3_26 (dc hd_Re_isWord 5 rfl) g_1 ?_
    refine AW.ra_n (dc hd_Re_isWord 6 rfl) rfl rfl rfl ?_
    refine AW.getf fl_3_43 (dc hd_Re_isWord 7 rfl) g_1 ?_
    refine AW.isub (dc hd_Re_isWord 8 rfl) ?_
    refine AW.ra_n (dc hd_Re_isWord 9 rfl) rfl rfl rfl ?_
    obtain ⟨g_3, h⟩ := h
    obtain ⟨g_4, h⟩ := h
    refine AW.slen (dc hd_Re_isWord 10 rfl) g_3 g_4 slk_3_123 ⟨Nat.le_of_ble_eq_true rfl, Nat.le_of_ble_eq_true rfl⟩ (Nat.le_of_ble_eq_true rfl) (Nat.le_of_ble_eq_true rfl) (Nat.le_of_ble_eq_true rfl) ?_
    refine AW.icmp_eq (t := 26) (dc hd_Re_isWord 11 rfl) (by decide) (fun c_5 => ?_) (fun c_5 => ?_)
    · have h := h.1 c_5
      refine AW.iconst (dc hd_Re_isWord 14 rfl) (by decide) ?_
      refine AW.istore_n [(2, v0), (4, v1), (0, 0)] (dc hd_Re_isWord 15 rfl) (Nat.le_of_ble_eq_true rfl) rfl rfl ?_
      obtain ⟨f_15, h⟩ := h
      exact aB_Re_isWord_28 n C v0 v1 Q f_15 0 h
    · have h := h.2 c_5
      refine AW.iconst (dc hd_Re_isWord 12 rfl) (by decide) ?_
      exact AW.zret (dc hd_Re_isWord 13 rfl) rfl rfl (Nat.le_of_ble_eq_true rfl) (Nat.le_of_ble_eq_true rfl) (by decide) ⟨rfl, rfl, h⟩
def J_Re_kindOfWord_69 (n : Nat) (C : Cn) (s0 : Int) (Q : Int → Prop) : Prop :=
  Q s0
theorem aJ_Re_kindOfWord_69 (n : Nat) (C : Cn) (s0 : Int) (Q : Int → Prop) (h : J_Re_kindOfWord_69 n C s0 Q) : AW p l e R s m args below meth c E M_Re_kindOfWord true (fun r C2 n2 => C2 = C ∧ n2 = n ∧ Q r) n 0 0 69 [(9, 0)] [(0, s0)] C := by
  unfold J_Re_kindOfWord_69 at h
  exact AW.iret (dc hd_Re_kindOfWord 37 rfl) rfl rfl (Nat.le_of_ble_eq_true rfl) (Nat.le_of_ble_eq_true rfl) ⟨rfl, rfl, h⟩
def P_Re_kindOfWord (n : Nat) (C : Cn) (v0 : Int) (Q : Int → Prop) : Prop :=
  okO n v0 3 ∧ (P_Re_isWord n C v0 1 (fun (r_1 : Int) => (r_1 = 0 → (P_Re_isWord n C v0 2 (fun (r_7 : Int) => (r_7 = 0 → (P_Re_isWord n C v0 3 (fun (r_12 : Int) => (r_12 = 0 → (P_Re_isWord n C v0 4 (fun (r_17 : Int) => (r_17 = 0 → (P_Re_isWord n C v0 5 (fun (r_22 : Int) => (r_22 = 0 → (P_Re_isWord n C v0 6 (fun (r_27 : Int) => J_Re_kindOfWord_69 n C (if r_27 = 0 then (-1) else 5) Q))) ∧ (¬ r_22 = 0 → (Q 4))))) ∧ (¬ r_17 = 0 → (Q 3))))) ∧ (¬ r_12 = 0 → (Q 2))))) ∧ (¬ r_7 = 0 → (Q 1))))) ∧ (¬ r_1 = 0 → (Q 0))))
theorem m_Re_kindOfWord (l : Launch) (E : Ev) (n : Nat) (C : Cn) (v0 : Int) (Q : Int → Prop) (h : P_Re_kindOfWord n C v0 Q) : MA l y_Re_kindOfWord M_Re_kindOfWord E true C n [(2, v0)] (fun r C2 n2 => C2 = C ∧ n2 = n ∧ Q r) := by
  refine MA.of (by decide) rfl rfl 0 rfl (fun p e s m args below meth c => ?_)
  show AW p l e _ s m args below meth c E M_Re_kindOfWord true _ n 0 0 0 [(2, v0)] [] C
  unfold P_Re_kindOfWord at h
  refine AW.ra_n (dc hd_Re_kindOfWord 0 rfl) rfl rfl rfl ?_
  refine AW.ldcS (t := 0) (dc hd_Re_kindOfWord 1 rfl) (by decide +kernel) ?_
  obtain ⟨g_2, h⟩ := h
  refine AW.callV (As := [(4, 1)]) (rest := []) (ci := 3) (m_Re_isWord l E n C v0 1 _ h) cb_3_51 im_Re_isWord se_Re_isWord ⟨_, _, rfl⟩ (by decide) (dc hd_Re_kindOfWord 2 rfl) g_2 rfl rfl ⟨Nat.le_of_ble_eq_true rfl, Nat.le_of_ble_eq_true rfl⟩ ⟨(Nat.le_of_ble_eq_true rfl), (Nat.le_of_ble_eq_true rfl)⟩ (Nat.le_of_ble_eq_true rfl) (fun _ h => by cases h) (fun _ => rfl) (fun r_1 D_4 d_5 q_3 => ?_)
  obtain ⟨q_3a, q_3b, h⟩ := q_3
  subst D_4
  subst d_5
  show AW p l e _ s m args below meth c E M_Re_kindOfWord true _ n _ _ _ [(2, v0)] [(0, r_1)] C
  refine AW.if_eq (t := 11) (dc hd_Re_kindOfWord 3 rfl) (by decide) (fun c_6 => ?_) (fun c_6 => ?_)
  · have h := h.1 c_6
    refine AW.ra_n (dc hd_Re_kindOfWord 6 rfl) rfl rfl rfl ?_
    refine AW.ldcS (t := 1) (dc hd_Re_kindOfWord 7 rfl) (by decide +kernel) ?_
    refine AW.callV (As := [(4, 2)]) (rest := []) (ci := 3) (m_Re_isWord l E n C v0 2 _ h) cb_3_51 im_Re_isWord se_Re_isWord ⟨_, _, rfl⟩ (by decide) (dc hd_Re_kindOfWord 8 rfl) g_2 rfl rfl ⟨Nat.le_of_ble_eq_true rfl, Nat.le_of_ble_eq_true rfl⟩ ⟨(Nat.le_of_ble_eq_true rfl), (Nat.le_of_ble_eq_true rfl)⟩ (Nat.le_of_ble_eq_true rfl) (fun _ h => by cases h) (fun _ => rfl) (fun r_7 D_9 d_10 q_8 => ?_)
    obtain ⟨q_8a, q_8b, h⟩ := q_8
    subst D_9
    subst d_10
    show AW p l e _ s m args below meth c E M_Re_kindOfWord true _ n _ _ _ [(2, v0)] [(0, r_7)] C
    refine AW.if_eq (t := 22) (dc hd_Re_kindOfWord 9 rfl) (by decide) (fun c_11 => ?_) (fun c_11 => ?_)
    · have h := h.1 c_11
      refine AW.ra_n (dc hd_Re_kindOfWord 12 rfl) rfl rfl rfl ?_
      refine AW.ldcS (t := 2) (dc hd_Re_kindOfWord 13 rfl) (by decide +kernel) ?_
      refine AW.callV (As := [(4, 3)]) (rest := []) (ci := 3) (m_Re_isWord l E n C v0 3 _ h) cb_3_51 im_Re_isWord se_Re_isWord ⟨_, _, rfl⟩ (by decide) (dc hd_Re_kindOfWord 14 rfl) g_2 rfl rfl ⟨Nat.le_of_ble_eq_true rfl, Nat.le_of_ble_eq_true rfl⟩ ⟨(Nat.le_of_ble_eq_true rfl), (Nat.le_of_ble_eq_true rfl)⟩ (Nat.le_of_ble_eq_true rfl) (fun _ h => by cases h) (fun _ => rfl) (fun r_12 D_14 d_15 q_13 => ?_)
      obtain ⟨q_13a, q_13b, h⟩ := q_13
      subst D_14
      subst d_15
      show AW p l e _ s m args below meth c E M_Re_kindOfWord true _ n _ _ _ [(2, v0)] [(0, r_12)] C
      refine AW.if_eq (t := 33) (dc hd_Re_kindOfWord 15 rfl) (by decide) (fun c_16 => ?_) (fun c_16 => ?_)
      · have h := h.1 c_16
        refine AW.ra_n (dc hd_Re_kindOfWord 18 rfl) rfl rfl rfl ?_
        refine AW.ldcS (t := 3) (dc hd_Re_kindOfWord 19 rfl) (by decide +kernel) ?_
        refine AW.callV (As := [(4, 4)]) (rest := []) (ci := 3) (m_Re_isWord l E n C v0 4 _ h) cb_3_51 im_Re_isWord se_Re_isWord ⟨_, _, rfl⟩ (by decide) (dc hd_Re_kindOfWord 20 rfl) g_2 rfl rfl ⟨Nat.le_of_ble_eq_true rfl, Nat.le_of_ble_eq_true rfl⟩ ⟨(Nat.le_of_ble_eq_true rfl), (Nat.le_of_ble_eq_true rfl)⟩ (Nat.le_of_ble_eq_true rfl) (fun _ h => by cases h) (fun _ => rfl) (fun r_17 D_19 d_20 q_18 => ?_)
        obtain ⟨q_18a, q_18b, h⟩ := q_18
        subst D_19
        subst d_20
        show AW p l e _ s m args below meth c E M_Re_kindOfWord true _ n _ _ _ [(2, v0)] [(0, r_17)] C
        refine AW.if_eq (t := 44) (dc hd_Re_kindOfWord 21 rfl) (by decide) (fun c_21 => ?_) (fun c_21 => ?_)
        · have h := h.1 c_21
          refine AW.ra_n (dc hd_Re_kindOfWord 24 rfl) rfl rfl rfl ?_
          refine AW.ldcS (t := 4) (dc hd_Re_kindOfWord 25 rfl) (by decide +kernel) ?_
          refine AW.callV (As := [(4, 5)]) (rest := []) (ci := 3) (m_Re_isWord l E n C v0 5 _ h) cb_3_51 im_Re_isWord se_Re_isWord ⟨_, _, rfl⟩ (by decide) (dc hd_Re_kindOfWord 26 rfl) g_2 rfl rfl ⟨Nat.le_of_ble_eq_true rfl, Nat.le_of_ble_eq_true rfl⟩ ⟨(Nat.le_of_ble_eq_true rfl), (Nat.le_of_ble_eq_true rfl)⟩ (Nat.le_of_ble_eq_true rfl) (fun _ h => by cases h) (fun _ => rfl) (fun r_22 D_24 d_25 q_23 => ?_)
          obtain ⟨q_23a, q_23b, h⟩ := q_23
          subst D_24
          subst d_25
          show AW p l e _ s m args below meth c E M_Re_kindOfWord true _ n _ _ _ [(2, v0)] [(0, r_22)] C
          refine AW.if_eq (t := 55) (dc hd_Re_kindOfWord 27 rfl) (by decide) (fun c_26 => ?_) (fun c_26 => ?_)
          · have h := h.1 c_26
            refine AW.ra_n (dc hd_Re_kindOfWord 30 rfl) rfl rfl rfl ?_
            refine AW.ldcS (t := 5) (dc hd_Re_kindOfWord 31 rfl) (by decide +kernel) ?_
            refine AW.callV (As := [(4, 6)]) (rest := []) (ci := 3) (m_Re_isWord l E n C v0 6 _ h) cb_3_51 im_Re_isWord se_Re_isWord ⟨_, _, rfl⟩ (by decide) (dc hd_Re_kindOfWord 32 rfl) g_2 rfl rfl ⟨Nat.le_of_ble_eq_true rfl, Nat.le_of_ble_eq_true rfl⟩ ⟨(Nat.le_of_ble_eq_true rfl), (Nat.le_of_ble_eq_true rfl)⟩ (Nat.le_of_ble_eq_true rfl) (fun _ h => by cases h) (fun _ => rfl) (fun r_27 D_29 d_30 q_28 => ?_)
            obtain ⟨q_28a, q_28b, h⟩ := q_28
            subst D_29
            subst d_30
            show AW p l e _ s m args below meth c E M_Re_kindOfWord true _ n _ _ _ [(2, v0)] [(0, r_27)] C
            refine AW.if_eq (t := 68) (dc hd_Re_kindOfWord 33 rfl) (by decide) (fun c_31 => ?_) (fun c_31 => ?_)
            · simp only [if_pos (show r_27 = 0 from c_31)] at h
              refine AW.iconst (dc hd_Re_kindOfWord 36 rfl) (by decide) ?_
              refine AW.fgt [(9, 0)] ⟨.inr rfl, trivial⟩ ?_
              exact aJ_Re_kindOfWord_69 n C _ Q h
            · simp only [if_neg (show ¬ (r_27 = 0) from c_31)] at h
              refine AW.iconst (dc hd_Re_kindOfWord 34 rfl) (by decide) ?_
              refine AW.goto (t := 69) (dc hd_Re_kindOfWord 35 rfl) (by decide) ?_
              refine AW.fgt [(9, 0)] ⟨.inr rfl, trivial⟩ ?_
              exact aJ_Re_kindOfWord_69 n C _ Q h
          · have h := h.2 c_26
            refine AW.iconst (dc hd_Re_kindOfWord 28 rfl) (by decide) ?_
            exact AW.iret (dc hd_Re_kindOfWord 29 rfl) rfl rfl (Nat.le_of_ble_eq_true rfl) (Nat.le_of_ble_eq_true rfl) ⟨rfl, rfl, h⟩
        · have h := h.2 c_21
          refine AW.iconst (dc hd_Re_kindOfWord 22 rfl) (by decide) ?_
          exact AW.iret (dc hd_Re_kindOfWord 23 rfl) rfl rfl (Nat.le_of_ble_eq_true rfl) (Nat.le_of_ble_eq_true rfl) ⟨rfl, rfl, h⟩
      · have h := h.2 c_16
        refine AW.iconst (dc hd_Re_kindOfWord 16 rfl) (by decide) ?_
        exact AW.iret (dc hd_Re_kindOfWord 17 rfl) rfl rfl (Nat.le_of_ble_eq_true rfl) (Nat.le_of_ble_eq_true rfl) ⟨rfl, rfl, h⟩
    · have h := h.2 c_11
      refine AW.iconst (dc hd_Re_kindOfWord 10 rfl) (by decide) ?_
      exact AW.iret (dc hd_Re_kindOfWord 11 rfl) rfl rfl (Nat.le_of_ble_eq_true rfl) (Nat.le_of_ble_eq_true rfl) ⟨rfl, rfl, h⟩
  · have h := h.2 c_6
    refine AW.iconst (dc hd_Re_kindOfWord 4 rfl) (by decide) ?_
    exact AW.iret (dc hd_Re_kindOfWord 5 rfl) rfl rfl (Nat.le_of_ble_eq_true rfl) (Nat.le_of_ble_eq_true rfl) ⟨rfl, rfl, h⟩
def J_Re_readWall_42 (n : Nat) (C : Cn) (v0 v1 v2 : Int) (Q : Int → Cn → Prop) : Prop :=
  okO n v0 3 ∧ (P_Re_isWord n C v0 8 (fun (r_11 : Int) => (r_11 = 0 → (P_Re_failsHere n C v0 (fun (r_65 : Int) (C_66 : Cn) => (r_65 = 0 ∨ r_65 = 1) ∧ (Q r_65 C_66)))) ∧ (¬ r_11 = 0 → (P_Re_readV n C v0 0 (fun (r_17 : Int) (C_18 : Cn) => (r_17 = 0 → (Q 0 C_18)) ∧ (¬ r_17 = 0 → (P_Re_readV n C_18 v0 1 (fun (r_22 : Int) (C_23 : Cn) => (r_22 = 0 → (Q 0 C_23)) ∧ (¬ r_22 = 0 → (P_Re_step n C_23 v0 (fun (_ : Int) (C_27 : Cn) => P_Re_isWord n C_27 v0 9 (fun (r_31 : Int) => (r_31 = 0 → (P_Re_failsHere n C_27 v0 (fun (r_60 : Int) (C_61 : Cn) => (r_60 = 0 ∨ r_60 = 1) ∧ (Q r_60 C_61)))) ∧ (¬ r_31 = 0 → (P_Re_readV n C_27 v0 2 (fun (r_36 : Int) (C_37 : Cn) => (r_36 = 0 → (Q 0 C_37)) ∧ (¬ r_36 = 0 → (P_Re_readV n C_37 v0 3 (fun (r_41 : Int) (C_42 : Cn) => (r_41 = 0 → (Q 0 C_42)) ∧ (¬ r_41 = 0 → (okO n (PT v0.toNat 7) 7 ∧ (P_Wa_beOf n C_42 (PT v0.toNat 7) v1 v2 (fun (_ : Int) (C_47 : Cn) => okO n (PT v0.toNat 8) 12 ∧ (okI (PT v0.toNat 8) 0 ∧ (okI (PT v0.toNat 8) 1 ∧ (okI (PT v0.toNat 8) 2 ∧ (okI (PT v0.toNat 8) 3 ∧ (P_Wa_lay n C_47 (PT v0.toNat 7) (C_47 (PT v0.toNat 8).toNat 0) (C_47 (PT v0.toNat 8).toNat 1) (C_47 (PT v0.toNat 8).toNat 2) (C_47 (PT v0.toNat 8).toNat 3) (fun (_ : Int) (C_56 : Cn) => Q 1 C_56))))))))))))))))))))))))))))
theorem aJ_Re_readWall_42 (n : Nat) (C : Cn) (v0 v1 v2 : Int) (Q : Int → Cn → Prop) (h : J_Re_readWall_42 n C v0 v1 v2 Q) : AW p l e R s m args below meth c E M_Re_readWall true (fun r C2 n2 => n2 = n ∧ Q r C2) n 0 0 42 [(2, v0), (0, v1), (0, v2)] [] C := by
  unfold J_Re_readWall_42 at h
  refine AW.ra_n (dc hd_Re_readWall 22 rfl) rfl rfl rfl ?_
  refine AW.ldcS (t := 7) (dc hd_Re_readWall 23 rfl) (by decide +kernel) ?_
  obtain ⟨g_12, h⟩ := h
  refine AW.callV (As := [(4, 8)]) (rest := []) (ci := 3) (m_Re_isWord l E n C v0 8 _ h) cb_3_51 im_Re_isWord se_Re_isWord ⟨_, _, rfl⟩ (by decide) (dc hd_Re_readWall 24 rfl) g_12 rfl rfl ⟨Nat.le_of_ble_eq_true rfl, Nat.le_of_ble_eq_true rfl⟩ ⟨(Nat.le_of_ble_eq_true rfl), (Nat.le_of_ble_eq_true rfl)⟩ (Nat.le_of_ble_eq_true rfl) (fun _ h => by cases h) (fun _ => rfl) (fun r_11 D_14 d_15 q_13 => ?_)
  obtain ⟨q_13a, q_13b, h⟩ := q_13
  subst D_14
  subst d_15
  show AW p l e _ s m args below meth c E M_Re_readWall true _ n _ _ _ [(2, v0), (0, v1), (0, v2)] [(0, r_11)] C
  refine AW.if_ne (t := 56) (dc hd_Re_readWall 25 rfl) (by decide) (fun c_16 => ?_) (fun c_16 => ?_)
  · have h := h.2 c_16
    refine AW.ra_n (dc hd_Re_readWall 29 rfl) rfl rfl rfl ?_
    refine AW.iconst (dc hd_Re_readWall 30 rfl) (by decide) ?_
    refine AW.callV (As := [(0, 0)]) (rest := []) (ci := 3) (m_Re_readV l E n C v0 0 _ h) cb_3_98 im_Re_readV se_Re_readV ⟨_, _, rfl⟩ (by decide) (dc hd_Re_readWall 31 rfl) g_12 rfl rfl ⟨Nat.le_of_ble_eq_true rfl, Nat.le_of_ble_eq_true rfl⟩ ⟨(Nat.le_of_ble_eq_true rfl), (Nat.le_of_ble_eq_true rfl)⟩ (Nat.le_of_ble_eq_true rfl) (fun _ h => by cases h) (fun _ => rfl) (fun r_17 C_18 d_20 q_19 => ?_)
    obtain ⟨q_19a, h⟩ := q_19
    subst d_20
    show AW p l e _ s m args below meth c E M_Re_readWall true _ n _ _ _ [(2, v0), (0, v1), (0, v2)] [(0, r_17)] C_18
    refine AW.if_eq (t := 72) (dc hd_Re_readWall 32 rfl) (by decide) (fun c_21 => ?_) (fun c_21 => ?_)
    · have h := h.1 c_21
      refine AW.iconst (dc hd_Re_readWall 37 rfl) (by decide) ?_
      exact AW.zret (dc hd_Re_readWall 38 rfl) rfl rfl (Nat.le_of_ble_eq_true rfl) (Nat.le_of_ble_eq_true rfl) (by decide) ⟨rfl, h⟩
    · have h := h.2 c_21
      refine AW.ra_n (dc hd_Re_readWall 33 rfl) rfl rfl rfl ?_
      refine AW.iconst (dc hd_Re_readWall 34 rfl) (by decide) ?_
      refine AW.callV (As := [(0, 1)]) (rest := []) (ci := 3) (m_Re_readV l E n C_18 v0 1 _ h) cb_3_98 im_Re_readV se_Re_readV ⟨_, _, rfl⟩ (by decide) (dc hd_Re_readWall 35 rfl) g_12 rfl rfl ⟨Nat.le_of_ble_eq_true rfl, Nat.le_of_ble_eq_true rfl⟩ ⟨(Nat.le_of_ble_eq_true rfl), (Nat.le_of_ble_eq_true rfl)⟩ (Nat.le_of_ble_eq_true rfl) (fun _ h => by cases h) (fun _ => rfl) (fun r_22 C_23 d_25 q_24 => ?_)
      obtain ⟨q_24a, h⟩ := q_24
      subst d_25
      show AW p l e _ s m args below meth c E M_Re_readWall true _ n _ _ _ [(2, v0), (0, v1), (0, v2)] [(0, r_22)] C_23
      refine AW.if_ne (t := 74) (dc hd_Re_readWall 36 rfl) (by decide) (fun c_26 => ?_) (fun c_26 => ?_)
      · have h := h.2 c_26
        refine AW.ra_n (dc hd_Re_readWall 39 rfl) rfl rfl rfl ?_
        refine AW.callV (As := []) (rest := []) (ci := 3) (m_Re_step l E n C_23 v0 _ h) cb_3_30 im_Re_step se_Re_step ⟨_, _, rfl⟩ (by decide) (dc hd_Re_readWall 40 rfl) g_12 rfl rfl ⟨Nat.le_of_ble_eq_true rfl, Nat.le_of_ble_eq_true rfl⟩ ⟨(Nat.le_of_ble_eq_true rfl), (Nat.le_of_ble_eq_true rfl)⟩ (Nat.le_of_ble_eq_true rfl) (fun _ h => by cases h) (fun _ => rfl) (fun u_29 C_27 d_30 q_28 => ?_)
        obtain ⟨q_28a, h⟩ := q_28
        subst d_30
        show AW p l e _ s m args below meth c E M_Re_readWall true _ n _ _ _ [(2, v0), (0, v1), (0, v2)] [] C_27
        refine AW.ra_n (dc hd_Re_readWall 41 rfl) rfl rfl rfl ?_
        refine AW.ldcS (t := 8) (dc hd_Re_readWall 42 rfl) (by decide +kernel) ?_
        refine AW.callV (As := [(4, 9)]) (rest := []) (ci := 3) (m_Re_isWord l E n C_27 v0 9 _ h) cb_3_51 im_Re_isWord se_Re_isWord ⟨_, _, rfl⟩ (by decide) (dc hd_Re_readWall 43 rfl) g_12 rfl rfl ⟨Nat.le_of_ble_eq_true rfl, Nat.le_of_ble_eq_true rfl⟩ ⟨(Nat.le_of_ble_eq_true rfl), (Nat.le_of_ble_eq_true rfl)⟩ (Nat.le_of_ble_eq_true rfl) (fun _ h => by cases h) (fun _ => rfl) (fun r_31 D_33 d_34 q_32 => ?_)
        obtain ⟨q_32a, q_32b, h⟩ := q_32
        subst D_33
        subst d_34
        show AW p l e _ s m args below meth c E M_Re_readWall true _ n _ _ _ [(2, v0), (0, v1), (0, v2)] [(0, r_31)] C_27
        refine AW.if_ne (t := 92) (dc hd_Re_readWall 44 rfl) (by decide) (fun c_35 => ?_) (fun c_35 => ?_)
        · have h := h.2 c_35
          refine AW.ra_n (dc hd_Re_readWall 48 rfl) rfl rfl rfl ?_
          refine AW.iconst (dc hd_Re_readWall 49 rfl) (by decide) ?_
          refine AW.callV (As := [(0, 2)]) (rest := []) (ci := 3) (m_Re_readV l E n C_27 v0 2 _ h) cb_3_98 im_Re_readV se_Re_readV ⟨_, _, rfl⟩ (by decide) (dc hd_Re_readWall 50 rfl) g_12 rfl rfl ⟨Nat.le_of_ble_eq_true rfl, Nat.le_of_ble_eq_true rfl⟩ ⟨(Nat.le_of_ble_eq_true rfl), (Nat.le_of_ble_eq_true rfl)⟩ (Nat.le_of_ble_eq_true rfl) (fun _ h => by cases h) (fun _ => rfl) (fun r_36 C_37 d_39 q_38 => ?_)
          obtain ⟨q_38a, h⟩ := q_38
          subst d_39
          show AW p l e _ s m args below meth c E M_Re_readWall true _ n _ _ _ [(2, v0), (0, v1), (0, v2)] [(0, r_36)] C_37
          refine AW.if_eq (t := 108) (dc hd_Re_readWall 51 rfl) (by decide) (fun c_40 => ?_) (fun c_40 => ?_)
          · have h := h.1 c_40
            refine AW.iconst (dc hd_Re_readWall 56 rfl) (by decide) ?_
            exact AW.zret (dc hd_Re_readWall 57 rfl) rfl rfl (Nat.le_of_ble_eq_true rfl) (Nat.le_of_ble_eq_true rfl) (by decide) ⟨rfl, h⟩
          · have h := h.2 c_40
            refine AW.ra_n (dc hd_Re_readWall 52 rfl) rfl rfl rfl ?_
            refine AW.iconst (dc hd_Re_readWall 53 rfl) (by decide) ?_
            refine AW.callV (As := [(0, 3)]) (rest := []) (ci := 3) (m_Re_readV l E n C_37 v0 3 _ h) cb_3_98 im_Re_readV se_Re_readV ⟨_, _, rfl⟩ (by decide) (dc hd_Re_readWall 54 rfl) g_12 rfl rfl ⟨Nat.le_of_ble_eq_true rfl, Nat.le_of_ble_eq_true rfl⟩ ⟨(Nat.le_of_ble_eq_true rfl), (Nat.le_of_ble_eq_true rfl)⟩ (Nat.le_of_ble_eq_true rfl) (fun _ h => by cases h) (fun _ => rfl) (fun r_41 C_42 d_44 q_43 => ?_)
            obtain ⟨q_43a, h⟩ := q_43
            subst d_44
            show AW p l e _ s m args below meth c E M_Re_readWall true _ n _ _ _ [(2, v0), (0, v1), (0, v2)] [(0, r_41)] C_42
            refine AW.if_ne (t := 110) (dc hd_Re_readWall 55 rfl) (by decide) (fun c_45 => ?_) (fun c_45 => ?_)
            · have h := h.2 c_45
              refine AW.ra_n (dc hd_Re_readWall 58 rfl) rfl rfl rfl ?_
              refine AW.getp fl_3_18 (dc hd_Re_readWall 59 rfl) g_12 rfl ?_
              refine AW.iload_n (dc hd_Re_readWall 60 rfl) rfl ?_
              refine AW.iload_n (dc hd_Re_readWall 61 rfl) rfl ?_
              obtain ⟨g_46, h⟩ := h
              refine AW.callV (As := [(0, v1), (0, v2)]) (rest := []) (ci := 7) (m_Wa_beOf l E n C_42 (PT v0.toNat 7) v1 v2 _ h) cb_3_103 im_Wa_beOf se_Wa_beOf ⟨_, _, rfl⟩ (by decide) (dc hd_Re_readWall 62 rfl) g_46 rfl rfl ⟨Nat.le_of_ble_eq_true rfl, Nat.le_of_ble_eq_true rfl⟩ ⟨(Nat.le_of_ble_eq_true rfl), (Nat.le_of_ble_eq_true rfl)⟩ (Nat.le_of_ble_eq_true rfl) (fun _ h => by cases h) (fun _ => rfl) (fun u_49 C_47 d_50 q_48 => ?_)
              obtain ⟨q_48a, h⟩ := q_48
              subst d_50
              show AW p l e _ s m args below meth c E M_Re_readWall true _ n _ _ _ [(2, v0), (0, v1), (0, v2)] [] C_47
              refine AW.ra_n (dc hd_Re_readWall 63 rfl) rfl rfl rfl ?_
              refine AW.getp fl_3_18 (dc hd_Re_readWall 64 rfl) g_12 rfl ?_
              refine AW.ra_n (dc hd_Re_readWall 65 rfl) rfl rfl rfl ?_
              refine AW.getp fl_3_22 (dc hd_Re_readWall 66 rfl) g_12 rfl ?_
              refine AW.iconst (dc hd_Re_readWall 67 rfl) (by decide) ?_
              obtain ⟨g_51, h⟩ := h
              obtain ⟨g_52, h⟩ := h
              refine AW.iald (dc hd_Re_readWall 68 rfl) g_51 g_52 ?_
              refine AW.ra_n (dc hd_Re_readWall 69 rfl) rfl rfl rfl ?_
              refine AW.getp fl_3_22 (dc hd_Re_readWall 70 rfl) g_12 rfl ?_
              refine AW.iconst (dc hd_Re_readWall 71 rfl) (by decide) ?_
              obtain ⟨g_53, h⟩ := h
              refine AW.iald (dc hd_Re_readWall 72 rfl) g_51 g_53 ?_
              refine AW.ra_n (dc hd_Re_readWall 73 rfl) rfl rfl rfl ?_
              refine AW.getp fl_3_22 (dc hd_Re_readWall 74 rfl) g_12 rfl ?_
              refine AW.iconst (dc hd_Re_readWall 75 rfl) (by decide) ?_
              obtain ⟨g_54, h⟩ := h
              refine AW.iald (dc hd_Re_readWall 76 rfl) g_51 g_54 ?_
              refine AW.ra_n (dc hd_Re_readWall 77 rfl) rfl rfl rfl ?_
              refine AW.getp fl_3_22 (dc hd_Re_readWall 78 rfl) g_12 rfl ?_
              refine AW.iconst (dc hd_Re_readWall 79 rfl) (by decide) ?_
              obtain ⟨g_55, h⟩ := h
              refine AW.iald (dc hd_Re_readWall 80 rfl) g_51 g_55 ?_
              refine AW.callV (As := [(0, C_47 (PT v0.toNat 8).toNat 0), (0, C_47 (PT v0.toNat 8).toNat 1), (0, C_47 (PT v0.toNat 8).toNat 2), (0, C_47 (PT v0.toNat 8).toNat 3)]) (rest := []) (ci := 7) (m_Wa_lay l E n C_47 (PT v0.toNat 7) (C_47 (PT v0.toNat 8).toNat 0) (C_47 (PT v0.toNat 8).toNat 1) (C_47 (PT v0.toNat 8).toNat 2) (C_47 (PT v0.toNat 8).toNat 3) _ h) cb_3_107 im_Wa_lay se_Wa_lay ⟨_, _, rfl⟩ (by decide) (dc hd_Re_readWall 81 rfl) g_46 rfl rfl ⟨Nat.le_of_ble_eq_true rfl, Nat.le_of_ble_eq_true rfl⟩ ⟨(Nat.le_of_ble_eq_true rfl), (Nat.le_of_ble_eq_true rfl)⟩ (Nat.le_of_ble_eq_true rfl) (fun _ h => by cases h) (fun _ => rfl) (fun u_58 C_56 d_59 q_57 => ?_)
              obtain ⟨q_57a, h⟩ := q_57
              subst d_59
              show AW p l e _ s m args below meth c E M_Re_readWall true _ n _ _ _ [(2, v0), (0, v1), (0, v2)] [] C_56
              refine AW.iconst (dc hd_Re_readWall 82 rfl) (by decide) ?_
              exact AW.zret (dc hd_Re_readWall 83 rfl) rfl rfl (Nat.le_of_ble_eq_true rfl) (Nat.le_of_ble_eq_true rfl) (by decide) ⟨rfl, h⟩
            · have h := h.1 c_45
              refine AW.iconst (dc hd_Re_readWall 56 rfl) (by decide) ?_
              exact AW.zret (dc hd_Re_readWall 57 rfl) rfl rfl (Nat.le_of_ble_eq_true rfl) (Nat.le_of_ble_eq_true rfl) (by decide) ⟨rfl, h⟩
        · have h := h.1 c_35
          refine AW.ra_n (dc hd_Re_readWall 45 rfl) rfl rfl rfl ?_
          refine AW.callV (As := []) (rest := []) (ci := 3) (m_Re_failsHere l E n C_27 v0 _ h) cb_3_68 im_Re_failsHere se_Re_failsHere ⟨_, _, rfl⟩ (by decide) (dc hd_Re_readWall 46 rfl) g_12 rfl rfl ⟨Nat.le_of_ble_eq_true rfl, Nat.le_of_ble_eq_true rfl⟩ ⟨(Nat.le_of_ble_eq_true rfl), (Nat.le_of_ble_eq_true rfl)⟩ (Nat.le_of_ble_eq_true rfl) (fun _ h => by cases h) (fun _ => rfl) (fun r_60 C_61 d_63 q_62 => ?_)
          obtain ⟨q_62a, h⟩ := q_62
          subst d_63
          show AW p l e _ s m args below meth c E M_Re_readWall true _ n _ _ _ [(2, v0), (0, v1), (0, v2)] [(0, r_60)] C_61
          obtain ⟨g_64, h⟩ := h
          exact AW.zret (dc hd_Re_readWall 47 rfl) rfl rfl (Nat.le_of_ble_eq_true rfl) (Nat.le_of_ble_eq_true rfl) g_64 ⟨rfl, h⟩
      · have h := h.1 c_26
        refine AW.iconst (dc hd_Re_readWall 37 rfl) (by decide) ?_
        exact AW.zret (dc hd_Re_readWall 38 rfl) rfl rfl (Nat.le_of_ble_eq_true rfl) (Nat.le_of_ble_eq_true rfl) (by decide) ⟨rfl, h⟩
  · have h := h.1 c_16
    refine AW.ra_n (dc hd_Re_readWall 26 rfl) rfl rfl rfl ?_
    refine AW.callV (As := []) (rest := []) (ci := 3) (m_Re_failsHere l E n C v0 _ h) cb_3_68 im_Re_failsHere se_Re_failsHere ⟨_, _, rfl⟩ (by decide) (dc hd_Re_readWall 27 rfl) g_12 rfl rfl ⟨Nat.le_of_ble_eq_true rfl, Nat.le_of_ble_eq_true rfl⟩ ⟨(Nat.le_of_ble_eq_true rfl), (Nat.le_of_ble_eq_true rfl)⟩ (Nat.le_of_ble_eq_true rfl) (fun _ h => by cases h) (fun _ => rfl) (fun r_65 C_66 d_68 q_67 => ?_)
    obtain ⟨q_67a, h⟩ := q_67
    subst d_68
    show AW p l e _ s m args below meth c E M_Re_readWall true _ n _ _ _ [(2, v0), (0, v1), (0, v2)] [(0, r_65)] C_66
    obtain ⟨g_69, h⟩ := h
    exact AW.zret (dc hd_Re_readWall 28 rfl) rfl rfl (Nat.le_of_ble_eq_true rfl) (Nat.le_of_ble_eq_true rfl) g_69 ⟨rfl, h⟩
def P_Re_readWall (n : Nat) (C : Cn) (v0 v1 : Int) (Q : Int → Cn → Prop) : Prop :=
  okO n v0 3 ∧ (P_Re_step n C v0 (fun (_ : Int) (C_2 : Cn) => P_Re_isWord n C_2 v0 7 (fun (r_6 : Int) => (r_6 = 0 → (J_Re_readWall_42 n C_2 v0 v1 0 Q)) ∧ (¬ r_6 = 0 → (P_Re_step n C_2 v0 (fun (_ : Int) (C_70 : Cn) => P_Re_isNumber n C_70 v0 9 (fun (r_74 : Int) => (r_74 = 0 → (P_Re_failsHere n C_70 v0 (fun (r_84 : Int) (C_85 : Cn) => (r_84 = 0 ∨ r_84 = 1) ∧ (Q r_84 C_85)))) ∧ (¬ r_74 = 0 → (∀ v2_79 : Int, v2_79 = C_70 v0.toNat 5 → (P_Re_step n C_70 v0 (fun (_ : Int) (C_80 : Cn) => J_Re_readWall_42 n C_80 v0 v1 v2_79 Q)))))))))))
theorem m_Re_readWall (l : Launch) (E : Ev) (n : Nat) (C : Cn) (v0 v1 : Int) (Q : Int → Cn → Prop) (h : P_Re_readWall n C v0 v1 Q) : MA l y_Re_readWall M_Re_readWall E true C n [(2, v0), (0, v1)] (fun r C2 n2 => n2 = n ∧ Q r C2) := by
  refine MA.of (by decide) rfl rfl 1 rfl (fun p e s m args below meth c => ?_)
  show AW p l e _ s m args below meth c E M_Re_readWall true _ n 0 0 0 [(2, v0), (0, v1), (9, 0)] [] C
  unfold P_Re_readWall at h
  refine AW.iconst (dc hd_Re_readWall 0 rfl) (by decide) ?_
  refine AW.istore_n [(2, v0), (0, v1), (0, 0)] (dc hd_Re_readWall 1 rfl) (Nat.le_of_ble_eq_true rfl) rfl rfl ?_
  refine AW.ra_n (dc hd_Re_readWall 2 rfl) rfl rfl rfl ?_
  obtain ⟨g_1, h⟩ := h
  refine AW.callV (As := []) (rest := []) (ci := 3) (m_Re_step l E n C v0 _ h) cb_3_30 im_Re_step se_Re_step ⟨_, _, rfl⟩ (by decide) (dc hd_Re_readWall 3 rfl) g_1 rfl rfl ⟨Nat.le_of_ble_eq_true rfl, Nat.le_of_ble_eq_true rfl⟩ ⟨(Nat.le_of_ble_eq_true rfl), (Nat.le_of_ble_eq_true rfl)⟩ (Nat.le_of_ble_eq_true rfl) (fun _ h => by cases h) (fun _ => rfl) (fun u_4 C_2 d_5 q_3 => ?_)
  obtain ⟨q_3a, h⟩ := q_3
  subst d_5
  show AW p l e _ s m args below meth c E M_Re_readWall true _ n _ _ _ [(2, v0), (0, v1), (0, 0)] [] C_2
  refine AW.ra_n (dc hd_Re_readWall 4 rfl) rfl rfl rfl ?_
  refine AW.ldcS (t := 6) (dc hd_Re_readWall 5 rfl) (by decide +kernel) ?_
  refine AW.callV (As := [(4, 7)]) (rest := []) (ci := 3) (m_Re_isWord l E n C_2 v0 7 _ h) cb_3_51 im_Re_isWord se_Re_isWord ⟨_, _, rfl⟩ (by decide) (dc hd_Re_readWall 6 rfl) g_1 rfl rfl ⟨Nat.le_of_ble_eq_true rfl, Nat.le_of_ble_eq_true rfl⟩ ⟨(Nat.le_of_ble_eq_true rfl), (Nat.le_of_ble_eq_true rfl)⟩ (Nat.le_of_ble_eq_true rfl) (fun _ h => by cases h) (fun _ => rfl) (fun r_6 D_8 d_9 q_7 => ?_)
  obtain ⟨q_7a, q_7b, h⟩ := q_7
  subst D_8
  subst d_9
  show AW p l e _ s m args below meth c E M_Re_readWall true _ n _ _ _ [(2, v0), (0, v1), (0, 0)] [(0, r_6)] C_2
  refine AW.if_eq (t := 42) (dc hd_Re_readWall 7 rfl) (by decide) (fun c_10 => ?_) (fun c_10 => ?_)
  · have h := h.1 c_10
    exact aJ_Re_readWall_42 n C_2 v0 v1 0 Q h
  · have h := h.2 c_10
    refine AW.ra_n (dc hd_Re_readWall 8 rfl) rfl rfl rfl ?_
    refine AW.callV (As := []) (rest := []) (ci := 3) (m_Re_step l E n C_2 v0 _ h) cb_3_30 im_Re_step se_Re_step ⟨_, _, rfl⟩ (by decide) (dc hd_Re_readWall 9 rfl) g_1 rfl rfl ⟨Nat.le_of_ble_eq_true rfl, Nat.le_of_ble_eq_true rfl⟩ ⟨(Nat.le_of_ble_eq_true rfl), (Nat.le_of_ble_eq_true rfl)⟩ (Nat.le_of_ble_eq_true rfl) (fun _ h => by cases h) (fun _ => rfl) (fun u_72 C_70 d_73 q_71 => ?_)
    obtain ⟨q_71a, h⟩ := q_71
    subst d_73
    show AW p l e _ s m args below meth c E M_Re_readWall true _ n _ _ _ [(2, v0), (0, v1), (0, 0)] [] C_70
    refine AW.ra_n (dc hd_Re_readWall 10 rfl) rfl rfl rfl ?_
    refine AW.bipush (dc hd_Re_readWall 11 rfl) (by decide) (by decide +kernel) ?_
    refine AW.callV (As := [(0, 9)]) (rest := []) (ci := 3) (m_Re_isNumber l E n C_70 v0 9 _ h) cb_3_86 im_Re_isNumber se_Re_isNumber ⟨_, _, rfl⟩ (by decide) (dc hd_Re_readWall 12 rfl) g_1 rfl rfl ⟨Nat.le_of_ble_eq_true rfl, Nat.le_of_ble_eq_true rfl⟩ ⟨(Nat.le_of_ble_eq_true rfl), (Nat.le_of_ble_eq_true rfl)⟩ (Nat.le_of_ble_eq_true rfl) (fun _ h => by cases h) (fun _ => rfl) (fun r_74 D_76 d_77 q_75 => ?_)
    obtain ⟨q_75a, q_75b, h⟩ := q_75
    subst D_76
    subst d_77
    show AW p l e _ s m args below meth c E M_Re_readWall true _ n _ _ _ [(2, v0), (0, v1), (0, 0)] [(0, r_74)] C_70
    refine AW.if_ne (t := 33) (dc hd_Re_readWall 13 rfl) (by decide) (fun c_78 => ?_) (fun c_78 => ?_)
    · have h := h.2 c_78
      refine AW.ra_n (dc hd_Re_readWall 17 rfl) rfl rfl rfl ?_
      refine AW.getf fl_3_89 (dc hd_Re_readWall 18 rfl) g_1 ?_
      refine AW.nm (fun v2_79 ev2_79 => ?_)
      have h := h v2_79 ev2_79
      refine AW.istore_n [(2, v0), (0, v1), (0, v2_79)] (dc hd_Re_readWall 19 rfl) (Nat.le_of_ble_eq_true rfl) rfl rfl ?_
      refine AW.ra_n (dc hd_Re_readWall 20 rfl) rfl rfl rfl ?_
      refine AW.callV (As := []) (rest := []) (ci := 3) (m_Re_step l E n C_70 v0 _ h) cb_3_30 im_Re_step se_Re_step ⟨_, _, rfl⟩ (by decide) (dc hd_Re_readWall 21 rfl) g_1 rfl rfl ⟨Nat.le_of_ble_eq_true rfl, Nat.le_of_ble_eq_true rfl⟩ ⟨(Nat.le_of_ble_eq_true rfl), (Nat.le_of_ble_eq_true rfl)⟩ (Nat.le_of_ble_eq_true rfl) (fun _ h => by cases h) (fun _ => rfl) (fun u_82 C_80 d_83 q_81 => ?_)
      obtain ⟨q_81a, h⟩ := q_81
      subst d_83
      show AW p l e _ s m args below meth c E M_Re_readWall true _ n _ _ _ [(2, v0), (0, v1), (0, v2_79)] [] C_80
      exact aJ_Re_readWall_42 n C_80 v0 v1 v2_79 Q h
    · have h := h.1 c_78
      refine AW.ra_n (dc hd_Re_readWall 14 rfl) rfl rfl rfl ?_
      refine AW.callV (As := []) (rest := []) (ci := 3) (m_Re_failsHere l E n C_70 v0 _ h) cb_3_68 im_Re_failsHere se_Re_failsHere ⟨_, _, rfl⟩ (by decide) (dc hd_Re_readWall 15 rfl) g_1 rfl rfl ⟨Nat.le_of_ble_eq_true rfl, Nat.le_of_ble_eq_true rfl⟩ ⟨(Nat.le_of_ble_eq_true rfl), (Nat.le_of_ble_eq_true rfl)⟩ (Nat.le_of_ble_eq_true rfl) (fun _ h => by cases h) (fun _ => rfl) (fun r_84 C_85 d_87 q_86 => ?_)
      obtain ⟨q_86a, h⟩ := q_86
      subst d_87
      show AW p l e _ s m args below meth c E M_Re_readWall true _ n _ _ _ [(2, v0), (0, v1), (0, 0)] [(0, r_84)] C_85
      obtain ⟨g_88, h⟩ := h
      exact AW.zret (dc hd_Re_readWall 16 rfl) rfl rfl (Nat.le_of_ble_eq_true rfl) (Nat.le_of_ble_eq_true rfl) g_88 ⟨rfl, h⟩
def J_Re_readItem_83 (n : Nat) (C : Cn) (v0 v1 v2 s0 : Int) (Q : Int → Cn → Prop) : Prop :=
  (s0 = 0 → (okO n v0 3 ∧ (okO n v2 0 ∧ (P_Bl_allows n C v2 v1 (-1) (PT v0.toNat 7) 1 (fun (r_36 : Int) (C_38 : Cn) => (r_36 = 0 → (P_Re_failsHere n C_38 v0 (fun (r_47 : Int) (C_48 : Cn) => (r_47 = 0 ∨ r_47 = 1) ∧ (Q r_47 C_48)))) ∧ (¬ r_36 = 0 → (okO n v1 1 ∧ (P_Es_add n C_38 v1 (PT v0.toNat 7) (fun (_ : Int) (C_43 : Cn) => Q 1 C_43))))))))) ∧ (¬ s0 = 0 → (okO n v0 3 ∧ (P_Re_failsHere n C v0 (fun (r_29 : Int) (C_31 : Cn) => (r_29 = 0 ∨ r_29 = 1) ∧ (Q r_29 C_31)))))
theorem aJ_Re_readItem_83 (n : Nat) (C : Cn) (v0 v1 v2 s0 : Int) (Q : Int → Cn → Prop) (h : J_Re_readItem_83 n C v0 v1 v2 s0 Q) : AW p l e R s m args below meth c E M_Re_readItem true (fun r C2 n2 => n2 = n ∧ Q r C2) n 0 0 83 [(2, v0), (2, v1), (2, v2), (9, 0), (9, 0)] [(0, s0)] C := by
  unfold J_Re_readItem_83 at h
  refine AW.istore [(2, v0), (2, v1), (2, v2), (9, 0), (0, s0)] (dc hd_Re_readItem 47 rfl) (Nat.le_of_ble_eq_true rfl) rfl rfl ?_
  refine AW.iload (dc hd_Re_readItem 48 rfl) rfl ?_
  refine AW.if_ne (t := 104) (dc hd_Re_readItem 49 rfl) (by decide) (fun c_28 => ?_) (fun c_28 => ?_)
  · have h := h.2 c_28
    refine AW.ra_n (dc hd_Re_readItem 58 rfl) rfl rfl rfl ?_
    obtain ⟨g_30, h⟩ := h
    refine AW.callV (As := []) (rest := []) (ci := 3) (m_Re_failsHere l E n C v0 _ h) cb_3_68 im_Re_failsHere se_Re_failsHere ⟨_, _, rfl⟩ (by decide) (dc hd_Re_readItem 59 rfl) g_30 rfl rfl ⟨Nat.le_of_ble_eq_true rfl, Nat.le_of_ble_eq_true rfl⟩ ⟨(Nat.le_of_ble_eq_true rfl), (Nat.le_of_ble_eq_true rfl)⟩ (Nat.le_of_ble_eq_true rfl) (fun _ h => by cases h) (fun _ => rfl) (fun r_29 C_31 d_33 q_32 => ?_)
    obtain ⟨q_32a, h⟩ := q_32
    subst d_33
    show AW p l e _ s m args below meth c E M_Re_readItem true _ n _ _ _ [(2, v0), (2, v1), (2, v2), (9, 0), (0, s0)] [(0, r_29)] C_31
    obtain ⟨g_34, h⟩ := h
    exact AW.zret (dc hd_Re_readItem 60 rfl) rfl rfl (Nat.le_of_ble_eq_true rfl) (Nat.le_of_ble_eq_true rfl) g_34 ⟨rfl, h⟩
  · have h := h.1 c_28
    refine AW.ra_n (dc hd_Re_readItem 50 rfl) rfl rfl rfl ?_
    refine AW.ra_n (dc hd_Re_readItem 51 rfl) rfl rfl rfl ?_
    refine AW.iconst (dc hd_Re_readItem 52 rfl) (by decide) ?_
    refine AW.ra_n (dc hd_Re_readItem 53 rfl) rfl rfl rfl ?_
    obtain ⟨g_35, h⟩ := h
    refine AW.getp fl_3_18 (dc hd_Re_readItem 54 rfl) g_35 rfl ?_
    refine AW.iconst (dc hd_Re_readItem 55 rfl) (by decide) ?_
    obtain ⟨g_37, h⟩ := h
    refine AW.callV (As := [(2, v1), (0, (-1)), (2, PT v0.toNat 7), (0, 1)]) (rest := []) (ci := 0) (m_Bl_allows l E n C v2 v1 (-1) (PT v0.toNat 7) 1 _ h) cb_3_76 im_Bl_allows se_Bl_allows ⟨_, _, rfl⟩ (by decide) (dc hd_Re_readItem 56 rfl) g_37 rfl rfl ⟨Nat.le_of_ble_eq_true rfl, Nat.le_of_ble_eq_true rfl⟩ ⟨(Nat.le_of_ble_eq_true rfl), (Nat.le_of_ble_eq_true rfl)⟩ (Nat.le_of_ble_eq_true rfl) (fun _ h => by cases h) (fun _ => rfl) (fun r_36 C_38 d_40 q_39 => ?_)
    obtain ⟨q_39a, h⟩ := q_39
    subst d_40
    show AW p l e _ s m args below meth c E M_Re_readItem true _ n _ _ _ [(2, v0), (2, v1), (2, v2), (9, 0), (0, s0)] [(0, r_36)] C_38
    refine AW.if_ne (t := 109) (dc hd_Re_readItem 57 rfl) (by decide) (fun c_41 => ?_) (fun c_41 => ?_)
    · have h := h.2 c_41
      refine AW.ra_n (dc hd_Re_readItem 61 rfl) rfl rfl rfl ?_
      refine AW.ra_n (dc hd_Re_readItem 62 rfl) rfl rfl rfl ?_
      refine AW.getp fl_3_18 (dc hd_Re_readItem 63 rfl) g_35 rfl ?_
      obtain ⟨g_42, h⟩ := h
      refine AW.callV (As := [(2, PT v0.toNat 7)]) (rest := []) (ci := 1) (m_Es_add l E n C_38 v1 (PT v0.toNat 7) _ h) cb_3_82 im_Es_add se_Es_add ⟨_, _, rfl⟩ (by decide) (dc hd_Re_readItem 64 rfl) g_42 rfl rfl ⟨Nat.le_of_ble_eq_true rfl, Nat.le_of_ble_eq_true rfl⟩ ⟨(Nat.le_of_ble_eq_true rfl), (Nat.le_of_ble_eq_true rfl)⟩ (Nat.le_of_ble_eq_true rfl) (fun _ h => by cases h) (fun _ => rfl) (fun u_45 C_43 d_46 q_44 => ?_)
      obtain ⟨q_44a, h⟩ := q_44
      subst d_46
      show AW p l e _ s m args below meth c E M_Re_readItem true _ n _ _ _ [(2, v0), (2, v1), (2, v2), (9, 0), (0, s0)] [] C_43
      refine AW.iconst (dc hd_Re_readItem 65 rfl) (by decide) ?_
      exact AW.zret (dc hd_Re_readItem 66 rfl) rfl rfl (Nat.le_of_ble_eq_true rfl) (Nat.le_of_ble_eq_true rfl) (by decide) ⟨rfl, h⟩
    · have h := h.1 c_41
      refine AW.ra_n (dc hd_Re_readItem 58 rfl) rfl rfl rfl ?_
      refine AW.callV (As := []) (rest := []) (ci := 3) (m_Re_failsHere l E n C_38 v0 _ h) cb_3_68 im_Re_failsHere se_Re_failsHere ⟨_, _, rfl⟩ (by decide) (dc hd_Re_readItem 59 rfl) g_35 rfl rfl ⟨Nat.le_of_ble_eq_true rfl, Nat.le_of_ble_eq_true rfl⟩ ⟨(Nat.le_of_ble_eq_true rfl), (Nat.le_of_ble_eq_true rfl)⟩ (Nat.le_of_ble_eq_true rfl) (fun _ h => by cases h) (fun _ => rfl) (fun r_47 C_48 d_50 q_49 => ?_)
      obtain ⟨q_49a, h⟩ := q_49
      subst d_50
      show AW p l e _ s m args below meth c E M_Re_readItem true _ n _ _ _ [(2, v0), (2, v1), (2, v2), (9, 0), (0, s0)] [(0, r_47)] C_48
      obtain ⟨g_51, h⟩ := h
      exact AW.zret (dc hd_Re_readItem 60 rfl) rfl rfl (Nat.le_of_ble_eq_true rfl) (Nat.le_of_ble_eq_true rfl) g_51 ⟨rfl, h⟩
def J_Re_readItem_82 (n : Nat) (C : Cn) (v0 v1 v2 : Int) (Q : Int → Cn → Prop) : Prop :=
  J_Re_readItem_83 n C v0 v1 v2 0 Q
theorem aJ_Re_readItem_82 (n : Nat) (C : Cn) (v0 v1 v2 : Int) (Q : Int → Cn → Prop) (h : J_Re_readItem_82 n C v0 v1 v2 Q) : AW p l e R s m args below meth c E M_Re_readItem true (fun r C2 n2 => n2 = n ∧ Q r C2) n 0 0 82 [(2, v0), (2, v1), (2, v2), (9, 0), (9, 0)] [] C := by
  unfold J_Re_readItem_82 at h
  refine AW.iconst (dc hd_Re_readItem 46 rfl) (by decide) ?_
  exact aJ_Re_readItem_83 n C v0 v1 v2 0 Q h
def P_Re_readItem (n : Nat) (C : Cn) (v0 v1 v2 : Int) (Q : Int → Cn → Prop) : Prop :=
  okO n v0 3 ∧ (P_Re_isWord n C v0 10 (fun (r_1 : Int) => (r_1 = 0 → (P_Re_kindOfWord n C v0 (fun (r_7 : Int) => (r_7 < 0 → (P_Re_failsHere n C v0 (fun (r_12 : Int) (C_13 : Cn) => (r_12 = 0 ∨ r_12 = 1) ∧ (Q r_12 C_13)))) ∧ (¬ r_7 < 0 → (okO n v1 1 ∧ ((C v1.toNat 1 < 6 → (P_Re_readWall n C v0 r_7 (fun (r_19 : Int) (C_20 : Cn) => (r_19 = 0 → (Q 0 C_20)) ∧ (¬ r_19 = 0 → (okO n (PT v0.toNat 8) 12 ∧ (okI (PT v0.toNat 8) 0 ∧ (okI (PT v0.toNat 8) 2 ∧ ((C_20 (PT v0.toNat 8).toNat 0 = C_20 (PT v0.toNat 8).toNat 2 → (okI (PT v0.toNat 8) 1 ∧ (okI (PT v0.toNat 8) 3 ∧ (J_Re_readItem_83 n C_20 v0 v1 v2 (if C_20 (PT v0.toNat 8).toNat 1 = C_20 (PT v0.toNat 8).toNat 3 then 1 else 0) Q)))) ∧ (¬ C_20 (PT v0.toNat 8).toNat 0 = C_20 (PT v0.toNat 8).toNat 2 → (J_Re_readItem_82 n C_20 v0 v1 v2 Q)))))))))) ∧ (¬ C v1.toNat 1 < 6 → (P_Re_failsHere n C v0 (fun (r_55 : Int) (C_56 : Cn) => (r_55 = 0 ∨ r_55 = 1) ∧ (Q r_55 C_56)))))))))) ∧ (¬ r_1 = 0 → (P_Re_readTide n C v0 v1 (fun (r_60 : Int) (C_61 : Cn) => (r_60 = 0 ∨ r_60 = 1) ∧ (Q r_60 C_61))))))
theorem m_Re_readItem (l : Launch) (E : Ev) (n : Nat) (C : Cn) (v0 v1 v2 : Int) (Q : Int → Cn → Prop) (h : P_Re_readItem n C v0 v1 v2 Q) : MA l y_Re_readItem M_Re_readItem E true C n [(2, v0), (2, v1), (2, v2)] (fun r C2 n2 => n2 = n ∧ Q r C2) := by
  refine MA.of (by decide) rfl rfl 2 rfl (fun p e s m args below meth c => ?_)
  show AW p l e _ s m args below meth c E M_Re_readItem true _ n 0 0 0 [(2, v0), (2, v1), (2, v2), (9, 0), (9, 0)] [] C
  unfold P_Re_readItem at h
  refine AW.ra_n (dc hd_Re_readItem 0 rfl) rfl rfl rfl ?_
  refine AW.ldcS (t := 9) (dc hd_Re_readItem 1 rfl) (by decide +kernel) ?_
  obtain ⟨g_2, h⟩ := h
  refine AW.callV (As := [(4, 10)]) (rest := []) (ci := 3) (m_Re_isWord l E n C v0 10 _ h) cb_3_51 im_Re_isWord se_Re_isWord ⟨_, _, rfl⟩ (by decide) (dc hd_Re_readItem 2 rfl) g_2 rfl rfl ⟨Nat.le_of_ble_eq_true rfl, Nat.le_of_ble_eq_true rfl⟩ ⟨(Nat.le_of_ble_eq_true rfl), (Nat.le_of_ble_eq_true rfl)⟩ (Nat.le_of_ble_eq_true rfl) (fun _ h => by cases h) (fun _ => rfl) (fun r_1 D_4 d_5 q_3 => ?_)
  obtain ⟨q_3a, q_3b, h⟩ := q_3
  subst D_4
  subst d_5
  show AW p l e _ s m args below meth c E M_Re_readItem true _ n _ _ _ [(2, v0), (2, v1), (2, v2), (9, 0), (9, 0)] [(0, r_1)] C
  refine AW.if_eq (t := 15) (dc hd_Re_readItem 3 rfl) (by decide) (fun c_6 => ?_) (fun c_6 => ?_)
  · have h := h.1 c_6
    refine AW.ra_n (dc hd_Re_readItem 8 rfl) rfl rfl rfl ?_
    refine AW.callV (As := []) (rest := []) (ci := 3) (m_Re_kindOfWord l E n C v0 _ h) cb_3_59 im_Re_kindOfWord se_Re_kindOfWord ⟨_, _, rfl⟩ (by decide) (dc hd_Re_readItem 9 rfl) g_2 rfl rfl ⟨Nat.le_of_ble_eq_true rfl, Nat.le_of_ble_eq_true rfl⟩ ⟨(Nat.le_of_ble_eq_true rfl), (Nat.le_of_ble_eq_true rfl)⟩ (Nat.le_of_ble_eq_true rfl) (fun _ h => by cases h) (fun _ => rfl) (fun r_7 D_9 d_10 q_8 => ?_)
    obtain ⟨q_8a, q_8b, h⟩ := q_8
    subst D_9
    subst d_10
    show AW p l e _ s m args below meth c E M_Re_readItem true _ n _ _ _ [(2, v0), (2, v1), (2, v2), (9, 0), (9, 0)] [(0, r_7)] C
    refine AW.istore_n [(2, v0), (2, v1), (2, v2), (0, r_7), (9, 0)] (dc hd_Re_readItem 10 rfl) (Nat.le_of_ble_eq_true rfl) rfl rfl ?_
    refine AW.iload_n (dc hd_Re_readItem 11 rfl) rfl ?_
    refine AW.if_lt (t := 33) (dc hd_Re_readItem 12 rfl) (by decide) (fun c_11 => ?_) (fun c_11 => ?_)
    · have h := h.1 c_11
      refine AW.ra_n (dc hd_Re_readItem 17 rfl) rfl rfl rfl ?_
      refine AW.callV (As := []) (rest := []) (ci := 3) (m_Re_failsHere l E n C v0 _ h) cb_3_68 im_Re_failsHere se_Re_failsHere ⟨_, _, rfl⟩ (by decide) (dc hd_Re_readItem 18 rfl) g_2 rfl rfl ⟨Nat.le_of_ble_eq_true rfl, Nat.le_of_ble_eq_true rfl⟩ ⟨(Nat.le_of_ble_eq_true rfl), (Nat.le_of_ble_eq_true rfl)⟩ (Nat.le_of_ble_eq_true rfl) (fun _ h => by cases h) (fun _ => rfl) (fun r_12 C_13 d_15 q_14 => ?_)
      obtain ⟨q_14a, h⟩ := q_14
      subst d_15
      show AW p l e _ s m args below meth c E M_Re_readItem true _ n _ _ _ [(2, v0), (2, v1), (2, v2), (0, r_7), (9, 0)] [(0, r_12)] C_13
      obtain ⟨g_16, h⟩ := h
      exact AW.zret (dc hd_Re_readItem 19 rfl) rfl rfl (Nat.le_of_ble_eq_true rfl) (Nat.le_of_ble_eq_true rfl) g_16 ⟨rfl, h⟩
    · have h := h.2 c_11
      refine AW.ra_n (dc hd_Re_readItem 13 rfl) rfl rfl rfl ?_
      obtain ⟨g_17, h⟩ := h
      refine AW.getf fl_3_63 (dc hd_Re_readItem 14 rfl) g_17 ?_
      refine AW.bipush (dc hd_Re_readItem 15 rfl) (by decide) (by decide +kernel) ?_
      refine AW.icmp_lt (t := 38) (dc hd_Re_readItem 16 rfl) (by decide) (fun c_18 => ?_) (fun c_18 => ?_)
      · have h := h.1 c_18
        refine AW.ra_n (dc hd_Re_readItem 20 rfl) rfl rfl rfl ?_
        refine AW.iload_n (dc hd_Re_readItem 21 rfl) rfl ?_
        refine AW.callV (As := [(0, r_7)]) (rest := []) (ci := 3) (m_Re_readWall l E n C v0 r_7 _ h) cb_3_72 im_Re_readWall se_Re_readWall ⟨_, _, rfl⟩ (by decide) (dc hd_Re_readItem 22 rfl) g_2 rfl rfl ⟨Nat.le_of_ble_eq_true rfl, Nat.le_of_ble_eq_true rfl⟩ ⟨(Nat.le_of_ble_eq_true rfl), (Nat.le_of_ble_eq_true rfl)⟩ (Nat.le_of_ble_eq_true rfl) (fun _ h => by cases h) (fun _ => rfl) (fun r_19 C_20 d_22 q_21 => ?_)
        obtain ⟨q_21a, h⟩ := q_21
        subst d_22
        show AW p l e _ s m args below meth c E M_Re_readItem true _ n _ _ _ [(2, v0), (2, v1), (2, v2), (0, r_7), (9, 0)] [(0, r_19)] C_20
        refine AW.if_ne (t := 48) (dc hd_Re_readItem 23 rfl) (by decide) (fun c_23 => ?_) (fun c_23 => ?_)
        · have h := h.2 c_23
          refine AW.ra_n (dc hd_Re_readItem 26 rfl) rfl rfl rfl ?_
          refine AW.getp fl_3_22 (dc hd_Re_readItem 27 rfl) g_2 rfl ?_
          refine AW.iconst (dc hd_Re_readItem 28 rfl) (by decide) ?_
          obtain ⟨g_24, h⟩ := h
          obtain ⟨g_25, h⟩ := h
          refine AW.iald (dc hd_Re_readItem 29 rfl) g_24 g_25 ?_
          refine AW.ra_n (dc hd_Re_readItem 30 rfl) rfl rfl rfl ?_
          refine AW.getp fl_3_22 (dc hd_Re_readItem 31 rfl) g_2 rfl ?_
          refine AW.iconst (dc hd_Re_readItem 32 rfl) (by decide) ?_
          obtain ⟨g_26, h⟩ := h
          refine AW.iald (dc hd_Re_readItem 33 rfl) g_24 g_26 ?_
          refine AW.icmp_ne (t := 82) (dc hd_Re_readItem 34 rfl) (by decide) (fun c_27 => ?_) (fun c_27 => ?_)
          · have h := h.2 c_27
            refine AW.fgt [(2, v0), (2, v1), (2, v2), (9, 0), (9, 0)] ⟨.inl rfl, .inl rfl, .inl rfl, .inr rfl, .inl rfl, trivial⟩ ?_
            exact aJ_Re_readItem_82 n C_20 v0 v1 v2 Q h
          · have h := h.1 c_27
            refine AW.ra_n (dc hd_Re_readItem 35 rfl) rfl rfl rfl ?_
            refine AW.getp fl_3_22 (dc hd_Re_readItem 36 rfl) g_2 rfl ?_
            refine AW.iconst (dc hd_Re_readItem 37 rfl) (by decide) ?_
            obtain ⟨g_52, h⟩ := h
            refine AW.iald (dc hd_Re_readItem 38 rfl) g_24 g_52 ?_
            refine AW.ra_n (dc hd_Re_readItem 39 rfl) rfl rfl rfl ?_
            refine AW.getp fl_3_22 (dc hd_Re_readItem 40 rfl) g_2 rfl ?_
            refine AW.iconst (dc hd_Re_readItem 41 rfl) (by decide) ?_
            obtain ⟨g_53, h⟩ := h
            refine AW.iald (dc hd_Re_readItem 42 rfl) g_24 g_53 ?_
            refine AW.icmp_ne (t := 82) (dc hd_Re_readItem 43 rfl) (by decide) (fun c_54 => ?_) (fun c_54 => ?_)
            · simp only [if_neg (show ¬ (C_20 (PT v0.toNat 8).toNat 1 = C_20 (PT v0.toNat 8).toNat 3) from c_54)] at h
              refine AW.iconst (dc hd_Re_readItem 46 rfl) (by decide) ?_
              refine AW.fgt [(2, v0), (2, v1), (2, v2), (9, 0), (9, 0)] ⟨.inl rfl, .inl rfl, .inl rfl, .inr rfl, .inl rfl, trivial⟩ ?_
              exact aJ_Re_readItem_83 n C_20 _ _ _ _ Q h
            · simp only [if_pos (show C_20 (PT v0.toNat 8).toNat 1 = C_20 (PT v0.toNat 8).toNat 3 from c_54)] at h
              refine AW.iconst (dc hd_Re_readItem 44 rfl) (by decide) ?_
              refine AW.goto (t := 83) (dc hd_Re_readItem 45 rfl) (by decide) ?_
              refine AW.fgt [(2, v0), (2, v1), (2, v2), (9, 0), (9, 0)] ⟨.inl rfl, .inl rfl, .inl rfl, .inr rfl, .inl rfl, trivial⟩ ?_
              exact aJ_Re_readItem_83 n C_20 _ _ _ _ Q h
        · have h := h.1 c_23
          refine AW.iconst (dc hd_Re_readItem 24 rfl) (by decide) ?_
          exact AW.zret (dc hd_Re_readItem 25 rfl) rfl rfl (Nat.le_of_ble_eq_true rfl) (Nat.le_of_ble_eq_true rfl) (by decide) ⟨rfl, h⟩
      · have h := h.2 c_18
        refine AW.ra_n (dc hd_Re_readItem 17 rfl) rfl rfl rfl ?_
        refine AW.callV (As := []) (rest := []) (ci := 3) (m_Re_failsHere l E n C v0 _ h) cb_3_68 im_Re_failsHere se_Re_failsHere ⟨_, _, rfl⟩ (by decide) (dc hd_Re_readItem 18 rfl) g_2 rfl rfl ⟨Nat.le_of_ble_eq_true rfl, Nat.le_of_ble_eq_true rfl⟩ ⟨(Nat.le_of_ble_eq_true rfl), (Nat.le_of_ble_eq_true rfl)⟩ (Nat.le_of_ble_eq_true rfl) (fun _ h => by cases h) (fun _ => rfl) (fun r_55 C_56 d_58 q_57 => ?_)
        obtain ⟨q_57a, h⟩ := q_57
        subst d_58
        show AW p l e _ s m args below meth c E M_Re_readItem true _ n _ _ _ [(2, v0), (2, v1), (2, v2), (0, r_7), (9, 0)] [(0, r_55)] C_56
        obtain ⟨g_59, h⟩ := h
        exact AW.zret (dc hd_Re_readItem 19 rfl) rfl rfl (Nat.le_of_ble_eq_true rfl) (Nat.le_of_ble_eq_true rfl) g_59 ⟨rfl, h⟩
  · have h := h.2 c_6
    refine AW.ra_n (dc hd_Re_readItem 4 rfl) rfl rfl rfl ?_
    refine AW.ra_n (dc hd_Re_readItem 5 rfl) rfl rfl rfl ?_
    refine AW.callV (As := [(2, v1)]) (rest := []) (ci := 3) (m_Re_readTide l E n C v0 v1 _ h) cb_3_55 im_Re_readTide se_Re_readTide ⟨_, _, rfl⟩ (by decide) (dc hd_Re_readItem 6 rfl) g_2 rfl rfl ⟨Nat.le_of_ble_eq_true rfl, Nat.le_of_ble_eq_true rfl⟩ ⟨(Nat.le_of_ble_eq_true rfl), (Nat.le_of_ble_eq_true rfl)⟩ (Nat.le_of_ble_eq_true rfl) (fun _ h => by cases h) (fun _ => rfl) (fun r_60 C_61 d_63 q_62 => ?_)
    obtain ⟨q_62a, h⟩ := q_62
    subst d_63
    show AW p l e _ s m args below meth c E M_Re_readItem true _ n _ _ _ [(2, v0), (2, v1), (2, v2), (9, 0), (9, 0)] [(0, r_60)] C_61
    obtain ⟨g_64, h⟩ := h
    exact AW.zret (dc hd_Re_readItem 7 rfl) rfl rfl (Nat.le_of_ble_eq_true rfl) (Nat.le_of_ble_eq_true rfl) g_64 ⟨rfl, h⟩
def B_Re_readItems_7 (n : Nat) (v0 v1 v2 : Int) (Q : Int → Cn → Prop) (kz7 : Cn × Int → Prop) (z : Cn × Int) : Prop := match z with
  | (C, v3) => (120 < v3 → (okO n v0 3 ∧ (Q (w32 ((-1) - (C v0.toNat 1))) C))) ∧ (¬ 120 < v3 → (okO n v0 3 ∧ (P_Re_step n C v0 (fun (_ : Int) (C_6 : Cn) => P_Re_readItem n C_6 v0 v1 v2 (fun (r_10 : Int) (C_11 : Cn) => (r_10 = 0 → (Q (w32 ((-1) - (C_11 v0.toNat 6))) C_11)) ∧ (¬ r_10 = 0 → (P_Re_step n C_11 v0 (fun (_ : Int) (C_15 : Cn) => (C_15 v0.toNat 2 = 0 → (Q v3 C_15)) ∧ (¬ C_15 v0.toNat 2 = 0 → ((C_15 v0.toNat 2 = 3 → (kz7 (C_15, w32 (v3 + 1)))) ∧ (¬ C_15 v0.toNat 2 = 3 → (Q (w32 ((-1) - (C_15 v0.toNat 3))) C_15))))))))))))
theorem bB_Re_readItems_7 (n : Nat) (v0 v1 v2 : Int) (Q : Int → Cn → Prop) (kz7 : Cn × Int → Prop) (hkz7 : ∀ (Cz : Cn) (z3 : Int), kz7 (Cz, z3) → AW p l e R s m args below meth c E M_Re_readItems true (fun r C2 n2 => n2 = n ∧ Q r C2) n 0 0 7 [(2, v0), (2, v1), (2, v2), (0, z3)] [] Cz) (C : Cn) (v3 : Int) (h : B_Re_readItems_7 n v0 v1 v2 Q kz7 (C, v3)) : AW p l e R s m args below meth c E M_Re_readItems true (fun r C2 n2 => n2 = n ∧ Q r C2) n 0 0 7 [(2, v0), (2, v1), (2, v2), (0, v3)] [] C := by
  unfold B_Re_readItems_7 at h
  dsimp only at h
  refine AW.iload_n (dc hd_Re_readItems 5 rfl) rfl ?_
  refine AW.bipush (dc hd_Re_readItems 6 rfl) (by decide) (by decide +kernel) ?_
  refine AW.icmp_gt (t := 67) (dc hd_Re_readItems 7 rfl) (by decide) (fun c_3 => ?_) (fun c_3 => ?_)
  · have h := h.1 c_3
    refine AW.iconst (dc hd_Re_readItems 38 rfl) (by decide) ?_
    refine AW.ra_n (dc hd_Re_readItems 39 rfl) rfl rfl rfl ?_
    obtain ⟨g_4, h⟩ := h
    refine AW.getf fl_3_46 (dc hd_Re_readItems 40 rfl) g_4 ?_
    refine AW.isub (dc hd_Re_readItems 41 rfl) ?_
    exact AW.iret (dc hd_Re_readItems 42 rfl) rfl rfl (Nat.le_of_ble_eq_true rfl) (Nat.le_of_ble_eq_true rfl) ⟨rfl, h⟩
  · have h := h.2 c_3
    refine AW.ra_n (dc hd_Re_readItems 8 rfl) rfl rfl rfl ?_
    obtain ⟨g_5, h⟩ := h
    refine AW.callV (As := []) (rest := []) (ci := 3) (m_Re_step l E n C v0 _ h) cb_3_30 im_Re_step se_Re_step ⟨_, _, rfl⟩ (by decide) (dc hd_Re_readItems 9 rfl) g_5 rfl rfl ⟨Nat.le_of_ble_eq_true rfl, Nat.le_of_ble_eq_true rfl⟩ ⟨(Nat.le_of_ble_eq_true rfl), (Nat.le_of_ble_eq_true rfl)⟩ (Nat.le_of_ble_eq_true rfl) (fun _ h => by cases h) (fun _ => rfl) (fun u_8 C_6 d_9 q_7 => ?_)
    obtain ⟨q_7a, h⟩ := q_7
    subst d_9
    show AW p l e _ s m args below meth c E M_Re_readItems true _ n _ _ _ [(2, v0), (2, v1), (2, v2), (0, v3)] [] C_6
    refine AW.ra_n (dc hd_Re_readItems 10 rfl) rfl rfl rfl ?_
    refine AW.ra_n (dc hd_Re_readItems 11 rfl) rfl rfl rfl ?_
    refine AW.ra_n (dc hd_Re_readItems 12 rfl) rfl rfl rfl ?_
    refine AW.callV (As := [(2, v1), (2, v2)]) (rest := []) (ci := 3) (m_Re_readItem l E n C_6 v0 v1 v2 _ h) cb_3_33 im_Re_readItem se_Re_readItem ⟨_, _, rfl⟩ (by decide) (dc hd_Re_readItems 13 rfl) g_5 rfl rfl ⟨Nat.le_of_ble_eq_true rfl, Nat.le_of_ble_eq_true rfl⟩ ⟨(Nat.le_of_ble_eq_true rfl), (Nat.le_of_ble_eq_true rfl)⟩ (Nat.le_of_ble_eq_true rfl) (fun _ h => by cases h) (fun _ => rfl) (fun r_10 C_11 d_13 q_12 => ?_)
    obtain ⟨q_12a, h⟩ := q_12
    subst d_13
    show AW p l e _ s m args below meth c E M_Re_readItems true _ n _ _ _ [(2, v0), (2, v1), (2, v2), (0, v3)] [(0, r_10)] C_11
    refine AW.if_ne (t := 33) (dc hd_Re_readItems 14 rfl) (by decide) (fun c_14 => ?_) (fun c_14 => ?_)
    · have h := h.2 c_14
      refine AW.ra_n (dc hd_Re_readItems 20 rfl) rfl rfl rfl ?_
      refine AW.callV (As := []) (rest := []) (ci := 3) (m_Re_step l E n C_11 v0 _ h) cb_3_30 im_Re_step se_Re_step ⟨_, _, rfl⟩ (by decide) (dc hd_Re_readItems 21 rfl) g_5 rfl rfl ⟨Nat.le_of_ble_eq_true rfl, Nat.le_of_ble_eq_true rfl⟩ ⟨(Nat.le_of_ble_eq_true rfl), (Nat.le_of_ble_eq_true rfl)⟩ (Nat.le_of_ble_eq_true rfl) (fun _ h => by cases h) (fun _ => rfl) (fun u_17 C_15 d_18 q_16 => ?_)
      obtain ⟨q_16a, h⟩ := q_16
      subst d_18
      show AW p l e _ s m args below meth c E M_Re_readItems true _ n _ _ _ [(2, v0), (2, v1), (2, v2), (0, v3)] [] C_15
      refine AW.ra_n (dc hd_Re_readItems 22 rfl) rfl rfl rfl ?_
      refine AW.getf fl_3_40 (dc hd_Re_readItems 23 rfl) g_5 ?_
      refine AW.if_ne (t := 46) (dc hd_Re_readItems 24 rfl) (by decide) (fun c_19 => ?_) (fun c_19 => ?_)
      · have h := h.2 c_19
        refine AW.ra_n (dc hd_Re_readItems 27 rfl) rfl rfl rfl ?_
        refine AW.getf fl_3_40 (dc hd_Re_readItems 28 rfl) g_5 ?_
        refine AW.iconst (dc hd_Re_readItems 29 rfl) (by decide) ?_
        refine AW.icmp_eq (t := 61) (dc hd_Re_readItems 30 rfl) (by decide) (fun c_21 => ?_) (fun c_21 => ?_)
        · have h := h.1 c_21
          refine AW.iinc [(2, v0), (2, v1), (2, v2), (0, w32 (v3 + 1))] (dc hd_Re_readItems 36 rfl) rfl (Nat.le_of_ble_eq_true rfl) rfl rfl ?_
          refine AW.goto (t := 7) (dc hd_Re_readItems 37 rfl) (by decide) ?_
          exact hkz7 C_15 (w32 (v3 + 1)) h
        · have h := h.2 c_21
          refine AW.iconst (dc hd_Re_readItems 31 rfl) (by decide) ?_
          refine AW.ra_n (dc hd_Re_readItems 32 rfl) rfl rfl rfl ?_
          refine AW.getf fl_3_43 (dc hd_Re_readItems 33 rfl) g_5 ?_
          refine AW.isub (dc hd_Re_readItems 34 rfl) ?_
          exact AW.iret (dc hd_Re_readItems 35 rfl) rfl rfl (Nat.le_of_ble_eq_true rfl) (Nat.le_of_ble_eq_true rfl) ⟨rfl, h⟩
      · have h := h.1 c_19
        refine AW.iload_n (dc hd_Re_readItems 25 rfl) rfl ?_
        exact AW.iret (dc hd_Re_readItems 26 rfl) rfl rfl (Nat.le_of_ble_eq_true rfl) (Nat.le_of_ble_eq_true rfl) ⟨rfl, h⟩
    · have h := h.1 c_14
      refine AW.iconst (dc hd_Re_readItems 15 rfl) (by decide) ?_
      refine AW.ra_n (dc hd_Re_readItems 16 rfl) rfl rfl rfl ?_
      refine AW.getf fl_3_37 (dc hd_Re_readItems 17 rfl) g_5 ?_
      refine AW.isub (dc hd_Re_readItems 18 rfl) ?_
      exact AW.iret (dc hd_Re_readItems 19 rfl) rfl rfl (Nat.le_of_ble_eq_true rfl) (Nat.le_of_ble_eq_true rfl) ⟨rfl, h⟩
theorem aB_Re_readItems_7 (n : Nat) (v0 v1 v2 : Int) (Q : Int → Cn → Prop) : ∀ (f : Nat) (z : Cn × Int), lp (B_Re_readItems_7 n v0 v1 v2 Q) f z → AW p l e R s m args below meth c E M_Re_readItems true (fun r C2 n2 => n2 = n ∧ Q r C2) n 0 0 7 [(2, v0), (2, v1), (2, v2), (0, z.2)] [] (z.1) := by
  intro f
  induction f with
  | zero => intro z h; exact False.elim h
  | succ f ih => intro z h; exact bB_Re_readItems_7 n v0 v1 v2 Q (lp (B_Re_readItems_7 n v0 v1 v2 Q) f) (fun a0 a1 h => ih (a0, a1) h) z.1 z.2 h
def P_Re_readItems (n : Nat) (C : Cn) (v0 v1 v2 : Int) (Q : Int → Cn → Prop) : Prop :=
  okO n v0 3 ∧ (∀ C_2 : Cn, C_2 = wr C v0.toNat 4 0 → (∃ f_22 : Nat, lp (B_Re_readItems_7 n v0 v1 v2 Q) f_22 (C_2, 1)))
theorem m_Re_readItems (l : Launch) (E : Ev) (n : Nat) (C : Cn) (v0 v1 v2 : Int) (Q : Int → Cn → Prop) (h : P_Re_readItems n C v0 v1 v2 Q) : MA l y_Re_readItems M_Re_readItems E true C n [(2, v0), (2, v1), (2, v2)] (fun r C2 n2 => n2 = n ∧ Q r C2) := by
  refine MA.of (by decide) rfl rfl 1 rfl (fun p e s m args below meth c => ?_)
  show AW p l e _ s m args below meth c E M_Re_readItems true _ n 0 0 0 [(2, v0), (2, v1), (2, v2), (9, 0)] [] C
  unfold P_Re_readItems at h
  refine AW.ra_n (dc hd_Re_readItems 0 rfl) rfl rfl rfl ?_
  refine AW.iconst (dc hd_Re_readItems 1 rfl) (by decide) ?_
  obtain ⟨g_1, h⟩ := h
  refine AW.nputI fl_3_26 (dc hd_Re_readItems 2 rfl) g_1 (fun C_2 eC_2 => ?_)
  have h := h C_2 eC_2
  refine AW.iconst (dc hd_Re_readItems 3 rfl) (by decide) ?_
  refine AW.istore_n [(2, v0), (2, v1), (2, v2), (0, 1)] (dc hd_Re_readItems 4 rfl) (Nat.le_of_ble_eq_true rfl) rfl rfl ?_
  obtain ⟨f_22, h⟩ := h
  exact aB_Re_readItems_7 n v0 v1 v2 Q f_22 (C_2, 1) h
def P_Se_init (n : Nat) (C : Cn) (v0 v1 : Int) (Q : Int → Cn → Nat → Prop) : Prop :=
  (0 : Int) < v0 ∧ (LAY n = (12, 6) ∧ (okO (n + 1) v0 4 ∧ (∀ C_4 : Cn, C_4 = wr C v0.toNat 1 ((n : Nat) : Int) → (LAY (n + 1) = (12, 6) ∧ (okO ((n + 1) + 1) v0 4 ∧ (∀ C_7 : Cn, C_7 = wr C_4 v0.toNat 4 (((n + 1) : Nat) : Int) → (LAY ((n + 1) + 1) = (12, 6) ∧ (okO (((n + 1) + 1) + 1) v0 4 ∧ (∀ C_10 : Cn, C_10 = wr C_7 v0.toNat 5 ((((n + 1) + 1) : Nat) : Int) → (LAY (((n + 1) + 1) + 1) = (12, 12) ∧ (okO ((((n + 1) + 1) + 1) + 1) v0 4 ∧ (∀ C_13 : Cn, C_13 = wr C_10 v0.toNat 6 (((((n + 1) + 1) + 1) : Nat) : Int) → (LAY ((((n + 1) + 1) + 1) + 1) = (12, 12) ∧ (okO (((((n + 1) + 1) + 1) + 1) + 1) v0 4 ∧ (∀ C_16 : Cn, C_16 = wr C_13 v0.toNat 7 ((((((n + 1) + 1) + 1) + 1) : Nat) : Int) → (∀ C_17 : Cn, C_17 = wr C_16 v0.toNat 11 (-1) → (LAY (((((n + 1) + 1) + 1) + 1) + 1) = (12, 3136) ∧ (okO ((((((n + 1) + 1) + 1) + 1) + 1) + 1) v0 4 ∧ (∀ C_20 : Cn, C_20 = wr C_17 v0.toNat 14 (((((((n + 1) + 1) + 1) + 1) + 1) : Nat) : Int) → (LAY ((((((n + 1) + 1) + 1) + 1) + 1) + 1) = (12, 6) ∧ (okO (((((((n + 1) + 1) + 1) + 1) + 1) + 1) + 1) v0 4 ∧ (∀ C_23 : Cn, C_23 = wr C_20 v0.toNat 15 ((((((((n + 1) + 1) + 1) + 1) + 1) + 1) : Nat) : Int) → (LAY (((((((n + 1) + 1) + 1) + 1) + 1) + 1) + 1) = (12, 343) ∧ (okO ((((((((n + 1) + 1) + 1) + 1) + 1) + 1) + 1) + 1) v0 4 ∧ (∀ C_26 : Cn, C_26 = wr C_23 v0.toNat 17 (((((((((n + 1) + 1) + 1) + 1) + 1) + 1) + 1) : Nat) : Int) → (∀ C_27 : Cn, C_27 = wr C_26 v0.toNat 0 v1 → (Q 0 C_27 ((((((((n + 1) + 1) + 1) + 1) + 1) + 1) + 1) + 1))))))))))))))))))))))))))))
theorem m_Se_init (l : Launch) (E : Ev) (n : Nat) (C : Cn) (v0 v1 : Int) (Q : Int → Cn → Nat → Prop) (h : P_Se_init n C v0 v1 Q) : MA l y_Se_init M_Se_init E false C n [(2, v0), (2, v1)] Q := by
  refine MA.of (by decide) rfl rfl 0 rfl (fun p e s m args below meth c => ?_)
  show AW p l e _ s m args below meth c E M_Se_init false _ n 0 0 0 [(2, v0), (2, v1)] [] C
  unfold P_Se_init at h
  refine AW.ra_n (dc hd_Se_init 0 rfl) rfl rfl rfl ?_
  obtain ⟨g_1, h⟩ := h
  refine AW.objI (dc hd_Se_init 1 rfl) oi_4_3 g_1 (Nat.le_of_ble_eq_true rfl) (Nat.le_of_ble_eq_true rfl) (Nat.le_of_ble_eq_true rfl) ?_
  refine AW.ra_n (dc hd_Se_init 2 rfl) rfl rfl rfl ?_
  refine AW.bipush (dc hd_Se_init 3 rfl) (by decide) (by decide +kernel) ?_
  obtain ⟨g_2, h⟩ := h
  refine AW.newa12 (dc hd_Se_init 4 rfl) g_2 (by decide) aw_12 (fun h => by cases h) (Nat.le_of_ble_eq_true rfl) (Nat.le_of_ble_eq_true rfl) ?_
  obtain ⟨g_3, h⟩ := h
  refine AW.nputF fl_4_9 (dc hd_Se_init 5 rfl) g_3 (fun _ _ _ h => by cases h; rfl) rfl (fun o => by cases o <;> rfl) (fun o => by cases o <;> rfl) rfl (fun C_4 eC_4 => ?_)
  have h := h C_4 eC_4
  refine AW.ra_n (dc hd_Se_init 6 rfl) rfl rfl rfl ?_
  refine AW.bipush (dc hd_Se_init 7 rfl) (by decide) (by decide +kernel) ?_
  obtain ⟨g_5, h⟩ := h
  refine AW.newa12 (dc hd_Se_init 8 rfl) g_5 (by decide) aw_12 (fun h => by cases h) (Nat.le_of_ble_eq_true rfl) (Nat.le_of_ble_eq_true rfl) ?_
  obtain ⟨g_6, h⟩ := h
  refine AW.nputF fl_4_15 (dc hd_Se_init 9 rfl) g_6 (fun _ _ _ h => by cases h; rfl) rfl (fun o => by cases o <;> rfl) (fun o => by cases o <;> rfl) rfl (fun C_7 eC_7 => ?_)
  have h := h C_7 eC_7
  refine AW.ra_n (dc hd_Se_init 10 rfl) rfl rfl rfl ?_
  refine AW.bipush (dc hd_Se_init 11 rfl) (by decide) (by decide +kernel) ?_
  obtain ⟨g_8, h⟩ := h
  refine AW.newa12 (dc hd_Se_init 12 rfl) g_8 (by decide) aw_12 (fun h => by cases h) (Nat.le_of_ble_eq_true rfl) (Nat.le_of_ble_eq_true rfl) ?_
  obtain ⟨g_9, h⟩ := h
  refine AW.nputF fl_4_18 (dc hd_Se_init 13 rfl) g_9 (fun _ _ _ h => by cases h; rfl) rfl (fun o => by cases o <;> rfl) (fun o => by cases o <;> rfl) rfl (fun C_10 eC_10 => ?_)
  have h := h C_10 eC_10
  refine AW.ra_n (dc hd_Se_init 14 rfl) rfl rfl rfl ?_
  refine AW.bipush (dc hd_Se_init 15 rfl) (by decide) (by decide +kernel) ?_
  obtain ⟨g_11, h⟩ := h
  refine AW.newa12 (dc hd_Se_init 16 rfl) g_11 (by decide) aw_12 (fun h => by cases h) (Nat.le_of_ble_eq_true rfl) (Nat.le_of_ble_eq_true rfl) ?_
  obtain ⟨g_12, h⟩ := h
  refine AW.nputF fl_4_21 (dc hd_Se_init 17 rfl) g_12 (fun _ _ _ h => by cases h; rfl) rfl (fun o => by cases o <;> rfl) (fun o => by cases o <;> rfl) rfl (fun C_13 eC_13 => ?_)
  have h := h C_13 eC_13
  refine AW.ra_n (dc hd_Se_init 18 rfl) rfl rfl rfl ?_
  refine AW.bipush (dc hd_Se_init 19 rfl) (by decide) (by decide +kernel) ?_
  obtain ⟨g_14, h⟩ := h
  refine AW.newa12 (dc hd_Se_init 20 rfl) g_14 (by decide) aw_12 (fun h => by cases h) (Nat.le_of_ble_eq_true rfl) (Nat.le_of_ble_eq_true rfl) ?_
  obtain ⟨g_15, h⟩ := h
  refine AW.nputF fl_4_24 (dc hd_Se_init 21 rfl) g_15 (fun _ _ _ h => by cases h; rfl) rfl (fun o => by cases o <;> rfl) (fun o => by cases o <;> rfl) rfl (fun C_16 eC_16 => ?_)
  have h := h C_16 eC_16
  refine AW.ra_n (dc hd_Se_init 22 rfl) rfl rfl rfl ?_
  refine AW.iconst (dc hd_Se_init 23 rfl) (by decide) ?_
  refine AW.nputI fl_4_27 (dc hd_Se_init 24 rfl) g_15 (fun C_17 eC_17 => ?_)
  have h := h C_17 eC_17
  refine AW.ra_n (dc hd_Se_init 25 rfl) rfl rfl rfl ?_
  refine AW.sipush (dc hd_Se_init 26 rfl) (by decide) (by decide +kernel) ?_
  obtain ⟨g_18, h⟩ := h
  refine AW.newa12 (dc hd_Se_init 27 rfl) g_18 (by decide) aw_12 (fun h => by cases h) (Nat.le_of_ble_eq_true rfl) (Nat.le_of_ble_eq_true rfl) ?_
  obtain ⟨g_19, h⟩ := h
  refine AW.nputF fl_4_31 (dc hd_Se_init 28 rfl) g_19 (fun _ _ _ h => by cases h; rfl) rfl (fun o => by cases o <;> rfl) (fun o => by cases o <;> rfl) rfl (fun C_20 eC_20 => ?_)
  have h := h C_20 eC_20
  refine AW.ra_n (dc hd_Se_init 29 rfl) rfl rfl rfl ?_
  refine AW.bipush (dc hd_Se_init 30 rfl) (by decide) (by decide +kernel) ?_
  obtain ⟨g_21, h⟩ := h
  refine AW.newa12 (dc hd_Se_init 31 rfl) g_21 (by decide) aw_12 (fun h => by cases h) (Nat.le_of_ble_eq_true rfl) (Nat.le_of_ble_eq_true rfl) ?_
  obtain ⟨g_22, h⟩ := h
  refine AW.nputF fl_4_34 (dc hd_Se_init 32 rfl) g_22 (fun _ _ _ h => by cases h; rfl) rfl (fun o => by cases o <;> rfl) (fun o => by cases o <;> rfl) rfl (fun C_23 eC_23 => ?_)
  have h := h C_23 eC_23
  refine AW.ra_n (dc hd_Se_init 33 rfl) rfl rfl rfl ?_
  refine AW.sipush (dc hd_Se_init 34 rfl) (by decide) (by decide +kernel) ?_
  obtain ⟨g_24, h⟩ := h
  refine AW.newa12 (dc hd_Se_init 35 rfl) g_24 (by decide) aw_12 (fun h => by cases h) (Nat.le_of_ble_eq_true rfl) (Nat.le_of_ble_eq_true rfl) ?_
  obtain ⟨g_25, h⟩ := h
  refine AW.nputF fl_4_37 (dc hd_Se_init 36 rfl) g_25 (fun _ _ _ h => by cases h; rfl) rfl (fun o => by cases o <;> rfl) (fun o => by cases o <;> rfl) rfl (fun C_26 eC_26 => ?_)
  have h := h C_26 eC_26
  refine AW.ra_n (dc hd_Se_init 37 rfl) rfl rfl rfl ?_
  refine AW.ra_n (dc hd_Se_init 38 rfl) rfl rfl rfl ?_
  refine AW.nputF fl_4_40 (dc hd_Se_init 39 rfl) g_25 (fun _ _ _ h => by cases h; rfl) rfl (fun o => by cases o <;> rfl) (fun o => by cases o <;> rfl) rfl (fun C_27 eC_27 => ?_)
  have h := h C_27 eC_27
  exact AW.vret (dc hd_Se_init 40 rfl) rfl rfl (Nat.le_of_ble_eq_true rfl) (Nat.le_of_ble_eq_true rfl) h
def P_Sh_init (n : Nat) (C : Cn) (v0 : Int) (Q : Int → Cn → Nat → Prop) : Prop :=
  (0 : Int) < v0 ∧ (okO n v0 5 ∧ (∀ C_3 : Cn, C_3 = wr C v0.toNat 0 (-1) → (LAY n = (13, 40) ∧ (okO (n + 1) v0 5 ∧ (∀ C_6 : Cn, C_6 = wr C_3 v0.toNat 2 ((n : Nat) : Int) → (Q 0 C_6 (n + 1)))))))
theorem m_Sh_init (l : Launch) (E : Ev) (n : Nat) (C : Cn) (v0 : Int) (Q : Int → Cn → Nat → Prop) (h : P_Sh_init n C v0 Q) : MA l y_Sh_init M_Sh_init E false C n [(2, v0)] Q := by
  refine MA.of (by decide) rfl rfl 0 rfl (fun p e s m args below meth c => ?_)
  show AW p l e _ s m args below meth c E M_Sh_init false _ n 0 0 0 [(2, v0)] [] C
  unfold P_Sh_init at h
  refine AW.ra_n (dc hd_Sh_init 0 rfl) rfl rfl rfl ?_
  obtain ⟨g_1, h⟩ := h
  refine AW.objI (dc hd_Sh_init 1 rfl) oi_5_3 g_1 (Nat.le_of_ble_eq_true rfl) (Nat.le_of_ble_eq_true rfl) (Nat.le_of_ble_eq_true rfl) ?_
  refine AW.ra_n (dc hd_Sh_init 2 rfl) rfl rfl rfl ?_
  refine AW.iconst (dc hd_Sh_init 3 rfl) (by decide) ?_
  obtain ⟨g_2, h⟩ := h
  refine AW.nputI fl_5_9 (dc hd_Sh_init 4 rfl) g_2 (fun C_3 eC_3 => ?_)
  have h := h C_3 eC_3
  refine AW.ra_n (dc hd_Sh_init 5 rfl) rfl rfl rfl ?_
  refine AW.bipush (dc hd_Sh_init 6 rfl) (by decide) (by decide +kernel) ?_
  obtain ⟨g_4, h⟩ := h
  refine AW.newa13 (dc hd_Sh_init 7 rfl) g_4 (by decide) aw_13 (fun h => by cases h) (Nat.le_of_ble_eq_true rfl) (Nat.le_of_ble_eq_true rfl) ?_
  obtain ⟨g_5, h⟩ := h
  refine AW.nputF fl_5_15 (dc hd_Sh_init 8 rfl) g_5 (fun _ _ _ h => by cases h; rfl) rfl (fun o => by cases o <;> rfl) (fun o => by cases o <;> rfl) rfl (fun C_6 eC_6 => ?_)
  have h := h C_6 eC_6
  exact AW.vret (dc hd_Sh_init 9 rfl) rfl rfl (Nat.le_of_ble_eq_true rfl) (Nat.le_of_ble_eq_true rfl) h
def P_Sp_init (n : Nat) (C : Cn) (v0 : Int) (Q : Int → Cn → Nat → Prop) : Prop :=
  (0 : Int) < v0 ∧ (LAY n = (12, 10) ∧ (okO (n + 1) v0 6 ∧ (∀ C_4 : Cn, C_4 = wr C v0.toNat 0 ((n : Nat) : Int) → (LAY (n + 1) = (12, 10) ∧ (okO ((n + 1) + 1) v0 6 ∧ (∀ C_7 : Cn, C_7 = wr C_4 v0.toNat 1 (((n + 1) : Nat) : Int) → (Q 0 C_7 ((n + 1) + 1))))))))
theorem m_Sp_init (l : Launch) (E : Ev) (n : Nat) (C : Cn) (v0 : Int) (Q : Int → Cn → Nat → Prop) (h : P_Sp_init n C v0 Q) : MA l y_Sp_init M_Sp_init E false C n [(2, v0)] Q := by
  refine MA.of (by decide) rfl rfl 0 rfl (fun p e s m args below meth c => ?_)
  show AW p l e _ s m args below meth c E M_Sp_init false _ n 0 0 0 [(2, v0)] [] C
  unfold P_Sp_init at h
  refine AW.ra_n (dc hd_Sp_init 0 rfl) rfl rfl rfl ?_
  obtain ⟨g_1, h⟩ := h
  refine AW.objI (dc hd_Sp_init 1 rfl) oi_6_3 g_1 (Nat.le_of_ble_eq_true rfl) (Nat.le_of_ble_eq_true rfl) (Nat.le_of_ble_eq_true rfl) ?_
  refine AW.ra_n (dc hd_Sp_init 2 rfl) rfl rfl rfl ?_
  refine AW.bipush (dc hd_Sp_init 3 rfl) (by decide) (by decide +kernel) ?_
  obtain ⟨g_2, h⟩ := h
  refine AW.newa12 (dc hd_Sp_init 4 rfl) g_2 (by decide) aw_12 (fun h => by cases h) (Nat.le_of_ble_eq_true rfl) (Nat.le_of_ble_eq_true rfl) ?_
  obtain ⟨g_3, h⟩ := h
  refine AW.nputF fl_6_9 (dc hd_Sp_init 5 rfl) g_3 (fun _ _ _ h => by cases h; rfl) rfl (fun o => by cases o <;> rfl) (fun o => by cases o <;> rfl) rfl (fun C_4 eC_4 => ?_)
  have h := h C_4 eC_4
  refine AW.ra_n (dc hd_Sp_init 6 rfl) rfl rfl rfl ?_
  refine AW.bipush (dc hd_Sp_init 7 rfl) (by decide) (by decide +kernel) ?_
  obtain ⟨g_5, h⟩ := h
  refine AW.newa12 (dc hd_Sp_init 8 rfl) g_5 (by decide) aw_12 (fun h => by cases h) (Nat.le_of_ble_eq_true rfl) (Nat.le_of_ble_eq_true rfl) ?_
  obtain ⟨g_6, h⟩ := h
  refine AW.nputF fl_6_15 (dc hd_Sp_init 9 rfl) g_6 (fun _ _ _ h => by cases h; rfl) rfl (fun o => by cases o <;> rfl) (fun o => by cases o <;> rfl) rfl (fun C_7 eC_7 => ?_)
  have h := h C_7 eC_7
  exact AW.vret (dc hd_Sp_init 10 rfl) rfl rfl (Nat.le_of_ble_eq_true rfl) (Nat.le_of_ble_eq_true rfl) h
def P_Ws_init (n : Nat) (C : Cn) (v0 : Int) (Q : Int → Cn → Nat → Prop) : Prop :=
  (0 : Int) < v0 ∧ (LAY n = (12, 6) ∧ (okO (n + 1) v0 8 ∧ (∀ C_4 : Cn, C_4 = wr C v0.toNat 0 ((n : Nat) : Int) → (LAY (n + 1) = (12, 19) ∧ (okO ((n + 1) + 1) v0 8 ∧ (∀ C_7 : Cn, C_7 = wr C_4 v0.toNat 1 (((n + 1) : Nat) : Int) → (LAY ((n + 1) + 1) = (14, 19) ∧ (okO (((n + 1) + 1) + 1) v0 8 ∧ (∀ C_10 : Cn, C_10 = wr C_7 v0.toNat 2 ((((n + 1) + 1) : Nat) : Int) → (Q 0 C_10 (((n + 1) + 1) + 1)))))))))))
theorem m_Ws_init (l : Launch) (E : Ev) (n : Nat) (C : Cn) (v0 : Int) (Q : Int → Cn → Nat → Prop) (h : P_Ws_init n C v0 Q) : MA l y_Ws_init M_Ws_init E false C n [(2, v0)] Q := by
  refine MA.of (by decide) rfl rfl 0 rfl (fun p e s m args below meth c => ?_)
  show AW p l e _ s m args below meth c E M_Ws_init false _ n 0 0 0 [(2, v0)] [] C
  unfold P_Ws_init at h
  refine AW.ra_n (dc hd_Ws_init 0 rfl) rfl rfl rfl ?_
  obtain ⟨g_1, h⟩ := h
  refine AW.objI (dc hd_Ws_init 1 rfl) oi_8_3 g_1 (Nat.le_of_ble_eq_true rfl) (Nat.le_of_ble_eq_true rfl) (Nat.le_of_ble_eq_true rfl) ?_
  refine AW.ra_n (dc hd_Ws_init 2 rfl) rfl rfl rfl ?_
  refine AW.bipush (dc hd_Ws_init 3 rfl) (by decide) (by decide +kernel) ?_
  obtain ⟨g_2, h⟩ := h
  refine AW.newa12 (dc hd_Ws_init 4 rfl) g_2 (by decide) aw_12 (fun h => by cases h) (Nat.le_of_ble_eq_true rfl) (Nat.le_of_ble_eq_true rfl) ?_
  obtain ⟨g_3, h⟩ := h
  refine AW.nputF fl_8_9 (dc hd_Ws_init 5 rfl) g_3 (fun _ _ _ h => by cases h; rfl) rfl (fun o => by cases o <;> rfl) (fun o => by cases o <;> rfl) rfl (fun C_4 eC_4 => ?_)
  have h := h C_4 eC_4
  refine AW.ra_n (dc hd_Ws_init 6 rfl) rfl rfl rfl ?_
  refine AW.bipush (dc hd_Ws_init 7 rfl) (by decide) (by decide +kernel) ?_
  obtain ⟨g_5, h⟩ := h
  refine AW.newa12 (dc hd_Ws_init 8 rfl) g_5 (by decide) aw_12 (fun h => by cases h) (Nat.le_of_ble_eq_true rfl) (Nat.le_of_ble_eq_true rfl) ?_
  obtain ⟨g_6, h⟩ := h
  refine AW.nputF fl_8_15 (dc hd_Ws_init 9 rfl) g_6 (fun _ _ _ h => by cases h; rfl) rfl (fun o => by cases o <;> rfl) (fun o => by cases o <;> rfl) rfl (fun C_7 eC_7 => ?_)
  have h := h C_7 eC_7
  refine AW.ra_n (dc hd_Ws_init 10 rfl) rfl rfl rfl ?_
  refine AW.bipush (dc hd_Ws_init 11 rfl) (by decide) (by decide +kernel) ?_
  obtain ⟨g_8, h⟩ := h
  refine AW.newa14 (dc hd_Ws_init 12 rfl) g_8 (by decide) aw_14 (fun h => by cases h) (Nat.le_of_ble_eq_true rfl) (Nat.le_of_ble_eq_true rfl) ?_
  obtain ⟨g_9, h⟩ := h
  refine AW.nputF fl_8_18 (dc hd_Ws_init 13 rfl) g_9 (fun _ _ _ h => by cases h; rfl) rfl (fun o => by cases o <;> rfl) (fun o => by cases o <;> rfl) rfl (fun C_10 eC_10 => ?_)
  have h := h C_10 eC_10
  exact AW.vret (dc hd_Ws_init 14 rfl) rfl rfl (Nat.le_of_ble_eq_true rfl) (Nat.le_of_ble_eq_true rfl) h
def P_F_text (n : Nat) (C : Cn) (v0 : Int) (Q : Int → Cn → Prop) : Prop :=
  okO n v0 9 ∧ (okO n (PT v0.toNat 0) 1 ∧ (∀ v1_3 : Int, v1_3 = C (PT v0.toNat 0).toNat 1 → (∀ v2_4 : Int, v2_4 = C (PT v0.toNat 0).toNat 2 → (okO n (PT v0.toNat 8) 3 ∧ (P_Re_readItems n C (PT v0.toNat 8) (PT v0.toNat 0) (PT v0.toNat 7) (fun (r_5 : Int) (C_7 : Cn) => ∀ C_10 : Cn, C_10 = wr C_7 (PT v0.toNat 8).toNat 1 0 → ((0 ≤ r_5 → (P_F_settle n C_10 v0 (fun (_ : Int) (C_12 : Cn) => Q r_5 C_12))) ∧ (¬ 0 ≤ r_5 → (∀ C_16 : Cn, C_16 = wr C_10 (PT v0.toNat 0).toNat 1 v1_3 → (∀ C_17 : Cn, C_17 = wr C_16 (PT v0.toNat 0).toNat 2 v2_4 → (Q r_5 C_17)))))))))))
theorem m_F_text (l : Launch) (E : Ev) (n : Nat) (C : Cn) (v0 : Int) (Q : Int → Cn → Prop) (h : P_F_text n C v0 Q) : MA l y_F_text M_F_text E true C n [(2, v0)] (fun r C2 n2 => n2 = n ∧ Q r C2) := by
  refine MA.of (by decide) rfl rfl 3 rfl (fun p e s m args below meth c => ?_)
  show AW p l e _ s m args below meth c E M_F_text true _ n 0 0 0 [(2, v0), (9, 0), (9, 0), (9, 0)] [] C
  unfold P_F_text at h
  refine AW.ra_n (dc hd_F_text 0 rfl) rfl rfl rfl ?_
  obtain ⟨g_1, h⟩ := h
  refine AW.getp fl_9_12 (dc hd_F_text 1 rfl) g_1 rfl ?_
  obtain ⟨g_2, h⟩ := h
  refine AW.getf fl_9_105 (dc hd_F_text 2 rfl) g_2 ?_
  refine AW.nm (fun v1_3 ev1_3 => ?_)
  have h := h v1_3 ev1_3
  refine AW.istore_n [(2, v0), (0, v1_3), (9, 0), (9, 0)] (dc hd_F_text 3 rfl) (Nat.le_of_ble_eq_true rfl) rfl rfl ?_
  refine AW.ra_n (dc hd_F_text 4 rfl) rfl rfl rfl ?_
  refine AW.getp fl_9_12 (dc hd_F_text 5 rfl) g_1 rfl ?_
  refine AW.getf fl_9_150 (dc hd_F_text 6 rfl) g_2 ?_
  refine AW.nm (fun v2_4 ev2_4 => ?_)
  have h := h v2_4 ev2_4
  refine AW.istore_n [(2, v0), (0, v1_3), (0, v2_4), (9, 0)] (dc hd_F_text 7 rfl) (Nat.le_of_ble_eq_true rfl) rfl rfl ?_
  refine AW.ra_n (dc hd_F_text 8 rfl) rfl rfl rfl ?_
  refine AW.getp fl_9_58 (dc hd_F_text 9 rfl) g_1 rfl ?_
  refine AW.ra_n (dc hd_F_text 10 rfl) rfl rfl rfl ?_
  refine AW.getp fl_9_12 (dc hd_F_text 11 rfl) g_1 rfl ?_
  refine AW.ra_n (dc hd_F_text 12 rfl) rfl rfl rfl ?_
  refine AW.getp fl_9_51 (dc hd_F_text 13 rfl) g_1 rfl ?_
  obtain ⟨g_6, h⟩ := h
  refine AW.callV (As := [(2, PT v0.toNat 0), (2, PT v0.toNat 7)]) (rest := []) (ci := 3) (m_Re_readItems l E n C (PT v0.toNat 8) (PT v0.toNat 0) (PT v0.toNat 7) _ h) cb_9_377 im_Re_readItems se_Re_readItems ⟨_, _, rfl⟩ (by decide) (dc hd_F_text 14 rfl) g_6 rfl rfl ⟨Nat.le_of_ble_eq_true rfl, Nat.le_of_ble_eq_true rfl⟩ ⟨(Nat.le_of_ble_eq_true rfl), (Nat.le_of_ble_eq_true rfl)⟩ (Nat.le_of_ble_eq_true rfl) (fun _ h => by cases h) (fun _ => rfl) (fun r_5 C_7 d_9 q_8 => ?_)
  obtain ⟨q_8a, h⟩ := q_8
  subst d_9
  show AW p l e _ s m args below meth c E M_F_text true _ n _ _ _ [(2, v0), (0, v1_3), (0, v2_4), (9, 0)] [(0, r_5)] C_7
  refine AW.istore_n [(2, v0), (0, v1_3), (0, v2_4), (0, r_5)] (dc hd_F_text 15 rfl) (Nat.le_of_ble_eq_true rfl) rfl rfl ?_
  refine AW.ra_n (dc hd_F_text 16 rfl) rfl rfl rfl ?_
  refine AW.getp fl_9_58 (dc hd_F_text 17 rfl) g_1 rfl ?_
  refine AW.iconst (dc hd_F_text 18 rfl) (by decide) ?_
  refine AW.nputI fl_9_372 (dc hd_F_text 19 rfl) g_6 (fun C_10 eC_10 => ?_)
  have h := h C_10 eC_10
  refine AW.iload_n (dc hd_F_text 20 rfl) rfl ?_
  refine AW.if_ge (t := 62) (dc hd_F_text 21 rfl) (by decide) (fun c_11 => ?_) (fun c_11 => ?_)
  · have h := h.1 c_11
    refine AW.ra_n (dc hd_F_text 32 rfl) rfl rfl rfl ?_
    refine AW.callV (As := []) (rest := []) (ci := 9) (m_F_settle l E n C_10 v0 _ h) cb_9_90 im_F_settle se_F_settle ⟨_, _, rfl⟩ (by decide) (dc hd_F_text 33 rfl) g_1 rfl rfl ⟨Nat.le_of_ble_eq_true rfl, Nat.le_of_ble_eq_true rfl⟩ ⟨(Nat.le_of_ble_eq_true rfl), (Nat.le_of_ble_eq_true rfl)⟩ (Nat.le_of_ble_eq_true rfl) (fun _ h => by cases h) (fun _ => rfl) (fun u_14 C_12 d_15 q_13 => ?_)
    obtain ⟨q_13a, h⟩ := q_13
    subst d_15
    show AW p l e _ s m args below meth c E M_F_text true _ n _ _ _ [(2, v0), (0, v1_3), (0, v2_4), (0, r_5)] [] C_12
    refine AW.iload_n (dc hd_F_text 34 rfl) rfl ?_
    exact AW.iret (dc hd_F_text 35 rfl) rfl rfl (Nat.le_of_ble_eq_true rfl) (Nat.le_of_ble_eq_true rfl) ⟨rfl, h⟩
  · have h := h.2 c_11
    refine AW.ra_n (dc hd_F_text 22 rfl) rfl rfl rfl ?_
    refine AW.getp fl_9_12 (dc hd_F_text 23 rfl) g_1 rfl ?_
    refine AW.iload_n (dc hd_F_text 24 rfl) rfl ?_
    refine AW.nputI fl_9_105 (dc hd_F_text 25 rfl) g_2 (fun C_16 eC_16 => ?_)
    have h := h C_16 eC_16
    refine AW.ra_n (dc hd_F_text 26 rfl) rfl rfl rfl ?_
    refine AW.getp fl_9_12 (dc hd_F_text 27 rfl) g_1 rfl ?_
    refine AW.iload_n (dc hd_F_text 28 rfl) rfl ?_
    refine AW.nputI fl_9_150 (dc hd_F_text 29 rfl) g_2 (fun C_17 eC_17 => ?_)
    have h := h C_17 eC_17
    refine AW.iload_n (dc hd_F_text 30 rfl) rfl ?_
    exact AW.iret (dc hd_F_text 31 rfl) rfl rfl (Nat.le_of_ble_eq_true rfl) (Nat.le_of_ble_eq_true rfl) ⟨rfl, h⟩
end
