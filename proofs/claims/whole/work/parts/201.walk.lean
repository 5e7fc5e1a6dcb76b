section
variable {p : Program} {l : Launch} {e : Env} {R : Room} {s : State} {m : MethodId} {args : Array Value} {below : List Frame} {meth : Method} {c : Code} {E : Ev}
def B_La_findEnds_67 (n : Nat) (v0 v1 : Int) (Q : Int → Cn → Prop) (kz67 : Cn × Int → Prop) (z : Cn × Int) : Prop := match z with
  | (C, v2) => okO n v0 2 ∧ ((C v0.toNat 0 ≤ v2 → (Q 0 C)) ∧ (¬ C v0.toNat 0 ≤ v2 → (okO n v1 1 ∧ (okO n (PT v1.toNat 0) 16 ∧ (okI (PT v1.toNat 0) v2 ∧ (okO n (PT (PT v1.toNat 0).toNat v2.toNat) 7 ∧ (P_La_endsAhead n C v0 (C (PT (PT v1.toNat 0).toNat v2.toNat).toNat 2) (C (PT (PT v1.toNat 0).toNat v2.toNat).toNat 3) (fun (r_11 : Int) => okO n (PT v0.toNat 4) 12 ∧ (okI (PT v0.toNat 4) v2 ∧ (∀ C_17 : Cn, C_17 = wr C (PT v0.toNat 4).toNat v2.toNat r_11 → (P_La_endsAhead n C_17 v0 (C_17 (PT (PT v1.toNat 0).toNat v2.toNat).toNat 4) (C_17 (PT (PT v1.toNat 0).toNat v2.toNat).toNat 5) (fun (r_18 : Int) => okO n (PT v0.toNat 5) 12 ∧ (okI (PT v0.toNat 5) v2 ∧ (∀ C_24 : Cn, C_24 = wr C_17 (PT v0.toNat 5).toNat v2.toNat r_18 → (kz67 (C_24, w32 (v2 + 1)))))))))))))))))
theorem bB_La_findEnds_67 (n : Nat) (v0 v1 : Int) (Q : Int → Cn → Prop) (kz67 : Cn × Int → Prop) (hkz67 : ∀ (Cz : Cn) (z2 : Int), kz67 (Cz, z2) → AW p l e R s m args below meth c E M_La_findEnds true (fun r C2 n2 => n2 = n ∧ Q r C2) n 0 0 67 [(2, v0), (2, v1), (0, z2)] [] Cz) (C : Cn) (v2 : Int) (h : B_La_findEnds_67 n v0 v1 Q kz67 (C, v2)) : AW p l e R s m args below meth c E M_La_findEnds true (fun r C2 n2 => n2 = n ∧ Q r C2) n 0 0 67 [(2, v0), (2, v1), (0, v2)] [] C := by
  unfold B_La_findEnds_67 at h
  dsimp only at h
  refine AW.iload_n (dc hd_La_findEnds 37 rfl) rfl ?_
  refine AW.ra_n (dc hd_La_findEnds 38 rfl) rfl rfl rfl ?_
  obtain ⟨g_5, h⟩ := h
  refine AW.getf fl_2_63 (dc hd_La_findEnds 39 rfl) g_5 ?_
  refine AW.icmp_ge (t := 137) (dc hd_La_findEnds 40 rfl) (by decide) (fun c_6 => ?_) (fun c_6 => ?_)
  · have h := h.1 c_6
    exact AW.vret (dc hd_La_findEnds 75 rfl) rfl rfl (Nat.le_of_ble_eq_true rfl) (Nat.le_of_ble_eq_true rfl) ⟨rfl, h⟩
  · have h := h.2 c_6
    refine AW.ra_n (dc hd_La_findEnds 41 rfl) rfl rfl rfl ?_
    refine AW.getp fl_2_18 (dc hd_La_findEnds 42 rfl) g_5 rfl ?_
    refine AW.iload_n (dc hd_La_findEnds 43 rfl) rfl ?_
    refine AW.ra_n (dc hd_La_findEnds 44 rfl) rfl rfl rfl ?_
    refine AW.ra_n (dc hd_La_findEnds 45 rfl) rfl rfl rfl ?_
    obtain ⟨g_7, h⟩ := h
    refine AW.getp fl_2_90 (dc hd_La_findEnds 46 rfl) g_7 rfl ?_
    refine AW.iload_n (dc hd_La_findEnds 47 rfl) rfl ?_
    obtain ⟨g_8, h⟩ := h
    obtain ⟨g_9, h⟩ := h
    refine AW.aaldp (by decide) (dc hd_La_findEnds 48 rfl) g_8 g_9 rfl ?_
    obtain ⟨g_10, h⟩ := h
    refine AW.getf fl_2_94 (dc hd_La_findEnds 49 rfl) g_10 ?_
    refine AW.ra_n (dc hd_La_findEnds 50 rfl) rfl rfl rfl ?_
    refine AW.getp fl_2_90 (dc hd_La_findEnds 51 rfl) g_7 rfl ?_
    refine AW.iload_n (dc hd_La_findEnds 52 rfl) rfl ?_
    refine AW.aaldp (by decide) (dc hd_La_findEnds 53 rfl) g_8 g_9 rfl ?_
    refine AW.getf fl_2_99 (dc hd_La_findEnds 54 rfl) g_10 ?_
    refine AW.callV (As := [(0, C (PT (PT v1.toNat 0).toNat v2.toNat).toNat 2), (0, C (PT (PT v1.toNat 0).toNat v2.toNat).toNat 3)]) (rest := [(0, v2), (2, PT v0.toNat 4)]) (ci := 2) (m_La_endsAhead l E n C v0 (C (PT (PT v1.toNat 0).toNat v2.toNat).toNat 2) (C (PT (PT v1.toNat 0).toNat v2.toNat).toNat 3) _ h) cb_2_112 im_La_endsAhead se_La_endsAhead ⟨_, _, rfl⟩ (by decide) (dc hd_La_findEnds 55 rfl) g_5 rfl rfl ⟨Nat.le_of_ble_eq_true rfl, Nat.le_of_ble_eq_true rfl⟩ ⟨(Nat.le_of_ble_eq_true rfl), (Nat.le_of_ble_eq_true rfl)⟩ (Nat.le_of_ble_eq_true rfl) (fun _ h => by cases h) (fun _ => rfl) (fun r_11 D_13 d_14 q_12 => ?_)
    obtain ⟨q_12a, q_12b, h⟩ := q_12
    subst D_13
    subst d_14
    show AW p l e _ s m args below meth c E M_La_findEnds true _ n _ _ _ [(2, v0), (2, v1), (0, v2)] [(0, r_11), (0, v2), (2, PT v0.toNat 4)] C
    obtain ⟨g_15, h⟩ := h
    obtain ⟨g_16, h⟩ := h
    refine AW.niast (dc hd_La_findEnds 56 rfl) g_15 g_16 (fun C_17 eC_17 => ?_)
    have h := h C_17 eC_17
    refine AW.ra_n (dc hd_La_findEnds 57 rfl) rfl rfl rfl ?_
    refine AW.getp fl_2_21 (dc hd_La_findEnds 58 rfl) g_5 rfl ?_
    refine AW.iload_n (dc hd_La_findEnds 59 rfl) rfl ?_
    refine AW.ra_n (dc hd_La_findEnds 60 rfl) rfl rfl rfl ?_
    refine AW.ra_n (dc hd_La_findEnds 61 rfl) rfl rfl rfl ?_
    refine AW.getp fl_2_90 (dc hd_La_findEnds 62 rfl) g_7 rfl ?_
    refine AW.iload_n (dc hd_La_findEnds 63 rfl) rfl ?_
    refine AW.aaldp (by decide) (dc hd_La_findEnds 64 rfl) g_8 g_9 rfl ?_
    refine AW.getf fl_2_106 (dc hd_La_findEnds 65 rfl) g_10 ?_
    refine AW.ra_n (dc hd_La_findEnds 66 rfl) rfl rfl rfl ?_
    refine AW.getp fl_2_90 (dc hd_La_findEnds 67 rfl) g_7 rfl ?_
    refine AW.iload_n (dc hd_La_findEnds 68 rfl) rfl ?_
    refine AW.aaldp (by decide) (dc hd_La_findEnds 69 rfl) g_8 g_9 rfl ?_
    refine AW.getf fl_2_109 (dc hd_La_findEnds 70 rfl) g_10 ?_
    refine AW.callV (As := [(0, C_17 (PT (PT v1.toNat 0).toNat v2.toNat).toNat 4), (0, C_17 (PT (PT v1.toNat 0).toNat v2.toNat).toNat 5)]) (rest := [(0, v2), (2, PT v0.toNat 5)]) (ci := 2) (m_La_endsAhead l E n C_17 v0 (C_17 (PT (PT v1.toNat 0).toNat v2.toNat).toNat 4) (C_17 (PT (PT v1.toNat 0).toNat v2.toNat).toNat 5) _ h) cb_2_112 im_La_endsAhead se_La_endsAhead ⟨_, _, rfl⟩ (by decide) (dc hd_La_findEnds 71 rfl) g_5 rfl rfl ⟨Nat.le_of_ble_eq_true rfl, Nat.le_of_ble_eq_true rfl⟩ ⟨(Nat.le_of_ble_eq_true rfl), (Nat.le_of_ble_eq_true rfl)⟩ (Nat.le_of_ble_eq_true rfl) (fun _ h => by cases h) (fun _ => rfl) (fun r_18 D_20 d_21 q_19 => ?_)
    obtain ⟨q_19a, q_19b, h⟩ := q_19
    subst D_20
    subst d_21
    show AW p l e _ s m args below meth c E M_La_findEnds true _ n _ _ _ [(2, v0), (2, v1), (0, v2)] [(0, r_18), (0, v2), (2, PT v0.toNat 5)] C_17
    obtain ⟨g_22, h⟩ := h
    obtain ⟨g_23, h⟩ := h
    refine AW.niast (dc hd_La_findEnds 72 rfl) g_22 g_23 (fun C_24 eC_24 => ?_)
    have h := h C_24 eC_24
    refine AW.iinc [(2, v0), (2, v1), (0, w32 (v2 + 1))] (dc hd_La_findEnds 73 rfl) rfl (Nat.le_of_ble_eq_true rfl) rfl rfl ?_
    refine AW.goto (t := 67) (dc hd_La_findEnds 74 rfl) (by decide) ?_
    exact hkz67 C_24 (w32 (v2 + 1)) h
theorem aB_La_findEnds_67 (n : Nat) (v0 v1 : Int) (Q : Int → Cn → Prop) : ∀ (f : Nat) (z : Cn × Int), lp (B_La_findEnds_67 n v0 v1 Q) f z → AW p l e R s m args below meth c E M_La_findEnds true (fun r C2 n2 => n2 = n ∧ Q r C2) n 0 0 67 [(2, v0), (2, v1), (0, z.2)] [] (z.1) := by
  intro f
  induction f with
  | zero => intro z h; exact False.elim h
  | succ f ih => intro z h; exact bB_La_findEnds_67 n v0 v1 Q (lp (B_La_findEnds_67 n v0 v1 Q) f) (fun a0 a1 h => ih (a0, a1) h) z.1 z.2 h
def B_La_findEnds_7 (n : Nat) (v0 v1 : Int) (Q : Int → Cn → Prop) (kz7 : Cn × Int → Prop) (z : Cn × Int) : Prop := match z with
  | (C, v2) => okO n v0 2 ∧ ((C v0.toNat 0 ≤ v2 → (∃ f_25 : Nat, lp (B_La_findEnds_67 n v0 v1 Q) f_25 (C, 0))) ∧ (¬ C v0.toNat 0 ≤ v2 → (okO n v1 1 ∧ (okO n (PT v1.toNat 0) 16 ∧ (okI (PT v1.toNat 0) v2 ∧ (okO n (PT (PT v1.toNat 0).toNat v2.toNat) 7 ∧ (P_La_addEnd n C v0 (C (PT (PT v1.toNat 0).toNat v2.toNat).toNat 2) (C (PT (PT v1.toNat 0).toNat v2.toNat).toNat 3) (fun (_ : Int) (C_30 : Cn) => P_La_addEnd n C_30 v0 (C_30 (PT (PT v1.toNat 0).toNat v2.toNat).toNat 4) (C_30 (PT (PT v1.toNat 0).toNat v2.toNat).toNat 5) (fun (_ : Int) (C_34 : Cn) => kz7 (C_34, w32 (v2 + 1)))))))))))
theorem bB_La_findEnds_7 (n : Nat) (v0 v1 : Int) (Q : Int → Cn → Prop) (kz7 : Cn × Int → Prop) (hkz7 : ∀ (Cz : Cn) (z2 : Int), kz7 (Cz, z2) → AW p l e R s m args below meth c E M_La_findEnds true (fun r C2 n2 => n2 = n ∧ Q r C2) n 0 0 7 [(2, v0), (2, v1), (0, z2)] [] Cz) (C : Cn) (v2 : Int) (h : B_La_findEnds_7 n v0 v1 Q kz7 (C, v2)) : AW p l e R s m args below meth c E M_La_findEnds true (fun r C2 n2 => n2 = n ∧ Q r C2) n 0 0 7 [(2, v0), (2, v1), (0, v2)] [] C := by
  unfold B_La_findEnds_7 at h
  dsimp only at h
  refine AW.iload_n (dc hd_La_findEnds 5 rfl) rfl ?_
  refine AW.ra_n (dc hd_La_findEnds 6 rfl) rfl rfl rfl ?_
  obtain ⟨g_3, h⟩ := h
  refine AW.getf fl_2_63 (dc hd_La_findEnds 7 rfl) g_3 ?_
  refine AW.icmp_ge (t := 65) (dc hd_La_findEnds 8 rfl) (by decide) (fun c_4 => ?_) (fun c_4 => ?_)
  · have h := h.1 c_4
    refine AW.iconst (dc hd_La_findEnds 35 rfl) (by decide) ?_
    refine AW.istore_n [(2, v0), (2, v1), (0, 0)] (dc hd_La_findEnds 36 rfl) (Nat.le_of_ble_eq_true rfl) rfl rfl ?_
    obtain ⟨f_25, h⟩ := h
    exact aB_La_findEnds_67 n v0 v1 Q f_25 (C, 0) h
  · have h := h.2 c_4
    refine AW.ra_n (dc hd_La_findEnds 9 rfl) rfl rfl rfl ?_
    refine AW.ra_n (dc hd_La_findEnds 10 rfl) rfl rfl rfl ?_
    obtain ⟨g_26, h⟩ := h
    refine AW.getp fl_2_90 (dc hd_La_findEnds 11 rfl) g_26 rfl ?_
    refine AW.iload_n (dc hd_La_findEnds 12 rfl) rfl ?_
    obtain ⟨g_27, h⟩ := h
    obtain ⟨g_28, h⟩ := h
    refine AW.aaldp (by decide) (dc hd_La_findEnds 13 rfl) g_27 g_28 rfl ?_
    obtain ⟨g_29, h⟩ := h
    refine AW.getf fl_2_94 (dc hd_La_findEnds 14 rfl) g_29 ?_
    refine AW.ra_n (dc hd_La_findEnds 15 rfl) rfl rfl rfl ?_
    refine AW.getp fl_2_90 (dc hd_La_findEnds 16 rfl) g_26 rfl ?_
    refine AW.iload_n (dc hd_La_findEnds 17 rfl) rfl ?_
    refine AW.aaldp (by decide) (dc hd_La_findEnds 18 rfl) g_27 g_28 rfl ?_
    refine AW.getf fl_2_99 (dc hd_La_findEnds 19 rfl) g_29 ?_
    refine AW.callV (As := [(0, C (PT (PT v1.toNat 0).toNat v2.toNat).toNat 2), (0, C (PT (PT v1.toNat 0).toNat v2.toNat).toNat 3)]) (rest := []) (ci := 2) (m_La_addEnd l E n C v0 (C (PT (PT v1.toNat 0).toNat v2.toNat).toNat 2) (C (PT (PT v1.toNat 0).toNat v2.toNat).toNat 3) _ h) cb_2_102 im_La_addEnd se_La_addEnd ⟨_, _, rfl⟩ (by decide) (dc hd_La_findEnds 20 rfl) g_3 rfl rfl ⟨Nat.le_of_ble_eq_true rfl, Nat.le_of_ble_eq_true rfl⟩ ⟨(Nat.le_of_ble_eq_true rfl), (Nat.le_of_ble_eq_true rfl)⟩ (Nat.le_of_ble_eq_true rfl) (fun _ h => by cases h) (fun _ => rfl) (fun u_32 C_30 d_33 q_31 => ?_)
    obtain ⟨q_31a, h⟩ := q_31
    subst d_33
    show AW p l e _ s m args below meth c E M_La_findEnds true _ n _ _ _ [(2, v0), (2, v1), (0, v2)] [] C_30
    refine AW.ra_n (dc hd_La_findEnds 21 rfl) rfl rfl rfl ?_
    refine AW.ra_n (dc hd_La_findEnds 22 rfl) rfl rfl rfl ?_
    refine AW.getp fl_2_90 (dc hd_La_findEnds 23 rfl) g_26 rfl ?_
    refine AW.iload_n (dc hd_La_findEnds 24 rfl) rfl ?_
    refine AW.aaldp (by decide) (dc hd_La_findEnds 25 rfl) g_27 g_28 rfl ?_
    refine AW.getf fl_2_106 (dc hd_La_findEnds 26 rfl) g_29 ?_
    refine AW.ra_n (dc hd_La_findEnds 27 rfl) rfl rfl rfl ?_
    refine AW.getp fl_2_90 (dc hd_La_findEnds 28 rfl) g_26 rfl ?_
    refine AW.iload_n (dc hd_La_findEnds 29 rfl) rfl ?_
    refine AW.aaldp (by decide) (dc hd_La_findEnds 30 rfl) g_27 g_28 rfl ?_
    refine AW.getf fl_2_109 (dc hd_La_findEnds 31 rfl) g_29 ?_
    refine AW.callV (As := [(0, C_30 (PT (PT v1.toNat 0).toNat v2.toNat).toNat 4), (0, C_30 (PT (PT v1.toNat 0).toNat v2.toNat).toNat 5)]) (rest := []) (ci := 2) (m_La_addEnd l E n C_30 v0 (C_30 (PT (PT v1.toNat 0).toNat v2.toNat).toNat 4) (C_30 (PT (PT v1.toNat 0).toNat v2.toNat).toNat 5) _ h) cb_2_102 im_La_addEnd se_La_addEnd ⟨_, _, rfl⟩ (by decide) (dc hd_La_findEnds 32 rfl) g_3 rfl rfl ⟨Nat.le_of_ble_eq_true rfl, Nat.le_of_ble_eq_true rfl⟩ ⟨(Nat.le_of_ble_eq_true rfl), (Nat.le_of_ble_eq_true rfl)⟩ (Nat.le_of_ble_eq_true rfl) (fun _ h => by cases h) (fun _ => rfl) (fun u_36 C_34 d_37 q_35 => ?_)
    obtain ⟨q_35a, h⟩ := q_35
    subst d_37
    show AW p l e _ s m args below meth c E M_La_findEnds true _ n _ _ _ [(2, v0), (2, v1), (0, v2)] [] C_34
    refine AW.iinc [(2, v0), (2, v1), (0, w32 (v2 + 1))] (dc hd_La_findEnds 33 rfl) rfl (Nat.le_of_ble_eq_true rfl) rfl rfl ?_
    refine AW.goto (t := 7) (dc hd_La_findEnds 34 rfl) (by decide) ?_
    exact hkz7 C_34 (w32 (v2 + 1)) h
theorem aB_La_findEnds_7 (n : Nat) (v0 v1 : Int) (Q : Int → Cn → Prop) : ∀ (f : Nat) (z : Cn × Int), lp (B_La_findEnds_7 n v0 v1 Q) f z → AW p l e R s m args below meth c E M_La_findEnds true (fun r C2 n2 => n2 = n ∧ Q r C2) n 0 0 7 [(2, v0), (2, v1), (0, z.2)] [] (z.1) := by
  intro f
  induction f with
  | zero => intro z h; exact False.elim h
  | succ f ih => intro z h; exact bB_La_findEnds_7 n v0 v1 Q (lp (B_La_findEnds_7 n v0 v1 Q) f) (fun a0 a1 h => ih (a0, a1) h) z.1 z.2 h
def P_La_findEnds (n : Nat) (C : Cn) (v0 v1 : Int) (Q : Int → Cn → Prop) : Prop :=
  okO n v0 2 ∧ (∀ C_2 : Cn, C_2 = wr C v0.toNat 1 0 → (∃ f_38 : Nat, lp (B_La_findEnds_7 n v0 v1 Q) f_38 (C_2, 0)))
theorem m_La_findEnds (l : Launch) (E : Ev) (n : Nat) (C : Cn) (v0 v1 : Int) (Q : Int → Cn → Prop) (h : P_La_findEnds n C v0 v1 Q) : MA l y_La_findEnds M_La_findEnds E true C n [(2, v0), (2, v1)] (fun r C2 n2 => n2 = n ∧ Q r C2) := by
  refine MA.of (by decide) rfl rfl 1 rfl (fun p e s m args below meth c => ?_)
  show AW p l e _ s m args below meth c E M_La_findEnds true _ n 0 0 0 [(2, v0), (2, v1), (9, 0)] [] C
  unfold P_La_findEnds at h
  refine AW.ra_n (dc hd_La_findEnds 0 rfl) rfl rfl rfl ?_
  refine AW.iconst (dc hd_La_findEnds 1 rfl) (by decide) ?_
  obtain ⟨g_1, h⟩ := h
  refine AW.nputI fl_2_73 (dc hd_La_findEnds 2 rfl) g_1 (fun C_2 eC_2 => ?_)
  have h := h C_2 eC_2
  refine AW.iconst (dc hd_La_findEnds 3 rfl) (by decide) ?_
  refine AW.istore_n [(2, v0), (2, v1), (0, 0)] (dc hd_La_findEnds 4 rfl) (Nat.le_of_ble_eq_true rfl) rfl rfl ?_
  obtain ⟨f_38, h⟩ := h
  exact aB_La_findEnds_7 n v0 v1 Q f_38 (C_2, 0) h
def J_La_goesThrough_25 (n : Nat) (C : Cn) (s0 : Int) (Q : Int → Prop) : Prop :=
  (s0 = 0 ∨ s0 = 1) ∧ (Q s0)
theorem aJ_La_goesThrough_25 (n : Nat) (C : Cn) (s0 : Int) (Q : Int → Prop) (h : J_La_goesThrough_25 n C s0 Q) : AW p l e R s m args below meth c E M_La_goesThrough true (fun r C2 n2 => C2 = C ∧ n2 = n ∧ Q r) n 0 0 25 [(9, 0), (9, 0), (9, 0)] [(0, s0)] C := by
  unfold J_La_goesThrough_25 at h
  obtain ⟨g_8, h⟩ := h
  exact AW.zret (dc hd_La_goesThrough 15 rfl) rfl rfl (Nat.le_of_ble_eq_true rfl) (Nat.le_of_ble_eq_true rfl) g_8 ⟨rfl, rfl, h⟩
def P_La_goesThrough (n : Nat) (C : Cn) (v0 v1 v2 : Int) (Q : Int → Prop) : Prop :=
  okO n v0 2 ∧ (okO n (PT v0.toNat 4) 12 ∧ (okI (PT v0.toNat 4) v1 ∧ ((v2 ≤ C (PT v0.toNat 4).toNat v1.toNat → (Q 0)) ∧ (¬ v2 ≤ C (PT v0.toNat 4).toNat v1.toNat → (okO n (PT v0.toNat 5) 12 ∧ (okI (PT v0.toNat 5) v1 ∧ (J_La_goesThrough_25 n C (if C (PT v0.toNat 5).toNat v1.toNat < v2 then 0 else 1) Q)))))))
theorem m_La_goesThrough (l : Launch) (E : Ev) (n : Nat) (C : Cn) (v0 v1 v2 : Int) (Q : Int → Prop) (h : P_La_goesThrough n C v0 v1 v2 Q) : MA l y_La_goesThrough M_La_goesThrough E true C n [(2, v0), (0, v1), (0, v2)] (fun r C2 n2 => C2 = C ∧ n2 = n ∧ Q r) := by
  refine MA.of (by decide) rfl rfl 0 rfl (fun p e s m args below meth c => ?_)
  show AW p l e _ s m args below meth c E M_La_goesThrough true _ n 0 0 0 [(2, v0), (0, v1), (0, v2)] [] C
  unfold P_La_goesThrough at h
  refine AW.ra_n (dc hd_La_goesThrough 0 rfl) rfl rfl rfl ?_
  obtain ⟨g_1, h⟩ := h
  refine AW.getp fl_2_18 (dc hd_La_goesThrough 1 rfl) g_1 rfl ?_
  refine AW.iload_n (dc hd_La_goesThrough 2 rfl) rfl ?_
  obtain ⟨g_2, h⟩ := h
  obtain ⟨g_3, h⟩ := h
  refine AW.iald (dc hd_La_goesThrough 3 rfl) g_2 g_3 ?_
  refine AW.iload_n (dc hd_La_goesThrough 4 rfl) rfl ?_
  refine AW.icmp_ge (t := 24) (dc hd_La_goesThrough 5 rfl) (by decide) (fun c_4 => ?_) (fun c_4 => ?_)
  · have h := h.1 c_4
    refine AW.iconst (dc hd_La_goesThrough 14 rfl) (by decide) ?_
    exact AW.zret (dc hd_La_goesThrough 15 rfl) rfl rfl (Nat.le_of_ble_eq_true rfl) (Nat.le_of_ble_eq_true rfl) (by decide) ⟨rfl, rfl, h⟩
  · have h := h.2 c_4
    refine AW.iload_n (dc hd_La_goesThrough 6 rfl) rfl ?_
    refine AW.ra_n (dc hd_La_goesThrough 7 rfl) rfl rfl rfl ?_
    refine AW.getp fl_2_21 (dc hd_La_goesThrough 8 rfl) g_1 rfl ?_
    refine AW.iload_n (dc hd_La_goesThrough 9 rfl) rfl ?_
    obtain ⟨g_5, h⟩ := h
    obtain ⟨g_6, h⟩ := h
    refine AW.iald (dc hd_La_goesThrough 10 rfl) g_5 g_6 ?_
    refine AW.icmp_gt (t := 24) (dc hd_La_goesThrough 11 rfl) (by decide) (fun c_7 => ?_) (fun c_7 => ?_)
    · simp only [if_pos (show C (PT v0.toNat 5).toNat v1.toNat < v2 from c_7)] at h
      refine AW.iconst (dc hd_La_goesThrough 14 rfl) (by decide) ?_
      refine AW.fgt [(9, 0), (9, 0), (9, 0)] ⟨.inr rfl, .inr rfl, .inr rfl, trivial⟩ ?_
      exact aJ_La_goesThrough_25 n C _ Q h
    · simp only [if_neg (show ¬ (C (PT v0.toNat 5).toNat v1.toNat < v2) from c_7)] at h
      refine AW.iconst (dc hd_La_goesThrough 12 rfl) (by decide) ?_
      refine AW.goto (t := 25) (dc hd_La_goesThrough 13 rfl) (by decide) ?_
      refine AW.fgt [(9, 0), (9, 0), (9, 0)] ⟨.inr rfl, .inr rfl, .inr rfl, trivial⟩ ?_
      exact aJ_La_goesThrough_25 n C _ Q h
def J_Wa_isOver_153 (n : Nat) (C : Cn) (s0 : Int) (Q : Int → Prop) : Prop :=
  (s0 = 0 ∨ s0 = 1) ∧ (Q s0)
theorem aJ_Wa_isOver_153 (n : Nat) (C : Cn) (s0 : Int) (Q : Int → Prop) (h : J_Wa_isOver_153 n C s0 Q) : AW p l e R s m args below meth c E M_Wa_isOver true (fun r C2 n2 => C2 = C ∧ n2 = n ∧ Q r) n 0 0 153 [(9, 0), (9, 0)] [(0, s0)] C := by
  unfold J_Wa_isOver_153 at h
  obtain ⟨g_16, h⟩ := h
  exact AW.zret (dc hd_Wa_isOver 73 rfl) rfl rfl (Nat.le_of_ble_eq_true rfl) (Nat.le_of_ble_eq_true rfl) g_16 ⟨rfl, rfl, h⟩
def J_Wa_isOver_88 (n : Nat) (C : Cn) (v0 v1 : Int) (Q : Int → Prop) : Prop :=
  okO n v1 7 ∧ (okO n v0 7 ∧ (P_Wa_isAhead n C (C v1.toNat 2) (C v1.toNat 3) (C v0.toNat 2) (C v0.toNat 3) (fun (r_6 : Int) => (r_6 = 0 → (P_Wa_turnTo n C v0 (C v1.toNat 2) (C v1.toNat 3) (fun (r_11 : Int) => J_Wa_isOver_153 n C (if 0 ≤ r_11 then 0 else 1) Q))) ∧ (¬ r_6 = 0 → (P_Wa_turnTo n C v1 (C v0.toNat 2) (C v0.toNat 3) (fun (r_17 : Int) => J_Wa_isOver_153 n C (if r_17 ≤ 0 then 0 else 1) Q))))))
theorem aJ_Wa_isOver_88 (n : Nat) (C : Cn) (v0 v1 : Int) (Q : Int → Prop) (h : J_Wa_isOver_88 n C v0 v1 Q) : AW p l e R s m args below meth c E M_Wa_isOver true (fun r C2 n2 => C2 = C ∧ n2 = n ∧ Q r) n 0 0 88 [(2, v0), (2, v1)] [] C := by
  unfold J_Wa_isOver_88 at h
  refine AW.ra_n (dc hd_Wa_isOver 42 rfl) rfl rfl rfl ?_
  obtain ⟨g_4, h⟩ := h
  refine AW.getf fl_7_32 (dc hd_Wa_isOver 43 rfl) g_4 ?_
  refine AW.ra_n (dc hd_Wa_isOver 44 rfl) rfl rfl rfl ?_
  refine AW.getf fl_7_35 (dc hd_Wa_isOver 45 rfl) g_4 ?_
  refine AW.ra_n (dc hd_Wa_isOver 46 rfl) rfl rfl rfl ?_
  obtain ⟨g_5, h⟩ := h
  refine AW.getf fl_7_32 (dc hd_Wa_isOver 47 rfl) g_5 ?_
  refine AW.ra_n (dc hd_Wa_isOver 48 rfl) rfl rfl rfl ?_
  refine AW.getf fl_7_35 (dc hd_Wa_isOver 49 rfl) g_5 ?_
  refine AW.callS (As := [(0, C v1.toNat 2), (0, C v1.toNat 3), (0, C v0.toNat 2), (0, C v0.toNat 3)]) (rest := []) (m_Wa_isAhead l E n C (C v1.toNat 2) (C v1.toNat 3) (C v0.toNat 2) (C v0.toNat 3) _ h) cb_7_28 sm_Wa_isAhead (dc hd_Wa_isOver 50 rfl) rfl rfl ⟨Nat.le_of_ble_eq_true rfl, Nat.le_of_ble_eq_true rfl⟩ ⟨(Nat.le_of_ble_eq_true rfl), (Nat.le_of_ble_eq_true rfl)⟩ (Nat.le_of_ble_eq_true rfl) (fun _ h => by cases h) (fun _ => rfl) (fun r_6 D_8 d_9 q_7 => ?_)
  obtain ⟨q_7a, q_7b, h⟩ := q_7
  subst D_8
  subst d_9
  show AW p l e _ s m args below meth c E M_Wa_isOver true _ n _ _ _ [(2, v0), (2, v1)] [(0, r_6)] C
  refine AW.if_eq (t := 133) (dc hd_Wa_isOver 51 rfl) (by decide) (fun c_10 => ?_) (fun c_10 => ?_)
  · have h := h.1 c_10
    refine AW.ra_n (dc hd_Wa_isOver 63 rfl) rfl rfl rfl ?_
    refine AW.ra_n (dc hd_Wa_isOver 64 rfl) rfl rfl rfl ?_
    refine AW.getf fl_7_32 (dc hd_Wa_isOver 65 rfl) g_4 ?_
    refine AW.ra_n (dc hd_Wa_isOver 66 rfl) rfl rfl rfl ?_
    refine AW.getf fl_7_35 (dc hd_Wa_isOver 67 rfl) g_4 ?_
    refine AW.callV (As := [(0, C v1.toNat 2), (0, C v1.toNat 3)]) (rest := []) (ci := 7) (m_Wa_turnTo l E n C v0 (C v1.toNat 2) (C v1.toNat 3) _ h) cb_7_44 im_Wa_turnTo se_Wa_turnTo ⟨_, _, rfl⟩ (by decide) (dc hd_Wa_isOver 68 rfl) g_5 rfl rfl ⟨Nat.le_of_ble_eq_true rfl, Nat.le_of_ble_eq_true rfl⟩ ⟨(Nat.le_of_ble_eq_true rfl), (Nat.le_of_ble_eq_true rfl)⟩ (Nat.le_of_ble_eq_true rfl) (fun _ h => by cases h) (fun _ => rfl) (fun r_11 D_13 d_14 q_12 => ?_)
    obtain ⟨q_12a, q_12b, h⟩ := q_12
    subst D_13
    subst d_14
    show AW p l e _ s m args below meth c E M_Wa_isOver true _ n _ _ _ [(2, v0), (2, v1)] [(0, r_11)] C
    refine AW.if_ge (t := 152) (dc hd_Wa_isOver 69 rfl) (by decide) (fun c_15 => ?_) (fun c_15 => ?_)
    · simp only [if_pos (show 0 ≤ r_11 from c_15)] at h
      refine AW.iconst (dc hd_Wa_isOver 72 rfl) (by decide) ?_
      refine AW.fgt [(9, 0), (9, 0)] ⟨.inr rfl, .inr rfl, trivial⟩ ?_
      exact aJ_Wa_isOver_153 n C _ Q h
    · simp only [if_neg (show ¬ (0 ≤ r_11) from c_15)] at h
      refine AW.iconst (dc hd_Wa_isOver 70 rfl) (by decide) ?_
      refine AW.goto (t := 153) (dc hd_Wa_isOver 71 rfl) (by decide) ?_
      refine AW.fgt [(9, 0), (9, 0)] ⟨.inr rfl, .inr rfl, trivial⟩ ?_
      exact aJ_Wa_isOver_153 n C _ Q h
  · have h := h.2 c_10
    refine AW.ra_n (dc hd_Wa_isOver 52 rfl) rfl rfl rfl ?_
    refine AW.ra_n (dc hd_Wa_isOver 53 rfl) rfl rfl rfl ?_
    refine AW.getf fl_7_32 (dc hd_Wa_isOver 54 rfl) g_5 ?_
    refine AW.ra_n (dc hd_Wa_isOver 55 rfl) rfl rfl rfl ?_
    refine AW.getf fl_7_35 (dc hd_Wa_isOver 56 rfl) g_5 ?_
    refine AW.callV (As := [(0, C v0.toNat 2), (0, C v0.toNat 3)]) (rest := []) (ci := 7) (m_Wa_turnTo l E n C v1 (C v0.toNat 2) (C v0.toNat 3) _ h) cb_7_44 im_Wa_turnTo se_Wa_turnTo ⟨_, _, rfl⟩ (by decide) (dc hd_Wa_isOver 57 rfl) g_4 rfl rfl ⟨Nat.le_of_ble_eq_true rfl, Nat.le_of_ble_eq_true rfl⟩ ⟨(Nat.le_of_ble_eq_true rfl), (Nat.le_of_ble_eq_true rfl)⟩ (Nat.le_of_ble_eq_true rfl) (fun _ h => by cases h) (fun _ => rfl) (fun r_17 D_19 d_20 q_18 => ?_)
    obtain ⟨q_18a, q_18b, h⟩ := q_18
    subst D_19
    subst d_20
    show AW p l e _ s m args below meth c E M_Wa_isOver true _ n _ _ _ [(2, v0), (2, v1)] [(0, r_17)] C
    refine AW.if_le (t := 129) (dc hd_Wa_isOver 58 rfl) (by decide) (fun c_21 => ?_) (fun c_21 => ?_)
    · simp only [if_pos (show r_17 ≤ 0 from c_21)] at h
      refine AW.iconst (dc hd_Wa_isOver 61 rfl) (by decide) ?_
      refine AW.goto (t := 153) (dc hd_Wa_isOver 62 rfl) (by decide) ?_
      refine AW.fgt [(9, 0), (9, 0)] ⟨.inr rfl, .inr rfl, trivial⟩ ?_
      exact aJ_Wa_isOver_153 n C _ Q h
    · simp only [if_neg (show ¬ (r_17 ≤ 0) from c_21)] at h
      refine AW.iconst (dc hd_Wa_isOver 59 rfl) (by decide) ?_
      refine AW.goto (t := 153) (dc hd_Wa_isOver 60 rfl) (by decide) ?_
      refine AW.fgt [(9, 0), (9, 0)] ⟨.inr rfl, .inr rfl, trivial⟩ ?_
      exact aJ_Wa_isOver_153 n C _ Q h
def J_Wa_isOver_87 (n : Nat) (C : Cn) (s0 : Int) (Q : Int → Prop) : Prop :=
  (s0 = 0 ∨ s0 = 1) ∧ (Q s0)
theorem aJ_Wa_isOver_87 (n : Nat) (C : Cn) (s0 : Int) (Q : Int → Prop) (h : J_Wa_isOver_87 n C s0 Q) : AW p l e R s m args below meth c E M_Wa_isOver true (fun r C2 n2 => C2 = C ∧ n2 = n ∧ Q r) n 0 0 87 [(9, 0), (9, 0)] [(0, s0)] C := by
  unfold J_Wa_isOver_87 at h
  obtain ⟨g_33, h⟩ := h
  exact AW.zret (dc hd_Wa_isOver 41 rfl) rfl rfl (Nat.le_of_ble_eq_true rfl) (Nat.le_of_ble_eq_true rfl) g_33 ⟨rfl, rfl, h⟩
def P_Wa_isOver (n : Nat) (C : Cn) (v0 v1 : Int) (Q : Int → Prop) : Prop :=
  okO n v0 7 ∧ (okO n v1 7 ∧ ((C v0.toNat 2 = C v1.toNat 2 → ((C v0.toNat 3 = C v1.toNat 3 → (P_Wa_isAhead n C (C v0.toNat 4) (C v0.toNat 5) (C v1.toNat 4) (C v1.toNat 5) (fun (r_23 : Int) => (r_23 = 0 → (P_Wa_turnTo n C v0 (C v1.toNat 4) (C v1.toNat 5) (fun (r_28 : Int) => J_Wa_isOver_87 n C (if 0 ≤ r_28 then 0 else 1) Q))) ∧ (¬ r_23 = 0 → (P_Wa_turnTo n C v1 (C v0.toNat 4) (C v0.toNat 5) (fun (r_34 : Int) => J_Wa_isOver_87 n C (if r_34 ≤ 0 then 0 else 1) Q)))))) ∧ (¬ C v0.toNat 3 = C v1.toNat 3 → (J_Wa_isOver_88 n C v0 v1 Q)))) ∧ (¬ C v0.toNat 2 = C v1.toNat 2 → (J_Wa_isOver_88 n C v0 v1 Q))))
theorem m_Wa_isOver (l : Launch) (E : Ev) (n : Nat) (C : Cn) (v0 v1 : Int) (Q : Int → Prop) (h : P_Wa_isOver n C v0 v1 Q) : MA l y_Wa_isOver M_Wa_isOver E true C n [(2, v0), (2, v1)] (fun r C2 n2 => C2 = C ∧ n2 = n ∧ Q r) := by
  refine MA.of (by decide) rfl rfl 0 rfl (fun p e s m args below meth c => ?_)
  show AW p l e _ s m args below meth c E M_Wa_isOver true _ n 0 0 0 [(2, v0), (2, v1)] [] C
  unfold P_Wa_isOver at h
  refine AW.ra_n (dc hd_Wa_isOver 0 rfl) rfl rfl rfl ?_
  obtain ⟨g_1, h⟩ := h
  refine AW.getf fl_7_32 (dc hd_Wa_isOver 1 rfl) g_1 ?_
  refine AW.ra_n (dc hd_Wa_isOver 2 rfl) rfl rfl rfl ?_
  obtain ⟨g_2, h⟩ := h
  refine AW.getf fl_7_32 (dc hd_Wa_isOver 3 rfl) g_2 ?_
  refine AW.icmp_ne (t := 88) (dc hd_Wa_isOver 4 rfl) (by decide) (fun c_3 => ?_) (fun c_3 => ?_)
  · have h := h.2 c_3
    exact aJ_Wa_isOver_88 n C v0 v1 Q h
  · have h := h.1 c_3
    refine AW.ra_n (dc hd_Wa_isOver 5 rfl) rfl rfl rfl ?_
    refine AW.getf fl_7_35 (dc hd_Wa_isOver 6 rfl) g_1 ?_
    refine AW.ra_n (dc hd_Wa_isOver 7 rfl) rfl rfl rfl ?_
    refine AW.getf fl_7_35 (dc hd_Wa_isOver 8 rfl) g_2 ?_
    refine AW.icmp_ne (t := 88) (dc hd_Wa_isOver 9 rfl) (by decide) (fun c_22 => ?_) (fun c_22 => ?_)
    · have h := h.2 c_22
      exact aJ_Wa_isOver_88 n C v0 v1 Q h
    · have h := h.1 c_22
      refine AW.ra_n (dc hd_Wa_isOver 10 rfl) rfl rfl rfl ?_
      refine AW.getf fl_7_38 (dc hd_Wa_isOver 11 rfl) g_1 ?_
      refine AW.ra_n (dc hd_Wa_isOver 12 rfl) rfl rfl rfl ?_
      refine AW.getf fl_7_41 (dc hd_Wa_isOver 13 rfl) g_1 ?_
      refine AW.ra_n (dc hd_Wa_isOver 14 rfl) rfl rfl rfl ?_
      refine AW.getf fl_7_38 (dc hd_Wa_isOver 15 rfl) g_2 ?_
      refine AW.ra_n (dc hd_Wa_isOver 16 rfl) rfl rfl rfl ?_
      refine AW.getf fl_7_41 (dc hd_Wa_isOver 17 rfl) g_2 ?_
      refine AW.callS (As := [(0, C v0.toNat 4), (0, C v0.toNat 5), (0, C v1.toNat 4), (0, C v1.toNat 5)]) (rest := []) (m_Wa_isAhead l E n C (C v0.toNat 4) (C v0.toNat 5) (C v1.toNat 4) (C v1.toNat 5) _ h) cb_7_28 sm_Wa_isAhead (dc hd_Wa_isOver 18 rfl) rfl rfl ⟨Nat.le_of_ble_eq_true rfl, Nat.le_of_ble_eq_true rfl⟩ ⟨(Nat.le_of_ble_eq_true rfl), (Nat.le_of_ble_eq_true rfl)⟩ (Nat.le_of_ble_eq_true rfl) (fun _ h => by cases h) (fun _ => rfl) (fun r_23 D_25 d_26 q_24 => ?_)
      obtain ⟨q_24a, q_24b, h⟩ := q_24
      subst D_25
      subst d_26
      show AW p l e _ s m args below meth c E M_Wa_isOver true _ n _ _ _ [(2, v0), (2, v1)] [(0, r_23)] C
      refine AW.if_eq (t := 67) (dc hd_Wa_isOver 19 rfl) (by decide) (fun c_27 => ?_) (fun c_27 => ?_)
      · have h := h.1 c_27
        refine AW.ra_n (dc hd_Wa_isOver 31 rfl) rfl rfl rfl ?_
        refine AW.ra_n (dc hd_Wa_isOver 32 rfl) rfl rfl rfl ?_
        refine AW.getf fl_7_38 (dc hd_Wa_isOver 33 rfl) g_2 ?_
        refine AW.ra_n (dc hd_Wa_isOver 34 rfl) rfl rfl rfl ?_
        refine AW.getf fl_7_41 (dc hd_Wa_isOver 35 rfl) g_2 ?_
        refine AW.callV (As := [(0, C v1.toNat 4), (0, C v1.toNat 5)]) (rest := []) (ci := 7) (m_Wa_turnTo l E n C v0 (C v1.toNat 4) (C v1.toNat 5) _ h) cb_7_44 im_Wa_turnTo se_Wa_turnTo ⟨_, _, rfl⟩ (by decide) (dc hd_Wa_isOver 36 rfl) g_1 rfl rfl ⟨Nat.le_of_ble_eq_true rfl, Nat.le_of_ble_eq_true rfl⟩ ⟨(Nat.le_of_ble_eq_true rfl), (Nat.le_of_ble_eq_true rfl)⟩ (Nat.le_of_ble_eq_true rfl) (fun _ h => by cases h) (fun _ => rfl) (fun r_28 D_30 d_31 q_29 => ?_)
        obtain ⟨q_29a, q_29b, h⟩ := q_29
        subst D_30
        subst d_31
        show AW p l e _ s m args below meth c E M_Wa_isOver true _ n _ _ _ [(2, v0), (2, v1)] [(0, r_28)] C
        refine AW.if_ge (t := 86) (dc hd_Wa_isOver 37 rfl) (by decide) (fun c_32 => ?_) (fun c_32 => ?_)
        · simp only [if_pos (show 0 ≤ r_28 from c_32)] at h
          refine AW.iconst (dc hd_Wa_isOver 40 rfl) (by decide) ?_
          refine AW.fgt [(9, 0), (9, 0)] ⟨.inr rfl, .inr rfl, trivial⟩ ?_
          exact aJ_Wa_isOver_87 n C _ Q h
        · simp only [if_neg (show ¬ (0 ≤ r_28) from c_32)] at h
          refine AW.iconst (dc hd_Wa_isOver 38 rfl) (by decide) ?_
          refine AW.goto (t := 87) (dc hd_Wa_isOver 39 rfl) (by decide) ?_
          refine AW.fgt [(9, 0), (9, 0)] ⟨.inr rfl, .inr rfl, trivial⟩ ?_
          exact aJ_Wa_isOver_87 n C _ Q h
      · have h := h.2 c_27
        refine AW.ra_n (dc hd_Wa_isOver 20 rfl) rfl rfl rfl ?_
        refine AW.ra_n (dc hd_Wa_isOver 21 rfl) rfl rfl rfl ?_
        refine AW.getf fl_7_38 (dc hd_Wa_isOver 22 rfl) g_1 ?_
        refine AW.ra_n (dc hd_Wa_isOver 23 rfl) rfl rfl rfl ?_
        refine AW.getf fl_7_41 (dc hd_Wa_isOver 24 rfl) g_1 ?_
        refine AW.callV (As := [(0, C v0.toNat 4), (0, C v0.toNat 5)]) (rest := []) (ci := 7) (m_Wa_turnTo l E n C v1 (C v0.toNat 4) (C v0.toNat 5) _ h) cb_7_44 im_Wa_turnTo se_Wa_turnTo ⟨_, _, rfl⟩ (by decide) (dc hd_Wa_isOver 25 rfl) g_2 rfl rfl ⟨Nat.le_of_ble_eq_true rfl, Nat.le_of_ble_eq_true rfl⟩ ⟨(Nat.le_of_ble_eq_true rfl), (Nat.le_of_ble_eq_true rfl)⟩ (Nat.le_of_ble_eq_true rfl) (fun _ h => by cases h) (fun _ => rfl) (fun r_34 D_36 d_37 q_35 => ?_)
        obtain ⟨q_35a, q_35b, h⟩ := q_35
        subst D_36
        subst d_37
        show AW p l e _ s m args below meth c E M_Wa_isOver true _ n _ _ _ [(2, v0), (2, v1)] [(0, r_34)] C
        refine AW.if_le (t := 63) (dc hd_Wa_isOver 26 rfl) (by decide) (fun c_38 => ?_) (fun c_38 => ?_)
        · simp only [if_pos (show r_34 ≤ 0 from c_38)] at h
          refine AW.iconst (dc hd_Wa_isOver 29 rfl) (by decide) ?_
          refine AW.goto (t := 87) (dc hd_Wa_isOver 30 rfl) (by decide) ?_
          refine AW.fgt [(9, 0), (9, 0)] ⟨.inr rfl, .inr rfl, trivial⟩ ?_
          exact aJ_Wa_isOver_87 n C _ Q h
        · simp only [if_neg (show ¬ (r_34 ≤ 0) from c_38)] at h
          refine AW.iconst (dc hd_Wa_isOver 27 rfl) (by decide) ?_
          refine AW.goto (t := 87) (dc hd_Wa_isOver 28 rfl) (by decide) ?_
          refine AW.fgt [(9, 0), (9, 0)] ⟨.inr rfl, .inr rfl, trivial⟩ ?_
          exact aJ_Wa_isOver_87 n C _ Q h
def J_La_stackSegments_94 (n : Nat) (C : Cn) (v0 v1 v2 v3 v4 v5 v6 : Int) (kz11 : Cn × Int × Int → Prop) (Q : Int → Cn → Prop) : Prop :=
  okO n v0 2 ∧ (okO n (PT v0.toNat 6) 12 ∧ (okI (PT v0.toNat 6) v6 ∧ (∀ C_15 : Cn, C_15 = wr C (PT v0.toNat 6).toNat v6.toNat v5 → (kz11 (C_15, w32 (v4 + 1), w32 (v5 + 1))))))
theorem aJ_La_stackSegments_94 (n : Nat) (C : Cn) (v0 v1 v2 v3 v4 v5 v6 : Int) (kz11 : Cn × Int × Int → Prop) (Q : Int → Cn → Prop) (hkz11 : ∀ (Cz : Cn) (z4 : Int) (z5 : Int), kz11 (Cz, z4, z5) → AW p l e R s m args below meth c E M_La_stackSegments true (fun r C2 n2 => n2 = n ∧ Q r C2) n 0 0 11 [(2, v0), (2, v1), (0, v2), (0, v3), (0, z4), (0, z5), (9, 0)] [] Cz) (h : J_La_stackSegments_94 n C v0 v1 v2 v3 v4 v5 v6 kz11 Q) : AW p l e R s m args below meth c E M_La_stackSegments true (fun r C2 n2 => n2 = n ∧ Q r C2) n 0 0 94 [(2, v0), (2, v1), (0, v2), (0, v3), (0, v4), (0, v5), (0, v6)] [] C := by
  unfold J_La_stackSegments_94 at h
  refine AW.ra_n (dc hd_La_stackSegments 52 rfl) rfl rfl rfl ?_
  obtain ⟨g_12, h⟩ := h
  refine AW.getp fl_2_24 (dc hd_La_stackSegments 53 rfl) g_12 rfl ?_
  refine AW.iload (dc hd_La_stackSegments 54 rfl) rfl ?_
  refine AW.iload (dc hd_La_stackSegments 55 rfl) rfl ?_
  obtain ⟨g_13, h⟩ := h
  obtain ⟨g_14, h⟩ := h
  refine AW.niast (dc hd_La_stackSegments 56 rfl) g_13 g_14 (fun C_15 eC_15 => ?_)
  have h := h C_15 eC_15
  refine AW.iinc [(2, v0), (2, v1), (0, v2), (0, v3), (0, w32 (v4 + 1)), (0, v5), (0, v6)] (dc hd_La_stackSegments 57 rfl) rfl (Nat.le_of_ble_eq_true rfl) rfl rfl ?_
  refine AW.iinc [(2, v0), (2, v1), (0, v2), (0, v3), (0, w32 (v4 + 1)), (0, w32 (v5 + 1)), (0, v6)] (dc hd_La_stackSegments 58 rfl) rfl (Nat.le_of_ble_eq_true rfl) rfl rfl ?_
  refine AW.goto (t := 11) (dc hd_La_stackSegments 59 rfl) (by decide) ?_
  refine AW.fgt [(2, v0), (2, v1), (0, v2), (0, v3), (0, w32 (v4 + 1)), (0, w32 (v5 + 1)), (9, 0)] ⟨.inl rfl, .inl rfl, .inl rfl, .inl rfl, .inl rfl, .inl rfl, .inr rfl, trivial⟩ ?_
  exact hkz11 C_15 (w32 (v4 + 1)) (w32 (v5 + 1)) h
def B_La_stackSegments_39 (n : Nat) (v0 v1 v2 v3 v4 v5 : Int) (kz11 : Cn × Int × Int → Prop) (Q : Int → Cn → Prop) (kz39 : Cn × Int → Prop) (z : Cn × Int) : Prop := match z with
  | (C, v6) => (v6 ≤ v3 → (J_La_stackSegments_94 n C v0 v1 v2 v3 v4 v5 v6 kz11 Q)) ∧ (¬ v6 ≤ v3 → (okO n v1 1 ∧ (okO n v0 2 ∧ (okO n (PT v0.toNat 6) 12 ∧ (okI (PT v0.toNat 6) (w32 (v6 - 1)) ∧ (okO n (PT v1.toNat 0) 16 ∧ (okI (PT v1.toNat 0) (C (PT v0.toNat 6).toNat (w32 (v6 - 1)).toNat) ∧ (okI (PT v1.toNat 0) v5 ∧ (okO n (PT (PT v1.toNat 0).toNat (C (PT v0.toNat 6).toNat (w32 (v6 - 1)).toNat).toNat) 7 ∧ (P_Wa_isOver n C (PT (PT v1.toNat 0).toNat (C (PT v0.toNat 6).toNat (w32 (v6 - 1)).toNat).toNat) (PT (PT v1.toNat 0).toNat v5.toNat) (fun (r_23 : Int) => (r_23 = 0 → (J_La_stackSegments_94 n C v0 v1 v2 v3 v4 v5 v6 kz11 Q)) ∧ (¬ r_23 = 0 → (okI (PT v0.toNat 6) v6 ∧ (∀ C_30 : Cn, C_30 = wr C (PT v0.toNat 6).toNat v6.toNat (C (PT v0.toNat 6).toNat (w32 (v6 - 1)).toNat) → (kz39 (C_30, w32 (v6 + (-1))))))))))))))))))
theorem bB_La_stackSegments_39 (n : Nat) (v0 v1 v2 v3 v4 v5 : Int) (kz11 : Cn × Int × Int → Prop) (Q : Int → Cn → Prop) (hkz11 : ∀ (Cz : Cn) (z4 : Int) (z5 : Int), kz11 (Cz, z4, z5) → AW p l e R s m args below meth c E M_La_stackSegments true (fun r C2 n2 => n2 = n ∧ Q r C2) n 0 0 11 [(2, v0), (2, v1), (0, v2), (0, v3), (0, z4), (0, z5), (9, 0)] [] Cz) (kz39 : Cn × Int → Prop) (hkz39 : ∀ (Cz : Cn) (z6 : Int), kz39 (Cz, z6) → AW p l e R s m args below meth c E M_La_stackSegments true (fun r C2 n2 => n2 = n ∧ Q r C2) n 0 0 39 [(2, v0), (2, v1), (0, v2), (0, v3), (0, v4), (0, v5), (0, z6)] [] Cz) (C : Cn) (v6 : Int) (h : B_La_stackSegments_39 n v0 v1 v2 v3 v4 v5 kz11 Q kz39 (C, v6)) : AW p l e R s m args below meth c E M_La_stackSegments true (fun r C2 n2 => n2 = n ∧ Q r C2) n 0 0 39 [(2, v0), (2, v1), (0, v2), (0, v3), (0, v4), (0, v5), (0, v6)] [] C := by
  unfold B_La_stackSegments_39 at h
  dsimp only at h
  refine AW.iload (dc hd_La_stackSegments 22 rfl) rfl ?_
  refine AW.iload_n (dc hd_La_stackSegments 23 rfl) rfl ?_
  refine AW.icmp_le (t := 94) (dc hd_La_stackSegments 24 rfl) (by decide) (fun c_11 => ?_) (fun c_11 => ?_)
  · have h := h.1 c_11
    exact aJ_La_stackSegments_94 n C v0 v1 v2 v3 v4 v5 v6 kz11 Q hkz11 h
  · have h := h.2 c_11
    refine AW.ra_n (dc hd_La_stackSegments 25 rfl) rfl rfl rfl ?_
    obtain ⟨g_16, h⟩ := h
    refine AW.getp fl_2_90 (dc hd_La_stackSegments 26 rfl) g_16 rfl ?_
    refine AW.ra_n (dc hd_La_stackSegments 27 rfl) rfl rfl rfl ?_
    obtain ⟨g_17, h⟩ := h
    refine AW.getp fl_2_24 (dc hd_La_stackSegments 28 rfl) g_17 rfl ?_
    refine AW.iload (dc hd_La_stackSegments 29 rfl) rfl ?_
    refine AW.iconst (dc hd_La_stackSegments 30 rfl) (by decide) ?_
    refine AW.isub (dc hd_La_stackSegments 31 rfl) ?_
    obtain ⟨g_18, h⟩ := h
    obtain ⟨g_19, h⟩ := h
    refine AW.iald (dc hd_La_stackSegments 32 rfl) g_18 g_19 ?_
    obtain ⟨g_20, h⟩ := h
    obtain ⟨g_21, h⟩ := h
    refine AW.aaldp (by decide) (dc hd_La_stackSegments 33 rfl) g_20 g_21 rfl ?_
    refine AW.ra_n (dc hd_La_stackSegments 34 rfl) rfl rfl rfl ?_
    refine AW.getp fl_2_90 (dc hd_La_stackSegments 35 rfl) g_16 rfl ?_
    refine AW.iload (dc hd_La_stackSegments 36 rfl) rfl ?_
    obtain ⟨g_22, h⟩ := h
    refine AW.aaldp (by decide) (dc hd_La_stackSegments 37 rfl) g_20 g_22 rfl ?_
    obtain ⟨g_24, h⟩ := h
    refine AW.callV (As := [(2, PT (PT v1.toNat 0).toNat v5.toNat)]) (rest := []) (ci := 7) (m_Wa_isOver l E n C (PT (PT v1.toNat 0).toNat (C (PT v0.toNat 6).toNat (w32 (v6 - 1)).toNat).toNat) (PT (PT v1.toNat 0).toNat v5.toNat) _ h) cb_2_128 im_Wa_isOver se_Wa_isOver ⟨_, _, rfl⟩ (by decide) (dc hd_La_stackSegments 38 rfl) g_24 rfl rfl ⟨Nat.le_of_ble_eq_true rfl, Nat.le_of_ble_eq_true rfl⟩ ⟨(Nat.le_of_ble_eq_true rfl), (Nat.le_of_ble_eq_true rfl)⟩ (Nat.le_of_ble_eq_true rfl) (fun _ h => by cases h) (fun _ => rfl) (fun r_23 D_26 d_27 q_25 => ?_)
    obtain ⟨q_25a, q_25b, h⟩ := q_25
    subst D_26
    subst d_27
    show AW p l e _ s m args below meth c E M_La_stackSegments true _ n _ _ _ [(2, v0), (2, v1), (0, v2), (0, v3), (0, v4), (0, v5), (0, v6)] [(0, r_23)] C
    refine AW.if_eq (t := 94) (dc hd_La_stackSegments 39 rfl) (by decide) (fun c_28 => ?_) (fun c_28 => ?_)
    · have h := h.1 c_28
      exact aJ_La_stackSegments_94 n C v0 v1 v2 v3 v4 v5 v6 kz11 Q hkz11 h
    · have h := h.2 c_28
      refine AW.ra_n (dc hd_La_stackSegments 40 rfl) rfl rfl rfl ?_
      refine AW.getp fl_2_24 (dc hd_La_stackSegments 41 rfl) g_17 rfl ?_
      refine AW.iload (dc hd_La_stackSegments 42 rfl) rfl ?_
      refine AW.ra_n (dc hd_La_stackSegments 43 rfl) rfl rfl rfl ?_
      refine AW.getp fl_2_24 (dc hd_La_stackSegments 44 rfl) g_17 rfl ?_
      refine AW.iload (dc hd_La_stackSegments 45 rfl) rfl ?_
      refine AW.iconst (dc hd_La_stackSegments 46 rfl) (by decide) ?_
      refine AW.isub (dc hd_La_stackSegments 47 rfl) ?_
      refine AW.iald (dc hd_La_stackSegments 48 rfl) g_18 g_19 ?_
      obtain ⟨g_29, h⟩ := h
      refine AW.niast (dc hd_La_stackSegments 49 rfl) g_18 g_29 (fun C_30 eC_30 => ?_)
      have h := h C_30 eC_30
      refine AW.iinc [(2, v0), (2, v1), (0, v2), (0, v3), (0, v4), (0, v5), (0, w32 (v6 + (-1)))] (dc hd_La_stackSegments 50 rfl) rfl (Nat.le_of_ble_eq_true rfl) rfl rfl ?_
      refine AW.goto (t := 39) (dc hd_La_stackSegments 51 rfl) (by decide) ?_
      exact hkz39 C_30 (w32 (v6 + (-1))) h
theorem aB_La_stackSegments_39 (n : Nat) (v0 v1 v2 v3 v4 v5 : Int) (kz11 : Cn × Int × Int → Prop) (Q : Int → Cn → Prop) (hkz11 : ∀ (Cz : Cn) (z4 : Int) (z5 : Int), kz11 (Cz, z4, z5) → AW p l e R s m args below meth c E M_La_stackSegments true (fun r C2 n2 => n2 = n ∧ Q r C2) n 0 0 11 [(2, v0), (2, v1), (0, v2), (0, v3), (0, z4), (0, z5), (9, 0)] [] Cz) : ∀ (f : Nat) (z : Cn × Int), lp (B_La_stackSegments_39 n v0 v1 v2 v3 v4 v5 kz11 Q) f z → AW p l e R s m args below meth c E M_La_stackSegments true (fun r C2 n2 => n2 = n ∧ Q r C2) n 0 0 39 [(2, v0), (2, v1), (0, v2), (0, v3), (0, v4), (0, v5), (0, z.2)] [] (z.1) := by
  intro f
  induction f with
  | zero => intro z h; exact False.elim h
  | succ f ih => intro z h; exact bB_La_stackSegments_39 n v0 v1 v2 v3 v4 v5 kz11 Q hkz11 (lp (B_La_stackSegments_39 n v0 v1 v2 v3 v4 v5 kz11 Q) f) (fun a0 a1 h => ih (a0, a1) h) z.1 z.2 h
def B_La_stackSegments_11 (n : Nat) (v0 v1 v2 v3 : Int) (Q : Int → Cn → Prop) (kz11 : Cn × Int × Int → Prop) (z : Cn × Int × Int) : Prop := match z with
  | (C, v4, v5) => okO n v0 2 ∧ ((C v0.toNat 0 ≤ v5 → (okO n (PT v0.toNat 7) 12 ∧ (okI (PT v0.toNat 7) v2 ∧ (∀ C_5 : Cn, C_5 = wr C (PT v0.toNat 7).toNat v2.toNat v4 → (Q 0 C_5))))) ∧ (¬ C v0.toNat 0 ≤ v5 → (P_La_goesThrough n C v0 v5 v2 (fun (r_6 : Int) => (r_6 = 0 → (kz11 (C, v4, w32 (v5 + 1)))) ∧ (¬ r_6 = 0 → (∃ f_31 : Nat, lp (B_La_stackSegments_39 n v0 v1 v2 v3 v4 v5 kz11 Q) f_31 (C, w32 (v3 + v4))))))))
theorem bB_La_stackSegments_11 (n : Nat) (v0 v1 v2 v3 : Int) (Q : Int → Cn → Prop) (kz11 : Cn × Int × Int → Prop) (hkz11 : ∀ (Cz : Cn) (z4 : Int) (z5 : Int), kz11 (Cz, z4, z5) → AW p l e R s m args below meth c E M_La_stackSegments true (fun r C2 n2 => n2 = n ∧ Q r C2) n 0 0 11 [(2, v0), (2, v1), (0, v2), (0, v3), (0, z4), (0, z5), (9, 0)] [] Cz) (C : Cn) (v4 : Int) (v5 : Int) (h : B_La_stackSegments_11 n v0 v1 v2 v3 Q kz11 (C, v4, v5)) : AW p l e R s m args below meth c E M_La_stackSegments true (fun r C2 n2 => n2 = n ∧ Q r C2) n 0 0 11 [(2, v0), (2, v1), (0, v2), (0, v3), (0, v4), (0, v5), (9, 0)] [] C := by
  unfold B_La_stackSegments_11 at h
  dsimp only at h
  refine AW.iload (dc hd_La_stackSegments 8 rfl) rfl ?_
  refine AW.ra_n (dc hd_La_stackSegments 9 rfl) rfl rfl rfl ?_
  obtain ⟨g_1, h⟩ := h
  refine AW.getf fl_2_63 (dc hd_La_stackSegments 10 rfl) g_1 ?_
  refine AW.icmp_ge (t := 112) (dc hd_La_stackSegments 11 rfl) (by decide) (fun c_2 => ?_) (fun c_2 => ?_)
  · have h := h.1 c_2
    refine AW.ra_n (dc hd_La_stackSegments 60 rfl) rfl rfl rfl ?_
    refine AW.getp fl_2_27 (dc hd_La_stackSegments 61 rfl) g_1 rfl ?_
    refine AW.iload_n (dc hd_La_stackSegments 62 rfl) rfl ?_
    refine AW.iload (dc hd_La_stackSegments 63 rfl) rfl ?_
    obtain ⟨g_3, h⟩ := h
    obtain ⟨g_4, h⟩ := h
    refine AW.niast (dc hd_La_stackSegments 64 rfl) g_3 g_4 (fun C_5 eC_5 => ?_)
    have h := h C_5 eC_5
    exact AW.vret (dc hd_La_stackSegments 65 rfl) rfl rfl (Nat.le_of_ble_eq_true rfl) (Nat.le_of_ble_eq_true rfl) ⟨rfl, h⟩
  · have h := h.2 c_2
    refine AW.ra_n (dc hd_La_stackSegments 12 rfl) rfl rfl rfl ?_
    refine AW.iload (dc hd_La_stackSegments 13 rfl) rfl ?_
    refine AW.iload_n (dc hd_La_stackSegments 14 rfl) rfl ?_
    refine AW.callV (As := [(0, v5), (0, v2)]) (rest := []) (ci := 2) (m_La_goesThrough l E n C v0 v5 v2 _ h) cb_2_124 im_La_goesThrough se_La_goesThrough ⟨_, _, rfl⟩ (by decide) (dc hd_La_stackSegments 15 rfl) g_1 rfl rfl ⟨Nat.le_of_ble_eq_true rfl, Nat.le_of_ble_eq_true rfl⟩ ⟨(Nat.le_of_ble_eq_true rfl), (Nat.le_of_ble_eq_true rfl)⟩ (Nat.le_of_ble_eq_true rfl) (fun _ h => by cases h) (fun _ => rfl) (fun r_6 D_8 d_9 q_7 => ?_)
    obtain ⟨q_7a, q_7b, h⟩ := q_7
    subst D_8
    subst d_9
    show AW p l e _ s m args below meth c E M_La_stackSegments true _ n _ _ _ [(2, v0), (2, v1), (0, v2), (0, v3), (0, v4), (0, v5), (9, 0)] [(0, r_6)] C
    refine AW.if_ne (t := 33) (dc hd_La_stackSegments 16 rfl) (by decide) (fun c_10 => ?_) (fun c_10 => ?_)
    · have h := h.2 c_10
      refine AW.iload_n (dc hd_La_stackSegments 18 rfl) rfl ?_
      refine AW.iload (dc hd_La_stackSegments 19 rfl) rfl ?_
      refine AW.iadd (dc hd_La_stackSegments 20 rfl) ?_
      refine AW.istore [(2, v0), (2, v1), (0, v2), (0, v3), (0, v4), (0, v5), (0, w32 (v3 + v4))] (dc hd_La_stackSegments 21 rfl) (Nat.le_of_ble_eq_true rfl) rfl rfl ?_
      obtain ⟨f_31, h⟩ := h
      exact aB_La_stackSegments_39 n v0 v1 v2 v3 v4 v5 kz11 Q hkz11 f_31 (C, w32 (v3 + v4)) h
    · have h := h.1 c_10
      refine AW.goto (t := 106) (dc hd_La_stackSegments 17 rfl) (by decide) ?_
      refine AW.iinc [(2, v0), (2, v1), (0, v2), (0, v3), (0, v4), (0, w32 (v5 + 1)), (9, 0)] (dc hd_La_stackSegments 58 rfl) rfl (Nat.le_of_ble_eq_true rfl) rfl rfl ?_
      refine AW.goto (t := 11) (dc hd_La_stackSegments 59 rfl) (by decide) ?_
      exact hkz11 C v4 (w32 (v5 + 1)) h
theorem aB_La_stackSegments_11 (n : Nat) (v0 v1 v2 v3 : Int) (Q : Int → Cn → Prop) : ∀ (f : Nat) (z : Cn × Int × Int), lp (B_La_stackSegments_11 n v0 v1 v2 v3 Q) f z → AW p l e R s m args below meth c E M_La_stackSegments true (fun r C2 n2 => n2 = n ∧ Q r C2) n 0 0 11 [(2, v0), (2, v1), (0, v2), (0, v3), (0, z.2.1), (0, z.2.2), (9, 0)] [] (z.1) := by
  intro f
  induction f with
  | zero => intro z h; exact False.elim h
  | succ f ih => intro z h; exact bB_La_stackSegments_11 n v0 v1 v2 v3 Q (lp (B_La_stackSegments_11 n v0 v1 v2 v3 Q) f) (fun a0 a1 a2 h => ih (a0, a1, a2) h) z.1 z.2.1 z.2.2 h
def P_La_stackSegments (n : Nat) (C : Cn) (v0 v1 v2 : Int) (Q : Int → Cn → Prop) : Prop :=
  ∃ f_32 : Nat, lp (B_La_stackSegments_11 n v0 v1 v2 (w32 (v2 * 6)) Q) f_32 (C, 0, 0)
theorem m_La_stackSegments (l : Launch) (E : Ev) (n : Nat) (C : Cn) (v0 v1 v2 : Int) (Q : Int → Cn → Prop) (h : P_La_stackSegments n C v0 v1 v2 Q) : MA l y_La_stackSegments M_La_stackSegments E true C n [(2, v0), (2, v1), (0, v2)] (fun r C2 n2 => n2 = n ∧ Q r C2) := by
  refine MA.of (by decide) rfl rfl 4 rfl (fun p e s m args below meth c => ?_)
  show AW p l e _ s m args below meth c E M_La_stackSegments true _ n 0 0 0 [(2, v0), (2, v1), (0, v2), (9, 0), (9, 0), (9, 0), (9, 0)] [] C
  unfold P_La_stackSegments at h
  refine AW.iload_n (dc hd_La_stackSegments 0 rfl) rfl ?_
  refine AW.bipush (dc hd_La_stackSegments 1 rfl) (by decide) (by decide +kernel) ?_
  refine AW.imul (dc hd_La_stackSegments 2 rfl) ?_
  refine AW.istore_n [(2, v0), (2, v1), (0, v2), (0, w32 (v2 * 6)), (9, 0), (9, 0), (9, 0)] (dc hd_La_stackSegments 3 rfl) (Nat.le_of_ble_eq_true rfl) rfl rfl ?_
  refine AW.iconst (dc hd_La_stackSegments 4 rfl) (by decide) ?_
  refine AW.istore [(2, v0), (2, v1), (0, v2), (0, w32 (v2 * 6)), (0, 0), (9, 0), (9, 0)] (dc hd_La_stackSegments 5 rfl) (Nat.le_of_ble_eq_true rfl) rfl rfl ?_
  refine AW.iconst (dc hd_La_stackSegments 6 rfl) (by decide) ?_
  refine AW.istore [(2, v0), (2, v1), (0, v2), (0, w32 (v2 * 6)), (0, 0), (0, 0), (9, 0)] (dc hd_La_stackSegments 7 rfl) (Nat.le_of_ble_eq_true rfl) rfl rfl ?_
  obtain ⟨f_32, h⟩ := h
  exact aB_La_stackSegments_11 n v0 v1 v2 (w32 (v2 * 6)) Q f_32 (C, 0, 0) h
def J_La_layCells_123 (n : Nat) (C : Cn) (Q : Int → Cn → Prop) : Prop :=
  Q 0 C
theorem aJ_La_layCells_123 (n : Nat) (C : Cn) (Q : Int → Cn → Prop) (h : J_La_layCells_123 n C Q) : AW p l e R s m args below meth c E M_La_layCells true (fun r C2 n2 => n2 = n ∧ Q r C2) n 0 0 123 [(9, 0), (9, 0), (9, 0), (9, 0), (9, 0)] [] C := by
  unfold J_La_layCells_123 at h
  exact AW.vret (dc hd_La_layCells 71 rfl) rfl rfl (Nat.le_of_ble_eq_true rfl) (Nat.le_of_ble_eq_true rfl) ⟨rfl, h⟩
def J_La_layCells_106 (n : Nat) (C : Cn) (v0 v1 v2 v3 v4 s0 s1 s2 : Int) (kz25 : Cn × Int → Prop) (Q : Int → Cn → Prop) : Prop :=
  okO n s0 12 ∧ (okI s0 s1 ∧ (∀ C_26 : Cn, C_26 = wr C s0.toNat s1.toNat s2 → (okO n v0 2 ∧ (∀ C_28 : Cn, C_28 = wr C_26 v0.toNat 8 (w32 (C_26 v0.toNat 8 + 1)) → (kz25 (C_28, w32 (v4 + 1)))))))
theorem aJ_La_layCells_106 (n : Nat) (C : Cn) (v0 v1 v2 v3 v4 s0 s1 s2 : Int) (kz25 : Cn × Int → Prop) (Q : Int → Cn → Prop) (hkz25 : ∀ (Cz : Cn) (z4 : Int), kz25 (Cz, z4) → AW p l e R s m args below meth c E M_La_layCells true (fun r C2 n2 => n2 = n ∧ Q r C2) n 0 0 25 [(2, v0), (0, v1), (0, v2), (0, v3), (0, z4)] [] Cz) (h : J_La_layCells_106 n C v0 v1 v2 v3 v4 s0 s1 s2 kz25 Q) : AW p l e R s m args below meth c E M_La_layCells true (fun r C2 n2 => n2 = n ∧ Q r C2) n 0 0 106 [(2, v0), (0, v1), (0, v2), (0, v3), (0, v4)] [(0, s2), (0, s1), (2, s0)] C := by
  unfold J_La_layCells_106 at h
  obtain ⟨g_24, h⟩ := h
  obtain ⟨g_25, h⟩ := h
  refine AW.niast (dc hd_La_layCells 62 rfl) g_24 g_25 (fun C_26 eC_26 => ?_)
  have h := h C_26 eC_26
  refine AW.ra_n (dc hd_La_layCells 63 rfl) rfl rfl rfl ?_
  refine AW.rdup (dc hd_La_layCells 64 rfl) rfl ?_
  obtain ⟨g_27, h⟩ := h
  refine AW.getf fl_2_70 (dc hd_La_layCells 65 rfl) g_27 ?_
  refine AW.iconst (dc hd_La_layCells 66 rfl) (by decide) ?_
  refine AW.iadd (dc hd_La_layCells 67 rfl) ?_
  refine AW.nputI fl_2_70 (dc hd_La_layCells 68 rfl) g_27 (fun C_28 eC_28 => ?_)
  have h := h C_28 eC_28
  refine AW.iinc [(2, v0), (0, v1), (0, v2), (0, v3), (0, w32 (v4 + 1))] (dc hd_La_layCells 69 rfl) rfl (Nat.le_of_ble_eq_true rfl) rfl rfl ?_
  refine AW.goto (t := 25) (dc hd_La_layCells 70 rfl) (by decide) ?_
  exact hkz25 C_28 (w32 (v4 + 1)) h
def J_La_layCells_78 (n : Nat) (C : Cn) (v0 v1 v2 v3 v4 s0 s1 s2 : Int) (kz25 : Cn × Int → Prop) (Q : Int → Cn → Prop) : Prop :=
  okO n s0 12 ∧ (okI s0 s1 ∧ (∀ C_19 : Cn, C_19 = wr C s0.toNat s1.toNat s2 → (okO n v0 2 ∧ ((v4 = v3 → (J_La_layCells_106 n C_19 v0 v1 v2 v3 v4 (PT v0.toNat 12) (C_19 v0.toNat 8) (-1) kz25 Q)) ∧ (¬ v4 = v3 → (okO n (PT v0.toNat 6) 12 ∧ (okI (PT v0.toNat 6) (w32 (v2 + v4)) ∧ (J_La_layCells_106 n C_19 v0 v1 v2 v3 v4 (PT v0.toNat 12) (C_19 v0.toNat 8) (C_19 (PT v0.toNat 6).toNat (w32 (v2 + v4)).toNat) kz25 Q))))))))
theorem aJ_La_layCells_78 (n : Nat) (C : Cn) (v0 v1 v2 v3 v4 s0 s1 s2 : Int) (kz25 : Cn × Int → Prop) (Q : Int → Cn → Prop) (hkz25 : ∀ (Cz : Cn) (z4 : Int), kz25 (Cz, z4) → AW p l e R s m args below meth c E M_La_layCells true (fun r C2 n2 => n2 = n ∧ Q r C2) n 0 0 25 [(2, v0), (0, v1), (0, v2), (0, v3), (0, z4)] [] Cz) (h : J_La_layCells_78 n C v0 v1 v2 v3 v4 s0 s1 s2 kz25 Q) : AW p l e R s m args below meth c E M_La_layCells true (fun r C2 n2 => n2 = n ∧ Q r C2) n 0 0 78 [(2, v0), (0, v1), (0, v2), (0, v3), (0, v4)] [(0, s2), (0, s1), (2, s0)] C := by
  unfold J_La_layCells_78 at h
  obtain ⟨g_17, h⟩ := h
  obtain ⟨g_18, h⟩ := h
  refine AW.niast (dc hd_La_layCells 46 rfl) g_17 g_18 (fun C_19 eC_19 => ?_)
  have h := h C_19 eC_19
  refine AW.ra_n (dc hd_La_layCells 47 rfl) rfl rfl rfl ?_
  obtain ⟨g_20, h⟩ := h
  refine AW.getp fl_2_39 (dc hd_La_layCells 48 rfl) g_20 rfl ?_
  refine AW.ra_n (dc hd_La_layCells 49 rfl) rfl rfl rfl ?_
  refine AW.getf fl_2_70 (dc hd_La_layCells 50 rfl) g_20 ?_
  refine AW.iload (dc hd_La_layCells 51 rfl) rfl ?_
  refine AW.iload_n (dc hd_La_layCells 52 rfl) rfl ?_
  refine AW.icmp_ne (t := 97) (dc hd_La_layCells 53 rfl) (by decide) (fun c_21 => ?_) (fun c_21 => ?_)
  · have h := h.2 c_21
    refine AW.ra_n (dc hd_La_layCells 56 rfl) rfl rfl rfl ?_
    refine AW.getp fl_2_24 (dc hd_La_layCells 57 rfl) g_20 rfl ?_
    refine AW.iload_n (dc hd_La_layCells 58 rfl) rfl ?_
    refine AW.iload (dc hd_La_layCells 59 rfl) rfl ?_
    refine AW.iadd (dc hd_La_layCells 60 rfl) ?_
    obtain ⟨g_22, h⟩ := h
    obtain ⟨g_23, h⟩ := h
    refine AW.iald (dc hd_La_layCells 61 rfl) g_22 g_23 ?_
    exact aJ_La_layCells_106 n C_19 v0 v1 v2 v3 v4 (PT v0.toNat 12) (C_19 v0.toNat 8) (C_19 (PT v0.toNat 6).toNat (w32 (v2 + v4)).toNat) kz25 Q hkz25 h
  · have h := h.1 c_21
    refine AW.iconst (dc hd_La_layCells 54 rfl) (by decide) ?_
    refine AW.goto (t := 106) (dc hd_La_layCells 55 rfl) (by decide) ?_
    exact aJ_La_layCells_106 n C_19 v0 v1 v2 v3 v4 (PT v0.toNat 12) (C_19 v0.toNat 8) (-1) kz25 Q hkz25 h
def B_La_layCells_25 (n : Nat) (v0 v1 v2 v3 : Int) (Q : Int → Cn → Prop) (kz25 : Cn × Int → Prop) (z : Cn × Int) : Prop := match z with
  | (C, v4) => (v3 < v4 → (J_La_layCells_123 n C Q)) ∧ (¬ v3 < v4 → (okO n v0 2 ∧ ((49 ≤ C v0.toNat 8 → (J_La_layCells_123 n C Q)) ∧ (¬ 49 ≤ C v0.toNat 8 → (okO n (PT v0.toNat 10) 12 ∧ (okI (PT v0.toNat 10) (C v0.toNat 8) ∧ (∀ C_13 : Cn, C_13 = wr C (PT v0.toNat 10).toNat (C v0.toNat 8).toNat v1 → ((v4 = 0 → (J_La_layCells_78 n C_13 v0 v1 v2 v3 v4 (PT v0.toNat 11) (C_13 v0.toNat 8) (-1) kz25 Q)) ∧ (¬ v4 = 0 → (okO n (PT v0.toNat 6) 12 ∧ (okI (PT v0.toNat 6) (w32 (w32 (v2 + v4) - 1)) ∧ (J_La_layCells_78 n C_13 v0 v1 v2 v3 v4 (PT v0.toNat 11) (C_13 v0.toNat 8) (C_13 (PT v0.toNat 6).toNat (w32 (w32 (v2 + v4) - 1)).toNat) kz25 Q))))))))))))
theorem bB_La_layCells_25 (n : Nat) (v0 v1 v2 v3 : Int) (Q : Int → Cn → Prop) (kz25 : Cn × Int → Prop) (hkz25 : ∀ (Cz : Cn) (z4 : Int), kz25 (Cz, z4) → AW p l e R s m args below meth c E M_La_layCells true (fun r C2 n2 => n2 = n ∧ Q r C2) n 0 0 25 [(2, v0), (0, v1), (0, v2), (0, v3), (0, z4)] [] Cz) (C : Cn) (v4 : Int) (h : B_La_layCells_25 n v0 v1 v2 v3 Q kz25 (C, v4)) : AW p l e R s m args below meth c E M_La_layCells true (fun r C2 n2 => n2 = n ∧ Q r C2) n 0 0 25 [(2, v0), (0, v1), (0, v2), (0, v3), (0, v4)] [] C := by
  unfold B_La_layCells_25 at h
  dsimp only at h
  refine AW.iload (dc hd_La_layCells 17 rfl) rfl ?_
  refine AW.iload_n (dc hd_La_layCells 18 rfl) rfl ?_
  refine AW.icmp_gt (t := 123) (dc hd_La_layCells 19 rfl) (by decide) (fun c_8 => ?_) (fun c_8 => ?_)
  · have h := h.1 c_8
    refine AW.fgt [(9, 0), (9, 0), (9, 0), (9, 0), (9, 0)] ⟨.inr rfl, .inr rfl, .inr rfl, .inr rfl, .inr rfl, trivial⟩ ?_
    exact aJ_La_layCells_123 n C Q h
  · have h := h.2 c_8
    refine AW.ra_n (dc hd_La_layCells 20 rfl) rfl rfl rfl ?_
    obtain ⟨g_9, h⟩ := h
    refine AW.getf fl_2_70 (dc hd_La_layCells 21 rfl) g_9 ?_
    refine AW.bipush (dc hd_La_layCells 22 rfl) (by decide) (by decide +kernel) ?_
    refine AW.icmp_ge (t := 123) (dc hd_La_layCells 23 rfl) (by decide) (fun c_10 => ?_) (fun c_10 => ?_)
    · have h := h.1 c_10
      refine AW.fgt [(9, 0), (9, 0), (9, 0), (9, 0), (9, 0)] ⟨.inr rfl, .inr rfl, .inr rfl, .inr rfl, .inr rfl, trivial⟩ ?_
      exact aJ_La_layCells_123 n C Q h
    · have h := h.2 c_10
      refine AW.ra_n (dc hd_La_layCells 24 rfl) rfl rfl rfl ?_
      refine AW.getp fl_2_33 (dc hd_La_layCells 25 rfl) g_9 rfl ?_
      refine AW.ra_n (dc hd_La_layCells 26 rfl) rfl rfl rfl ?_
      refine AW.getf fl_2_70 (dc hd_La_layCells 27 rfl) g_9 ?_
      refine AW.iload_n (dc hd_La_layCells 28 rfl) rfl ?_
      obtain ⟨g_11, h⟩ := h
      obtain ⟨g_12, h⟩ := h
      refine AW.niast (dc hd_La_layCells 29 rfl) g_11 g_12 (fun C_13 eC_13 => ?_)
      have h := h C_13 eC_13
      refine AW.ra_n (dc hd_La_layCells 30 rfl) rfl rfl rfl ?_
      refine AW.getp fl_2_36 (dc hd_La_layCells 31 rfl) g_9 rfl ?_
      refine AW.ra_n (dc hd_La_layCells 32 rfl) rfl rfl rfl ?_
      refine AW.getf fl_2_70 (dc hd_La_layCells 33 rfl) g_9 ?_
      refine AW.iload (dc hd_La_layCells 34 rfl) rfl ?_
      refine AW.if_ne (t := 67) (dc hd_La_layCells 35 rfl) (by decide) (fun c_14 => ?_) (fun c_14 => ?_)
      · have h := h.2 c_14
        refine AW.ra_n (dc hd_La_layCells 38 rfl) rfl rfl rfl ?_
        refine AW.getp fl_2_24 (dc hd_La_layCells 39 rfl) g_9 rfl ?_
        refine AW.iload_n (dc hd_La_layCells 40 rfl) rfl ?_
        refine AW.iload (dc hd_La_layCells 41 rfl) rfl ?_
        refine AW.iadd (dc hd_La_layCells 42 rfl) ?_
        refine AW.iconst (dc hd_La_layCells 43 rfl) (by decide) ?_
        refine AW.isub (dc hd_La_layCells 44 rfl) ?_
        obtain ⟨g_15, h⟩ := h
        obtain ⟨g_16, h⟩ := h
        refine AW.iald (dc hd_La_layCells 45 rfl) g_15 g_16 ?_
        exact aJ_La_layCells_78 n C_13 v0 v1 v2 v3 v4 (PT v0.toNat 11) (C_13 v0.toNat 8) (C_13 (PT v0.toNat 6).toNat (w32 (w32 (v2 + v4) - 1)).toNat) kz25 Q hkz25 h
      · have h := h.1 c_14
        refine AW.iconst (dc hd_La_layCells 36 rfl) (by decide) ?_
        refine AW.goto (t := 78) (dc hd_La_layCells 37 rfl) (by decide) ?_
        exact aJ_La_layCells_78 n C_13 v0 v1 v2 v3 v4 (PT v0.toNat 11) (C_13 v0.toNat 8) (-1) kz25 Q hkz25 h
theorem aB_La_layCells_25 (n : Nat) (v0 v1 v2 v3 : Int) (Q : Int → Cn → Prop) : ∀ (f : Nat) (z : Cn × Int), lp (B_La_layCells_25 n v0 v1 v2 v3 Q) f z → AW p l e R s m args below meth c E M_La_layCells true (fun r C2 n2 => n2 = n ∧ Q r C2) n 0 0 25 [(2, v0), (0, v1), (0, v2), (0, v3), (0, z.2)] [] (z.1) := by
  intro f
  induction f with
  | zero => intro z h; exact False.elim h
  | succ f ih => intro z h; exact bB_La_layCells_25 n v0 v1 v2 v3 Q (lp (B_La_layCells_25 n v0 v1 v2 v3 Q) f) (fun a0 a1 h => ih (a0, a1) h) z.1 z.2 h
def P_La_layCells (n : Nat) (C : Cn) (v0 v1 : Int) (Q : Int → Cn → Prop) : Prop :=
  okO n v0 2 ∧ (okO n (PT v0.toNat 7) 12 ∧ (okI (PT v0.toNat 7) v1 ∧ (∀ v3_4 : Int, v3_4 = C (PT v0.toNat 7).toNat v1.toNat → (okO n (PT v0.toNat 9) 12 ∧ (okI (PT v0.toNat 9) v1 ∧ (∀ C_7 : Cn, C_7 = wr C (PT v0.toNat 9).toNat v1.toNat (C v0.toNat 8) → (∃ f_29 : Nat, lp (B_La_layCells_25 n v0 v1 (w32 (v1 * 6)) v3_4 Q) f_29 (C_7, 0))))))))
theorem m_La_layCells (l : Launch) (E : Ev) (n : Nat) (C : Cn) (v0 v1 : Int) (Q : Int → Cn → Prop) (h : P_La_layCells n C v0 v1 Q) : MA l y_La_layCells M_La_layCells E true C n [(2, v0), (0, v1)] (fun r C2 n2 => n2 = n ∧ Q r C2) := by
  refine MA.of (by decide) rfl rfl 3 rfl (fun p e s m args below meth c => ?_)
  show AW p l e _ s m args below meth c E M_La_layCells true _ n 0 0 0 [(2, v0), (0, v1), (9, 0), (9, 0), (9, 0)] [] C
  unfold P_La_layCells at h
  refine AW.iload_n (dc hd_La_layCells 0 rfl) rfl ?_
  refine AW.bipush (dc hd_La_layCells 1 rfl) (by decide) (by decide +kernel) ?_
  refine AW.imul (dc hd_La_layCells 2 rfl) ?_
  refine AW.istore_n [(2, v0), (0, v1), (0, w32 (v1 * 6)), (9, 0), (9, 0)] (dc hd_La_layCells 3 rfl) (Nat.le_of_ble_eq_true rfl) rfl rfl ?_
  refine AW.ra_n (dc hd_La_layCells 4 rfl) rfl rfl rfl ?_
  obtain ⟨g_1, h⟩ := h
  refine AW.getp fl_2_27 (dc hd_La_layCells 5 rfl) g_1 rfl ?_
  refine AW.iload_n (dc hd_La_layCells 6 rfl) rfl ?_
  obtain ⟨g_2, h⟩ := h
  obtain ⟨g_3, h⟩ := h
  refine AW.iald (dc hd_La_layCells 7 rfl) g_2 g_3 ?_
  refine AW.nm (fun v3_4 ev3_4 => ?_)
  have h := h v3_4 ev3_4
  refine AW.istore_n [(2, v0), (0, v1), (0, w32 (v1 * 6)), (0, v3_4), (9, 0)] (dc hd_La_layCells 8 rfl) (Nat.le_of_ble_eq_true rfl) rfl rfl ?_
  refine AW.ra_n (dc hd_La_layCells 9 rfl) rfl rfl rfl ?_
  refine AW.getp fl_2_30 (dc hd_La_layCells 10 rfl) g_1 rfl ?_
  refine AW.iload_n (dc hd_La_layCells 11 rfl) rfl ?_
  refine AW.ra_n (dc hd_La_layCells 12 rfl) rfl rfl rfl ?_
  refine AW.getf fl_2_70 (dc hd_La_layCells 13 rfl) g_1 ?_
  obtain ⟨g_5, h⟩ := h
  obtain ⟨g_6, h⟩ := h
  refine AW.niast (dc hd_La_layCells 14 rfl) g_5 g_6 (fun C_7 eC_7 => ?_)
  have h := h C_7 eC_7
  refine AW.iconst (dc hd_La_layCells 15 rfl) (by decide) ?_
  refine AW.istore [(2, v0), (0, v1), (0, w32 (v1 * 6)), (0, v3_4), (0, 0)] (dc hd_La_layCells 16 rfl) (Nat.le_of_ble_eq_true rfl) rfl rfl ?_
  obtain ⟨f_29, h⟩ := h
  exact aB_La_layCells_25 n v0 v1 (w32 (v1 * 6)) v3_4 Q f_29 (C_7, 0) h
def B_La_fieldAhead_22 (n : Nat) (C : Cn) (v0 v1 v2 : Int) (Q : Int → Prop) (kz22 : Int → Prop) (v3 : Int) : Prop :=
  okO n v0 2 ∧ (okO n (PT v0.toNat 9) 12 ∧ (okI (PT v0.toNat 9) v2 ∧ ((C (PT v0.toNat 9).toNat v2.toNat ≤ v3 → (Q (-1))) ∧ (¬ C (PT v0.toNat 9).toNat v2.toNat ≤ v3 → (okO n (PT v0.toNat 11) 12 ∧ (okI (PT v0.toNat 11) v3 ∧ (okI (PT v0.toNat 11) v1 ∧ ((C (PT v0.toNat 11).toNat v3.toNat = C (PT v0.toNat 11).toNat v1.toNat → (okO n (PT v0.toNat 12) 12 ∧ (okI (PT v0.toNat 12) v3 ∧ (okI (PT v0.toNat 12) v1 ∧ ((C (PT v0.toNat 12).toNat v3.toNat = C (PT v0.toNat 12).toNat v1.toNat → (okO n (PT v0.toNat 13) 12 ∧ (okI (PT v0.toNat 13) v3 ∧ (Q (C (PT v0.toNat 13).toNat v3.toNat))))) ∧ (¬ C (PT v0.toNat 12).toNat v3.toNat = C (PT v0.toNat 12).toNat v1.toNat → (kz22 (w32 (v3 + 1))))))))) ∧ (¬ C (PT v0.toNat 11).toNat v3.toNat = C (PT v0.toNat 11).toNat v1.toNat → (kz22 (w32 (v3 + 1))))))))))))
theorem bB_La_fieldAhead_22 (n : Nat) (C : Cn) (v0 v1 v2 : Int) (Q : Int → Prop) (kz22 : Int → Prop) (hkz22 : ∀ (z3 : Int), kz22 z3 → AW p l e R s m args below meth c E M_La_fieldAhead true (fun r C2 n2 => C2 = C ∧ n2 = n ∧ Q r) n 0 0 22 [(2, v0), (0, v1), (0, v2), (0, z3)] [] C) (v3 : Int) (h : B_La_fieldAhead_22 n C v0 v1 v2 Q kz22 v3) : AW p l e R s m args below meth c E M_La_fieldAhead true (fun r C2 n2 => C2 = C ∧ n2 = n ∧ Q r) n 0 0 22 [(2, v0), (0, v1), (0, v2), (0, v3)] [] C := by
  unfold B_La_fieldAhead_22 at h
  refine AW.iload_n (dc hd_La_fieldAhead 16 rfl) rfl ?_
  refine AW.ra_n (dc hd_La_fieldAhead 17 rfl) rfl rfl rfl ?_
  obtain ⟨g_9, h⟩ := h
  refine AW.getp fl_2_30 (dc hd_La_fieldAhead 18 rfl) g_9 rfl ?_
  refine AW.iload_n (dc hd_La_fieldAhead 19 rfl) rfl ?_
  obtain ⟨g_10, h⟩ := h
  obtain ⟨g_11, h⟩ := h
  refine AW.iald (dc hd_La_fieldAhead 20 rfl) g_10 g_11 ?_
  refine AW.icmp_ge (t := 75) (dc hd_La_fieldAhead 21 rfl) (by decide) (fun c_12 => ?_) (fun c_12 => ?_)
  · have h := h.1 c_12
    refine AW.iconst (dc hd_La_fieldAhead 47 rfl) (by decide) ?_
    exact AW.iret (dc hd_La_fieldAhead 48 rfl) rfl rfl (Nat.le_of_ble_eq_true rfl) (Nat.le_of_ble_eq_true rfl) ⟨rfl, rfl, h⟩
  · have h := h.2 c_12
    refine AW.ra_n (dc hd_La_fieldAhead 22 rfl) rfl rfl rfl ?_
    refine AW.getp fl_2_36 (dc hd_La_fieldAhead 23 rfl) g_9 rfl ?_
    refine AW.iload_n (dc hd_La_fieldAhead 24 rfl) rfl ?_
    obtain ⟨g_13, h⟩ := h
    obtain ⟨g_14, h⟩ := h
    refine AW.iald (dc hd_La_fieldAhead 25 rfl) g_13 g_14 ?_
    refine AW.ra_n (dc hd_La_fieldAhead 26 rfl) rfl rfl rfl ?_
    refine AW.getp fl_2_36 (dc hd_La_fieldAhead 27 rfl) g_9 rfl ?_
    refine AW.iload_n (dc hd_La_fieldAhead 28 rfl) rfl ?_
    obtain ⟨g_15, h⟩ := h
    refine AW.iald (dc hd_La_fieldAhead 29 rfl) g_13 g_15 ?_
    refine AW.icmp_ne (t := 69) (dc hd_La_fieldAhead 30 rfl) (by decide) (fun c_16 => ?_) (fun c_16 => ?_)
    · have h := h.2 c_16
      refine AW.iinc [(2, v0), (0, v1), (0, v2), (0, w32 (v3 + 1))] (dc hd_La_fieldAhead 45 rfl) rfl (Nat.le_of_ble_eq_true rfl) rfl rfl ?_
      refine AW.goto (t := 22) (dc hd_La_fieldAhead 46 rfl) (by decide) ?_
      exact hkz22 (w32 (v3 + 1)) h
    · have h := h.1 c_16
      refine AW.ra_n (dc hd_La_fieldAhead 31 rfl) rfl rfl rfl ?_
      refine AW.getp fl_2_39 (dc hd_La_fieldAhead 32 rfl) g_9 rfl ?_
      refine AW.iload_n (dc hd_La_fieldAhead 33 rfl) rfl ?_
      obtain ⟨g_17, h⟩ := h
      obtain ⟨g_18, h⟩ := h
      refine AW.iald (dc hd_La_fieldAhead 34 rfl) g_17 g_18 ?_
      refine AW.ra_n (dc hd_La_fieldAhead 35 rfl) rfl rfl rfl ?_
      refine AW.getp fl_2_39 (dc hd_La_fieldAhead 36 rfl) g_9 rfl ?_
      refine AW.iload_n (dc hd_La_fieldAhead 37 rfl) rfl ?_
      obtain ⟨g_19, h⟩ := h
      refine AW.iald (dc hd_La_fieldAhead 38 rfl) g_17 g_19 ?_
      refine AW.icmp_ne (t := 69) (dc hd_La_fieldAhead 39 rfl) (by decide) (fun c_20 => ?_) (fun c_20 => ?_)
      · have h := h.2 c_20
        refine AW.iinc [(2, v0), (0, v1), (0, v2), (0, w32 (v3 + 1))] (dc hd_La_fieldAhead 45 rfl) rfl (Nat.le_of_ble_eq_true rfl) rfl rfl ?_
        refine AW.goto (t := 22) (dc hd_La_fieldAhead 46 rfl) (by decide) ?_
        exact hkz22 (w32 (v3 + 1)) h
      · have h := h.1 c_20
        refine AW.ra_n (dc hd_La_fieldAhead 40 rfl) rfl rfl rfl ?_
        refine AW.getp fl_2_42 (dc hd_La_fieldAhead 41 rfl) g_9 rfl ?_
        refine AW.iload_n (dc hd_La_fieldAhead 42 rfl) rfl ?_
        obtain ⟨g_21, h⟩ := h
        obtain ⟨g_22, h⟩ := h
        refine AW.iald (dc hd_La_fieldAhead 43 rfl) g_21 g_22 ?_
        exact AW.iret (dc hd_La_fieldAhead 44 rfl) rfl rfl (Nat.le_of_ble_eq_true rfl) (Nat.le_of_ble_eq_true rfl) ⟨rfl, rfl, h⟩
theorem aB_La_fieldAhead_22 (n : Nat) (C : Cn) (v0 v1 v2 : Int) (Q : Int → Prop) : ∀ (f : Nat) (z : Int), lp (B_La_fieldAhead_22 n C v0 v1 v2 Q) f z → AW p l e R s m args below meth c E M_La_fieldAhead true (fun r C2 n2 => C2 = C ∧ n2 = n ∧ Q r) n 0 0 22 [(2, v0), (0, v1), (0, v2), (0, z)] [] C := by
  intro f
  induction f with
  | zero => intro z h; exact False.elim h
  | succ f ih => intro z h; exact bB_La_fieldAhead_22 n C v0 v1 v2 Q (lp (B_La_fieldAhead_22 n C v0 v1 v2 Q) f) (fun a0 h => ih a0 h) z h
def P_La_fieldAhead (n : Nat) (C : Cn) (v0 v1 : Int) (Q : Int → Prop) : Prop :=
  okO n v0 2 ∧ (okO n (PT v0.toNat 10) 12 ∧ (okI (PT v0.toNat 10) v1 ∧ (∀ v2_4 : Int, v2_4 = C (PT v0.toNat 10).toNat v1.toNat → ((v2_4 = 0 → (Q (-1))) ∧ (¬ v2_4 = 0 → (okO n (PT v0.toNat 9) 12 ∧ (okI (PT v0.toNat 9) (w32 (v2_4 - 1)) ∧ (∀ v3_8 : Int, v3_8 = C (PT v0.toNat 9).toNat (w32 (v2_4 - 1)).toNat → (∃ f_23 : Nat, lp (B_La_fieldAhead_22 n C v0 v1 v2_4 Q) f_23 v3_8)))))))))
theorem m_La_fieldAhead (l : Launch) (E : Ev) (n : Nat) (C : Cn) (v0 v1 : Int) (Q : Int → Prop) (h : P_La_fieldAhead n C v0 v1 Q) : MA l y_La_fieldAhead M_La_fieldAhead E true C n [(2, v0), (0, v1)] (fun r C2 n2 => C2 = C ∧ n2 = n ∧ Q r) := by
  refine MA.of (by decide) rfl rfl 2 rfl (fun p e s m args below meth c => ?_)
  show AW p l e _ s m args below meth c E M_La_fieldAhead true _ n 0 0 0 [(2, v0), (0, v1), (9, 0), (9, 0)] [] C
  unfold P_La_fieldAhead at h
  refine AW.ra_n (dc hd_La_fieldAhead 0 rfl) rfl rfl rfl ?_
  obtain ⟨g_1, h⟩ := h
  refine AW.getp fl_2_33 (dc hd_La_fieldAhead 1 rfl) g_1 rfl ?_
  refine AW.iload_n (dc hd_La_fieldAhead 2 rfl) rfl ?_
  obtain ⟨g_2, h⟩ := h
  obtain ⟨g_3, h⟩ := h
  refine AW.iald (dc hd_La_fieldAhead 3 rfl) g_2 g_3 ?_
  refine AW.nm (fun v2_4 ev2_4 => ?_)
  have h := h v2_4 ev2_4
  refine AW.istore_n [(2, v0), (0, v1), (0, v2_4), (9, 0)] (dc hd_La_fieldAhead 4 rfl) (Nat.le_of_ble_eq_true rfl) rfl rfl ?_
  refine AW.iload_n (dc hd_La_fieldAhead 5 rfl) rfl ?_
  refine AW.if_ne (t := 13) (dc hd_La_fieldAhead 6 rfl) (by decide) (fun c_5 => ?_) (fun c_5 => ?_)
  · have h := h.2 c_5
    refine AW.ra_n (dc hd_La_fieldAhead 9 rfl) rfl rfl rfl ?_
    refine AW.getp fl_2_30 (dc hd_La_fieldAhead 10 rfl) g_1 rfl ?_
    refine AW.iload_n (dc hd_La_fieldAhead 11 rfl) rfl ?_
    refine AW.iconst (dc hd_La_fieldAhead 12 rfl) (by decide) ?_
    refine AW.isub (dc hd_La_fieldAhead 13 rfl) ?_
    obtain ⟨g_6, h⟩ := h
    obtain ⟨g_7, h⟩ := h
    refine AW.iald (dc hd_La_fieldAhead 14 rfl) g_6 g_7 ?_
    refine AW.nm (fun v3_8 ev3_8 => ?_)
    have h := h v3_8 ev3_8
    refine AW.istore_n [(2, v0), (0, v1), (0, v2_4), (0, v3_8)] (dc hd_La_fieldAhead 15 rfl) (Nat.le_of_ble_eq_true rfl) rfl rfl ?_
    obtain ⟨f_23, h⟩ := h
    exact aB_La_fieldAhead_22 n C v0 v1 v2_4 Q f_23 v3_8 h
  · have h := h.1 c_5
    refine AW.iconst (dc hd_La_fieldAhead 7 rfl) (by decide) ?_
    exact AW.iret (dc hd_La_fieldAhead 8 rfl) rfl rfl (Nat.le_of_ble_eq_true rfl) (Nat.le_of_ble_eq_true rfl) ⟨rfl, rfl, h⟩
def P_La_newField (n : Nat) (C : Cn) (v0 v1 : Int) (Q : Int → Cn → Prop) : Prop :=
  okO n v0 2 ∧ (∀ v2_2 : Int, v2_2 = imin (C v0.toNat 14) 18 → (okO n (PT v0.toNat 15) 12 ∧ (okI (PT v0.toNat 15) v2_2 ∧ (∀ C_5 : Cn, C_5 = wr C (PT v0.toNat 15).toNat v2_2.toNat v1 → (okO n (PT v0.toNat 10) 12 ∧ (okI (PT v0.toNat 10) v1 ∧ (okO n (PT v0.toNat 16) 12 ∧ (okI (PT v0.toNat 16) v2_2 ∧ (∀ C_10 : Cn, C_10 = wr C_5 (PT v0.toNat 16).toNat v2_2.toNat (C_5 (PT v0.toNat 10).toNat v1.toNat) → (∀ C_11 : Cn, C_11 = wr C_10 v0.toNat 14 (w32 (v2_2 + 1)) → (Q v2_2 C_11)))))))))))
theorem m_La_newField (l : Launch) (E : Ev) (n : Nat) (C : Cn) (v0 v1 : Int) (Q : Int → Cn → Prop) (h : P_La_newField n C v0 v1 Q) : MA l y_La_newField M_La_newField E true C n [(2, v0), (0, v1)] (fun r C2 n2 => n2 = n ∧ Q r C2) := by
  refine MA.of (by decide) rfl rfl 1 rfl (fun p e s m args below meth c => ?_)
  show AW p l e _ s m args below meth c E M_La_newField true _ n 0 0 0 [(2, v0), (0, v1), (9, 0)] [] C
  unfold P_La_newField at h
  refine AW.ra_n (dc hd_La_newField 0 rfl) rfl rfl rfl ?_
  obtain ⟨g_1, h⟩ := h
  refine AW.getf fl_2_132 (dc hd_La_newField 1 rfl) g_1 ?_
  refine AW.bipush (dc hd_La_newField 2 rfl) (by decide) (by decide +kernel) ?_
  refine AW.mmin (dc hd_La_newField 3 rfl) mt_2_142 (Nat.le_of_ble_eq_true rfl) (Nat.le_of_ble_eq_true rfl) (Nat.le_of_ble_eq_true rfl) (Nat.le_of_ble_eq_true rfl) (Nat.le_of_ble_eq_true rfl) ?_
  refine AW.nm (fun v2_2 ev2_2 => ?_)
  have h := h v2_2 ev2_2
  refine AW.istore_n [(2, v0), (0, v1), (0, v2_2)] (dc hd_La_newField 4 rfl) (Nat.le_of_ble_eq_true rfl) rfl rfl ?_
  refine AW.ra_n (dc hd_La_newField 5 rfl) rfl rfl rfl ?_
  refine AW.getp fl_2_45 (dc hd_La_newField 6 rfl) g_1 rfl ?_
  refine AW.iload_n (dc hd_La_newField 7 rfl) rfl ?_
  refine AW.iload_n (dc hd_La_newField 8 rfl) rfl ?_
  obtain ⟨g_3, h⟩ := h
  obtain ⟨g_4, h⟩ := h
  refine AW.niast (dc hd_La_newField 9 rfl) g_3 g_4 (fun C_5 eC_5 => ?_)
  have h := h C_5 eC_5
  refine AW.ra_n (dc hd_La_newField 10 rfl) rfl rfl rfl ?_
  refine AW.getp fl_2_48 (dc hd_La_newField 11 rfl) g_1 rfl ?_
  refine AW.iload_n (dc hd_La_newField 12 rfl) rfl ?_
  refine AW.ra_n (dc hd_La_newField 13 rfl) rfl rfl rfl ?_
  refine AW.getp fl_2_33 (dc hd_La_newField 14 rfl) g_1 rfl ?_
  refine AW.iload_n (dc hd_La_newField 15 rfl) rfl ?_
  obtain ⟨g_6, h⟩ := h
  obtain ⟨g_7, h⟩ := h
  refine AW.iald (dc hd_La_newField 16 rfl) g_6 g_7 ?_
  obtain ⟨g_8, h⟩ := h
  obtain ⟨g_9, h⟩ := h
  refine AW.niast (dc hd_La_newField 17 rfl) g_8 g_9 (fun C_10 eC_10 => ?_)
  have h := h C_10 eC_10
  refine AW.ra_n (dc hd_La_newField 18 rfl) rfl rfl rfl ?_
  refine AW.iload_n (dc hd_La_newField 19 rfl) rfl ?_
  refine AW.iconst (dc hd_La_newField 20 rfl) (by decide) ?_
  refine AW.iadd (dc hd_La_newField 21 rfl) ?_
  refine AW.nputI fl_2_132 (dc hd_La_newField 22 rfl) g_1 (fun C_11 eC_11 => ?_)
  have h := h C_11 eC_11
  refine AW.iload_n (dc hd_La_newField 23 rfl) rfl ?_
  exact AW.iret (dc hd_La_newField 24 rfl) rfl rfl (Nat.le_of_ble_eq_true rfl) (Nat.le_of_ble_eq_true rfl) ⟨rfl, h⟩
def J_La_joinFields_31 (n : Nat) (C : Cn) (v0 v1 v2 : Int) (kz7 : Cn × Int → Prop) (Q : Int → Cn → Prop) : Prop :=
  okO n v0 2 ∧ (okO n (PT v0.toNat 13) 12 ∧ (okI (PT v0.toNat 13) v1 ∧ (∀ C_13 : Cn, C_13 = wr C (PT v0.toNat 13).toNat v1.toNat v2 → (okO n (PT v0.toNat 10) 12 ∧ (okI (PT v0.toNat 10) v1 ∧ (okO n (PT v0.toNat 17) 12 ∧ (okI (PT v0.toNat 17) v2 ∧ (∀ C_18 : Cn, C_18 = wr C_13 (PT v0.toNat 17).toNat v2.toNat (C_13 (PT v0.toNat 10).toNat v1.toNat) → (kz7 (C_18, w32 (v1 + 1)))))))))))
theorem aJ_La_joinFields_31 (n : Nat) (C : Cn) (v0 v1 v2 : Int) (kz7 : Cn × Int → Prop) (Q : Int → Cn → Prop) (hkz7 : ∀ (Cz : Cn) (z1 : Int), kz7 (Cz, z1) → AW p l e R s m args below meth c E M_La_joinFields true (fun r C2 n2 => n2 = n ∧ Q r C2) n 0 0 7 [(2, v0), (0, z1), (9, 0)] [] Cz) (h : J_La_joinFields_31 n C v0 v1 v2 kz7 Q) : AW p l e R s m args below meth c E M_La_joinFields true (fun r C2 n2 => n2 = n ∧ Q r C2) n 0 0 31 [(2, v0), (0, v1), (0, v2)] [] C := by
  unfold J_La_joinFields_31 at h
  refine AW.ra_n (dc hd_La_joinFields 19 rfl) rfl rfl rfl ?_
  obtain ⟨g_10, h⟩ := h
  refine AW.getp fl_2_42 (dc hd_La_joinFields 20 rfl) g_10 rfl ?_
  refine AW.iload_n (dc hd_La_joinFields 21 rfl) rfl ?_
  refine AW.iload_n (dc hd_La_joinFields 22 rfl) rfl ?_
  obtain ⟨g_11, h⟩ := h
  obtain ⟨g_12, h⟩ := h
  refine AW.niast (dc hd_La_joinFields 23 rfl) g_11 g_12 (fun C_13 eC_13 => ?_)
  have h := h C_13 eC_13
  refine AW.ra_n (dc hd_La_joinFields 24 rfl) rfl rfl rfl ?_
  refine AW.getp fl_2_51 (dc hd_La_joinFields 25 rfl) g_10 rfl ?_
  refine AW.iload_n (dc hd_La_joinFields 26 rfl) rfl ?_
  refine AW.ra_n (dc hd_La_joinFields 27 rfl) rfl rfl rfl ?_
  refine AW.getp fl_2_33 (dc hd_La_joinFields 28 rfl) g_10 rfl ?_
  refine AW.iload_n (dc hd_La_joinFields 29 rfl) rfl ?_
  obtain ⟨g_14, h⟩ := h
  obtain ⟨g_15, h⟩ := h
  refine AW.iald (dc hd_La_joinFields 30 rfl) g_14 g_15 ?_
  obtain ⟨g_16, h⟩ := h
  obtain ⟨g_17, h⟩ := h
  refine AW.niast (dc hd_La_joinFields 31 rfl) g_16 g_17 (fun C_18 eC_18 => ?_)
  have h := h C_18 eC_18
  refine AW.iinc [(2, v0), (0, w32 (v1 + 1)), (0, v2)] (dc hd_La_joinFields 32 rfl) rfl (Nat.le_of_ble_eq_true rfl) rfl rfl ?_
  refine AW.goto (t := 7) (dc hd_La_joinFields 33 rfl) (by decide) ?_
  refine AW.fgt [(2, v0), (0, w32 (v1 + 1)), (9, 0)] ⟨.inl rfl, .inl rfl, .inr rfl, trivial⟩ ?_
  exact hkz7 C_18 (w32 (v1 + 1)) h
def B_La_joinFields_7 (n : Nat) (v0 : Int) (Q : Int → Cn → Prop) (kz7 : Cn × Int → Prop) (z : Cn × Int) : Prop := match z with
  | (C, v1) => okO n v0 2 ∧ ((C v0.toNat 8 ≤ v1 → (Q 0 C)) ∧ (¬ C v0.toNat 8 ≤ v1 → (P_La_fieldAhead n C v0 v1 (fun (r_5 : Int) => (0 ≤ r_5 → (J_La_joinFields_31 n C v0 v1 r_5 kz7 Q)) ∧ (¬ 0 ≤ r_5 → (P_La_newField n C v0 v1 (fun (r_19 : Int) (C_20 : Cn) => J_La_joinFields_31 n C_20 v0 v1 r_19 kz7 Q)))))))
theorem bB_La_joinFields_7 (n : Nat) (v0 : Int) (Q : Int → Cn → Prop) (kz7 : Cn × Int → Prop) (hkz7 : ∀ (Cz : Cn) (z1 : Int), kz7 (Cz, z1) → AW p l e R s m args below meth c E M_La_joinFields true (fun r C2 n2 => n2 = n ∧ Q r C2) n 0 0 7 [(2, v0), (0, z1), (9, 0)] [] Cz) (C : Cn) (v1 : Int) (h : B_La_joinFields_7 n v0 Q kz7 (C, v1)) : AW p l e R s m args below meth c E M_La_joinFields true (fun r C2 n2 => n2 = n ∧ Q r C2) n 0 0 7 [(2, v0), (0, v1), (9, 0)] [] C := by
  unfold B_La_joinFields_7 at h
  dsimp only at h
  refine AW.iload_n (dc hd_La_joinFields 5 rfl) rfl ?_
  refine AW.ra_n (dc hd_La_joinFields 6 rfl) rfl rfl rfl ?_
  obtain ⟨g_3, h⟩ := h
  refine AW.getf fl_2_70 (dc hd_La_joinFields 7 rfl) g_3 ?_
  refine AW.icmp_ge (t := 56) (dc hd_La_joinFields 8 rfl) (by decide) (fun c_4 => ?_) (fun c_4 => ?_)
  · have h := h.1 c_4
    exact AW.vret (dc hd_La_joinFields 34 rfl) rfl rfl (Nat.le_of_ble_eq_true rfl) (Nat.le_of_ble_eq_true rfl) ⟨rfl, h⟩
  · have h := h.2 c_4
    refine AW.ra_n (dc hd_La_joinFields 9 rfl) rfl rfl rfl ?_
    refine AW.iload_n (dc hd_La_joinFields 10 rfl) rfl ?_
    refine AW.callV (As := [(0, v1)]) (rest := []) (ci := 2) (m_La_fieldAhead l E n C v0 v1 _ h) cb_2_135 im_La_fieldAhead se_La_fieldAhead ⟨_, _, rfl⟩ (by decide) (dc hd_La_joinFields 11 rfl) g_3 rfl rfl ⟨Nat.le_of_ble_eq_true rfl, Nat.le_of_ble_eq_true rfl⟩ ⟨(Nat.le_of_ble_eq_true rfl), (Nat.le_of_ble_eq_true rfl)⟩ (Nat.le_of_ble_eq_true rfl) (fun _ h => by cases h) (fun _ => rfl) (fun r_5 D_7 d_8 q_6 => ?_)
    obtain ⟨q_6a, q_6b, h⟩ := q_6
    subst D_7
    subst d_8
    show AW p l e _ s m args below meth c E M_La_joinFields true _ n _ _ _ [(2, v0), (0, v1), (9, 0)] [(0, r_5)] C
    refine AW.istore_n [(2, v0), (0, v1), (0, r_5)] (dc hd_La_joinFields 12 rfl) (Nat.le_of_ble_eq_true rfl) rfl rfl ?_
    refine AW.iload_n (dc hd_La_joinFields 13 rfl) rfl ?_
    refine AW.if_ge (t := 31) (dc hd_La_joinFields 14 rfl) (by decide) (fun c_9 => ?_) (fun c_9 => ?_)
    · have h := h.1 c_9
      exact aJ_La_joinFields_31 n C v0 v1 r_5 kz7 Q hkz7 h
    · have h := h.2 c_9
      refine AW.ra_n (dc hd_La_joinFields 15 rfl) rfl rfl rfl ?_
      refine AW.iload_n (dc hd_La_joinFields 16 rfl) rfl ?_
      refine AW.callV (As := [(0, v1)]) (rest := []) (ci := 2) (m_La_newField l E n C v0 v1 _ h) cb_2_139 im_La_newField se_La_newField ⟨_, _, rfl⟩ (by decide) (dc hd_La_joinFields 17 rfl) g_3 rfl rfl ⟨Nat.le_of_ble_eq_true rfl, Nat.le_of_ble_eq_true rfl⟩ ⟨(Nat.le_of_ble_eq_true rfl), (Nat.le_of_ble_eq_true rfl)⟩ (Nat.le_of_ble_eq_true rfl) (fun _ h => by cases h) (fun _ => rfl) (fun r_19 C_20 d_22 q_21 => ?_)
      obtain ⟨q_21a, h⟩ := q_21
      subst d_22
      show AW p l e _ s m args below meth c E M_La_joinFields true _ n _ _ _ [(2, v0), (0, v1), (0, r_5)] [(0, r_19)] C_20
      refine AW.istore_n [(2, v0), (0, v1), (0, r_19)] (dc hd_La_joinFields 18 rfl) (Nat.le_of_ble_eq_true rfl) rfl rfl ?_
      exact aJ_La_joinFields_31 n C_20 v0 v1 r_19 kz7 Q hkz7 h
theorem aB_La_joinFields_7 (n : Nat) (v0 : Int) (Q : Int → Cn → Prop) : ∀ (f : Nat) (z : Cn × Int), lp (B_La_joinFields_7 n v0 Q) f z → AW p l e R s m args below meth c E M_La_joinFields true (fun r C2 n2 => n2 = n ∧ Q r C2) n 0 0 7 [(2, v0), (0, z.2), (9, 0)] [] (z.1) := by
  intro f
  induction f with
  | zero => intro z h; exact False.elim h
  | succ f ih => intro z h; exact bB_La_joinFields_7 n v0 Q (lp (B_La_joinFields_7 n v0 Q) f) (fun a0 a1 h => ih (a0, a1) h) z.1 z.2 h
def P_La_joinFields (n : Nat) (C : Cn) (v0 : Int) (Q : Int → Cn → Prop) : Prop :=
  okO n v0 2 ∧ (∀ C_2 : Cn, C_2 = wr C v0.toNat 14 0 → (∃ f_23 : Nat, lp (B_La_joinFields_7 n v0 Q) f_23 (C_2, 0)))
theorem m_La_joinFields (l : Launch) (E : Ev) (n : Nat) (C : Cn) (v0 : Int) (Q : Int → Cn → Prop) (h : P_La_joinFields n C v0 Q) : MA l y_La_joinFields M_La_joinFields E true C n [(2, v0)] (fun r C2 n2 => n2 = n ∧ Q r C2) := by
  refine MA.of (by decide) rfl rfl 2 rfl (fun p e s m args below meth c => ?_)
  show AW p l e _ s m args below meth c E M_La_joinFields true _ n 0 0 0 [(2, v0), (9, 0), (9, 0)] [] C
  unfold P_La_joinFields at h
  refine AW.ra_n (dc hd_La_joinFields 0 rfl) rfl rfl rfl ?_
  refine AW.iconst (dc hd_La_joinFields 1 rfl) (by decide) ?_
  obtain ⟨g_1, h⟩ := h
  refine AW.nputI fl_2_132 (dc hd_La_joinFields 2 rfl) g_1 (fun C_2 eC_2 => ?_)
  have h := h C_2 eC_2
  refine AW.iconst (dc hd_La_joinFields 3 rfl) (by decide) ?_
  refine AW.istore_n [(2, v0), (0, 0), (9, 0)] (dc hd_La_joinFields 4 rfl) (Nat.le_of_ble_eq_true rfl) rfl rfl ?_
  obtain ⟨f_23, h⟩ := h
  exact aB_La_joinFields_7 n v0 Q f_23 (C_2, 0) h
def P_La_openGate (n : Nat) (C : Cn) (v0 v1 v2 v3 : Int) (Q : Int → Cn → Prop) : Prop :=
  okO n v0 2 ∧ (okO n (PT v0.toNat 13) 12 ∧ (okI (PT v0.toNat 13) v1 ∧ (∀ v4_4 : Int, v4_4 = C (PT v0.toNat 13).toNat v1.toNat → (okI (PT v0.toNat 13) v2 ∧ (∀ v5_6 : Int, v5_6 = C (PT v0.toNat 13).toNat v2.toNat → (okO n (PT v0.toNat 18) 12 ∧ (okI (PT v0.toNat 18) (w32 (w32 (v4_4 * 19) + v5_6)) ∧ (∀ C_9 : Cn, C_9 = wr C (PT v0.toNat 18).toNat (w32 (w32 (v4_4 * 19) + v5_6)).toNat v3 → (okI (PT v0.toNat 18) (w32 (w32 (v5_6 * 19) + v4_4)) ∧ (∀ C_11 : Cn, C_11 = wr C_9 (PT v0.toNat 18).toNat (w32 (w32 (v5_6 * 19) + v4_4)).toNat v3 → (Q 0 C_11)))))))))))
theorem m_La_openGate (l : Launch) (E : Ev) (n : Nat) (C : Cn) (v0 v1 v2 v3 : Int) (Q : Int → Cn → Prop) (h : P_La_openGate n C v0 v1 v2 v3 Q) : MA l y_La_openGate M_La_openGate E true C n [(2, v0), (0, v1), (0, v2), (0, v3)] (fun r C2 n2 => n2 = n ∧ Q r C2) := by
  refine MA.of (by decide) rfl rfl 2 rfl (fun p e s m args below meth c => ?_)
  show AW p l e _ s m args below meth c E M_La_openGate true _ n 0 0 0 [(2, v0), (0, v1), (0, v2), (0, v3), (9, 0), (9, 0)] [] C
  unfold P_La_openGate at h
  refine AW.ra_n (dc hd_La_openGate 0 rfl) rfl rfl rfl ?_
  obtain ⟨g_1, h⟩ := h
  refine AW.getp fl_2_42 (dc hd_La_openGate 1 rfl) g_1 rfl ?_
  refine AW.iload_n (dc hd_La_openGate 2 rfl) rfl ?_
  obtain ⟨g_2, h⟩ := h
  obtain ⟨g_3, h⟩ := h
  refine AW.iald (dc hd_La_openGate 3 rfl) g_2 g_3 ?_
  refine AW.nm (fun v4_4 ev4_4 => ?_)
  have h := h v4_4 ev4_4
  refine AW.istore [(2, v0), (0, v1), (0, v2), (0, v3), (0, v4_4), (9, 0)] (dc hd_La_openGate 4 rfl) (Nat.le_of_ble_eq_true rfl) rfl rfl ?_
  refine AW.ra_n (dc hd_La_openGate 5 rfl) rfl rfl rfl ?_
  refine AW.getp fl_2_42 (dc hd_La_openGate 6 rfl) g_1 rfl ?_
  refine AW.iload_n (dc hd_La_openGate 7 rfl) rfl ?_
  obtain ⟨g_5, h⟩ := h
  refine AW.iald (dc hd_La_openGate 8 rfl) g_2 g_5 ?_
  refine AW.nm (fun v5_6 ev5_6 => ?_)
  have h := h v5_6 ev5_6
  refine AW.istore [(2, v0), (0, v1), (0, v2), (0, v3), (0, v4_4), (0, v5_6)] (dc hd_La_openGate 9 rfl) (Nat.le_of_ble_eq_true rfl) rfl rfl ?_
  refine AW.ra_n (dc hd_La_openGate 10 rfl) rfl rfl rfl ?_
  refine AW.getp fl_2_54 (dc hd_La_openGate 11 rfl) g_1 rfl ?_
  refine AW.iload (dc hd_La_openGate 12 rfl) rfl ?_
  refine AW.bipush (dc hd_La_openGate 13 rfl) (by decide) (by decide +kernel) ?_
  refine AW.imul (dc hd_La_openGate 14 rfl) ?_
  refine AW.iload (dc hd_La_openGate 15 rfl) rfl ?_
  refine AW.iadd (dc hd_La_openGate 16 rfl) ?_
  refine AW.iload_n (dc hd_La_openGate 17 rfl) rfl ?_
  obtain ⟨g_7, h⟩ := h
  obtain ⟨g_8, h⟩ := h
  refine AW.niast (dc hd_La_openGate 18 rfl) g_7 g_8 (fun C_9 eC_9 => ?_)
  have h := h C_9 eC_9
  refine AW.ra_n (dc hd_La_openGate 19 rfl) rfl rfl rfl ?_
  refine AW.getp fl_2_54 (dc hd_La_openGate 20 rfl) g_1 rfl ?_
  refine AW.iload (dc hd_La_openGate 21 rfl) rfl ?_
  refine AW.bipush (dc hd_La_openGate 22 rfl) (by decide) (by decide +kernel) ?_
  refine AW.imul (dc hd_La_openGate 23 rfl) ?_
  refine AW.iload (dc hd_La_openGate 24 rfl) rfl ?_
  refine AW.iadd (dc hd_La_openGate 25 rfl) ?_
  refine AW.iload_n (dc hd_La_openGate 26 rfl) rfl ?_
  obtain ⟨g_10, h⟩ := h
  refine AW.niast (dc hd_La_openGate 27 rfl) g_7 g_10 (fun C_11 eC_11 => ?_)
  have h := h C_11 eC_11
  exact AW.vret (dc hd_La_openGate 28 rfl) rfl rfl (Nat.le_of_ble_eq_true rfl) (Nat.le_of_ble_eq_true rfl) ⟨rfl, h⟩
def B_La_openGatesBehind_20 (n : Nat) (v0 v1 v2 : Int) (Q : Int → Cn → Prop) (kz20 : Cn × Int → Prop) (z : Cn × Int) : Prop := match z with
  | (C, v3) => okO n v0 2 ∧ (okO n (PT v0.toNat 7) 12 ∧ (okI (PT v0.toNat 7) v2 ∧ ((C (PT v0.toNat 7).toNat v2.toNat < v3 → (Q 0 C)) ∧ (¬ C (PT v0.toNat 7).toNat v2.toNat < v3 → (okO n (PT v0.toNat 9) 12 ∧ (okI (PT v0.toNat 9) v2 ∧ (∀ v4_12 : Int, v4_12 = w32 (C (PT v0.toNat 9).toNat v2.toNat + v3) → (okO n (PT v0.toNat 11) 12 ∧ (okI (PT v0.toNat 11) v4_12 ∧ (okI (PT v0.toNat 11) v1 ∧ ((C (PT v0.toNat 11).toNat v4_12.toNat = C (PT v0.toNat 11).toNat v1.toNat → (P_La_openGate n C v0 v1 v4_12 1 (fun (_ : Int) (C_17 : Cn) => kz20 (C_17, w32 (v3 + 1))))) ∧ (¬ C (PT v0.toNat 11).toNat v4_12.toNat = C (PT v0.toNat 11).toNat v1.toNat → (okO n (PT v0.toNat 12) 12 ∧ (okI (PT v0.toNat 12) v4_12 ∧ (okI (PT v0.toNat 12) v1 ∧ ((C (PT v0.toNat 12).toNat v4_12.toNat = C (PT v0.toNat 12).toNat v1.toNat → (P_La_openGate n C v0 v1 v4_12 1 (fun (_ : Int) (C_25 : Cn) => kz20 (C_25, w32 (v3 + 1))))) ∧ (¬ C (PT v0.toNat 12).toNat v4_12.toNat = C (PT v0.toNat 12).toNat v1.toNat → (kz20 (C, w32 (v3 + 1))))))))))))))))))))
theorem bB_La_openGatesBehind_20 (n : Nat) (v0 v1 v2 : Int) (Q : Int → Cn → Prop) (kz20 : Cn × Int → Prop) (hkz20 : ∀ (Cz : Cn) (z3 : Int), kz20 (Cz, z3) → AW p l e R s m args below meth c E M_La_openGatesBehind true (fun r C2 n2 => n2 = n ∧ Q r C2) n 0 0 20 [(2, v0), (0, v1), (0, v2), (0, z3), (9, 0)] [] Cz) (C : Cn) (v3 : Int) (h : B_La_openGatesBehind_20 n v0 v1 v2 Q kz20 (C, v3)) : AW p l e R s m args below meth c E M_La_openGatesBehind true (fun r C2 n2 => n2 = n ∧ Q r C2) n 0 0 20 [(2, v0), (0, v1), (0, v2), (0, v3), (9, 0)] [] C := by
  unfold B_La_openGatesBehind_20 at h
  dsimp only at h
  refine AW.iload_n (dc hd_La_openGatesBehind 14 rfl) rfl ?_
  refine AW.ra_n (dc hd_La_openGatesBehind 15 rfl) rfl rfl rfl ?_
  obtain ⟨g_6, h⟩ := h
  refine AW.getp fl_2_27 (dc hd_La_openGatesBehind 16 rfl) g_6 rfl ?_
  refine AW.iload_n (dc hd_La_openGatesBehind 17 rfl) rfl ?_
  obtain ⟨g_7, h⟩ := h
  obtain ⟨g_8, h⟩ := h
  refine AW.iald (dc hd_La_openGatesBehind 18 rfl) g_7 g_8 ?_
  refine AW.icmp_gt (t := 86) (dc hd_La_openGatesBehind 19 rfl) (by decide) (fun c_9 => ?_) (fun c_9 => ?_)
  · have h := h.1 c_9
    exact AW.vret (dc hd_La_openGatesBehind 52 rfl) rfl rfl (Nat.le_of_ble_eq_true rfl) (Nat.le_of_ble_eq_true rfl) ⟨rfl, h⟩
  · have h := h.2 c_9
    refine AW.ra_n (dc hd_La_openGatesBehind 20 rfl) rfl rfl rfl ?_
    refine AW.getp fl_2_30 (dc hd_La_openGatesBehind 21 rfl) g_6 rfl ?_
    refine AW.iload_n (dc hd_La_openGatesBehind 22 rfl) rfl ?_
    obtain ⟨g_10, h⟩ := h
    obtain ⟨g_11, h⟩ := h
    refine AW.iald (dc hd_La_openGatesBehind 23 rfl) g_10 g_11 ?_
    refine AW.iload_n (dc hd_La_openGatesBehind 24 rfl) rfl ?_
    refine AW.iadd (dc hd_La_openGatesBehind 25 rfl) ?_
    refine AW.nm (fun v4_12 ev4_12 => ?_)
    have h := h v4_12 ev4_12
    refine AW.istore [(2, v0), (0, v1), (0, v2), (0, v3), (0, v4_12)] (dc hd_La_openGatesBehind 26 rfl) (Nat.le_of_ble_eq_true rfl) rfl rfl ?_
    refine AW.ra_n (dc hd_La_openGatesBehind 27 rfl) rfl rfl rfl ?_
    refine AW.getp fl_2_36 (dc hd_La_openGatesBehind 28 rfl) g_6 rfl ?_
    refine AW.iload (dc hd_La_openGatesBehind 29 rfl) rfl ?_
    obtain ⟨g_13, h⟩ := h
    obtain ⟨g_14, h⟩ := h
    refine AW.iald (dc hd_La_openGatesBehind 30 rfl) g_13 g_14 ?_
    refine AW.ra_n (dc hd_La_openGatesBehind 31 rfl) rfl rfl rfl ?_
    refine AW.getp fl_2_36 (dc hd_La_openGatesBehind 32 rfl) g_6 rfl ?_
    refine AW.iload_n (dc hd_La_openGatesBehind 33 rfl) rfl ?_
    obtain ⟨g_15, h⟩ := h
    refine AW.iald (dc hd_La_openGatesBehind 34 rfl) g_13 g_15 ?_
    refine AW.icmp_eq (t := 72) (dc hd_La_openGatesBehind 35 rfl) (by decide) (fun c_16 => ?_) (fun c_16 => ?_)
    · have h := h.1 c_16
      refine AW.ra_n (dc hd_La_openGatesBehind 45 rfl) rfl rfl rfl ?_
      refine AW.iload_n (dc hd_La_openGatesBehind 46 rfl) rfl ?_
      refine AW.iload (dc hd_La_openGatesBehind 47 rfl) rfl ?_
      refine AW.iconst (dc hd_La_openGatesBehind 48 rfl) (by decide) ?_
      refine AW.callV (As := [(0, v1), (0, v4_12), (0, 1)]) (rest := []) (ci := 2) (m_La_openGate l E n C v0 v1 v4_12 1 _ h) cb_2_147 im_La_openGate se_La_openGate ⟨_, _, rfl⟩ (by decide) (dc hd_La_openGatesBehind 49 rfl) g_6 rfl rfl ⟨Nat.le_of_ble_eq_true rfl, Nat.le_of_ble_eq_true rfl⟩ ⟨(Nat.le_of_ble_eq_true rfl), (Nat.le_of_ble_eq_true rfl)⟩ (Nat.le_of_ble_eq_true rfl) (fun _ h => by cases h) (fun _ => rfl) (fun u_19 C_17 d_20 q_18 => ?_)
      obtain ⟨q_18a, h⟩ := q_18
      subst d_20
      show AW p l e _ s m args below meth c E M_La_openGatesBehind true _ n _ _ _ [(2, v0), (0, v1), (0, v2), (0, v3), (0, v4_12)] [] C_17
      refine AW.iinc [(2, v0), (0, v1), (0, v2), (0, w32 (v3 + 1)), (0, v4_12)] (dc hd_La_openGatesBehind 50 rfl) rfl (Nat.le_of_ble_eq_true rfl) rfl rfl ?_
      refine AW.goto (t := 20) (dc hd_La_openGatesBehind 51 rfl) (by decide) ?_
      refine AW.fgt [(2, v0), (0, v1), (0, v2), (0, w32 (v3 + 1)), (9, 0)] ⟨.inl rfl, .inl rfl, .inl rfl, .inl rfl, .inr rfl, trivial⟩ ?_
      exact hkz20 C_17 (w32 (v3 + 1)) h
    · have h := h.2 c_16
      refine AW.ra_n (dc hd_La_openGatesBehind 36 rfl) rfl rfl rfl ?_
      refine AW.getp fl_2_39 (dc hd_La_openGatesBehind 37 rfl) g_6 rfl ?_
      refine AW.iload (dc hd_La_openGatesBehind 38 rfl) rfl ?_
      obtain ⟨g_21, h⟩ := h
      obtain ⟨g_22, h⟩ := h
      refine AW.iald (dc hd_La_openGatesBehind 39 rfl) g_21 g_22 ?_
      refine AW.ra_n (dc hd_La_openGatesBehind 40 rfl) rfl rfl rfl ?_
      refine AW.getp fl_2_39 (dc hd_La_openGatesBehind 41 rfl) g_6 rfl ?_
      refine AW.iload_n (dc hd_La_openGatesBehind 42 rfl) rfl ?_
      obtain ⟨g_23, h⟩ := h
      refine AW.iald (dc hd_La_openGatesBehind 43 rfl) g_21 g_23 ?_
      refine AW.icmp_ne (t := 80) (dc hd_La_openGatesBehind 44 rfl) (by decide) (fun c_24 => ?_) (fun c_24 => ?_)
      · have h := h.2 c_24
        refine AW.iinc [(2, v0), (0, v1), (0, v2), (0, w32 (v3 + 1)), (0, v4_12)] (dc hd_La_openGatesBehind 50 rfl) rfl (Nat.le_of_ble_eq_true rfl) rfl rfl ?_
        refine AW.goto (t := 20) (dc hd_La_openGatesBehind 51 rfl) (by decide) ?_
        refine AW.fgt [(2, v0), (0, v1), (0, v2), (0, w32 (v3 + 1)), (9, 0)] ⟨.inl rfl, .inl rfl, .inl rfl, .inl rfl, .inr rfl, trivial⟩ ?_
        exact hkz20 C (w32 (v3 + 1)) h
      · have h := h.1 c_24
        refine AW.ra_n (dc hd_La_openGatesBehind 45 rfl) rfl rfl rfl ?_
        refine AW.iload_n (dc hd_La_openGatesBehind 46 rfl) rfl ?_
        refine AW.iload (dc hd_La_openGatesBehind 47 rfl) rfl ?_
        refine AW.iconst (dc hd_La_openGatesBehind 48 rfl) (by decide) ?_
        refine AW.callV (As := [(0, v1), (0, v4_12), (0, 1)]) (rest := []) (ci := 2) (m_La_openGate l E n C v0 v1 v4_12 1 _ h) cb_2_147 im_La_openGate se_La_openGate ⟨_, _, rfl⟩ (by decide) (dc hd_La_openGatesBehind 49 rfl) g_6 rfl rfl ⟨Nat.le_of_ble_eq_true rfl, Nat.le_of_ble_eq_true rfl⟩ ⟨(Nat.le_of_ble_eq_true rfl), (Nat.le_of_ble_eq_true rfl)⟩ (Nat.le_of_ble_eq_true rfl) (fun _ h => by cases h) (fun _ => rfl) (fun u_27 C_25 d_28 q_26 => ?_)
        obtain ⟨q_26a, h⟩ := q_26
        subst d_28
        show AW p l e _ s m args below meth c E M_La_openGatesBehind true _ n _ _ _ [(2, v0), (0, v1), (0, v2), (0, v3), (0, v4_12)] [] C_25
        refine AW.iinc [(2, v0), (0, v1), (0, v2), (0, w32 (v3 + 1)), (0, v4_12)] (dc hd_La_openGatesBehind 50 rfl) rfl (Nat.le_of_ble_eq_true rfl) rfl rfl ?_
        refine AW.goto (t := 20) (dc hd_La_openGatesBehind 51 rfl) (by decide) ?_
        refine AW.fgt [(2, v0), (0, v1), (0, v2), (0, w32 (v3 + 1)), (9, 0)] ⟨.inl rfl, .inl rfl, .inl rfl, .inl rfl, .inr rfl, trivial⟩ ?_
        exact hkz20 C_25 (w32 (v3 + 1)) h
theorem aB_La_openGatesBehind_20 (n : Nat) (v0 v1 v2 : Int) (Q : Int → Cn → Prop) : ∀ (f : Nat) (z : Cn × Int), lp (B_La_openGatesBehind_20 n v0 v1 v2 Q) f z → AW p l e R s m args below meth c E M_La_openGatesBehind true (fun r C2 n2 => n2 = n ∧ Q r C2) n 0 0 20 [(2, v0), (0, v1), (0, v2), (0, z.2), (9, 0)] [] (z.1) := by
  intro f
  induction f with
  | zero => intro z h; exact False.elim h
  | succ f ih => intro z h; exact bB_La_openGatesBehind_20 n v0 v1 v2 Q (lp (B_La_openGatesBehind_20 n v0 v1 v2 Q) f) (fun a0 a1 h => ih (a0, a1) h) z.1 z.2 h
def P_La_openGatesBehind (n : Nat) (C : Cn) (v0 v1 : Int) (Q : Int → Cn → Prop) : Prop :=
  okO n v0 2 ∧ (okO n (PT v0.toNat 10) 12 ∧ (okI (PT v0.toNat 10) v1 ∧ (∀ v2_4 : Int, v2_4 = w32 (C (PT v0.toNat 10).toNat v1.toNat + 1) → ((v2_4 ≤ C v0.toNat 1 → (∃ f_29 : Nat, lp (B_La_openGatesBehind_20 n v0 v1 v2_4 Q) f_29 (C, 0))) ∧ (¬ v2_4 ≤ C v0.toNat 1 → (Q 0 C))))))
theorem m_La_openGatesBehind (l : Launch) (E : Ev) (n : Nat) (C : Cn) (v0 v1 : Int) (Q : Int → Cn → Prop) (h : P_La_openGatesBehind n C v0 v1 Q) : MA l y_La_openGatesBehind M_La_openGatesBehind E true C n [(2, v0), (0, v1)] (fun r C2 n2 => n2 = n ∧ Q r C2) := by
  refine MA.of (by decide) rfl rfl 3 rfl (fun p e s m args below meth c => ?_)
  show AW p l e _ s m args below meth c E M_La_openGatesBehind true _ n 0 0 0 [(2, v0), (0, v1), (9, 0), (9, 0), (9, 0)] [] C
  unfold P_La_openGatesBehind at h
  refine AW.ra_n (dc hd_La_openGatesBehind 0 rfl) rfl rfl rfl ?_
  obtain ⟨g_1, h⟩ := h
  refine AW.getp fl_2_33 (dc hd_La_openGatesBehind 1 rfl) g_1 rfl ?_
  refine AW.iload_n (dc hd_La_openGatesBehind 2 rfl) rfl ?_
  obtain ⟨g_2, h⟩ := h
  obtain ⟨g_3, h⟩ := h
  refine AW.iald (dc hd_La_openGatesBehind 3 rfl) g_2 g_3 ?_
  refine AW.iconst (dc hd_La_openGatesBehind 4 rfl) (by decide) ?_
  refine AW.iadd (dc hd_La_openGatesBehind 5 rfl) ?_
  refine AW.nm (fun v2_4 ev2_4 => ?_)
  have h := h v2_4 ev2_4
  refine AW.istore_n [(2, v0), (0, v1), (0, v2_4), (9, 0), (9, 0)] (dc hd_La_openGatesBehind 6 rfl) (Nat.le_of_ble_eq_true rfl) rfl rfl ?_
  refine AW.iload_n (dc hd_La_openGatesBehind 7 rfl) rfl ?_
  refine AW.ra_n (dc hd_La_openGatesBehind 8 rfl) rfl rfl rfl ?_
  refine AW.getf fl_2_73 (dc hd_La_openGatesBehind 9 rfl) g_1 ?_
  refine AW.icmp_le (t := 18) (dc hd_La_openGatesBehind 10 rfl) (by decide) (fun c_5 => ?_) (fun c_5 => ?_)
  · have h := h.1 c_5
    refine AW.iconst (dc hd_La_openGatesBehind 12 rfl) (by decide) ?_
    refine AW.istore_n [(2, v0), (0, v1), (0, v2_4), (0, 0), (9, 0)] (dc hd_La_openGatesBehind 13 rfl) (Nat.le_of_ble_eq_true rfl) rfl rfl ?_
    obtain ⟨f_29, h⟩ := h
    exact aB_La_openGatesBehind_20 n v0 v1 v2_4 Q f_29 (C, 0) h
  · have h := h.2 c_5
    exact AW.vret (dc hd_La_openGatesBehind 11 rfl) rfl rfl (Nat.le_of_ble_eq_true rfl) (Nat.le_of_ble_eq_true rfl) ⟨rfl, h⟩
end
