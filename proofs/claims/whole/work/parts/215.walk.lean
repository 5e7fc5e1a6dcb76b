section
variable {p : Program} {l : Launch} {e : Env} {R : Room} {s : State} {m : MethodId} {args : Array Value} {below : List Frame} {meth : Method} {c : Code} {E : Ev}
def B_G_renumber_60 (n : Nat) (v0 : Int) (Q : Int → Cn → Prop) (kz60 : Cn × Int → Prop) (z : Cn × Int) : Prop := match z with
  | (C, v2) => okO n v0 10 ∧ ((C v0.toNat 0 ≤ v2 → (Q 1 C)) ∧ (¬ C v0.toNat 0 ≤ v2 → (okO n (PT v0.toNat 27) 12 ∧ (okI (PT v0.toNat 27) v2 ∧ (okO n (PT v0.toNat 31) 17 ∧ (okI (PT v0.toNat 31) (C (PT v0.toNat 27).toNat v2.toNat) ∧ (okO n (PT v0.toNat 1) 17 ∧ (okI (PT v0.toNat 1) v2 ∧ (P_G_copies n C (PT (PT v0.toNat 31).toNat (C (PT v0.toNat 27).toNat v2.toNat).toNat) (PT (PT v0.toNat 1).toNat v2.toNat) (fun (_ : Int) (C_25 : Cn) => kz60 (C_25, w32 (v2 + 1))))))))))))
theorem bB_G_renumber_60 (n : Nat) (v0 : Int) (Q : Int → Cn → Prop) (kz60 : Cn × Int → Prop) (hkz60 : ∀ (Cz : Cn) (z2 : Int), kz60 (Cz, z2) → AW p l e R s m args below meth c E M_G_renumber true (fun r C2 n2 => n2 = n ∧ Q r C2) n 0 0 60 [(2, v0), (9, 0), (0, z2)] [] Cz) (C : Cn) (v2 : Int) (h : B_G_renumber_60 n v0 Q kz60 (C, v2)) : AW p l e R s m args below meth c E M_G_renumber true (fun r C2 n2 => n2 = n ∧ Q r C2) n 0 0 60 [(2, v0), (9, 0), (0, v2)] [] C := by
  unfold B_G_renumber_60 at h
  dsimp only at h
  refine AW.iload_n (dc hd_G_renumber 36 rfl) rfl ?_
  refine AW.ra_n (dc hd_G_renumber 37 rfl) rfl rfl rfl ?_
  obtain ⟨g_17, h⟩ := h
  refine AW.getf fl_10_117 (dc hd_G_renumber 38 rfl) g_17 ?_
  refine AW.icmp_ge (t := 94) (dc hd_G_renumber 39 rfl) (by decide) (fun c_18 => ?_) (fun c_18 => ?_)
  · have h := h.1 c_18
    refine AW.iconst (dc hd_G_renumber 54 rfl) (by decide) ?_
    exact AW.iret (dc hd_G_renumber 55 rfl) rfl rfl (Nat.le_of_ble_eq_true rfl) (Nat.le_of_ble_eq_true rfl) ⟨rfl, h⟩
  · have h := h.2 c_18
    refine AW.ra_n (dc hd_G_renumber 40 rfl) rfl rfl rfl ?_
    refine AW.getp fl_10_67 (dc hd_G_renumber 41 rfl) g_17 rfl ?_
    refine AW.ra_n (dc hd_G_renumber 42 rfl) rfl rfl rfl ?_
    refine AW.getp fl_10_61 (dc hd_G_renumber 43 rfl) g_17 rfl ?_
    refine AW.iload_n (dc hd_G_renumber 44 rfl) rfl ?_
    obtain ⟨g_19, h⟩ := h
    obtain ⟨g_20, h⟩ := h
    refine AW.iald (dc hd_G_renumber 45 rfl) g_19 g_20 ?_
    obtain ⟨g_21, h⟩ := h
    obtain ⟨g_22, h⟩ := h
    refine AW.aaldp (by decide) (dc hd_G_renumber 46 rfl) g_21 g_22 rfl ?_
    refine AW.ra_n (dc hd_G_renumber 47 rfl) rfl rfl rfl ?_
    refine AW.getp fl_10_11 (dc hd_G_renumber 48 rfl) g_17 rfl ?_
    refine AW.iload_n (dc hd_G_renumber 49 rfl) rfl ?_
    obtain ⟨g_23, h⟩ := h
    obtain ⟨g_24, h⟩ := h
    refine AW.aaldp (by decide) (dc hd_G_renumber 50 rfl) g_23 g_24 rfl ?_
    refine AW.callS (As := [(2, PT (PT v0.toNat 31).toNat (C (PT v0.toNat 27).toNat v2.toNat).toNat), (2, PT (PT v0.toNat 1).toNat v2.toNat)]) (rest := []) (m_G_copies l E n C (PT (PT v0.toNat 31).toNat (C (PT v0.toNat 27).toNat v2.toNat).toNat) (PT (PT v0.toNat 1).toNat v2.toNat) _ h) cb_10_198 sm_G_copies (dc hd_G_renumber 51 rfl) rfl rfl ⟨Nat.le_of_ble_eq_true rfl, Nat.le_of_ble_eq_true rfl⟩ ⟨(Nat.le_of_ble_eq_true rfl), (Nat.le_of_ble_eq_true rfl)⟩ (Nat.le_of_ble_eq_true rfl) (fun _ h => by cases h) (fun _ => rfl) (fun u_27 C_25 d_28 q_26 => ?_)
    obtain ⟨q_26a, h⟩ := q_26
    subst d_28
    show AW p l e _ s m args below meth c E M_G_renumber true _ n _ _ _ [(2, v0), (9, 0), (0, v2)] [] C_25
    refine AW.iinc [(2, v0), (9, 0), (0, w32 (v2 + 1))] (dc hd_G_renumber 52 rfl) rfl (Nat.le_of_ble_eq_true rfl) rfl rfl ?_
    refine AW.goto (t := 60) (dc hd_G_renumber 53 rfl) (by decide) ?_
    exact hkz60 C_25 (w32 (v2 + 1)) h
theorem aB_G_renumber_60 (n : Nat) (v0 : Int) (Q : Int → Cn → Prop) : ∀ (f : Nat) (z : Cn × Int), lp (B_G_renumber_60 n v0 Q) f z → AW p l e R s m args below meth c E M_G_renumber true (fun r C2 n2 => n2 = n ∧ Q r C2) n 0 0 60 [(2, v0), (9, 0), (0, z.2)] [] (z.1) := by
  intro f
  induction f with
  | zero => intro z h; exact False.elim h
  | succ f ih => intro z h; exact bB_G_renumber_60 n v0 Q (lp (B_G_renumber_60 n v0 Q) f) (fun a0 a1 h => ih (a0, a1) h) z.1 z.2 h
def B_G_renumber_29 (n : Nat) (v0 : Int) (Q : Int → Cn → Prop) (kz29 : Cn × Int → Prop) (z : Cn × Int) : Prop := match z with
  | (C, v2) => okO n v0 10 ∧ ((C v0.toNat 0 ≤ v2 → (∃ f_29 : Nat, lp (B_G_renumber_60 n v0 Q) f_29 (C, 0))) ∧ (¬ C v0.toNat 0 ≤ v2 → (okO n (PT v0.toNat 1) 17 ∧ (okI (PT v0.toNat 1) v2 ∧ (okO n (PT v0.toNat 31) 17 ∧ (okI (PT v0.toNat 31) v2 ∧ (P_G_copies n C (PT (PT v0.toNat 1).toNat v2.toNat) (PT (PT v0.toNat 31).toNat v2.toNat) (fun (_ : Int) (C_34 : Cn) => kz29 (C_34, w32 (v2 + 1))))))))))
theorem bB_G_renumber_29 (n : Nat) (v0 : Int) (Q : Int → Cn → Prop) (kz29 : Cn × Int → Prop) (hkz29 : ∀ (Cz : Cn) (z2 : Int), kz29 (Cz, z2) → AW p l e R s m args below meth c E M_G_renumber true (fun r C2 n2 => n2 = n ∧ Q r C2) n 0 0 29 [(2, v0), (9, 0), (0, z2)] [] Cz) (C : Cn) (v2 : Int) (h : B_G_renumber_29 n v0 Q kz29 (C, v2)) : AW p l e R s m args below meth c E M_G_renumber true (fun r C2 n2 => n2 = n ∧ Q r C2) n 0 0 29 [(2, v0), (9, 0), (0, v2)] [] C := by
  unfold B_G_renumber_29 at h
  dsimp only at h
  refine AW.iload_n (dc hd_G_renumber 19 rfl) rfl ?_
  refine AW.ra_n (dc hd_G_renumber 20 rfl) rfl rfl rfl ?_
  obtain ⟨g_15, h⟩ := h
  refine AW.getf fl_10_117 (dc hd_G_renumber 21 rfl) g_15 ?_
  refine AW.icmp_ge (t := 58) (dc hd_G_renumber 22 rfl) (by decide) (fun c_16 => ?_) (fun c_16 => ?_)
  · have h := h.1 c_16
    refine AW.iconst (dc hd_G_renumber 34 rfl) (by decide) ?_
    refine AW.istore_n [(2, v0), (9, 0), (0, 0)] (dc hd_G_renumber 35 rfl) (Nat.le_of_ble_eq_true rfl) rfl rfl ?_
    obtain ⟨f_29, h⟩ := h
    exact aB_G_renumber_60 n v0 Q f_29 (C, 0) h
  · have h := h.2 c_16
    refine AW.ra_n (dc hd_G_renumber 23 rfl) rfl rfl rfl ?_
    refine AW.getp fl_10_11 (dc hd_G_renumber 24 rfl) g_15 rfl ?_
    refine AW.iload_n (dc hd_G_renumber 25 rfl) rfl ?_
    obtain ⟨g_30, h⟩ := h
    obtain ⟨g_31, h⟩ := h
    refine AW.aaldp (by decide) (dc hd_G_renumber 26 rfl) g_30 g_31 rfl ?_
    refine AW.ra_n (dc hd_G_renumber 27 rfl) rfl rfl rfl ?_
    refine AW.getp fl_10_67 (dc hd_G_renumber 28 rfl) g_15 rfl ?_
    refine AW.iload_n (dc hd_G_renumber 29 rfl) rfl ?_
    obtain ⟨g_32, h⟩ := h
    obtain ⟨g_33, h⟩ := h
    refine AW.aaldp (by decide) (dc hd_G_renumber 30 rfl) g_32 g_33 rfl ?_
    refine AW.callS (As := [(2, PT (PT v0.toNat 1).toNat v2.toNat), (2, PT (PT v0.toNat 31).toNat v2.toNat)]) (rest := []) (m_G_copies l E n C (PT (PT v0.toNat 1).toNat v2.toNat) (PT (PT v0.toNat 31).toNat v2.toNat) _ h) cb_10_198 sm_G_copies (dc hd_G_renumber 31 rfl) rfl rfl ⟨Nat.le_of_ble_eq_true rfl, Nat.le_of_ble_eq_true rfl⟩ ⟨(Nat.le_of_ble_eq_true rfl), (Nat.le_of_ble_eq_true rfl)⟩ (Nat.le_of_ble_eq_true rfl) (fun _ h => by cases h) (fun _ => rfl) (fun u_36 C_34 d_37 q_35 => ?_)
    obtain ⟨q_35a, h⟩ := q_35
    subst d_37
    show AW p l e _ s m args below meth c E M_G_renumber true _ n _ _ _ [(2, v0), (9, 0), (0, v2)] [] C_34
    refine AW.iinc [(2, v0), (9, 0), (0, w32 (v2 + 1))] (dc hd_G_renumber 32 rfl) rfl (Nat.le_of_ble_eq_true rfl) rfl rfl ?_
    refine AW.goto (t := 29) (dc hd_G_renumber 33 rfl) (by decide) ?_
    exact hkz29 C_34 (w32 (v2 + 1)) h
theorem aB_G_renumber_29 (n : Nat) (v0 : Int) (Q : Int → Cn → Prop) : ∀ (f : Nat) (z : Cn × Int), lp (B_G_renumber_29 n v0 Q) f z → AW p l e R s m args below meth c E M_G_renumber true (fun r C2 n2 => n2 = n ∧ Q r C2) n 0 0 29 [(2, v0), (9, 0), (0, z.2)] [] (z.1) := by
  intro f
  induction f with
  | zero => intro z h; exact False.elim h
  | succ f ih => intro z h; exact bB_G_renumber_29 n v0 Q (lp (B_G_renumber_29 n v0 Q) f) (fun a0 a1 h => ih (a0, a1) h) z.1 z.2 h
def P_G_renumber (n : Nat) (C : Cn) (v0 v1 : Int) (Q : Int → Cn → Prop) : Prop :=
  okO n v0 10 ∧ (P_G_orders n C v0 (fun (r_1 : Int) => P_G_in n C v1 0 (w32 (r_1 - 1)) (fun (r_6 : Int) => (r_6 = 0 → (P_G_finds n C v0 0 (fun (r_39 : Int) (C_40 : Cn) => Q r_39 C_40))) ∧ (¬ r_6 = 0 → (P_G_laysOrder n C v0 v1 (fun (_ : Int) (C_11 : Cn) => ∃ f_38 : Nat, lp (B_G_renumber_29 n v0 Q) f_38 (C_11, 0)))))))
theorem m_G_renumber (l : Launch) (E : Ev) (n : Nat) (C : Cn) (v0 v1 : Int) (Q : Int → Cn → Prop) (h : P_G_renumber n C v0 v1 Q) : MA l y_G_renumber M_G_renumber E true C n [(2, v0), (0, v1)] (fun r C2 n2 => n2 = n ∧ Q r C2) := by
  refine MA.of (by decide) rfl rfl 1 rfl (fun p e s m args below meth c => ?_)
  show AW p l e _ s m args below meth c E M_G_renumber true _ n 0 0 0 [(2, v0), (0, v1), (9, 0)] [] C
  unfold P_G_renumber at h
  refine AW.iload_n (dc hd_G_renumber 0 rfl) rfl ?_
  refine AW.i2l (dc hd_G_renumber 1 rfl) ?_
  refine AW.lconst (v := 0) (dc hd_G_renumber 2 rfl) (by decide) (by decide +kernel) ?_
  refine AW.ra_n (dc hd_G_renumber 3 rfl) rfl rfl rfl ?_
  obtain ⟨g_2, h⟩ := h
  refine AW.callV (As := []) (rest := [(1, 0), (1, v1)]) (ci := 10) (m_G_orders l E n C v0 _ h) cb_10_325 im_G_orders se_G_orders ⟨_, _, rfl⟩ (by decide) (dc hd_G_renumber 4 rfl) g_2 rfl rfl ⟨Nat.le_of_ble_eq_true rfl, Nat.le_of_ble_eq_true rfl⟩ ⟨(Nat.le_of_ble_eq_true rfl), (Nat.le_of_ble_eq_true rfl)⟩ (Nat.le_of_ble_eq_true rfl) (fun _ h => by cases h) (fun _ => rfl) (fun r_1 D_4 d_5 q_3 => ?_)
  obtain ⟨q_3a, q_3b, h⟩ := q_3
  subst D_4
  subst d_5
  show AW p l e _ s m args below meth c E M_G_renumber true _ n _ _ _ [(2, v0), (0, v1), (9, 0)] [(0, r_1), (1, 0), (1, v1)] C
  refine AW.iconst (dc hd_G_renumber 5 rfl) (by decide) ?_
  refine AW.isub (dc hd_G_renumber 6 rfl) ?_
  refine AW.i2l (dc hd_G_renumber 7 rfl) ?_
  refine AW.callS (As := [(1, v1), (1, 0), (1, w32 (r_1 - 1))]) (rest := []) (m_G_in l E n C v1 0 (w32 (r_1 - 1)) _ h) cb_10_113 sm_G_in (dc hd_G_renumber 8 rfl) rfl rfl ⟨Nat.le_of_ble_eq_true rfl, Nat.le_of_ble_eq_true rfl⟩ ⟨(Nat.le_of_ble_eq_true rfl), (Nat.le_of_ble_eq_true rfl)⟩ (Nat.le_of_ble_eq_true rfl) (fun _ h => by cases h) (fun _ => rfl) (fun r_6 D_8 d_9 q_7 => ?_)
  obtain ⟨q_7a, q_7b, h⟩ := q_7
  subst D_8
  subst d_9
  show AW p l e _ s m args below meth c E M_G_renumber true _ n _ _ _ [(2, v0), (0, v1), (9, 0)] [(0, r_6)] C
  refine AW.if_ne (t := 22) (dc hd_G_renumber 9 rfl) (by decide) (fun c_10 => ?_) (fun c_10 => ?_)
  · have h := h.2 c_10
    refine AW.ra_n (dc hd_G_renumber 14 rfl) rfl rfl rfl ?_
    refine AW.iload_n (dc hd_G_renumber 15 rfl) rfl ?_
    refine AW.callV (As := [(0, v1)]) (rest := []) (ci := 10) (m_G_laysOrder l E n C v0 v1 _ h) cb_10_330 im_G_laysOrder se_G_laysOrder ⟨_, _, rfl⟩ (by decide) (dc hd_G_renumber 16 rfl) g_2 rfl rfl ⟨Nat.le_of_ble_eq_true rfl, Nat.le_of_ble_eq_true rfl⟩ ⟨(Nat.le_of_ble_eq_true rfl), (Nat.le_of_ble_eq_true rfl)⟩ (Nat.le_of_ble_eq_true rfl) (fun _ h => by cases h) (fun _ => rfl) (fun u_13 C_11 d_14 q_12 => ?_)
    obtain ⟨q_12a, h⟩ := q_12
    subst d_14
    show AW p l e _ s m args below meth c E M_G_renumber true _ n _ _ _ [(2, v0), (0, v1), (9, 0)] [] C_11
    refine AW.iconst (dc hd_G_renumber 17 rfl) (by decide) ?_
    refine AW.istore_n [(2, v0), (0, v1), (0, 0)] (dc hd_G_renumber 18 rfl) (Nat.le_of_ble_eq_true rfl) rfl rfl ?_
    obtain ⟨f_38, h⟩ := h
    refine AW.fgt [(2, v0), (9, 0), (0, 0)] ⟨.inl rfl, .inr rfl, .inl rfl, trivial⟩ ?_
    exact aB_G_renumber_29 n v0 Q f_38 (C_11, 0) h
  · have h := h.1 c_10
    refine AW.ra_n (dc hd_G_renumber 10 rfl) rfl rfl rfl ?_
    refine AW.iconst (dc hd_G_renumber 11 rfl) (by decide) ?_
    refine AW.callV (As := [(0, 0)]) (rest := []) (ci := 10) (m_G_finds l E n C v0 0 _ h) cb_10_186 im_G_finds se_G_finds ⟨_, _, rfl⟩ (by decide) (dc hd_G_renumber 12 rfl) g_2 rfl rfl ⟨Nat.le_of_ble_eq_true rfl, Nat.le_of_ble_eq_true rfl⟩ ⟨(Nat.le_of_ble_eq_true rfl), (Nat.le_of_ble_eq_true rfl)⟩ (Nat.le_of_ble_eq_true rfl) (fun _ h => by cases h) (fun _ => rfl) (fun r_39 C_40 d_42 q_41 => ?_)
    obtain ⟨q_41a, h⟩ := q_41
    subst d_42
    show AW p l e _ s m args below meth c E M_G_renumber true _ n _ _ _ [(2, v0), (0, v1), (9, 0)] [(0, r_39)] C_40
    exact AW.iret (dc hd_G_renumber 13 rfl) rfl rfl (Nat.le_of_ble_eq_true rfl) (Nat.le_of_ble_eq_true rfl) ⟨rfl, h⟩
def P_G_mayGo (n : Nat) (C : Cn) (v0 v1 v2 v3 : Int) (Q : Int → Cn → Prop) : Prop :=
  (v1 = v2 → (Q 0 C)) ∧ (¬ v1 = v2 → (okO n v0 10 ∧ (okO n (PT v0.toNat 32) 17 ∧ (okI (PT v0.toNat 32) v1 ∧ (okO n (PT (PT v0.toNat 32).toNat v1.toNat) 12 ∧ (okI (PT (PT v0.toNat 32).toNat v1.toNat) v2 ∧ ((v3 < C (PT (PT v0.toNat 32).toNat v1.toNat).toNat v2.toNat → (∀ C_8 : Cn, C_8 = wr C (PT (PT v0.toNat 32).toNat v1.toNat).toNat v2.toNat v3 → (okI (PT v0.toNat 32) v2 ∧ (okO n (PT (PT v0.toNat 32).toNat v2.toNat) 12 ∧ (okI (PT (PT v0.toNat 32).toNat v2.toNat) v1 ∧ (∀ C_12 : Cn, C_12 = wr C_8 (PT (PT v0.toNat 32).toNat v2.toNat).toNat v1.toNat v3 → (Q 0 C_12))))))) ∧ (¬ v3 < C (PT (PT v0.toNat 32).toNat v1.toNat).toNat v2.toNat → (Q 0 C)))))))))
theorem m_G_mayGo (l : Launch) (E : Ev) (n : Nat) (C : Cn) (v0 v1 v2 v3 : Int) (Q : Int → Cn → Prop) (h : P_G_mayGo n C v0 v1 v2 v3 Q) : MA l y_G_mayGo M_G_mayGo E true C n [(2, v0), (0, v1), (0, v2), (0, v3)] (fun r C2 n2 => n2 = n ∧ Q r C2) := by
  refine MA.of (by decide) rfl rfl 0 rfl (fun p e s m args below meth c => ?_)
  show AW p l e _ s m args below meth c E M_G_mayGo true _ n 0 0 0 [(2, v0), (0, v1), (0, v2), (0, v3)] [] C
  unfold P_G_mayGo at h
  refine AW.iload_n (dc hd_G_mayGo 0 rfl) rfl ?_
  refine AW.iload_n (dc hd_G_mayGo 1 rfl) rfl ?_
  refine AW.icmp_eq (t := 17) (dc hd_G_mayGo 2 rfl) (by decide) (fun c_1 => ?_) (fun c_1 => ?_)
  · have h := h.1 c_1
    exact AW.vret (dc hd_G_mayGo 11 rfl) rfl rfl (Nat.le_of_ble_eq_true rfl) (Nat.le_of_ble_eq_true rfl) ⟨rfl, h⟩
  · have h := h.2 c_1
    refine AW.iload_n (dc hd_G_mayGo 3 rfl) rfl ?_
    refine AW.ra_n (dc hd_G_mayGo 4 rfl) rfl rfl rfl ?_
    obtain ⟨g_2, h⟩ := h
    refine AW.getp fl_10_70 (dc hd_G_mayGo 5 rfl) g_2 rfl ?_
    refine AW.iload_n (dc hd_G_mayGo 6 rfl) rfl ?_
    obtain ⟨g_3, h⟩ := h
    obtain ⟨g_4, h⟩ := h
    refine AW.aaldp (by decide) (dc hd_G_mayGo 7 rfl) g_3 g_4 rfl ?_
    refine AW.iload_n (dc hd_G_mayGo 8 rfl) rfl ?_
    obtain ⟨g_5, h⟩ := h
    obtain ⟨g_6, h⟩ := h
    refine AW.iald (dc hd_G_mayGo 9 rfl) g_5 g_6 ?_
    refine AW.icmp_lt (t := 18) (dc hd_G_mayGo 10 rfl) (by decide) (fun c_7 => ?_) (fun c_7 => ?_)
    · have h := h.1 c_7
      refine AW.ra_n (dc hd_G_mayGo 12 rfl) rfl rfl rfl ?_
      refine AW.getp fl_10_70 (dc hd_G_mayGo 13 rfl) g_2 rfl ?_
      refine AW.iload_n (dc hd_G_mayGo 14 rfl) rfl ?_
      refine AW.aaldp (by decide) (dc hd_G_mayGo 15 rfl) g_3 g_4 rfl ?_
      refine AW.iload_n (dc hd_G_mayGo 16 rfl) rfl ?_
      refine AW.iload_n (dc hd_G_mayGo 17 rfl) rfl ?_
      refine AW.niast (dc hd_G_mayGo 18 rfl) g_5 g_6 (fun C_8 eC_8 => ?_)
      have h := h C_8 eC_8
      refine AW.ra_n (dc hd_G_mayGo 19 rfl) rfl rfl rfl ?_
      refine AW.getp fl_10_70 (dc hd_G_mayGo 20 rfl) g_2 rfl ?_
      refine AW.iload_n (dc hd_G_mayGo 21 rfl) rfl ?_
      obtain ⟨g_9, h⟩ := h
      refine AW.aaldp (by decide) (dc hd_G_mayGo 22 rfl) g_3 g_9 rfl ?_
      refine AW.iload_n (dc hd_G_mayGo 23 rfl) rfl ?_
      refine AW.iload_n (dc hd_G_mayGo 24 rfl) rfl ?_
      obtain ⟨g_10, h⟩ := h
      obtain ⟨g_11, h⟩ := h
      refine AW.niast (dc hd_G_mayGo 25 rfl) g_10 g_11 (fun C_12 eC_12 => ?_)
      have h := h C_12 eC_12
      exact AW.vret (dc hd_G_mayGo 26 rfl) rfl rfl (Nat.le_of_ble_eq_true rfl) (Nat.le_of_ble_eq_true rfl) ⟨rfl, h⟩
    · have h := h.2 c_7
      exact AW.vret (dc hd_G_mayGo 11 rfl) rfl rfl (Nat.le_of_ble_eq_true rfl) (Nat.le_of_ble_eq_true rfl) ⟨rfl, h⟩
def J_G_steps1_200 (n : Nat) (C : Cn) (v0 v1 v2 : Int) (kz54 : Cn × Int → Prop) (kz64 : Cn × Int → Prop) (Q : Int → Cn → Prop) : Prop :=
  kz64 (C, w32 (v2 + 1))
theorem aJ_G_steps1_200 (n : Nat) (C : Cn) (v0 v1 v2 : Int) (kz54 : Cn × Int → Prop) (kz64 : Cn × Int → Prop) (Q : Int → Cn → Prop) (hkz54 : ∀ (Cz : Cn) (z1 : Int), kz54 (Cz, z1) → AW p l e R s m args below meth c E M_G_steps1 true (fun r C2 n2 => n2 = n ∧ Q r C2) n 0 0 54 [(2, v0), (0, z1), (9, 0), (9, 0)] [] Cz) (hkz64 : ∀ (Cz : Cn) (z2 : Int), kz64 (Cz, z2) → AW p l e R s m args below meth c E M_G_steps1 true (fun r C2 n2 => n2 = n ∧ Q r C2) n 0 0 64 [(2, v0), (0, v1), (0, z2), (9, 0)] [] Cz) (h : J_G_steps1_200 n C v0 v1 v2 kz54 kz64 Q) : AW p l e R s m args below meth c E M_G_steps1 true (fun r C2 n2 => n2 = n ∧ Q r C2) n 0 0 200 [(2, v0), (0, v1), (0, v2), (9, 0)] [] C := by
  unfold J_G_steps1_200 at h
  refine AW.iinc [(2, v0), (0, v1), (0, w32 (v2 + 1)), (9, 0)] (dc hd_G_steps1 126 rfl) rfl (Nat.le_of_ble_eq_true rfl) rfl rfl ?_
  refine AW.goto (t := 64) (dc hd_G_steps1 127 rfl) (by decide) ?_
  exact hkz64 C (w32 (v2 + 1)) h
def J_G_steps1_171 (n : Nat) (C : Cn) (v0 v1 v2 v3 : Int) (kz54 : Cn × Int → Prop) (kz64 : Cn × Int → Prop) (kz121 : Cn × Int → Prop) (Q : Int → Cn → Prop) : Prop :=
  okO n v0 10 ∧ (okO n (PT v0.toNat 17) 17 ∧ (okI (PT v0.toNat 17) v1 ∧ (okO n (PT (PT v0.toNat 17).toNat v1.toNat) 12 ∧ (okI (PT (PT v0.toNat 17).toNat v1.toNat) v2 ∧ (okI (PT v0.toNat 17) (w32 (v1 - 1)) ∧ (okO n (PT (PT v0.toNat 17).toNat (w32 (v1 - 1)).toNat) 12 ∧ (okI (PT (PT v0.toNat 17).toNat (w32 (v1 - 1)).toNat) v3 ∧ (P_G_mayGo n C v0 (C (PT (PT v0.toNat 17).toNat v1.toNat).toNat v2.toNat) (C (PT (PT v0.toNat 17).toNat (w32 (v1 - 1)).toNat).toNat v3.toNat) 0 (fun (_ : Int) (C_32 : Cn) => kz121 (C_32, w32 (v3 + 1)))))))))))
theorem aJ_G_steps1_171 (n : Nat) (C : Cn) (v0 v1 v2 v3 : Int) (kz54 : Cn × Int → Prop) (kz64 : Cn × Int → Prop) (kz121 : Cn × Int → Prop) (Q : Int → Cn → Prop) (hkz54 : ∀ (Cz : Cn) (z1 : Int), kz54 (Cz, z1) → AW p l e R s m args below meth c E M_G_steps1 true (fun r C2 n2 => n2 = n ∧ Q r C2) n 0 0 54 [(2, v0), (0, z1), (9, 0), (9, 0)] [] Cz) (hkz64 : ∀ (Cz : Cn) (z2 : Int), kz64 (Cz, z2) → AW p l e R s m args below meth c E M_G_steps1 true (fun r C2 n2 => n2 = n ∧ Q r C2) n 0 0 64 [(2, v0), (0, v1), (0, z2), (9, 0)] [] Cz) (hkz121 : ∀ (Cz : Cn) (z3 : Int), kz121 (Cz, z3) → AW p l e R s m args below meth c E M_G_steps1 true (fun r C2 n2 => n2 = n ∧ Q r C2) n 0 0 121 [(2, v0), (0, v1), (0, v2), (0, z3)] [] Cz) (h : J_G_steps1_171 n C v0 v1 v2 v3 kz54 kz64 kz121 Q) : AW p l e R s m args below meth c E M_G_steps1 true (fun r C2 n2 => n2 = n ∧ Q r C2) n 0 0 171 [(2, v0), (0, v1), (0, v2), (0, v3)] [] C := by
  unfold J_G_steps1_171 at h
  refine AW.ra_n (dc hd_G_steps1 107 rfl) rfl rfl rfl ?_
  refine AW.ra_n (dc hd_G_steps1 108 rfl) rfl rfl rfl ?_
  obtain ⟨g_24, h⟩ := h
  refine AW.getp fl_10_46 (dc hd_G_steps1 109 rfl) g_24 rfl ?_
  refine AW.iload_n (dc hd_G_steps1 110 rfl) rfl ?_
  obtain ⟨g_25, h⟩ := h
  obtain ⟨g_26, h⟩ := h
  refine AW.aaldp (by decide) (dc hd_G_steps1 111 rfl) g_25 g_26 rfl ?_
  refine AW.iload_n (dc hd_G_steps1 112 rfl) rfl ?_
  obtain ⟨g_27, h⟩ := h
  obtain ⟨g_28, h⟩ := h
  refine AW.iald (dc hd_G_steps1 113 rfl) g_27 g_28 ?_
  refine AW.ra_n (dc hd_G_steps1 114 rfl) rfl rfl rfl ?_
  refine AW.getp fl_10_46 (dc hd_G_steps1 115 rfl) g_24 rfl ?_
  refine AW.iload_n (dc hd_G_steps1 116 rfl) rfl ?_
  refine AW.iconst (dc hd_G_steps1 117 rfl) (by decide) ?_
  refine AW.isub (dc hd_G_steps1 118 rfl) ?_
  obtain ⟨g_29, h⟩ := h
  refine AW.aaldp (by decide) (dc hd_G_steps1 119 rfl) g_25 g_29 rfl ?_
  refine AW.iload_n (dc hd_G_steps1 120 rfl) rfl ?_
  obtain ⟨g_30, h⟩ := h
  obtain ⟨g_31, h⟩ := h
  refine AW.iald (dc hd_G_steps1 121 rfl) g_30 g_31 ?_
  refine AW.iconst (dc hd_G_steps1 122 rfl) (by decide) ?_
  refine AW.callV (As := [(0, C (PT (PT v0.toNat 17).toNat v1.toNat).toNat v2.toNat), (0, C (PT (PT v0.toNat 17).toNat (w32 (v1 - 1)).toNat).toNat v3.toNat), (0, 0)]) (rest := []) (ci := 10) (m_G_mayGo l E n C v0 (C (PT (PT v0.toNat 17).toNat v1.toNat).toNat v2.toNat) (C (PT (PT v0.toNat 17).toNat (w32 (v1 - 1)).toNat).toNat v3.toNat) 0 _ h) cb_10_340 im_G_mayGo se_G_mayGo ⟨_, _, rfl⟩ (by decide) (dc hd_G_steps1 123 rfl) g_24 rfl rfl ⟨Nat.le_of_ble_eq_true rfl, Nat.le_of_ble_eq_true rfl⟩ ⟨(Nat.le_of_ble_eq_true rfl), (Nat.le_of_ble_eq_true rfl)⟩ (Nat.le_of_ble_eq_true rfl) (fun _ h => by cases h) (fun _ => rfl) (fun u_34 C_32 d_35 q_33 => ?_)
  obtain ⟨q_33a, h⟩ := q_33
  subst d_35
  show AW p l e _ s m args below meth c E M_G_steps1 true _ n _ _ _ [(2, v0), (0, v1), (0, v2), (0, v3)] [] C_32
  refine AW.iinc [(2, v0), (0, v1), (0, v2), (0, w32 (v3 + 1))] (dc hd_G_steps1 124 rfl) rfl (Nat.le_of_ble_eq_true rfl) rfl rfl ?_
  refine AW.goto (t := 121) (dc hd_G_steps1 125 rfl) (by decide) ?_
  exact hkz121 C_32 (w32 (v3 + 1)) h
def B_G_steps1_121 (n : Nat) (v0 v1 v2 : Int) (kz54 : Cn × Int → Prop) (kz64 : Cn × Int → Prop) (Q : Int → Cn → Prop) (kz121 : Cn × Int → Prop) (z : Cn × Int) : Prop := match z with
  | (C, v3) => (v1 ≤ 0 → (J_G_steps1_200 n C v0 v1 v2 kz54 kz64 Q)) ∧ (¬ v1 ≤ 0 → (okO n v0 10 ∧ (okO n (PT v0.toNat 15) 12 ∧ (okI (PT v0.toNat 15) (w32 (v1 - 1)) ∧ ((C (PT v0.toNat 15).toNat (w32 (v1 - 1)).toNat < v3 → (J_G_steps1_200 n C v0 v1 v2 kz54 kz64 Q)) ∧ (¬ C (PT v0.toNat 15).toNat (w32 (v1 - 1)).toNat < v3 → (P_G_floorAt n C v0 v1 v2 (fun (r_15 : Int) => P_G_floorAt n C v0 (w32 (v1 - 1)) v3 (fun (r_19 : Int) => (r_15 = r_19 → (J_G_steps1_171 n C v0 v1 v2 v3 kz54 kz64 kz121 Q)) ∧ (¬ r_15 = r_19 → (P_G_roofAt n C v0 v1 v2 (fun (r_36 : Int) => P_G_roofAt n C v0 (w32 (v1 - 1)) v3 (fun (r_40 : Int) => (r_36 = r_40 → (J_G_steps1_171 n C v0 v1 v2 v3 kz54 kz64 kz121 Q)) ∧ (¬ r_36 = r_40 → (kz121 (C, w32 (v3 + 1)))))))))))))))))
theorem bB_G_steps1_121 (n : Nat) (v0 v1 v2 : Int) (kz54 : Cn × Int → Prop) (kz64 : Cn × Int → Prop) (Q : Int → Cn → Prop) (hkz54 : ∀ (Cz : Cn) (z1 : Int), kz54 (Cz, z1) → AW p l e R s m args below meth c E M_G_steps1 true (fun r C2 n2 => n2 = n ∧ Q r C2) n 0 0 54 [(2, v0), (0, z1), (9, 0), (9, 0)] [] Cz) (hkz64 : ∀ (Cz : Cn) (z2 : Int), kz64 (Cz, z2) → AW p l e R s m args below meth c E M_G_steps1 true (fun r C2 n2 => n2 = n ∧ Q r C2) n 0 0 64 [(2, v0), (0, v1), (0, z2), (9, 0)] [] Cz) (kz121 : Cn × Int → Prop) (hkz121 : ∀ (Cz : Cn) (z3 : Int), kz121 (Cz, z3) → AW p l e R s m args below meth c E M_G_steps1 true (fun r C2 n2 => n2 = n ∧ Q r C2) n 0 0 121 [(2, v0), (0, v1), (0, v2), (0, z3)] [] Cz) (C : Cn) (v3 : Int) (h : B_G_steps1_121 n v0 v1 v2 kz54 kz64 Q kz121 (C, v3)) : AW p l e R s m args below meth c E M_G_steps1 true (fun r C2 n2 => n2 = n ∧ Q r C2) n 0 0 121 [(2, v0), (0, v1), (0, v2), (0, v3)] [] C := by
  unfold B_G_steps1_121 at h
  dsimp only at h
  refine AW.iload_n (dc hd_G_steps1 75 rfl) rfl ?_
  refine AW.if_le (t := 200) (dc hd_G_steps1 76 rfl) (by decide) (fun c_10 => ?_) (fun c_10 => ?_)
  · have h := h.1 c_10
    refine AW.fgt [(2, v0), (0, v1), (0, v2), (9, 0)] ⟨.inl rfl, .inl rfl, .inl rfl, .inr rfl, trivial⟩ ?_
    exact aJ_G_steps1_200 n C v0 v1 v2 kz54 kz64 Q hkz54 hkz64 h
  · have h := h.2 c_10
    refine AW.iload_n (dc hd_G_steps1 77 rfl) rfl ?_
    refine AW.ra_n (dc hd_G_steps1 78 rfl) rfl rfl rfl ?_
    obtain ⟨g_11, h⟩ := h
    refine AW.getp fl_10_40 (dc hd_G_steps1 79 rfl) g_11 rfl ?_
    refine AW.iload_n (dc hd_G_steps1 80 rfl) rfl ?_
    refine AW.iconst (dc hd_G_steps1 81 rfl) (by decide) ?_
    refine AW.isub (dc hd_G_steps1 82 rfl) ?_
    obtain ⟨g_12, h⟩ := h
    obtain ⟨g_13, h⟩ := h
    refine AW.iald (dc hd_G_steps1 83 rfl) g_12 g_13 ?_
    refine AW.icmp_gt (t := 200) (dc hd_G_steps1 84 rfl) (by decide) (fun c_14 => ?_) (fun c_14 => ?_)
    · have h := h.1 c_14
      refine AW.fgt [(2, v0), (0, v1), (0, v2), (9, 0)] ⟨.inl rfl, .inl rfl, .inl rfl, .inr rfl, trivial⟩ ?_
      exact aJ_G_steps1_200 n C v0 v1 v2 kz54 kz64 Q hkz54 hkz64 h
    · have h := h.2 c_14
      refine AW.ra_n (dc hd_G_steps1 85 rfl) rfl rfl rfl ?_
      refine AW.iload_n (dc hd_G_steps1 86 rfl) rfl ?_
      refine AW.iload_n (dc hd_G_steps1 87 rfl) rfl ?_
      refine AW.callV (As := [(0, v1), (0, v2)]) (rest := []) (ci := 10) (m_G_floorAt l E n C v0 v1 v2 _ h) cb_10_233 im_G_floorAt se_G_floorAt ⟨_, _, rfl⟩ (by decide) (dc hd_G_steps1 88 rfl) g_11 rfl rfl ⟨Nat.le_of_ble_eq_true rfl, Nat.le_of_ble_eq_true rfl⟩ ⟨(Nat.le_of_ble_eq_true rfl), (Nat.le_of_ble_eq_true rfl)⟩ (Nat.le_of_ble_eq_true rfl) (fun _ h => by cases h) (fun _ => rfl) (fun r_15 D_17 d_18 q_16 => ?_)
      obtain ⟨q_16a, q_16b, h⟩ := q_16
      subst D_17
      subst d_18
      show AW p l e _ s m args below meth c E M_G_steps1 true _ n _ _ _ [(2, v0), (0, v1), (0, v2), (0, v3)] [(0, r_15)] C
      refine AW.ra_n (dc hd_G_steps1 89 rfl) rfl rfl rfl ?_
      refine AW.iload_n (dc hd_G_steps1 90 rfl) rfl ?_
      refine AW.iconst (dc hd_G_steps1 91 rfl) (by decide) ?_
      refine AW.isub (dc hd_G_steps1 92 rfl) ?_
      refine AW.iload_n (dc hd_G_steps1 93 rfl) rfl ?_
      refine AW.callV (As := [(0, w32 (v1 - 1)), (0, v3)]) (rest := [(0, r_15)]) (ci := 10) (m_G_floorAt l E n C v0 (w32 (v1 - 1)) v3 _ h) cb_10_233 im_G_floorAt se_G_floorAt ⟨_, _, rfl⟩ (by decide) (dc hd_G_steps1 94 rfl) g_11 rfl rfl ⟨Nat.le_of_ble_eq_true rfl, Nat.le_of_ble_eq_true rfl⟩ ⟨(Nat.le_of_ble_eq_true rfl), (Nat.le_of_ble_eq_true rfl)⟩ (Nat.le_of_ble_eq_true rfl) (fun _ h => by cases h) (fun _ => rfl) (fun r_19 D_21 d_22 q_20 => ?_)
      obtain ⟨q_20a, q_20b, h⟩ := q_20
      subst D_21
      subst d_22
      show AW p l e _ s m args below meth c E M_G_steps1 true _ n _ _ _ [(2, v0), (0, v1), (0, v2), (0, v3)] [(0, r_19), (0, r_15)] C
      refine AW.icmp_eq (t := 171) (dc hd_G_steps1 95 rfl) (by decide) (fun c_23 => ?_) (fun c_23 => ?_)
      · have h := h.1 c_23
        exact aJ_G_steps1_171 n C v0 v1 v2 v3 kz54 kz64 kz121 Q hkz54 hkz64 hkz121 h
      · have h := h.2 c_23
        refine AW.ra_n (dc hd_G_steps1 96 rfl) rfl rfl rfl ?_
        refine AW.iload_n (dc hd_G_steps1 97 rfl) rfl ?_
        refine AW.iload_n (dc hd_G_steps1 98 rfl) rfl ?_
        refine AW.callV (As := [(0, v1), (0, v2)]) (rest := []) (ci := 10) (m_G_roofAt l E n C v0 v1 v2 _ h) cb_10_236 im_G_roofAt se_G_roofAt ⟨_, _, rfl⟩ (by decide) (dc hd_G_steps1 99 rfl) g_11 rfl rfl ⟨Nat.le_of_ble_eq_true rfl, Nat.le_of_ble_eq_true rfl⟩ ⟨(Nat.le_of_ble_eq_true rfl), (Nat.le_of_ble_eq_true rfl)⟩ (Nat.le_of_ble_eq_true rfl) (fun _ h => by cases h) (fun _ => rfl) (fun r_36 D_38 d_39 q_37 => ?_)
        obtain ⟨q_37a, q_37b, h⟩ := q_37
        subst D_38
        subst d_39
        show AW p l e _ s m args below meth c E M_G_steps1 true _ n _ _ _ [(2, v0), (0, v1), (0, v2), (0, v3)] [(0, r_36)] C
        refine AW.ra_n (dc hd_G_steps1 100 rfl) rfl rfl rfl ?_
        refine AW.iload_n (dc hd_G_steps1 101 rfl) rfl ?_
        refine AW.iconst (dc hd_G_steps1 102 rfl) (by decide) ?_
        refine AW.isub (dc hd_G_steps1 103 rfl) ?_
        refine AW.iload_n (dc hd_G_steps1 104 rfl) rfl ?_
        refine AW.callV (As := [(0, w32 (v1 - 1)), (0, v3)]) (rest := [(0, r_36)]) (ci := 10) (m_G_roofAt l E n C v0 (w32 (v1 - 1)) v3 _ h) cb_10_236 im_G_roofAt se_G_roofAt ⟨_, _, rfl⟩ (by decide) (dc hd_G_steps1 105 rfl) g_11 rfl rfl ⟨Nat.le_of_ble_eq_true rfl, Nat.le_of_ble_eq_true rfl⟩ ⟨(Nat.le_of_ble_eq_true rfl), (Nat.le_of_ble_eq_true rfl)⟩ (Nat.le_of_ble_eq_true rfl) (fun _ h => by cases h) (fun _ => rfl) (fun r_40 D_42 d_43 q_41 => ?_)
        obtain ⟨q_41a, q_41b, h⟩ := q_41
        subst D_42
        subst d_43
        show AW p l e _ s m args below meth c E M_G_steps1 true _ n _ _ _ [(2, v0), (0, v1), (0, v2), (0, v3)] [(0, r_40), (0, r_36)] C
        refine AW.icmp_ne (t := 194) (dc hd_G_steps1 106 rfl) (by decide) (fun c_44 => ?_) (fun c_44 => ?_)
        · have h := h.2 c_44
          refine AW.iinc [(2, v0), (0, v1), (0, v2), (0, w32 (v3 + 1))] (dc hd_G_steps1 124 rfl) rfl (Nat.le_of_ble_eq_true rfl) rfl rfl ?_
          refine AW.goto (t := 121) (dc hd_G_steps1 125 rfl) (by decide) ?_
          exact hkz121 C (w32 (v3 + 1)) h
        · have h := h.1 c_44
          exact aJ_G_steps1_171 n C v0 v1 v2 v3 kz54 kz64 kz121 Q hkz54 hkz64 hkz121 h
theorem aB_G_steps1_121 (n : Nat) (v0 v1 v2 : Int) (kz54 : Cn × Int → Prop) (kz64 : Cn × Int → Prop) (Q : Int → Cn → Prop) (hkz54 : ∀ (Cz : Cn) (z1 : Int), kz54 (Cz, z1) → AW p l e R s m args below meth c E M_G_steps1 true (fun r C2 n2 => n2 = n ∧ Q r C2) n 0 0 54 [(2, v0), (0, z1), (9, 0), (9, 0)] [] Cz) (hkz64 : ∀ (Cz : Cn) (z2 : Int), kz64 (Cz, z2) → AW p l e R s m args below meth c E M_G_steps1 true (fun r C2 n2 => n2 = n ∧ Q r C2) n 0 0 64 [(2, v0), (0, v1), (0, z2), (9, 0)] [] Cz) : ∀ (f : Nat) (z : Cn × Int), lp (B_G_steps1_121 n v0 v1 v2 kz54 kz64 Q) f z → AW p l e R s m args below meth c E M_G_steps1 true (fun r C2 n2 => n2 = n ∧ Q r C2) n 0 0 121 [(2, v0), (0, v1), (0, v2), (0, z.2)] [] (z.1) := by
  intro f
  induction f with
  | zero => intro z h; exact False.elim h
  | succ f ih => intro z h; exact bB_G_steps1_121 n v0 v1 v2 kz54 kz64 Q hkz54 hkz64 (lp (B_G_steps1_121 n v0 v1 v2 kz54 kz64 Q) f) (fun a0 a1 h => ih (a0, a1) h) z.1 z.2 h
def B_G_steps1_64 (n : Nat) (v0 v1 : Int) (kz54 : Cn × Int → Prop) (Q : Int → Cn → Prop) (kz64 : Cn × Int → Prop) (z : Cn × Int) : Prop := match z with
  | (C, v2) => okO n v0 10 ∧ (okO n (PT v0.toNat 15) 12 ∧ (okI (PT v0.toNat 15) v1 ∧ ((C (PT v0.toNat 15).toNat v1.toNat < v2 → (kz54 (C, w32 (v1 + 1)))) ∧ (¬ C (PT v0.toNat 15).toNat v1.toNat < v2 → ((v2 ≤ 0 → (∃ f_45 : Nat, lp (B_G_steps1_121 n v0 v1 v2 kz54 kz64 Q) f_45 (C, 0))) ∧ (¬ v2 ≤ 0 → (okO n (PT v0.toNat 17) 17 ∧ (okI (PT v0.toNat 17) v1 ∧ (okO n (PT (PT v0.toNat 17).toNat v1.toNat) 12 ∧ (okI (PT (PT v0.toNat 17).toNat v1.toNat) (w32 (v2 - 1)) ∧ (okI (PT (PT v0.toNat 17).toNat v1.toNat) v2 ∧ (okO n (PT v0.toNat 16) 17 ∧ (okI (PT v0.toNat 16) v1 ∧ (okO n (PT (PT v0.toNat 16).toNat v1.toNat) 12 ∧ (okI (PT (PT v0.toNat 16).toNat v1.toNat) (w32 (v2 - 1)) ∧ (okO n (PT v0.toNat 1) 17 ∧ (okI (PT v0.toNat 1) (C (PT (PT v0.toNat 16).toNat v1.toNat).toNat (w32 (v2 - 1)).toNat) ∧ (P_G_toll n C v0 (PT (PT v0.toNat 1).toNat (C (PT (PT v0.toNat 16).toNat v1.toNat).toNat (w32 (v2 - 1)).toNat).toNat) (fun (r_57 : Int) => P_G_mayGo n C v0 (C (PT (PT v0.toNat 17).toNat v1.toNat).toNat (w32 (v2 - 1)).toNat) (C (PT (PT v0.toNat 17).toNat v1.toNat).toNat v2.toNat) r_57 (fun (_ : Int) (C_61 : Cn) => ∃ f_65 : Nat, lp (B_G_steps1_121 n v0 v1 v2 kz54 kz64 Q) f_65 (C_61, 0)))))))))))))))))))))
theorem bB_G_steps1_64 (n : Nat) (v0 v1 : Int) (kz54 : Cn × Int → Prop) (Q : Int → Cn → Prop) (hkz54 : ∀ (Cz : Cn) (z1 : Int), kz54 (Cz, z1) → AW p l e R s m args below meth c E M_G_steps1 true (fun r C2 n2 => n2 = n ∧ Q r C2) n 0 0 54 [(2, v0), (0, z1), (9, 0), (9, 0)] [] Cz) (kz64 : Cn × Int → Prop) (hkz64 : ∀ (Cz : Cn) (z2 : Int), kz64 (Cz, z2) → AW p l e R s m args below meth c E M_G_steps1 true (fun r C2 n2 => n2 = n ∧ Q r C2) n 0 0 64 [(2, v0), (0, v1), (0, z2), (9, 0)] [] Cz) (C : Cn) (v2 : Int) (h : B_G_steps1_64 n v0 v1 kz54 Q kz64 (C, v2)) : AW p l e R s m args below meth c E M_G_steps1 true (fun r C2 n2 => n2 = n ∧ Q r C2) n 0 0 64 [(2, v0), (0, v1), (0, v2), (9, 0)] [] C := by
  unfold B_G_steps1_64 at h
  dsimp only at h
  refine AW.iload_n (dc hd_G_steps1 36 rfl) rfl ?_
  refine AW.ra_n (dc hd_G_steps1 37 rfl) rfl rfl rfl ?_
  obtain ⟨g_5, h⟩ := h
  refine AW.getp fl_10_40 (dc hd_G_steps1 38 rfl) g_5 rfl ?_
  refine AW.iload_n (dc hd_G_steps1 39 rfl) rfl ?_
  obtain ⟨g_6, h⟩ := h
  obtain ⟨g_7, h⟩ := h
  refine AW.iald (dc hd_G_steps1 40 rfl) g_6 g_7 ?_
  refine AW.icmp_gt (t := 206) (dc hd_G_steps1 41 rfl) (by decide) (fun c_8 => ?_) (fun c_8 => ?_)
  · have h := h.1 c_8
    refine AW.iinc [(2, v0), (0, w32 (v1 + 1)), (0, v2), (9, 0)] (dc hd_G_steps1 128 rfl) rfl (Nat.le_of_ble_eq_true rfl) rfl rfl ?_
    refine AW.goto (t := 54) (dc hd_G_steps1 129 rfl) (by decide) ?_
    refine AW.fgt [(2, v0), (0, w32 (v1 + 1)), (9, 0), (9, 0)] ⟨.inl rfl, .inl rfl, .inr rfl, .inl rfl, trivial⟩ ?_
    exact hkz54 C (w32 (v1 + 1)) h
  · have h := h.2 c_8
    refine AW.iload_n (dc hd_G_steps1 42 rfl) rfl ?_
    refine AW.if_le (t := 119) (dc hd_G_steps1 43 rfl) (by decide) (fun c_9 => ?_) (fun c_9 => ?_)
    · have h := h.1 c_9
      refine AW.iconst (dc hd_G_steps1 73 rfl) (by decide) ?_
      refine AW.istore_n [(2, v0), (0, v1), (0, v2), (0, 0)] (dc hd_G_steps1 74 rfl) (Nat.le_of_ble_eq_true rfl) rfl rfl ?_
      obtain ⟨f_45, h⟩ := h
      exact aB_G_steps1_121 n v0 v1 v2 kz54 kz64 Q hkz54 hkz64 f_45 (C, 0) h
    · have h := h.2 c_9
      refine AW.ra_n (dc hd_G_steps1 44 rfl) rfl rfl rfl ?_
      refine AW.ra_n (dc hd_G_steps1 45 rfl) rfl rfl rfl ?_
      refine AW.getp fl_10_46 (dc hd_G_steps1 46 rfl) g_5 rfl ?_
      refine AW.iload_n (dc hd_G_steps1 47 rfl) rfl ?_
      obtain ⟨g_46, h⟩ := h
      obtain ⟨g_47, h⟩ := h
      refine AW.aaldp (by decide) (dc hd_G_steps1 48 rfl) g_46 g_47 rfl ?_
      refine AW.iload_n (dc hd_G_steps1 49 rfl) rfl ?_
      refine AW.iconst (dc hd_G_steps1 50 rfl) (by decide) ?_
      refine AW.isub (dc hd_G_steps1 51 rfl) ?_
      obtain ⟨g_48, h⟩ := h
      obtain ⟨g_49, h⟩ := h
      refine AW.iald (dc hd_G_steps1 52 rfl) g_48 g_49 ?_
      refine AW.ra_n (dc hd_G_steps1 53 rfl) rfl rfl rfl ?_
      refine AW.getp fl_10_46 (dc hd_G_steps1 54 rfl) g_5 rfl ?_
      refine AW.iload_n (dc hd_G_steps1 55 rfl) rfl ?_
      refine AW.aaldp (by decide) (dc hd_G_steps1 56 rfl) g_46 g_47 rfl ?_
      refine AW.iload_n (dc hd_G_steps1 57 rfl) rfl ?_
      obtain ⟨g_50, h⟩ := h
      refine AW.iald (dc hd_G_steps1 58 rfl) g_48 g_50 ?_
      refine AW.ra_n (dc hd_G_steps1 59 rfl) rfl rfl rfl ?_
      refine AW.ra_n (dc hd_G_steps1 60 rfl) rfl rfl rfl ?_
      refine AW.getp fl_10_11 (dc hd_G_steps1 61 rfl) g_5 rfl ?_
      refine AW.ra_n (dc hd_G_steps1 62 rfl) rfl rfl rfl ?_
      refine AW.getp fl_10_43 (dc hd_G_steps1 63 rfl) g_5 rfl ?_
      refine AW.iload_n (dc hd_G_steps1 64 rfl) rfl ?_
      obtain ⟨g_51, h⟩ := h
      obtain ⟨g_52, h⟩ := h
      refine AW.aaldp (by decide) (dc hd_G_steps1 65 rfl) g_51 g_52 rfl ?_
      refine AW.iload_n (dc hd_G_steps1 66 rfl) rfl ?_
      refine AW.iconst (dc hd_G_steps1 67 rfl) (by decide) ?_
      refine AW.isub (dc hd_G_steps1 68 rfl) ?_
      obtain ⟨g_53, h⟩ := h
      obtain ⟨g_54, h⟩ := h
      refine AW.iald (dc hd_G_steps1 69 rfl) g_53 g_54 ?_
      obtain ⟨g_55, h⟩ := h
      obtain ⟨g_56, h⟩ := h
      refine AW.aaldp (by decide) (dc hd_G_steps1 70 rfl) g_55 g_56 rfl ?_
      refine AW.callV (As := [(2, PT (PT v0.toNat 1).toNat (C (PT (PT v0.toNat 16).toNat v1.toNat).toNat (w32 (v2 - 1)).toNat).toNat)]) (rest := [(0, C (PT (PT v0.toNat 17).toNat v1.toNat).toNat v2.toNat), (0, C (PT (PT v0.toNat 17).toNat v1.toNat).toNat (w32 (v2 - 1)).toNat), (2, v0)]) (ci := 10) (m_G_toll l E n C v0 (PT (PT v0.toNat 1).toNat (C (PT (PT v0.toNat 16).toNat v1.toNat).toNat (w32 (v2 - 1)).toNat).toNat) _ h) cb_10_207 im_G_toll se_G_toll ⟨_, _, rfl⟩ (by decide) (dc hd_G_steps1 71 rfl) g_5 rfl rfl ⟨Nat.le_of_ble_eq_true rfl, Nat.le_of_ble_eq_true rfl⟩ ⟨(Nat.le_of_ble_eq_true rfl), (Nat.le_of_ble_eq_true rfl)⟩ (Nat.le_of_ble_eq_true rfl) (fun _ h => by cases h) (fun _ => rfl) (fun r_57 D_59 d_60 q_58 => ?_)
      obtain ⟨q_58a, q_58b, h⟩ := q_58
      subst D_59
      subst d_60
      show AW p l e _ s m args below meth c E M_G_steps1 true _ n _ _ _ [(2, v0), (0, v1), (0, v2), (9, 0)] [(0, r_57), (0, C (PT (PT v0.toNat 17).toNat v1.toNat).toNat v2.toNat), (0, C (PT (PT v0.toNat 17).toNat v1.toNat).toNat (w32 (v2 - 1)).toNat), (2, v0)] C
      refine AW.callV (As := [(0, C (PT (PT v0.toNat 17).toNat v1.toNat).toNat (w32 (v2 - 1)).toNat), (0, C (PT (PT v0.toNat 17).toNat v1.toNat).toNat v2.toNat), (0, r_57)]) (rest := []) (ci := 10) (m_G_mayGo l E n C v0 (C (PT (PT v0.toNat 17).toNat v1.toNat).toNat (w32 (v2 - 1)).toNat) (C (PT (PT v0.toNat 17).toNat v1.toNat).toNat v2.toNat) r_57 _ h) cb_10_340 im_G_mayGo se_G_mayGo ⟨_, _, rfl⟩ (by decide) (dc hd_G_steps1 72 rfl) g_5 rfl rfl ⟨Nat.le_of_ble_eq_true rfl, Nat.le_of_ble_eq_true rfl⟩ ⟨(Nat.le_of_ble_eq_true rfl), (Nat.le_of_ble_eq_true rfl)⟩ (Nat.le_of_ble_eq_true rfl) (fun _ h => by cases h) (fun _ => rfl) (fun u_63 C_61 d_64 q_62 => ?_)
      obtain ⟨q_62a, h⟩ := q_62
      subst d_64
      show AW p l e _ s m args below meth c E M_G_steps1 true _ n _ _ _ [(2, v0), (0, v1), (0, v2), (9, 0)] [] C_61
      refine AW.iconst (dc hd_G_steps1 73 rfl) (by decide) ?_
      refine AW.istore_n [(2, v0), (0, v1), (0, v2), (0, 0)] (dc hd_G_steps1 74 rfl) (Nat.le_of_ble_eq_true rfl) rfl rfl ?_
      obtain ⟨f_65, h⟩ := h
      exact aB_G_steps1_121 n v0 v1 v2 kz54 kz64 Q hkz54 hkz64 f_65 (C_61, 0) h
theorem aB_G_steps1_64 (n : Nat) (v0 v1 : Int) (kz54 : Cn × Int → Prop) (Q : Int → Cn → Prop) (hkz54 : ∀ (Cz : Cn) (z1 : Int), kz54 (Cz, z1) → AW p l e R s m args below meth c E M_G_steps1 true (fun r C2 n2 => n2 = n ∧ Q r C2) n 0 0 54 [(2, v0), (0, z1), (9, 0), (9, 0)] [] Cz) : ∀ (f : Nat) (z : Cn × Int), lp (B_G_steps1_64 n v0 v1 kz54 Q) f z → AW p l e R s m args below meth c E M_G_steps1 true (fun r C2 n2 => n2 = n ∧ Q r C2) n 0 0 64 [(2, v0), (0, v1), (0, z.2), (9, 0)] [] (z.1) := by
  intro f
  induction f with
  | zero => intro z h; exact False.elim h
  | succ f ih => intro z h; exact bB_G_steps1_64 n v0 v1 kz54 Q hkz54 (lp (B_G_steps1_64 n v0 v1 kz54 Q) f) (fun a0 a1 h => ih (a0, a1) h) z.1 z.2 h
def B_G_steps1_54 (n : Nat) (v0 : Int) (Q : Int → Cn → Prop) (kz54 : Cn × Int → Prop) (z : Cn × Int) : Prop := match z with
  | (C, v1) => okO n v0 10 ∧ ((C v0.toNat 10 < v1 → (Q 0 C)) ∧ (¬ C v0.toNat 10 < v1 → (∃ f_66 : Nat, lp (B_G_steps1_64 n v0 v1 kz54 Q) f_66 (C, 0))))
theorem bB_G_steps1_54 (n : Nat) (v0 : Int) (Q : Int → Cn → Prop) (kz54 : Cn × Int → Prop) (hkz54 : ∀ (Cz : Cn) (z1 : Int), kz54 (Cz, z1) → AW p l e R s m args below meth c E M_G_steps1 true (fun r C2 n2 => n2 = n ∧ Q r C2) n 0 0 54 [(2, v0), (0, z1), (9, 0), (9, 0)] [] Cz) (C : Cn) (v1 : Int) (h : B_G_steps1_54 n v0 Q kz54 (C, v1)) : AW p l e R s m args below meth c E M_G_steps1 true (fun r C2 n2 => n2 = n ∧ Q r C2) n 0 0 54 [(2, v0), (0, v1), (9, 0), (9, 0)] [] C := by
  unfold B_G_steps1_54 at h
  dsimp only at h
  refine AW.iload_n (dc hd_G_steps1 30 rfl) rfl ?_
  refine AW.ra_n (dc hd_G_steps1 31 rfl) rfl rfl rfl ?_
  obtain ⟨g_3, h⟩ := h
  refine AW.getf fl_10_221 (dc hd_G_steps1 32 rfl) g_3 ?_
  refine AW.icmp_gt (t := 212) (dc hd_G_steps1 33 rfl) (by decide) (fun c_4 => ?_) (fun c_4 => ?_)
  · have h := h.1 c_4
    exact AW.vret (dc hd_G_steps1 130 rfl) rfl rfl (Nat.le_of_ble_eq_true rfl) (Nat.le_of_ble_eq_true rfl) ⟨rfl, h⟩
  · have h := h.2 c_4
    refine AW.iconst (dc hd_G_steps1 34 rfl) (by decide) ?_
    refine AW.istore_n [(2, v0), (0, v1), (0, 0), (9, 0)] (dc hd_G_steps1 35 rfl) (Nat.le_of_ble_eq_true rfl) rfl rfl ?_
    obtain ⟨f_66, h⟩ := h
    exact aB_G_steps1_64 n v0 v1 kz54 Q hkz54 f_66 (C, 0) h
theorem aB_G_steps1_54 (n : Nat) (v0 : Int) (Q : Int → Cn → Prop) : ∀ (f : Nat) (z : Cn × Int), lp (B_G_steps1_54 n v0 Q) f z → AW p l e R s m args below meth c E M_G_steps1 true (fun r C2 n2 => n2 = n ∧ Q r C2) n 0 0 54 [(2, v0), (0, z.2), (9, 0), (9, 0)] [] (z.1) := by
  intro f
  induction f with
  | zero => intro z h; exact False.elim h
  | succ f ih => intro z h; exact bB_G_steps1_54 n v0 Q (lp (B_G_steps1_54 n v0 Q) f) (fun a0 a1 h => ih (a0, a1) h) z.1 z.2 h
def B_G_steps1_12 (n : Nat) (v0 v1 : Int) (kz2 : Cn × Int → Prop) (Q : Int → Cn → Prop) (kz12 : Cn × Int → Prop) (z : Cn × Int) : Prop := match z with
  | (C, v2) => okO n v0 10 ∧ ((C v0.toNat 18 ≤ v2 → (kz2 (C, w32 (v1 + 1)))) ∧ (¬ C v0.toNat 18 ≤ v2 → (okO n (PT v0.toNat 32) 17 ∧ (okI (PT v0.toNat 32) v1 ∧ ((v1 = v2 → (okO n (PT (PT v0.toNat 32).toNat v1.toNat) 12 ∧ (okI (PT (PT v0.toNat 32).toNat v1.toNat) v2 ∧ (∀ C_78 : Cn, C_78 = wr C (PT (PT v0.toNat 32).toNat v1.toNat).toNat v2.toNat 0 → (kz12 (C_78, w32 (v2 + 1))))))) ∧ (¬ v1 = v2 → (okO n (PT (PT v0.toNat 32).toNat v1.toNat) 12 ∧ (okI (PT (PT v0.toNat 32).toNat v1.toNat) v2 ∧ (∀ C_75 : Cn, C_75 = wr C (PT (PT v0.toNat 32).toNat v1.toNat).toNat v2.toNat 1000000 → (kz12 (C_75, w32 (v2 + 1))))))))))))
theorem bB_G_steps1_12 (n : Nat) (v0 v1 : Int) (kz2 : Cn × Int → Prop) (Q : Int → Cn → Prop) (hkz2 : ∀ (Cz : Cn) (z1 : Int), kz2 (Cz, z1) → AW p l e R s m args below meth c E M_G_steps1 true (fun r C2 n2 => n2 = n ∧ Q r C2) n 0 0 2 [(2, v0), (0, z1), (9, 0), (9, 0)] [] Cz) (kz12 : Cn × Int → Prop) (hkz12 : ∀ (Cz : Cn) (z2 : Int), kz12 (Cz, z2) → AW p l e R s m args below meth c E M_G_steps1 true (fun r C2 n2 => n2 = n ∧ Q r C2) n 0 0 12 [(2, v0), (0, v1), (0, z2), (9, 0)] [] Cz) (C : Cn) (v2 : Int) (h : B_G_steps1_12 n v0 v1 kz2 Q kz12 (C, v2)) : AW p l e R s m args below meth c E M_G_steps1 true (fun r C2 n2 => n2 = n ∧ Q r C2) n 0 0 12 [(2, v0), (0, v1), (0, v2), (9, 0)] [] C := by
  unfold B_G_steps1_12 at h
  dsimp only at h
  refine AW.iload_n (dc hd_G_steps1 8 rfl) rfl ?_
  refine AW.ra_n (dc hd_G_steps1 9 rfl) rfl rfl rfl ?_
  obtain ⟨g_68, h⟩ := h
  refine AW.getf fl_10_214 (dc hd_G_steps1 10 rfl) g_68 ?_
  refine AW.icmp_ge (t := 46) (dc hd_G_steps1 11 rfl) (by decide) (fun c_69 => ?_) (fun c_69 => ?_)
  · have h := h.1 c_69
    refine AW.iinc [(2, v0), (0, w32 (v1 + 1)), (0, v2), (9, 0)] (dc hd_G_steps1 26 rfl) rfl (Nat.le_of_ble_eq_true rfl) rfl rfl ?_
    refine AW.goto (t := 2) (dc hd_G_steps1 27 rfl) (by decide) ?_
    refine AW.fgt [(2, v0), (0, w32 (v1 + 1)), (9, 0), (9, 0)] ⟨.inl rfl, .inl rfl, .inr rfl, .inl rfl, trivial⟩ ?_
    exact hkz2 C (w32 (v1 + 1)) h
  · have h := h.2 c_69
    refine AW.ra_n (dc hd_G_steps1 12 rfl) rfl rfl rfl ?_
    refine AW.getp fl_10_70 (dc hd_G_steps1 13 rfl) g_68 rfl ?_
    refine AW.iload_n (dc hd_G_steps1 14 rfl) rfl ?_
    obtain ⟨g_70, h⟩ := h
    obtain ⟨g_71, h⟩ := h
    refine AW.aaldp (by decide) (dc hd_G_steps1 15 rfl) g_70 g_71 rfl ?_
    refine AW.iload_n (dc hd_G_steps1 16 rfl) rfl ?_
    refine AW.iload_n (dc hd_G_steps1 17 rfl) rfl ?_
    refine AW.iload_n (dc hd_G_steps1 18 rfl) rfl ?_
    refine AW.icmp_ne (t := 36) (dc hd_G_steps1 19 rfl) (by decide) (fun c_72 => ?_) (fun c_72 => ?_)
    · have h := h.2 c_72
      refine AW.ldc_w (v := 1000000) (dc hd_G_steps1 22 rfl) ck_10_339 (by decide) rfl ?_
      obtain ⟨g_73, h⟩ := h
      obtain ⟨g_74, h⟩ := h
      refine AW.niast (dc hd_G_steps1 23 rfl) g_73 g_74 (fun C_75 eC_75 => ?_)
      have h := h C_75 eC_75
      refine AW.iinc [(2, v0), (0, v1), (0, w32 (v2 + 1)), (9, 0)] (dc hd_G_steps1 24 rfl) rfl (Nat.le_of_ble_eq_true rfl) rfl rfl ?_
      refine AW.goto (t := 12) (dc hd_G_steps1 25 rfl) (by decide) ?_
      exact hkz12 C_75 (w32 (v2 + 1)) h
    · have h := h.1 c_72
      refine AW.iconst (dc hd_G_steps1 20 rfl) (by decide) ?_
      refine AW.goto (t := 39) (dc hd_G_steps1 21 rfl) (by decide) ?_
      obtain ⟨g_76, h⟩ := h
      obtain ⟨g_77, h⟩ := h
      refine AW.niast (dc hd_G_steps1 23 rfl) g_76 g_77 (fun C_78 eC_78 => ?_)
      have h := h C_78 eC_78
      refine AW.iinc [(2, v0), (0, v1), (0, w32 (v2 + 1)), (9, 0)] (dc hd_G_steps1 24 rfl) rfl (Nat.le_of_ble_eq_true rfl) rfl rfl ?_
      refine AW.goto (t := 12) (dc hd_G_steps1 25 rfl) (by decide) ?_
      exact hkz12 C_78 (w32 (v2 + 1)) h
theorem aB_G_steps1_12 (n : Nat) (v0 v1 : Int) (kz2 : Cn × Int → Prop) (Q : Int → Cn → Prop) (hkz2 : ∀ (Cz : Cn) (z1 : Int), kz2 (Cz, z1) → AW p l e R s m args below meth c E M_G_steps1 true (fun r C2 n2 => n2 = n ∧ Q r C2) n 0 0 2 [(2, v0), (0, z1), (9, 0), (9, 0)] [] Cz) : ∀ (f : Nat) (z : Cn × Int), lp (B_G_steps1_12 n v0 v1 kz2 Q) f z → AW p l e R s m args below meth c E M_G_steps1 true (fun r C2 n2 => n2 = n ∧ Q r C2) n 0 0 12 [(2, v0), (0, v1), (0, z.2), (9, 0)] [] (z.1) := by
  intro f
  induction f with
  | zero => intro z h; exact False.elim h
  | succ f ih => intro z h; exact bB_G_steps1_12 n v0 v1 kz2 Q hkz2 (lp (B_G_steps1_12 n v0 v1 kz2 Q) f) (fun a0 a1 h => ih (a0, a1) h) z.1 z.2 h
def B_G_steps1_2 (n : Nat) (v0 : Int) (Q : Int → Cn → Prop) (kz2 : Cn × Int → Prop) (z : Cn × Int) : Prop := match z with
  | (C, v1) => okO n v0 10 ∧ ((C v0.toNat 18 ≤ v1 → (∃ f_67 : Nat, lp (B_G_steps1_54 n v0 Q) f_67 (C, 0))) ∧ (¬ C v0.toNat 18 ≤ v1 → (∃ f_79 : Nat, lp (B_G_steps1_12 n v0 v1 kz2 Q) f_79 (C, 0))))
theorem bB_G_steps1_2 (n : Nat) (v0 : Int) (Q : Int → Cn → Prop) (kz2 : Cn × Int → Prop) (hkz2 : ∀ (Cz : Cn) (z1 : Int), kz2 (Cz, z1) → AW p l e R s m args below meth c E M_G_steps1 true (fun r C2 n2 => n2 = n ∧ Q r C2) n 0 0 2 [(2, v0), (0, z1), (9, 0), (9, 0)] [] Cz) (C : Cn) (v1 : Int) (h : B_G_steps1_2 n v0 Q kz2 (C, v1)) : AW p l e R s m args below meth c E M_G_steps1 true (fun r C2 n2 => n2 = n ∧ Q r C2) n 0 0 2 [(2, v0), (0, v1), (9, 0), (9, 0)] [] C := by
  unfold B_G_steps1_2 at h
  dsimp only at h
  refine AW.iload_n (dc hd_G_steps1 2 rfl) rfl ?_
  refine AW.ra_n (dc hd_G_steps1 3 rfl) rfl rfl rfl ?_
  obtain ⟨g_1, h⟩ := h
  refine AW.getf fl_10_214 (dc hd_G_steps1 4 rfl) g_1 ?_
  refine AW.icmp_ge (t := 52) (dc hd_G_steps1 5 rfl) (by decide) (fun c_2 => ?_) (fun c_2 => ?_)
  · have h := h.1 c_2
    refine AW.iconst (dc hd_G_steps1 28 rfl) (by decide) ?_
    refine AW.istore_n [(2, v0), (0, 0), (9, 0), (9, 0)] (dc hd_G_steps1 29 rfl) (Nat.le_of_ble_eq_true rfl) rfl rfl ?_
    obtain ⟨f_67, h⟩ := h
    exact aB_G_steps1_54 n v0 Q f_67 (C, 0) h
  · have h := h.2 c_2
    refine AW.iconst (dc hd_G_steps1 6 rfl) (by decide) ?_
    refine AW.istore_n [(2, v0), (0, v1), (0, 0), (9, 0)] (dc hd_G_steps1 7 rfl) (Nat.le_of_ble_eq_true rfl) rfl rfl ?_
    obtain ⟨f_79, h⟩ := h
    exact aB_G_steps1_12 n v0 v1 kz2 Q hkz2 f_79 (C, 0) h
theorem aB_G_steps1_2 (n : Nat) (v0 : Int) (Q : Int → Cn → Prop) : ∀ (f : Nat) (z : Cn × Int), lp (B_G_steps1_2 n v0 Q) f z → AW p l e R s m args below meth c E M_G_steps1 true (fun r C2 n2 => n2 = n ∧ Q r C2) n 0 0 2 [(2, v0), (0, z.2), (9, 0), (9, 0)] [] (z.1) := by
  intro f
  induction f with
  | zero => intro z h; exact False.elim h
  | succ f ih => intro z h; exact bB_G_steps1_2 n v0 Q (lp (B_G_steps1_2 n v0 Q) f) (fun a0 a1 h => ih (a0, a1) h) z.1 z.2 h
def P_G_steps1 (n : Nat) (C : Cn) (v0 : Int) (Q : Int → Cn → Prop) : Prop :=
  ∃ f_80 : Nat, lp (B_G_steps1_2 n v0 Q) f_80 (C, 0)
theorem m_G_steps1 (l : Launch) (E : Ev) (n : Nat) (C : Cn) (v0 : Int) (Q : Int → Cn → Prop) (h : P_G_steps1 n C v0 Q) : MA l y_G_steps1 M_G_steps1 E true C n [(2, v0)] (fun r C2 n2 => n2 = n ∧ Q r C2) := by
  refine MA.of (by decide) rfl rfl 3 rfl (fun p e s m args below meth c => ?_)
  show AW p l e _ s m args below meth c E M_G_steps1 true _ n 0 0 0 [(2, v0), (9, 0), (9, 0), (9, 0)] [] C
  unfold P_G_steps1 at h
  refine AW.iconst (dc hd_G_steps1 0 rfl) (by decide) ?_
  refine AW.istore_n [(2, v0), (0, 0), (9, 0), (9, 0)] (dc hd_G_steps1 1 rfl) (Nat.le_of_ble_eq_true rfl) rfl rfl ?_
  obtain ⟨f_80, h⟩ := h
  exact aB_G_steps1_2 n v0 Q f_80 (C, 0) h
def B_G_costs_78 (n : Nat) (v0 v1 v2 : Int) (kz58 : Cn × Int → Prop) (kz68 : Cn × Int → Prop) (Q : Int → Cn → Prop) (kz78 : Cn × Int → Prop) (z : Cn × Int) : Prop := match z with
  | (C, v3) => okO n v0 10 ∧ ((C v0.toNat 18 ≤ v3 → (kz68 (C, w32 (v2 + 1)))) ∧ (¬ C v0.toNat 18 ≤ v3 → (okO n (PT v0.toNat 32) 17 ∧ (okI (PT v0.toNat 32) v2 ∧ (okO n (PT (PT v0.toNat 32).toNat v2.toNat) 12 ∧ (okI (PT (PT v0.toNat 32).toNat v2.toNat) v3 ∧ (okI (PT (PT v0.toNat 32).toNat v2.toNat) v1 ∧ (okI (PT v0.toNat 32) v1 ∧ (okO n (PT (PT v0.toNat 32).toNat v1.toNat) 12 ∧ (okI (PT (PT v0.toNat 32).toNat v1.toNat) v3 ∧ (∀ C_26 : Cn, C_26 = wr C (PT (PT v0.toNat 32).toNat v2.toNat).toNat v3.toNat (imin (C (PT (PT v0.toNat 32).toNat v2.toNat).toNat v3.toNat) (w32 (C (PT (PT v0.toNat 32).toNat v2.toNat).toNat v1.toNat + C (PT (PT v0.toNat 32).toNat v1.toNat).toNat v3.toNat))) → (kz78 (C_26, w32 (v3 + 1))))))))))))))
theorem bB_G_costs_78 (n : Nat) (v0 v1 v2 : Int) (kz58 : Cn × Int → Prop) (kz68 : Cn × Int → Prop) (Q : Int → Cn → Prop) (hkz58 : ∀ (Cz : Cn) (z1 : Int), kz58 (Cz, z1) → AW p l e R s m args below meth c E M_G_costs true (fun r C2 n2 => n2 = n ∧ Q r C2) n 0 0 58 [(2, v0), (0, z1), (9, 0), (9, 0)] [] Cz) (hkz68 : ∀ (Cz : Cn) (z2 : Int), kz68 (Cz, z2) → AW p l e R s m args below meth c E M_G_costs true (fun r C2 n2 => n2 = n ∧ Q r C2) n 0 0 68 [(2, v0), (0, v1), (0, z2), (9, 0)] [] Cz) (kz78 : Cn × Int → Prop) (hkz78 : ∀ (Cz : Cn) (z3 : Int), kz78 (Cz, z3) → AW p l e R s m args below meth c E M_G_costs true (fun r C2 n2 => n2 = n ∧ Q r C2) n 0 0 78 [(2, v0), (0, v1), (0, v2), (0, z3)] [] Cz) (C : Cn) (v3 : Int) (h : B_G_costs_78 n v0 v1 v2 kz58 kz68 Q kz78 (C, v3)) : AW p l e R s m args below meth c E M_G_costs true (fun r C2 n2 => n2 = n ∧ Q r C2) n 0 0 78 [(2, v0), (0, v1), (0, v2), (0, v3)] [] C := by
  unfold B_G_costs_78 at h
  dsimp only at h
  refine AW.iload_n (dc hd_G_costs 46 rfl) rfl ?_
  refine AW.ra_n (dc hd_G_costs 47 rfl) rfl rfl rfl ?_
  obtain ⟨g_16, h⟩ := h
  refine AW.getf fl_10_214 (dc hd_G_costs 48 rfl) g_16 ?_
  refine AW.icmp_ge (t := 128) (dc hd_G_costs 49 rfl) (by decide) (fun c_17 => ?_) (fun c_17 => ?_)
  · have h := h.1 c_17
    refine AW.iinc [(2, v0), (0, v1), (0, w32 (v2 + 1)), (0, v3)] (dc hd_G_costs 78 rfl) rfl (Nat.le_of_ble_eq_true rfl) rfl rfl ?_
    refine AW.goto (t := 68) (dc hd_G_costs 79 rfl) (by decide) ?_
    refine AW.fgt [(2, v0), (0, v1), (0, w32 (v2 + 1)), (9, 0)] ⟨.inl rfl, .inl rfl, .inl rfl, .inr rfl, trivial⟩ ?_
    exact hkz68 C (w32 (v2 + 1)) h
  · have h := h.2 c_17
    refine AW.ra_n (dc hd_G_costs 50 rfl) rfl rfl rfl ?_
    refine AW.getp fl_10_70 (dc hd_G_costs 51 rfl) g_16 rfl ?_
    refine AW.iload_n (dc hd_G_costs 52 rfl) rfl ?_
    obtain ⟨g_18, h⟩ := h
    obtain ⟨g_19, h⟩ := h
    refine AW.aaldp (by decide) (dc hd_G_costs 53 rfl) g_18 g_19 rfl ?_
    refine AW.iload_n (dc hd_G_costs 54 rfl) rfl ?_
    refine AW.ra_n (dc hd_G_costs 55 rfl) rfl rfl rfl ?_
    refine AW.getp fl_10_70 (dc hd_G_costs 56 rfl) g_16 rfl ?_
    refine AW.iload_n (dc hd_G_costs 57 rfl) rfl ?_
    refine AW.aaldp (by decide) (dc hd_G_costs 58 rfl) g_18 g_19 rfl ?_
    refine AW.iload_n (dc hd_G_costs 59 rfl) rfl ?_
    obtain ⟨g_20, h⟩ := h
    obtain ⟨g_21, h⟩ := h
    refine AW.iald (dc hd_G_costs 60 rfl) g_20 g_21 ?_
    refine AW.ra_n (dc hd_G_costs 61 rfl) rfl rfl rfl ?_
    refine AW.getp fl_10_70 (dc hd_G_costs 62 rfl) g_16 rfl ?_
    refine AW.iload_n (dc hd_G_costs 63 rfl) rfl ?_
    refine AW.aaldp (by decide) (dc hd_G_costs 64 rfl) g_18 g_19 rfl ?_
    refine AW.iload_n (dc hd_G_costs 65 rfl) rfl ?_
    obtain ⟨g_22, h⟩ := h
    refine AW.iald (dc hd_G_costs 66 rfl) g_20 g_22 ?_
    refine AW.ra_n (dc hd_G_costs 67 rfl) rfl rfl rfl ?_
    refine AW.getp fl_10_70 (dc hd_G_costs 68 rfl) g_16 rfl ?_
    refine AW.iload_n (dc hd_G_costs 69 rfl) rfl ?_
    obtain ⟨g_23, h⟩ := h
    refine AW.aaldp (by decide) (dc hd_G_costs 70 rfl) g_18 g_23 rfl ?_
    refine AW.iload_n (dc hd_G_costs 71 rfl) rfl ?_
    obtain ⟨g_24, h⟩ := h
    obtain ⟨g_25, h⟩ := h
    refine AW.iald (dc hd_G_costs 72 rfl) g_24 g_25 ?_
    refine AW.iadd (dc hd_G_costs 73 rfl) ?_
    refine AW.mmin (dc hd_G_costs 74 rfl) mt_10_346 (Nat.le_of_ble_eq_true rfl) (Nat.le_of_ble_eq_true rfl) (Nat.le_of_ble_eq_true rfl) (Nat.le_of_ble_eq_true rfl) (Nat.le_of_ble_eq_true rfl) ?_
    refine AW.niast (dc hd_G_costs 75 rfl) g_20 g_21 (fun C_26 eC_26 => ?_)
    have h := h C_26 eC_26
    refine AW.iinc [(2, v0), (0, v1), (0, v2), (0, w32 (v3 + 1))] (dc hd_G_costs 76 rfl) rfl (Nat.le_of_ble_eq_true rfl) rfl rfl ?_
    refine AW.goto (t := 78) (dc hd_G_costs 77 rfl) (by decide) ?_
    exact hkz78 C_26 (w32 (v3 + 1)) h
theorem aB_G_costs_78 (n : Nat) (v0 v1 v2 : Int) (kz58 : Cn × Int → Prop) (kz68 : Cn × Int → Prop) (Q : Int → Cn → Prop) (hkz58 : ∀ (Cz : Cn) (z1 : Int), kz58 (Cz, z1) → AW p l e R s m args below meth c E M_G_costs true (fun r C2 n2 => n2 = n ∧ Q r C2) n 0 0 58 [(2, v0), (0, z1), (9, 0), (9, 0)] [] Cz) (hkz68 : ∀ (Cz : Cn) (z2 : Int), kz68 (Cz, z2) → AW p l e R s m args below meth c E M_G_costs true (fun r C2 n2 => n2 = n ∧ Q r C2) n 0 0 68 [(2, v0), (0, v1), (0, z2), (9, 0)] [] Cz) : ∀ (f : Nat) (z : Cn × Int), lp (B_G_costs_78 n v0 v1 v2 kz58 kz68 Q) f z → AW p l e R s m args below meth c E M_G_costs true (fun r C2 n2 => n2 = n ∧ Q r C2) n 0 0 78 [(2, v0), (0, v1), (0, v2), (0, z.2)] [] (z.1) := by
  intro f
  induction f with
  | zero => intro z h; exact False.elim h
  | succ f ih => intro z h; exact bB_G_costs_78 n v0 v1 v2 kz58 kz68 Q hkz58 hkz68 (lp (B_G_costs_78 n v0 v1 v2 kz58 kz68 Q) f) (fun a0 a1 h => ih (a0, a1) h) z.1 z.2 h
def B_G_costs_68 (n : Nat) (v0 v1 : Int) (kz58 : Cn × Int → Prop) (Q : Int → Cn → Prop) (kz68 : Cn × Int → Prop) (z : Cn × Int) : Prop := match z with
  | (C, v2) => okO n v0 10 ∧ ((C v0.toNat 18 ≤ v2 → (kz58 (C, w32 (v1 + 1)))) ∧ (¬ C v0.toNat 18 ≤ v2 → (∃ f_27 : Nat, lp (B_G_costs_78 n v0 v1 v2 kz58 kz68 Q) f_27 (C, 0))))
theorem bB_G_costs_68 (n : Nat) (v0 v1 : Int) (kz58 : Cn × Int → Prop) (Q : Int → Cn → Prop) (hkz58 : ∀ (Cz : Cn) (z1 : Int), kz58 (Cz, z1) → AW p l e R s m args below meth c E M_G_costs true (fun r C2 n2 => n2 = n ∧ Q r C2) n 0 0 58 [(2, v0), (0, z1), (9, 0), (9, 0)] [] Cz) (kz68 : Cn × Int → Prop) (hkz68 : ∀ (Cz : Cn) (z2 : Int), kz68 (Cz, z2) → AW p l e R s m args below meth c E M_G_costs true (fun r C2 n2 => n2 = n ∧ Q r C2) n 0 0 68 [(2, v0), (0, v1), (0, z2), (9, 0)] [] Cz) (C : Cn) (v2 : Int) (h : B_G_costs_68 n v0 v1 kz58 Q kz68 (C, v2)) : AW p l e R s m args below meth c E M_G_costs true (fun r C2 n2 => n2 = n ∧ Q r C2) n 0 0 68 [(2, v0), (0, v1), (0, v2), (9, 0)] [] C := by
  unfold B_G_costs_68 at h
  dsimp only at h
  refine AW.iload_n (dc hd_G_costs 40 rfl) rfl ?_
  refine AW.ra_n (dc hd_G_costs 41 rfl) rfl rfl rfl ?_
  obtain ⟨g_14, h⟩ := h
  refine AW.getf fl_10_214 (dc hd_G_costs 42 rfl) g_14 ?_
  refine AW.icmp_ge (t := 134) (dc hd_G_costs 43 rfl) (by decide) (fun c_15 => ?_) (fun c_15 => ?_)
  · have h := h.1 c_15
    refine AW.iinc [(2, v0), (0, w32 (v1 + 1)), (0, v2), (9, 0)] (dc hd_G_costs 80 rfl) rfl (Nat.le_of_ble_eq_true rfl) rfl rfl ?_
    refine AW.goto (t := 58) (dc hd_G_costs 81 rfl) (by decide) ?_
    refine AW.fgt [(2, v0), (0, w32 (v1 + 1)), (9, 0), (9, 0)] ⟨.inl rfl, .inl rfl, .inr rfl, .inl rfl, trivial⟩ ?_
    exact hkz58 C (w32 (v1 + 1)) h
  · have h := h.2 c_15
    refine AW.iconst (dc hd_G_costs 44 rfl) (by decide) ?_
    refine AW.istore_n [(2, v0), (0, v1), (0, v2), (0, 0)] (dc hd_G_costs 45 rfl) (Nat.le_of_ble_eq_true rfl) rfl rfl ?_
    obtain ⟨f_27, h⟩ := h
    exact aB_G_costs_78 n v0 v1 v2 kz58 kz68 Q hkz58 hkz68 f_27 (C, 0) h
theorem aB_G_costs_68 (n : Nat) (v0 v1 : Int) (kz58 : Cn × Int → Prop) (Q : Int → Cn → Prop) (hkz58 : ∀ (Cz : Cn) (z1 : Int), kz58 (Cz, z1) → AW p l e R s m args below meth c E M_G_costs true (fun r C2 n2 => n2 = n ∧ Q r C2) n 0 0 58 [(2, v0), (0, z1), (9, 0), (9, 0)] [] Cz) : ∀ (f : Nat) (z : Cn × Int), lp (B_G_costs_68 n v0 v1 kz58 Q) f z → AW p l e R s m args below meth c E M_G_costs true (fun r C2 n2 => n2 = n ∧ Q r C2) n 0 0 68 [(2, v0), (0, v1), (0, z.2), (9, 0)] [] (z.1) := by
  intro f
  induction f with
  | zero => intro z h; exact False.elim h
  | succ f ih => intro z h; exact bB_G_costs_68 n v0 v1 kz58 Q hkz58 (lp (B_G_costs_68 n v0 v1 kz58 Q) f) (fun a0 a1 h => ih (a0, a1) h) z.1 z.2 h
def B_G_costs_58 (n : Nat) (v0 : Int) (Q : Int → Cn → Prop) (kz58 : Cn × Int → Prop) (z : Cn × Int) : Prop := match z with
  | (C, v1) => okO n v0 10 ∧ ((C v0.toNat 18 ≤ v1 → (Q 0 C)) ∧ (¬ C v0.toNat 18 ≤ v1 → (∃ f_28 : Nat, lp (B_G_costs_68 n v0 v1 kz58 Q) f_28 (C, 0))))
theorem bB_G_costs_58 (n : Nat) (v0 : Int) (Q : Int → Cn → Prop) (kz58 : Cn × Int → Prop) (hkz58 : ∀ (Cz : Cn) (z1 : Int), kz58 (Cz, z1) → AW p l e R s m args below meth c E M_G_costs true (fun r C2 n2 => n2 = n ∧ Q r C2) n 0 0 58 [(2, v0), (0, z1), (9, 0), (9, 0)] [] Cz) (C : Cn) (v1 : Int) (h : B_G_costs_58 n v0 Q kz58 (C, v1)) : AW p l e R s m args below meth c E M_G_costs true (fun r C2 n2 => n2 = n ∧ Q r C2) n 0 0 58 [(2, v0), (0, v1), (9, 0), (9, 0)] [] C := by
  unfold B_G_costs_58 at h
  dsimp only at h
  refine AW.iload_n (dc hd_G_costs 34 rfl) rfl ?_
  refine AW.ra_n (dc hd_G_costs 35 rfl) rfl rfl rfl ?_
  obtain ⟨g_12, h⟩ := h
  refine AW.getf fl_10_214 (dc hd_G_costs 36 rfl) g_12 ?_
  refine AW.icmp_ge (t := 140) (dc hd_G_costs 37 rfl) (by decide) (fun c_13 => ?_) (fun c_13 => ?_)
  · have h := h.1 c_13
    exact AW.vret (dc hd_G_costs 82 rfl) rfl rfl (Nat.le_of_ble_eq_true rfl) (Nat.le_of_ble_eq_true rfl) ⟨rfl, h⟩
  · have h := h.2 c_13
    refine AW.iconst (dc hd_G_costs 38 rfl) (by decide) ?_
    refine AW.istore_n [(2, v0), (0, v1), (0, 0), (9, 0)] (dc hd_G_costs 39 rfl) (Nat.le_of_ble_eq_true rfl) rfl rfl ?_
    obtain ⟨f_28, h⟩ := h
    exact aB_G_costs_68 n v0 v1 kz58 Q hkz58 f_28 (C, 0) h
theorem aB_G_costs_58 (n : Nat) (v0 : Int) (Q : Int → Cn → Prop) : ∀ (f : Nat) (z : Cn × Int), lp (B_G_costs_58 n v0 Q) f z → AW p l e R s m args below meth c E M_G_costs true (fun r C2 n2 => n2 = n ∧ Q r C2) n 0 0 58 [(2, v0), (0, z.2), (9, 0), (9, 0)] [] (z.1) := by
  intro f
  induction f with
  | zero => intro z h; exact False.elim h
  | succ f ih => intro z h; exact bB_G_costs_58 n v0 Q (lp (B_G_costs_58 n v0 Q) f) (fun a0 a1 h => ih (a0, a1) h) z.1 z.2 h
def B_G_costs_20 (n : Nat) (v0 v1 : Int) (kz10 : Cn × Int → Prop) (Q : Int → Cn → Prop) (kz20 : Cn × Int → Prop) (z : Cn × Int) : Prop := match z with
  | (C, v2) => okO n v0 10 ∧ ((C v0.toNat 18 ≤ v2 → (kz10 (C, w32 (v1 + 1)))) ∧ (¬ C v0.toNat 18 ≤ v2 → (okO n (PT v0.toNat 33) 17 ∧ (okI (PT v0.toNat 33) v1 ∧ (okO n (PT v0.toNat 32) 17 ∧ (okI (PT v0.toNat 32) v1 ∧ (okO n (PT (PT v0.toNat 32).toNat v1.toNat) 12 ∧ (okI (PT (PT v0.toNat 32).toNat v1.toNat) v2 ∧ (okO n (PT (PT v0.toNat 33).toNat v1.toNat) 12 ∧ (okI (PT (PT v0.toNat 33).toNat v1.toNat) v2 ∧ (∀ C_40 : Cn, C_40 = wr C (PT (PT v0.toNat 33).toNat v1.toNat).toNat v2.toNat (C (PT (PT v0.toNat 32).toNat v1.toNat).toNat v2.toNat) → (kz20 (C_40, w32 (v2 + 1))))))))))))))
theorem bB_G_costs_20 (n : Nat) (v0 v1 : Int) (kz10 : Cn × Int → Prop) (Q : Int → Cn → Prop) (hkz10 : ∀ (Cz : Cn) (z1 : Int), kz10 (Cz, z1) → AW p l e R s m args below meth c E M_G_costs true (fun r C2 n2 => n2 = n ∧ Q r C2) n 0 0 10 [(2, v0), (0, z1), (9, 0), (9, 0)] [] Cz) (kz20 : Cn × Int → Prop) (hkz20 : ∀ (Cz : Cn) (z2 : Int), kz20 (Cz, z2) → AW p l e R s m args below meth c E M_G_costs true (fun r C2 n2 => n2 = n ∧ Q r C2) n 0 0 20 [(2, v0), (0, v1), (0, z2), (9, 0)] [] Cz) (C : Cn) (v2 : Int) (h : B_G_costs_20 n v0 v1 kz10 Q kz20 (C, v2)) : AW p l e R s m args below meth c E M_G_costs true (fun r C2 n2 => n2 = n ∧ Q r C2) n 0 0 20 [(2, v0), (0, v1), (0, v2), (9, 0)] [] C := by
  unfold B_G_costs_20 at h
  dsimp only at h
  refine AW.iload_n (dc hd_G_costs 12 rfl) rfl ?_
  refine AW.ra_n (dc hd_G_costs 13 rfl) rfl rfl rfl ?_
  obtain ⟨g_30, h⟩ := h
  refine AW.getf fl_10_214 (dc hd_G_costs 14 rfl) g_30 ?_
  refine AW.icmp_ge (t := 50) (dc hd_G_costs 15 rfl) (by decide) (fun c_31 => ?_) (fun c_31 => ?_)
  · have h := h.1 c_31
    refine AW.iinc [(2, v0), (0, w32 (v1 + 1)), (0, v2), (9, 0)] (dc hd_G_costs 30 rfl) rfl (Nat.le_of_ble_eq_true rfl) rfl rfl ?_
    refine AW.goto (t := 10) (dc hd_G_costs 31 rfl) (by decide) ?_
    refine AW.fgt [(2, v0), (0, w32 (v1 + 1)), (9, 0), (9, 0)] ⟨.inl rfl, .inl rfl, .inr rfl, .inl rfl, trivial⟩ ?_
    exact hkz10 C (w32 (v1 + 1)) h
  · have h := h.2 c_31
    refine AW.ra_n (dc hd_G_costs 16 rfl) rfl rfl rfl ?_
    refine AW.getp fl_10_73 (dc hd_G_costs 17 rfl) g_30 rfl ?_
    refine AW.iload_n (dc hd_G_costs 18 rfl) rfl ?_
    obtain ⟨g_32, h⟩ := h
    obtain ⟨g_33, h⟩ := h
    refine AW.aaldp (by decide) (dc hd_G_costs 19 rfl) g_32 g_33 rfl ?_
    refine AW.iload_n (dc hd_G_costs 20 rfl) rfl ?_
    refine AW.ra_n (dc hd_G_costs 21 rfl) rfl rfl rfl ?_
    refine AW.getp fl_10_70 (dc hd_G_costs 22 rfl) g_30 rfl ?_
    refine AW.iload_n (dc hd_G_costs 23 rfl) rfl ?_
    obtain ⟨g_34, h⟩ := h
    obtain ⟨g_35, h⟩ := h
    refine AW.aaldp (by decide) (dc hd_G_costs 24 rfl) g_34 g_35 rfl ?_
    refine AW.iload_n (dc hd_G_costs 25 rfl) rfl ?_
    obtain ⟨g_36, h⟩ := h
    obtain ⟨g_37, h⟩ := h
    refine AW.iald (dc hd_G_costs 26 rfl) g_36 g_37 ?_
    obtain ⟨g_38, h⟩ := h
    obtain ⟨g_39, h⟩ := h
    refine AW.niast (dc hd_G_costs 27 rfl) g_38 g_39 (fun C_40 eC_40 => ?_)
    have h := h C_40 eC_40
    refine AW.iinc [(2, v0), (0, v1), (0, w32 (v2 + 1)), (9, 0)] (dc hd_G_costs 28 rfl) rfl (Nat.le_of_ble_eq_true rfl) rfl rfl ?_
    refine AW.goto (t := 20) (dc hd_G_costs 29 rfl) (by decide) ?_
    exact hkz20 C_40 (w32 (v2 + 1)) h
theorem aB_G_costs_20 (n : Nat) (v0 v1 : Int) (kz10 : Cn × Int → Prop) (Q : Int → Cn → Prop) (hkz10 : ∀ (Cz : Cn) (z1 : Int), kz10 (Cz, z1) → AW p l e R s m args below meth c E M_G_costs true (fun r C2 n2 => n2 = n ∧ Q r C2) n 0 0 10 [(2, v0), (0, z1), (9, 0), (9, 0)] [] Cz) : ∀ (f : Nat) (z : Cn × Int), lp (B_G_costs_20 n v0 v1 kz10 Q) f z → AW p l e R s m args below meth c E M_G_costs true (fun r C2 n2 => n2 = n ∧ Q r C2) n 0 0 20 [(2, v0), (0, v1), (0, z.2), (9, 0)] [] (z.1) := by
  intro f
  induction f with
  | zero => intro z h; exact False.elim h
  | succ f ih => intro z h; exact bB_G_costs_20 n v0 v1 kz10 Q hkz10 (lp (B_G_costs_20 n v0 v1 kz10 Q) f) (fun a0 a1 h => ih (a0, a1) h) z.1 z.2 h
def B_G_costs_10 (n : Nat) (v0 : Int) (Q : Int → Cn → Prop) (kz10 : Cn × Int → Prop) (z : Cn × Int) : Prop := match z with
  | (C, v1) => okO n v0 10 ∧ ((C v0.toNat 18 ≤ v1 → (∃ f_29 : Nat, lp (B_G_costs_58 n v0 Q) f_29 (C, 0))) ∧ (¬ C v0.toNat 18 ≤ v1 → (∃ f_41 : Nat, lp (B_G_costs_20 n v0 v1 kz10 Q) f_41 (C, 0))))
theorem bB_G_costs_10 (n : Nat) (v0 : Int) (Q : Int → Cn → Prop) (kz10 : Cn × Int → Prop) (hkz10 : ∀ (Cz : Cn) (z1 : Int), kz10 (Cz, z1) → AW p l e R s m args below meth c E M_G_costs true (fun r C2 n2 => n2 = n ∧ Q r C2) n 0 0 10 [(2, v0), (0, z1), (9, 0), (9, 0)] [] Cz) (C : Cn) (v1 : Int) (h : B_G_costs_10 n v0 Q kz10 (C, v1)) : AW p l e R s m args below meth c E M_G_costs true (fun r C2 n2 => n2 = n ∧ Q r C2) n 0 0 10 [(2, v0), (0, v1), (9, 0), (9, 0)] [] C := by
  unfold B_G_costs_10 at h
  dsimp only at h
  refine AW.iload_n (dc hd_G_costs 6 rfl) rfl ?_
  refine AW.ra_n (dc hd_G_costs 7 rfl) rfl rfl rfl ?_
  obtain ⟨g_10, h⟩ := h
  refine AW.getf fl_10_214 (dc hd_G_costs 8 rfl) g_10 ?_
  refine AW.icmp_ge (t := 56) (dc hd_G_costs 9 rfl) (by decide) (fun c_11 => ?_) (fun c_11 => ?_)
  · have h := h.1 c_11
    refine AW.iconst (dc hd_G_costs 32 rfl) (by decide) ?_
    refine AW.istore_n [(2, v0), (0, 0), (9, 0), (9, 0)] (dc hd_G_costs 33 rfl) (Nat.le_of_ble_eq_true rfl) rfl rfl ?_
    obtain ⟨f_29, h⟩ := h
    exact aB_G_costs_58 n v0 Q f_29 (C, 0) h
  · have h := h.2 c_11
    refine AW.iconst (dc hd_G_costs 10 rfl) (by decide) ?_
    refine AW.istore_n [(2, v0), (0, v1), (0, 0), (9, 0)] (dc hd_G_costs 11 rfl) (Nat.le_of_ble_eq_true rfl) rfl rfl ?_
    obtain ⟨f_41, h⟩ := h
    exact aB_G_costs_20 n v0 v1 kz10 Q hkz10 f_41 (C, 0) h
theorem aB_G_costs_10 (n : Nat) (v0 : Int) (Q : Int → Cn → Prop) : ∀ (f : Nat) (z : Cn × Int), lp (B_G_costs_10 n v0 Q) f z → AW p l e R s m args below meth c E M_G_costs true (fun r C2 n2 => n2 = n ∧ Q r C2) n 0 0 10 [(2, v0), (0, z.2), (9, 0), (9, 0)] [] (z.1) := by
  intro f
  induction f with
  | zero => intro z h; exact False.elim h
  | succ f ih => intro z h; exact bB_G_costs_10 n v0 Q (lp (B_G_costs_10 n v0 Q) f) (fun a0 a1 h => ih (a0, a1) h) z.1 z.2 h
def P_G_costs (n : Nat) (C : Cn) (v0 : Int) (Q : Int → Cn → Prop) : Prop :=
  okO n v0 10 ∧ (P_G_maps n C v0 (fun (_ : Int) (C_2 : Cn) => P_G_steps1 n C_2 v0 (fun (_ : Int) (C_6 : Cn) => ∃ f_42 : Nat, lp (B_G_costs_10 n v0 Q) f_42 (C_6, 0))))
theorem m_G_costs (l : Launch) (E : Ev) (n : Nat) (C : Cn) (v0 : Int) (Q : Int → Cn → Prop) (h : P_G_costs n C v0 Q) : MA l y_G_costs M_G_costs E true C n [(2, v0)] (fun r C2 n2 => n2 = n ∧ Q r C2) := by
  refine MA.of (by decide) rfl rfl 3 rfl (fun p e s m args below meth c => ?_)
  show AW p l e _ s m args below meth c E M_G_costs true _ n 0 0 0 [(2, v0), (9, 0), (9, 0), (9, 0)] [] C
  unfold P_G_costs at h
  refine AW.ra_n (dc hd_G_costs 0 rfl) rfl rfl rfl ?_
  obtain ⟨g_1, h⟩ := h
  refine AW.callV (As := []) (rest := []) (ci := 10) (m_G_maps l E n C v0 _ h) cb_10_211 im_G_maps se_G_maps ⟨_, _, rfl⟩ (by decide) (dc hd_G_costs 1 rfl) g_1 rfl rfl ⟨Nat.le_of_ble_eq_true rfl, Nat.le_of_ble_eq_true rfl⟩ ⟨(Nat.le_of_ble_eq_true rfl), (Nat.le_of_ble_eq_true rfl)⟩ (Nat.le_of_ble_eq_true rfl) (fun _ h => by cases h) (fun _ => rfl) (fun u_4 C_2 d_5 q_3 => ?_)
  obtain ⟨q_3a, h⟩ := q_3
  subst d_5
  show AW p l e _ s m args below meth c E M_G_costs true _ n _ _ _ [(2, v0), (9, 0), (9, 0), (9, 0)] [] C_2
  refine AW.ra_n (dc hd_G_costs 2 rfl) rfl rfl rfl ?_
  refine AW.callV (As := []) (rest := []) (ci := 10) (m_G_steps1 l E n C_2 v0 _ h) cb_10_343 im_G_steps1 se_G_steps1 ⟨_, _, rfl⟩ (by decide) (dc hd_G_costs 3 rfl) g_1 rfl rfl ⟨Nat.le_of_ble_eq_true rfl, Nat.le_of_ble_eq_true rfl⟩ ⟨(Nat.le_of_ble_eq_true rfl), (Nat.le_of_ble_eq_true rfl)⟩ (Nat.le_of_ble_eq_true rfl) (fun _ h => by cases h) (fun _ => rfl) (fun u_8 C_6 d_9 q_7 => ?_)
  obtain ⟨q_7a, h⟩ := q_7
  subst d_9
  show AW p l e _ s m args below meth c E M_G_costs true _ n _ _ _ [(2, v0), (9, 0), (9, 0), (9, 0)] [] C_6
  refine AW.iconst (dc hd_G_costs 4 rfl) (by decide) ?_
  refine AW.istore_n [(2, v0), (0, 0), (9, 0), (9, 0)] (dc hd_G_costs 5 rfl) (Nat.le_of_ble_eq_true rfl) rfl rfl ?_
  obtain ⟨f_42, h⟩ := h
  exact aB_G_costs_10 n v0 Q f_42 (C_6, 0) h
def P_G_cost (n : Nat) (C : Cn) (v0 v1 v2 : Int) (Q : Int → Cn → Prop) : Prop :=
  okO n v0 10 ∧ (P_G_costs n C v0 (fun (_ : Int) (C_2 : Cn) => P_G_isField n C_2 v0 v1 (fun (r_6 : Int) => (r_6 = 0 → (P_G_finds n C_2 v0 0 (fun (r_11 : Int) (C_12 : Cn) => Q r_11 C_12))) ∧ (¬ r_6 = 0 → (P_G_isField n C_2 v0 v2 (fun (r_15 : Int) => (r_15 = 0 → (P_G_finds n C_2 v0 0 (fun (r_20 : Int) (C_21 : Cn) => Q r_20 C_21))) ∧ (¬ r_15 = 0 → (okO n (PT v0.toNat 32) 17 ∧ (okI (PT v0.toNat 32) v1 ∧ (okO n (PT (PT v0.toNat 32).toNat v1.toNat) 12 ∧ (okI (PT (PT v0.toNat 32).toNat v1.toNat) v2 ∧ (Q (C_2 (PT (PT v0.toNat 32).toNat v1.toNat).toNat v2.toNat) C_2))))))))))))
theorem m_G_cost (l : Launch) (E : Ev) (n : Nat) (C : Cn) (v0 v1 v2 : Int) (Q : Int → Cn → Prop) (h : P_G_cost n C v0 v1 v2 Q) : MA l y_G_cost M_G_cost E true C n [(2, v0), (0, v1), (0, v2)] (fun r C2 n2 => n2 = n ∧ Q r C2) := by
  refine MA.of (by decide) rfl rfl 0 rfl (fun p e s m args below meth c => ?_)
  show AW p l e _ s m args below meth c E M_G_cost true _ n 0 0 0 [(2, v0), (0, v1), (0, v2)] [] C
  unfold P_G_cost at h
  refine AW.ra_n (dc hd_G_cost 0 rfl) rfl rfl rfl ?_
  obtain ⟨g_1, h⟩ := h
  refine AW.callV (As := []) (rest := []) (ci := 10) (m_G_costs l E n C v0 _ h) cb_10_349 im_G_costs se_G_costs ⟨_, _, rfl⟩ (by decide) (dc hd_G_cost 1 rfl) g_1 rfl rfl ⟨Nat.le_of_ble_eq_true rfl, Nat.le_of_ble_eq_true rfl⟩ ⟨(Nat.le_of_ble_eq_true rfl), (Nat.le_of_ble_eq_true rfl)⟩ (Nat.le_of_ble_eq_true rfl) (fun _ h => by cases h) (fun _ => rfl) (fun u_4 C_2 d_5 q_3 => ?_)
  obtain ⟨q_3a, h⟩ := q_3
  subst d_5
  show AW p l e _ s m args below meth c E M_G_cost true _ n _ _ _ [(2, v0), (0, v1), (0, v2)] [] C_2
  refine AW.ra_n (dc hd_G_cost 2 rfl) rfl rfl rfl ?_
  refine AW.iload_n (dc hd_G_cost 3 rfl) rfl ?_
  refine AW.callV (As := [(0, v1)]) (rest := []) (ci := 10) (m_G_isField l E n C_2 v0 v1 _ h) cb_10_264 im_G_isField se_G_isField ⟨_, _, rfl⟩ (by decide) (dc hd_G_cost 4 rfl) g_1 rfl rfl ⟨Nat.le_of_ble_eq_true rfl, Nat.le_of_ble_eq_true rfl⟩ ⟨(Nat.le_of_ble_eq_true rfl), (Nat.le_of_ble_eq_true rfl)⟩ (Nat.le_of_ble_eq_true rfl) (fun _ h => by cases h) (fun _ => rfl) (fun r_6 D_8 d_9 q_7 => ?_)
  obtain ⟨q_7a, q_7b, h⟩ := q_7
  subst D_8
  subst d_9
  show AW p l e _ s m args below meth c E M_G_cost true _ n _ _ _ [(2, v0), (0, v1), (0, v2)] [(0, r_6)] C_2
  refine AW.if_eq (t := 31) (dc hd_G_cost 5 rfl) (by decide) (fun c_10 => ?_) (fun c_10 => ?_)
  · have h := h.1 c_10
    refine AW.ra_n (dc hd_G_cost 17 rfl) rfl rfl rfl ?_
    refine AW.iconst (dc hd_G_cost 18 rfl) (by decide) ?_
    refine AW.callV (As := [(0, 0)]) (rest := []) (ci := 10) (m_G_finds l E n C_2 v0 0 _ h) cb_10_186 im_G_finds se_G_finds ⟨_, _, rfl⟩ (by decide) (dc hd_G_cost 19 rfl) g_1 rfl rfl ⟨Nat.le_of_ble_eq_true rfl, Nat.le_of_ble_eq_true rfl⟩ ⟨(Nat.le_of_ble_eq_true rfl), (Nat.le_of_ble_eq_true rfl)⟩ (Nat.le_of_ble_eq_true rfl) (fun _ h => by cases h) (fun _ => rfl) (fun r_11 C_12 d_14 q_13 => ?_)
    obtain ⟨q_13a, h⟩ := q_13
    subst d_14
    show AW p l e _ s m args below meth c E M_G_cost true _ n _ _ _ [(2, v0), (0, v1), (0, v2)] [(0, r_11)] C_12
    exact AW.iret (dc hd_G_cost 20 rfl) rfl rfl (Nat.le_of_ble_eq_true rfl) (Nat.le_of_ble_eq_true rfl) ⟨rfl, h⟩
  · have h := h.2 c_10
    refine AW.ra_n (dc hd_G_cost 6 rfl) rfl rfl rfl ?_
    refine AW.iload_n (dc hd_G_cost 7 rfl) rfl ?_
    refine AW.callV (As := [(0, v2)]) (rest := []) (ci := 10) (m_G_isField l E n C_2 v0 v2 _ h) cb_10_264 im_G_isField se_G_isField ⟨_, _, rfl⟩ (by decide) (dc hd_G_cost 8 rfl) g_1 rfl rfl ⟨Nat.le_of_ble_eq_true rfl, Nat.le_of_ble_eq_true rfl⟩ ⟨(Nat.le_of_ble_eq_true rfl), (Nat.le_of_ble_eq_true rfl)⟩ (Nat.le_of_ble_eq_true rfl) (fun _ h => by cases h) (fun _ => rfl) (fun r_15 D_17 d_18 q_16 => ?_)
    obtain ⟨q_16a, q_16b, h⟩ := q_16
    subst D_17
    subst d_18
    show AW p l e _ s m args below meth c E M_G_cost true _ n _ _ _ [(2, v0), (0, v1), (0, v2)] [(0, r_15)] C_2
    refine AW.if_eq (t := 31) (dc hd_G_cost 9 rfl) (by decide) (fun c_19 => ?_) (fun c_19 => ?_)
    · have h := h.1 c_19
      refine AW.ra_n (dc hd_G_cost 17 rfl) rfl rfl rfl ?_
      refine AW.iconst (dc hd_G_cost 18 rfl) (by decide) ?_
      refine AW.callV (As := [(0, 0)]) (rest := []) (ci := 10) (m_G_finds l E n C_2 v0 0 _ h) cb_10_186 im_G_finds se_G_finds ⟨_, _, rfl⟩ (by decide) (dc hd_G_cost 19 rfl) g_1 rfl rfl ⟨Nat.le_of_ble_eq_true rfl, Nat.le_of_ble_eq_true rfl⟩ ⟨(Nat.le_of_ble_eq_true rfl), (Nat.le_of_ble_eq_true rfl)⟩ (Nat.le_of_ble_eq_true rfl) (fun _ h => by cases h) (fun _ => rfl) (fun r_20 C_21 d_23 q_22 => ?_)
      obtain ⟨q_22a, h⟩ := q_22
      subst d_23
      show AW p l e _ s m args below meth c E M_G_cost true _ n _ _ _ [(2, v0), (0, v1), (0, v2)] [(0, r_20)] C_21
      exact AW.iret (dc hd_G_cost 20 rfl) rfl rfl (Nat.le_of_ble_eq_true rfl) (Nat.le_of_ble_eq_true rfl) ⟨rfl, h⟩
    · have h := h.2 c_19
      refine AW.ra_n (dc hd_G_cost 10 rfl) rfl rfl rfl ?_
      refine AW.getp fl_10_70 (dc hd_G_cost 11 rfl) g_1 rfl ?_
      refine AW.iload_n (dc hd_G_cost 12 rfl) rfl ?_
      obtain ⟨g_24, h⟩ := h
      obtain ⟨g_25, h⟩ := h
      refine AW.aaldp (by decide) (dc hd_G_cost 13 rfl) g_24 g_25 rfl ?_
      refine AW.iload_n (dc hd_G_cost 14 rfl) rfl ?_
      obtain ⟨g_26, h⟩ := h
      obtain ⟨g_27, h⟩ := h
      refine AW.iald (dc hd_G_cost 15 rfl) g_26 g_27 ?_
      refine AW.goto (t := 36) (dc hd_G_cost 16 rfl) (by decide) ?_
      exact AW.iret (dc hd_G_cost 20 rfl) rfl rfl (Nat.le_of_ble_eq_true rfl) (Nat.le_of_ble_eq_true rfl) ⟨rfl, h⟩
def J_G_next_96 (n : Nat) (C : Cn) (v0 : Int) (Q : Int → Cn → Prop) : Prop :=
  okO n v0 10 ∧ (P_G_finds n C v0 3 (fun (r_22 : Int) (C_24 : Cn) => Q r_22 C_24))
theorem aJ_G_next_96 (n : Nat) (C : Cn) (v0 : Int) (Q : Int → Cn → Prop) (h : J_G_next_96 n C v0 Q) : AW p l e R s m args below meth c E M_G_next true (fun r C2 n2 => n2 = n ∧ Q r C2) n 0 0 96 [(2, v0), (9, 0), (9, 0), (9, 0)] [] C := by
  unfold J_G_next_96 at h
  refine AW.ra_n (dc hd_G_next 58 rfl) rfl rfl rfl ?_
  refine AW.iconst (dc hd_G_next 59 rfl) (by decide) ?_
  obtain ⟨g_23, h⟩ := h
  refine AW.callV (As := [(0, 3)]) (rest := []) (ci := 10) (m_G_finds l E n C v0 3 _ h) cb_10_186 im_G_finds se_G_finds ⟨_, _, rfl⟩ (by decide) (dc hd_G_next 60 rfl) g_23 rfl rfl ⟨Nat.le_of_ble_eq_true rfl, Nat.le_of_ble_eq_true rfl⟩ ⟨(Nat.le_of_ble_eq_true rfl), (Nat.le_of_ble_eq_true rfl)⟩ (Nat.le_of_ble_eq_true rfl) (fun _ h => by cases h) (fun _ => rfl) (fun r_22 C_24 d_26 q_25 => ?_)
  obtain ⟨q_25a, h⟩ := q_25
  subst d_26
  show AW p l e _ s m args below meth c E M_G_next true _ n _ _ _ [(2, v0), (9, 0), (9, 0), (9, 0)] [(0, r_22)] C_24
  exact AW.iret (dc hd_G_next 61 rfl) rfl rfl (Nat.le_of_ble_eq_true rfl) (Nat.le_of_ble_eq_true rfl) ⟨rfl, h⟩
def B_G_next_28 (n : Nat) (C : Cn) (v0 v1 v2 : Int) (Q : Int → Cn → Prop) (kz28 : Int → Prop) (v3 : Int) : Prop :=
  okO n v0 10 ∧ ((C v0.toNat 18 ≤ v3 → (J_G_next_96 n C v0 Q)) ∧ (¬ C v0.toNat 18 ≤ v3 → ((v1 = v2 → (J_G_next_96 n C v0 Q)) ∧ (¬ v1 = v2 → ((v3 = v1 → (kz28 (w32 (v3 + 1)))) ∧ (¬ v3 = v1 → (okO n (PT v0.toNat 33) 17 ∧ (okI (PT v0.toNat 33) v1 ∧ (okO n (PT (PT v0.toNat 33).toNat v1.toNat) 12 ∧ (okI (PT (PT v0.toNat 33).toNat v1.toNat) v3 ∧ ((1000000 ≤ C (PT (PT v0.toNat 33).toNat v1.toNat).toNat v3.toNat → (kz28 (w32 (v3 + 1)))) ∧ (¬ 1000000 ≤ C (PT (PT v0.toNat 33).toNat v1.toNat).toNat v3.toNat → (okO n (PT v0.toNat 32) 17 ∧ (okI (PT v0.toNat 32) v3 ∧ (okO n (PT (PT v0.toNat 32).toNat v3.toNat) 12 ∧ (okI (PT (PT v0.toNat 32).toNat v3.toNat) v2 ∧ (okI (PT v0.toNat 32) v1 ∧ (okO n (PT (PT v0.toNat 32).toNat v1.toNat) 12 ∧ (okI (PT (PT v0.toNat 32).toNat v1.toNat) v2 ∧ ((w32 (C (PT (PT v0.toNat 33).toNat v1.toNat).toNat v3.toNat + C (PT (PT v0.toNat 32).toNat v3.toNat).toNat v2.toNat) = C (PT (PT v0.toNat 32).toNat v1.toNat).toNat v2.toNat → (Q v3 C)) ∧ (¬ w32 (C (PT (PT v0.toNat 33).toNat v1.toNat).toNat v3.toNat + C (PT (PT v0.toNat 32).toNat v3.toNat).toNat v2.toNat) = C (PT (PT v0.toNat 32).toNat v1.toNat).toNat v2.toNat → (kz28 (w32 (v3 + 1))))))))))))))))))))))))
theorem bB_G_next_28 (n : Nat) (C : Cn) (v0 v1 v2 : Int) (Q : Int → Cn → Prop) (kz28 : Int → Prop) (hkz28 : ∀ (z3 : Int), kz28 z3 → AW p l e R s m args below meth c E M_G_next true (fun r C2 n2 => n2 = n ∧ Q r C2) n 0 0 28 [(2, v0), (0, v1), (0, v2), (0, z3)] [] C) (v3 : Int) (h : B_G_next_28 n C v0 v1 v2 Q kz28 v3) : AW p l e R s m args below meth c E M_G_next true (fun r C2 n2 => n2 = n ∧ Q r C2) n 0 0 28 [(2, v0), (0, v1), (0, v2), (0, v3)] [] C := by
  unfold B_G_next_28 at h
  refine AW.iload_n (dc hd_G_next 16 rfl) rfl ?_
  refine AW.ra_n (dc hd_G_next 17 rfl) rfl rfl rfl ?_
  obtain ⟨g_20, h⟩ := h
  refine AW.getf fl_10_214 (dc hd_G_next 18 rfl) g_20 ?_
  refine AW.icmp_ge (t := 96) (dc hd_G_next 19 rfl) (by decide) (fun c_21 => ?_) (fun c_21 => ?_)
  · have h := h.1 c_21
    refine AW.fgt [(2, v0), (9, 0), (9, 0), (9, 0)] ⟨.inl rfl, .inr rfl, .inr rfl, .inr rfl, trivial⟩ ?_
    exact aJ_G_next_96 n C v0 Q h
  · have h := h.2 c_21
    refine AW.iload_n (dc hd_G_next 20 rfl) rfl ?_
    refine AW.iload_n (dc hd_G_next 21 rfl) rfl ?_
    refine AW.icmp_eq (t := 96) (dc hd_G_next 22 rfl) (by decide) (fun c_27 => ?_) (fun c_27 => ?_)
    · have h := h.1 c_27
      refine AW.fgt [(2, v0), (9, 0), (9, 0), (9, 0)] ⟨.inl rfl, .inr rfl, .inr rfl, .inr rfl, trivial⟩ ?_
      exact aJ_G_next_96 n C v0 Q h
    · have h := h.2 c_27
      refine AW.iload_n (dc hd_G_next 23 rfl) rfl ?_
      refine AW.iload_n (dc hd_G_next 24 rfl) rfl ?_
      refine AW.icmp_eq (t := 90) (dc hd_G_next 25 rfl) (by decide) (fun c_28 => ?_) (fun c_28 => ?_)
      · have h := h.1 c_28
        refine AW.iinc [(2, v0), (0, v1), (0, v2), (0, w32 (v3 + 1))] (dc hd_G_next 56 rfl) rfl (Nat.le_of_ble_eq_true rfl) rfl rfl ?_
        refine AW.goto (t := 28) (dc hd_G_next 57 rfl) (by decide) ?_
        exact hkz28 (w32 (v3 + 1)) h
      · have h := h.2 c_28
        refine AW.ra_n (dc hd_G_next 26 rfl) rfl rfl rfl ?_
        refine AW.getp fl_10_73 (dc hd_G_next 27 rfl) g_20 rfl ?_
        refine AW.iload_n (dc hd_G_next 28 rfl) rfl ?_
        obtain ⟨g_29, h⟩ := h
        obtain ⟨g_30, h⟩ := h
        refine AW.aaldp (by decide) (dc hd_G_next 29 rfl) g_29 g_30 rfl ?_
        refine AW.iload_n (dc hd_G_next 30 rfl) rfl ?_
        obtain ⟨g_31, h⟩ := h
        obtain ⟨g_32, h⟩ := h
        refine AW.iald (dc hd_G_next 31 rfl) g_31 g_32 ?_
        refine AW.ldc_w (v := 1000000) (dc hd_G_next 32 rfl) ck_10_339 (by decide) rfl ?_
        refine AW.icmp_ge (t := 90) (dc hd_G_next 33 rfl) (by decide) (fun c_33 => ?_) (fun c_33 => ?_)
        · have h := h.1 c_33
          refine AW.iinc [(2, v0), (0, v1), (0, v2), (0, w32 (v3 + 1))] (dc hd_G_next 56 rfl) rfl (Nat.le_of_ble_eq_true rfl) rfl rfl ?_
          refine AW.goto (t := 28) (dc hd_G_next 57 rfl) (by decide) ?_
          exact hkz28 (w32 (v3 + 1)) h
        · have h := h.2 c_33
          refine AW.ra_n (dc hd_G_next 34 rfl) rfl rfl rfl ?_
          refine AW.getp fl_10_73 (dc hd_G_next 35 rfl) g_20 rfl ?_
          refine AW.iload_n (dc hd_G_next 36 rfl) rfl ?_
          refine AW.aaldp (by decide) (dc hd_G_next 37 rfl) g_29 g_30 rfl ?_
          refine AW.iload_n (dc hd_G_next 38 rfl) rfl ?_
          refine AW.iald (dc hd_G_next 39 rfl) g_31 g_32 ?_
          refine AW.ra_n (dc hd_G_next 40 rfl) rfl rfl rfl ?_
          refine AW.getp fl_10_70 (dc hd_G_next 41 rfl) g_20 rfl ?_
          refine AW.iload_n (dc hd_G_next 42 rfl) rfl ?_
          obtain ⟨g_34, h⟩ := h
          obtain ⟨g_35, h⟩ := h
          refine AW.aaldp (by decide) (dc hd_G_next 43 rfl) g_34 g_35 rfl ?_
          refine AW.iload_n (dc hd_G_next 44 rfl) rfl ?_
          obtain ⟨g_36, h⟩ := h
          obtain ⟨g_37, h⟩ := h
          refine AW.iald (dc hd_G_next 45 rfl) g_36 g_37 ?_
          refine AW.iadd (dc hd_G_next 46 rfl) ?_
          refine AW.ra_n (dc hd_G_next 47 rfl) rfl rfl rfl ?_
          refine AW.getp fl_10_70 (dc hd_G_next 48 rfl) g_20 rfl ?_
          refine AW.iload_n (dc hd_G_next 49 rfl) rfl ?_
          obtain ⟨g_38, h⟩ := h
          refine AW.aaldp (by decide) (dc hd_G_next 50 rfl) g_34 g_38 rfl ?_
          refine AW.iload_n (dc hd_G_next 51 rfl) rfl ?_
          obtain ⟨g_39, h⟩ := h
          obtain ⟨g_40, h⟩ := h
          refine AW.iald (dc hd_G_next 52 rfl) g_39 g_40 ?_
          refine AW.icmp_ne (t := 90) (dc hd_G_next 53 rfl) (by decide) (fun c_41 => ?_) (fun c_41 => ?_)
          · have h := h.2 c_41
            refine AW.iinc [(2, v0), (0, v1), (0, v2), (0, w32 (v3 + 1))] (dc hd_G_next 56 rfl) rfl (Nat.le_of_ble_eq_true rfl) rfl rfl ?_
            refine AW.goto (t := 28) (dc hd_G_next 57 rfl) (by decide) ?_
            exact hkz28 (w32 (v3 + 1)) h
          · have h := h.1 c_41
            refine AW.iload_n (dc hd_G_next 54 rfl) rfl ?_
            exact AW.iret (dc hd_G_next 55 rfl) rfl rfl (Nat.le_of_ble_eq_true rfl) (Nat.le_of_ble_eq_true rfl) ⟨rfl, h⟩
theorem aB_G_next_28 (n : Nat) (C : Cn) (v0 v1 v2 : Int) (Q : Int → Cn → Prop) : ∀ (f : Nat) (z : Int), lp (B_G_next_28 n C v0 v1 v2 Q) f z → AW p l e R s m args below meth c E M_G_next true (fun r C2 n2 => n2 = n ∧ Q r C2) n 0 0 28 [(2, v0), (0, v1), (0, v2), (0, z)] [] C := by
  intro f
  induction f with
  | zero => intro z h; exact False.elim h
  | succ f ih => intro z h; exact bB_G_next_28 n C v0 v1 v2 Q (lp (B_G_next_28 n C v0 v1 v2 Q) f) (fun a0 h => ih a0 h) z h
def P_G_next (n : Nat) (C : Cn) (v0 v1 v2 : Int) (Q : Int → Cn → Prop) : Prop :=
  okO n v0 10 ∧ (P_G_costs n C v0 (fun (_ : Int) (C_2 : Cn) => P_G_isField n C_2 v0 v1 (fun (r_6 : Int) => (r_6 = 0 → (P_G_finds n C_2 v0 0 (fun (r_11 : Int) (C_12 : Cn) => Q r_11 C_12))) ∧ (¬ r_6 = 0 → (P_G_isField n C_2 v0 v2 (fun (r_15 : Int) => (r_15 = 0 → (P_G_finds n C_2 v0 0 (fun (r_43 : Int) (C_44 : Cn) => Q r_43 C_44))) ∧ (¬ r_15 = 0 → (∃ f_42 : Nat, lp (B_G_next_28 n C_2 v0 v1 v2 Q) f_42 0))))))))
theorem m_G_next (l : Launch) (E : Ev) (n : Nat) (C : Cn) (v0 v1 v2 : Int) (Q : Int → Cn → Prop) (h : P_G_next n C v0 v1 v2 Q) : MA l y_G_next M_G_next E true C n [(2, v0), (0, v1), (0, v2)] (fun r C2 n2 => n2 = n ∧ Q r C2) := by
  refine MA.of (by decide) rfl rfl 1 rfl (fun p e s m args below meth c => ?_)
  show AW p l e _ s m args below meth c E M_G_next true _ n 0 0 0 [(2, v0), (0, v1), (0, v2), (9, 0)] [] C
  unfold P_G_next at h
  refine AW.ra_n (dc hd_G_next 0 rfl) rfl rfl rfl ?_
  obtain ⟨g_1, h⟩ := h
  refine AW.callV (As := []) (rest := []) (ci := 10) (m_G_costs l E n C v0 _ h) cb_10_349 im_G_costs se_G_costs ⟨_, _, rfl⟩ (by decide) (dc hd_G_next 1 rfl) g_1 rfl rfl ⟨Nat.le_of_ble_eq_true rfl, Nat.le_of_ble_eq_true rfl⟩ ⟨(Nat.le_of_ble_eq_true rfl), (Nat.le_of_ble_eq_true rfl)⟩ (Nat.le_of_ble_eq_true rfl) (fun _ h => by cases h) (fun _ => rfl) (fun u_4 C_2 d_5 q_3 => ?_)
  obtain ⟨q_3a, h⟩ := q_3
  subst d_5
  show AW p l e _ s m args below meth c E M_G_next true _ n _ _ _ [(2, v0), (0, v1), (0, v2), (9, 0)] [] C_2
  refine AW.ra_n (dc hd_G_next 2 rfl) rfl rfl rfl ?_
  refine AW.iload_n (dc hd_G_next 3 rfl) rfl ?_
  refine AW.callV (As := [(0, v1)]) (rest := []) (ci := 10) (m_G_isField l E n C_2 v0 v1 _ h) cb_10_264 im_G_isField se_G_isField ⟨_, _, rfl⟩ (by decide) (dc hd_G_next 4 rfl) g_1 rfl rfl ⟨Nat.le_of_ble_eq_true rfl, Nat.le_of_ble_eq_true rfl⟩ ⟨(Nat.le_of_ble_eq_true rfl), (Nat.le_of_ble_eq_true rfl)⟩ (Nat.le_of_ble_eq_true rfl) (fun _ h => by cases h) (fun _ => rfl) (fun r_6 D_8 d_9 q_7 => ?_)
  obtain ⟨q_7a, q_7b, h⟩ := q_7
  subst D_8
  subst d_9
  show AW p l e _ s m args below meth c E M_G_next true _ n _ _ _ [(2, v0), (0, v1), (0, v2), (9, 0)] [(0, r_6)] C_2
  refine AW.if_eq (t := 20) (dc hd_G_next 5 rfl) (by decide) (fun c_10 => ?_) (fun c_10 => ?_)
  · have h := h.1 c_10
    refine AW.ra_n (dc hd_G_next 10 rfl) rfl rfl rfl ?_
    refine AW.iconst (dc hd_G_next 11 rfl) (by decide) ?_
    refine AW.callV (As := [(0, 0)]) (rest := []) (ci := 10) (m_G_finds l E n C_2 v0 0 _ h) cb_10_186 im_G_finds se_G_finds ⟨_, _, rfl⟩ (by decide) (dc hd_G_next 12 rfl) g_1 rfl rfl ⟨Nat.le_of_ble_eq_true rfl, Nat.le_of_ble_eq_true rfl⟩ ⟨(Nat.le_of_ble_eq_true rfl), (Nat.le_of_ble_eq_true rfl)⟩ (Nat.le_of_ble_eq_true rfl) (fun _ h => by cases h) (fun _ => rfl) (fun r_11 C_12 d_14 q_13 => ?_)
    obtain ⟨q_13a, h⟩ := q_13
    subst d_14
    show AW p l e _ s m args below meth c E M_G_next true _ n _ _ _ [(2, v0), (0, v1), (0, v2), (9, 0)] [(0, r_11)] C_12
    exact AW.iret (dc hd_G_next 13 rfl) rfl rfl (Nat.le_of_ble_eq_true rfl) (Nat.le_of_ble_eq_true rfl) ⟨rfl, h⟩
  · have h := h.2 c_10
    refine AW.ra_n (dc hd_G_next 6 rfl) rfl rfl rfl ?_
    refine AW.iload_n (dc hd_G_next 7 rfl) rfl ?_
    refine AW.callV (As := [(0, v2)]) (rest := []) (ci := 10) (m_G_isField l E n C_2 v0 v2 _ h) cb_10_264 im_G_isField se_G_isField ⟨_, _, rfl⟩ (by decide) (dc hd_G_next 8 rfl) g_1 rfl rfl ⟨Nat.le_of_ble_eq_true rfl, Nat.le_of_ble_eq_true rfl⟩ ⟨(Nat.le_of_ble_eq_true rfl), (Nat.le_of_ble_eq_true rfl)⟩ (Nat.le_of_ble_eq_true rfl) (fun _ h => by cases h) (fun _ => rfl) (fun r_15 D_17 d_18 q_16 => ?_)
    obtain ⟨q_16a, q_16b, h⟩ := q_16
    subst D_17
    subst d_18
    show AW p l e _ s m args below meth c E M_G_next true _ n _ _ _ [(2, v0), (0, v1), (0, v2), (9, 0)] [(0, r_15)] C_2
    refine AW.if_ne (t := 26) (dc hd_G_next 9 rfl) (by decide) (fun c_19 => ?_) (fun c_19 => ?_)
    · have h := h.2 c_19
      refine AW.iconst (dc hd_G_next 14 rfl) (by decide) ?_
      refine AW.istore_n [(2, v0), (0, v1), (0, v2), (0, 0)] (dc hd_G_next 15 rfl) (Nat.le_of_ble_eq_true rfl) rfl rfl ?_
      obtain ⟨f_42, h⟩ := h
      exact aB_G_next_28 n C_2 v0 v1 v2 Q f_42 0 h
    · have h := h.1 c_19
      refine AW.ra_n (dc hd_G_next 10 rfl) rfl rfl rfl ?_
      refine AW.iconst (dc hd_G_next 11 rfl) (by decide) ?_
      refine AW.callV (As := [(0, 0)]) (rest := []) (ci := 10) (m_G_finds l E n C_2 v0 0 _ h) cb_10_186 im_G_finds se_G_finds ⟨_, _, rfl⟩ (by decide) (dc hd_G_next 12 rfl) g_1 rfl rfl ⟨Nat.le_of_ble_eq_true rfl, Nat.le_of_ble_eq_true rfl⟩ ⟨(Nat.le_of_ble_eq_true rfl), (Nat.le_of_ble_eq_true rfl)⟩ (Nat.le_of_ble_eq_true rfl) (fun _ h => by cases h) (fun _ => rfl) (fun r_43 C_44 d_46 q_45 => ?_)
      obtain ⟨q_45a, h⟩ := q_45
      subst d_46
      show AW p l e _ s m args below meth c E M_G_next true _ n _ _ _ [(2, v0), (0, v1), (0, v2), (9, 0)] [(0, r_43)] C_44
      exact AW.iret (dc hd_G_next 13 rfl) rfl rfl (Nat.le_of_ble_eq_true rfl) (Nat.le_of_ble_eq_true rfl) ⟨rfl, h⟩
def J_G_within_63 (n : Nat) (C : Cn) (v0 v1 v2 v4 s0 s1 : Int) (kz35 : Int × Int → Prop) (Q : Int → Cn → Prop) : Prop :=
  kz35 (w32 (s0 + s1), w32 (v4 + 1))
theorem aJ_G_within_63 (n : Nat) (C : Cn) (v0 v1 v2 v4 s0 s1 : Int) (kz35 : Int × Int → Prop) (Q : Int → Cn → Prop) (hkz35 : ∀ (z3 : Int) (z4 : Int), kz35 (z3, z4) → AW p l e R s m args below meth c E M_G_within true (fun r C2 n2 => n2 = n ∧ Q r C2) n 0 0 35 [(2, v0), (0, v1), (0, v2), (0, z3), (0, z4)] [] C) (h : J_G_within_63 n C v0 v1 v2 v4 s0 s1 kz35 Q) : AW p l e R s m args below meth c E M_G_within true (fun r C2 n2 => n2 = n ∧ Q r C2) n 0 0 63 [(2, v0), (0, v1), (0, v2), (9, 0), (0, v4)] [(0, s1), (0, s0)] C := by
  unfold J_G_within_63 at h
  refine AW.iadd (dc hd_G_within 36 rfl) ?_
  refine AW.istore_n [(2, v0), (0, v1), (0, v2), (0, w32 (s0 + s1)), (0, v4)] (dc hd_G_within 37 rfl) (Nat.le_of_ble_eq_true rfl) rfl rfl ?_
  refine AW.iinc [(2, v0), (0, v1), (0, v2), (0, w32 (s0 + s1)), (0, w32 (v4 + 1))] (dc hd_G_within 38 rfl) rfl (Nat.le_of_ble_eq_true rfl) rfl rfl ?_
  refine AW.goto (t := 35) (dc hd_G_within 39 rfl) (by decide) ?_
  exact hkz35 (w32 (s0 + s1)) (w32 (v4 + 1)) h
def B_G_within_35 (n : Nat) (C : Cn) (v0 v1 v2 : Int) (Q : Int → Cn → Prop) (kz35 : Int × Int → Prop) (z : Int × Int) : Prop := match z with
  | (v3, v4) => okO n v0 10 ∧ ((C v0.toNat 18 ≤ v4 → (Q v3 C)) ∧ (¬ C v0.toNat 18 ≤ v4 → (okO n (PT v0.toNat 32) 17 ∧ (okI (PT v0.toNat 32) v1 ∧ (okO n (PT (PT v0.toNat 32).toNat v1.toNat) 12 ∧ (okI (PT (PT v0.toNat 32).toNat v1.toNat) v4 ∧ (J_G_within_63 n C v0 v1 v2 v4 v3 (if v2 < C (PT (PT v0.toNat 32).toNat v1.toNat).toNat v4.toNat then 0 else 1) kz35 Q)))))))
theorem bB_G_within_35 (n : Nat) (C : Cn) (v0 v1 v2 : Int) (Q : Int → Cn → Prop) (kz35 : Int × Int → Prop) (hkz35 : ∀ (z3 : Int) (z4 : Int), kz35 (z3, z4) → AW p l e R s m args below meth c E M_G_within true (fun r C2 n2 => n2 = n ∧ Q r C2) n 0 0 35 [(2, v0), (0, v1), (0, v2), (0, z3), (0, z4)] [] C) (v3 : Int) (v4 : Int) (h : B_G_within_35 n C v0 v1 v2 Q kz35 (v3, v4)) : AW p l e R s m args below meth c E M_G_within true (fun r C2 n2 => n2 = n ∧ Q r C2) n 0 0 35 [(2, v0), (0, v1), (0, v2), (0, v3), (0, v4)] [] C := by
  unfold B_G_within_35 at h
  dsimp only at h
  refine AW.iload (dc hd_G_within 20 rfl) rfl ?_
  refine AW.ra_n (dc hd_G_within 21 rfl) rfl rfl rfl ?_
  obtain ⟨g_20, h⟩ := h
  refine AW.getf fl_10_214 (dc hd_G_within 22 rfl) g_20 ?_
  refine AW.icmp_ge (t := 71) (dc hd_G_within 23 rfl) (by decide) (fun c_21 => ?_) (fun c_21 => ?_)
  · have h := h.1 c_21
    refine AW.iload_n (dc hd_G_within 40 rfl) rfl ?_
    exact AW.iret (dc hd_G_within 41 rfl) rfl rfl (Nat.le_of_ble_eq_true rfl) (Nat.le_of_ble_eq_true rfl) ⟨rfl, h⟩
  · have h := h.2 c_21
    refine AW.iload_n (dc hd_G_within 24 rfl) rfl ?_
    refine AW.ra_n (dc hd_G_within 25 rfl) rfl rfl rfl ?_
    refine AW.getp fl_10_70 (dc hd_G_within 26 rfl) g_20 rfl ?_
    refine AW.iload_n (dc hd_G_within 27 rfl) rfl ?_
    obtain ⟨g_22, h⟩ := h
    obtain ⟨g_23, h⟩ := h
    refine AW.aaldp (by decide) (dc hd_G_within 28 rfl) g_22 g_23 rfl ?_
    refine AW.iload (dc hd_G_within 29 rfl) rfl ?_
    obtain ⟨g_24, h⟩ := h
    obtain ⟨g_25, h⟩ := h
    refine AW.iald (dc hd_G_within 30 rfl) g_24 g_25 ?_
    refine AW.iload_n (dc hd_G_within 31 rfl) rfl ?_
    refine AW.icmp_gt (t := 62) (dc hd_G_within 32 rfl) (by decide) (fun c_26 => ?_) (fun c_26 => ?_)
    · simp only [if_pos c_26] at h
      refine AW.iconst (dc hd_G_within 35 rfl) (by decide) ?_
      refine AW.fgt [(2, v0), (0, v1), (0, v2), (9, 0), (0, v4)] ⟨.inl rfl, .inl rfl, .inl rfl, .inr rfl, .inl rfl, trivial⟩ ?_
      exact aJ_G_within_63 n C _ _ _ _ _ _ kz35 Q hkz35 h
    · simp only [if_neg c_26] at h
      refine AW.iconst (dc hd_G_within 33 rfl) (by decide) ?_
      refine AW.goto (t := 63) (dc hd_G_within 34 rfl) (by decide) ?_
      refine AW.fgt [(2, v0), (0, v1), (0, v2), (9, 0), (0, v4)] ⟨.inl rfl, .inl rfl, .inl rfl, .inr rfl, .inl rfl, trivial⟩ ?_
      exact aJ_G_within_63 n C _ _ _ _ _ _ kz35 Q hkz35 h
theorem aB_G_within_35 (n : Nat) (C : Cn) (v0 v1 v2 : Int) (Q : Int → Cn → Prop) : ∀ (f : Nat) (z : Int × Int), lp (B_G_within_35 n C v0 v1 v2 Q) f z → AW p l e R s m args below meth c E M_G_within true (fun r C2 n2 => n2 = n ∧ Q r C2) n 0 0 35 [(2, v0), (0, v1), (0, v2), (0, z.1), (0, z.2)] [] C := by
  intro f
  induction f with
  | zero => intro z h; exact False.elim h
  | succ f ih => intro z h; exact bB_G_within_35 n C v0 v1 v2 Q (lp (B_G_within_35 n C v0 v1 v2 Q) f) (fun a0 a1 h => ih (a0, a1) h) z.1 z.2 h
def P_G_within (n : Nat) (C : Cn) (v0 v1 v2 : Int) (Q : Int → Cn → Prop) : Prop :=
  okO n v0 10 ∧ (P_G_costs n C v0 (fun (_ : Int) (C_2 : Cn) => P_G_isField n C_2 v0 v1 (fun (r_6 : Int) => (r_6 = 0 → (P_G_finds n C_2 v0 0 (fun (r_11 : Int) (C_12 : Cn) => Q r_11 C_12))) ∧ (¬ r_6 = 0 → (P_G_in n C_2 v2 0 999 (fun (r_15 : Int) => (r_15 = 0 → (P_G_finds n C_2 v0 0 (fun (r_28 : Int) (C_29 : Cn) => Q r_28 C_29))) ∧ (¬ r_15 = 0 → (∃ f_27 : Nat, lp (B_G_within_35 n C_2 v0 v1 v2 Q) f_27 (0, 0)))))))))
theorem m_G_within (l : Launch) (E : Ev) (n : Nat) (C : Cn) (v0 v1 v2 : Int) (Q : Int → Cn → Prop) (h : P_G_within n C v0 v1 v2 Q) : MA l y_G_within M_G_within E true C n [(2, v0), (0, v1), (0, v2)] (fun r C2 n2 => n2 = n ∧ Q r C2) := by
  refine MA.of (by decide) rfl rfl 2 rfl (fun p e s m args below meth c => ?_)
  show AW p l e _ s m args below meth c E M_G_within true _ n 0 0 0 [(2, v0), (0, v1), (0, v2), (9, 0), (9, 0)] [] C
  unfold P_G_within at h
  refine AW.ra_n (dc hd_G_within 0 rfl) rfl rfl rfl ?_
  obtain ⟨g_1, h⟩ := h
  refine AW.callV (As := []) (rest := []) (ci := 10) (m_G_costs l E n C v0 _ h) cb_10_349 im_G_costs se_G_costs ⟨_, _, rfl⟩ (by decide) (dc hd_G_within 1 rfl) g_1 rfl rfl ⟨Nat.le_of_ble_eq_true rfl, Nat.le_of_ble_eq_true rfl⟩ ⟨(Nat.le_of_ble_eq_true rfl), (Nat.le_of_ble_eq_true rfl)⟩ (Nat.le_of_ble_eq_true rfl) (fun _ h => by cases h) (fun _ => rfl) (fun u_4 C_2 d_5 q_3 => ?_)
  obtain ⟨q_3a, h⟩ := q_3
  subst d_5
  show AW p l e _ s m args below meth c E M_G_within true _ n _ _ _ [(2, v0), (0, v1), (0, v2), (9, 0), (9, 0)] [] C_2
  refine AW.ra_n (dc hd_G_within 2 rfl) rfl rfl rfl ?_
  refine AW.iload_n (dc hd_G_within 3 rfl) rfl ?_
  refine AW.callV (As := [(0, v1)]) (rest := []) (ci := 10) (m_G_isField l E n C_2 v0 v1 _ h) cb_10_264 im_G_isField se_G_isField ⟨_, _, rfl⟩ (by decide) (dc hd_G_within 4 rfl) g_1 rfl rfl ⟨Nat.le_of_ble_eq_true rfl, Nat.le_of_ble_eq_true rfl⟩ ⟨(Nat.le_of_ble_eq_true rfl), (Nat.le_of_ble_eq_true rfl)⟩ (Nat.le_of_ble_eq_true rfl) (fun _ h => by cases h) (fun _ => rfl) (fun r_6 D_8 d_9 q_7 => ?_)
  obtain ⟨q_7a, q_7b, h⟩ := q_7
  subst D_8
  subst d_9
  show AW p l e _ s m args below meth c E M_G_within true _ n _ _ _ [(2, v0), (0, v1), (0, v2), (9, 0), (9, 0)] [(0, r_6)] C_2
  refine AW.if_eq (t := 24) (dc hd_G_within 5 rfl) (by decide) (fun c_10 => ?_) (fun c_10 => ?_)
  · have h := h.1 c_10
    refine AW.ra_n (dc hd_G_within 12 rfl) rfl rfl rfl ?_
    refine AW.iconst (dc hd_G_within 13 rfl) (by decide) ?_
    refine AW.callV (As := [(0, 0)]) (rest := []) (ci := 10) (m_G_finds l E n C_2 v0 0 _ h) cb_10_186 im_G_finds se_G_finds ⟨_, _, rfl⟩ (by decide) (dc hd_G_within 14 rfl) g_1 rfl rfl ⟨Nat.le_of_ble_eq_true rfl, Nat.le_of_ble_eq_true rfl⟩ ⟨(Nat.le_of_ble_eq_true rfl), (Nat.le_of_ble_eq_true rfl)⟩ (Nat.le_of_ble_eq_true rfl) (fun _ h => by cases h) (fun _ => rfl) (fun r_11 C_12 d_14 q_13 => ?_)
    obtain ⟨q_13a, h⟩ := q_13
    subst d_14
    show AW p l e _ s m args below meth c E M_G_within true _ n _ _ _ [(2, v0), (0, v1), (0, v2), (9, 0), (9, 0)] [(0, r_11)] C_12
    exact AW.iret (dc hd_G_within 15 rfl) rfl rfl (Nat.le_of_ble_eq_true rfl) (Nat.le_of_ble_eq_true rfl) ⟨rfl, h⟩
  · have h := h.2 c_10
    refine AW.iload_n (dc hd_G_within 6 rfl) rfl ?_
    refine AW.i2l (dc hd_G_within 7 rfl) ?_
    refine AW.lconst (v := 0) (dc hd_G_within 8 rfl) (by decide) (by decide +kernel) ?_
    refine AW.ldc2 (v := 999) (dc hd_G_within 9 rfl) ck_10_352 (by decide) rfl ?_
    refine AW.callS (As := [(1, v2), (1, 0), (1, 999)]) (rest := []) (m_G_in l E n C_2 v2 0 999 _ h) cb_10_113 sm_G_in (dc hd_G_within 10 rfl) rfl rfl ⟨Nat.le_of_ble_eq_true rfl, Nat.le_of_ble_eq_true rfl⟩ ⟨(Nat.le_of_ble_eq_true rfl), (Nat.le_of_ble_eq_true rfl)⟩ (Nat.le_of_ble_eq_true rfl) (fun _ h => by cases h) (fun _ => rfl) (fun r_15 D_17 d_18 q_16 => ?_)
    obtain ⟨q_16a, q_16b, h⟩ := q_16
    subst D_17
    subst d_18
    show AW p l e _ s m args below meth c E M_G_within true _ n _ _ _ [(2, v0), (0, v1), (0, v2), (9, 0), (9, 0)] [(0, r_15)] C_2
    refine AW.if_ne (t := 30) (dc hd_G_within 11 rfl) (by decide) (fun c_19 => ?_) (fun c_19 => ?_)
    · have h := h.2 c_19
      refine AW.iconst (dc hd_G_within 16 rfl) (by decide) ?_
      refine AW.istore_n [(2, v0), (0, v1), (0, v2), (0, 0), (9, 0)] (dc hd_G_within 17 rfl) (Nat.le_of_ble_eq_true rfl) rfl rfl ?_
      refine AW.iconst (dc hd_G_within 18 rfl) (by decide) ?_
      refine AW.istore [(2, v0), (0, v1), (0, v2), (0, 0), (0, 0)] (dc hd_G_within 19 rfl) (Nat.le_of_ble_eq_true rfl) rfl rfl ?_
      obtain ⟨f_27, h⟩ := h
      exact aB_G_within_35 n C_2 v0 v1 v2 Q f_27 (0, 0) h
    · have h := h.1 c_19
      refine AW.ra_n (dc hd_G_within 12 rfl) rfl rfl rfl ?_
      refine AW.iconst (dc hd_G_within 13 rfl) (by decide) ?_
      refine AW.callV (As := [(0, 0)]) (rest := []) (ci := 10) (m_G_finds l E n C_2 v0 0 _ h) cb_10_186 im_G_finds se_G_finds ⟨_, _, rfl⟩ (by decide) (dc hd_G_within 14 rfl) g_1 rfl rfl ⟨Nat.le_of_ble_eq_true rfl, Nat.le_of_ble_eq_true rfl⟩ ⟨(Nat.le_of_ble_eq_true rfl), (Nat.le_of_ble_eq_true rfl)⟩ (Nat.le_of_ble_eq_true rfl) (fun _ h => by cases h) (fun _ => rfl) (fun r_28 C_29 d_31 q_30 => ?_)
      obtain ⟨q_30a, h⟩ := q_30
      subst d_31
      show AW p l e _ s m args below meth c E M_G_within true _ n _ _ _ [(2, v0), (0, v1), (0, v2), (9, 0), (9, 0)] [(0, r_28)] C_29
      exact AW.iret (dc hd_G_within 15 rfl) rfl rfl (Nat.le_of_ble_eq_true rfl) (Nat.le_of_ble_eq_true rfl) ⟨rfl, h⟩
def P_G_costBetween (n : Nat) (C : Cn) (v0 v1 v2 v3 v4 : Int) (Q : Int → Cn → Prop) : Prop :=
  okO n v0 10 ∧ (P_G_costs n C v0 (fun (_ : Int) (C_2 : Cn) => P_G_isIn n C_2 v0 v1 v2 (fun (r_6 : Int) (C_7 : Cn) => okO n (PT v0.toNat 32) 17 ∧ (okI (PT v0.toNat 32) r_6 ∧ (P_G_isIn n C_7 v0 v3 v4 (fun (r_12 : Int) (C_13 : Cn) => okO n (PT (PT v0.toNat 32).toNat r_6.toNat) 12 ∧ (okI (PT (PT v0.toNat 32).toNat r_6.toNat) r_12 ∧ (Q (C_13 (PT (PT v0.toNat 32).toNat r_6.toNat).toNat r_12.toNat) C_13))))))))
theorem m_G_costBetween (l : Launch) (E : Ev) (n : Nat) (C : Cn) (v0 v1 v2 v3 v4 : Int) (Q : Int → Cn → Prop) (h : P_G_costBetween n C v0 v1 v2 v3 v4 Q) : MA l y_G_costBetween M_G_costBetween E true C n [(2, v0), (0, v1), (0, v2), (0, v3), (0, v4)] (fun r C2 n2 => n2 = n ∧ Q r C2) := by
  refine MA.of (by decide) rfl rfl 0 rfl (fun p e s m args below meth c => ?_)
  show AW p l e _ s m args below meth c E M_G_costBetween true _ n 0 0 0 [(2, v0), (0, v1), (0, v2), (0, v3), (0, v4)] [] C
  unfold P_G_costBetween at h
  refine AW.ra_n (dc hd_G_costBetween 0 rfl) rfl rfl rfl ?_
  obtain ⟨g_1, h⟩ := h
  refine AW.callV (As := []) (rest := []) (ci := 10) (m_G_costs l E n C v0 _ h) cb_10_349 im_G_costs se_G_costs ⟨_, _, rfl⟩ (by decide) (dc hd_G_costBetween 1 rfl) g_1 rfl rfl ⟨Nat.le_of_ble_eq_true rfl, Nat.le_of_ble_eq_true rfl⟩ ⟨(Nat.le_of_ble_eq_true rfl), (Nat.le_of_ble_eq_true rfl)⟩ (Nat.le_of_ble_eq_true rfl) (fun _ h => by cases h) (fun _ => rfl) (fun u_4 C_2 d_5 q_3 => ?_)
  obtain ⟨q_3a, h⟩ := q_3
  subst d_5
  show AW p l e _ s m args below meth c E M_G_costBetween true _ n _ _ _ [(2, v0), (0, v1), (0, v2), (0, v3), (0, v4)] [] C_2
  refine AW.ra_n (dc hd_G_costBetween 2 rfl) rfl rfl rfl ?_
  refine AW.getp fl_10_70 (dc hd_G_costBetween 3 rfl) g_1 rfl ?_
  refine AW.ra_n (dc hd_G_costBetween 4 rfl) rfl rfl rfl ?_
  refine AW.iload_n (dc hd_G_costBetween 5 rfl) rfl ?_
  refine AW.iload_n (dc hd_G_costBetween 6 rfl) rfl ?_
  refine AW.callV (As := [(0, v1), (0, v2)]) (rest := [(2, PT v0.toNat 32)]) (ci := 10) (m_G_isIn l E n C_2 v0 v1 v2 _ h) cb_10_281 im_G_isIn se_G_isIn ⟨_, _, rfl⟩ (by decide) (dc hd_G_costBetween 7 rfl) g_1 rfl rfl ⟨Nat.le_of_ble_eq_true rfl, Nat.le_of_ble_eq_true rfl⟩ ⟨(Nat.le_of_ble_eq_true rfl), (Nat.le_of_ble_eq_true rfl)⟩ (Nat.le_of_ble_eq_true rfl) (fun _ h => by cases h) (fun _ => rfl) (fun r_6 C_7 d_9 q_8 => ?_)
  obtain ⟨q_8a, h⟩ := q_8
  subst d_9
  show AW p l e _ s m args below meth c E M_G_costBetween true _ n _ _ _ [(2, v0), (0, v1), (0, v2), (0, v3), (0, v4)] [(0, r_6), (2, PT v0.toNat 32)] C_7
  obtain ⟨g_10, h⟩ := h
  obtain ⟨g_11, h⟩ := h
  refine AW.aaldp (by decide) (dc hd_G_costBetween 8 rfl) g_10 g_11 rfl ?_
  refine AW.ra_n (dc hd_G_costBetween 9 rfl) rfl rfl rfl ?_
  refine AW.iload_n (dc hd_G_costBetween 10 rfl) rfl ?_
  refine AW.iload (dc hd_G_costBetween 11 rfl) rfl ?_
  refine AW.callV (As := [(0, v3), (0, v4)]) (rest := [(2, PT (PT v0.toNat 32).toNat r_6.toNat)]) (ci := 10) (m_G_isIn l E n C_7 v0 v3 v4 _ h) cb_10_281 im_G_isIn se_G_isIn ⟨_, _, rfl⟩ (by decide) (dc hd_G_costBetween 12 rfl) g_1 rfl rfl ⟨Nat.le_of_ble_eq_true rfl, Nat.le_of_ble_eq_true rfl⟩ ⟨(Nat.le_of_ble_eq_true rfl), (Nat.le_of_ble_eq_true rfl)⟩ (Nat.le_of_ble_eq_true rfl) (fun _ h => by cases h) (fun _ => rfl) (fun r_12 C_13 d_15 q_14 => ?_)
  obtain ⟨q_14a, h⟩ := q_14
  subst d_15
  show AW p l e _ s m args below meth c E M_G_costBetween true _ n _ _ _ [(2, v0), (0, v1), (0, v2), (0, v3), (0, v4)] [(0, r_12), (2, PT (PT v0.toNat 32).toNat r_6.toNat)] C_13
  obtain ⟨g_16, h⟩ := h
  obtain ⟨g_17, h⟩ := h
  refine AW.iald (dc hd_G_costBetween 13 rfl) g_16 g_17 ?_
  exact AW.iret (dc hd_G_costBetween 14 rfl) rfl rfl (Nat.le_of_ble_eq_true rfl) (Nat.le_of_ble_eq_true rfl) ⟨rfl, h⟩
end
