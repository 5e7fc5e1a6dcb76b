section
variable {p : Program} {l : Launch} {e : Env} {R : Room} {s : State} {m : MethodId} {args : Array Value} {below : List Frame} {meth : Method} {c : Code} {E : Ev}
def P_F_best (n : Nat) (C : Cn) (v0 : Int) (Q : Int → Cn → Prop) : Prop :=
  okO n v0 9 ∧ (okO n (PT v0.toNat 5) 4 ∧ (P_Se_bestOrder n C (PT v0.toNat 5) (fun (r_2 : Int) (C_4 : Cn) => Q r_2 C_4)))
theorem m_F_best (l : Launch) (E : Ev) (n : Nat) (C : Cn) (v0 : Int) (Q : Int → Cn → Prop) (h : P_F_best n C v0 Q) : MA l y_F_best M_F_best E true C n [(2, v0)] (fun r C2 n2 => n2 = n ∧ Q r C2) := by
  refine MA.of (by decide) rfl rfl 0 rfl (fun p e s m args below meth c => ?_)
  show AW p l e _ s m args below meth c E M_F_best true _ n 0 0 0 [(2, v0)] [] C
  unfold P_F_best at h
  refine AW.ra_n (dc hd_F_best 0 rfl) rfl rfl rfl ?_
  obtain ⟨g_1, h⟩ := h
  refine AW.getp fl_9_37 (dc hd_F_best 1 rfl) g_1 rfl ?_
  obtain ⟨g_3, h⟩ := h
  refine AW.callV (As := []) (rest := []) (ci := 4) (m_Se_bestOrder l E n C (PT v0.toNat 5) _ h) cb_9_265 im_Se_bestOrder se_Se_bestOrder ⟨_, _, rfl⟩ (by decide) (dc hd_F_best 2 rfl) g_3 rfl rfl ⟨Nat.le_of_ble_eq_true rfl, Nat.le_of_ble_eq_true rfl⟩ ⟨(Nat.le_of_ble_eq_true rfl), (Nat.le_of_ble_eq_true rfl)⟩ (Nat.le_of_ble_eq_true rfl) (fun _ h => by cases h) (fun _ => rfl) (fun r_2 C_4 d_6 q_5 => ?_)
  obtain ⟨q_5a, h⟩ := q_5
  subst d_6
  show AW p l e _ s m args below meth c E M_F_best true _ n _ _ _ [(2, v0)] [(0, r_2)] C_4
  exact AW.iret (dc hd_F_best 3 rfl) rfl rfl (Nat.le_of_ble_eq_true rfl) (Nat.le_of_ble_eq_true rfl) ⟨rfl, h⟩
def B_F_renumber_38 (n : Nat) (v0 : Int) (Q : Int → Cn → Prop) (kz38 : Cn × Int → Prop) (z : Cn × Int) : Prop := match z with
  | (C, v2) => okO n v0 9 ∧ (okO n (PT v0.toNat 0) 1 ∧ ((C (PT v0.toNat 0).toNat 1 ≤ v2 → (P_F_settle n C v0 (fun (_ : Int) (C_20 : Cn) => Q 1 C_20))) ∧ (¬ C (PT v0.toNat 0).toNat 1 ≤ v2 → (okO n (PT (PT v0.toNat 0).toNat 0) 16 ∧ (okI (PT (PT v0.toNat 0).toNat 0) v2 ∧ (okO n (PT v0.toNat 2) 1 ∧ (okO n (PT v0.toNat 5) 4 ∧ (okO n (PT (PT v0.toNat 5).toNat 1) 12 ∧ (okI (PT (PT v0.toNat 5).toNat 1) v2 ∧ (okO n (PT (PT v0.toNat 2).toNat 0) 16 ∧ (okI (PT (PT v0.toNat 2).toNat 0) (C (PT (PT v0.toNat 5).toNat 1).toNat v2.toNat) ∧ (okO n (PT (PT (PT v0.toNat 0).toNat 0).toNat v2.toNat) 7 ∧ (P_Wa_take n C (PT (PT (PT v0.toNat 0).toNat 0).toNat v2.toNat) (PT (PT (PT v0.toNat 2).toNat 0).toNat (C (PT (PT v0.toNat 5).toNat 1).toNat v2.toNat).toNat) (fun (_ : Int) (C_33 : Cn) => kz38 (C_33, w32 (v2 + 1))))))))))))))))
theorem bB_F_renumber_38 (n : Nat) (v0 : Int) (Q : Int → Cn → Prop) (kz38 : Cn × Int → Prop) (hkz38 : ∀ (Cz : Cn) (z2 : Int), kz38 (Cz, z2) → AW p l e R s m args below meth c E M_F_renumber true (fun r C2 n2 => n2 = n ∧ Q r C2) n 0 0 38 [(2, v0), (9, 0), (0, z2)] [] Cz) (C : Cn) (v2 : Int) (h : B_F_renumber_38 n v0 Q kz38 (C, v2)) : AW p l e R s m args below meth c E M_F_renumber true (fun r C2 n2 => n2 = n ∧ Q r C2) n 0 0 38 [(2, v0), (9, 0), (0, v2)] [] C := by
  unfold B_F_renumber_38 at h
  dsimp only at h
  refine AW.iload_n (dc hd_F_renumber 20 rfl) rfl ?_
  refine AW.ra_n (dc hd_F_renumber 21 rfl) rfl rfl rfl ?_
  obtain ⟨g_17, h⟩ := h
  refine AW.getp fl_9_12 (dc hd_F_renumber 22 rfl) g_17 rfl ?_
  obtain ⟨g_18, h⟩ := h
  refine AW.getf fl_9_105 (dc hd_F_renumber 23 rfl) g_18 ?_
  refine AW.icmp_ge (t := 84) (dc hd_F_renumber 24 rfl) (by decide) (fun c_19 => ?_) (fun c_19 => ?_)
  · have h := h.1 c_19
    refine AW.ra_n (dc hd_F_renumber 42 rfl) rfl rfl rfl ?_
    refine AW.callV (As := []) (rest := []) (ci := 9) (m_F_settle l E n C v0 _ h) cb_9_90 im_F_settle se_F_settle ⟨_, _, rfl⟩ (by decide) (dc hd_F_renumber 43 rfl) g_17 rfl rfl ⟨Nat.le_of_ble_eq_true rfl, Nat.le_of_ble_eq_true rfl⟩ ⟨(Nat.le_of_ble_eq_true rfl), (Nat.le_of_ble_eq_true rfl)⟩ (Nat.le_of_ble_eq_true rfl) (fun _ h => by cases h) (fun _ => rfl) (fun u_22 C_20 d_23 q_21 => ?_)
    obtain ⟨q_21a, h⟩ := q_21
    subst d_23
    show AW p l e _ s m args below meth c E M_F_renumber true _ n _ _ _ [(2, v0), (9, 0), (0, v2)] [] C_20
    refine AW.iconst (dc hd_F_renumber 44 rfl) (by decide) ?_
    exact AW.iret (dc hd_F_renumber 45 rfl) rfl rfl (Nat.le_of_ble_eq_true rfl) (Nat.le_of_ble_eq_true rfl) ⟨rfl, h⟩
  · have h := h.2 c_19
    refine AW.ra_n (dc hd_F_renumber 25 rfl) rfl rfl rfl ?_
    refine AW.getp fl_9_12 (dc hd_F_renumber 26 rfl) g_17 rfl ?_
    refine AW.getp fl_9_128 (dc hd_F_renumber 27 rfl) g_18 rfl ?_
    refine AW.iload_n (dc hd_F_renumber 28 rfl) rfl ?_
    obtain ⟨g_24, h⟩ := h
    obtain ⟨g_25, h⟩ := h
    refine AW.aaldp (by decide) (dc hd_F_renumber 29 rfl) g_24 g_25 rfl ?_
    refine AW.ra_n (dc hd_F_renumber 30 rfl) rfl rfl rfl ?_
    refine AW.getp fl_9_19 (dc hd_F_renumber 31 rfl) g_17 rfl ?_
    obtain ⟨g_26, h⟩ := h
    refine AW.getp fl_9_128 (dc hd_F_renumber 32 rfl) g_26 rfl ?_
    refine AW.ra_n (dc hd_F_renumber 33 rfl) rfl rfl rfl ?_
    refine AW.getp fl_9_37 (dc hd_F_renumber 34 rfl) g_17 rfl ?_
    obtain ⟨g_27, h⟩ := h
    refine AW.getp fl_9_262 (dc hd_F_renumber 35 rfl) g_27 rfl ?_
    refine AW.iload_n (dc hd_F_renumber 36 rfl) rfl ?_
    obtain ⟨g_28, h⟩ := h
    obtain ⟨g_29, h⟩ := h
    refine AW.iald (dc hd_F_renumber 37 rfl) g_28 g_29 ?_
    obtain ⟨g_30, h⟩ := h
    obtain ⟨g_31, h⟩ := h
    refine AW.aaldp (by decide) (dc hd_F_renumber 38 rfl) g_30 g_31 rfl ?_
    obtain ⟨g_32, h⟩ := h
    refine AW.callV (As := [(2, PT (PT (PT v0.toNat 2).toNat 0).toNat (C (PT (PT v0.toNat 5).toNat 1).toNat v2.toNat).toNat)]) (rest := []) (ci := 7) (m_Wa_take l E n C (PT (PT (PT v0.toNat 0).toNat 0).toNat v2.toNat) (PT (PT (PT v0.toNat 2).toNat 0).toNat (C (PT (PT v0.toNat 5).toNat 1).toNat v2.toNat).toNat) _ h) cb_9_272 im_Wa_take se_Wa_take ⟨_, _, rfl⟩ (by decide) (dc hd_F_renumber 39 rfl) g_32 rfl rfl ⟨Nat.le_of_ble_eq_true rfl, Nat.le_of_ble_eq_true rfl⟩ ⟨(Nat.le_of_ble_eq_true rfl), (Nat.le_of_ble_eq_true rfl)⟩ (Nat.le_of_ble_eq_true rfl) (fun _ h => by cases h) (fun _ => rfl) (fun u_35 C_33 d_36 q_34 => ?_)
    obtain ⟨q_34a, h⟩ := q_34
    subst d_36
    show AW p l e _ s m args below meth c E M_F_renumber true _ n _ _ _ [(2, v0), (9, 0), (0, v2)] [] C_33
    refine AW.iinc [(2, v0), (9, 0), (0, w32 (v2 + 1))] (dc hd_F_renumber 40 rfl) rfl (Nat.le_of_ble_eq_true rfl) rfl rfl ?_
    refine AW.goto (t := 38) (dc hd_F_renumber 41 rfl) (by decide) ?_
    exact hkz38 C_33 (w32 (v2 + 1)) h
theorem aB_F_renumber_38 (n : Nat) (v0 : Int) (Q : Int → Cn → Prop) : ∀ (f : Nat) (z : Cn × Int), lp (B_F_renumber_38 n v0 Q) f z → AW p l e R s m args below meth c E M_F_renumber true (fun r C2 n2 => n2 = n ∧ Q r C2) n 0 0 38 [(2, v0), (9, 0), (0, z.2)] [] (z.1) := by
  intro f
  induction f with
  | zero => intro z h; exact False.elim h
  | succ f ih => intro z h; exact bB_F_renumber_38 n v0 Q (lp (B_F_renumber_38 n v0 Q) f) (fun a0 a1 h => ih (a0, a1) h) z.1 z.2 h
def P_F_renumber (n : Nat) (C : Cn) (v0 v1 : Int) (Q : Int → Cn → Prop) : Prop :=
  okO n v0 9 ∧ (okO n (PT v0.toNat 5) 4 ∧ (P_Se_isOrder n C (PT v0.toNat 5) v1 (fun (r_2 : Int) => (r_2 = 0 → (P_F_tell n C v0 0 (fun (r_38 : Int) (C_39 : Cn) => Q r_38 C_39))) ∧ (¬ r_2 = 0 → (P_Se_takeOrder n C (PT v0.toNat 5) v1 (fun (_ : Int) (C_8 : Cn) => okO n (PT v0.toNat 2) 1 ∧ (P_Es_takeAll n C_8 (PT v0.toNat 2) (PT v0.toNat 0) (fun (_ : Int) (C_13 : Cn) => ∃ f_37 : Nat, lp (B_F_renumber_38 n v0 Q) f_37 (C_13, 0)))))))))
theorem m_F_renumber (l : Launch) (E : Ev) (n : Nat) (C : Cn) (v0 v1 : Int) (Q : Int → Cn → Prop) (h : P_F_renumber n C v0 v1 Q) : MA l y_F_renumber M_F_renumber E true C n [(2, v0), (0, v1)] (fun r C2 n2 => n2 = n ∧ Q r C2) := by
  refine MA.of (by decide) rfl rfl 1 rfl (fun p e s m args below meth c => ?_)
  show AW p l e _ s m args below meth c E M_F_renumber true _ n 0 0 0 [(2, v0), (0, v1), (9, 0)] [] C
  unfold P_F_renumber at h
  refine AW.ra_n (dc hd_F_renumber 0 rfl) rfl rfl rfl ?_
  obtain ⟨g_1, h⟩ := h
  refine AW.getp fl_9_37 (dc hd_F_renumber 1 rfl) g_1 rfl ?_
  refine AW.iload_n (dc hd_F_renumber 2 rfl) rfl ?_
  obtain ⟨g_3, h⟩ := h
  refine AW.callV (As := [(0, v1)]) (rest := []) (ci := 4) (m_Se_isOrder l E n C (PT v0.toNat 5) v1 _ h) cb_9_259 im_Se_isOrder se_Se_isOrder ⟨_, _, rfl⟩ (by decide) (dc hd_F_renumber 3 rfl) g_3 rfl rfl ⟨Nat.le_of_ble_eq_true rfl, Nat.le_of_ble_eq_true rfl⟩ ⟨(Nat.le_of_ble_eq_true rfl), (Nat.le_of_ble_eq_true rfl)⟩ (Nat.le_of_ble_eq_true rfl) (fun _ h => by cases h) (fun _ => rfl) (fun r_2 D_5 d_6 q_4 => ?_)
  obtain ⟨q_4a, q_4b, h⟩ := q_4
  subst D_5
  subst d_6
  show AW p l e _ s m args below meth c E M_F_renumber true _ n _ _ _ [(2, v0), (0, v1), (9, 0)] [(0, r_2)] C
  refine AW.if_ne (t := 17) (dc hd_F_renumber 4 rfl) (by decide) (fun c_7 => ?_) (fun c_7 => ?_)
  · have h := h.2 c_7
    refine AW.ra_n (dc hd_F_renumber 9 rfl) rfl rfl rfl ?_
    refine AW.getp fl_9_37 (dc hd_F_renumber 10 rfl) g_1 rfl ?_
    refine AW.iload_n (dc hd_F_renumber 11 rfl) rfl ?_
    refine AW.callV (As := [(0, v1)]) (rest := []) (ci := 4) (m_Se_takeOrder l E n C (PT v0.toNat 5) v1 _ h) cb_9_246 im_Se_takeOrder se_Se_takeOrder ⟨_, _, rfl⟩ (by decide) (dc hd_F_renumber 12 rfl) g_3 rfl rfl ⟨Nat.le_of_ble_eq_true rfl, Nat.le_of_ble_eq_true rfl⟩ ⟨(Nat.le_of_ble_eq_true rfl), (Nat.le_of_ble_eq_true rfl)⟩ (Nat.le_of_ble_eq_true rfl) (fun _ h => by cases h) (fun _ => rfl) (fun u_10 C_8 d_11 q_9 => ?_)
    obtain ⟨q_9a, h⟩ := q_9
    subst d_11
    show AW p l e _ s m args below meth c E M_F_renumber true _ n _ _ _ [(2, v0), (0, v1), (9, 0)] [] C_8
    refine AW.ra_n (dc hd_F_renumber 13 rfl) rfl rfl rfl ?_
    refine AW.getp fl_9_19 (dc hd_F_renumber 14 rfl) g_1 rfl ?_
    refine AW.ra_n (dc hd_F_renumber 15 rfl) rfl rfl rfl ?_
    refine AW.getp fl_9_12 (dc hd_F_renumber 16 rfl) g_1 rfl ?_
    obtain ⟨g_12, h⟩ := h
    refine AW.callV (As := [(2, PT v0.toNat 0)]) (rest := []) (ci := 1) (m_Es_takeAll l E n C_8 (PT v0.toNat 2) (PT v0.toNat 0) _ h) cb_9_268 im_Es_takeAll se_Es_takeAll ⟨_, _, rfl⟩ (by decide) (dc hd_F_renumber 17 rfl) g_12 rfl rfl ⟨Nat.le_of_ble_eq_true rfl, Nat.le_of_ble_eq_true rfl⟩ ⟨(Nat.le_of_ble_eq_true rfl), (Nat.le_of_ble_eq_true rfl)⟩ (Nat.le_of_ble_eq_true rfl) (fun _ h => by cases h) (fun _ => rfl) (fun u_15 C_13 d_16 q_14 => ?_)
    obtain ⟨q_14a, h⟩ := q_14
    subst d_16
    show AW p l e _ s m args below meth c E M_F_renumber true _ n _ _ _ [(2, v0), (0, v1), (9, 0)] [] C_13
    refine AW.iconst (dc hd_F_renumber 18 rfl) (by decide) ?_
    refine AW.istore_n [(2, v0), (0, v1), (0, 0)] (dc hd_F_renumber 19 rfl) (Nat.le_of_ble_eq_true rfl) rfl rfl ?_
    obtain ⟨f_37, h⟩ := h
    refine AW.fgt [(2, v0), (9, 0), (0, 0)] ⟨.inl rfl, .inr rfl, .inl rfl, trivial⟩ ?_
    exact aB_F_renumber_38 n v0 Q f_37 (C_13, 0) h
  · have h := h.1 c_7
    refine AW.ra_n (dc hd_F_renumber 5 rfl) rfl rfl rfl ?_
    refine AW.iconst (dc hd_F_renumber 6 rfl) (by decide) ?_
    refine AW.callV (As := [(0, 0)]) (rest := []) (ci := 9) (m_F_tell l E n C v0 0 _ h) cb_9_101 im_F_tell se_F_tell ⟨_, _, rfl⟩ (by decide) (dc hd_F_renumber 7 rfl) g_1 rfl rfl ⟨Nat.le_of_ble_eq_true rfl, Nat.le_of_ble_eq_true rfl⟩ ⟨(Nat.le_of_ble_eq_true rfl), (Nat.le_of_ble_eq_true rfl)⟩ (Nat.le_of_ble_eq_true rfl) (fun _ h => by cases h) (fun _ => rfl) (fun r_38 C_39 d_41 q_40 => ?_)
    obtain ⟨q_40a, h⟩ := q_40
    subst d_41
    show AW p l e _ s m args below meth c E M_F_renumber true _ n _ _ _ [(2, v0), (0, v1), (9, 0)] [(0, r_38)] C_39
    exact AW.iret (dc hd_F_renumber 8 rfl) rfl rfl (Nat.le_of_ble_eq_true rfl) (Nat.le_of_ble_eq_true rfl) ⟨rfl, h⟩
def P_F_cost (n : Nat) (C : Cn) (v0 v1 v2 : Int) (Q : Int → Cn → Prop) : Prop :=
  okO n v0 9 ∧ (P_F_isField n C v0 v1 (fun (r_1 : Int) => (r_1 = 0 → (P_F_tell n C v0 0 (fun (r_7 : Int) (C_8 : Cn) => Q r_7 C_8))) ∧ (¬ r_1 = 0 → (P_F_isField n C v0 v2 (fun (r_11 : Int) => (r_11 = 0 → (P_F_tell n C v0 0 (fun (r_27 : Int) (C_28 : Cn) => Q r_27 C_28))) ∧ (¬ r_11 = 0 → (okO n (PT v0.toNat 6) 8 ∧ (P_Ws_takeTolls n C (PT v0.toNat 6) (PT v0.toNat 0) (fun (_ : Int) (C_17 : Cn) => P_Ws_spread n C_17 (PT v0.toNat 6) (PT v0.toNat 3) v1 (fun (_ : Int) (C_21 : Cn) => okO n (PT (PT v0.toNat 6).toNat 1) 12 ∧ (okI (PT (PT v0.toNat 6).toNat 1) v2 ∧ (Q (C_21 (PT (PT v0.toNat 6).toNat 1).toNat v2.toNat) C_21))))))))))))
theorem m_F_cost (l : Launch) (E : Ev) (n : Nat) (C : Cn) (v0 v1 v2 : Int) (Q : Int → Cn → Prop) (h : P_F_cost n C v0 v1 v2 Q) : MA l y_F_cost M_F_cost E true C n [(2, v0), (0, v1), (0, v2)] (fun r C2 n2 => n2 = n ∧ Q r C2) := by
  refine MA.of (by decide) rfl rfl 0 rfl (fun p e s m args below meth c => ?_)
  show AW p l e _ s m args below meth c E M_F_cost true _ n 0 0 0 [(2, v0), (0, v1), (0, v2)] [] C
  unfold P_F_cost at h
  refine AW.ra_n (dc hd_F_cost 0 rfl) rfl rfl rfl ?_
  refine AW.iload_n (dc hd_F_cost 1 rfl) rfl ?_
  obtain ⟨g_2, h⟩ := h
  refine AW.callV (As := [(0, v1)]) (rest := []) (ci := 9) (m_F_isField l E n C v0 v1 _ h) cb_9_209 im_F_isField se_F_isField ⟨_, _, rfl⟩ (by decide) (dc hd_F_cost 2 rfl) g_2 rfl rfl ⟨Nat.le_of_ble_eq_true rfl, Nat.le_of_ble_eq_true rfl⟩ ⟨(Nat.le_of_ble_eq_true rfl), (Nat.le_of_ble_eq_true rfl)⟩ (Nat.le_of_ble_eq_true rfl) (fun _ h => by cases h) (fun _ => rfl) (fun r_1 D_4 d_5 q_3 => ?_)
  obtain ⟨q_3a, q_3b, h⟩ := q_3
  subst D_4
  subst d_5
  show AW p l e _ s m args below meth c E M_F_cost true _ n _ _ _ [(2, v0), (0, v1), (0, v2)] [(0, r_1)] C
  refine AW.if_eq (t := 16) (dc hd_F_cost 3 rfl) (by decide) (fun c_6 => ?_) (fun c_6 => ?_)
  · have h := h.1 c_6
    refine AW.ra_n (dc hd_F_cost 8 rfl) rfl rfl rfl ?_
    refine AW.iconst (dc hd_F_cost 9 rfl) (by decide) ?_
    refine AW.callV (As := [(0, 0)]) (rest := []) (ci := 9) (m_F_tell l E n C v0 0 _ h) cb_9_101 im_F_tell se_F_tell ⟨_, _, rfl⟩ (by decide) (dc hd_F_cost 10 rfl) g_2 rfl rfl ⟨Nat.le_of_ble_eq_true rfl, Nat.le_of_ble_eq_true rfl⟩ ⟨(Nat.le_of_ble_eq_true rfl), (Nat.le_of_ble_eq_true rfl)⟩ (Nat.le_of_ble_eq_true rfl) (fun _ h => by cases h) (fun _ => rfl) (fun r_7 C_8 d_10 q_9 => ?_)
    obtain ⟨q_9a, h⟩ := q_9
    subst d_10
    show AW p l e _ s m args below meth c E M_F_cost true _ n _ _ _ [(2, v0), (0, v1), (0, v2)] [(0, r_7)] C_8
    exact AW.iret (dc hd_F_cost 11 rfl) rfl rfl (Nat.le_of_ble_eq_true rfl) (Nat.le_of_ble_eq_true rfl) ⟨rfl, h⟩
  · have h := h.2 c_6
    refine AW.ra_n (dc hd_F_cost 4 rfl) rfl rfl rfl ?_
    refine AW.iload_n (dc hd_F_cost 5 rfl) rfl ?_
    refine AW.callV (As := [(0, v2)]) (rest := []) (ci := 9) (m_F_isField l E n C v0 v2 _ h) cb_9_209 im_F_isField se_F_isField ⟨_, _, rfl⟩ (by decide) (dc hd_F_cost 6 rfl) g_2 rfl rfl ⟨Nat.le_of_ble_eq_true rfl, Nat.le_of_ble_eq_true rfl⟩ ⟨(Nat.le_of_ble_eq_true rfl), (Nat.le_of_ble_eq_true rfl)⟩ (Nat.le_of_ble_eq_true rfl) (fun _ h => by cases h) (fun _ => rfl) (fun r_11 D_13 d_14 q_12 => ?_)
    obtain ⟨q_12a, q_12b, h⟩ := q_12
    subst D_13
    subst d_14
    show AW p l e _ s m args below meth c E M_F_cost true _ n _ _ _ [(2, v0), (0, v1), (0, v2)] [(0, r_11)] C
    refine AW.if_ne (t := 22) (dc hd_F_cost 7 rfl) (by decide) (fun c_15 => ?_) (fun c_15 => ?_)
    · have h := h.2 c_15
      refine AW.ra_n (dc hd_F_cost 12 rfl) rfl rfl rfl ?_
      refine AW.getp fl_9_44 (dc hd_F_cost 13 rfl) g_2 rfl ?_
      refine AW.ra_n (dc hd_F_cost 14 rfl) rfl rfl rfl ?_
      refine AW.getp fl_9_12 (dc hd_F_cost 15 rfl) g_2 rfl ?_
      obtain ⟨g_16, h⟩ := h
      refine AW.callV (As := [(2, PT v0.toNat 0)]) (rest := []) (ci := 8) (m_Ws_takeTolls l E n C (PT v0.toNat 6) (PT v0.toNat 0) _ h) cb_9_275 im_Ws_takeTolls se_Ws_takeTolls ⟨_, _, rfl⟩ (by decide) (dc hd_F_cost 16 rfl) g_16 rfl rfl ⟨Nat.le_of_ble_eq_true rfl, Nat.le_of_ble_eq_true rfl⟩ ⟨(Nat.le_of_ble_eq_true rfl), (Nat.le_of_ble_eq_true rfl)⟩ (Nat.le_of_ble_eq_true rfl) (fun _ h => by cases h) (fun _ => rfl) (fun u_19 C_17 d_20 q_18 => ?_)
      obtain ⟨q_18a, h⟩ := q_18
      subst d_20
      show AW p l e _ s m args below meth c E M_F_cost true _ n _ _ _ [(2, v0), (0, v1), (0, v2)] [] C_17
      refine AW.ra_n (dc hd_F_cost 17 rfl) rfl rfl rfl ?_
      refine AW.getp fl_9_44 (dc hd_F_cost 18 rfl) g_2 rfl ?_
      refine AW.ra_n (dc hd_F_cost 19 rfl) rfl rfl rfl ?_
      refine AW.getp fl_9_25 (dc hd_F_cost 20 rfl) g_2 rfl ?_
      refine AW.iload_n (dc hd_F_cost 21 rfl) rfl ?_
      refine AW.callV (As := [(2, PT v0.toNat 3), (0, v1)]) (rest := []) (ci := 8) (m_Ws_spread l E n C_17 (PT v0.toNat 6) (PT v0.toNat 3) v1 _ h) cb_9_278 im_Ws_spread se_Ws_spread ⟨_, _, rfl⟩ (by decide) (dc hd_F_cost 22 rfl) g_16 rfl rfl ⟨Nat.le_of_ble_eq_true rfl, Nat.le_of_ble_eq_true rfl⟩ ⟨(Nat.le_of_ble_eq_true rfl), (Nat.le_of_ble_eq_true rfl)⟩ (Nat.le_of_ble_eq_true rfl) (fun _ h => by cases h) (fun _ => rfl) (fun u_23 C_21 d_24 q_22 => ?_)
      obtain ⟨q_22a, h⟩ := q_22
      subst d_24
      show AW p l e _ s m args below meth c E M_F_cost true _ n _ _ _ [(2, v0), (0, v1), (0, v2)] [] C_21
      refine AW.ra_n (dc hd_F_cost 23 rfl) rfl rfl rfl ?_
      refine AW.getp fl_9_44 (dc hd_F_cost 24 rfl) g_2 rfl ?_
      refine AW.getp fl_9_282 (dc hd_F_cost 25 rfl) g_16 rfl ?_
      refine AW.iload_n (dc hd_F_cost 26 rfl) rfl ?_
      obtain ⟨g_25, h⟩ := h
      obtain ⟨g_26, h⟩ := h
      refine AW.iald (dc hd_F_cost 27 rfl) g_25 g_26 ?_
      exact AW.iret (dc hd_F_cost 28 rfl) rfl rfl (Nat.le_of_ble_eq_true rfl) (Nat.le_of_ble_eq_true rfl) ⟨rfl, h⟩
    · have h := h.1 c_15
      refine AW.ra_n (dc hd_F_cost 8 rfl) rfl rfl rfl ?_
      refine AW.iconst (dc hd_F_cost 9 rfl) (by decide) ?_
      refine AW.callV (As := [(0, 0)]) (rest := []) (ci := 9) (m_F_tell l E n C v0 0 _ h) cb_9_101 im_F_tell se_F_tell ⟨_, _, rfl⟩ (by decide) (dc hd_F_cost 10 rfl) g_2 rfl rfl ⟨Nat.le_of_ble_eq_true rfl, Nat.le_of_ble_eq_true rfl⟩ ⟨(Nat.le_of_ble_eq_true rfl), (Nat.le_of_ble_eq_true rfl)⟩ (Nat.le_of_ble_eq_true rfl) (fun _ h => by cases h) (fun _ => rfl) (fun r_27 C_28 d_30 q_29 => ?_)
      obtain ⟨q_29a, h⟩ := q_29
      subst d_30
      show AW p l e _ s m args below meth c E M_F_cost true _ n _ _ _ [(2, v0), (0, v1), (0, v2)] [(0, r_27)] C_28
      exact AW.iret (dc hd_F_cost 11 rfl) rfl rfl (Nat.le_of_ble_eq_true rfl) (Nat.le_of_ble_eq_true rfl) ⟨rfl, h⟩
def P_F_next (n : Nat) (C : Cn) (v0 v1 v2 : Int) (Q : Int → Cn → Prop) : Prop :=
  okO n v0 9 ∧ (P_F_isField n C v0 v1 (fun (r_1 : Int) => (r_1 = 0 → (P_F_tell n C v0 0 (fun (r_7 : Int) (C_8 : Cn) => Q r_7 C_8))) ∧ (¬ r_1 = 0 → (P_F_isField n C v0 v2 (fun (r_11 : Int) => (r_11 = 0 → (P_F_tell n C v0 0 (fun (r_35 : Int) (C_36 : Cn) => Q r_35 C_36))) ∧ (¬ r_11 = 0 → ((v1 = v2 → (P_F_tell n C v0 3 (fun (r_31 : Int) (C_32 : Cn) => Q r_31 C_32))) ∧ (¬ v1 = v2 → (okO n (PT v0.toNat 6) 8 ∧ (P_Ws_takeTolls n C (PT v0.toNat 6) (PT v0.toNat 0) (fun (_ : Int) (C_19 : Cn) => P_Ws_spread n C_19 (PT v0.toNat 6) (PT v0.toNat 3) v2 (fun (_ : Int) (C_23 : Cn) => P_Ws_firstBy n C_23 (PT v0.toNat 6) (PT v0.toNat 3) v1 (fun (r_27 : Int) => Q r_27 C_23)))))))))))))
theorem m_F_next (l : Launch) (E : Ev) (n : Nat) (C : Cn) (v0 v1 v2 : Int) (Q : Int → Cn → Prop) (h : P_F_next n C v0 v1 v2 Q) : MA l y_F_next M_F_next E true C n [(2, v0), (0, v1), (0, v2)] (fun r C2 n2 => n2 = n ∧ Q r C2) := by
  refine MA.of (by decide) rfl rfl 0 rfl (fun p e s m args below meth c => ?_)
  show AW p l e _ s m args below meth c E M_F_next true _ n 0 0 0 [(2, v0), (0, v1), (0, v2)] [] C
  unfold P_F_next at h
  refine AW.ra_n (dc hd_F_next 0 rfl) rfl rfl rfl ?_
  refine AW.iload_n (dc hd_F_next 1 rfl) rfl ?_
  obtain ⟨g_2, h⟩ := h
  refine AW.callV (As := [(0, v1)]) (rest := []) (ci := 9) (m_F_isField l E n C v0 v1 _ h) cb_9_209 im_F_isField se_F_isField ⟨_, _, rfl⟩ (by decide) (dc hd_F_next 2 rfl) g_2 rfl rfl ⟨Nat.le_of_ble_eq_true rfl, Nat.le_of_ble_eq_true rfl⟩ ⟨(Nat.le_of_ble_eq_true rfl), (Nat.le_of_ble_eq_true rfl)⟩ (Nat.le_of_ble_eq_true rfl) (fun _ h => by cases h) (fun _ => rfl) (fun r_1 D_4 d_5 q_3 => ?_)
  obtain ⟨q_3a, q_3b, h⟩ := q_3
  subst D_4
  subst d_5
  show AW p l e _ s m args below meth c E M_F_next true _ n _ _ _ [(2, v0), (0, v1), (0, v2)] [(0, r_1)] C
  refine AW.if_eq (t := 16) (dc hd_F_next 3 rfl) (by decide) (fun c_6 => ?_) (fun c_6 => ?_)
  · have h := h.1 c_6
    refine AW.ra_n (dc hd_F_next 8 rfl) rfl rfl rfl ?_
    refine AW.iconst (dc hd_F_next 9 rfl) (by decide) ?_
    refine AW.callV (As := [(0, 0)]) (rest := []) (ci := 9) (m_F_tell l E n C v0 0 _ h) cb_9_101 im_F_tell se_F_tell ⟨_, _, rfl⟩ (by decide) (dc hd_F_next 10 rfl) g_2 rfl rfl ⟨Nat.le_of_ble_eq_true rfl, Nat.le_of_ble_eq_true rfl⟩ ⟨(Nat.le_of_ble_eq_true rfl), (Nat.le_of_ble_eq_true rfl)⟩ (Nat.le_of_ble_eq_true rfl) (fun _ h => by cases h) (fun _ => rfl) (fun r_7 C_8 d_10 q_9 => ?_)
    obtain ⟨q_9a, h⟩ := q_9
    subst d_10
    show AW p l e _ s m args below meth c E M_F_next true _ n _ _ _ [(2, v0), (0, v1), (0, v2)] [(0, r_7)] C_8
    exact AW.iret (dc hd_F_next 11 rfl) rfl rfl (Nat.le_of_ble_eq_true rfl) (Nat.le_of_ble_eq_true rfl) ⟨rfl, h⟩
  · have h := h.2 c_6
    refine AW.ra_n (dc hd_F_next 4 rfl) rfl rfl rfl ?_
    refine AW.iload_n (dc hd_F_next 5 rfl) rfl ?_
    refine AW.callV (As := [(0, v2)]) (rest := []) (ci := 9) (m_F_isField l E n C v0 v2 _ h) cb_9_209 im_F_isField se_F_isField ⟨_, _, rfl⟩ (by decide) (dc hd_F_next 6 rfl) g_2 rfl rfl ⟨Nat.le_of_ble_eq_true rfl, Nat.le_of_ble_eq_true rfl⟩ ⟨(Nat.le_of_ble_eq_true rfl), (Nat.le_of_ble_eq_true rfl)⟩ (Nat.le_of_ble_eq_true rfl) (fun _ h => by cases h) (fun _ => rfl) (fun r_11 D_13 d_14 q_12 => ?_)
    obtain ⟨q_12a, q_12b, h⟩ := q_12
    subst D_13
    subst d_14
    show AW p l e _ s m args below meth c E M_F_next true _ n _ _ _ [(2, v0), (0, v1), (0, v2)] [(0, r_11)] C
    refine AW.if_ne (t := 22) (dc hd_F_next 7 rfl) (by decide) (fun c_15 => ?_) (fun c_15 => ?_)
    · have h := h.2 c_15
      refine AW.iload_n (dc hd_F_next 12 rfl) rfl ?_
      refine AW.iload_n (dc hd_F_next 13 rfl) rfl ?_
      refine AW.icmp_ne (t := 33) (dc hd_F_next 14 rfl) (by decide) (fun c_17 => ?_) (fun c_17 => ?_)
      · have h := h.2 c_17
        refine AW.ra_n (dc hd_F_next 19 rfl) rfl rfl rfl ?_
        refine AW.getp fl_9_44 (dc hd_F_next 20 rfl) g_2 rfl ?_
        refine AW.ra_n (dc hd_F_next 21 rfl) rfl rfl rfl ?_
        refine AW.getp fl_9_12 (dc hd_F_next 22 rfl) g_2 rfl ?_
        obtain ⟨g_18, h⟩ := h
        refine AW.callV (As := [(2, PT v0.toNat 0)]) (rest := []) (ci := 8) (m_Ws_takeTolls l E n C (PT v0.toNat 6) (PT v0.toNat 0) _ h) cb_9_275 im_Ws_takeTolls se_Ws_takeTolls ⟨_, _, rfl⟩ (by decide) (dc hd_F_next 23 rfl) g_18 rfl rfl ⟨Nat.le_of_ble_eq_true rfl, Nat.le_of_ble_eq_true rfl⟩ ⟨(Nat.le_of_ble_eq_true rfl), (Nat.le_of_ble_eq_true rfl)⟩ (Nat.le_of_ble_eq_true rfl) (fun _ h => by cases h) (fun _ => rfl) (fun u_21 C_19 d_22 q_20 => ?_)
        obtain ⟨q_20a, h⟩ := q_20
        subst d_22
        show AW p l e _ s m args below meth c E M_F_next true _ n _ _ _ [(2, v0), (0, v1), (0, v2)] [] C_19
        refine AW.ra_n (dc hd_F_next 24 rfl) rfl rfl rfl ?_
        refine AW.getp fl_9_44 (dc hd_F_next 25 rfl) g_2 rfl ?_
        refine AW.ra_n (dc hd_F_next 26 rfl) rfl rfl rfl ?_
        refine AW.getp fl_9_25 (dc hd_F_next 27 rfl) g_2 rfl ?_
        refine AW.iload_n (dc hd_F_next 28 rfl) rfl ?_
        refine AW.callV (As := [(2, PT v0.toNat 3), (0, v2)]) (rest := []) (ci := 8) (m_Ws_spread l E n C_19 (PT v0.toNat 6) (PT v0.toNat 3) v2 _ h) cb_9_278 im_Ws_spread se_Ws_spread ⟨_, _, rfl⟩ (by decide) (dc hd_F_next 29 rfl) g_18 rfl rfl ⟨Nat.le_of_ble_eq_true rfl, Nat.le_of_ble_eq_true rfl⟩ ⟨(Nat.le_of_ble_eq_true rfl), (Nat.le_of_ble_eq_true rfl)⟩ (Nat.le_of_ble_eq_true rfl) (fun _ h => by cases h) (fun _ => rfl) (fun u_25 C_23 d_26 q_24 => ?_)
        obtain ⟨q_24a, h⟩ := q_24
        subst d_26
        show AW p l e _ s m args below meth c E M_F_next true _ n _ _ _ [(2, v0), (0, v1), (0, v2)] [] C_23
        refine AW.ra_n (dc hd_F_next 30 rfl) rfl rfl rfl ?_
        refine AW.getp fl_9_44 (dc hd_F_next 31 rfl) g_2 rfl ?_
        refine AW.ra_n (dc hd_F_next 32 rfl) rfl rfl rfl ?_
        refine AW.getp fl_9_25 (dc hd_F_next 33 rfl) g_2 rfl ?_
        refine AW.iload_n (dc hd_F_next 34 rfl) rfl ?_
        refine AW.callV (As := [(2, PT v0.toNat 3), (0, v1)]) (rest := []) (ci := 8) (m_Ws_firstBy l E n C_23 (PT v0.toNat 6) (PT v0.toNat 3) v1 _ h) cb_9_285 im_Ws_firstBy se_Ws_firstBy ⟨_, _, rfl⟩ (by decide) (dc hd_F_next 35 rfl) g_18 rfl rfl ⟨Nat.le_of_ble_eq_true rfl, Nat.le_of_ble_eq_true rfl⟩ ⟨(Nat.le_of_ble_eq_true rfl), (Nat.le_of_ble_eq_true rfl)⟩ (Nat.le_of_ble_eq_true rfl) (fun _ h => by cases h) (fun _ => rfl) (fun r_27 D_29 d_30 q_28 => ?_)
        obtain ⟨q_28a, q_28b, h⟩ := q_28
        subst D_29
        subst d_30
        show AW p l e _ s m args below meth c E M_F_next true _ n _ _ _ [(2, v0), (0, v1), (0, v2)] [(0, r_27)] C_23
        exact AW.iret (dc hd_F_next 36 rfl) rfl rfl (Nat.le_of_ble_eq_true rfl) (Nat.le_of_ble_eq_true rfl) ⟨rfl, h⟩
      · have h := h.1 c_17
        refine AW.ra_n (dc hd_F_next 15 rfl) rfl rfl rfl ?_
        refine AW.iconst (dc hd_F_next 16 rfl) (by decide) ?_
        refine AW.callV (As := [(0, 3)]) (rest := []) (ci := 9) (m_F_tell l E n C v0 3 _ h) cb_9_101 im_F_tell se_F_tell ⟨_, _, rfl⟩ (by decide) (dc hd_F_next 17 rfl) g_2 rfl rfl ⟨Nat.le_of_ble_eq_true rfl, Nat.le_of_ble_eq_true rfl⟩ ⟨(Nat.le_of_ble_eq_true rfl), (Nat.le_of_ble_eq_true rfl)⟩ (Nat.le_of_ble_eq_true rfl) (fun _ h => by cases h) (fun _ => rfl) (fun r_31 C_32 d_34 q_33 => ?_)
        obtain ⟨q_33a, h⟩ := q_33
        subst d_34
        show AW p l e _ s m args below meth c E M_F_next true _ n _ _ _ [(2, v0), (0, v1), (0, v2)] [(0, r_31)] C_32
        exact AW.iret (dc hd_F_next 18 rfl) rfl rfl (Nat.le_of_ble_eq_true rfl) (Nat.le_of_ble_eq_true rfl) ⟨rfl, h⟩
    · have h := h.1 c_15
      refine AW.ra_n (dc hd_F_next 8 rfl) rfl rfl rfl ?_
      refine AW.iconst (dc hd_F_next 9 rfl) (by decide) ?_
      refine AW.callV (As := [(0, 0)]) (rest := []) (ci := 9) (m_F_tell l E n C v0 0 _ h) cb_9_101 im_F_tell se_F_tell ⟨_, _, rfl⟩ (by decide) (dc hd_F_next 10 rfl) g_2 rfl rfl ⟨Nat.le_of_ble_eq_true rfl, Nat.le_of_ble_eq_true rfl⟩ ⟨(Nat.le_of_ble_eq_true rfl), (Nat.le_of_ble_eq_true rfl)⟩ (Nat.le_of_ble_eq_true rfl) (fun _ h => by cases h) (fun _ => rfl) (fun r_35 C_36 d_38 q_37 => ?_)
      obtain ⟨q_37a, h⟩ := q_37
      subst d_38
      show AW p l e _ s m args below meth c E M_F_next true _ n _ _ _ [(2, v0), (0, v1), (0, v2)] [(0, r_35)] C_36
      exact AW.iret (dc hd_F_next 11 rfl) rfl rfl (Nat.le_of_ble_eq_true rfl) (Nat.le_of_ble_eq_true rfl) ⟨rfl, h⟩
def B_F_within_53 (n : Nat) (C : Cn) (v0 v2 : Int) (Q : Int → Cn → Prop) (kz53 : Int × Int → Prop) (z : Int × Int) : Prop := match z with
  | (v3, v4) => okO n v0 9 ∧ (okO n (PT v0.toNat 3) 2 ∧ ((C (PT v0.toNat 3).toNat 14 ≤ v4 → (Q v3 C)) ∧ (¬ C (PT v0.toNat 3).toNat 14 ≤ v4 → (okO n (PT v0.toNat 6) 8 ∧ (okO n (PT (PT v0.toNat 6).toNat 1) 12 ∧ (okI (PT (PT v0.toNat 6).toNat 1) v4 ∧ ((v2 < C (PT (PT v0.toNat 6).toNat 1).toNat v4.toNat → (kz53 (v3, w32 (v4 + 1)))) ∧ (¬ v2 < C (PT (PT v0.toNat 6).toNat 1).toNat v4.toNat → (kz53 (w32 (v3 + 1), w32 (v4 + 1)))))))))))
theorem bB_F_within_53 (n : Nat) (C : Cn) (v0 v2 : Int) (Q : Int → Cn → Prop) (kz53 : Int × Int → Prop) (hkz53 : ∀ (z3 : Int) (z4 : Int), kz53 (z3, z4) → AW p l e R s m args below meth c E M_F_within true (fun r C2 n2 => n2 = n ∧ Q r C2) n 0 0 53 [(2, v0), (9, 0), (0, v2), (0, z3), (0, z4)] [] C) (v3 : Int) (v4 : Int) (h : B_F_within_53 n C v0 v2 Q kz53 (v3, v4)) : AW p l e R s m args below meth c E M_F_within true (fun r C2 n2 => n2 = n ∧ Q r C2) n 0 0 53 [(2, v0), (9, 0), (0, v2), (0, v3), (0, v4)] [] C := by
  unfold B_F_within_53 at h
  dsimp only at h
  refine AW.iload (dc hd_F_within 28 rfl) rfl ?_
  refine AW.ra_n (dc hd_F_within 29 rfl) rfl rfl rfl ?_
  obtain ⟨g_25, h⟩ := h
  refine AW.getp fl_9_25 (dc hd_F_within 30 rfl) g_25 rfl ?_
  obtain ⟨g_26, h⟩ := h
  refine AW.getf fl_9_187 (dc hd_F_within 31 rfl) g_26 ?_
  refine AW.icmp_ge (t := 88) (dc hd_F_within 32 rfl) (by decide) (fun c_27 => ?_) (fun c_27 => ?_)
  · have h := h.1 c_27
    refine AW.iload_n (dc hd_F_within 43 rfl) rfl ?_
    exact AW.iret (dc hd_F_within 44 rfl) rfl rfl (Nat.le_of_ble_eq_true rfl) (Nat.le_of_ble_eq_true rfl) ⟨rfl, h⟩
  · have h := h.2 c_27
    refine AW.ra_n (dc hd_F_within 33 rfl) rfl rfl rfl ?_
    refine AW.getp fl_9_44 (dc hd_F_within 34 rfl) g_25 rfl ?_
    obtain ⟨g_28, h⟩ := h
    refine AW.getp fl_9_282 (dc hd_F_within 35 rfl) g_28 rfl ?_
    refine AW.iload (dc hd_F_within 36 rfl) rfl ?_
    obtain ⟨g_29, h⟩ := h
    obtain ⟨g_30, h⟩ := h
    refine AW.iald (dc hd_F_within 37 rfl) g_29 g_30 ?_
    refine AW.iload_n (dc hd_F_within 38 rfl) rfl ?_
    refine AW.icmp_gt (t := 82) (dc hd_F_within 39 rfl) (by decide) (fun c_31 => ?_) (fun c_31 => ?_)
    · have h := h.1 c_31
      refine AW.iinc [(2, v0), (9, 0), (0, v2), (0, v3), (0, w32 (v4 + 1))] (dc hd_F_within 41 rfl) rfl (Nat.le_of_ble_eq_true rfl) rfl rfl ?_
      refine AW.goto (t := 53) (dc hd_F_within 42 rfl) (by decide) ?_
      exact hkz53 v3 (w32 (v4 + 1)) h
    · have h := h.2 c_31
      refine AW.iinc [(2, v0), (9, 0), (0, v2), (0, w32 (v3 + 1)), (0, v4)] (dc hd_F_within 40 rfl) rfl (Nat.le_of_ble_eq_true rfl) rfl rfl ?_
      refine AW.iinc [(2, v0), (9, 0), (0, v2), (0, w32 (v3 + 1)), (0, w32 (v4 + 1))] (dc hd_F_within 41 rfl) rfl (Nat.le_of_ble_eq_true rfl) rfl rfl ?_
      refine AW.goto (t := 53) (dc hd_F_within 42 rfl) (by decide) ?_
      exact hkz53 (w32 (v3 + 1)) (w32 (v4 + 1)) h
theorem aB_F_within_53 (n : Nat) (C : Cn) (v0 v2 : Int) (Q : Int → Cn → Prop) : ∀ (f : Nat) (z : Int × Int), lp (B_F_within_53 n C v0 v2 Q) f z → AW p l e R s m args below meth c E M_F_within true (fun r C2 n2 => n2 = n ∧ Q r C2) n 0 0 53 [(2, v0), (9, 0), (0, v2), (0, z.1), (0, z.2)] [] C := by
  intro f
  induction f with
  | zero => intro z h; exact False.elim h
  | succ f ih => intro z h; exact bB_F_within_53 n C v0 v2 Q (lp (B_F_within_53 n C v0 v2 Q) f) (fun a0 a1 h => ih (a0, a1) h) z.1 z.2 h
def P_F_within (n : Nat) (C : Cn) (v0 v1 v2 : Int) (Q : Int → Cn → Prop) : Prop :=
  okO n v0 9 ∧ (P_F_isField n C v0 v1 (fun (r_1 : Int) => (r_1 = 0 → (P_F_tell n C v0 0 (fun (r_7 : Int) (C_8 : Cn) => Q r_7 C_8))) ∧ (¬ r_1 = 0 → (P_F_isIn n C v2 0 999 (fun (r_11 : Int) => (r_11 = 0 → (P_F_tell n C v0 0 (fun (r_33 : Int) (C_34 : Cn) => Q r_33 C_34))) ∧ (¬ r_11 = 0 → (okO n (PT v0.toNat 6) 8 ∧ (P_Ws_takeTolls n C (PT v0.toNat 6) (PT v0.toNat 0) (fun (_ : Int) (C_17 : Cn) => P_Ws_spread n C_17 (PT v0.toNat 6) (PT v0.toNat 3) v1 (fun (_ : Int) (C_21 : Cn) => ∃ f_32 : Nat, lp (B_F_within_53 n C_21 v0 v2 Q) f_32 (0, 0)))))))))))
theorem m_F_within (l : Launch) (E : Ev) (n : Nat) (C : Cn) (v0 v1 v2 : Int) (Q : Int → Cn → Prop) (h : P_F_within n C v0 v1 v2 Q) : MA l y_F_within M_F_within E true C n [(2, v0), (0, v1), (0, v2)] (fun r C2 n2 => n2 = n ∧ Q r C2) := by
  refine MA.of (by decide) rfl rfl 2 rfl (fun p e s m args below meth c => ?_)
  show AW p l e _ s m args below meth c E M_F_within true _ n 0 0 0 [(2, v0), (0, v1), (0, v2), (9, 0), (9, 0)] [] C
  unfold P_F_within at h
  refine AW.ra_n (dc hd_F_within 0 rfl) rfl rfl rfl ?_
  refine AW.iload_n (dc hd_F_within 1 rfl) rfl ?_
  obtain ⟨g_2, h⟩ := h
  refine AW.callV (As := [(0, v1)]) (rest := []) (ci := 9) (m_F_isField l E n C v0 v1 _ h) cb_9_209 im_F_isField se_F_isField ⟨_, _, rfl⟩ (by decide) (dc hd_F_within 2 rfl) g_2 rfl rfl ⟨Nat.le_of_ble_eq_true rfl, Nat.le_of_ble_eq_true rfl⟩ ⟨(Nat.le_of_ble_eq_true rfl), (Nat.le_of_ble_eq_true rfl)⟩ (Nat.le_of_ble_eq_true rfl) (fun _ h => by cases h) (fun _ => rfl) (fun r_1 D_4 d_5 q_3 => ?_)
  obtain ⟨q_3a, q_3b, h⟩ := q_3
  subst D_4
  subst d_5
  show AW p l e _ s m args below meth c E M_F_within true _ n _ _ _ [(2, v0), (0, v1), (0, v2), (9, 0), (9, 0)] [(0, r_1)] C
  refine AW.if_eq (t := 19) (dc hd_F_within 3 rfl) (by decide) (fun c_6 => ?_) (fun c_6 => ?_)
  · have h := h.1 c_6
    refine AW.ra_n (dc hd_F_within 9 rfl) rfl rfl rfl ?_
    refine AW.iconst (dc hd_F_within 10 rfl) (by decide) ?_
    refine AW.callV (As := [(0, 0)]) (rest := []) (ci := 9) (m_F_tell l E n C v0 0 _ h) cb_9_101 im_F_tell se_F_tell ⟨_, _, rfl⟩ (by decide) (dc hd_F_within 11 rfl) g_2 rfl rfl ⟨Nat.le_of_ble_eq_true rfl, Nat.le_of_ble_eq_true rfl⟩ ⟨(Nat.le_of_ble_eq_true rfl), (Nat.le_of_ble_eq_true rfl)⟩ (Nat.le_of_ble_eq_true rfl) (fun _ h => by cases h) (fun _ => rfl) (fun r_7 C_8 d_10 q_9 => ?_)
    obtain ⟨q_9a, h⟩ := q_9
    subst d_10
    show AW p l e _ s m args below meth c E M_F_within true _ n _ _ _ [(2, v0), (0, v1), (0, v2), (9, 0), (9, 0)] [(0, r_7)] C_8
    exact AW.iret (dc hd_F_within 12 rfl) rfl rfl (Nat.le_of_ble_eq_true rfl) (Nat.le_of_ble_eq_true rfl) ⟨rfl, h⟩
  · have h := h.2 c_6
    refine AW.iload_n (dc hd_F_within 4 rfl) rfl ?_
    refine AW.iconst (dc hd_F_within 5 rfl) (by decide) ?_
    refine AW.sipush (dc hd_F_within 6 rfl) (by decide) (by decide +kernel) ?_
    refine AW.callS (As := [(0, v2), (0, 0), (0, 999)]) (rest := []) (m_F_isIn l E n C v2 0 999 _ h) cb_9_167 sm_F_isIn (dc hd_F_within 7 rfl) rfl rfl ⟨Nat.le_of_ble_eq_true rfl, Nat.le_of_ble_eq_true rfl⟩ ⟨(Nat.le_of_ble_eq_true rfl), (Nat.le_of_ble_eq_true rfl)⟩ (Nat.le_of_ble_eq_true rfl) (fun _ h => by cases h) (fun _ => rfl) (fun r_11 D_13 d_14 q_12 => ?_)
    obtain ⟨q_12a, q_12b, h⟩ := q_12
    subst D_13
    subst d_14
    show AW p l e _ s m args below meth c E M_F_within true _ n _ _ _ [(2, v0), (0, v1), (0, v2), (9, 0), (9, 0)] [(0, r_11)] C
    refine AW.if_ne (t := 25) (dc hd_F_within 8 rfl) (by decide) (fun c_15 => ?_) (fun c_15 => ?_)
    · have h := h.2 c_15
      refine AW.ra_n (dc hd_F_within 13 rfl) rfl rfl rfl ?_
      refine AW.getp fl_9_44 (dc hd_F_within 14 rfl) g_2 rfl ?_
      refine AW.ra_n (dc hd_F_within 15 rfl) rfl rfl rfl ?_
      refine AW.getp fl_9_12 (dc hd_F_within 16 rfl) g_2 rfl ?_
      obtain ⟨g_16, h⟩ := h
      refine AW.callV (As := [(2, PT v0.toNat 0)]) (rest := []) (ci := 8) (m_Ws_takeTolls l E n C (PT v0.toNat 6) (PT v0.toNat 0) _ h) cb_9_275 im_Ws_takeTolls se_Ws_takeTolls ⟨_, _, rfl⟩ (by decide) (dc hd_F_within 17 rfl) g_16 rfl rfl ⟨Nat.le_of_ble_eq_true rfl, Nat.le_of_ble_eq_true rfl⟩ ⟨(Nat.le_of_ble_eq_true rfl), (Nat.le_of_ble_eq_true rfl)⟩ (Nat.le_of_ble_eq_true rfl) (fun _ h => by cases h) (fun _ => rfl) (fun u_19 C_17 d_20 q_18 => ?_)
      obtain ⟨q_18a, h⟩ := q_18
      subst d_20
      show AW p l e _ s m args below meth c E M_F_within true _ n _ _ _ [(2, v0), (0, v1), (0, v2), (9, 0), (9, 0)] [] C_17
      refine AW.ra_n (dc hd_F_within 18 rfl) rfl rfl rfl ?_
      refine AW.getp fl_9_44 (dc hd_F_within 19 rfl) g_2 rfl ?_
      refine AW.ra_n (dc hd_F_within 20 rfl) rfl rfl rfl ?_
      refine AW.getp fl_9_25 (dc hd_F_within 21 rfl) g_2 rfl ?_
      refine AW.iload_n (dc hd_F_within 22 rfl) rfl ?_
      refine AW.callV (As := [(2, PT v0.toNat 3), (0, v1)]) (rest := []) (ci := 8) (m_Ws_spread l E n C_17 (PT v0.toNat 6) (PT v0.toNat 3) v1 _ h) cb_9_278 im_Ws_spread se_Ws_spread ⟨_, _, rfl⟩ (by decide) (dc hd_F_within 23 rfl) g_16 rfl rfl ⟨Nat.le_of_ble_eq_true rfl, Nat.le_of_ble_eq_true rfl⟩ ⟨(Nat.le_of_ble_eq_true rfl), (Nat.le_of_ble_eq_true rfl)⟩ (Nat.le_of_ble_eq_true rfl) (fun _ h => by cases h) (fun _ => rfl) (fun u_23 C_21 d_24 q_22 => ?_)
      obtain ⟨q_22a, h⟩ := q_22
      subst d_24
      show AW p l e _ s m args below meth c E M_F_within true _ n _ _ _ [(2, v0), (0, v1), (0, v2), (9, 0), (9, 0)] [] C_21
      refine AW.iconst (dc hd_F_within 24 rfl) (by decide) ?_
      refine AW.istore_n [(2, v0), (0, v1), (0, v2), (0, 0), (9, 0)] (dc hd_F_within 25 rfl) (Nat.le_of_ble_eq_true rfl) rfl rfl ?_
      refine AW.iconst (dc hd_F_within 26 rfl) (by decide) ?_
      refine AW.istore [(2, v0), (0, v1), (0, v2), (0, 0), (0, 0)] (dc hd_F_within 27 rfl) (Nat.le_of_ble_eq_true rfl) rfl rfl ?_
      obtain ⟨f_32, h⟩ := h
      refine AW.fgt [(2, v0), (9, 0), (0, v2), (0, 0), (0, 0)] ⟨.inl rfl, .inr rfl, .inl rfl, .inl rfl, .inl rfl, trivial⟩ ?_
      exact aB_F_within_53 n C_21 v0 v2 Q f_32 (0, 0) h
    · have h := h.1 c_15
      refine AW.ra_n (dc hd_F_within 9 rfl) rfl rfl rfl ?_
      refine AW.iconst (dc hd_F_within 10 rfl) (by decide) ?_
      refine AW.callV (As := [(0, 0)]) (rest := []) (ci := 9) (m_F_tell l E n C v0 0 _ h) cb_9_101 im_F_tell se_F_tell ⟨_, _, rfl⟩ (by decide) (dc hd_F_within 11 rfl) g_2 rfl rfl ⟨Nat.le_of_ble_eq_true rfl, Nat.le_of_ble_eq_true rfl⟩ ⟨(Nat.le_of_ble_eq_true rfl), (Nat.le_of_ble_eq_true rfl)⟩ (Nat.le_of_ble_eq_true rfl) (fun _ h => by cases h) (fun _ => rfl) (fun r_33 C_34 d_36 q_35 => ?_)
      obtain ⟨q_35a, h⟩ := q_35
      subst d_36
      show AW p l e _ s m args below meth c E M_F_within true _ n _ _ _ [(2, v0), (0, v1), (0, v2), (9, 0), (9, 0)] [(0, r_33)] C_34
      exact AW.iret (dc hd_F_within 12 rfl) rfl rfl (Nat.le_of_ble_eq_true rfl) (Nat.le_of_ble_eq_true rfl) ⟨rfl, h⟩
def J_F_isHeld_23 (n : Nat) (C : Cn) (s0 : Int) (Q : Int → Prop) : Prop :=
  (s0 = 0 ∨ s0 = 1) ∧ (Q s0)
theorem aJ_F_isHeld_23 (n : Nat) (C : Cn) (s0 : Int) (Q : Int → Prop) (h : J_F_isHeld_23 n C s0 Q) : AW p l e R s m args below meth c E M_F_isHeld true (fun r C2 n2 => C2 = C ∧ n2 = n ∧ Q r) n 0 0 23 [(9, 0), (9, 0), (9, 0)] [(0, s0)] C := by
  unfold J_F_isHeld_23 at h
  obtain ⟨g_8, h⟩ := h
  exact AW.zret (dc hd_F_isHeld 12 rfl) rfl rfl (Nat.le_of_ble_eq_true rfl) (Nat.le_of_ble_eq_true rfl) g_8 ⟨rfl, rfl, h⟩
def P_F_isHeld (n : Nat) (C : Cn) (v0 v1 v2 : Int) (Q : Int → Prop) : Prop :=
  okO n v0 9 ∧ (okO n (PT v0.toNat 3) 2 ∧ (P_La_thingAt n C (PT v0.toNat 3) (PT v0.toNat 0) v1 v2 (fun (r_2 : Int) => J_F_isHeld_23 n C (if 100 ≤ r_2 then 0 else 1) Q)))
theorem m_F_isHeld (l : Launch) (E : Ev) (n : Nat) (C : Cn) (v0 v1 v2 : Int) (Q : Int → Prop) (h : P_F_isHeld n C v0 v1 v2 Q) : MA l y_F_isHeld M_F_isHeld E true C n [(2, v0), (0, v1), (0, v2)] (fun r C2 n2 => C2 = C ∧ n2 = n ∧ Q r) := by
  refine MA.of (by decide) rfl rfl 0 rfl (fun p e s m args below meth c => ?_)
  show AW p l e _ s m args below meth c E M_F_isHeld true _ n 0 0 0 [(2, v0), (0, v1), (0, v2)] [] C
  unfold P_F_isHeld at h
  refine AW.ra_n (dc hd_F_isHeld 0 rfl) rfl rfl rfl ?_
  obtain ⟨g_1, h⟩ := h
  refine AW.getp fl_9_25 (dc hd_F_isHeld 1 rfl) g_1 rfl ?_
  refine AW.ra_n (dc hd_F_isHeld 2 rfl) rfl rfl rfl ?_
  refine AW.getp fl_9_12 (dc hd_F_isHeld 3 rfl) g_1 rfl ?_
  refine AW.iload_n (dc hd_F_isHeld 4 rfl) rfl ?_
  refine AW.iload_n (dc hd_F_isHeld 5 rfl) rfl ?_
  obtain ⟨g_3, h⟩ := h
  refine AW.callV (As := [(2, PT v0.toNat 0), (0, v1), (0, v2)]) (rest := []) (ci := 2) (m_La_thingAt l E n C (PT v0.toNat 3) (PT v0.toNat 0) v1 v2 _ h) cb_9_229 im_La_thingAt se_La_thingAt ⟨_, _, rfl⟩ (by decide) (dc hd_F_isHeld 6 rfl) g_3 rfl rfl ⟨Nat.le_of_ble_eq_true rfl, Nat.le_of_ble_eq_true rfl⟩ ⟨(Nat.le_of_ble_eq_true rfl), (Nat.le_of_ble_eq_true rfl)⟩ (Nat.le_of_ble_eq_true rfl) (fun _ h => by cases h) (fun _ => rfl) (fun r_2 D_5 d_6 q_4 => ?_)
  obtain ⟨q_4a, q_4b, h⟩ := q_4
  subst D_5
  subst d_6
  show AW p l e _ s m args below meth c E M_F_isHeld true _ n _ _ _ [(2, v0), (0, v1), (0, v2)] [(0, r_2)] C
  refine AW.bipush (dc hd_F_isHeld 7 rfl) (by decide) (by decide +kernel) ?_
  refine AW.icmp_ge (t := 22) (dc hd_F_isHeld 8 rfl) (by decide) (fun c_7 => ?_) (fun c_7 => ?_)
  · simp only [if_pos (show 100 ≤ r_2 from c_7)] at h
    refine AW.iconst (dc hd_F_isHeld 11 rfl) (by decide) ?_
    refine AW.fgt [(9, 0), (9, 0), (9, 0)] ⟨.inr rfl, .inr rfl, .inr rfl, trivial⟩ ?_
    exact aJ_F_isHeld_23 n C _ Q h
  · simp only [if_neg (show ¬ (100 ≤ r_2) from c_7)] at h
    refine AW.iconst (dc hd_F_isHeld 9 rfl) (by decide) ?_
    refine AW.goto (t := 23) (dc hd_F_isHeld 10 rfl) (by decide) ?_
    refine AW.fgt [(9, 0), (9, 0), (9, 0)] ⟨.inr rfl, .inr rfl, .inr rfl, trivial⟩ ?_
    exact aJ_F_isHeld_23 n C _ Q h
def B_F_lose_75 (n : Nat) (v0 v1 v2 v3 v4 : Int) (Q : Int → Cn → Prop) (kz75 : Cn × Int × Int × Int → Prop) (z : Cn × Int × Int × Int) : Prop := match z with
  | (C, v5, v6, v7) => okO n v0 9 ∧ (okO n (PT v0.toNat 0) 1 ∧ ((C (PT v0.toNat 0).toNat 1 ≤ v7 → (Q v5 C)) ∧ (¬ C (PT v0.toNat 0).toNat 1 ≤ v7 → (okO n (PT v0.toNat 2) 1 ∧ (P_Es_takeWithout n C (PT v0.toNat 2) (PT v0.toNat 0) v7 (fun (_ : Int) (C_37 : Cn) => okO n (PT v0.toNat 4) 2 ∧ (P_La_survey n C_37 (PT v0.toNat 4) (PT v0.toNat 2) (fun (_ : Int) (C_42 : Cn) => okO n (PT v0.toNat 6) 8 ∧ (P_Ws_takeTolls n C_42 (PT v0.toNat 6) (PT v0.toNat 2) (fun (_ : Int) (C_47 : Cn) => P_La_fieldAt n C_47 (PT v0.toNat 4) (PT v0.toNat 2) v1 v2 (fun (r_51 : Int) => P_La_fieldAt n C_47 (PT v0.toNat 4) (PT v0.toNat 2) v3 v4 (fun (r_55 : Int) => P_Ws_costOf n C_47 (PT v0.toNat 6) (PT v0.toNat 4) r_51 r_55 (fun (r_59 : Int) (C_60 : Cn) => (v6 ≤ r_59 → (kz75 (C_60, v5, v6, w32 (v7 + 1)))) ∧ (¬ v6 ≤ r_59 → (kz75 (C_60, v7, r_59, w32 (v7 + 1)))))))))))))))))
theorem bB_F_lose_75 (n : Nat) (v0 v1 v2 v3 v4 : Int) (Q : Int → Cn → Prop) (kz75 : Cn × Int × Int × Int → Prop) (hkz75 : ∀ (Cz : Cn) (z5 : Int) (z6 : Int) (z7 : Int), kz75 (Cz, z5, z6, z7) → AW p l e R s m args below meth c E M_F_lose true (fun r C2 n2 => n2 = n ∧ Q r C2) n 0 0 75 [(2, v0), (0, v1), (0, v2), (0, v3), (0, v4), (0, z5), (0, z6), (0, z7), (9, 0), (9, 0), (9, 0)] [] Cz) (C : Cn) (v5 : Int) (v6 : Int) (v7 : Int) (h : B_F_lose_75 n v0 v1 v2 v3 v4 Q kz75 (C, v5, v6, v7)) : AW p l e R s m args below meth c E M_F_lose true (fun r C2 n2 => n2 = n ∧ Q r C2) n 0 0 75 [(2, v0), (0, v1), (0, v2), (0, v3), (0, v4), (0, v5), (0, v6), (0, v7), (9, 0), (9, 0), (9, 0)] [] C := by
  unfold B_F_lose_75 at h
  dsimp only at h
  refine AW.iload (dc hd_F_lose 40 rfl) rfl ?_
  refine AW.ra_n (dc hd_F_lose 41 rfl) rfl rfl rfl ?_
  obtain ⟨g_33, h⟩ := h
  refine AW.getp fl_9_12 (dc hd_F_lose 42 rfl) g_33 rfl ?_
  obtain ⟨g_34, h⟩ := h
  refine AW.getf fl_9_105 (dc hd_F_lose 43 rfl) g_34 ?_
  refine AW.icmp_ge (t := 191) (dc hd_F_lose 44 rfl) (by decide) (fun c_35 => ?_) (fun c_35 => ?_)
  · have h := h.1 c_35
    refine AW.iload (dc hd_F_lose 94 rfl) rfl ?_
    exact AW.iret (dc hd_F_lose 95 rfl) rfl rfl (Nat.le_of_ble_eq_true rfl) (Nat.le_of_ble_eq_true rfl) ⟨rfl, h⟩
  · have h := h.2 c_35
    refine AW.ra_n (dc hd_F_lose 45 rfl) rfl rfl rfl ?_
    refine AW.getp fl_9_19 (dc hd_F_lose 46 rfl) g_33 rfl ?_
    refine AW.ra_n (dc hd_F_lose 47 rfl) rfl rfl rfl ?_
    refine AW.getp fl_9_12 (dc hd_F_lose 48 rfl) g_33 rfl ?_
    refine AW.iload (dc hd_F_lose 49 rfl) rfl ?_
    obtain ⟨g_36, h⟩ := h
    refine AW.callV (As := [(2, PT v0.toNat 0), (0, v7)]) (rest := []) (ci := 1) (m_Es_takeWithout l E n C (PT v0.toNat 2) (PT v0.toNat 0) v7 _ h) cb_9_293 im_Es_takeWithout se_Es_takeWithout ⟨_, _, rfl⟩ (by decide) (dc hd_F_lose 50 rfl) g_36 rfl rfl ⟨Nat.le_of_ble_eq_true rfl, Nat.le_of_ble_eq_true rfl⟩ ⟨(Nat.le_of_ble_eq_true rfl), (Nat.le_of_ble_eq_true rfl)⟩ (Nat.le_of_ble_eq_true rfl) (fun _ h => by cases h) (fun _ => rfl) (fun u_39 C_37 d_40 q_38 => ?_)
    obtain ⟨q_38a, h⟩ := q_38
    subst d_40
    show AW p l e _ s m args below meth c E M_F_lose true _ n _ _ _ [(2, v0), (0, v1), (0, v2), (0, v3), (0, v4), (0, v5), (0, v6), (0, v7), (9, 0), (9, 0), (9, 0)] [] C_37
    refine AW.ra_n (dc hd_F_lose 51 rfl) rfl rfl rfl ?_
    refine AW.getp fl_9_29 (dc hd_F_lose 52 rfl) g_33 rfl ?_
    refine AW.ra_n (dc hd_F_lose 53 rfl) rfl rfl rfl ?_
    refine AW.getp fl_9_19 (dc hd_F_lose 54 rfl) g_33 rfl ?_
    obtain ⟨g_41, h⟩ := h
    refine AW.callV (As := [(2, PT v0.toNat 2)]) (rest := []) (ci := 2) (m_La_survey l E n C_37 (PT v0.toNat 4) (PT v0.toNat 2) _ h) cb_9_297 im_La_survey se_La_survey ⟨_, _, rfl⟩ (by decide) (dc hd_F_lose 55 rfl) g_41 rfl rfl ⟨Nat.le_of_ble_eq_true rfl, Nat.le_of_ble_eq_true rfl⟩ ⟨(Nat.le_of_ble_eq_true rfl), (Nat.le_of_ble_eq_true rfl)⟩ (Nat.le_of_ble_eq_true rfl) (fun _ h => by cases h) (fun _ => rfl) (fun u_44 C_42 d_45 q_43 => ?_)
    obtain ⟨q_43a, h⟩ := q_43
    subst d_45
    show AW p l e _ s m args below meth c E M_F_lose true _ n _ _ _ [(2, v0), (0, v1), (0, v2), (0, v3), (0, v4), (0, v5), (0, v6), (0, v7), (9, 0), (9, 0), (9, 0)] [] C_42
    refine AW.ra_n (dc hd_F_lose 56 rfl) rfl rfl rfl ?_
    refine AW.getp fl_9_44 (dc hd_F_lose 57 rfl) g_33 rfl ?_
    refine AW.ra_n (dc hd_F_lose 58 rfl) rfl rfl rfl ?_
    refine AW.getp fl_9_19 (dc hd_F_lose 59 rfl) g_33 rfl ?_
    obtain ⟨g_46, h⟩ := h
    refine AW.callV (As := [(2, PT v0.toNat 2)]) (rest := []) (ci := 8) (m_Ws_takeTolls l E n C_42 (PT v0.toNat 6) (PT v0.toNat 2) _ h) cb_9_275 im_Ws_takeTolls se_Ws_takeTolls ⟨_, _, rfl⟩ (by decide) (dc hd_F_lose 60 rfl) g_46 rfl rfl ⟨Nat.le_of_ble_eq_true rfl, Nat.le_of_ble_eq_true rfl⟩ ⟨(Nat.le_of_ble_eq_true rfl), (Nat.le_of_ble_eq_true rfl)⟩ (Nat.le_of_ble_eq_true rfl) (fun _ h => by cases h) (fun _ => rfl) (fun u_49 C_47 d_50 q_48 => ?_)
    obtain ⟨q_48a, h⟩ := q_48
    subst d_50
    show AW p l e _ s m args below meth c E M_F_lose true _ n _ _ _ [(2, v0), (0, v1), (0, v2), (0, v3), (0, v4), (0, v5), (0, v6), (0, v7), (9, 0), (9, 0), (9, 0)] [] C_47
    refine AW.ra_n (dc hd_F_lose 61 rfl) rfl rfl rfl ?_
    refine AW.getp fl_9_29 (dc hd_F_lose 62 rfl) g_33 rfl ?_
    refine AW.ra_n (dc hd_F_lose 63 rfl) rfl rfl rfl ?_
    refine AW.getp fl_9_19 (dc hd_F_lose 64 rfl) g_33 rfl ?_
    refine AW.iload_n (dc hd_F_lose 65 rfl) rfl ?_
    refine AW.iload_n (dc hd_F_lose 66 rfl) rfl ?_
    refine AW.callV (As := [(2, PT v0.toNat 2), (0, v1), (0, v2)]) (rest := []) (ci := 2) (m_La_fieldAt l E n C_47 (PT v0.toNat 4) (PT v0.toNat 2) v1 v2 _ h) cb_9_300 im_La_fieldAt se_La_fieldAt ⟨_, _, rfl⟩ (by decide) (dc hd_F_lose 67 rfl) g_41 rfl rfl ⟨Nat.le_of_ble_eq_true rfl, Nat.le_of_ble_eq_true rfl⟩ ⟨(Nat.le_of_ble_eq_true rfl), (Nat.le_of_ble_eq_true rfl)⟩ (Nat.le_of_ble_eq_true rfl) (fun _ h => by cases h) (fun _ => rfl) (fun r_51 D_53 d_54 q_52 => ?_)
    obtain ⟨q_52a, q_52b, h⟩ := q_52
    subst D_53
    subst d_54
    show AW p l e _ s m args below meth c E M_F_lose true _ n _ _ _ [(2, v0), (0, v1), (0, v2), (0, v3), (0, v4), (0, v5), (0, v6), (0, v7), (9, 0), (9, 0), (9, 0)] [(0, r_51)] C_47
    refine AW.istore [(2, v0), (0, v1), (0, v2), (0, v3), (0, v4), (0, v5), (0, v6), (0, v7), (0, r_51), (9, 0), (9, 0)] (dc hd_F_lose 68 rfl) (Nat.le_of_ble_eq_true rfl) rfl rfl ?_
    refine AW.ra_n (dc hd_F_lose 69 rfl) rfl rfl rfl ?_
    refine AW.getp fl_9_29 (dc hd_F_lose 70 rfl) g_33 rfl ?_
    refine AW.ra_n (dc hd_F_lose 71 rfl) rfl rfl rfl ?_
    refine AW.getp fl_9_19 (dc hd_F_lose 72 rfl) g_33 rfl ?_
    refine AW.iload_n (dc hd_F_lose 73 rfl) rfl ?_
    refine AW.iload (dc hd_F_lose 74 rfl) rfl ?_
    refine AW.callV (As := [(2, PT v0.toNat 2), (0, v3), (0, v4)]) (rest := []) (ci := 2) (m_La_fieldAt l E n C_47 (PT v0.toNat 4) (PT v0.toNat 2) v3 v4 _ h) cb_9_300 im_La_fieldAt se_La_fieldAt ⟨_, _, rfl⟩ (by decide) (dc hd_F_lose 75 rfl) g_41 rfl rfl ⟨Nat.le_of_ble_eq_true rfl, Nat.le_of_ble_eq_true rfl⟩ ⟨(Nat.le_of_ble_eq_true rfl), (Nat.le_of_ble_eq_true rfl)⟩ (Nat.le_of_ble_eq_true rfl) (fun _ h => by cases h) (fun _ => rfl) (fun r_55 D_57 d_58 q_56 => ?_)
    obtain ⟨q_56a, q_56b, h⟩ := q_56
    subst D_57
    subst d_58
    show AW p l e _ s m args below meth c E M_F_lose true _ n _ _ _ [(2, v0), (0, v1), (0, v2), (0, v3), (0, v4), (0, v5), (0, v6), (0, v7), (0, r_51), (9, 0), (9, 0)] [(0, r_55)] C_47
    refine AW.istore [(2, v0), (0, v1), (0, v2), (0, v3), (0, v4), (0, v5), (0, v6), (0, v7), (0, r_51), (0, r_55), (9, 0)] (dc hd_F_lose 76 rfl) (Nat.le_of_ble_eq_true rfl) rfl rfl ?_
    refine AW.ra_n (dc hd_F_lose 77 rfl) rfl rfl rfl ?_
    refine AW.getp fl_9_44 (dc hd_F_lose 78 rfl) g_33 rfl ?_
    refine AW.ra_n (dc hd_F_lose 79 rfl) rfl rfl rfl ?_
    refine AW.getp fl_9_29 (dc hd_F_lose 80 rfl) g_33 rfl ?_
    refine AW.iload (dc hd_F_lose 81 rfl) rfl ?_
    refine AW.iload (dc hd_F_lose 82 rfl) rfl ?_
    refine AW.callV (As := [(2, PT v0.toNat 4), (0, r_51), (0, r_55)]) (rest := []) (ci := 8) (m_Ws_costOf l E n C_47 (PT v0.toNat 6) (PT v0.toNat 4) r_51 r_55 _ h) cb_9_303 im_Ws_costOf se_Ws_costOf ⟨_, _, rfl⟩ (by decide) (dc hd_F_lose 83 rfl) g_46 rfl rfl ⟨Nat.le_of_ble_eq_true rfl, Nat.le_of_ble_eq_true rfl⟩ ⟨(Nat.le_of_ble_eq_true rfl), (Nat.le_of_ble_eq_true rfl)⟩ (Nat.le_of_ble_eq_true rfl) (fun _ h => by cases h) (fun _ => rfl) (fun r_59 C_60 d_62 q_61 => ?_)
    obtain ⟨q_61a, h⟩ := q_61
    subst d_62
    show AW p l e _ s m args below meth c E M_F_lose true _ n _ _ _ [(2, v0), (0, v1), (0, v2), (0, v3), (0, v4), (0, v5), (0, v6), (0, v7), (0, r_51), (0, r_55), (9, 0)] [(0, r_59)] C_60
    refine AW.istore [(2, v0), (0, v1), (0, v2), (0, v3), (0, v4), (0, v5), (0, v6), (0, v7), (0, r_51), (0, r_55), (0, r_59)] (dc hd_F_lose 84 rfl) (Nat.le_of_ble_eq_true rfl) rfl rfl ?_
    refine AW.iload (dc hd_F_lose 85 rfl) rfl ?_
    refine AW.iload (dc hd_F_lose 86 rfl) rfl ?_
    refine AW.icmp_ge (t := 185) (dc hd_F_lose 87 rfl) (by decide) (fun c_63 => ?_) (fun c_63 => ?_)
    · have h := h.1 c_63
      refine AW.iinc [(2, v0), (0, v1), (0, v2), (0, v3), (0, v4), (0, v5), (0, v6), (0, w32 (v7 + 1)), (0, r_51), (0, r_55), (0, r_59)] (dc hd_F_lose 92 rfl) rfl (Nat.le_of_ble_eq_true rfl) rfl rfl ?_
      refine AW.goto (t := 75) (dc hd_F_lose 93 rfl) (by decide) ?_
      refine AW.fgt [(2, v0), (0, v1), (0, v2), (0, v3), (0, v4), (0, v5), (0, v6), (0, w32 (v7 + 1)), (9, 0), (9, 0), (9, 0)] ⟨.inl rfl, .inl rfl, .inl rfl, .inl rfl, .inl rfl, .inl rfl, .inl rfl, .inl rfl, .inr rfl, .inr rfl, .inr rfl, trivial⟩ ?_
      exact hkz75 C_60 v5 v6 (w32 (v7 + 1)) h
    · have h := h.2 c_63
      refine AW.iload (dc hd_F_lose 88 rfl) rfl ?_
      refine AW.istore [(2, v0), (0, v1), (0, v2), (0, v3), (0, v4), (0, v5), (0, r_59), (0, v7), (0, r_51), (0, r_55), (0, r_59)] (dc hd_F_lose 89 rfl) (Nat.le_of_ble_eq_true rfl) rfl rfl ?_
      refine AW.iload (dc hd_F_lose 90 rfl) rfl ?_
      refine AW.istore [(2, v0), (0, v1), (0, v2), (0, v3), (0, v4), (0, v7), (0, r_59), (0, v7), (0, r_51), (0, r_55), (0, r_59)] (dc hd_F_lose 91 rfl) (Nat.le_of_ble_eq_true rfl) rfl rfl ?_
      refine AW.iinc [(2, v0), (0, v1), (0, v2), (0, v3), (0, v4), (0, v7), (0, r_59), (0, w32 (v7 + 1)), (0, r_51), (0, r_55), (0, r_59)] (dc hd_F_lose 92 rfl) rfl (Nat.le_of_ble_eq_true rfl) rfl rfl ?_
      refine AW.goto (t := 75) (dc hd_F_lose 93 rfl) (by decide) ?_
      refine AW.fgt [(2, v0), (0, v1), (0, v2), (0, v3), (0, v4), (0, v7), (0, r_59), (0, w32 (v7 + 1)), (9, 0), (9, 0), (9, 0)] ⟨.inl rfl, .inl rfl, .inl rfl, .inl rfl, .inl rfl, .inl rfl, .inl rfl, .inl rfl, .inr rfl, .inr rfl, .inr rfl, trivial⟩ ?_
      exact hkz75 C_60 v7 r_59 (w32 (v7 + 1)) h
theorem aB_F_lose_75 (n : Nat) (v0 v1 v2 v3 v4 : Int) (Q : Int → Cn → Prop) : ∀ (f : Nat) (z : Cn × Int × Int × Int), lp (B_F_lose_75 n v0 v1 v2 v3 v4 Q) f z → AW p l e R s m args below meth c E M_F_lose true (fun r C2 n2 => n2 = n ∧ Q r C2) n 0 0 75 [(2, v0), (0, v1), (0, v2), (0, v3), (0, v4), (0, z.2.1), (0, z.2.2.1), (0, z.2.2.2), (9, 0), (9, 0), (9, 0)] [] (z.1) := by
  intro f
  induction f with
  | zero => intro z h; exact False.elim h
  | succ f ih => intro z h; exact bB_F_lose_75 n v0 v1 v2 v3 v4 Q (lp (B_F_lose_75 n v0 v1 v2 v3 v4 Q) f) (fun a0 a1 a2 a3 h => ih (a0, a1, a2, a3) h) z.1 z.2.1 z.2.2.1 z.2.2.2 h
def P_F_lose (n : Nat) (C : Cn) (v0 v1 v2 v3 v4 : Int) (Q : Int → Cn → Prop) : Prop :=
  P_F_isPoint n C v1 v2 (fun (r_1 : Int) => (r_1 = 0 → (okO n v0 9 ∧ (P_F_tell n C v0 0 (fun (r_6 : Int) (C_8 : Cn) => Q r_6 C_8)))) ∧ (¬ r_1 = 0 → (P_F_isPoint n C v3 v4 (fun (r_11 : Int) => (r_11 = 0 → (okO n v0 9 ∧ (P_F_tell n C v0 0 (fun (r_73 : Int) (C_75 : Cn) => Q r_73 C_75)))) ∧ (¬ r_11 = 0 → (okO n v0 9 ∧ (P_F_isHeld n C v0 v1 v2 (fun (r_16 : Int) => (r_16 = 0 → (P_F_tell n C v0 4 (fun (r_22 : Int) (C_23 : Cn) => Q r_22 C_23))) ∧ (¬ r_16 = 0 → (P_F_isHeld n C v0 v3 v4 (fun (r_26 : Int) => (r_26 = 0 → (P_F_tell n C v0 4 (fun (r_69 : Int) (C_70 : Cn) => Q r_69 C_70))) ∧ (¬ r_26 = 0 → (okO n (PT v0.toNat 0) 1 ∧ ((0 < C (PT v0.toNat 0).toNat 1 → (∃ f_64 : Nat, lp (B_F_lose_75 n v0 v1 v2 v3 v4 Q) f_64 (C, 0, 1000000, 0))) ∧ (¬ 0 < C (PT v0.toNat 0).toNat 1 → (P_F_tell n C v0 3 (fun (r_65 : Int) (C_66 : Cn) => Q r_65 C_66)))))))))))))))))
theorem m_F_lose (l : Launch) (E : Ev) (n : Nat) (C : Cn) (v0 v1 v2 v3 v4 : Int) (Q : Int → Cn → Prop) (h : P_F_lose n C v0 v1 v2 v3 v4 Q) : MA l y_F_lose M_F_lose E true C n [(2, v0), (0, v1), (0, v2), (0, v3), (0, v4)] (fun r C2 n2 => n2 = n ∧ Q r C2) := by
  refine MA.of (by decide) rfl rfl 6 rfl (fun p e s m args below meth c => ?_)
  show AW p l e _ s m args below meth c E M_F_lose true _ n 0 0 0 [(2, v0), (0, v1), (0, v2), (0, v3), (0, v4), (9, 0), (9, 0), (9, 0), (9, 0), (9, 0), (9, 0)] [] C
  unfold P_F_lose at h
  refine AW.iload_n (dc hd_F_lose 0 rfl) rfl ?_
  refine AW.iload_n (dc hd_F_lose 1 rfl) rfl ?_
  refine AW.callS (As := [(0, v1), (0, v2)]) (rest := []) (m_F_isPoint l E n C v1 v2 _ h) cb_9_222 sm_F_isPoint (dc hd_F_lose 2 rfl) rfl rfl ⟨Nat.le_of_ble_eq_true rfl, Nat.le_of_ble_eq_true rfl⟩ ⟨(Nat.le_of_ble_eq_true rfl), (Nat.le_of_ble_eq_true rfl)⟩ (Nat.le_of_ble_eq_true rfl) (fun _ h => by cases h) (fun _ => rfl) (fun r_1 D_3 d_4 q_2 => ?_)
  obtain ⟨q_2a, q_2b, h⟩ := q_2
  subst D_3
  subst d_4
  show AW p l e _ s m args below meth c E M_F_lose true _ n _ _ _ [(2, v0), (0, v1), (0, v2), (0, v3), (0, v4), (9, 0), (9, 0), (9, 0), (9, 0), (9, 0), (9, 0)] [(0, r_1)] C
  refine AW.if_eq (t := 17) (dc hd_F_lose 3 rfl) (by decide) (fun c_5 => ?_) (fun c_5 => ?_)
  · have h := h.1 c_5
    refine AW.ra_n (dc hd_F_lose 8 rfl) rfl rfl rfl ?_
    refine AW.iconst (dc hd_F_lose 9 rfl) (by decide) ?_
    obtain ⟨g_7, h⟩ := h
    refine AW.callV (As := [(0, 0)]) (rest := []) (ci := 9) (m_F_tell l E n C v0 0 _ h) cb_9_101 im_F_tell se_F_tell ⟨_, _, rfl⟩ (by decide) (dc hd_F_lose 10 rfl) g_7 rfl rfl ⟨Nat.le_of_ble_eq_true rfl, Nat.le_of_ble_eq_true rfl⟩ ⟨(Nat.le_of_ble_eq_true rfl), (Nat.le_of_ble_eq_true rfl)⟩ (Nat.le_of_ble_eq_true rfl) (fun _ h => by cases h) (fun _ => rfl) (fun r_6 C_8 d_10 q_9 => ?_)
    obtain ⟨q_9a, h⟩ := q_9
    subst d_10
    show AW p l e _ s m args below meth c E M_F_lose true _ n _ _ _ [(2, v0), (0, v1), (0, v2), (0, v3), (0, v4), (9, 0), (9, 0), (9, 0), (9, 0), (9, 0), (9, 0)] [(0, r_6)] C_8
    exact AW.iret (dc hd_F_lose 11 rfl) rfl rfl (Nat.le_of_ble_eq_true rfl) (Nat.le_of_ble_eq_true rfl) ⟨rfl, h⟩
  · have h := h.2 c_5
    refine AW.iload_n (dc hd_F_lose 4 rfl) rfl ?_
    refine AW.iload (dc hd_F_lose 5 rfl) rfl ?_
    refine AW.callS (As := [(0, v3), (0, v4)]) (rest := []) (m_F_isPoint l E n C v3 v4 _ h) cb_9_222 sm_F_isPoint (dc hd_F_lose 6 rfl) rfl rfl ⟨Nat.le_of_ble_eq_true rfl, Nat.le_of_ble_eq_true rfl⟩ ⟨(Nat.le_of_ble_eq_true rfl), (Nat.le_of_ble_eq_true rfl)⟩ (Nat.le_of_ble_eq_true rfl) (fun _ h => by cases h) (fun _ => rfl) (fun r_11 D_13 d_14 q_12 => ?_)
    obtain ⟨q_12a, q_12b, h⟩ := q_12
    subst D_13
    subst d_14
    show AW p l e _ s m args below meth c E M_F_lose true _ n _ _ _ [(2, v0), (0, v1), (0, v2), (0, v3), (0, v4), (9, 0), (9, 0), (9, 0), (9, 0), (9, 0), (9, 0)] [(0, r_11)] C
    refine AW.if_ne (t := 23) (dc hd_F_lose 7 rfl) (by decide) (fun c_15 => ?_) (fun c_15 => ?_)
    · have h := h.2 c_15
      refine AW.ra_n (dc hd_F_lose 12 rfl) rfl rfl rfl ?_
      refine AW.iload_n (dc hd_F_lose 13 rfl) rfl ?_
      refine AW.iload_n (dc hd_F_lose 14 rfl) rfl ?_
      obtain ⟨g_17, h⟩ := h
      refine AW.callV (As := [(0, v1), (0, v2)]) (rest := []) (ci := 9) (m_F_isHeld l E n C v0 v1 v2 _ h) cb_9_289 im_F_isHeld se_F_isHeld ⟨_, _, rfl⟩ (by decide) (dc hd_F_lose 15 rfl) g_17 rfl rfl ⟨Nat.le_of_ble_eq_true rfl, Nat.le_of_ble_eq_true rfl⟩ ⟨(Nat.le_of_ble_eq_true rfl), (Nat.le_of_ble_eq_true rfl)⟩ (Nat.le_of_ble_eq_true rfl) (fun _ h => by cases h) (fun _ => rfl) (fun r_16 D_19 d_20 q_18 => ?_)
      obtain ⟨q_18a, q_18b, h⟩ := q_18
      subst D_19
      subst d_20
      show AW p l e _ s m args below meth c E M_F_lose true _ n _ _ _ [(2, v0), (0, v1), (0, v2), (0, v3), (0, v4), (9, 0), (9, 0), (9, 0), (9, 0), (9, 0), (9, 0)] [(0, r_16)] C
      refine AW.if_eq (t := 42) (dc hd_F_lose 16 rfl) (by decide) (fun c_21 => ?_) (fun c_21 => ?_)
      · have h := h.1 c_21
        refine AW.ra_n (dc hd_F_lose 22 rfl) rfl rfl rfl ?_
        refine AW.iconst (dc hd_F_lose 23 rfl) (by decide) ?_
        refine AW.callV (As := [(0, 4)]) (rest := []) (ci := 9) (m_F_tell l E n C v0 4 _ h) cb_9_101 im_F_tell se_F_tell ⟨_, _, rfl⟩ (by decide) (dc hd_F_lose 24 rfl) g_17 rfl rfl ⟨Nat.le_of_ble_eq_true rfl, Nat.le_of_ble_eq_true rfl⟩ ⟨(Nat.le_of_ble_eq_true rfl), (Nat.le_of_ble_eq_true rfl)⟩ (Nat.le_of_ble_eq_true rfl) (fun _ h => by cases h) (fun _ => rfl) (fun r_22 C_23 d_25 q_24 => ?_)
        obtain ⟨q_24a, h⟩ := q_24
        subst d_25
        show AW p l e _ s m args below meth c E M_F_lose true _ n _ _ _ [(2, v0), (0, v1), (0, v2), (0, v3), (0, v4), (9, 0), (9, 0), (9, 0), (9, 0), (9, 0), (9, 0)] [(0, r_22)] C_23
        exact AW.iret (dc hd_F_lose 25 rfl) rfl rfl (Nat.le_of_ble_eq_true rfl) (Nat.le_of_ble_eq_true rfl) ⟨rfl, h⟩
      · have h := h.2 c_21
        refine AW.ra_n (dc hd_F_lose 17 rfl) rfl rfl rfl ?_
        refine AW.iload_n (dc hd_F_lose 18 rfl) rfl ?_
        refine AW.iload (dc hd_F_lose 19 rfl) rfl ?_
        refine AW.callV (As := [(0, v3), (0, v4)]) (rest := []) (ci := 9) (m_F_isHeld l E n C v0 v3 v4 _ h) cb_9_289 im_F_isHeld se_F_isHeld ⟨_, _, rfl⟩ (by decide) (dc hd_F_lose 20 rfl) g_17 rfl rfl ⟨Nat.le_of_ble_eq_true rfl, Nat.le_of_ble_eq_true rfl⟩ ⟨(Nat.le_of_ble_eq_true rfl), (Nat.le_of_ble_eq_true rfl)⟩ (Nat.le_of_ble_eq_true rfl) (fun _ h => by cases h) (fun _ => rfl) (fun r_26 D_28 d_29 q_27 => ?_)
        obtain ⟨q_27a, q_27b, h⟩ := q_27
        subst D_28
        subst d_29
        show AW p l e _ s m args below meth c E M_F_lose true _ n _ _ _ [(2, v0), (0, v1), (0, v2), (0, v3), (0, v4), (9, 0), (9, 0), (9, 0), (9, 0), (9, 0), (9, 0)] [(0, r_26)] C
        refine AW.if_ne (t := 48) (dc hd_F_lose 21 rfl) (by decide) (fun c_30 => ?_) (fun c_30 => ?_)
        · have h := h.2 c_30
          refine AW.ra_n (dc hd_F_lose 26 rfl) rfl rfl rfl ?_
          refine AW.getp fl_9_12 (dc hd_F_lose 27 rfl) g_17 rfl ?_
          obtain ⟨g_31, h⟩ := h
          refine AW.getf fl_9_105 (dc hd_F_lose 28 rfl) g_31 ?_
          refine AW.if_gt (t := 64) (dc hd_F_lose 29 rfl) (by decide) (fun c_32 => ?_) (fun c_32 => ?_)
          · have h := h.1 c_32
            refine AW.iconst (dc hd_F_lose 34 rfl) (by decide) ?_
            refine AW.istore [(2, v0), (0, v1), (0, v2), (0, v3), (0, v4), (0, 0), (9, 0), (9, 0), (9, 0), (9, 0), (9, 0)] (dc hd_F_lose 35 rfl) (Nat.le_of_ble_eq_true rfl) rfl rfl ?_
            refine AW.ldc_w (v := 1000000) (dc hd_F_lose 36 rfl) ck_9_292 (by decide) rfl ?_
            refine AW.istore [(2, v0), (0, v1), (0, v2), (0, v3), (0, v4), (0, 0), (0, 1000000), (9, 0), (9, 0), (9, 0), (9, 0)] (dc hd_F_lose 37 rfl) (Nat.le_of_ble_eq_true rfl) rfl rfl ?_
            refine AW.iconst (dc hd_F_lose 38 rfl) (by decide) ?_
            refine AW.istore [(2, v0), (0, v1), (0, v2), (0, v3), (0, v4), (0, 0), (0, 1000000), (0, 0), (9, 0), (9, 0), (9, 0)] (dc hd_F_lose 39 rfl) (Nat.le_of_ble_eq_true rfl) rfl rfl ?_
            obtain ⟨f_64, h⟩ := h
            exact aB_F_lose_75 n v0 v1 v2 v3 v4 Q f_64 (C, 0, 1000000, 0) h
          · have h := h.2 c_32
            refine AW.ra_n (dc hd_F_lose 30 rfl) rfl rfl rfl ?_
            refine AW.iconst (dc hd_F_lose 31 rfl) (by decide) ?_
            refine AW.callV (As := [(0, 3)]) (rest := []) (ci := 9) (m_F_tell l E n C v0 3 _ h) cb_9_101 im_F_tell se_F_tell ⟨_, _, rfl⟩ (by decide) (dc hd_F_lose 32 rfl) g_17 rfl rfl ⟨Nat.le_of_ble_eq_true rfl, Nat.le_of_ble_eq_true rfl⟩ ⟨(Nat.le_of_ble_eq_true rfl), (Nat.le_of_ble_eq_true rfl)⟩ (Nat.le_of_ble_eq_true rfl) (fun _ h => by cases h) (fun _ => rfl) (fun r_65 C_66 d_68 q_67 => ?_)
            obtain ⟨q_67a, h⟩ := q_67
            subst d_68
            show AW p l e _ s m args below meth c E M_F_lose true _ n _ _ _ [(2, v0), (0, v1), (0, v2), (0, v3), (0, v4), (9, 0), (9, 0), (9, 0), (9, 0), (9, 0), (9, 0)] [(0, r_65)] C_66
            exact AW.iret (dc hd_F_lose 33 rfl) rfl rfl (Nat.le_of_ble_eq_true rfl) (Nat.le_of_ble_eq_true rfl) ⟨rfl, h⟩
        · have h := h.1 c_30
          refine AW.ra_n (dc hd_F_lose 22 rfl) rfl rfl rfl ?_
          refine AW.iconst (dc hd_F_lose 23 rfl) (by decide) ?_
          refine AW.callV (As := [(0, 4)]) (rest := []) (ci := 9) (m_F_tell l E n C v0 4 _ h) cb_9_101 im_F_tell se_F_tell ⟨_, _, rfl⟩ (by decide) (dc hd_F_lose 24 rfl) g_17 rfl rfl ⟨Nat.le_of_ble_eq_true rfl, Nat.le_of_ble_eq_true rfl⟩ ⟨(Nat.le_of_ble_eq_true rfl), (Nat.le_of_ble_eq_true rfl)⟩ (Nat.le_of_ble_eq_true rfl) (fun _ h => by cases h) (fun _ => rfl) (fun r_69 C_70 d_72 q_71 => ?_)
          obtain ⟨q_71a, h⟩ := q_71
          subst d_72
          show AW p l e _ s m args below meth c E M_F_lose true _ n _ _ _ [(2, v0), (0, v1), (0, v2), (0, v3), (0, v4), (9, 0), (9, 0), (9, 0), (9, 0), (9, 0), (9, 0)] [(0, r_69)] C_70
          exact AW.iret (dc hd_F_lose 25 rfl) rfl rfl (Nat.le_of_ble_eq_true rfl) (Nat.le_of_ble_eq_true rfl) ⟨rfl, h⟩
    · have h := h.1 c_15
      refine AW.ra_n (dc hd_F_lose 8 rfl) rfl rfl rfl ?_
      refine AW.iconst (dc hd_F_lose 9 rfl) (by decide) ?_
      obtain ⟨g_74, h⟩ := h
      refine AW.callV (As := [(0, 0)]) (rest := []) (ci := 9) (m_F_tell l E n C v0 0 _ h) cb_9_101 im_F_tell se_F_tell ⟨_, _, rfl⟩ (by decide) (dc hd_F_lose 10 rfl) g_74 rfl rfl ⟨Nat.le_of_ble_eq_true rfl, Nat.le_of_ble_eq_true rfl⟩ ⟨(Nat.le_of_ble_eq_true rfl), (Nat.le_of_ble_eq_true rfl)⟩ (Nat.le_of_ble_eq_true rfl) (fun _ h => by cases h) (fun _ => rfl) (fun r_73 C_75 d_77 q_76 => ?_)
      obtain ⟨q_76a, h⟩ := q_76
      subst d_77
      show AW p l e _ s m args below meth c E M_F_lose true _ n _ _ _ [(2, v0), (0, v1), (0, v2), (0, v3), (0, v4), (9, 0), (9, 0), (9, 0), (9, 0), (9, 0), (9, 0)] [(0, r_73)] C_75
      exact AW.iret (dc hd_F_lose 11 rfl) rfl rfl (Nat.le_of_ble_eq_true rfl) (Nat.le_of_ble_eq_true rfl) ⟨rfl, h⟩
def B_F_kindFor_112 (n : Nat) (v0 v1 v6 v7 : Int) (Q : Int → Cn → Prop) (kz112 : Cn × Int × Int × Int → Prop) (z : Cn × Int × Int × Int) : Prop := match z with
  | (C, v8, v9, v10) => (6 ≤ v10 → (Q v8 C)) ∧ (¬ 6 ≤ v10 → (okO n v0 9 ∧ (okO n (PT v0.toNat 6) 8 ∧ (okO n (PT v0.toNat 0) 1 ∧ (okO n (PT (PT v0.toNat 0).toNat 0) 16 ∧ (okI (PT (PT v0.toNat 0).toNat 0) v1 ∧ (okO n (PT (PT (PT v0.toNat 0).toNat 0).toNat v1.toNat) 7 ∧ (P_Wa_tollOf n C v10 (C (PT (PT (PT v0.toNat 0).toNat 0).toNat v1.toNat).toNat 1) (C (PT v0.toNat 0).toNat 2) (fun (r_60 : Int) => okO n (PT (PT v0.toNat 6).toNat 0) 12 ∧ (okI (PT (PT v0.toNat 6).toNat 0) v1 ∧ (∀ C_66 : Cn, C_66 = wr C (PT (PT v0.toNat 6).toNat 0).toNat v1.toNat r_60 → (P_Ws_costOf n C_66 (PT v0.toNat 6) (PT v0.toNat 3) v6 v7 (fun (r_67 : Int) (C_68 : Cn) => (v9 ≤ r_67 → (kz112 (C_68, v8, v9, w32 (v10 + 1)))) ∧ (¬ v9 ≤ r_67 → (kz112 (C_68, v10, r_67, w32 (v10 + 1)))))))))))))))))
theorem bB_F_kindFor_112 (n : Nat) (v0 v1 v6 v7 : Int) (Q : Int → Cn → Prop) (kz112 : Cn × Int × Int × Int → Prop) (hkz112 : ∀ (Cz : Cn) (z8 : Int) (z9 : Int) (z10 : Int), kz112 (Cz, z8, z9, z10) → AW p l e R s m args below meth c E M_F_kindFor true (fun r C2 n2 => n2 = n ∧ Q r C2) n 0 0 112 [(2, v0), (0, v1), (9, 0), (9, 0), (9, 0), (9, 0), (0, v6), (0, v7), (0, z8), (0, z9), (0, z10), (9, 0)] [] Cz) (C : Cn) (v8 : Int) (v9 : Int) (v10 : Int) (h : B_F_kindFor_112 n v0 v1 v6 v7 Q kz112 (C, v8, v9, v10)) : AW p l e R s m args below meth c E M_F_kindFor true (fun r C2 n2 => n2 = n ∧ Q r C2) n 0 0 112 [(2, v0), (0, v1), (9, 0), (9, 0), (9, 0), (9, 0), (0, v6), (0, v7), (0, v8), (0, v9), (0, v10), (9, 0)] [] C := by
  unfold B_F_kindFor_112 at h
  dsimp only at h
  refine AW.iload (dc hd_F_kindFor 57 rfl) rfl ?_
  refine AW.bipush (dc hd_F_kindFor 58 rfl) (by decide) (by decide +kernel) ?_
  refine AW.icmp_ge (t := 190) (dc hd_F_kindFor 59 rfl) (by decide) (fun c_53 => ?_) (fun c_53 => ?_)
  · have h := h.1 c_53
    refine AW.iload (dc hd_F_kindFor 93 rfl) rfl ?_
    exact AW.iret (dc hd_F_kindFor 94 rfl) rfl rfl (Nat.le_of_ble_eq_true rfl) (Nat.le_of_ble_eq_true rfl) ⟨rfl, h⟩
  · have h := h.2 c_53
    refine AW.ra_n (dc hd_F_kindFor 60 rfl) rfl rfl rfl ?_
    obtain ⟨g_54, h⟩ := h
    refine AW.getp fl_9_44 (dc hd_F_kindFor 61 rfl) g_54 rfl ?_
    obtain ⟨g_55, h⟩ := h
    refine AW.getp fl_9_307 (dc hd_F_kindFor 62 rfl) g_55 rfl ?_
    refine AW.iload_n (dc hd_F_kindFor 63 rfl) rfl ?_
    refine AW.iload (dc hd_F_kindFor 64 rfl) rfl ?_
    refine AW.ra_n (dc hd_F_kindFor 65 rfl) rfl rfl rfl ?_
    refine AW.getp fl_9_12 (dc hd_F_kindFor 66 rfl) g_54 rfl ?_
    obtain ⟨g_56, h⟩ := h
    refine AW.getp fl_9_128 (dc hd_F_kindFor 67 rfl) g_56 rfl ?_
    refine AW.iload_n (dc hd_F_kindFor 68 rfl) rfl ?_
    obtain ⟨g_57, h⟩ := h
    obtain ⟨g_58, h⟩ := h
    refine AW.aaldp (by decide) (dc hd_F_kindFor 69 rfl) g_57 g_58 rfl ?_
    obtain ⟨g_59, h⟩ := h
    refine AW.getf fl_9_135 (dc hd_F_kindFor 70 rfl) g_59 ?_
    refine AW.ra_n (dc hd_F_kindFor 71 rfl) rfl rfl rfl ?_
    refine AW.getp fl_9_12 (dc hd_F_kindFor 72 rfl) g_54 rfl ?_
    refine AW.getf fl_9_150 (dc hd_F_kindFor 73 rfl) g_56 ?_
    refine AW.callS (As := [(0, v10), (0, C (PT (PT (PT v0.toNat 0).toNat 0).toNat v1.toNat).toNat 1), (0, C (PT v0.toNat 0).toNat 2)]) (rest := [(0, v1), (2, PT (PT v0.toNat 6).toNat 0)]) (m_Wa_tollOf l E n C v10 (C (PT (PT (PT v0.toNat 0).toNat 0).toNat v1.toNat).toNat 1) (C (PT v0.toNat 0).toNat 2) _ h) cb_9_153 sm_Wa_tollOf (dc hd_F_kindFor 74 rfl) rfl rfl ⟨Nat.le_of_ble_eq_true rfl, Nat.le_of_ble_eq_true rfl⟩ ⟨(Nat.le_of_ble_eq_true rfl), (Nat.le_of_ble_eq_true rfl)⟩ (Nat.le_of_ble_eq_true rfl) (fun _ h => by cases h) (fun _ => rfl) (fun r_60 D_62 d_63 q_61 => ?_)
    obtain ⟨q_61a, q_61b, h⟩ := q_61
    subst D_62
    subst d_63
    show AW p l e _ s m args below meth c E M_F_kindFor true _ n _ _ _ [(2, v0), (0, v1), (9, 0), (9, 0), (9, 0), (9, 0), (0, v6), (0, v7), (0, v8), (0, v9), (0, v10), (9, 0)] [(0, r_60), (0, v1), (2, PT (PT v0.toNat 6).toNat 0)] C
    obtain ⟨g_64, h⟩ := h
    obtain ⟨g_65, h⟩ := h
    refine AW.niast (dc hd_F_kindFor 75 rfl) g_64 g_65 (fun C_66 eC_66 => ?_)
    have h := h C_66 eC_66
    refine AW.ra_n (dc hd_F_kindFor 76 rfl) rfl rfl rfl ?_
    refine AW.getp fl_9_44 (dc hd_F_kindFor 77 rfl) g_54 rfl ?_
    refine AW.ra_n (dc hd_F_kindFor 78 rfl) rfl rfl rfl ?_
    refine AW.getp fl_9_25 (dc hd_F_kindFor 79 rfl) g_54 rfl ?_
    refine AW.iload (dc hd_F_kindFor 80 rfl) rfl ?_
    refine AW.iload (dc hd_F_kindFor 81 rfl) rfl ?_
    refine AW.callV (As := [(2, PT v0.toNat 3), (0, v6), (0, v7)]) (rest := []) (ci := 8) (m_Ws_costOf l E n C_66 (PT v0.toNat 6) (PT v0.toNat 3) v6 v7 _ h) cb_9_303 im_Ws_costOf se_Ws_costOf ⟨_, _, rfl⟩ (by decide) (dc hd_F_kindFor 82 rfl) g_55 rfl rfl ⟨Nat.le_of_ble_eq_true rfl, Nat.le_of_ble_eq_true rfl⟩ ⟨(Nat.le_of_ble_eq_true rfl), (Nat.le_of_ble_eq_true rfl)⟩ (Nat.le_of_ble_eq_true rfl) (fun _ h => by cases h) (fun _ => rfl) (fun r_67 C_68 d_70 q_69 => ?_)
    obtain ⟨q_69a, h⟩ := q_69
    subst d_70
    show AW p l e _ s m args below meth c E M_F_kindFor true _ n _ _ _ [(2, v0), (0, v1), (9, 0), (9, 0), (9, 0), (9, 0), (0, v6), (0, v7), (0, v8), (0, v9), (0, v10), (9, 0)] [(0, r_67)] C_68
    refine AW.istore [(2, v0), (0, v1), (9, 0), (9, 0), (9, 0), (9, 0), (0, v6), (0, v7), (0, v8), (0, v9), (0, v10), (0, r_67)] (dc hd_F_kindFor 83 rfl) (Nat.le_of_ble_eq_true rfl) rfl rfl ?_
    refine AW.iload (dc hd_F_kindFor 84 rfl) rfl ?_
    refine AW.iload (dc hd_F_kindFor 85 rfl) rfl ?_
    refine AW.icmp_ge (t := 184) (dc hd_F_kindFor 86 rfl) (by decide) (fun c_71 => ?_) (fun c_71 => ?_)
    · have h := h.1 c_71
      refine AW.iinc [(2, v0), (0, v1), (9, 0), (9, 0), (9, 0), (9, 0), (0, v6), (0, v7), (0, v8), (0, v9), (0, w32 (v10 + 1)), (0, r_67)] (dc hd_F_kindFor 91 rfl) rfl (Nat.le_of_ble_eq_true rfl) rfl rfl ?_
      refine AW.goto (t := 112) (dc hd_F_kindFor 92 rfl) (by decide) ?_
      refine AW.fgt [(2, v0), (0, v1), (9, 0), (9, 0), (9, 0), (9, 0), (0, v6), (0, v7), (0, v8), (0, v9), (0, w32 (v10 + 1)), (9, 0)] ⟨.inl rfl, .inl rfl, .inl rfl, .inl rfl, .inl rfl, .inl rfl, .inl rfl, .inl rfl, .inl rfl, .inl rfl, .inl rfl, .inr rfl, trivial⟩ ?_
      exact hkz112 C_68 v8 v9 (w32 (v10 + 1)) h
    · have h := h.2 c_71
      refine AW.iload (dc hd_F_kindFor 87 rfl) rfl ?_
      refine AW.istore [(2, v0), (0, v1), (9, 0), (9, 0), (9, 0), (9, 0), (0, v6), (0, v7), (0, v8), (0, r_67), (0, v10), (0, r_67)] (dc hd_F_kindFor 88 rfl) (Nat.le_of_ble_eq_true rfl) rfl rfl ?_
      refine AW.iload (dc hd_F_kindFor 89 rfl) rfl ?_
      refine AW.istore [(2, v0), (0, v1), (9, 0), (9, 0), (9, 0), (9, 0), (0, v6), (0, v7), (0, v10), (0, r_67), (0, v10), (0, r_67)] (dc hd_F_kindFor 90 rfl) (Nat.le_of_ble_eq_true rfl) rfl rfl ?_
      refine AW.iinc [(2, v0), (0, v1), (9, 0), (9, 0), (9, 0), (9, 0), (0, v6), (0, v7), (0, v10), (0, r_67), (0, w32 (v10 + 1)), (0, r_67)] (dc hd_F_kindFor 91 rfl) rfl (Nat.le_of_ble_eq_true rfl) rfl rfl ?_
      refine AW.goto (t := 112) (dc hd_F_kindFor 92 rfl) (by decide) ?_
      refine AW.fgt [(2, v0), (0, v1), (9, 0), (9, 0), (9, 0), (9, 0), (0, v6), (0, v7), (0, v10), (0, r_67), (0, w32 (v10 + 1)), (9, 0)] ⟨.inl rfl, .inl rfl, .inl rfl, .inl rfl, .inl rfl, .inl rfl, .inl rfl, .inl rfl, .inl rfl, .inl rfl, .inl rfl, .inr rfl, trivial⟩ ?_
      exact hkz112 C_68 v10 r_67 (w32 (v10 + 1)) h
theorem aB_F_kindFor_112 (n : Nat) (v0 v1 v6 v7 : Int) (Q : Int → Cn → Prop) : ∀ (f : Nat) (z : Cn × Int × Int × Int), lp (B_F_kindFor_112 n v0 v1 v6 v7 Q) f z → AW p l e R s m args below meth c E M_F_kindFor true (fun r C2 n2 => n2 = n ∧ Q r C2) n 0 0 112 [(2, v0), (0, v1), (9, 0), (9, 0), (9, 0), (9, 0), (0, v6), (0, v7), (0, z.2.1), (0, z.2.2.1), (0, z.2.2.2), (9, 0)] [] (z.1) := by
  intro f
  induction f with
  | zero => intro z h; exact False.elim h
  | succ f ih => intro z h; exact bB_F_kindFor_112 n v0 v1 v6 v7 Q (lp (B_F_kindFor_112 n v0 v1 v6 v7 Q) f) (fun a0 a1 a2 a3 h => ih (a0, a1, a2, a3) h) z.1 z.2.1 z.2.2.1 z.2.2.2 h
def P_F_kindFor (n : Nat) (C : Cn) (v0 v1 v2 v3 v4 v5 : Int) (Q : Int → Cn → Prop) : Prop :=
  okO n v0 9 ∧ (P_F_isSegment n C v0 v1 (fun (r_1 : Int) => (r_1 = 0 → (P_F_tell n C v0 0 (fun (r_7 : Int) (C_8 : Cn) => Q r_7 C_8))) ∧ (¬ r_1 = 0 → (P_F_isPoint n C v2 v3 (fun (r_11 : Int) => (r_11 = 0 → (P_F_tell n C v0 0 (fun (r_16 : Int) (C_17 : Cn) => Q r_16 C_17))) ∧ (¬ r_11 = 0 → (P_F_isPoint n C v4 v5 (fun (r_20 : Int) => (r_20 = 0 → (P_F_tell n C v0 0 (fun (r_77 : Int) (C_78 : Cn) => Q r_77 C_78))) ∧ (¬ r_20 = 0 → (P_F_isHeld n C v0 v2 v3 (fun (r_25 : Int) => (r_25 = 0 → (P_F_tell n C v0 4 (fun (r_30 : Int) (C_31 : Cn) => Q r_30 C_31))) ∧ (¬ r_25 = 0 → (P_F_isHeld n C v0 v4 v5 (fun (r_34 : Int) => (r_34 = 0 → (P_F_tell n C v0 4 (fun (r_73 : Int) (C_74 : Cn) => Q r_73 C_74))) ∧ (¬ r_34 = 0 → (okO n (PT v0.toNat 3) 2 ∧ (P_La_fieldAt n C (PT v0.toNat 3) (PT v0.toNat 0) v2 v3 (fun (r_39 : Int) => P_La_fieldAt n C (PT v0.toNat 3) (PT v0.toNat 0) v4 v5 (fun (r_44 : Int) => okO n (PT v0.toNat 6) 8 ∧ (P_Ws_takeTolls n C (PT v0.toNat 6) (PT v0.toNat 0) (fun (_ : Int) (C_49 : Cn) => ∃ f_72 : Nat, lp (B_F_kindFor_112 n v0 v1 r_39 r_44 Q) f_72 (C_49, 0, 1000000, 0))))))))))))))))))))))
theorem m_F_kindFor (l : Launch) (E : Ev) (n : Nat) (C : Cn) (v0 v1 v2 v3 v4 v5 : Int) (Q : Int → Cn → Prop) (h : P_F_kindFor n C v0 v1 v2 v3 v4 v5 Q) : MA l y_F_kindFor M_F_kindFor E true C n [(2, v0), (0, v1), (0, v2), (0, v3), (0, v4), (0, v5)] (fun r C2 n2 => n2 = n ∧ Q r C2) := by
  refine MA.of (by decide) rfl rfl 6 rfl (fun p e s m args below meth c => ?_)
  show AW p l e _ s m args below meth c E M_F_kindFor true _ n 0 0 0 [(2, v0), (0, v1), (0, v2), (0, v3), (0, v4), (0, v5), (9, 0), (9, 0), (9, 0), (9, 0), (9, 0), (9, 0)] [] C
  unfold P_F_kindFor at h
  refine AW.ra_n (dc hd_F_kindFor 0 rfl) rfl rfl rfl ?_
  refine AW.iload_n (dc hd_F_kindFor 1 rfl) rfl ?_
  obtain ⟨g_2, h⟩ := h
  refine AW.callV (As := [(0, v1)]) (rest := []) (ci := 9) (m_F_isSegment l E n C v0 v1 _ h) cb_9_125 im_F_isSegment se_F_isSegment ⟨_, _, rfl⟩ (by decide) (dc hd_F_kindFor 2 rfl) g_2 rfl rfl ⟨Nat.le_of_ble_eq_true rfl, Nat.le_of_ble_eq_true rfl⟩ ⟨(Nat.le_of_ble_eq_true rfl), (Nat.le_of_ble_eq_true rfl)⟩ (Nat.le_of_ble_eq_true rfl) (fun _ h => by cases h) (fun _ => rfl) (fun r_1 D_4 d_5 q_3 => ?_)
  obtain ⟨q_3a, q_3b, h⟩ := q_3
  subst D_4
  subst d_5
  show AW p l e _ s m args below meth c E M_F_kindFor true _ n _ _ _ [(2, v0), (0, v1), (0, v2), (0, v3), (0, v4), (0, v5), (9, 0), (9, 0), (9, 0), (9, 0), (9, 0), (9, 0)] [(0, r_1)] C
  refine AW.if_eq (t := 26) (dc hd_F_kindFor 3 rfl) (by decide) (fun c_6 => ?_) (fun c_6 => ?_)
  · have h := h.1 c_6
    refine AW.ra_n (dc hd_F_kindFor 12 rfl) rfl rfl rfl ?_
    refine AW.iconst (dc hd_F_kindFor 13 rfl) (by decide) ?_
    refine AW.callV (As := [(0, 0)]) (rest := []) (ci := 9) (m_F_tell l E n C v0 0 _ h) cb_9_101 im_F_tell se_F_tell ⟨_, _, rfl⟩ (by decide) (dc hd_F_kindFor 14 rfl) g_2 rfl rfl ⟨Nat.le_of_ble_eq_true rfl, Nat.le_of_ble_eq_true rfl⟩ ⟨(Nat.le_of_ble_eq_true rfl), (Nat.le_of_ble_eq_true rfl)⟩ (Nat.le_of_ble_eq_true rfl) (fun _ h => by cases h) (fun _ => rfl) (fun r_7 C_8 d_10 q_9 => ?_)
    obtain ⟨q_9a, h⟩ := q_9
    subst d_10
    show AW p l e _ s m args below meth c E M_F_kindFor true _ n _ _ _ [(2, v0), (0, v1), (0, v2), (0, v3), (0, v4), (0, v5), (9, 0), (9, 0), (9, 0), (9, 0), (9, 0), (9, 0)] [(0, r_7)] C_8
    exact AW.iret (dc hd_F_kindFor 15 rfl) rfl rfl (Nat.le_of_ble_eq_true rfl) (Nat.le_of_ble_eq_true rfl) ⟨rfl, h⟩
  · have h := h.2 c_6
    refine AW.iload_n (dc hd_F_kindFor 4 rfl) rfl ?_
    refine AW.iload_n (dc hd_F_kindFor 5 rfl) rfl ?_
    refine AW.callS (As := [(0, v2), (0, v3)]) (rest := []) (m_F_isPoint l E n C v2 v3 _ h) cb_9_222 sm_F_isPoint (dc hd_F_kindFor 6 rfl) rfl rfl ⟨Nat.le_of_ble_eq_true rfl, Nat.le_of_ble_eq_true rfl⟩ ⟨(Nat.le_of_ble_eq_true rfl), (Nat.le_of_ble_eq_true rfl)⟩ (Nat.le_of_ble_eq_true rfl) (fun _ h => by cases h) (fun _ => rfl) (fun r_11 D_13 d_14 q_12 => ?_)
    obtain ⟨q_12a, q_12b, h⟩ := q_12
    subst D_13
    subst d_14
    show AW p l e _ s m args below meth c E M_F_kindFor true _ n _ _ _ [(2, v0), (0, v1), (0, v2), (0, v3), (0, v4), (0, v5), (9, 0), (9, 0), (9, 0), (9, 0), (9, 0), (9, 0)] [(0, r_11)] C
    refine AW.if_eq (t := 26) (dc hd_F_kindFor 7 rfl) (by decide) (fun c_15 => ?_) (fun c_15 => ?_)
    · have h := h.1 c_15
      refine AW.ra_n (dc hd_F_kindFor 12 rfl) rfl rfl rfl ?_
      refine AW.iconst (dc hd_F_kindFor 13 rfl) (by decide) ?_
      refine AW.callV (As := [(0, 0)]) (rest := []) (ci := 9) (m_F_tell l E n C v0 0 _ h) cb_9_101 im_F_tell se_F_tell ⟨_, _, rfl⟩ (by decide) (dc hd_F_kindFor 14 rfl) g_2 rfl rfl ⟨Nat.le_of_ble_eq_true rfl, Nat.le_of_ble_eq_true rfl⟩ ⟨(Nat.le_of_ble_eq_true rfl), (Nat.le_of_ble_eq_true rfl)⟩ (Nat.le_of_ble_eq_true rfl) (fun _ h => by cases h) (fun _ => rfl) (fun r_16 C_17 d_19 q_18 => ?_)
      obtain ⟨q_18a, h⟩ := q_18
      subst d_19
      show AW p l e _ s m args below meth c E M_F_kindFor true _ n _ _ _ [(2, v0), (0, v1), (0, v2), (0, v3), (0, v4), (0, v5), (9, 0), (9, 0), (9, 0), (9, 0), (9, 0), (9, 0)] [(0, r_16)] C_17
      exact AW.iret (dc hd_F_kindFor 15 rfl) rfl rfl (Nat.le_of_ble_eq_true rfl) (Nat.le_of_ble_eq_true rfl) ⟨rfl, h⟩
    · have h := h.2 c_15
      refine AW.iload (dc hd_F_kindFor 8 rfl) rfl ?_
      refine AW.iload (dc hd_F_kindFor 9 rfl) rfl ?_
      refine AW.callS (As := [(0, v4), (0, v5)]) (rest := []) (m_F_isPoint l E n C v4 v5 _ h) cb_9_222 sm_F_isPoint (dc hd_F_kindFor 10 rfl) rfl rfl ⟨Nat.le_of_ble_eq_true rfl, Nat.le_of_ble_eq_true rfl⟩ ⟨(Nat.le_of_ble_eq_true rfl), (Nat.le_of_ble_eq_true rfl)⟩ (Nat.le_of_ble_eq_true rfl) (fun _ h => by cases h) (fun _ => rfl) (fun r_20 D_22 d_23 q_21 => ?_)
      obtain ⟨q_21a, q_21b, h⟩ := q_21
      subst D_22
      subst d_23
      show AW p l e _ s m args below meth c E M_F_kindFor true _ n _ _ _ [(2, v0), (0, v1), (0, v2), (0, v3), (0, v4), (0, v5), (9, 0), (9, 0), (9, 0), (9, 0), (9, 0), (9, 0)] [(0, r_20)] C
      refine AW.if_ne (t := 32) (dc hd_F_kindFor 11 rfl) (by decide) (fun c_24 => ?_) (fun c_24 => ?_)
      · have h := h.2 c_24
        refine AW.ra_n (dc hd_F_kindFor 16 rfl) rfl rfl rfl ?_
        refine AW.iload_n (dc hd_F_kindFor 17 rfl) rfl ?_
        refine AW.iload_n (dc hd_F_kindFor 18 rfl) rfl ?_
        refine AW.callV (As := [(0, v2), (0, v3)]) (rest := []) (ci := 9) (m_F_isHeld l E n C v0 v2 v3 _ h) cb_9_289 im_F_isHeld se_F_isHeld ⟨_, _, rfl⟩ (by decide) (dc hd_F_kindFor 19 rfl) g_2 rfl rfl ⟨Nat.le_of_ble_eq_true rfl, Nat.le_of_ble_eq_true rfl⟩ ⟨(Nat.le_of_ble_eq_true rfl), (Nat.le_of_ble_eq_true rfl)⟩ (Nat.le_of_ble_eq_true rfl) (fun _ h => by cases h) (fun _ => rfl) (fun r_25 D_27 d_28 q_26 => ?_)
        obtain ⟨q_26a, q_26b, h⟩ := q_26
        subst D_27
        subst d_28
        show AW p l e _ s m args below meth c E M_F_kindFor true _ n _ _ _ [(2, v0), (0, v1), (0, v2), (0, v3), (0, v4), (0, v5), (9, 0), (9, 0), (9, 0), (9, 0), (9, 0), (9, 0)] [(0, r_25)] C
        refine AW.if_eq (t := 52) (dc hd_F_kindFor 20 rfl) (by decide) (fun c_29 => ?_) (fun c_29 => ?_)
        · have h := h.1 c_29
          refine AW.ra_n (dc hd_F_kindFor 26 rfl) rfl rfl rfl ?_
          refine AW.iconst (dc hd_F_kindFor 27 rfl) (by decide) ?_
          refine AW.callV (As := [(0, 4)]) (rest := []) (ci := 9) (m_F_tell l E n C v0 4 _ h) cb_9_101 im_F_tell se_F_tell ⟨_, _, rfl⟩ (by decide) (dc hd_F_kindFor 28 rfl) g_2 rfl rfl ⟨Nat.le_of_ble_eq_true rfl, Nat.le_of_ble_eq_true rfl⟩ ⟨(Nat.le_of_ble_eq_true rfl), (Nat.le_of_ble_eq_true rfl)⟩ (Nat.le_of_ble_eq_true rfl) (fun _ h => by cases h) (fun _ => rfl) (fun r_30 C_31 d_33 q_32 => ?_)
          obtain ⟨q_32a, h⟩ := q_32
          subst d_33
          show AW p l e _ s m args below meth c E M_F_kindFor true _ n _ _ _ [(2, v0), (0, v1), (0, v2), (0, v3), (0, v4), (0, v5), (9, 0), (9, 0), (9, 0), (9, 0), (9, 0), (9, 0)] [(0, r_30)] C_31
          exact AW.iret (dc hd_F_kindFor 29 rfl) rfl rfl (Nat.le_of_ble_eq_true rfl) (Nat.le_of_ble_eq_true rfl) ⟨rfl, h⟩
        · have h := h.2 c_29
          refine AW.ra_n (dc hd_F_kindFor 21 rfl) rfl rfl rfl ?_
          refine AW.iload (dc hd_F_kindFor 22 rfl) rfl ?_
          refine AW.iload (dc hd_F_kindFor 23 rfl) rfl ?_
          refine AW.callV (As := [(0, v4), (0, v5)]) (rest := []) (ci := 9) (m_F_isHeld l E n C v0 v4 v5 _ h) cb_9_289 im_F_isHeld se_F_isHeld ⟨_, _, rfl⟩ (by decide) (dc hd_F_kindFor 24 rfl) g_2 rfl rfl ⟨Nat.le_of_ble_eq_true rfl, Nat.le_of_ble_eq_true rfl⟩ ⟨(Nat.le_of_ble_eq_true rfl), (Nat.le_of_ble_eq_true rfl)⟩ (Nat.le_of_ble_eq_true rfl) (fun _ h => by cases h) (fun _ => rfl) (fun r_34 D_36 d_37 q_35 => ?_)
          obtain ⟨q_35a, q_35b, h⟩ := q_35
          subst D_36
          subst d_37
          show AW p l e _ s m args below meth c E M_F_kindFor true _ n _ _ _ [(2, v0), (0, v1), (0, v2), (0, v3), (0, v4), (0, v5), (9, 0), (9, 0), (9, 0), (9, 0), (9, 0), (9, 0)] [(0, r_34)] C
          refine AW.if_ne (t := 58) (dc hd_F_kindFor 25 rfl) (by decide) (fun c_38 => ?_) (fun c_38 => ?_)
          · have h := h.2 c_38
            refine AW.ra_n (dc hd_F_kindFor 30 rfl) rfl rfl rfl ?_
            refine AW.getp fl_9_25 (dc hd_F_kindFor 31 rfl) g_2 rfl ?_
            refine AW.ra_n (dc hd_F_kindFor 32 rfl) rfl rfl rfl ?_
            refine AW.getp fl_9_12 (dc hd_F_kindFor 33 rfl) g_2 rfl ?_
            refine AW.iload_n (dc hd_F_kindFor 34 rfl) rfl ?_
            refine AW.iload_n (dc hd_F_kindFor 35 rfl) rfl ?_
            obtain ⟨g_40, h⟩ := h
            refine AW.callV (As := [(2, PT v0.toNat 0), (0, v2), (0, v3)]) (rest := []) (ci := 2) (m_La_fieldAt l E n C (PT v0.toNat 3) (PT v0.toNat 0) v2 v3 _ h) cb_9_300 im_La_fieldAt se_La_fieldAt ⟨_, _, rfl⟩ (by decide) (dc hd_F_kindFor 36 rfl) g_40 rfl rfl ⟨Nat.le_of_ble_eq_true rfl, Nat.le_of_ble_eq_true rfl⟩ ⟨(Nat.le_of_ble_eq_true rfl), (Nat.le_of_ble_eq_true rfl)⟩ (Nat.le_of_ble_eq_true rfl) (fun _ h => by cases h) (fun _ => rfl) (fun r_39 D_42 d_43 q_41 => ?_)
            obtain ⟨q_41a, q_41b, h⟩ := q_41
            subst D_42
            subst d_43
            show AW p l e _ s m args below meth c E M_F_kindFor true _ n _ _ _ [(2, v0), (0, v1), (0, v2), (0, v3), (0, v4), (0, v5), (9, 0), (9, 0), (9, 0), (9, 0), (9, 0), (9, 0)] [(0, r_39)] C
            refine AW.istore [(2, v0), (0, v1), (0, v2), (0, v3), (0, v4), (0, v5), (0, r_39), (9, 0), (9, 0), (9, 0), (9, 0), (9, 0)] (dc hd_F_kindFor 37 rfl) (Nat.le_of_ble_eq_true rfl) rfl rfl ?_
            refine AW.ra_n (dc hd_F_kindFor 38 rfl) rfl rfl rfl ?_
            refine AW.getp fl_9_25 (dc hd_F_kindFor 39 rfl) g_2 rfl ?_
            refine AW.ra_n (dc hd_F_kindFor 40 rfl) rfl rfl rfl ?_
            refine AW.getp fl_9_12 (dc hd_F_kindFor 41 rfl) g_2 rfl ?_
            refine AW.iload (dc hd_F_kindFor 42 rfl) rfl ?_
            refine AW.iload (dc hd_F_kindFor 43 rfl) rfl ?_
            refine AW.callV (As := [(2, PT v0.toNat 0), (0, v4), (0, v5)]) (rest := []) (ci := 2) (m_La_fieldAt l E n C (PT v0.toNat 3) (PT v0.toNat 0) v4 v5 _ h) cb_9_300 im_La_fieldAt se_La_fieldAt ⟨_, _, rfl⟩ (by decide) (dc hd_F_kindFor 44 rfl) g_40 rfl rfl ⟨Nat.le_of_ble_eq_true rfl, Nat.le_of_ble_eq_true rfl⟩ ⟨(Nat.le_of_ble_eq_true rfl), (Nat.le_of_ble_eq_true rfl)⟩ (Nat.le_of_ble_eq_true rfl) (fun _ h => by cases h) (fun _ => rfl) (fun r_44 D_46 d_47 q_45 => ?_)
            obtain ⟨q_45a, q_45b, h⟩ := q_45
            subst D_46
            subst d_47
            show AW p l e _ s m args below meth c E M_F_kindFor true _ n _ _ _ [(2, v0), (0, v1), (0, v2), (0, v3), (0, v4), (0, v5), (0, r_39), (9, 0), (9, 0), (9, 0), (9, 0), (9, 0)] [(0, r_44)] C
            refine AW.istore [(2, v0), (0, v1), (0, v2), (0, v3), (0, v4), (0, v5), (0, r_39), (0, r_44), (9, 0), (9, 0), (9, 0), (9, 0)] (dc hd_F_kindFor 45 rfl) (Nat.le_of_ble_eq_true rfl) rfl rfl ?_
            refine AW.ra_n (dc hd_F_kindFor 46 rfl) rfl rfl rfl ?_
            refine AW.getp fl_9_44 (dc hd_F_kindFor 47 rfl) g_2 rfl ?_
            refine AW.ra_n (dc hd_F_kindFor 48 rfl) rfl rfl rfl ?_
            refine AW.getp fl_9_12 (dc hd_F_kindFor 49 rfl) g_2 rfl ?_
            obtain ⟨g_48, h⟩ := h
            refine AW.callV (As := [(2, PT v0.toNat 0)]) (rest := []) (ci := 8) (m_Ws_takeTolls l E n C (PT v0.toNat 6) (PT v0.toNat 0) _ h) cb_9_275 im_Ws_takeTolls se_Ws_takeTolls ⟨_, _, rfl⟩ (by decide) (dc hd_F_kindFor 50 rfl) g_48 rfl rfl ⟨Nat.le_of_ble_eq_true rfl, Nat.le_of_ble_eq_true rfl⟩ ⟨(Nat.le_of_ble_eq_true rfl), (Nat.le_of_ble_eq_true rfl)⟩ (Nat.le_of_ble_eq_true rfl) (fun _ h => by cases h) (fun _ => rfl) (fun u_51 C_49 d_52 q_50 => ?_)
            obtain ⟨q_50a, h⟩ := q_50
            subst d_52
            show AW p l e _ s m args below meth c E M_F_kindFor true _ n _ _ _ [(2, v0), (0, v1), (0, v2), (0, v3), (0, v4), (0, v5), (0, r_39), (0, r_44), (9, 0), (9, 0), (9, 0), (9, 0)] [] C_49
            refine AW.iconst (dc hd_F_kindFor 51 rfl) (by decide) ?_
            refine AW.istore [(2, v0), (0, v1), (0, v2), (0, v3), (0, v4), (0, v5), (0, r_39), (0, r_44), (0, 0), (9, 0), (9, 0), (9, 0)] (dc hd_F_kindFor 52 rfl) (Nat.le_of_ble_eq_true rfl) rfl rfl ?_
            refine AW.ldc_w (v := 1000000) (dc hd_F_kindFor 53 rfl) ck_9_292 (by decide) rfl ?_
            refine AW.istore [(2, v0), (0, v1), (0, v2), (0, v3), (0, v4), (0, v5), (0, r_39), (0, r_44), (0, 0), (0, 1000000), (9, 0), (9, 0)] (dc hd_F_kindFor 54 rfl) (Nat.le_of_ble_eq_true rfl) rfl rfl ?_
            refine AW.iconst (dc hd_F_kindFor 55 rfl) (by decide) ?_
            refine AW.istore [(2, v0), (0, v1), (0, v2), (0, v3), (0, v4), (0, v5), (0, r_39), (0, r_44), (0, 0), (0, 1000000), (0, 0), (9, 0)] (dc hd_F_kindFor 56 rfl) (Nat.le_of_ble_eq_true rfl) rfl rfl ?_
            obtain ⟨f_72, h⟩ := h
            refine AW.fgt [(2, v0), (0, v1), (9, 0), (9, 0), (9, 0), (9, 0), (0, r_39), (0, r_44), (0, 0), (0, 1000000), (0, 0), (9, 0)] ⟨.inl rfl, .inl rfl, .inr rfl, .inr rfl, .inr rfl, .inr rfl, .inl rfl, .inl rfl, .inl rfl, .inl rfl, .inl rfl, .inl rfl, trivial⟩ ?_
            exact aB_F_kindFor_112 n v0 v1 r_39 r_44 Q f_72 (C_49, 0, 1000000, 0) h
          · have h := h.1 c_38
            refine AW.ra_n (dc hd_F_kindFor 26 rfl) rfl rfl rfl ?_
            refine AW.iconst (dc hd_F_kindFor 27 rfl) (by decide) ?_
            refine AW.callV (As := [(0, 4)]) (rest := []) (ci := 9) (m_F_tell l E n C v0 4 _ h) cb_9_101 im_F_tell se_F_tell ⟨_, _, rfl⟩ (by decide) (dc hd_F_kindFor 28 rfl) g_2 rfl rfl ⟨Nat.le_of_ble_eq_true rfl, Nat.le_of_ble_eq_true rfl⟩ ⟨(Nat.le_of_ble_eq_true rfl), (Nat.le_of_ble_eq_true rfl)⟩ (Nat.le_of_ble_eq_true rfl) (fun _ h => by cases h) (fun _ => rfl) (fun r_73 C_74 d_76 q_75 => ?_)
            obtain ⟨q_75a, h⟩ := q_75
            subst d_76
            show AW p l e _ s m args below meth c E M_F_kindFor true _ n _ _ _ [(2, v0), (0, v1), (0, v2), (0, v3), (0, v4), (0, v5), (9, 0), (9, 0), (9, 0), (9, 0), (9, 0), (9, 0)] [(0, r_73)] C_74
            exact AW.iret (dc hd_F_kindFor 29 rfl) rfl rfl (Nat.le_of_ble_eq_true rfl) (Nat.le_of_ble_eq_true rfl) ⟨rfl, h⟩
      · have h := h.1 c_24
        refine AW.ra_n (dc hd_F_kindFor 12 rfl) rfl rfl rfl ?_
        refine AW.iconst (dc hd_F_kindFor 13 rfl) (by decide) ?_
        refine AW.callV (As := [(0, 0)]) (rest := []) (ci := 9) (m_F_tell l E n C v0 0 _ h) cb_9_101 im_F_tell se_F_tell ⟨_, _, rfl⟩ (by decide) (dc hd_F_kindFor 14 rfl) g_2 rfl rfl ⟨Nat.le_of_ble_eq_true rfl, Nat.le_of_ble_eq_true rfl⟩ ⟨(Nat.le_of_ble_eq_true rfl), (Nat.le_of_ble_eq_true rfl)⟩ (Nat.le_of_ble_eq_true rfl) (fun _ h => by cases h) (fun _ => rfl) (fun r_77 C_78 d_80 q_79 => ?_)
        obtain ⟨q_79a, h⟩ := q_79
        subst d_80
        show AW p l e _ s m args below meth c E M_F_kindFor true _ n _ _ _ [(2, v0), (0, v1), (0, v2), (0, v3), (0, v4), (0, v5), (9, 0), (9, 0), (9, 0), (9, 0), (9, 0), (9, 0)] [(0, r_77)] C_78
        exact AW.iret (dc hd_F_kindFor 15 rfl) rfl rfl (Nat.le_of_ble_eq_true rfl) (Nat.le_of_ble_eq_true rfl) ⟨rfl, h⟩
def P_F_isSheet (n : Nat) (C : Cn) (v0 : Int) (Q : Int → Prop) : Prop :=
  P_F_isIn n C v0 0 3 (fun (r_1 : Int) => (r_1 = 0 ∨ r_1 = 1) ∧ (Q r_1))
theorem m_F_isSheet (l : Launch) (E : Ev) (n : Nat) (C : Cn) (v0 : Int) (Q : Int → Prop) (h : P_F_isSheet n C v0 Q) : MA l y_F_isSheet M_F_isSheet E true C n [(0, v0)] (fun r C2 n2 => C2 = C ∧ n2 = n ∧ Q r) := by
  refine MA.of (by decide) rfl rfl 0 rfl (fun p e s m args below meth c => ?_)
  show AW p l e _ s m args below meth c E M_F_isSheet true _ n 0 0 0 [(0, v0)] [] C
  unfold P_F_isSheet at h
  refine AW.iload_n (dc hd_F_isSheet 0 rfl) rfl ?_
  refine AW.iconst (dc hd_F_isSheet 1 rfl) (by decide) ?_
  refine AW.iconst (dc hd_F_isSheet 2 rfl) (by decide) ?_
  refine AW.callS (As := [(0, v0), (0, 0), (0, 3)]) (rest := []) (m_F_isIn l E n C v0 0 3 _ h) cb_9_167 sm_F_isIn (dc hd_F_isSheet 3 rfl) rfl rfl ⟨Nat.le_of_ble_eq_true rfl, Nat.le_of_ble_eq_true rfl⟩ ⟨(Nat.le_of_ble_eq_true rfl), (Nat.le_of_ble_eq_true rfl)⟩ (Nat.le_of_ble_eq_true rfl) (fun _ h => by cases h) (fun _ => rfl) (fun r_1 D_3 d_4 q_2 => ?_)
  obtain ⟨q_2a, q_2b, h⟩ := q_2
  subst D_3
  subst d_4
  show AW p l e _ s m args below meth c E M_F_isSheet true _ n _ _ _ [(0, v0)] [(0, r_1)] C
  obtain ⟨g_5, h⟩ := h
  exact AW.zret (dc hd_F_isSheet 4 rfl) rfl rfl (Nat.le_of_ble_eq_true rfl) (Nat.le_of_ble_eq_true rfl) g_5 ⟨rfl, rfl, h⟩
end
