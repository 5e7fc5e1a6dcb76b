section
variable {p : Program} {l : Launch} {e : Env} {R : Room} {s : State} {m : MethodId} {args : Array Value} {below : List Frame} {meth : Method} {c : Code} {E : Ev}
def P_F_become (n : Nat) (C : Cn) (v0 v1 v2 : Int) (Q : Int → Cn → Prop) : Prop :=
  okO n v0 9 ∧ (P_F_isSegment n C v0 v1 (fun (r_1 : Int) => (r_1 = 0 → (P_F_tell n C v0 0 (fun (r_7 : Int) (C_8 : Cn) => Q r_7 C_8))) ∧ (¬ r_1 = 0 → (P_F_isKm n C v2 (fun (r_11 : Int) => (r_11 = 0 → (P_F_tell n C v0 0 (fun (r_25 : Int) (C_26 : Cn) => Q r_25 C_26))) ∧ (¬ r_11 = 0 → (okO n (PT v0.toNat 0) 1 ∧ (okO n (PT (PT v0.toNat 0).toNat 0) 16 ∧ (okI (PT (PT v0.toNat 0).toNat 0) v1 ∧ (okO n (PT (PT (PT v0.toNat 0).toNat 0).toNat v1.toNat) 7 ∧ (∀ v3_20 : Int, v3_20 = C (PT (PT (PT v0.toNat 0).toNat 0).toNat v1.toNat).toNat 0 → (P_Wa_beOf n C (PT (PT (PT v0.toNat 0).toNat 0).toNat v1.toNat) (w32 (Int.tdiv v2 10)) (w32 (Int.tmod v2 10)) (fun (_ : Int) (C_21 : Cn) => Q v3_20 C_21)))))))))))))
theorem m_F_become (l : Launch) (E : Ev) (n : Nat) (C : Cn) (v0 v1 v2 : Int) (Q : Int → Cn → Prop) (h : P_F_become n C v0 v1 v2 Q) : MA l y_F_become M_F_become E true C n [(2, v0), (0, v1), (0, v2)] (fun r C2 n2 => n2 = n ∧ Q r C2) := by
  refine MA.of (by decide) rfl rfl 1 rfl (fun p e s m args below meth c => ?_)
  show AW p l e _ s m args below meth c E M_F_become true _ n 0 0 0 [(2, v0), (0, v1), (0, v2), (9, 0)] [] C
  unfold P_F_become at h
  refine AW.ra_n (dc hd_F_become 0 rfl) rfl rfl rfl ?_
  refine AW.iload_n (dc hd_F_become 1 rfl) rfl ?_
  obtain ⟨g_2, h⟩ := h
  refine AW.callV (As := [(0, v1)]) (rest := []) (ci := 9) (m_F_isSegment l E n C v0 v1 _ h) cb_9_125 im_F_isSegment se_F_isSegment ⟨_, _, rfl⟩ (by decide) (dc hd_F_become 2 rfl) g_2 rfl rfl ⟨Nat.le_of_ble_eq_true rfl, Nat.le_of_ble_eq_true rfl⟩ ⟨(Nat.le_of_ble_eq_true rfl), (Nat.le_of_ble_eq_true rfl)⟩ (Nat.le_of_ble_eq_true rfl) (fun _ h => by cases h) (fun _ => rfl) (fun r_1 D_4 d_5 q_3 => ?_)
  obtain ⟨q_3a, q_3b, h⟩ := q_3
  subst D_4
  subst d_5
  show AW p l e _ s m args below meth c E M_F_become true _ n _ _ _ [(2, v0), (0, v1), (0, v2), (9, 0)] [(0, r_1)] C
  refine AW.if_eq (t := 15) (dc hd_F_become 3 rfl) (by decide) (fun c_6 => ?_) (fun c_6 => ?_)
  · have h := h.1 c_6
    refine AW.ra_n (dc hd_F_become 7 rfl) rfl rfl rfl ?_
    refine AW.iconst (dc hd_F_become 8 rfl) (by decide) ?_
    refine AW.callV (As := [(0, 0)]) (rest := []) (ci := 9) (m_F_tell l E n C v0 0 _ h) cb_9_101 im_F_tell se_F_tell ⟨_, _, rfl⟩ (by decide) (dc hd_F_become 9 rfl) g_2 rfl rfl ⟨Nat.le_of_ble_eq_true rfl, Nat.le_of_ble_eq_true rfl⟩ ⟨(Nat.le_of_ble_eq_true rfl), (Nat.le_of_ble_eq_true rfl)⟩ (Nat.le_of_ble_eq_true rfl) (fun _ h => by cases h) (fun _ => rfl) (fun r_7 C_8 d_10 q_9 => ?_)
    obtain ⟨q_9a, h⟩ := q_9
    subst d_10
    show AW p l e _ s m args below meth c E M_F_become true _ n _ _ _ [(2, v0), (0, v1), (0, v2), (9, 0)] [(0, r_7)] C_8
    exact AW.iret (dc hd_F_become 10 rfl) rfl rfl (Nat.le_of_ble_eq_true rfl) (Nat.le_of_ble_eq_true rfl) ⟨rfl, h⟩
  · have h := h.2 c_6
    refine AW.iload_n (dc hd_F_become 4 rfl) rfl ?_
    refine AW.callS (As := [(0, v2)]) (rest := []) (m_F_isKm l E n C v2 _ h) cb_9_93 sm_F_isKm (dc hd_F_become 5 rfl) rfl rfl ⟨Nat.le_of_ble_eq_true rfl, Nat.le_of_ble_eq_true rfl⟩ ⟨(Nat.le_of_ble_eq_true rfl), (Nat.le_of_ble_eq_true rfl)⟩ (Nat.le_of_ble_eq_true rfl) (fun _ h => by cases h) (fun _ => rfl) (fun r_11 D_13 d_14 q_12 => ?_)
    obtain ⟨q_12a, q_12b, h⟩ := q_12
    subst D_13
    subst d_14
    show AW p l e _ s m args below meth c E M_F_become true _ n _ _ _ [(2, v0), (0, v1), (0, v2), (9, 0)] [(0, r_11)] C
    refine AW.if_ne (t := 21) (dc hd_F_become 6 rfl) (by decide) (fun c_15 => ?_) (fun c_15 => ?_)
    · have h := h.2 c_15
      refine AW.ra_n (dc hd_F_become 11 rfl) rfl rfl rfl ?_
      refine AW.getp fl_9_12 (dc hd_F_become 12 rfl) g_2 rfl ?_
      obtain ⟨g_16, h⟩ := h
      refine AW.getp fl_9_128 (dc hd_F_become 13 rfl) g_16 rfl ?_
      refine AW.iload_n (dc hd_F_become 14 rfl) rfl ?_
      obtain ⟨g_17, h⟩ := h
      obtain ⟨g_18, h⟩ := h
      refine AW.aaldp (by decide) (dc hd_F_become 15 rfl) g_17 g_18 rfl ?_
      obtain ⟨g_19, h⟩ := h
      refine AW.getf fl_9_132 (dc hd_F_become 16 rfl) g_19 ?_
      refine AW.nm (fun v3_20 ev3_20 => ?_)
      have h := h v3_20 ev3_20
      refine AW.istore_n [(2, v0), (0, v1), (0, v2), (0, v3_20)] (dc hd_F_become 17 rfl) (Nat.le_of_ble_eq_true rfl) rfl rfl ?_
      refine AW.ra_n (dc hd_F_become 18 rfl) rfl rfl rfl ?_
      refine AW.getp fl_9_12 (dc hd_F_become 19 rfl) g_2 rfl ?_
      refine AW.getp fl_9_128 (dc hd_F_become 20 rfl) g_16 rfl ?_
      refine AW.iload_n (dc hd_F_become 21 rfl) rfl ?_
      refine AW.aaldp (by decide) (dc hd_F_become 22 rfl) g_17 g_18 rfl ?_
      refine AW.iload_n (dc hd_F_become 23 rfl) rfl ?_
      refine AW.bipush (dc hd_F_become 24 rfl) (by decide) (by decide +kernel) ?_
      refine AW.idiv (dc hd_F_become 25 rfl) (by decide) ?_
      refine AW.iload_n (dc hd_F_become 26 rfl) rfl ?_
      refine AW.bipush (dc hd_F_become 27 rfl) (by decide) (by decide +kernel) ?_
      refine AW.irem (dc hd_F_become 28 rfl) (by decide) ?_
      refine AW.callV (As := [(0, w32 (Int.tdiv v2 10)), (0, w32 (Int.tmod v2 10))]) (rest := []) (ci := 7) (m_Wa_beOf l E n C (PT (PT (PT v0.toNat 0).toNat 0).toNat v1.toNat) (w32 (Int.tdiv v2 10)) (w32 (Int.tmod v2 10)) _ h) cb_9_109 im_Wa_beOf se_Wa_beOf ⟨_, _, rfl⟩ (by decide) (dc hd_F_become 29 rfl) g_19 rfl rfl ⟨Nat.le_of_ble_eq_true rfl, Nat.le_of_ble_eq_true rfl⟩ ⟨(Nat.le_of_ble_eq_true rfl), (Nat.le_of_ble_eq_true rfl)⟩ (Nat.le_of_ble_eq_true rfl) (fun _ h => by cases h) (fun _ => rfl) (fun u_23 C_21 d_24 q_22 => ?_)
      obtain ⟨q_22a, h⟩ := q_22
      subst d_24
      show AW p l e _ s m args below meth c E M_F_become true _ n _ _ _ [(2, v0), (0, v1), (0, v2), (0, v3_20)] [] C_21
      refine AW.iload_n (dc hd_F_become 30 rfl) rfl ?_
      exact AW.iret (dc hd_F_become 31 rfl) rfl rfl (Nat.le_of_ble_eq_true rfl) (Nat.le_of_ble_eq_true rfl) ⟨rfl, h⟩
    · have h := h.1 c_15
      refine AW.ra_n (dc hd_F_become 7 rfl) rfl rfl rfl ?_
      refine AW.iconst (dc hd_F_become 8 rfl) (by decide) ?_
      refine AW.callV (As := [(0, 0)]) (rest := []) (ci := 9) (m_F_tell l E n C v0 0 _ h) cb_9_101 im_F_tell se_F_tell ⟨_, _, rfl⟩ (by decide) (dc hd_F_become 9 rfl) g_2 rfl rfl ⟨Nat.le_of_ble_eq_true rfl, Nat.le_of_ble_eq_true rfl⟩ ⟨(Nat.le_of_ble_eq_true rfl), (Nat.le_of_ble_eq_true rfl)⟩ (Nat.le_of_ble_eq_true rfl) (fun _ h => by cases h) (fun _ => rfl) (fun r_25 C_26 d_28 q_27 => ?_)
      obtain ⟨q_27a, h⟩ := q_27
      subst d_28
      show AW p l e _ s m args below meth c E M_F_become true _ n _ _ _ [(2, v0), (0, v1), (0, v2), (9, 0)] [(0, r_25)] C_26
      exact AW.iret (dc hd_F_become 10 rfl) rfl rfl (Nat.le_of_ble_eq_true rfl) (Nat.le_of_ble_eq_true rfl) ⟨rfl, h⟩
def P_F_drop (n : Nat) (C : Cn) (v0 : Int) (Q : Int → Cn → Prop) : Prop :=
  okO n v0 9 ∧ (okO n (PT v0.toNat 0) 1 ∧ ((0 < C (PT v0.toNat 0).toNat 1 → (∀ C_4 : Cn, C_4 = wr C (PT v0.toNat 0).toNat 1 (w32 (C (PT v0.toNat 0).toNat 1 - 1)) → (P_F_settle n C_4 v0 (fun (_ : Int) (C_5 : Cn) => Q (C_5 (PT v0.toNat 0).toNat 1) C_5)))) ∧ (¬ 0 < C (PT v0.toNat 0).toNat 1 → (P_F_tell n C v0 3 (fun (r_9 : Int) (C_10 : Cn) => Q r_9 C_10)))))
theorem m_F_drop (l : Launch) (E : Ev) (n : Nat) (C : Cn) (v0 : Int) (Q : Int → Cn → Prop) (h : P_F_drop n C v0 Q) : MA l y_F_drop M_F_drop E true C n [(2, v0)] (fun r C2 n2 => n2 = n ∧ Q r C2) := by
  refine MA.of (by decide) rfl rfl 0 rfl (fun p e s m args below meth c => ?_)
  show AW p l e _ s m args below meth c E M_F_drop true _ n 0 0 0 [(2, v0)] [] C
  unfold P_F_drop at h
  refine AW.ra_n (dc hd_F_drop 0 rfl) rfl rfl rfl ?_
  obtain ⟨g_1, h⟩ := h
  refine AW.getp fl_9_12 (dc hd_F_drop 1 rfl) g_1 rfl ?_
  obtain ⟨g_2, h⟩ := h
  refine AW.getf fl_9_105 (dc hd_F_drop 2 rfl) g_2 ?_
  refine AW.if_gt (t := 16) (dc hd_F_drop 3 rfl) (by decide) (fun c_3 => ?_) (fun c_3 => ?_)
  · have h := h.1 c_3
    refine AW.ra_n (dc hd_F_drop 8 rfl) rfl rfl rfl ?_
    refine AW.getp fl_9_12 (dc hd_F_drop 9 rfl) g_1 rfl ?_
    refine AW.rdup (dc hd_F_drop 10 rfl) rfl ?_
    refine AW.getf fl_9_105 (dc hd_F_drop 11 rfl) g_2 ?_
    refine AW.iconst (dc hd_F_drop 12 rfl) (by decide) ?_
    refine AW.isub (dc hd_F_drop 13 rfl) ?_
    refine AW.nputI fl_9_105 (dc hd_F_drop 14 rfl) g_2 (fun C_4 eC_4 => ?_)
    have h := h C_4 eC_4
    refine AW.ra_n (dc hd_F_drop 15 rfl) rfl rfl rfl ?_
    refine AW.callV (As := []) (rest := []) (ci := 9) (m_F_settle l E n C_4 v0 _ h) cb_9_90 im_F_settle se_F_settle ⟨_, _, rfl⟩ (by decide) (dc hd_F_drop 16 rfl) g_1 rfl rfl ⟨Nat.le_of_ble_eq_true rfl, Nat.le_of_ble_eq_true rfl⟩ ⟨(Nat.le_of_ble_eq_true rfl), (Nat.le_of_ble_eq_true rfl)⟩ (Nat.le_of_ble_eq_true rfl) (fun _ h => by cases h) (fun _ => rfl) (fun u_7 C_5 d_8 q_6 => ?_)
    obtain ⟨q_6a, h⟩ := q_6
    subst d_8
    show AW p l e _ s m args below meth c E M_F_drop true _ n _ _ _ [(2, v0)] [] C_5
    refine AW.ra_n (dc hd_F_drop 17 rfl) rfl rfl rfl ?_
    refine AW.getp fl_9_12 (dc hd_F_drop 18 rfl) g_1 rfl ?_
    refine AW.getf fl_9_105 (dc hd_F_drop 19 rfl) g_2 ?_
    exact AW.iret (dc hd_F_drop 20 rfl) rfl rfl (Nat.le_of_ble_eq_true rfl) (Nat.le_of_ble_eq_true rfl) ⟨rfl, h⟩
  · have h := h.2 c_3
    refine AW.ra_n (dc hd_F_drop 4 rfl) rfl rfl rfl ?_
    refine AW.iconst (dc hd_F_drop 5 rfl) (by decide) ?_
    refine AW.callV (As := [(0, 3)]) (rest := []) (ci := 9) (m_F_tell l E n C v0 3 _ h) cb_9_101 im_F_tell se_F_tell ⟨_, _, rfl⟩ (by decide) (dc hd_F_drop 6 rfl) g_1 rfl rfl ⟨Nat.le_of_ble_eq_true rfl, Nat.le_of_ble_eq_true rfl⟩ ⟨(Nat.le_of_ble_eq_true rfl), (Nat.le_of_ble_eq_true rfl)⟩ (Nat.le_of_ble_eq_true rfl) (fun _ h => by cases h) (fun _ => rfl) (fun r_9 C_10 d_12 q_11 => ?_)
    obtain ⟨q_11a, h⟩ := q_11
    subst d_12
    show AW p l e _ s m args below meth c E M_F_drop true _ n _ _ _ [(2, v0)] [(0, r_9)] C_10
    exact AW.iret (dc hd_F_drop 7 rfl) rfl rfl (Nat.le_of_ble_eq_true rfl) (Nat.le_of_ble_eq_true rfl) ⟨rfl, h⟩
def P_F_of (n : Nat) (C : Cn) (v0 v1 v2 : Int) (Q : Int → Cn → Prop) : Prop :=
  okO n v0 9 ∧ (P_F_isSegment n C v0 v1 (fun (r_1 : Int) => (r_1 = 0 → (P_F_tell n C v0 0 (fun (r_36 : Int) (C_37 : Cn) => Q r_36 C_37))) ∧ (¬ r_1 = 0 → (okO n (PT v0.toNat 0) 1 ∧ (okO n (PT (PT v0.toNat 0).toNat 0) 16 ∧ (okI (PT (PT v0.toNat 0).toNat 0) v1 ∧ ((v2 = 0 → (okO n (PT (PT (PT v0.toNat 0).toNat 0).toNat v1.toNat) 7 ∧ (Q (C (PT (PT (PT v0.toNat 0).toNat 0).toNat v1.toNat).toNat 0) C))) ∧ (v2 = 1 → (okO n (PT (PT (PT v0.toNat 0).toNat 0).toNat v1.toNat) 7 ∧ (Q (C (PT (PT (PT v0.toNat 0).toNat 0).toNat v1.toNat).toNat 1) C))) ∧ (v2 = 2 → (okO n (PT (PT (PT v0.toNat 0).toNat 0).toNat v1.toNat) 7 ∧ (Q (C (PT (PT (PT v0.toNat 0).toNat 0).toNat v1.toNat).toNat 2) C))) ∧ (v2 = 3 → (okO n (PT (PT (PT v0.toNat 0).toNat 0).toNat v1.toNat) 7 ∧ (Q (C (PT (PT (PT v0.toNat 0).toNat 0).toNat v1.toNat).toNat 3) C))) ∧ (v2 = 4 → (okO n (PT (PT (PT v0.toNat 0).toNat 0).toNat v1.toNat) 7 ∧ (Q (C (PT (PT (PT v0.toNat 0).toNat 0).toNat v1.toNat).toNat 4) C))) ∧ (v2 = 5 → (okO n (PT (PT (PT v0.toNat 0).toNat 0).toNat v1.toNat) 7 ∧ (Q (C (PT (PT (PT v0.toNat 0).toNat 0).toNat v1.toNat).toNat 5) C))) ∧ (v2 = 6 → (okO n (PT (PT (PT v0.toNat 0).toNat 0).toNat v1.toNat) 7 ∧ (P_Wa_tollOf n C (C (PT (PT (PT v0.toNat 0).toNat 0).toNat v1.toNat).toNat 0) (C (PT (PT (PT v0.toNat 0).toNat 0).toNat v1.toNat).toNat 1) (C (PT v0.toNat 0).toNat 2) (fun (r_18 : Int) => Q r_18 C)))) ∧ (v2 = 7 → (okO n (PT v0.toNat 3) 2 ∧ (P_La_fieldsWith n C (PT v0.toNat 3) (PT (PT v0.toNat 3).toNat 11) v1 (fun (r_23 : Int) => Q r_23 C)))) ∧ (v2 = 8 → (okO n (PT v0.toNat 3) 2 ∧ (P_La_fieldsWith n C (PT v0.toNat 3) (PT (PT v0.toNat 3).toNat 12) v1 (fun (r_28 : Int) => Q r_28 C)))) ∧ ((v2 < 0 ∨ 8 < v2) → (P_F_tell n C v0 0 (fun (r_32 : Int) (C_33 : Cn) => Q r_32 C_33))))))))))
theorem m_F_of (l : Launch) (E : Ev) (n : Nat) (C : Cn) (v0 v1 v2 : Int) (Q : Int → Cn → Prop) (h : P_F_of n C v0 v1 v2 Q) : MA l y_F_of M_F_of E true C n [(2, v0), (0, v1), (0, v2)] (fun r C2 n2 => n2 = n ∧ Q r C2) := by
  refine MA.of (by decide) rfl rfl 1 rfl (fun p e s m args below meth c => ?_)
  show AW p l e _ s m args below meth c E M_F_of true _ n 0 0 0 [(2, v0), (0, v1), (0, v2), (9, 0)] [] C
  unfold P_F_of at h
  refine AW.ra_n (dc hd_F_of 0 rfl) rfl rfl rfl ?_
  refine AW.iload_n (dc hd_F_of 1 rfl) rfl ?_
  obtain ⟨g_2, h⟩ := h
  refine AW.callV (As := [(0, v1)]) (rest := []) (ci := 9) (m_F_isSegment l E n C v0 v1 _ h) cb_9_125 im_F_isSegment se_F_isSegment ⟨_, _, rfl⟩ (by decide) (dc hd_F_of 2 rfl) g_2 rfl rfl ⟨Nat.le_of_ble_eq_true rfl, Nat.le_of_ble_eq_true rfl⟩ ⟨(Nat.le_of_ble_eq_true rfl), (Nat.le_of_ble_eq_true rfl)⟩ (Nat.le_of_ble_eq_true rfl) (fun _ h => by cases h) (fun _ => rfl) (fun r_1 D_4 d_5 q_3 => ?_)
  obtain ⟨q_3a, q_3b, h⟩ := q_3
  subst D_4
  subst d_5
  show AW p l e _ s m args below meth c E M_F_of true _ n _ _ _ [(2, v0), (0, v1), (0, v2), (9, 0)] [(0, r_1)] C
  refine AW.if_ne (t := 14) (dc hd_F_of 3 rfl) (by decide) (fun c_6 => ?_) (fun c_6 => ?_)
  · have h := h.2 c_6
    refine AW.ra_n (dc hd_F_of 8 rfl) rfl rfl rfl ?_
    refine AW.getp fl_9_12 (dc hd_F_of 9 rfl) g_2 rfl ?_
    obtain ⟨g_7, h⟩ := h
    refine AW.getp fl_9_128 (dc hd_F_of 10 rfl) g_7 rfl ?_
    refine AW.iload_n (dc hd_F_of 11 rfl) rfl ?_
    obtain ⟨g_8, h⟩ := h
    obtain ⟨g_9, h⟩ := h
    refine AW.aaldp (by decide) (dc hd_F_of 12 rfl) g_8 g_9 rfl ?_
    refine AW.rs_n [(2, v0), (0, v1), (0, v2), (2, PT (PT (PT v0.toNat 0).toNat 0).toNat v1.toNat)] (dc hd_F_of 13 rfl) (Nat.le_of_ble_eq_true rfl) rfl rfl rfl ?_
    refine AW.iload_n (dc hd_F_of 14 rfl) rfl ?_
    refine AW.tsw (td := 157) (dc hd_F_of 15 rfl) [76, 81, 86, 91, 96, 101, 106, 125, 141] (by decide +kernel) (by decide) (by decide) (fun j t hj hx => ?_) (fun q_10 => ?_)
    · match j, hj with
      | 0, hj =>
        cases hj
        have h := h.1 (hx.trans (by decide))
        refine AW.ra_n (dc hd_F_of 16 rfl) rfl rfl rfl ?_
        obtain ⟨g_11, h⟩ := h
        refine AW.getf fl_9_132 (dc hd_F_of 17 rfl) g_11 ?_
        exact AW.iret (dc hd_F_of 18 rfl) rfl rfl (Nat.le_of_ble_eq_true rfl) (Nat.le_of_ble_eq_true rfl) ⟨rfl, h⟩
      | 1, hj =>
        cases hj
        have h := h.2.1 (hx.trans (by decide))
        refine AW.ra_n (dc hd_F_of 19 rfl) rfl rfl rfl ?_
        obtain ⟨g_12, h⟩ := h
        refine AW.getf fl_9_135 (dc hd_F_of 20 rfl) g_12 ?_
        exact AW.iret (dc hd_F_of 21 rfl) rfl rfl (Nat.le_of_ble_eq_true rfl) (Nat.le_of_ble_eq_true rfl) ⟨rfl, h⟩
      | 2, hj =>
        cases hj
        have h := h.2.2.1 (hx.trans (by decide))
        refine AW.ra_n (dc hd_F_of 22 rfl) rfl rfl rfl ?_
        obtain ⟨g_13, h⟩ := h
        refine AW.getf fl_9_138 (dc hd_F_of 23 rfl) g_13 ?_
        exact AW.iret (dc hd_F_of 24 rfl) rfl rfl (Nat.le_of_ble_eq_true rfl) (Nat.le_of_ble_eq_true rfl) ⟨rfl, h⟩
      | 3, hj =>
        cases hj
        have h := h.2.2.2.1 (hx.trans (by decide))
        refine AW.ra_n (dc hd_F_of 25 rfl) rfl rfl rfl ?_
        obtain ⟨g_14, h⟩ := h
        refine AW.getf fl_9_141 (dc hd_F_of 26 rfl) g_14 ?_
        exact AW.iret (dc hd_F_of 27 rfl) rfl rfl (Nat.le_of_ble_eq_true rfl) (Nat.le_of_ble_eq_true rfl) ⟨rfl, h⟩
      | 4, hj =>
        cases hj
        have h := h.2.2.2.2.1 (hx.trans (by decide))
        refine AW.ra_n (dc hd_F_of 28 rfl) rfl rfl rfl ?_
        obtain ⟨g_15, h⟩ := h
        refine AW.getf fl_9_144 (dc hd_F_of 29 rfl) g_15 ?_
        exact AW.iret (dc hd_F_of 30 rfl) rfl rfl (Nat.le_of_ble_eq_true rfl) (Nat.le_of_ble_eq_true rfl) ⟨rfl, h⟩
      | 5, hj =>
        cases hj
        have h := h.2.2.2.2.2.1 (hx.trans (by decide))
        refine AW.ra_n (dc hd_F_of 31 rfl) rfl rfl rfl ?_
        obtain ⟨g_16, h⟩ := h
        refine AW.getf fl_9_147 (dc hd_F_of 32 rfl) g_16 ?_
        exact AW.iret (dc hd_F_of 33 rfl) rfl rfl (Nat.le_of_ble_eq_true rfl) (Nat.le_of_ble_eq_true rfl) ⟨rfl, h⟩
      | 6, hj =>
        cases hj
        have h := h.2.2.2.2.2.2.1 (hx.trans (by decide))
        refine AW.ra_n (dc hd_F_of 34 rfl) rfl rfl rfl ?_
        obtain ⟨g_17, h⟩ := h
        refine AW.getf fl_9_132 (dc hd_F_of 35 rfl) g_17 ?_
        refine AW.ra_n (dc hd_F_of 36 rfl) rfl rfl rfl ?_
        refine AW.getf fl_9_135 (dc hd_F_of 37 rfl) g_17 ?_
        refine AW.ra_n (dc hd_F_of 38 rfl) rfl rfl rfl ?_
        refine AW.getp fl_9_12 (dc hd_F_of 39 rfl) g_2 rfl ?_
        refine AW.getf fl_9_150 (dc hd_F_of 40 rfl) g_7 ?_
        refine AW.callS (As := [(0, C (PT (PT (PT v0.toNat 0).toNat 0).toNat v1.toNat).toNat 0), (0, C (PT (PT (PT v0.toNat 0).toNat 0).toNat v1.toNat).toNat 1), (0, C (PT v0.toNat 0).toNat 2)]) (rest := []) (m_Wa_tollOf l E n C (C (PT (PT (PT v0.toNat 0).toNat 0).toNat v1.toNat).toNat 0) (C (PT (PT (PT v0.toNat 0).toNat 0).toNat v1.toNat).toNat 1) (C (PT v0.toNat 0).toNat 2) _ h) cb_9_153 sm_Wa_tollOf (dc hd_F_of 41 rfl) rfl rfl ⟨Nat.le_of_ble_eq_true rfl, Nat.le_of_ble_eq_true rfl⟩ ⟨(Nat.le_of_ble_eq_true rfl), (Nat.le_of_ble_eq_true rfl)⟩ (Nat.le_of_ble_eq_true rfl) (fun _ h => by cases h) (fun _ => rfl) (fun r_18 D_20 d_21 q_19 => ?_)
        obtain ⟨q_19a, q_19b, h⟩ := q_19
        subst D_20
        subst d_21
        show AW p l e _ s m args below meth c E M_F_of true _ n _ _ _ [(2, v0), (0, v1), (0, v2), (2, PT (PT (PT v0.toNat 0).toNat 0).toNat v1.toNat)] [(0, r_18)] C
        exact AW.iret (dc hd_F_of 42 rfl) rfl rfl (Nat.le_of_ble_eq_true rfl) (Nat.le_of_ble_eq_true rfl) ⟨rfl, h⟩
      | 7, hj =>
        cases hj
        have h := h.2.2.2.2.2.2.2.1 (hx.trans (by decide))
        refine AW.ra_n (dc hd_F_of 43 rfl) rfl rfl rfl ?_
        refine AW.getp fl_9_25 (dc hd_F_of 44 rfl) g_2 rfl ?_
        refine AW.ra_n (dc hd_F_of 45 rfl) rfl rfl rfl ?_
        refine AW.getp fl_9_25 (dc hd_F_of 46 rfl) g_2 rfl ?_
        obtain ⟨g_22, h⟩ := h
        refine AW.getp fl_9_157 (dc hd_F_of 47 rfl) g_22 rfl ?_
        refine AW.iload_n (dc hd_F_of 48 rfl) rfl ?_
        refine AW.callV (As := [(2, PT (PT v0.toNat 3).toNat 11), (0, v1)]) (rest := []) (ci := 2) (m_La_fieldsWith l E n C (PT v0.toNat 3) (PT (PT v0.toNat 3).toNat 11) v1 _ h) cb_9_160 im_La_fieldsWith se_La_fieldsWith ⟨_, _, rfl⟩ (by decide) (dc hd_F_of 49 rfl) g_22 rfl rfl ⟨Nat.le_of_ble_eq_true rfl, Nat.le_of_ble_eq_true rfl⟩ ⟨(Nat.le_of_ble_eq_true rfl), (Nat.le_of_ble_eq_true rfl)⟩ (Nat.le_of_ble_eq_true rfl) (fun _ h => by cases h) (fun _ => rfl) (fun r_23 D_25 d_26 q_24 => ?_)
        obtain ⟨q_24a, q_24b, h⟩ := q_24
        subst D_25
        subst d_26
        show AW p l e _ s m args below meth c E M_F_of true _ n _ _ _ [(2, v0), (0, v1), (0, v2), (2, PT (PT (PT v0.toNat 0).toNat 0).toNat v1.toNat)] [(0, r_23)] C
        exact AW.iret (dc hd_F_of 50 rfl) rfl rfl (Nat.le_of_ble_eq_true rfl) (Nat.le_of_ble_eq_true rfl) ⟨rfl, h⟩
      | 8, hj =>
        cases hj
        have h := h.2.2.2.2.2.2.2.2.1 (hx.trans (by decide))
        refine AW.ra_n (dc hd_F_of 51 rfl) rfl rfl rfl ?_
        refine AW.getp fl_9_25 (dc hd_F_of 52 rfl) g_2 rfl ?_
        refine AW.ra_n (dc hd_F_of 53 rfl) rfl rfl rfl ?_
        refine AW.getp fl_9_25 (dc hd_F_of 54 rfl) g_2 rfl ?_
        obtain ⟨g_27, h⟩ := h
        refine AW.getp fl_9_164 (dc hd_F_of 55 rfl) g_27 rfl ?_
        refine AW.iload_n (dc hd_F_of 56 rfl) rfl ?_
        refine AW.callV (As := [(2, PT (PT v0.toNat 3).toNat 12), (0, v1)]) (rest := []) (ci := 2) (m_La_fieldsWith l E n C (PT v0.toNat 3) (PT (PT v0.toNat 3).toNat 12) v1 _ h) cb_9_160 im_La_fieldsWith se_La_fieldsWith ⟨_, _, rfl⟩ (by decide) (dc hd_F_of 57 rfl) g_27 rfl rfl ⟨Nat.le_of_ble_eq_true rfl, Nat.le_of_ble_eq_true rfl⟩ ⟨(Nat.le_of_ble_eq_true rfl), (Nat.le_of_ble_eq_true rfl)⟩ (Nat.le_of_ble_eq_true rfl) (fun _ h => by cases h) (fun _ => rfl) (fun r_28 D_30 d_31 q_29 => ?_)
        obtain ⟨q_29a, q_29b, h⟩ := q_29
        subst D_30
        subst d_31
        show AW p l e _ s m args below meth c E M_F_of true _ n _ _ _ [(2, v0), (0, v1), (0, v2), (2, PT (PT (PT v0.toNat 0).toNat 0).toNat v1.toNat)] [(0, r_28)] C
        exact AW.iret (dc hd_F_of 58 rfl) rfl rfl (Nat.le_of_ble_eq_true rfl) (Nat.le_of_ble_eq_true rfl) ⟨rfl, h⟩
      | j + 9, hj => exact absurd hj (by simp)
    · have h := h.2.2.2.2.2.2.2.2.2 q_10
      refine AW.ra_n (dc hd_F_of 59 rfl) rfl rfl rfl ?_
      refine AW.iconst (dc hd_F_of 60 rfl) (by decide) ?_
      refine AW.callV (As := [(0, 0)]) (rest := []) (ci := 9) (m_F_tell l E n C v0 0 _ h) cb_9_101 im_F_tell se_F_tell ⟨_, _, rfl⟩ (by decide) (dc hd_F_of 61 rfl) g_2 rfl rfl ⟨Nat.le_of_ble_eq_true rfl, Nat.le_of_ble_eq_true rfl⟩ ⟨(Nat.le_of_ble_eq_true rfl), (Nat.le_of_ble_eq_true rfl)⟩ (Nat.le_of_ble_eq_true rfl) (fun _ h => by cases h) (fun _ => rfl) (fun r_32 C_33 d_35 q_34 => ?_)
      obtain ⟨q_34a, h⟩ := q_34
      subst d_35
      show AW p l e _ s m args below meth c E M_F_of true _ n _ _ _ [(2, v0), (0, v1), (0, v2), (2, PT (PT (PT v0.toNat 0).toNat 0).toNat v1.toNat)] [(0, r_32)] C_33
      exact AW.iret (dc hd_F_of 62 rfl) rfl rfl (Nat.le_of_ble_eq_true rfl) (Nat.le_of_ble_eq_true rfl) ⟨rfl, h⟩
  · have h := h.1 c_6
    refine AW.ra_n (dc hd_F_of 4 rfl) rfl rfl rfl ?_
    refine AW.iconst (dc hd_F_of 5 rfl) (by decide) ?_
    refine AW.callV (As := [(0, 0)]) (rest := []) (ci := 9) (m_F_tell l E n C v0 0 _ h) cb_9_101 im_F_tell se_F_tell ⟨_, _, rfl⟩ (by decide) (dc hd_F_of 6 rfl) g_2 rfl rfl ⟨Nat.le_of_ble_eq_true rfl, Nat.le_of_ble_eq_true rfl⟩ ⟨(Nat.le_of_ble_eq_true rfl), (Nat.le_of_ble_eq_true rfl)⟩ (Nat.le_of_ble_eq_true rfl) (fun _ h => by cases h) (fun _ => rfl) (fun r_36 C_37 d_39 q_38 => ?_)
    obtain ⟨q_38a, h⟩ := q_38
    subst d_39
    show AW p l e _ s m args below meth c E M_F_of true _ n _ _ _ [(2, v0), (0, v1), (0, v2), (9, 0)] [(0, r_36)] C_37
    exact AW.iret (dc hd_F_of 7 rfl) rfl rfl (Nat.le_of_ble_eq_true rfl) (Nat.le_of_ble_eq_true rfl) ⟨rfl, h⟩
def P_F_tide (n : Nat) (C : Cn) (v0 v1 : Int) (Q : Int → Cn → Prop) : Prop :=
  P_F_isIn n C v1 0 3 (fun (r_1 : Int) => (r_1 = 0 → (okO n v0 9 ∧ (P_F_tell n C v0 0 (fun (r_10 : Int) (C_12 : Cn) => Q r_10 C_12)))) ∧ (¬ r_1 = 0 → (okO n v0 9 ∧ (okO n (PT v0.toNat 0) 1 ∧ (∀ v2_8 : Int, v2_8 = C (PT v0.toNat 0).toNat 2 → (∀ C_9 : Cn, C_9 = wr C (PT v0.toNat 0).toNat 2 v1 → (Q v2_8 C_9)))))))
theorem m_F_tide (l : Launch) (E : Ev) (n : Nat) (C : Cn) (v0 v1 : Int) (Q : Int → Cn → Prop) (h : P_F_tide n C v0 v1 Q) : MA l y_F_tide M_F_tide E true C n [(2, v0), (0, v1)] (fun r C2 n2 => n2 = n ∧ Q r C2) := by
  refine MA.of (by decide) rfl rfl 1 rfl (fun p e s m args below meth c => ?_)
  show AW p l e _ s m args below meth c E M_F_tide true _ n 0 0 0 [(2, v0), (0, v1), (9, 0)] [] C
  unfold P_F_tide at h
  refine AW.iload_n (dc hd_F_tide 0 rfl) rfl ?_
  refine AW.iconst (dc hd_F_tide 1 rfl) (by decide) ?_
  refine AW.iconst (dc hd_F_tide 2 rfl) (by decide) ?_
  refine AW.callS (As := [(0, v1), (0, 0), (0, 3)]) (rest := []) (m_F_isIn l E n C v1 0 3 _ h) cb_9_167 sm_F_isIn (dc hd_F_tide 3 rfl) rfl rfl ⟨Nat.le_of_ble_eq_true rfl, Nat.le_of_ble_eq_true rfl⟩ ⟨(Nat.le_of_ble_eq_true rfl), (Nat.le_of_ble_eq_true rfl)⟩ (Nat.le_of_ble_eq_true rfl) (fun _ h => by cases h) (fun _ => rfl) (fun r_1 D_3 d_4 q_2 => ?_)
  obtain ⟨q_2a, q_2b, h⟩ := q_2
  subst D_3
  subst d_4
  show AW p l e _ s m args below meth c E M_F_tide true _ n _ _ _ [(2, v0), (0, v1), (9, 0)] [(0, r_1)] C
  refine AW.if_ne (t := 15) (dc hd_F_tide 4 rfl) (by decide) (fun c_5 => ?_) (fun c_5 => ?_)
  · have h := h.2 c_5
    refine AW.ra_n (dc hd_F_tide 9 rfl) rfl rfl rfl ?_
    obtain ⟨g_6, h⟩ := h
    refine AW.getp fl_9_12 (dc hd_F_tide 10 rfl) g_6 rfl ?_
    obtain ⟨g_7, h⟩ := h
    refine AW.getf fl_9_150 (dc hd_F_tide 11 rfl) g_7 ?_
    refine AW.nm (fun v2_8 ev2_8 => ?_)
    have h := h v2_8 ev2_8
    refine AW.istore_n [(2, v0), (0, v1), (0, v2_8)] (dc hd_F_tide 12 rfl) (Nat.le_of_ble_eq_true rfl) rfl rfl ?_
    refine AW.ra_n (dc hd_F_tide 13 rfl) rfl rfl rfl ?_
    refine AW.getp fl_9_12 (dc hd_F_tide 14 rfl) g_6 rfl ?_
    refine AW.iload_n (dc hd_F_tide 15 rfl) rfl ?_
    refine AW.nputI fl_9_150 (dc hd_F_tide 16 rfl) g_7 (fun C_9 eC_9 => ?_)
    have h := h C_9 eC_9
    refine AW.iload_n (dc hd_F_tide 17 rfl) rfl ?_
    exact AW.iret (dc hd_F_tide 18 rfl) rfl rfl (Nat.le_of_ble_eq_true rfl) (Nat.le_of_ble_eq_true rfl) ⟨rfl, h⟩
  · have h := h.1 c_5
    refine AW.ra_n (dc hd_F_tide 5 rfl) rfl rfl rfl ?_
    refine AW.iconst (dc hd_F_tide 6 rfl) (by decide) ?_
    obtain ⟨g_11, h⟩ := h
    refine AW.callV (As := [(0, 0)]) (rest := []) (ci := 9) (m_F_tell l E n C v0 0 _ h) cb_9_101 im_F_tell se_F_tell ⟨_, _, rfl⟩ (by decide) (dc hd_F_tide 7 rfl) g_11 rfl rfl ⟨Nat.le_of_ble_eq_true rfl, Nat.le_of_ble_eq_true rfl⟩ ⟨(Nat.le_of_ble_eq_true rfl), (Nat.le_of_ble_eq_true rfl)⟩ (Nat.le_of_ble_eq_true rfl) (fun _ h => by cases h) (fun _ => rfl) (fun r_10 C_12 d_14 q_13 => ?_)
    obtain ⟨q_13a, h⟩ := q_13
    subst d_14
    show AW p l e _ s m args below meth c E M_F_tide true _ n _ _ _ [(2, v0), (0, v1), (9, 0)] [(0, r_10)] C_12
    exact AW.iret (dc hd_F_tide 8 rfl) rfl rfl (Nat.le_of_ble_eq_true rfl) (Nat.le_of_ble_eq_true rfl) ⟨rfl, h⟩
def J_F_blame_59 (n : Nat) (C : Cn) (s0 : Int) (Q : Int → Cn → Prop) : Prop :=
  Q s0 C
theorem aJ_F_blame_59 (n : Nat) (C : Cn) (s0 : Int) (Q : Int → Cn → Prop) (h : J_F_blame_59 n C s0 Q) : AW p l e R s m args below meth c E M_F_blame true (fun r C2 n2 => n2 = n ∧ Q r C2) n 0 0 59 [(9, 0), (9, 0)] [(0, s0)] C := by
  unfold J_F_blame_59 at h
  exact AW.iret (dc hd_F_blame 17 rfl) rfl rfl (Nat.le_of_ble_eq_true rfl) (Nat.le_of_ble_eq_true rfl) ⟨rfl, h⟩
def P_F_blame (n : Nat) (C : Cn) (v0 v1 : Int) (Q : Int → Cn → Prop) : Prop :=
  (v1 = 0 → (okO n v0 9 ∧ (okO n (PT v0.toNat 7) 0 ∧ (Q (C (PT v0.toNat 7).toNat 0) C)))) ∧ (v1 = 1 → (okO n v0 9 ∧ (okO n (PT v0.toNat 7) 0 ∧ (Q (C (PT v0.toNat 7).toNat 1) C)))) ∧ (v1 = 2 → (okO n v0 9 ∧ (okO n (PT v0.toNat 7) 0 ∧ (J_F_blame_59 n C (if C (PT v0.toNat 7).toNat 2 = 0 then 0 else 1) Q)))) ∧ ((v1 < 0 ∨ 2 < v1) → (okO n v0 9 ∧ (P_F_tell n C v0 0 (fun (r_9 : Int) (C_11 : Cn) => Q r_9 C_11))))
theorem m_F_blame (l : Launch) (E : Ev) (n : Nat) (C : Cn) (v0 v1 : Int) (Q : Int → Cn → Prop) (h : P_F_blame n C v0 v1 Q) : MA l y_F_blame M_F_blame E true C n [(2, v0), (0, v1)] (fun r C2 n2 => n2 = n ∧ Q r C2) := by
  refine MA.of (by decide) rfl rfl 0 rfl (fun p e s m args below meth c => ?_)
  show AW p l e _ s m args below meth c E M_F_blame true _ n 0 0 0 [(2, v0), (0, v1)] [] C
  unfold P_F_blame at h
  refine AW.iload_n (dc hd_F_blame 0 rfl) rfl ?_
  refine AW.tsw (td := 60) (dc hd_F_blame 1 rfl) [28, 36, 44] (by decide +kernel) (by decide) (by decide) (fun j t hj hx => ?_) (fun q_1 => ?_)
  · match j, hj with
    | 0, hj =>
      cases hj
      have h := h.1 (hx.trans (by decide))
      refine AW.ra_n (dc hd_F_blame 2 rfl) rfl rfl rfl ?_
      obtain ⟨g_2, h⟩ := h
      refine AW.getp fl_9_51 (dc hd_F_blame 3 rfl) g_2 rfl ?_
      obtain ⟨g_3, h⟩ := h
      refine AW.getf fl_9_171 (dc hd_F_blame 4 rfl) g_3 ?_
      exact AW.iret (dc hd_F_blame 5 rfl) rfl rfl (Nat.le_of_ble_eq_true rfl) (Nat.le_of_ble_eq_true rfl) ⟨rfl, h⟩
    | 1, hj =>
      cases hj
      have h := h.2.1 (hx.trans (by decide))
      refine AW.ra_n (dc hd_F_blame 6 rfl) rfl rfl rfl ?_
      obtain ⟨g_4, h⟩ := h
      refine AW.getp fl_9_51 (dc hd_F_blame 7 rfl) g_4 rfl ?_
      obtain ⟨g_5, h⟩ := h
      refine AW.getf fl_9_174 (dc hd_F_blame 8 rfl) g_5 ?_
      exact AW.iret (dc hd_F_blame 9 rfl) rfl rfl (Nat.le_of_ble_eq_true rfl) (Nat.le_of_ble_eq_true rfl) ⟨rfl, h⟩
    | 2, hj =>
      cases hj
      have h := h.2.2.1 (hx.trans (by decide))
      refine AW.ra_n (dc hd_F_blame 10 rfl) rfl rfl rfl ?_
      obtain ⟨g_6, h⟩ := h
      refine AW.getp fl_9_51 (dc hd_F_blame 11 rfl) g_6 rfl ?_
      obtain ⟨g_7, h⟩ := h
      refine AW.getf fl_9_177 (dc hd_F_blame 12 rfl) g_7 ?_
      refine AW.if_eq (t := 58) (dc hd_F_blame 13 rfl) (by decide) (fun c_8 => ?_) (fun c_8 => ?_)
      · simp only [if_pos (show C (PT v0.toNat 7).toNat 2 = 0 from c_8)] at h
        refine AW.iconst (dc hd_F_blame 16 rfl) (by decide) ?_
        refine AW.fgt [(9, 0), (9, 0)] ⟨.inr rfl, .inr rfl, trivial⟩ ?_
        exact aJ_F_blame_59 n C _ Q h
      · simp only [if_neg (show ¬ (C (PT v0.toNat 7).toNat 2 = 0) from c_8)] at h
        refine AW.iconst (dc hd_F_blame 14 rfl) (by decide) ?_
        refine AW.goto (t := 59) (dc hd_F_blame 15 rfl) (by decide) ?_
        refine AW.fgt [(9, 0), (9, 0)] ⟨.inr rfl, .inr rfl, trivial⟩ ?_
        exact aJ_F_blame_59 n C _ Q h
    | j + 3, hj => exact absurd hj (by simp)
  · have h := h.2.2.2 q_1
    refine AW.ra_n (dc hd_F_blame 18 rfl) rfl rfl rfl ?_
    refine AW.iconst (dc hd_F_blame 19 rfl) (by decide) ?_
    obtain ⟨g_10, h⟩ := h
    refine AW.callV (As := [(0, 0)]) (rest := []) (ci := 9) (m_F_tell l E n C v0 0 _ h) cb_9_101 im_F_tell se_F_tell ⟨_, _, rfl⟩ (by decide) (dc hd_F_blame 20 rfl) g_10 rfl rfl ⟨Nat.le_of_ble_eq_true rfl, Nat.le_of_ble_eq_true rfl⟩ ⟨(Nat.le_of_ble_eq_true rfl), (Nat.le_of_ble_eq_true rfl)⟩ (Nat.le_of_ble_eq_true rfl) (fun _ h => by cases h) (fun _ => rfl) (fun r_9 C_11 d_13 q_12 => ?_)
    obtain ⟨q_12a, h⟩ := q_12
    subst d_13
    show AW p l e _ s m args below meth c E M_F_blame true _ n _ _ _ [(2, v0), (0, v1)] [(0, r_9)] C_11
    exact AW.iret (dc hd_F_blame 21 rfl) rfl rfl (Nat.le_of_ble_eq_true rfl) (Nat.le_of_ble_eq_true rfl) ⟨rfl, h⟩
def P_F_many (n : Nat) (C : Cn) (v0 v1 : Int) (Q : Int → Cn → Prop) : Prop :=
  (v1 = 0 → (okO n v0 9 ∧ (okO n (PT v0.toNat 3) 2 ∧ (Q (C (PT v0.toNat 3).toNat 1) C)))) ∧ (v1 = 1 → (okO n v0 9 ∧ (okO n (PT v0.toNat 3) 2 ∧ (Q (C (PT v0.toNat 3).toNat 8) C)))) ∧ (v1 = 2 → (okO n v0 9 ∧ (okO n (PT v0.toNat 3) 2 ∧ (Q (C (PT v0.toNat 3).toNat 14) C)))) ∧ (v1 = 3 → (okO n v0 9 ∧ (okO n (PT v0.toNat 3) 2 ∧ (P_La_twosAtSegments n C (PT v0.toNat 3) (fun (r_9 : Int) => Q r_9 C))))) ∧ ((v1 < 0 ∨ 3 < v1) → (okO n v0 9 ∧ (P_F_tell n C v0 0 (fun (r_14 : Int) (C_16 : Cn) => Q r_14 C_16))))
theorem m_F_many (l : Launch) (E : Ev) (n : Nat) (C : Cn) (v0 v1 : Int) (Q : Int → Cn → Prop) (h : P_F_many n C v0 v1 Q) : MA l y_F_many M_F_many E true C n [(2, v0), (0, v1)] (fun r C2 n2 => n2 = n ∧ Q r C2) := by
  refine MA.of (by decide) rfl rfl 0 rfl (fun p e s m args below meth c => ?_)
  show AW p l e _ s m args below meth c E M_F_many true _ n 0 0 0 [(2, v0), (0, v1)] [] C
  unfold P_F_many at h
  refine AW.iload_n (dc hd_F_many 0 rfl) rfl ?_
  refine AW.tsw (td := 64) (dc hd_F_many 1 rfl) [32, 40, 48, 56] (by decide +kernel) (by decide) (by decide) (fun j t hj hx => ?_) (fun q_1 => ?_)
  · match j, hj with
    | 0, hj =>
      cases hj
      have h := h.1 (hx.trans (by decide))
      refine AW.ra_n (dc hd_F_many 2 rfl) rfl rfl rfl ?_
      obtain ⟨g_2, h⟩ := h
      refine AW.getp fl_9_25 (dc hd_F_many 3 rfl) g_2 rfl ?_
      obtain ⟨g_3, h⟩ := h
      refine AW.getf fl_9_181 (dc hd_F_many 4 rfl) g_3 ?_
      exact AW.iret (dc hd_F_many 5 rfl) rfl rfl (Nat.le_of_ble_eq_true rfl) (Nat.le_of_ble_eq_true rfl) ⟨rfl, h⟩
    | 1, hj =>
      cases hj
      have h := h.2.1 (hx.trans (by decide))
      refine AW.ra_n (dc hd_F_many 6 rfl) rfl rfl rfl ?_
      obtain ⟨g_4, h⟩ := h
      refine AW.getp fl_9_25 (dc hd_F_many 7 rfl) g_4 rfl ?_
      obtain ⟨g_5, h⟩ := h
      refine AW.getf fl_9_184 (dc hd_F_many 8 rfl) g_5 ?_
      exact AW.iret (dc hd_F_many 9 rfl) rfl rfl (Nat.le_of_ble_eq_true rfl) (Nat.le_of_ble_eq_true rfl) ⟨rfl, h⟩
    | 2, hj =>
      cases hj
      have h := h.2.2.1 (hx.trans (by decide))
      refine AW.ra_n (dc hd_F_many 10 rfl) rfl rfl rfl ?_
      obtain ⟨g_6, h⟩ := h
      refine AW.getp fl_9_25 (dc hd_F_many 11 rfl) g_6 rfl ?_
      obtain ⟨g_7, h⟩ := h
      refine AW.getf fl_9_187 (dc hd_F_many 12 rfl) g_7 ?_
      exact AW.iret (dc hd_F_many 13 rfl) rfl rfl (Nat.le_of_ble_eq_true rfl) (Nat.le_of_ble_eq_true rfl) ⟨rfl, h⟩
    | 3, hj =>
      cases hj
      have h := h.2.2.2.1 (hx.trans (by decide))
      refine AW.ra_n (dc hd_F_many 14 rfl) rfl rfl rfl ?_
      obtain ⟨g_8, h⟩ := h
      refine AW.getp fl_9_25 (dc hd_F_many 15 rfl) g_8 rfl ?_
      obtain ⟨g_10, h⟩ := h
      refine AW.callV (As := []) (rest := []) (ci := 2) (m_La_twosAtSegments l E n C (PT v0.toNat 3) _ h) cb_9_190 im_La_twosAtSegments se_La_twosAtSegments ⟨_, _, rfl⟩ (by decide) (dc hd_F_many 16 rfl) g_10 rfl rfl ⟨Nat.le_of_ble_eq_true rfl, Nat.le_of_ble_eq_true rfl⟩ ⟨(Nat.le_of_ble_eq_true rfl), (Nat.le_of_ble_eq_true rfl)⟩ (Nat.le_of_ble_eq_true rfl) (fun _ h => by cases h) (fun _ => rfl) (fun r_9 D_12 d_13 q_11 => ?_)
      obtain ⟨q_11a, q_11b, h⟩ := q_11
      subst D_12
      subst d_13
      show AW p l e _ s m args below meth c E M_F_many true _ n _ _ _ [(2, v0), (0, v1)] [(0, r_9)] C
      exact AW.iret (dc hd_F_many 17 rfl) rfl rfl (Nat.le_of_ble_eq_true rfl) (Nat.le_of_ble_eq_true rfl) ⟨rfl, h⟩
    | j + 4, hj => exact absurd hj (by simp)
  · have h := h.2.2.2.2 q_1
    refine AW.ra_n (dc hd_F_many 18 rfl) rfl rfl rfl ?_
    refine AW.iconst (dc hd_F_many 19 rfl) (by decide) ?_
    obtain ⟨g_15, h⟩ := h
    refine AW.callV (As := [(0, 0)]) (rest := []) (ci := 9) (m_F_tell l E n C v0 0 _ h) cb_9_101 im_F_tell se_F_tell ⟨_, _, rfl⟩ (by decide) (dc hd_F_many 20 rfl) g_15 rfl rfl ⟨Nat.le_of_ble_eq_true rfl, Nat.le_of_ble_eq_true rfl⟩ ⟨(Nat.le_of_ble_eq_true rfl), (Nat.le_of_ble_eq_true rfl)⟩ (Nat.le_of_ble_eq_true rfl) (fun _ h => by cases h) (fun _ => rfl) (fun r_14 C_16 d_18 q_17 => ?_)
    obtain ⟨q_17a, h⟩ := q_17
    subst d_18
    show AW p l e _ s m args below meth c E M_F_many true _ n _ _ _ [(2, v0), (0, v1)] [(0, r_14)] C_16
    exact AW.iret (dc hd_F_many 21 rfl) rfl rfl (Nat.le_of_ble_eq_true rfl) (Nat.le_of_ble_eq_true rfl) ⟨rfl, h⟩
def P_F_end (n : Nat) (C : Cn) (v0 v1 v2 : Int) (Q : Int → Cn → Prop) : Prop :=
  okO n v0 9 ∧ (okO n (PT v0.toNat 3) 2 ∧ (P_F_isIn n C v1 0 (w32 (C (PT v0.toNat 3).toNat 1 - 1)) (fun (r_3 : Int) => (r_3 = 0 → (P_F_tell n C v0 0 (fun (r_25 : Int) (C_26 : Cn) => Q r_25 C_26))) ∧ (¬ r_3 = 0 → ((v2 = 0 → (okO n (PT (PT v0.toNat 3).toNat 2) 12 ∧ (okI (PT (PT v0.toNat 3).toNat 2) v1 ∧ (Q (C (PT (PT v0.toNat 3).toNat 2).toNat v1.toNat) C)))) ∧ (v2 = 1 → (okO n (PT (PT v0.toNat 3).toNat 3) 12 ∧ (okI (PT (PT v0.toNat 3).toNat 3) v1 ∧ (Q (C (PT (PT v0.toNat 3).toNat 3).toNat v1.toNat) C)))) ∧ (v2 = 2 → (P_La_segmentsWith n C (PT v0.toNat 3) (PT (PT v0.toNat 3).toNat 4) v1 (fun (r_13 : Int) => Q r_13 C))) ∧ (v2 = 3 → (P_La_segmentsWith n C (PT v0.toNat 3) (PT (PT v0.toNat 3).toNat 5) v1 (fun (r_17 : Int) => Q r_17 C))) ∧ ((v2 < 0 ∨ 3 < v2) → (P_F_tell n C v0 0 (fun (r_21 : Int) (C_22 : Cn) => Q r_21 C_22))))))))
theorem m_F_end (l : Launch) (E : Ev) (n : Nat) (C : Cn) (v0 v1 v2 : Int) (Q : Int → Cn → Prop) (h : P_F_end n C v0 v1 v2 Q) : MA l y_F_end M_F_end E true C n [(2, v0), (0, v1), (0, v2)] (fun r C2 n2 => n2 = n ∧ Q r C2) := by
  refine MA.of (by decide) rfl rfl 0 rfl (fun p e s m args below meth c => ?_)
  show AW p l e _ s m args below meth c E M_F_end true _ n 0 0 0 [(2, v0), (0, v1), (0, v2)] [] C
  unfold P_F_end at h
  refine AW.iload_n (dc hd_F_end 0 rfl) rfl ?_
  refine AW.iconst (dc hd_F_end 1 rfl) (by decide) ?_
  refine AW.ra_n (dc hd_F_end 2 rfl) rfl rfl rfl ?_
  obtain ⟨g_1, h⟩ := h
  refine AW.getp fl_9_25 (dc hd_F_end 3 rfl) g_1 rfl ?_
  obtain ⟨g_2, h⟩ := h
  refine AW.getf fl_9_181 (dc hd_F_end 4 rfl) g_2 ?_
  refine AW.iconst (dc hd_F_end 5 rfl) (by decide) ?_
  refine AW.isub (dc hd_F_end 6 rfl) ?_
  refine AW.callS (As := [(0, v1), (0, 0), (0, w32 (C (PT v0.toNat 3).toNat 1 - 1))]) (rest := []) (m_F_isIn l E n C v1 0 (w32 (C (PT v0.toNat 3).toNat 1 - 1)) _ h) cb_9_167 sm_F_isIn (dc hd_F_end 7 rfl) rfl rfl ⟨Nat.le_of_ble_eq_true rfl, Nat.le_of_ble_eq_true rfl⟩ ⟨(Nat.le_of_ble_eq_true rfl), (Nat.le_of_ble_eq_true rfl)⟩ (Nat.le_of_ble_eq_true rfl) (fun _ h => by cases h) (fun _ => rfl) (fun r_3 D_5 d_6 q_4 => ?_)
  obtain ⟨q_4a, q_4b, h⟩ := q_4
  subst D_5
  subst d_6
  show AW p l e _ s m args below meth c E M_F_end true _ n _ _ _ [(2, v0), (0, v1), (0, v2)] [(0, r_3)] C
  refine AW.if_ne (t := 23) (dc hd_F_end 8 rfl) (by decide) (fun c_7 => ?_) (fun c_7 => ?_)
  · have h := h.2 c_7
    refine AW.iload_n (dc hd_F_end 13 rfl) rfl ?_
    refine AW.tsw (td := 108) (dc hd_F_end 14 rfl) [56, 66, 76, 92] (by decide +kernel) (by decide) (by decide) (fun j t hj hx => ?_) (fun q_8 => ?_)
    · match j, hj with
      | 0, hj =>
        cases hj
        have h := h.1 (hx.trans (by decide))
        refine AW.ra_n (dc hd_F_end 15 rfl) rfl rfl rfl ?_
        refine AW.getp fl_9_25 (dc hd_F_end 16 rfl) g_1 rfl ?_
        refine AW.getp fl_9_194 (dc hd_F_end 17 rfl) g_2 rfl ?_
        refine AW.iload_n (dc hd_F_end 18 rfl) rfl ?_
        obtain ⟨g_9, h⟩ := h
        obtain ⟨g_10, h⟩ := h
        refine AW.iald (dc hd_F_end 19 rfl) g_9 g_10 ?_
        exact AW.iret (dc hd_F_end 20 rfl) rfl rfl (Nat.le_of_ble_eq_true rfl) (Nat.le_of_ble_eq_true rfl) ⟨rfl, h⟩
      | 1, hj =>
        cases hj
        have h := h.2.1 (hx.trans (by decide))
        refine AW.ra_n (dc hd_F_end 21 rfl) rfl rfl rfl ?_
        refine AW.getp fl_9_25 (dc hd_F_end 22 rfl) g_1 rfl ?_
        refine AW.getp fl_9_197 (dc hd_F_end 23 rfl) g_2 rfl ?_
        refine AW.iload_n (dc hd_F_end 24 rfl) rfl ?_
        obtain ⟨g_11, h⟩ := h
        obtain ⟨g_12, h⟩ := h
        refine AW.iald (dc hd_F_end 25 rfl) g_11 g_12 ?_
        exact AW.iret (dc hd_F_end 26 rfl) rfl rfl (Nat.le_of_ble_eq_true rfl) (Nat.le_of_ble_eq_true rfl) ⟨rfl, h⟩
      | 2, hj =>
        cases hj
        have h := h.2.2.1 (hx.trans (by decide))
        refine AW.ra_n (dc hd_F_end 27 rfl) rfl rfl rfl ?_
        refine AW.getp fl_9_25 (dc hd_F_end 28 rfl) g_1 rfl ?_
        refine AW.ra_n (dc hd_F_end 29 rfl) rfl rfl rfl ?_
        refine AW.getp fl_9_25 (dc hd_F_end 30 rfl) g_1 rfl ?_
        refine AW.getp fl_9_200 (dc hd_F_end 31 rfl) g_2 rfl ?_
        refine AW.iload_n (dc hd_F_end 32 rfl) rfl ?_
        refine AW.callV (As := [(2, PT (PT v0.toNat 3).toNat 4), (0, v1)]) (rest := []) (ci := 2) (m_La_segmentsWith l E n C (PT v0.toNat 3) (PT (PT v0.toNat 3).toNat 4) v1 _ h) cb_9_203 im_La_segmentsWith se_La_segmentsWith ⟨_, _, rfl⟩ (by decide) (dc hd_F_end 33 rfl) g_2 rfl rfl ⟨Nat.le_of_ble_eq_true rfl, Nat.le_of_ble_eq_true rfl⟩ ⟨(Nat.le_of_ble_eq_true rfl), (Nat.le_of_ble_eq_true rfl)⟩ (Nat.le_of_ble_eq_true rfl) (fun _ h => by cases h) (fun _ => rfl) (fun r_13 D_15 d_16 q_14 => ?_)
        obtain ⟨q_14a, q_14b, h⟩ := q_14
        subst D_15
        subst d_16
        show AW p l e _ s m args below meth c E M_F_end true _ n _ _ _ [(2, v0), (0, v1), (0, v2)] [(0, r_13)] C
        exact AW.iret (dc hd_F_end 34 rfl) rfl rfl (Nat.le_of_ble_eq_true rfl) (Nat.le_of_ble_eq_true rfl) ⟨rfl, h⟩
      | 3, hj =>
        cases hj
        have h := h.2.2.2.1 (hx.trans (by decide))
        refine AW.ra_n (dc hd_F_end 35 rfl) rfl rfl rfl ?_
        refine AW.getp fl_9_25 (dc hd_F_end 36 rfl) g_1 rfl ?_
        refine AW.ra_n (dc hd_F_end 37 rfl) rfl rfl rfl ?_
        refine AW.getp fl_9_25 (dc hd_F_end 38 rfl) g_1 rfl ?_
        refine AW.getp fl_9_206 (dc hd_F_end 39 rfl) g_2 rfl ?_
        refine AW.iload_n (dc hd_F_end 40 rfl) rfl ?_
        refine AW.callV (As := [(2, PT (PT v0.toNat 3).toNat 5), (0, v1)]) (rest := []) (ci := 2) (m_La_segmentsWith l E n C (PT v0.toNat 3) (PT (PT v0.toNat 3).toNat 5) v1 _ h) cb_9_203 im_La_segmentsWith se_La_segmentsWith ⟨_, _, rfl⟩ (by decide) (dc hd_F_end 41 rfl) g_2 rfl rfl ⟨Nat.le_of_ble_eq_true rfl, Nat.le_of_ble_eq_true rfl⟩ ⟨(Nat.le_of_ble_eq_true rfl), (Nat.le_of_ble_eq_true rfl)⟩ (Nat.le_of_ble_eq_true rfl) (fun _ h => by cases h) (fun _ => rfl) (fun r_17 D_19 d_20 q_18 => ?_)
        obtain ⟨q_18a, q_18b, h⟩ := q_18
        subst D_19
        subst d_20
        show AW p l e _ s m args below meth c E M_F_end true _ n _ _ _ [(2, v0), (0, v1), (0, v2)] [(0, r_17)] C
        exact AW.iret (dc hd_F_end 42 rfl) rfl rfl (Nat.le_of_ble_eq_true rfl) (Nat.le_of_ble_eq_true rfl) ⟨rfl, h⟩
      | j + 4, hj => exact absurd hj (by simp)
    · have h := h.2.2.2.2 q_8
      refine AW.ra_n (dc hd_F_end 43 rfl) rfl rfl rfl ?_
      refine AW.iconst (dc hd_F_end 44 rfl) (by decide) ?_
      refine AW.callV (As := [(0, 0)]) (rest := []) (ci := 9) (m_F_tell l E n C v0 0 _ h) cb_9_101 im_F_tell se_F_tell ⟨_, _, rfl⟩ (by decide) (dc hd_F_end 45 rfl) g_1 rfl rfl ⟨Nat.le_of_ble_eq_true rfl, Nat.le_of_ble_eq_true rfl⟩ ⟨(Nat.le_of_ble_eq_true rfl), (Nat.le_of_ble_eq_true rfl)⟩ (Nat.le_of_ble_eq_true rfl) (fun _ h => by cases h) (fun _ => rfl) (fun r_21 C_22 d_24 q_23 => ?_)
      obtain ⟨q_23a, h⟩ := q_23
      subst d_24
      show AW p l e _ s m args below meth c E M_F_end true _ n _ _ _ [(2, v0), (0, v1), (0, v2)] [(0, r_21)] C_22
      exact AW.iret (dc hd_F_end 46 rfl) rfl rfl (Nat.le_of_ble_eq_true rfl) (Nat.le_of_ble_eq_true rfl) ⟨rfl, h⟩
  · have h := h.1 c_7
    refine AW.ra_n (dc hd_F_end 9 rfl) rfl rfl rfl ?_
    refine AW.iconst (dc hd_F_end 10 rfl) (by decide) ?_
    refine AW.callV (As := [(0, 0)]) (rest := []) (ci := 9) (m_F_tell l E n C v0 0 _ h) cb_9_101 im_F_tell se_F_tell ⟨_, _, rfl⟩ (by decide) (dc hd_F_end 11 rfl) g_1 rfl rfl ⟨Nat.le_of_ble_eq_true rfl, Nat.le_of_ble_eq_true rfl⟩ ⟨(Nat.le_of_ble_eq_true rfl), (Nat.le_of_ble_eq_true rfl)⟩ (Nat.le_of_ble_eq_true rfl) (fun _ h => by cases h) (fun _ => rfl) (fun r_25 C_26 d_28 q_27 => ?_)
    obtain ⟨q_27a, h⟩ := q_27
    subst d_28
    show AW p l e _ s m args below meth c E M_F_end true _ n _ _ _ [(2, v0), (0, v1), (0, v2)] [(0, r_25)] C_26
    exact AW.iret (dc hd_F_end 12 rfl) rfl rfl (Nat.le_of_ble_eq_true rfl) (Nat.le_of_ble_eq_true rfl) ⟨rfl, h⟩
def P_F_isField (n : Nat) (C : Cn) (v0 v1 : Int) (Q : Int → Prop) : Prop :=
  okO n v0 9 ∧ (okO n (PT v0.toNat 3) 2 ∧ (P_F_isIn n C v1 0 (w32 (C (PT v0.toNat 3).toNat 14 - 1)) (fun (r_3 : Int) => (r_3 = 0 ∨ r_3 = 1) ∧ (Q r_3))))
theorem m_F_isField (l : Launch) (E : Ev) (n : Nat) (C : Cn) (v0 v1 : Int) (Q : Int → Prop) (h : P_F_isField n C v0 v1 Q) : MA l y_F_isField M_F_isField E true C n [(2, v0), (0, v1)] (fun r C2 n2 => C2 = C ∧ n2 = n ∧ Q r) := by
  refine MA.of (by decide) rfl rfl 0 rfl (fun p e s m args below meth c => ?_)
  show AW p l e _ s m args below meth c E M_F_isField true _ n 0 0 0 [(2, v0), (0, v1)] [] C
  unfold P_F_isField at h
  refine AW.iload_n (dc hd_F_isField 0 rfl) rfl ?_
  refine AW.iconst (dc hd_F_isField 1 rfl) (by decide) ?_
  refine AW.ra_n (dc hd_F_isField 2 rfl) rfl rfl rfl ?_
  obtain ⟨g_1, h⟩ := h
  refine AW.getp fl_9_25 (dc hd_F_isField 3 rfl) g_1 rfl ?_
  obtain ⟨g_2, h⟩ := h
  refine AW.getf fl_9_187 (dc hd_F_isField 4 rfl) g_2 ?_
  refine AW.iconst (dc hd_F_isField 5 rfl) (by decide) ?_
  refine AW.isub (dc hd_F_isField 6 rfl) ?_
  refine AW.callS (As := [(0, v1), (0, 0), (0, w32 (C (PT v0.toNat 3).toNat 14 - 1))]) (rest := []) (m_F_isIn l E n C v1 0 (w32 (C (PT v0.toNat 3).toNat 14 - 1)) _ h) cb_9_167 sm_F_isIn (dc hd_F_isField 7 rfl) rfl rfl ⟨Nat.le_of_ble_eq_true rfl, Nat.le_of_ble_eq_true rfl⟩ ⟨(Nat.le_of_ble_eq_true rfl), (Nat.le_of_ble_eq_true rfl)⟩ (Nat.le_of_ble_eq_true rfl) (fun _ h => by cases h) (fun _ => rfl) (fun r_3 D_5 d_6 q_4 => ?_)
  obtain ⟨q_4a, q_4b, h⟩ := q_4
  subst D_5
  subst d_6
  show AW p l e _ s m args below meth c E M_F_isField true _ n _ _ _ [(2, v0), (0, v1)] [(0, r_3)] C
  obtain ⟨g_7, h⟩ := h
  exact AW.zret (dc hd_F_isField 8 rfl) rfl rfl (Nat.le_of_ble_eq_true rfl) (Nat.le_of_ble_eq_true rfl) g_7 ⟨rfl, rfl, h⟩
def P_F_field (n : Nat) (C : Cn) (v0 v1 v2 : Int) (Q : Int → Cn → Prop) : Prop :=
  okO n v0 9 ∧ (P_F_isField n C v0 v1 (fun (r_1 : Int) => (r_1 = 0 → (P_F_tell n C v0 0 (fun (r_7 : Int) (C_8 : Cn) => Q r_7 C_8))) ∧ (¬ r_1 = 0 → (P_F_isIn n C v2 0 4 (fun (r_11 : Int) => (r_11 = 0 → (P_F_tell n C v0 0 (fun (r_28 : Int) (C_29 : Cn) => Q r_28 C_29))) ∧ (¬ r_11 = 0 → ((4 ≤ v2 → (okO n (PT v0.toNat 3) 2 ∧ (okO n (PT (PT v0.toNat 3).toNat 17) 12 ∧ (okI (PT (PT v0.toNat 3).toNat 17) v1 ∧ (okO n (PT (PT v0.toNat 3).toNat 16) 12 ∧ (okI (PT (PT v0.toNat 3).toNat 16) v1 ∧ (Q (w32 (w32 (C (PT (PT v0.toNat 3).toNat 17).toNat v1.toNat - (C (PT (PT v0.toNat 3).toNat 16).toNat v1.toNat)) + 1)) C))))))) ∧ (¬ 4 ≤ v2 → (okO n (PT v0.toNat 3) 2 ∧ (P_La_numberOf n C (PT v0.toNat 3) v1 v2 (fun (r_23 : Int) => Q r_23 C)))))))))))
theorem m_F_field (l : Launch) (E : Ev) (n : Nat) (C : Cn) (v0 v1 v2 : Int) (Q : Int → Cn → Prop) (h : P_F_field n C v0 v1 v2 Q) : MA l y_F_field M_F_field E true C n [(2, v0), (0, v1), (0, v2)] (fun r C2 n2 => n2 = n ∧ Q r C2) := by
  refine MA.of (by decide) rfl rfl 0 rfl (fun p e s m args below meth c => ?_)
  show AW p l e _ s m args below meth c E M_F_field true _ n 0 0 0 [(2, v0), (0, v1), (0, v2)] [] C
  unfold P_F_field at h
  refine AW.ra_n (dc hd_F_field 0 rfl) rfl rfl rfl ?_
  refine AW.iload_n (dc hd_F_field 1 rfl) rfl ?_
  obtain ⟨g_2, h⟩ := h
  refine AW.callV (As := [(0, v1)]) (rest := []) (ci := 9) (m_F_isField l E n C v0 v1 _ h) cb_9_209 im_F_isField se_F_isField ⟨_, _, rfl⟩ (by decide) (dc hd_F_field 2 rfl) g_2 rfl rfl ⟨Nat.le_of_ble_eq_true rfl, Nat.le_of_ble_eq_true rfl⟩ ⟨(Nat.le_of_ble_eq_true rfl), (Nat.le_of_ble_eq_true rfl)⟩ (Nat.le_of_ble_eq_true rfl) (fun _ h => by cases h) (fun _ => rfl) (fun r_1 D_4 d_5 q_3 => ?_)
  obtain ⟨q_3a, q_3b, h⟩ := q_3
  subst D_4
  subst d_5
  show AW p l e _ s m args below meth c E M_F_field true _ n _ _ _ [(2, v0), (0, v1), (0, v2)] [(0, r_1)] C
  refine AW.if_eq (t := 17) (dc hd_F_field 3 rfl) (by decide) (fun c_6 => ?_) (fun c_6 => ?_)
  · have h := h.1 c_6
    refine AW.ra_n (dc hd_F_field 9 rfl) rfl rfl rfl ?_
    refine AW.iconst (dc hd_F_field 10 rfl) (by decide) ?_
    refine AW.callV (As := [(0, 0)]) (rest := []) (ci := 9) (m_F_tell l E n C v0 0 _ h) cb_9_101 im_F_tell se_F_tell ⟨_, _, rfl⟩ (by decide) (dc hd_F_field 11 rfl) g_2 rfl rfl ⟨Nat.le_of_ble_eq_true rfl, Nat.le_of_ble_eq_true rfl⟩ ⟨(Nat.le_of_ble_eq_true rfl), (Nat.le_of_ble_eq_true rfl)⟩ (Nat.le_of_ble_eq_true rfl) (fun _ h => by cases h) (fun _ => rfl) (fun r_7 C_8 d_10 q_9 => ?_)
    obtain ⟨q_9a, h⟩ := q_9
    subst d_10
    show AW p l e _ s m args below meth c E M_F_field true _ n _ _ _ [(2, v0), (0, v1), (0, v2)] [(0, r_7)] C_8
    exact AW.iret (dc hd_F_field 12 rfl) rfl rfl (Nat.le_of_ble_eq_true rfl) (Nat.le_of_ble_eq_true rfl) ⟨rfl, h⟩
  · have h := h.2 c_6
    refine AW.iload_n (dc hd_F_field 4 rfl) rfl ?_
    refine AW.iconst (dc hd_F_field 5 rfl) (by decide) ?_
    refine AW.iconst (dc hd_F_field 6 rfl) (by decide) ?_
    refine AW.callS (As := [(0, v2), (0, 0), (0, 4)]) (rest := []) (m_F_isIn l E n C v2 0 4 _ h) cb_9_167 sm_F_isIn (dc hd_F_field 7 rfl) rfl rfl ⟨Nat.le_of_ble_eq_true rfl, Nat.le_of_ble_eq_true rfl⟩ ⟨(Nat.le_of_ble_eq_true rfl), (Nat.le_of_ble_eq_true rfl)⟩ (Nat.le_of_ble_eq_true rfl) (fun _ h => by cases h) (fun _ => rfl) (fun r_11 D_13 d_14 q_12 => ?_)
    obtain ⟨q_12a, q_12b, h⟩ := q_12
    subst D_13
    subst d_14
    show AW p l e _ s m args below meth c E M_F_field true _ n _ _ _ [(2, v0), (0, v1), (0, v2)] [(0, r_11)] C
    refine AW.if_ne (t := 23) (dc hd_F_field 8 rfl) (by decide) (fun c_15 => ?_) (fun c_15 => ?_)
    · have h := h.2 c_15
      refine AW.iload_n (dc hd_F_field 13 rfl) rfl ?_
      refine AW.iconst (dc hd_F_field 14 rfl) (by decide) ?_
      refine AW.icmp_ge (t := 38) (dc hd_F_field 15 rfl) (by decide) (fun c_17 => ?_) (fun c_17 => ?_)
      · have h := h.1 c_17
        refine AW.ra_n (dc hd_F_field 22 rfl) rfl rfl rfl ?_
        refine AW.getp fl_9_25 (dc hd_F_field 23 rfl) g_2 rfl ?_
        obtain ⟨g_18, h⟩ := h
        refine AW.getp fl_9_216 (dc hd_F_field 24 rfl) g_18 rfl ?_
        refine AW.iload_n (dc hd_F_field 25 rfl) rfl ?_
        obtain ⟨g_19, h⟩ := h
        obtain ⟨g_20, h⟩ := h
        refine AW.iald (dc hd_F_field 26 rfl) g_19 g_20 ?_
        refine AW.ra_n (dc hd_F_field 27 rfl) rfl rfl rfl ?_
        refine AW.getp fl_9_25 (dc hd_F_field 28 rfl) g_2 rfl ?_
        refine AW.getp fl_9_219 (dc hd_F_field 29 rfl) g_18 rfl ?_
        refine AW.iload_n (dc hd_F_field 30 rfl) rfl ?_
        obtain ⟨g_21, h⟩ := h
        obtain ⟨g_22, h⟩ := h
        refine AW.iald (dc hd_F_field 31 rfl) g_21 g_22 ?_
        refine AW.isub (dc hd_F_field 32 rfl) ?_
        refine AW.iconst (dc hd_F_field 33 rfl) (by decide) ?_
        refine AW.iadd (dc hd_F_field 34 rfl) ?_
        exact AW.iret (dc hd_F_field 35 rfl) rfl rfl (Nat.le_of_ble_eq_true rfl) (Nat.le_of_ble_eq_true rfl) ⟨rfl, h⟩
      · have h := h.2 c_17
        refine AW.ra_n (dc hd_F_field 16 rfl) rfl rfl rfl ?_
        refine AW.getp fl_9_25 (dc hd_F_field 17 rfl) g_2 rfl ?_
        refine AW.iload_n (dc hd_F_field 18 rfl) rfl ?_
        refine AW.iload_n (dc hd_F_field 19 rfl) rfl ?_
        obtain ⟨g_24, h⟩ := h
        refine AW.callV (As := [(0, v1), (0, v2)]) (rest := []) (ci := 2) (m_La_numberOf l E n C (PT v0.toNat 3) v1 v2 _ h) cb_9_212 im_La_numberOf se_La_numberOf ⟨_, _, rfl⟩ (by decide) (dc hd_F_field 20 rfl) g_24 rfl rfl ⟨Nat.le_of_ble_eq_true rfl, Nat.le_of_ble_eq_true rfl⟩ ⟨(Nat.le_of_ble_eq_true rfl), (Nat.le_of_ble_eq_true rfl)⟩ (Nat.le_of_ble_eq_true rfl) (fun _ h => by cases h) (fun _ => rfl) (fun r_23 D_26 d_27 q_25 => ?_)
        obtain ⟨q_25a, q_25b, h⟩ := q_25
        subst D_26
        subst d_27
        show AW p l e _ s m args below meth c E M_F_field true _ n _ _ _ [(2, v0), (0, v1), (0, v2)] [(0, r_23)] C
        exact AW.iret (dc hd_F_field 21 rfl) rfl rfl (Nat.le_of_ble_eq_true rfl) (Nat.le_of_ble_eq_true rfl) ⟨rfl, h⟩
    · have h := h.1 c_15
      refine AW.ra_n (dc hd_F_field 9 rfl) rfl rfl rfl ?_
      refine AW.iconst (dc hd_F_field 10 rfl) (by decide) ?_
      refine AW.callV (As := [(0, 0)]) (rest := []) (ci := 9) (m_F_tell l E n C v0 0 _ h) cb_9_101 im_F_tell se_F_tell ⟨_, _, rfl⟩ (by decide) (dc hd_F_field 11 rfl) g_2 rfl rfl ⟨Nat.le_of_ble_eq_true rfl, Nat.le_of_ble_eq_true rfl⟩ ⟨(Nat.le_of_ble_eq_true rfl), (Nat.le_of_ble_eq_true rfl)⟩ (Nat.le_of_ble_eq_true rfl) (fun _ h => by cases h) (fun _ => rfl) (fun r_28 C_29 d_31 q_30 => ?_)
      obtain ⟨q_30a, h⟩ := q_30
      subst d_31
      show AW p l e _ s m args below meth c E M_F_field true _ n _ _ _ [(2, v0), (0, v1), (0, v2)] [(0, r_28)] C_29
      exact AW.iret (dc hd_F_field 12 rfl) rfl rfl (Nat.le_of_ble_eq_true rfl) (Nat.le_of_ble_eq_true rfl) ⟨rfl, h⟩
def P_F_whatHolds (n : Nat) (C : Cn) (v0 v1 v2 : Int) (Q : Int → Prop) : Prop :=
  okO n v0 9 ∧ (okO n (PT v0.toNat 3) 2 ∧ (P_La_thingAt n C (PT v0.toNat 3) (PT v0.toNat 0) v1 v2 (fun (r_2 : Int) => (100 ≤ r_2 → (Q r_2)) ∧ (¬ 100 ≤ r_2 → (okO n (PT (PT v0.toNat 3).toNat 13) 12 ∧ (okI (PT (PT v0.toNat 3).toNat 13) r_2 ∧ (Q (C (PT (PT v0.toNat 3).toNat 13).toNat r_2.toNat))))))))
theorem m_F_whatHolds (l : Launch) (E : Ev) (n : Nat) (C : Cn) (v0 v1 v2 : Int) (Q : Int → Prop) (h : P_F_whatHolds n C v0 v1 v2 Q) : MA l y_F_whatHolds M_F_whatHolds E true C n [(2, v0), (0, v1), (0, v2)] (fun r C2 n2 => C2 = C ∧ n2 = n ∧ Q r) := by
  refine MA.of (by decide) rfl rfl 1 rfl (fun p e s m args below meth c => ?_)
  show AW p l e _ s m args below meth c E M_F_whatHolds true _ n 0 0 0 [(2, v0), (0, v1), (0, v2), (9, 0)] [] C
  unfold P_F_whatHolds at h
  refine AW.ra_n (dc hd_F_whatHolds 0 rfl) rfl rfl rfl ?_
  obtain ⟨g_1, h⟩ := h
  refine AW.getp fl_9_25 (dc hd_F_whatHolds 1 rfl) g_1 rfl ?_
  refine AW.ra_n (dc hd_F_whatHolds 2 rfl) rfl rfl rfl ?_
  refine AW.getp fl_9_12 (dc hd_F_whatHolds 3 rfl) g_1 rfl ?_
  refine AW.iload_n (dc hd_F_whatHolds 4 rfl) rfl ?_
  refine AW.iload_n (dc hd_F_whatHolds 5 rfl) rfl ?_
  obtain ⟨g_3, h⟩ := h
  refine AW.callV (As := [(2, PT v0.toNat 0), (0, v1), (0, v2)]) (rest := []) (ci := 2) (m_La_thingAt l E n C (PT v0.toNat 3) (PT v0.toNat 0) v1 v2 _ h) cb_9_229 im_La_thingAt se_La_thingAt ⟨_, _, rfl⟩ (by decide) (dc hd_F_whatHolds 6 rfl) g_3 rfl rfl ⟨Nat.le_of_ble_eq_true rfl, Nat.le_of_ble_eq_true rfl⟩ ⟨(Nat.le_of_ble_eq_true rfl), (Nat.le_of_ble_eq_true rfl)⟩ (Nat.le_of_ble_eq_true rfl) (fun _ h => by cases h) (fun _ => rfl) (fun r_2 D_5 d_6 q_4 => ?_)
  obtain ⟨q_4a, q_4b, h⟩ := q_4
  subst D_5
  subst d_6
  show AW p l e _ s m args below meth c E M_F_whatHolds true _ n _ _ _ [(2, v0), (0, v1), (0, v2), (9, 0)] [(0, r_2)] C
  refine AW.istore_n [(2, v0), (0, v1), (0, v2), (0, r_2)] (dc hd_F_whatHolds 7 rfl) (Nat.le_of_ble_eq_true rfl) rfl rfl ?_
  refine AW.iload_n (dc hd_F_whatHolds 8 rfl) rfl ?_
  refine AW.bipush (dc hd_F_whatHolds 9 rfl) (by decide) (by decide +kernel) ?_
  refine AW.icmp_ge (t := 32) (dc hd_F_whatHolds 10 rfl) (by decide) (fun c_7 => ?_) (fun c_7 => ?_)
  · have h := h.1 c_7
    refine AW.iload_n (dc hd_F_whatHolds 17 rfl) rfl ?_
    exact AW.iret (dc hd_F_whatHolds 18 rfl) rfl rfl (Nat.le_of_ble_eq_true rfl) (Nat.le_of_ble_eq_true rfl) ⟨rfl, rfl, h⟩
  · have h := h.2 c_7
    refine AW.ra_n (dc hd_F_whatHolds 11 rfl) rfl rfl rfl ?_
    refine AW.getp fl_9_25 (dc hd_F_whatHolds 12 rfl) g_1 rfl ?_
    refine AW.getp fl_9_400 (dc hd_F_whatHolds 13 rfl) g_3 rfl ?_
    refine AW.iload_n (dc hd_F_whatHolds 14 rfl) rfl ?_
    obtain ⟨g_8, h⟩ := h
    obtain ⟨g_9, h⟩ := h
    refine AW.iald (dc hd_F_whatHolds 15 rfl) g_8 g_9 ?_
    refine AW.goto (t := 33) (dc hd_F_whatHolds 16 rfl) (by decide) ?_
    exact AW.iret (dc hd_F_whatHolds 18 rfl) rfl rfl (Nat.le_of_ble_eq_true rfl) (Nat.le_of_ble_eq_true rfl) ⟨rfl, rfl, h⟩
def P_F_at (n : Nat) (C : Cn) (v0 v1 v2 : Int) (Q : Int → Cn → Prop) : Prop :=
  P_F_isPoint n C v1 v2 (fun (r_1 : Int) => (r_1 = 0 → (okO n v0 9 ∧ (P_F_tell n C v0 0 (fun (r_11 : Int) (C_13 : Cn) => Q r_11 C_13)))) ∧ (¬ r_1 = 0 → (okO n v0 9 ∧ (P_F_whatHolds n C v0 v1 v2 (fun (r_6 : Int) => Q r_6 C)))))
theorem m_F_at (l : Launch) (E : Ev) (n : Nat) (C : Cn) (v0 v1 v2 : Int) (Q : Int → Cn → Prop) (h : P_F_at n C v0 v1 v2 Q) : MA l y_F_at M_F_at E true C n [(2, v0), (0, v1), (0, v2)] (fun r C2 n2 => n2 = n ∧ Q r C2) := by
  refine MA.of (by decide) rfl rfl 0 rfl (fun p e s m args below meth c => ?_)
  show AW p l e _ s m args below meth c E M_F_at true _ n 0 0 0 [(2, v0), (0, v1), (0, v2)] [] C
  unfold P_F_at at h
  refine AW.iload_n (dc hd_F_at 0 rfl) rfl ?_
  refine AW.iload_n (dc hd_F_at 1 rfl) rfl ?_
  refine AW.callS (As := [(0, v1), (0, v2)]) (rest := []) (m_F_isPoint l E n C v1 v2 _ h) cb_9_222 sm_F_isPoint (dc hd_F_at 2 rfl) rfl rfl ⟨Nat.le_of_ble_eq_true rfl, Nat.le_of_ble_eq_true rfl⟩ ⟨(Nat.le_of_ble_eq_true rfl), (Nat.le_of_ble_eq_true rfl)⟩ (Nat.le_of_ble_eq_true rfl) (fun _ h => by cases h) (fun _ => rfl) (fun r_1 D_3 d_4 q_2 => ?_)
  obtain ⟨q_2a, q_2b, h⟩ := q_2
  subst D_3
  subst d_4
  show AW p l e _ s m args below meth c E M_F_at true _ n _ _ _ [(2, v0), (0, v1), (0, v2)] [(0, r_1)] C
  refine AW.if_ne (t := 14) (dc hd_F_at 3 rfl) (by decide) (fun c_5 => ?_) (fun c_5 => ?_)
  · have h := h.2 c_5
    refine AW.ra_n (dc hd_F_at 8 rfl) rfl rfl rfl ?_
    refine AW.iload_n (dc hd_F_at 9 rfl) rfl ?_
    refine AW.iload_n (dc hd_F_at 10 rfl) rfl ?_
    obtain ⟨g_7, h⟩ := h
    refine AW.callV (As := [(0, v1), (0, v2)]) (rest := []) (ci := 9) (m_F_whatHolds l E n C v0 v1 v2 _ h) cb_9_226 im_F_whatHolds se_F_whatHolds ⟨_, _, rfl⟩ (by decide) (dc hd_F_at 11 rfl) g_7 rfl rfl ⟨Nat.le_of_ble_eq_true rfl, Nat.le_of_ble_eq_true rfl⟩ ⟨(Nat.le_of_ble_eq_true rfl), (Nat.le_of_ble_eq_true rfl)⟩ (Nat.le_of_ble_eq_true rfl) (fun _ h => by cases h) (fun _ => rfl) (fun r_6 D_9 d_10 q_8 => ?_)
    obtain ⟨q_8a, q_8b, h⟩ := q_8
    subst D_9
    subst d_10
    show AW p l e _ s m args below meth c E M_F_at true _ n _ _ _ [(2, v0), (0, v1), (0, v2)] [(0, r_6)] C
    exact AW.iret (dc hd_F_at 12 rfl) rfl rfl (Nat.le_of_ble_eq_true rfl) (Nat.le_of_ble_eq_true rfl) ⟨rfl, h⟩
  · have h := h.1 c_5
    refine AW.ra_n (dc hd_F_at 4 rfl) rfl rfl rfl ?_
    refine AW.iconst (dc hd_F_at 5 rfl) (by decide) ?_
    obtain ⟨g_12, h⟩ := h
    refine AW.callV (As := [(0, 0)]) (rest := []) (ci := 9) (m_F_tell l E n C v0 0 _ h) cb_9_101 im_F_tell se_F_tell ⟨_, _, rfl⟩ (by decide) (dc hd_F_at 6 rfl) g_12 rfl rfl ⟨Nat.le_of_ble_eq_true rfl, Nat.le_of_ble_eq_true rfl⟩ ⟨(Nat.le_of_ble_eq_true rfl), (Nat.le_of_ble_eq_true rfl)⟩ (Nat.le_of_ble_eq_true rfl) (fun _ h => by cases h) (fun _ => rfl) (fun r_11 C_13 d_15 q_14 => ?_)
    obtain ⟨q_14a, h⟩ := q_14
    subst d_15
    show AW p l e _ s m args below meth c E M_F_at true _ n _ _ _ [(2, v0), (0, v1), (0, v2)] [(0, r_11)] C_13
    exact AW.iret (dc hd_F_at 7 rfl) rfl rfl (Nat.le_of_ble_eq_true rfl) (Nat.le_of_ble_eq_true rfl) ⟨rfl, h⟩
def P_F_near (n : Nat) (C : Cn) (v0 v1 v2 v3 : Int) (Q : Int → Cn → Prop) : Prop :=
  P_F_isPoint n C v1 v2 (fun (r_1 : Int) => (r_1 = 0 → (okO n v0 9 ∧ (P_F_tell n C v0 0 (fun (r_6 : Int) (C_8 : Cn) => Q r_6 C_8)))) ∧ (¬ r_1 = 0 → (P_F_isIn n C v3 0 3 (fun (r_11 : Int) => (r_11 = 0 → (okO n v0 9 ∧ (P_F_tell n C v0 0 (fun (r_38 : Int) (C_40 : Cn) => Q r_38 C_40)))) ∧ (¬ r_11 = 0 → (okO n v0 9 ∧ (okO n (PT v0.toNat 3) 2 ∧ (P_La_thingAt n C (PT v0.toNat 3) (PT v0.toNat 0) v1 v2 (fun (r_17 : Int) => (r_17 < 100 → ((v3 = 0 → (okO n (PT (PT v0.toNat 3).toNat 11) 12 ∧ (okI (PT (PT v0.toNat 3).toNat 11) r_17 ∧ (Q (C (PT (PT v0.toNat 3).toNat 11).toNat r_17.toNat) C)))) ∧ (v3 = 1 → (okO n (PT (PT v0.toNat 3).toNat 12) 12 ∧ (okI (PT (PT v0.toNat 3).toNat 12) r_17 ∧ (Q (C (PT (PT v0.toNat 3).toNat 12).toNat r_17.toNat) C)))) ∧ (v3 = 2 → (okO n (PT (PT v0.toNat 3).toNat 10) 12 ∧ (okI (PT (PT v0.toNat 3).toNat 10) r_17 ∧ (Q (C (PT (PT v0.toNat 3).toNat 10).toNat r_17.toNat) C)))) ∧ ((v3 < 0 ∨ 2 < v3) → (okO n (PT (PT v0.toNat 3).toNat 10) 12 ∧ (okI (PT (PT v0.toNat 3).toNat 10) r_17 ∧ (okO n (PT (PT v0.toNat 3).toNat 9) 12 ∧ (okI (PT (PT v0.toNat 3).toNat 9) (C (PT (PT v0.toNat 3).toNat 10).toNat r_17.toNat) ∧ (Q (w32 (r_17 - (C (PT (PT v0.toNat 3).toNat 9).toNat (C (PT (PT v0.toNat 3).toNat 10).toNat r_17.toNat).toNat))) C)))))))) ∧ (¬ r_17 < 100 → (P_F_tell n C v0 4 (fun (r_34 : Int) (C_35 : Cn) => Q r_34 C_35))))))))))))
theorem m_F_near (l : Launch) (E : Ev) (n : Nat) (C : Cn) (v0 v1 v2 v3 : Int) (Q : Int → Cn → Prop) (h : P_F_near n C v0 v1 v2 v3 Q) : MA l y_F_near M_F_near E true C n [(2, v0), (0, v1), (0, v2), (0, v3)] (fun r C2 n2 => n2 = n ∧ Q r C2) := by
  refine MA.of (by decide) rfl rfl 1 rfl (fun p e s m args below meth c => ?_)
  show AW p l e _ s m args below meth c E M_F_near true _ n 0 0 0 [(2, v0), (0, v1), (0, v2), (0, v3), (9, 0)] [] C
  unfold P_F_near at h
  refine AW.iload_n (dc hd_F_near 0 rfl) rfl ?_
  refine AW.iload_n (dc hd_F_near 1 rfl) rfl ?_
  refine AW.callS (As := [(0, v1), (0, v2)]) (rest := []) (m_F_isPoint l E n C v1 v2 _ h) cb_9_222 sm_F_isPoint (dc hd_F_near 2 rfl) rfl rfl ⟨Nat.le_of_ble_eq_true rfl, Nat.le_of_ble_eq_true rfl⟩ ⟨(Nat.le_of_ble_eq_true rfl), (Nat.le_of_ble_eq_true rfl)⟩ (Nat.le_of_ble_eq_true rfl) (fun _ h => by cases h) (fun _ => rfl) (fun r_1 D_3 d_4 q_2 => ?_)
  obtain ⟨q_2a, q_2b, h⟩ := q_2
  subst D_3
  subst d_4
  show AW p l e _ s m args below meth c E M_F_near true _ n _ _ _ [(2, v0), (0, v1), (0, v2), (0, v3), (9, 0)] [(0, r_1)] C
  refine AW.if_eq (t := 17) (dc hd_F_near 3 rfl) (by decide) (fun c_5 => ?_) (fun c_5 => ?_)
  · have h := h.1 c_5
    refine AW.ra_n (dc hd_F_near 9 rfl) rfl rfl rfl ?_
    refine AW.iconst (dc hd_F_near 10 rfl) (by decide) ?_
    obtain ⟨g_7, h⟩ := h
    refine AW.callV (As := [(0, 0)]) (rest := []) (ci := 9) (m_F_tell l E n C v0 0 _ h) cb_9_101 im_F_tell se_F_tell ⟨_, _, rfl⟩ (by decide) (dc hd_F_near 11 rfl) g_7 rfl rfl ⟨Nat.le_of_ble_eq_true rfl, Nat.le_of_ble_eq_true rfl⟩ ⟨(Nat.le_of_ble_eq_true rfl), (Nat.le_of_ble_eq_true rfl)⟩ (Nat.le_of_ble_eq_true rfl) (fun _ h => by cases h) (fun _ => rfl) (fun r_6 C_8 d_10 q_9 => ?_)
    obtain ⟨q_9a, h⟩ := q_9
    subst d_10
    show AW p l e _ s m args below meth c E M_F_near true _ n _ _ _ [(2, v0), (0, v1), (0, v2), (0, v3), (9, 0)] [(0, r_6)] C_8
    exact AW.iret (dc hd_F_near 12 rfl) rfl rfl (Nat.le_of_ble_eq_true rfl) (Nat.le_of_ble_eq_true rfl) ⟨rfl, h⟩
  · have h := h.2 c_5
    refine AW.iload_n (dc hd_F_near 4 rfl) rfl ?_
    refine AW.iconst (dc hd_F_near 5 rfl) (by decide) ?_
    refine AW.iconst (dc hd_F_near 6 rfl) (by decide) ?_
    refine AW.callS (As := [(0, v3), (0, 0), (0, 3)]) (rest := []) (m_F_isIn l E n C v3 0 3 _ h) cb_9_167 sm_F_isIn (dc hd_F_near 7 rfl) rfl rfl ⟨Nat.le_of_ble_eq_true rfl, Nat.le_of_ble_eq_true rfl⟩ ⟨(Nat.le_of_ble_eq_true rfl), (Nat.le_of_ble_eq_true rfl)⟩ (Nat.le_of_ble_eq_true rfl) (fun _ h => by cases h) (fun _ => rfl) (fun r_11 D_13 d_14 q_12 => ?_)
    obtain ⟨q_12a, q_12b, h⟩ := q_12
    subst D_13
    subst d_14
    show AW p l e _ s m args below meth c E M_F_near true _ n _ _ _ [(2, v0), (0, v1), (0, v2), (0, v3), (9, 0)] [(0, r_11)] C
    refine AW.if_ne (t := 23) (dc hd_F_near 8 rfl) (by decide) (fun c_15 => ?_) (fun c_15 => ?_)
    · have h := h.2 c_15
      refine AW.ra_n (dc hd_F_near 13 rfl) rfl rfl rfl ?_
      obtain ⟨g_16, h⟩ := h
      refine AW.getp fl_9_25 (dc hd_F_near 14 rfl) g_16 rfl ?_
      refine AW.ra_n (dc hd_F_near 15 rfl) rfl rfl rfl ?_
      refine AW.getp fl_9_12 (dc hd_F_near 16 rfl) g_16 rfl ?_
      refine AW.iload_n (dc hd_F_near 17 rfl) rfl ?_
      refine AW.iload_n (dc hd_F_near 18 rfl) rfl ?_
      obtain ⟨g_18, h⟩ := h
      refine AW.callV (As := [(2, PT v0.toNat 0), (0, v1), (0, v2)]) (rest := []) (ci := 2) (m_La_thingAt l E n C (PT v0.toNat 3) (PT v0.toNat 0) v1 v2 _ h) cb_9_229 im_La_thingAt se_La_thingAt ⟨_, _, rfl⟩ (by decide) (dc hd_F_near 19 rfl) g_18 rfl rfl ⟨Nat.le_of_ble_eq_true rfl, Nat.le_of_ble_eq_true rfl⟩ ⟨(Nat.le_of_ble_eq_true rfl), (Nat.le_of_ble_eq_true rfl)⟩ (Nat.le_of_ble_eq_true rfl) (fun _ h => by cases h) (fun _ => rfl) (fun r_17 D_20 d_21 q_19 => ?_)
      obtain ⟨q_19a, q_19b, h⟩ := q_19
      subst D_20
      subst d_21
      show AW p l e _ s m args below meth c E M_F_near true _ n _ _ _ [(2, v0), (0, v1), (0, v2), (0, v3), (9, 0)] [(0, r_17)] C
      refine AW.istore [(2, v0), (0, v1), (0, v2), (0, v3), (0, r_17)] (dc hd_F_near 20 rfl) (Nat.le_of_ble_eq_true rfl) rfl rfl ?_
      refine AW.iload (dc hd_F_near 21 rfl) rfl ?_
      refine AW.bipush (dc hd_F_near 22 rfl) (by decide) (by decide +kernel) ?_
      refine AW.icmp_lt (t := 51) (dc hd_F_near 23 rfl) (by decide) (fun c_22 => ?_) (fun c_22 => ?_)
      · have h := h.1 c_22
        refine AW.iload_n (dc hd_F_near 28 rfl) rfl ?_
        refine AW.tsw (td := 113) (dc hd_F_near 29 rfl) [80, 91, 102] (by decide +kernel) (by decide) (by decide) (fun j t hj hx => ?_) (fun q_23 => ?_)
        · match j, hj with
          | 0, hj =>
            cases hj
            have h := h.1 (hx.trans (by decide))
            refine AW.ra_n (dc hd_F_near 30 rfl) rfl rfl rfl ?_
            refine AW.getp fl_9_25 (dc hd_F_near 31 rfl) g_16 rfl ?_
            refine AW.getp fl_9_157 (dc hd_F_near 32 rfl) g_18 rfl ?_
            refine AW.iload (dc hd_F_near 33 rfl) rfl ?_
            obtain ⟨g_24, h⟩ := h
            obtain ⟨g_25, h⟩ := h
            refine AW.iald (dc hd_F_near 34 rfl) g_24 g_25 ?_
            exact AW.iret (dc hd_F_near 35 rfl) rfl rfl (Nat.le_of_ble_eq_true rfl) (Nat.le_of_ble_eq_true rfl) ⟨rfl, h⟩
          | 1, hj =>
            cases hj
            have h := h.2.1 (hx.trans (by decide))
            refine AW.ra_n (dc hd_F_near 36 rfl) rfl rfl rfl ?_
            refine AW.getp fl_9_25 (dc hd_F_near 37 rfl) g_16 rfl ?_
            refine AW.getp fl_9_164 (dc hd_F_near 38 rfl) g_18 rfl ?_
            refine AW.iload (dc hd_F_near 39 rfl) rfl ?_
            obtain ⟨g_26, h⟩ := h
            obtain ⟨g_27, h⟩ := h
            refine AW.iald (dc hd_F_near 40 rfl) g_26 g_27 ?_
            exact AW.iret (dc hd_F_near 41 rfl) rfl rfl (Nat.le_of_ble_eq_true rfl) (Nat.le_of_ble_eq_true rfl) ⟨rfl, h⟩
          | 2, hj =>
            cases hj
            have h := h.2.2.1 (hx.trans (by decide))
            refine AW.ra_n (dc hd_F_near 42 rfl) rfl rfl rfl ?_
            refine AW.getp fl_9_25 (dc hd_F_near 43 rfl) g_16 rfl ?_
            refine AW.getp fl_9_233 (dc hd_F_near 44 rfl) g_18 rfl ?_
            refine AW.iload (dc hd_F_near 45 rfl) rfl ?_
            obtain ⟨g_28, h⟩ := h
            obtain ⟨g_29, h⟩ := h
            refine AW.iald (dc hd_F_near 46 rfl) g_28 g_29 ?_
            exact AW.iret (dc hd_F_near 47 rfl) rfl rfl (Nat.le_of_ble_eq_true rfl) (Nat.le_of_ble_eq_true rfl) ⟨rfl, h⟩
          | j + 3, hj => exact absurd hj (by simp)
        · have h := h.2.2.2 q_23
          refine AW.iload (dc hd_F_near 48 rfl) rfl ?_
          refine AW.ra_n (dc hd_F_near 49 rfl) rfl rfl rfl ?_
          refine AW.getp fl_9_25 (dc hd_F_near 50 rfl) g_16 rfl ?_
          refine AW.getp fl_9_236 (dc hd_F_near 51 rfl) g_18 rfl ?_
          refine AW.ra_n (dc hd_F_near 52 rfl) rfl rfl rfl ?_
          refine AW.getp fl_9_25 (dc hd_F_near 53 rfl) g_16 rfl ?_
          refine AW.getp fl_9_233 (dc hd_F_near 54 rfl) g_18 rfl ?_
          refine AW.iload (dc hd_F_near 55 rfl) rfl ?_
          obtain ⟨g_30, h⟩ := h
          obtain ⟨g_31, h⟩ := h
          refine AW.iald (dc hd_F_near 56 rfl) g_30 g_31 ?_
          obtain ⟨g_32, h⟩ := h
          obtain ⟨g_33, h⟩ := h
          refine AW.iald (dc hd_F_near 57 rfl) g_32 g_33 ?_
          refine AW.isub (dc hd_F_near 58 rfl) ?_
          exact AW.iret (dc hd_F_near 59 rfl) rfl rfl (Nat.le_of_ble_eq_true rfl) (Nat.le_of_ble_eq_true rfl) ⟨rfl, h⟩
      · have h := h.2 c_22
        refine AW.ra_n (dc hd_F_near 24 rfl) rfl rfl rfl ?_
        refine AW.iconst (dc hd_F_near 25 rfl) (by decide) ?_
        refine AW.callV (As := [(0, 4)]) (rest := []) (ci := 9) (m_F_tell l E n C v0 4 _ h) cb_9_101 im_F_tell se_F_tell ⟨_, _, rfl⟩ (by decide) (dc hd_F_near 26 rfl) g_16 rfl rfl ⟨Nat.le_of_ble_eq_true rfl, Nat.le_of_ble_eq_true rfl⟩ ⟨(Nat.le_of_ble_eq_true rfl), (Nat.le_of_ble_eq_true rfl)⟩ (Nat.le_of_ble_eq_true rfl) (fun _ h => by cases h) (fun _ => rfl) (fun r_34 C_35 d_37 q_36 => ?_)
        obtain ⟨q_36a, h⟩ := q_36
        subst d_37
        show AW p l e _ s m args below meth c E M_F_near true _ n _ _ _ [(2, v0), (0, v1), (0, v2), (0, v3), (0, r_17)] [(0, r_34)] C_35
        exact AW.iret (dc hd_F_near 27 rfl) rfl rfl (Nat.le_of_ble_eq_true rfl) (Nat.le_of_ble_eq_true rfl) ⟨rfl, h⟩
    · have h := h.1 c_15
      refine AW.ra_n (dc hd_F_near 9 rfl) rfl rfl rfl ?_
      refine AW.iconst (dc hd_F_near 10 rfl) (by decide) ?_
      obtain ⟨g_39, h⟩ := h
      refine AW.callV (As := [(0, 0)]) (rest := []) (ci := 9) (m_F_tell l E n C v0 0 _ h) cb_9_101 im_F_tell se_F_tell ⟨_, _, rfl⟩ (by decide) (dc hd_F_near 11 rfl) g_39 rfl rfl ⟨Nat.le_of_ble_eq_true rfl, Nat.le_of_ble_eq_true rfl⟩ ⟨(Nat.le_of_ble_eq_true rfl), (Nat.le_of_ble_eq_true rfl)⟩ (Nat.le_of_ble_eq_true rfl) (fun _ h => by cases h) (fun _ => rfl) (fun r_38 C_40 d_42 q_41 => ?_)
      obtain ⟨q_41a, h⟩ := q_41
      subst d_42
      show AW p l e _ s m args below meth c E M_F_near true _ n _ _ _ [(2, v0), (0, v1), (0, v2), (0, v3), (9, 0)] [(0, r_38)] C_40
      exact AW.iret (dc hd_F_near 12 rfl) rfl rfl (Nat.le_of_ble_eq_true rfl) (Nat.le_of_ble_eq_true rfl) ⟨rfl, h⟩
def B_F_sight_35 (n : Nat) (C : Cn) (v0 : Int) (Q : Int → Cn → Prop) (kz35 : Int × Int → Prop) (z : Int × Int) : Prop := match z with
  | (v5, v6) => okO n v0 9 ∧ (okO n (PT v0.toNat 0) 1 ∧ ((C (PT v0.toNat 0).toNat 1 ≤ v6 → (Q v5 C)) ∧ (¬ C (PT v0.toNat 0).toNat 1 ≤ v6 → (okO n (PT (PT v0.toNat 0).toNat 0) 16 ∧ (okI (PT (PT v0.toNat 0).toNat 0) v6 ∧ (okO n (PT (PT (PT v0.toNat 0).toNat 0).toNat v6.toNat) 7 ∧ (P_Wa_meets n C (PT (PT (PT v0.toNat 0).toNat 0).toNat v6.toNat) (PT v0.toNat 9) (fun (r_17 : Int) => (r_17 = 0 → (kz35 (v5, w32 (v6 + 1)))) ∧ (¬ r_17 = 0 → (kz35 (w32 (v5 + 1), w32 (v6 + 1))))))))))))
theorem bB_F_sight_35 (n : Nat) (C : Cn) (v0 : Int) (Q : Int → Cn → Prop) (kz35 : Int × Int → Prop) (hkz35 : ∀ (z5 : Int) (z6 : Int), kz35 (z5, z6) → AW p l e R s m args below meth c E M_F_sight true (fun r C2 n2 => n2 = n ∧ Q r C2) n 0 0 35 [(2, v0), (9, 0), (9, 0), (9, 0), (9, 0), (0, z5), (0, z6)] [] C) (v5 : Int) (v6 : Int) (h : B_F_sight_35 n C v0 Q kz35 (v5, v6)) : AW p l e R s m args below meth c E M_F_sight true (fun r C2 n2 => n2 = n ∧ Q r C2) n 0 0 35 [(2, v0), (9, 0), (9, 0), (9, 0), (9, 0), (0, v5), (0, v6)] [] C := by
  unfold B_F_sight_35 at h
  dsimp only at h
  refine AW.iload (dc hd_F_sight 21 rfl) rfl ?_
  refine AW.ra_n (dc hd_F_sight 22 rfl) rfl rfl rfl ?_
  obtain ⟨g_12, h⟩ := h
  refine AW.getp fl_9_12 (dc hd_F_sight 23 rfl) g_12 rfl ?_
  obtain ⟨g_13, h⟩ := h
  refine AW.getf fl_9_105 (dc hd_F_sight 24 rfl) g_13 ?_
  refine AW.icmp_ge (t := 76) (dc hd_F_sight 25 rfl) (by decide) (fun c_14 => ?_) (fun c_14 => ?_)
  · have h := h.1 c_14
    refine AW.iload (dc hd_F_sight 38 rfl) rfl ?_
    exact AW.iret (dc hd_F_sight 39 rfl) rfl rfl (Nat.le_of_ble_eq_true rfl) (Nat.le_of_ble_eq_true rfl) ⟨rfl, h⟩
  · have h := h.2 c_14
    refine AW.ra_n (dc hd_F_sight 26 rfl) rfl rfl rfl ?_
    refine AW.getp fl_9_12 (dc hd_F_sight 27 rfl) g_12 rfl ?_
    refine AW.getp fl_9_128 (dc hd_F_sight 28 rfl) g_13 rfl ?_
    refine AW.iload (dc hd_F_sight 29 rfl) rfl ?_
    obtain ⟨g_15, h⟩ := h
    obtain ⟨g_16, h⟩ := h
    refine AW.aaldp (by decide) (dc hd_F_sight 30 rfl) g_15 g_16 rfl ?_
    refine AW.ra_n (dc hd_F_sight 31 rfl) rfl rfl rfl ?_
    refine AW.getp fl_9_65 (dc hd_F_sight 32 rfl) g_12 rfl ?_
    obtain ⟨g_18, h⟩ := h
    refine AW.callV (As := [(2, PT v0.toNat 9)]) (rest := []) (ci := 7) (m_Wa_meets l E n C (PT (PT (PT v0.toNat 0).toNat 0).toNat v6.toNat) (PT v0.toNat 9) _ h) cb_9_239 im_Wa_meets se_Wa_meets ⟨_, _, rfl⟩ (by decide) (dc hd_F_sight 33 rfl) g_18 rfl rfl ⟨Nat.le_of_ble_eq_true rfl, Nat.le_of_ble_eq_true rfl⟩ ⟨(Nat.le_of_ble_eq_true rfl), (Nat.le_of_ble_eq_true rfl)⟩ (Nat.le_of_ble_eq_true rfl) (fun _ h => by cases h) (fun _ => rfl) (fun r_17 D_20 d_21 q_19 => ?_)
    obtain ⟨q_19a, q_19b, h⟩ := q_19
    subst D_20
    subst d_21
    show AW p l e _ s m args below meth c E M_F_sight true _ n _ _ _ [(2, v0), (9, 0), (9, 0), (9, 0), (9, 0), (0, v5), (0, v6)] [(0, r_17)] C
    refine AW.if_eq (t := 70) (dc hd_F_sight 34 rfl) (by decide) (fun c_22 => ?_) (fun c_22 => ?_)
    · have h := h.1 c_22
      refine AW.iinc [(2, v0), (9, 0), (9, 0), (9, 0), (9, 0), (0, v5), (0, w32 (v6 + 1))] (dc hd_F_sight 36 rfl) rfl (Nat.le_of_ble_eq_true rfl) rfl rfl ?_
      refine AW.goto (t := 35) (dc hd_F_sight 37 rfl) (by decide) ?_
      exact hkz35 v5 (w32 (v6 + 1)) h
    · have h := h.2 c_22
      refine AW.iinc [(2, v0), (9, 0), (9, 0), (9, 0), (9, 0), (0, w32 (v5 + 1)), (0, v6)] (dc hd_F_sight 35 rfl) rfl (Nat.le_of_ble_eq_true rfl) rfl rfl ?_
      refine AW.iinc [(2, v0), (9, 0), (9, 0), (9, 0), (9, 0), (0, w32 (v5 + 1)), (0, w32 (v6 + 1))] (dc hd_F_sight 36 rfl) rfl (Nat.le_of_ble_eq_true rfl) rfl rfl ?_
      refine AW.goto (t := 35) (dc hd_F_sight 37 rfl) (by decide) ?_
      exact hkz35 (w32 (v5 + 1)) (w32 (v6 + 1)) h
theorem aB_F_sight_35 (n : Nat) (C : Cn) (v0 : Int) (Q : Int → Cn → Prop) : ∀ (f : Nat) (z : Int × Int), lp (B_F_sight_35 n C v0 Q) f z → AW p l e R s m args below meth c E M_F_sight true (fun r C2 n2 => n2 = n ∧ Q r C2) n 0 0 35 [(2, v0), (9, 0), (9, 0), (9, 0), (9, 0), (0, z.1), (0, z.2)] [] C := by
  intro f
  induction f with
  | zero => intro z h; exact False.elim h
  | succ f ih => intro z h; exact bB_F_sight_35 n C v0 Q (lp (B_F_sight_35 n C v0 Q) f) (fun a0 a1 h => ih (a0, a1) h) z.1 z.2 h
def P_F_sight (n : Nat) (C : Cn) (v0 v1 v2 v3 v4 : Int) (Q : Int → Cn → Prop) : Prop :=
  P_F_areTwoPoints n C v1 v2 v3 v4 (fun (r_1 : Int) => (r_1 = 0 → (okO n v0 9 ∧ (P_F_tell n C v0 0 (fun (r_24 : Int) (C_26 : Cn) => Q r_24 C_26)))) ∧ (¬ r_1 = 0 → (okO n v0 9 ∧ (okO n (PT v0.toNat 9) 7 ∧ (P_Wa_lay n C (PT v0.toNat 9) v1 v2 v3 v4 (fun (_ : Int) (C_8 : Cn) => ∃ f_23 : Nat, lp (B_F_sight_35 n C_8 v0 Q) f_23 (0, 0)))))))
theorem m_F_sight (l : Launch) (E : Ev) (n : Nat) (C : Cn) (v0 v1 v2 v3 v4 : Int) (Q : Int → Cn → Prop) (h : P_F_sight n C v0 v1 v2 v3 v4 Q) : MA l y_F_sight M_F_sight E true C n [(2, v0), (0, v1), (0, v2), (0, v3), (0, v4)] (fun r C2 n2 => n2 = n ∧ Q r C2) := by
  refine MA.of (by decide) rfl rfl 2 rfl (fun p e s m args below meth c => ?_)
  show AW p l e _ s m args below meth c E M_F_sight true _ n 0 0 0 [(2, v0), (0, v1), (0, v2), (0, v3), (0, v4), (9, 0), (9, 0)] [] C
  unfold P_F_sight at h
  refine AW.iload_n (dc hd_F_sight 0 rfl) rfl ?_
  refine AW.iload_n (dc hd_F_sight 1 rfl) rfl ?_
  refine AW.iload_n (dc hd_F_sight 2 rfl) rfl ?_
  refine AW.iload (dc hd_F_sight 3 rfl) rfl ?_
  refine AW.callS (As := [(0, v1), (0, v2), (0, v3), (0, v4)]) (rest := []) (m_F_areTwoPoints l E n C v1 v2 v3 v4 _ h) cb_9_97 sm_F_areTwoPoints (dc hd_F_sight 4 rfl) rfl rfl ⟨Nat.le_of_ble_eq_true rfl, Nat.le_of_ble_eq_true rfl⟩ ⟨(Nat.le_of_ble_eq_true rfl), (Nat.le_of_ble_eq_true rfl)⟩ (Nat.le_of_ble_eq_true rfl) (fun _ h => by cases h) (fun _ => rfl) (fun r_1 D_3 d_4 q_2 => ?_)
  obtain ⟨q_2a, q_2b, h⟩ := q_2
  subst D_3
  subst d_4
  show AW p l e _ s m args below meth c E M_F_sight true _ n _ _ _ [(2, v0), (0, v1), (0, v2), (0, v3), (0, v4), (9, 0), (9, 0)] [(0, r_1)] C
  refine AW.if_ne (t := 17) (dc hd_F_sight 5 rfl) (by decide) (fun c_5 => ?_) (fun c_5 => ?_)
  · have h := h.2 c_5
    refine AW.ra_n (dc hd_F_sight 10 rfl) rfl rfl rfl ?_
    obtain ⟨g_6, h⟩ := h
    refine AW.getp fl_9_65 (dc hd_F_sight 11 rfl) g_6 rfl ?_
    refine AW.iload_n (dc hd_F_sight 12 rfl) rfl ?_
    refine AW.iload_n (dc hd_F_sight 13 rfl) rfl ?_
    refine AW.iload_n (dc hd_F_sight 14 rfl) rfl ?_
    refine AW.iload (dc hd_F_sight 15 rfl) rfl ?_
    obtain ⟨g_7, h⟩ := h
    refine AW.callV (As := [(0, v1), (0, v2), (0, v3), (0, v4)]) (rest := []) (ci := 7) (m_Wa_lay l E n C (PT v0.toNat 9) v1 v2 v3 v4 _ h) cb_9_113 im_Wa_lay se_Wa_lay ⟨_, _, rfl⟩ (by decide) (dc hd_F_sight 16 rfl) g_7 rfl rfl ⟨Nat.le_of_ble_eq_true rfl, Nat.le_of_ble_eq_true rfl⟩ ⟨(Nat.le_of_ble_eq_true rfl), (Nat.le_of_ble_eq_true rfl)⟩ (Nat.le_of_ble_eq_true rfl) (fun _ h => by cases h) (fun _ => rfl) (fun u_10 C_8 d_11 q_9 => ?_)
    obtain ⟨q_9a, h⟩ := q_9
    subst d_11
    show AW p l e _ s m args below meth c E M_F_sight true _ n _ _ _ [(2, v0), (0, v1), (0, v2), (0, v3), (0, v4), (9, 0), (9, 0)] [] C_8
    refine AW.iconst (dc hd_F_sight 17 rfl) (by decide) ?_
    refine AW.istore [(2, v0), (0, v1), (0, v2), (0, v3), (0, v4), (0, 0), (9, 0)] (dc hd_F_sight 18 rfl) (Nat.le_of_ble_eq_true rfl) rfl rfl ?_
    refine AW.iconst (dc hd_F_sight 19 rfl) (by decide) ?_
    refine AW.istore [(2, v0), (0, v1), (0, v2), (0, v3), (0, v4), (0, 0), (0, 0)] (dc hd_F_sight 20 rfl) (Nat.le_of_ble_eq_true rfl) rfl rfl ?_
    obtain ⟨f_23, h⟩ := h
    refine AW.fgt [(2, v0), (9, 0), (9, 0), (9, 0), (9, 0), (0, 0), (0, 0)] ⟨.inl rfl, .inr rfl, .inr rfl, .inr rfl, .inr rfl, .inl rfl, .inl rfl, trivial⟩ ?_
    exact aB_F_sight_35 n C_8 v0 Q f_23 (0, 0) h
  · have h := h.1 c_5
    refine AW.ra_n (dc hd_F_sight 6 rfl) rfl rfl rfl ?_
    refine AW.iconst (dc hd_F_sight 7 rfl) (by decide) ?_
    obtain ⟨g_25, h⟩ := h
    refine AW.callV (As := [(0, 0)]) (rest := []) (ci := 9) (m_F_tell l E n C v0 0 _ h) cb_9_101 im_F_tell se_F_tell ⟨_, _, rfl⟩ (by decide) (dc hd_F_sight 8 rfl) g_25 rfl rfl ⟨Nat.le_of_ble_eq_true rfl, Nat.le_of_ble_eq_true rfl⟩ ⟨(Nat.le_of_ble_eq_true rfl), (Nat.le_of_ble_eq_true rfl)⟩ (Nat.le_of_ble_eq_true rfl) (fun _ h => by cases h) (fun _ => rfl) (fun r_24 C_26 d_28 q_27 => ?_)
    obtain ⟨q_27a, h⟩ := q_27
    subst d_28
    show AW p l e _ s m args below meth c E M_F_sight true _ n _ _ _ [(2, v0), (0, v1), (0, v2), (0, v3), (0, v4), (9, 0), (9, 0)] [(0, r_24)] C_26
    exact AW.iret (dc hd_F_sight 9 rfl) rfl rfl (Nat.le_of_ble_eq_true rfl) (Nat.le_of_ble_eq_true rfl) ⟨rfl, h⟩
def P_F_stepsOfCell (n : Nat) (C : Cn) (v0 v1 : Int) (Q : Int → Cn → Prop) : Prop :=
  okO n v0 9 ∧ (okO n (PT v0.toNat 5) 4 ∧ (P_Se_takeOrder n C (PT v0.toNat 5) 0 (fun (_ : Int) (C_3 : Cn) => P_Se_stepsOf n C_3 (PT v0.toNat 5) v1 (fun (r_7 : Int) (C_8 : Cn) => Q r_7 C_8))))
theorem m_F_stepsOfCell (l : Launch) (E : Ev) (n : Nat) (C : Cn) (v0 v1 : Int) (Q : Int → Cn → Prop) (h : P_F_stepsOfCell n C v0 v1 Q) : MA l y_F_stepsOfCell M_F_stepsOfCell E true C n [(2, v0), (0, v1)] (fun r C2 n2 => n2 = n ∧ Q r C2) := by
  refine MA.of (by decide) rfl rfl 0 rfl (fun p e s m args below meth c => ?_)
  show AW p l e _ s m args below meth c E M_F_stepsOfCell true _ n 0 0 0 [(2, v0), (0, v1)] [] C
  unfold P_F_stepsOfCell at h
  refine AW.ra_n (dc hd_F_stepsOfCell 0 rfl) rfl rfl rfl ?_
  obtain ⟨g_1, h⟩ := h
  refine AW.getp fl_9_37 (dc hd_F_stepsOfCell 1 rfl) g_1 rfl ?_
  refine AW.iconst (dc hd_F_stepsOfCell 2 rfl) (by decide) ?_
  obtain ⟨g_2, h⟩ := h
  refine AW.callV (As := [(0, 0)]) (rest := []) (ci := 4) (m_Se_takeOrder l E n C (PT v0.toNat 5) 0 _ h) cb_9_246 im_Se_takeOrder se_Se_takeOrder ⟨_, _, rfl⟩ (by decide) (dc hd_F_stepsOfCell 3 rfl) g_2 rfl rfl ⟨Nat.le_of_ble_eq_true rfl, Nat.le_of_ble_eq_true rfl⟩ ⟨(Nat.le_of_ble_eq_true rfl), (Nat.le_of_ble_eq_true rfl)⟩ (Nat.le_of_ble_eq_true rfl) (fun _ h => by cases h) (fun _ => rfl) (fun u_5 C_3 d_6 q_4 => ?_)
  obtain ⟨q_4a, h⟩ := q_4
  subst d_6
  show AW p l e _ s m args below meth c E M_F_stepsOfCell true _ n _ _ _ [(2, v0), (0, v1)] [] C_3
  refine AW.ra_n (dc hd_F_stepsOfCell 4 rfl) rfl rfl rfl ?_
  refine AW.getp fl_9_37 (dc hd_F_stepsOfCell 5 rfl) g_1 rfl ?_
  refine AW.iload_n (dc hd_F_stepsOfCell 6 rfl) rfl ?_
  refine AW.callV (As := [(0, v1)]) (rest := []) (ci := 4) (m_Se_stepsOf l E n C_3 (PT v0.toNat 5) v1 _ h) cb_9_431 im_Se_stepsOf se_Se_stepsOf ⟨_, _, rfl⟩ (by decide) (dc hd_F_stepsOfCell 7 rfl) g_2 rfl rfl ⟨Nat.le_of_ble_eq_true rfl, Nat.le_of_ble_eq_true rfl⟩ ⟨(Nat.le_of_ble_eq_true rfl), (Nat.le_of_ble_eq_true rfl)⟩ (Nat.le_of_ble_eq_true rfl) (fun _ h => by cases h) (fun _ => rfl) (fun r_7 C_8 d_10 q_9 => ?_)
  obtain ⟨q_9a, h⟩ := q_9
  subst d_10
  show AW p l e _ s m args below meth c E M_F_stepsOfCell true _ n _ _ _ [(2, v0), (0, v1)] [(0, r_7)] C_8
  exact AW.iret (dc hd_F_stepsOfCell 8 rfl) rfl rfl (Nat.le_of_ble_eq_true rfl) (Nat.le_of_ble_eq_true rfl) ⟨rfl, h⟩
def P_F_steps (n : Nat) (C : Cn) (v0 v1 v2 : Int) (Q : Int → Cn → Prop) : Prop :=
  P_F_isPoint n C v1 v2 (fun (r_1 : Int) => (r_1 = 0 → (okO n v0 9 ∧ (P_F_tell n C v0 0 (fun (r_21 : Int) (C_23 : Cn) => Q r_21 C_23)))) ∧ (¬ r_1 = 0 → (okO n v0 9 ∧ (okO n (PT v0.toNat 3) 2 ∧ (P_La_thingAt n C (PT v0.toNat 3) (PT v0.toNat 0) v1 v2 (fun (r_7 : Int) => (r_7 < 100 → (P_F_stepsOfCell n C v0 r_7 (fun (r_13 : Int) (C_14 : Cn) => Q r_13 C_14))) ∧ (¬ r_7 < 100 → (P_F_tell n C v0 4 (fun (r_17 : Int) (C_18 : Cn) => Q r_17 C_18)))))))))
theorem m_F_steps (l : Launch) (E : Ev) (n : Nat) (C : Cn) (v0 v1 v2 : Int) (Q : Int → Cn → Prop) (h : P_F_steps n C v0 v1 v2 Q) : MA l y_F_steps M_F_steps E true C n [(2, v0), (0, v1), (0, v2)] (fun r C2 n2 => n2 = n ∧ Q r C2) := by
  refine MA.of (by decide) rfl rfl 1 rfl (fun p e s m args below meth c => ?_)
  show AW p l e _ s m args below meth c E M_F_steps true _ n 0 0 0 [(2, v0), (0, v1), (0, v2), (9, 0)] [] C
  unfold P_F_steps at h
  refine AW.iload_n (dc hd_F_steps 0 rfl) rfl ?_
  refine AW.iload_n (dc hd_F_steps 1 rfl) rfl ?_
  refine AW.callS (As := [(0, v1), (0, v2)]) (rest := []) (m_F_isPoint l E n C v1 v2 _ h) cb_9_222 sm_F_isPoint (dc hd_F_steps 2 rfl) rfl rfl ⟨Nat.le_of_ble_eq_true rfl, Nat.le_of_ble_eq_true rfl⟩ ⟨(Nat.le_of_ble_eq_true rfl), (Nat.le_of_ble_eq_true rfl)⟩ (Nat.le_of_ble_eq_true rfl) (fun _ h => by cases h) (fun _ => rfl) (fun r_1 D_3 d_4 q_2 => ?_)
  obtain ⟨q_2a, q_2b, h⟩ := q_2
  subst D_3
  subst d_4
  show AW p l e _ s m args below meth c E M_F_steps true _ n _ _ _ [(2, v0), (0, v1), (0, v2), (9, 0)] [(0, r_1)] C
  refine AW.if_ne (t := 14) (dc hd_F_steps 3 rfl) (by decide) (fun c_5 => ?_) (fun c_5 => ?_)
  · have h := h.2 c_5
    refine AW.ra_n (dc hd_F_steps 8 rfl) rfl rfl rfl ?_
    obtain ⟨g_6, h⟩ := h
    refine AW.getp fl_9_25 (dc hd_F_steps 9 rfl) g_6 rfl ?_
    refine AW.ra_n (dc hd_F_steps 10 rfl) rfl rfl rfl ?_
    refine AW.getp fl_9_12 (dc hd_F_steps 11 rfl) g_6 rfl ?_
    refine AW.iload_n (dc hd_F_steps 12 rfl) rfl ?_
    refine AW.iload_n (dc hd_F_steps 13 rfl) rfl ?_
    obtain ⟨g_8, h⟩ := h
    refine AW.callV (As := [(2, PT v0.toNat 0), (0, v1), (0, v2)]) (rest := []) (ci := 2) (m_La_thingAt l E n C (PT v0.toNat 3) (PT v0.toNat 0) v1 v2 _ h) cb_9_229 im_La_thingAt se_La_thingAt ⟨_, _, rfl⟩ (by decide) (dc hd_F_steps 14 rfl) g_8 rfl rfl ⟨Nat.le_of_ble_eq_true rfl, Nat.le_of_ble_eq_true rfl⟩ ⟨(Nat.le_of_ble_eq_true rfl), (Nat.le_of_ble_eq_true rfl)⟩ (Nat.le_of_ble_eq_true rfl) (fun _ h => by cases h) (fun _ => rfl) (fun r_7 D_10 d_11 q_9 => ?_)
    obtain ⟨q_9a, q_9b, h⟩ := q_9
    subst D_10
    subst d_11
    show AW p l e _ s m args below meth c E M_F_steps true _ n _ _ _ [(2, v0), (0, v1), (0, v2), (9, 0)] [(0, r_7)] C
    refine AW.istore_n [(2, v0), (0, v1), (0, v2), (0, r_7)] (dc hd_F_steps 15 rfl) (Nat.le_of_ble_eq_true rfl) rfl rfl ?_
    refine AW.iload_n (dc hd_F_steps 16 rfl) rfl ?_
    refine AW.bipush (dc hd_F_steps 17 rfl) (by decide) (by decide +kernel) ?_
    refine AW.icmp_lt (t := 40) (dc hd_F_steps 18 rfl) (by decide) (fun c_12 => ?_) (fun c_12 => ?_)
    · have h := h.1 c_12
      refine AW.ra_n (dc hd_F_steps 23 rfl) rfl rfl rfl ?_
      refine AW.iload_n (dc hd_F_steps 24 rfl) rfl ?_
      refine AW.callV (As := [(0, r_7)]) (rest := []) (ci := 9) (m_F_stepsOfCell l E n C v0 r_7 _ h) cb_9_243 im_F_stepsOfCell se_F_stepsOfCell ⟨_, _, rfl⟩ (by decide) (dc hd_F_steps 25 rfl) g_6 rfl rfl ⟨Nat.le_of_ble_eq_true rfl, Nat.le_of_ble_eq_true rfl⟩ ⟨(Nat.le_of_ble_eq_true rfl), (Nat.le_of_ble_eq_true rfl)⟩ (Nat.le_of_ble_eq_true rfl) (fun _ h => by cases h) (fun _ => rfl) (fun r_13 C_14 d_16 q_15 => ?_)
      obtain ⟨q_15a, h⟩ := q_15
      subst d_16
      show AW p l e _ s m args below meth c E M_F_steps true _ n _ _ _ [(2, v0), (0, v1), (0, v2), (0, r_7)] [(0, r_13)] C_14
      exact AW.iret (dc hd_F_steps 26 rfl) rfl rfl (Nat.le_of_ble_eq_true rfl) (Nat.le_of_ble_eq_true rfl) ⟨rfl, h⟩
    · have h := h.2 c_12
      refine AW.ra_n (dc hd_F_steps 19 rfl) rfl rfl rfl ?_
      refine AW.iconst (dc hd_F_steps 20 rfl) (by decide) ?_
      refine AW.callV (As := [(0, 4)]) (rest := []) (ci := 9) (m_F_tell l E n C v0 4 _ h) cb_9_101 im_F_tell se_F_tell ⟨_, _, rfl⟩ (by decide) (dc hd_F_steps 21 rfl) g_6 rfl rfl ⟨Nat.le_of_ble_eq_true rfl, Nat.le_of_ble_eq_true rfl⟩ ⟨(Nat.le_of_ble_eq_true rfl), (Nat.le_of_ble_eq_true rfl)⟩ (Nat.le_of_ble_eq_true rfl) (fun _ h => by cases h) (fun _ => rfl) (fun r_17 C_18 d_20 q_19 => ?_)
      obtain ⟨q_19a, h⟩ := q_19
      subst d_20
      show AW p l e _ s m args below meth c E M_F_steps true _ n _ _ _ [(2, v0), (0, v1), (0, v2), (0, r_7)] [(0, r_17)] C_18
      exact AW.iret (dc hd_F_steps 22 rfl) rfl rfl (Nat.le_of_ble_eq_true rfl) (Nat.le_of_ble_eq_true rfl) ⟨rfl, h⟩
  · have h := h.1 c_5
    refine AW.ra_n (dc hd_F_steps 4 rfl) rfl rfl rfl ?_
    refine AW.iconst (dc hd_F_steps 5 rfl) (by decide) ?_
    obtain ⟨g_22, h⟩ := h
    refine AW.callV (As := [(0, 0)]) (rest := []) (ci := 9) (m_F_tell l E n C v0 0 _ h) cb_9_101 im_F_tell se_F_tell ⟨_, _, rfl⟩ (by decide) (dc hd_F_steps 6 rfl) g_22 rfl rfl ⟨Nat.le_of_ble_eq_true rfl, Nat.le_of_ble_eq_true rfl⟩ ⟨(Nat.le_of_ble_eq_true rfl), (Nat.le_of_ble_eq_true rfl)⟩ (Nat.le_of_ble_eq_true rfl) (fun _ h => by cases h) (fun _ => rfl) (fun r_21 C_23 d_25 q_24 => ?_)
    obtain ⟨q_24a, h⟩ := q_24
    subst d_25
    show AW p l e _ s m args below meth c E M_F_steps true _ n _ _ _ [(2, v0), (0, v1), (0, v2), (9, 0)] [(0, r_21)] C_23
    exact AW.iret (dc hd_F_steps 7 rfl) rfl rfl (Nat.le_of_ble_eq_true rfl) (Nat.le_of_ble_eq_true rfl) ⟨rfl, h⟩
def J_F_depth_51 (n : Nat) (C : Cn) (s0 : Int) (Q : Int → Cn → Prop) : Prop :=
  Q s0 C
theorem aJ_F_depth_51 (n : Nat) (C : Cn) (s0 : Int) (Q : Int → Cn → Prop) (h : J_F_depth_51 n C s0 Q) : AW p l e R s m args below meth c E M_F_depth true (fun r C2 n2 => n2 = n ∧ Q r C2) n 0 0 51 [(9, 0), (9, 0)] [(0, s0)] C := by
  unfold J_F_depth_51 at h
  exact AW.iret (dc hd_F_depth 25 rfl) rfl rfl (Nat.le_of_ble_eq_true rfl) (Nat.le_of_ble_eq_true rfl) ⟨rfl, h⟩
def P_F_depth (n : Nat) (C : Cn) (v0 v1 : Int) (Q : Int → Cn → Prop) : Prop :=
  P_F_isIn n C v1 0 1 (fun (r_1 : Int) => (r_1 = 0 → (okO n v0 9 ∧ (P_F_tell n C v0 0 (fun (r_17 : Int) (C_19 : Cn) => Q r_17 C_19)))) ∧ (¬ r_1 = 0 → (okO n v0 9 ∧ (okO n (PT v0.toNat 5) 4 ∧ (P_Se_takeOrder n C (PT v0.toNat 5) 0 (fun (_ : Int) (C_8 : Cn) => P_Se_measure n C_8 (PT v0.toNat 5) (fun (_ : Int) (C_12 : Cn) => J_F_depth_51 n C_12 (if v1 = 0 then C_12 (PT v0.toNat 5).toNat 2 else C_12 (PT v0.toNat 5).toNat 3) Q)))))))
theorem m_F_depth (l : Launch) (E : Ev) (n : Nat) (C : Cn) (v0 v1 : Int) (Q : Int → Cn → Prop) (h : P_F_depth n C v0 v1 Q) : MA l y_F_depth M_F_depth E true C n [(2, v0), (0, v1)] (fun r C2 n2 => n2 = n ∧ Q r C2) := by
  refine MA.of (by decide) rfl rfl 0 rfl (fun p e s m args below meth c => ?_)
  show AW p l e _ s m args below meth c E M_F_depth true _ n 0 0 0 [(2, v0), (0, v1)] [] C
  unfold P_F_depth at h
  refine AW.iload_n (dc hd_F_depth 0 rfl) rfl ?_
  refine AW.iconst (dc hd_F_depth 1 rfl) (by decide) ?_
  refine AW.iconst (dc hd_F_depth 2 rfl) (by decide) ?_
  refine AW.callS (As := [(0, v1), (0, 0), (0, 1)]) (rest := []) (m_F_isIn l E n C v1 0 1 _ h) cb_9_167 sm_F_isIn (dc hd_F_depth 3 rfl) rfl rfl ⟨Nat.le_of_ble_eq_true rfl, Nat.le_of_ble_eq_true rfl⟩ ⟨(Nat.le_of_ble_eq_true rfl), (Nat.le_of_ble_eq_true rfl)⟩ (Nat.le_of_ble_eq_true rfl) (fun _ h => by cases h) (fun _ => rfl) (fun r_1 D_3 d_4 q_2 => ?_)
  obtain ⟨q_2a, q_2b, h⟩ := q_2
  subst D_3
  subst d_4
  show AW p l e _ s m args below meth c E M_F_depth true _ n _ _ _ [(2, v0), (0, v1)] [(0, r_1)] C
  refine AW.if_ne (t := 15) (dc hd_F_depth 4 rfl) (by decide) (fun c_5 => ?_) (fun c_5 => ?_)
  · have h := h.2 c_5
    refine AW.ra_n (dc hd_F_depth 9 rfl) rfl rfl rfl ?_
    obtain ⟨g_6, h⟩ := h
    refine AW.getp fl_9_37 (dc hd_F_depth 10 rfl) g_6 rfl ?_
    refine AW.iconst (dc hd_F_depth 11 rfl) (by decide) ?_
    obtain ⟨g_7, h⟩ := h
    refine AW.callV (As := [(0, 0)]) (rest := []) (ci := 4) (m_Se_takeOrder l E n C (PT v0.toNat 5) 0 _ h) cb_9_246 im_Se_takeOrder se_Se_takeOrder ⟨_, _, rfl⟩ (by decide) (dc hd_F_depth 12 rfl) g_7 rfl rfl ⟨Nat.le_of_ble_eq_true rfl, Nat.le_of_ble_eq_true rfl⟩ ⟨(Nat.le_of_ble_eq_true rfl), (Nat.le_of_ble_eq_true rfl)⟩ (Nat.le_of_ble_eq_true rfl) (fun _ h => by cases h) (fun _ => rfl) (fun u_10 C_8 d_11 q_9 => ?_)
    obtain ⟨q_9a, h⟩ := q_9
    subst d_11
    show AW p l e _ s m args below meth c E M_F_depth true _ n _ _ _ [(2, v0), (0, v1)] [] C_8
    refine AW.ra_n (dc hd_F_depth 13 rfl) rfl rfl rfl ?_
    refine AW.getp fl_9_37 (dc hd_F_depth 14 rfl) g_6 rfl ?_
    refine AW.callV (As := []) (rest := []) (ci := 4) (m_Se_measure l E n C_8 (PT v0.toNat 5) _ h) cb_9_250 im_Se_measure se_Se_measure ⟨_, _, rfl⟩ (by decide) (dc hd_F_depth 15 rfl) g_7 rfl rfl ⟨Nat.le_of_ble_eq_true rfl, Nat.le_of_ble_eq_true rfl⟩ ⟨(Nat.le_of_ble_eq_true rfl), (Nat.le_of_ble_eq_true rfl)⟩ (Nat.le_of_ble_eq_true rfl) (fun _ h => by cases h) (fun _ => rfl) (fun u_14 C_12 d_15 q_13 => ?_)
    obtain ⟨q_13a, h⟩ := q_13
    subst d_15
    show AW p l e _ s m args below meth c E M_F_depth true _ n _ _ _ [(2, v0), (0, v1)] [] C_12
    refine AW.iload_n (dc hd_F_depth 16 rfl) rfl ?_
    refine AW.if_ne (t := 44) (dc hd_F_depth 17 rfl) (by decide) (fun c_16 => ?_) (fun c_16 => ?_)
    · simp only [if_neg (show ¬ (v1 = 0) from c_16)] at h
      refine AW.ra_n (dc hd_F_depth 22 rfl) rfl rfl rfl ?_
      refine AW.getp fl_9_37 (dc hd_F_depth 23 rfl) g_6 rfl ?_
      refine AW.getf fl_9_256 (dc hd_F_depth 24 rfl) g_7 ?_
      refine AW.fgt [(9, 0), (9, 0)] ⟨.inr rfl, .inr rfl, trivial⟩ ?_
      exact aJ_F_depth_51 n C_12 _ Q h
    · simp only [if_pos (show v1 = 0 from c_16)] at h
      refine AW.ra_n (dc hd_F_depth 18 rfl) rfl rfl rfl ?_
      refine AW.getp fl_9_37 (dc hd_F_depth 19 rfl) g_6 rfl ?_
      refine AW.getf fl_9_253 (dc hd_F_depth 20 rfl) g_7 ?_
      refine AW.goto (t := 51) (dc hd_F_depth 21 rfl) (by decide) ?_
      refine AW.fgt [(9, 0), (9, 0)] ⟨.inr rfl, .inr rfl, trivial⟩ ?_
      exact aJ_F_depth_51 n C_12 _ Q h
  · have h := h.1 c_5
    refine AW.ra_n (dc hd_F_depth 5 rfl) rfl rfl rfl ?_
    refine AW.iconst (dc hd_F_depth 6 rfl) (by decide) ?_
    obtain ⟨g_18, h⟩ := h
    refine AW.callV (As := [(0, 0)]) (rest := []) (ci := 9) (m_F_tell l E n C v0 0 _ h) cb_9_101 im_F_tell se_F_tell ⟨_, _, rfl⟩ (by decide) (dc hd_F_depth 7 rfl) g_18 rfl rfl ⟨Nat.le_of_ble_eq_true rfl, Nat.le_of_ble_eq_true rfl⟩ ⟨(Nat.le_of_ble_eq_true rfl), (Nat.le_of_ble_eq_true rfl)⟩ (Nat.le_of_ble_eq_true rfl) (fun _ h => by cases h) (fun _ => rfl) (fun r_17 C_19 d_21 q_20 => ?_)
    obtain ⟨q_20a, h⟩ := q_20
    subst d_21
    show AW p l e _ s m args below meth c E M_F_depth true _ n _ _ _ [(2, v0), (0, v1)] [(0, r_17)] C_19
    exact AW.iret (dc hd_F_depth 8 rfl) rfl rfl (Nat.le_of_ble_eq_true rfl) (Nat.le_of_ble_eq_true rfl) ⟨rfl, h⟩
def J_F_ordered_100 (n : Nat) (C : Cn) (s0 : Int) (Q : Int → Cn → Prop) : Prop :=
  Q s0 C
theorem aJ_F_ordered_100 (n : Nat) (C : Cn) (s0 : Int) (Q : Int → Cn → Prop) (h : J_F_ordered_100 n C s0 Q) : AW p l e R s m args below meth c E M_F_ordered true (fun r C2 n2 => n2 = n ∧ Q r C2) n 0 0 100 [(9, 0), (9, 0), (9, 0), (9, 0)] [(0, s0)] C := by
  unfold J_F_ordered_100 at h
  exact AW.iret (dc hd_F_ordered 51 rfl) rfl rfl (Nat.le_of_ble_eq_true rfl) (Nat.le_of_ble_eq_true rfl) ⟨rfl, h⟩
def J_F_ordered_47 (n : Nat) (C : Cn) (v0 v1 v2 v3 : Int) (Q : Int → Cn → Prop) : Prop :=
  okO n v0 9 ∧ (okO n (PT v0.toNat 5) 4 ∧ (P_Se_takeOrder n C (PT v0.toNat 5) v1 (fun (_ : Int) (C_20 : Cn) => (v3 = 0 → (P_Se_measure n C_20 (PT v0.toNat 5) (fun (_ : Int) (C_25 : Cn) => J_F_ordered_100 n C_25 (if v2 = 0 then C_25 (PT v0.toNat 5).toNat 2 else C_25 (PT v0.toNat 5).toNat 3) Q))) ∧ (¬ v3 = 0 → (okO n (PT (PT v0.toNat 5).toNat 1) 12 ∧ (okI (PT (PT v0.toNat 5).toNat 1) (w32 (v2 - 10)) ∧ (Q (C_20 (PT (PT v0.toNat 5).toNat 1).toNat (w32 (v2 - 10)).toNat) C_20)))))))
theorem aJ_F_ordered_47 (n : Nat) (C : Cn) (v0 v1 v2 v3 : Int) (Q : Int → Cn → Prop) (h : J_F_ordered_47 n C v0 v1 v2 v3 Q) : AW p l e R s m args below meth c E M_F_ordered true (fun r C2 n2 => n2 = n ∧ Q r C2) n 0 0 47 [(2, v0), (0, v1), (0, v2), (0, v3)] [] C := by
  unfold J_F_ordered_47 at h
  refine AW.ra_n (dc hd_F_ordered 25 rfl) rfl rfl rfl ?_
  obtain ⟨g_18, h⟩ := h
  refine AW.getp fl_9_37 (dc hd_F_ordered 26 rfl) g_18 rfl ?_
  refine AW.iload_n (dc hd_F_ordered 27 rfl) rfl ?_
  obtain ⟨g_19, h⟩ := h
  refine AW.callV (As := [(0, v1)]) (rest := []) (ci := 4) (m_Se_takeOrder l E n C (PT v0.toNat 5) v1 _ h) cb_9_246 im_Se_takeOrder se_Se_takeOrder ⟨_, _, rfl⟩ (by decide) (dc hd_F_ordered 28 rfl) g_19 rfl rfl ⟨Nat.le_of_ble_eq_true rfl, Nat.le_of_ble_eq_true rfl⟩ ⟨(Nat.le_of_ble_eq_true rfl), (Nat.le_of_ble_eq_true rfl)⟩ (Nat.le_of_ble_eq_true rfl) (fun _ h => by cases h) (fun _ => rfl) (fun u_22 C_20 d_23 q_21 => ?_)
  obtain ⟨q_21a, h⟩ := q_21
  subst d_23
  show AW p l e _ s m args below meth c E M_F_ordered true _ n _ _ _ [(2, v0), (0, v1), (0, v2), (0, v3)] [] C_20
  refine AW.iload_n (dc hd_F_ordered 29 rfl) rfl ?_
  refine AW.if_eq (t := 72) (dc hd_F_ordered 30 rfl) (by decide) (fun c_24 => ?_) (fun c_24 => ?_)
  · have h := h.1 c_24
    refine AW.ra_n (dc hd_F_ordered 39 rfl) rfl rfl rfl ?_
    refine AW.getp fl_9_37 (dc hd_F_ordered 40 rfl) g_18 rfl ?_
    refine AW.callV (As := []) (rest := []) (ci := 4) (m_Se_measure l E n C_20 (PT v0.toNat 5) _ h) cb_9_250 im_Se_measure se_Se_measure ⟨_, _, rfl⟩ (by decide) (dc hd_F_ordered 41 rfl) g_19 rfl rfl ⟨Nat.le_of_ble_eq_true rfl, Nat.le_of_ble_eq_true rfl⟩ ⟨(Nat.le_of_ble_eq_true rfl), (Nat.le_of_ble_eq_true rfl)⟩ (Nat.le_of_ble_eq_true rfl) (fun _ h => by cases h) (fun _ => rfl) (fun u_27 C_25 d_28 q_26 => ?_)
    obtain ⟨q_26a, h⟩ := q_26
    subst d_28
    show AW p l e _ s m args below meth c E M_F_ordered true _ n _ _ _ [(2, v0), (0, v1), (0, v2), (0, v3)] [] C_25
    refine AW.iload_n (dc hd_F_ordered 42 rfl) rfl ?_
    refine AW.if_ne (t := 93) (dc hd_F_ordered 43 rfl) (by decide) (fun c_29 => ?_) (fun c_29 => ?_)
    · simp only [if_neg (show ¬ (v2 = 0) from c_29)] at h
      refine AW.ra_n (dc hd_F_ordered 48 rfl) rfl rfl rfl ?_
      refine AW.getp fl_9_37 (dc hd_F_ordered 49 rfl) g_18 rfl ?_
      refine AW.getf fl_9_256 (dc hd_F_ordered 50 rfl) g_19 ?_
      refine AW.fgt [(9, 0), (9, 0), (9, 0), (9, 0)] ⟨.inr rfl, .inr rfl, .inr rfl, .inr rfl, trivial⟩ ?_
      exact aJ_F_ordered_100 n C_25 _ Q h
    · simp only [if_pos (show v2 = 0 from c_29)] at h
      refine AW.ra_n (dc hd_F_ordered 44 rfl) rfl rfl rfl ?_
      refine AW.getp fl_9_37 (dc hd_F_ordered 45 rfl) g_18 rfl ?_
      refine AW.getf fl_9_253 (dc hd_F_ordered 46 rfl) g_19 ?_
      refine AW.goto (t := 100) (dc hd_F_ordered 47 rfl) (by decide) ?_
      refine AW.fgt [(9, 0), (9, 0), (9, 0), (9, 0)] ⟨.inr rfl, .inr rfl, .inr rfl, .inr rfl, trivial⟩ ?_
      exact aJ_F_ordered_100 n C_25 _ Q h
  · have h := h.2 c_24
    refine AW.ra_n (dc hd_F_ordered 31 rfl) rfl rfl rfl ?_
    refine AW.getp fl_9_37 (dc hd_F_ordered 32 rfl) g_18 rfl ?_
    refine AW.getp fl_9_262 (dc hd_F_ordered 33 rfl) g_19 rfl ?_
    refine AW.iload_n (dc hd_F_ordered 34 rfl) rfl ?_
    refine AW.bipush (dc hd_F_ordered 35 rfl) (by decide) (by decide +kernel) ?_
    refine AW.isub (dc hd_F_ordered 36 rfl) ?_
    obtain ⟨g_30, h⟩ := h
    obtain ⟨g_31, h⟩ := h
    refine AW.iald (dc hd_F_ordered 37 rfl) g_30 g_31 ?_
    exact AW.iret (dc hd_F_ordered 38 rfl) rfl rfl (Nat.le_of_ble_eq_true rfl) (Nat.le_of_ble_eq_true rfl) ⟨rfl, h⟩
def P_F_ordered (n : Nat) (C : Cn) (v0 v1 v2 : Int) (Q : Int → Cn → Prop) : Prop :=
  okO n v0 9 ∧ (okO n (PT v0.toNat 0) 1 ∧ (P_F_isIn n C v2 10 (w32 (9 + C (PT v0.toNat 0).toNat 1)) (fun (r_3 : Int) => okO n (PT v0.toNat 5) 4 ∧ (P_Se_isOrder n C (PT v0.toNat 5) v1 (fun (r_7 : Int) => (r_7 = 0 → (P_F_tell n C v0 0 (fun (r_13 : Int) (C_14 : Cn) => Q r_13 C_14))) ∧ (¬ r_7 = 0 → ((r_3 = 0 → (P_F_isIn n C v2 0 1 (fun (r_32 : Int) => (r_32 = 0 → (P_F_tell n C v0 0 (fun (r_37 : Int) (C_38 : Cn) => Q r_37 C_38))) ∧ (¬ r_32 = 0 → (J_F_ordered_47 n C v0 v1 v2 r_3 Q))))) ∧ (¬ r_3 = 0 → (J_F_ordered_47 n C v0 v1 v2 r_3 Q)))))))))
theorem m_F_ordered (l : Launch) (E : Ev) (n : Nat) (C : Cn) (v0 v1 v2 : Int) (Q : Int → Cn → Prop) (h : P_F_ordered n C v0 v1 v2 Q) : MA l y_F_ordered M_F_ordered E true C n [(2, v0), (0, v1), (0, v2)] (fun r C2 n2 => n2 = n ∧ Q r C2) := by
  refine MA.of (by decide) rfl rfl 1 rfl (fun p e s m args below meth c => ?_)
  show AW p l e _ s m args below meth c E M_F_ordered true _ n 0 0 0 [(2, v0), (0, v1), (0, v2), (9, 0)] [] C
  unfold P_F_ordered at h
  refine AW.iload_n (dc hd_F_ordered 0 rfl) rfl ?_
  refine AW.bipush (dc hd_F_ordered 1 rfl) (by decide) (by decide +kernel) ?_
  refine AW.bipush (dc hd_F_ordered 2 rfl) (by decide) (by decide +kernel) ?_
  refine AW.ra_n (dc hd_F_ordered 3 rfl) rfl rfl rfl ?_
  obtain ⟨g_1, h⟩ := h
  refine AW.getp fl_9_12 (dc hd_F_ordered 4 rfl) g_1 rfl ?_
  obtain ⟨g_2, h⟩ := h
  refine AW.getf fl_9_105 (dc hd_F_ordered 5 rfl) g_2 ?_
  refine AW.iadd (dc hd_F_ordered 6 rfl) ?_
  refine AW.callS (As := [(0, v2), (0, 10), (0, w32 (9 + C (PT v0.toNat 0).toNat 1))]) (rest := []) (m_F_isIn l E n C v2 10 (w32 (9 + C (PT v0.toNat 0).toNat 1)) _ h) cb_9_167 sm_F_isIn (dc hd_F_ordered 7 rfl) rfl rfl ⟨Nat.le_of_ble_eq_true rfl, Nat.le_of_ble_eq_true rfl⟩ ⟨(Nat.le_of_ble_eq_true rfl), (Nat.le_of_ble_eq_true rfl)⟩ (Nat.le_of_ble_eq_true rfl) (fun _ h => by cases h) (fun _ => rfl) (fun r_3 D_5 d_6 q_4 => ?_)
  obtain ⟨q_4a, q_4b, h⟩ := q_4
  subst D_5
  subst d_6
  show AW p l e _ s m args below meth c E M_F_ordered true _ n _ _ _ [(2, v0), (0, v1), (0, v2), (9, 0)] [(0, r_3)] C
  refine AW.istore_n [(2, v0), (0, v1), (0, v2), (0, r_3)] (dc hd_F_ordered 8 rfl) (Nat.le_of_ble_eq_true rfl) rfl rfl ?_
  refine AW.ra_n (dc hd_F_ordered 9 rfl) rfl rfl rfl ?_
  refine AW.getp fl_9_37 (dc hd_F_ordered 10 rfl) g_1 rfl ?_
  refine AW.iload_n (dc hd_F_ordered 11 rfl) rfl ?_
  obtain ⟨g_8, h⟩ := h
  refine AW.callV (As := [(0, v1)]) (rest := []) (ci := 4) (m_Se_isOrder l E n C (PT v0.toNat 5) v1 _ h) cb_9_259 im_Se_isOrder se_Se_isOrder ⟨_, _, rfl⟩ (by decide) (dc hd_F_ordered 12 rfl) g_8 rfl rfl ⟨Nat.le_of_ble_eq_true rfl, Nat.le_of_ble_eq_true rfl⟩ ⟨(Nat.le_of_ble_eq_true rfl), (Nat.le_of_ble_eq_true rfl)⟩ (Nat.le_of_ble_eq_true rfl) (fun _ h => by cases h) (fun _ => rfl) (fun r_7 D_10 d_11 q_9 => ?_)
  obtain ⟨q_9a, q_9b, h⟩ := q_9
  subst D_10
  subst d_11
  show AW p l e _ s m args below meth c E M_F_ordered true _ n _ _ _ [(2, v0), (0, v1), (0, v2), (0, r_3)] [(0, r_7)] C
  refine AW.if_eq (t := 41) (dc hd_F_ordered 13 rfl) (by decide) (fun c_12 => ?_) (fun c_12 => ?_)
  · have h := h.1 c_12
    refine AW.ra_n (dc hd_F_ordered 21 rfl) rfl rfl rfl ?_
    refine AW.iconst (dc hd_F_ordered 22 rfl) (by decide) ?_
    refine AW.callV (As := [(0, 0)]) (rest := []) (ci := 9) (m_F_tell l E n C v0 0 _ h) cb_9_101 im_F_tell se_F_tell ⟨_, _, rfl⟩ (by decide) (dc hd_F_ordered 23 rfl) g_1 rfl rfl ⟨Nat.le_of_ble_eq_true rfl, Nat.le_of_ble_eq_true rfl⟩ ⟨(Nat.le_of_ble_eq_true rfl), (Nat.le_of_ble_eq_true rfl)⟩ (Nat.le_of_ble_eq_true rfl) (fun _ h => by cases h) (fun _ => rfl) (fun r_13 C_14 d_16 q_15 => ?_)
    obtain ⟨q_15a, h⟩ := q_15
    subst d_16
    show AW p l e _ s m args below meth c E M_F_ordered true _ n _ _ _ [(2, v0), (0, v1), (0, v2), (0, r_3)] [(0, r_13)] C_14
    exact AW.iret (dc hd_F_ordered 24 rfl) rfl rfl (Nat.le_of_ble_eq_true rfl) (Nat.le_of_ble_eq_true rfl) ⟨rfl, h⟩
  · have h := h.2 c_12
    refine AW.iload_n (dc hd_F_ordered 14 rfl) rfl ?_
    refine AW.if_ne (t := 47) (dc hd_F_ordered 15 rfl) (by decide) (fun c_17 => ?_) (fun c_17 => ?_)
    · have h := h.2 c_17
      exact aJ_F_ordered_47 n C v0 v1 v2 r_3 Q h
    · have h := h.1 c_17
      refine AW.iload_n (dc hd_F_ordered 16 rfl) rfl ?_
      refine AW.iconst (dc hd_F_ordered 17 rfl) (by decide) ?_
      refine AW.iconst (dc hd_F_ordered 18 rfl) (by decide) ?_
      refine AW.callS (As := [(0, v2), (0, 0), (0, 1)]) (rest := []) (m_F_isIn l E n C v2 0 1 _ h) cb_9_167 sm_F_isIn (dc hd_F_ordered 19 rfl) rfl rfl ⟨Nat.le_of_ble_eq_true rfl, Nat.le_of_ble_eq_true rfl⟩ ⟨(Nat.le_of_ble_eq_true rfl), (Nat.le_of_ble_eq_true rfl)⟩ (Nat.le_of_ble_eq_true rfl) (fun _ h => by cases h) (fun _ => rfl) (fun r_32 D_34 d_35 q_33 => ?_)
      obtain ⟨q_33a, q_33b, h⟩ := q_33
      subst D_34
      subst d_35
      show AW p l e _ s m args below meth c E M_F_ordered true _ n _ _ _ [(2, v0), (0, v1), (0, v2), (0, r_3)] [(0, r_32)] C
      refine AW.if_ne (t := 47) (dc hd_F_ordered 20 rfl) (by decide) (fun c_36 => ?_) (fun c_36 => ?_)
      · have h := h.2 c_36
        exact aJ_F_ordered_47 n C v0 v1 v2 r_3 Q h
      · have h := h.1 c_36
        refine AW.ra_n (dc hd_F_ordered 21 rfl) rfl rfl rfl ?_
        refine AW.iconst (dc hd_F_ordered 22 rfl) (by decide) ?_
        refine AW.callV (As := [(0, 0)]) (rest := []) (ci := 9) (m_F_tell l E n C v0 0 _ h) cb_9_101 im_F_tell se_F_tell ⟨_, _, rfl⟩ (by decide) (dc hd_F_ordered 23 rfl) g_1 rfl rfl ⟨Nat.le_of_ble_eq_true rfl, Nat.le_of_ble_eq_true rfl⟩ ⟨(Nat.le_of_ble_eq_true rfl), (Nat.le_of_ble_eq_true rfl)⟩ (Nat.le_of_ble_eq_true rfl) (fun _ h => by cases h) (fun _ => rfl) (fun r_37 C_38 d_40 q_39 => ?_)
        obtain ⟨q_39a, h⟩ := q_39
        subst d_40
        show AW p l e _ s m args below meth c E M_F_ordered true _ n _ _ _ [(2, v0), (0, v1), (0, v2), (0, r_3)] [(0, r_37)] C_38
        exact AW.iret (dc hd_F_ordered 24 rfl) rfl rfl (Nat.le_of_ble_eq_true rfl) (Nat.le_of_ble_eq_true rfl) ⟨rfl, h⟩
end
