section
variable {p : Program} {l : Launch} {e : Env} {R : Room} {s : State} {m : MethodId} {args : Array Value} {below : List Frame} {meth : Method} {c : Code} {E : Ev}
def P_G_closeOf (n : Nat) (C : Cn) (v0 v1 : Int) (Q : Int → Prop) : Prop :=
  okO n v0 10 ∧ (okO n (PT v0.toNat 22) 12 ∧ (okI (PT v0.toNat 22) v1 ∧ ((C (PT v0.toNat 22).toNat v1.toNat = C v0.toNat 10 → (Q (-1))) ∧ (¬ C (PT v0.toNat 22).toNat v1.toNat = C v0.toNat 10 → (Q (C (PT v0.toNat 22).toNat v1.toNat))))))
theorem m_G_closeOf (l : Launch) (E : Ev) (n : Nat) (C : Cn) (v0 v1 : Int) (Q : Int → Prop) (h : P_G_closeOf n C v0 v1 Q) : MA l y_G_closeOf M_G_closeOf E true C n [(2, v0), (0, v1)] (fun r C2 n2 => C2 = C ∧ n2 = n ∧ Q r) := by
  refine MA.of (by decide) rfl rfl 0 rfl (fun p e s m args below meth c => ?_)
  show AW p l e _ s m args below meth c E M_G_closeOf true _ n 0 0 0 [(2, v0), (0, v1)] [] C
  unfold P_G_closeOf at h
  refine AW.ra_n (dc hd_G_closeOf 0 rfl) rfl rfl rfl ?_
  obtain ⟨g_1, h⟩ := h
  refine AW.getp fl_10_58 (dc hd_G_closeOf 1 rfl) g_1 rfl ?_
  refine AW.iload_n (dc hd_G_closeOf 2 rfl) rfl ?_
  obtain ⟨g_2, h⟩ := h
  obtain ⟨g_3, h⟩ := h
  refine AW.iald (dc hd_G_closeOf 3 rfl) g_2 g_3 ?_
  refine AW.ra_n (dc hd_G_closeOf 4 rfl) rfl rfl rfl ?_
  refine AW.getf fl_10_221 (dc hd_G_closeOf 5 rfl) g_1 ?_
  refine AW.icmp_ne (t := 17) (dc hd_G_closeOf 6 rfl) (by decide) (fun c_4 => ?_) (fun c_4 => ?_)
  · have h := h.2 c_4
    refine AW.ra_n (dc hd_G_closeOf 9 rfl) rfl rfl rfl ?_
    refine AW.getp fl_10_58 (dc hd_G_closeOf 10 rfl) g_1 rfl ?_
    refine AW.iload_n (dc hd_G_closeOf 11 rfl) rfl ?_
    refine AW.iald (dc hd_G_closeOf 12 rfl) g_2 g_3 ?_
    exact AW.iret (dc hd_G_closeOf 13 rfl) rfl rfl (Nat.le_of_ble_eq_true rfl) (Nat.le_of_ble_eq_true rfl) ⟨rfl, rfl, h⟩
  · have h := h.1 c_4
    refine AW.iconst (dc hd_G_closeOf 7 rfl) (by decide) ?_
    refine AW.goto (t := 23) (dc hd_G_closeOf 8 rfl) (by decide) ?_
    exact AW.iret (dc hd_G_closeOf 13 rfl) rfl rfl (Nat.le_of_ble_eq_true rfl) (Nat.le_of_ble_eq_true rfl) ⟨rfl, rfl, h⟩
def P_G_field (n : Nat) (C : Cn) (v0 v1 v2 : Int) (Q : Int → Cn → Prop) : Prop :=
  okO n v0 10 ∧ (P_G_maps n C v0 (fun (_ : Int) (C_2 : Cn) => P_G_isField n C_2 v0 v1 (fun (r_6 : Int) => (r_6 = 0 → (P_G_finds n C_2 v0 0 (fun (r_11 : Int) (C_12 : Cn) => Q r_11 C_12))) ∧ (¬ r_6 = 0 → (P_G_in n C_2 v2 0 4 (fun (r_15 : Int) => (r_15 = 0 → (P_G_finds n C_2 v0 0 (fun (r_35 : Int) (C_36 : Cn) => Q r_35 C_36))) ∧ (¬ r_15 = 0 → ((v2 = 0 → (okO n (PT v0.toNat 19) 12 ∧ (okI (PT v0.toNat 19) v1 ∧ (Q (C_2 (PT v0.toNat 19).toNat v1.toNat) C_2)))) ∧ (v2 = 1 → (okO n (PT v0.toNat 20) 12 ∧ (okI (PT v0.toNat 20) v1 ∧ (Q (C_2 (PT v0.toNat 20).toNat v1.toNat) C_2)))) ∧ (v2 = 2 → (okO n (PT v0.toNat 21) 12 ∧ (okI (PT v0.toNat 21) v1 ∧ (Q (w32 (C_2 (PT v0.toNat 21).toNat v1.toNat - 1)) C_2)))) ∧ (v2 = 3 → (P_G_closeOf n C_2 v0 v1 (fun (r_27 : Int) => Q r_27 C_2))) ∧ ((v2 < 0 ∨ 3 < v2) → (okO n (PT v0.toNat 22) 12 ∧ (okI (PT v0.toNat 22) v1 ∧ (okO n (PT v0.toNat 21) 12 ∧ (okI (PT v0.toNat 21) v1 ∧ (Q (w32 (w32 (C_2 (PT v0.toNat 22).toNat v1.toNat - (C_2 (PT v0.toNat 21).toNat v1.toNat)) + 1)) C_2))))))))))))))
theorem m_G_field (l : Launch) (E : Ev) (n : Nat) (C : Cn) (v0 v1 v2 : Int) (Q : Int → Cn → Prop) (h : P_G_field n C v0 v1 v2 Q) : MA l y_G_field M_G_field E true C n [(2, v0), (0, v1), (0, v2)] (fun r C2 n2 => n2 = n ∧ Q r C2) := by
  refine MA.of (by decide) rfl rfl 0 rfl (fun p e s m args below meth c => ?_)
  show AW p l e _ s m args below meth c E M_G_field true _ n 0 0 0 [(2, v0), (0, v1), (0, v2)] [] C
  unfold P_G_field at h
  refine AW.ra_n (dc hd_G_field 0 rfl) rfl rfl rfl ?_
  obtain ⟨g_1, h⟩ := h
  refine AW.callV (As := []) (rest := []) (ci := 10) (m_G_maps l E n C v0 _ h) cb_10_211 im_G_maps se_G_maps ⟨_, _, rfl⟩ (by decide) (dc hd_G_field 1 rfl) g_1 rfl rfl ⟨Nat.le_of_ble_eq_true rfl, Nat.le_of_ble_eq_true rfl⟩ ⟨(Nat.le_of_ble_eq_true rfl), (Nat.le_of_ble_eq_true rfl)⟩ (Nat.le_of_ble_eq_true rfl) (fun _ h => by cases h) (fun _ => rfl) (fun u_4 C_2 d_5 q_3 => ?_)
  obtain ⟨q_3a, h⟩ := q_3
  subst d_5
  show AW p l e _ s m args below meth c E M_G_field true _ n _ _ _ [(2, v0), (0, v1), (0, v2)] [] C_2
  refine AW.ra_n (dc hd_G_field 2 rfl) rfl rfl rfl ?_
  refine AW.iload_n (dc hd_G_field 3 rfl) rfl ?_
  refine AW.callV (As := [(0, v1)]) (rest := []) (ci := 10) (m_G_isField l E n C_2 v0 v1 _ h) cb_10_264 im_G_isField se_G_isField ⟨_, _, rfl⟩ (by decide) (dc hd_G_field 4 rfl) g_1 rfl rfl ⟨Nat.le_of_ble_eq_true rfl, Nat.le_of_ble_eq_true rfl⟩ ⟨(Nat.le_of_ble_eq_true rfl), (Nat.le_of_ble_eq_true rfl)⟩ (Nat.le_of_ble_eq_true rfl) (fun _ h => by cases h) (fun _ => rfl) (fun r_6 D_8 d_9 q_7 => ?_)
  obtain ⟨q_7a, q_7b, h⟩ := q_7
  subst D_8
  subst d_9
  show AW p l e _ s m args below meth c E M_G_field true _ n _ _ _ [(2, v0), (0, v1), (0, v2)] [(0, r_6)] C_2
  refine AW.if_eq (t := 24) (dc hd_G_field 5 rfl) (by decide) (fun c_10 => ?_) (fun c_10 => ?_)
  · have h := h.1 c_10
    refine AW.ra_n (dc hd_G_field 12 rfl) rfl rfl rfl ?_
    refine AW.iconst (dc hd_G_field 13 rfl) (by decide) ?_
    refine AW.callV (As := [(0, 0)]) (rest := []) (ci := 10) (m_G_finds l E n C_2 v0 0 _ h) cb_10_186 im_G_finds se_G_finds ⟨_, _, rfl⟩ (by decide) (dc hd_G_field 14 rfl) g_1 rfl rfl ⟨Nat.le_of_ble_eq_true rfl, Nat.le_of_ble_eq_true rfl⟩ ⟨(Nat.le_of_ble_eq_true rfl), (Nat.le_of_ble_eq_true rfl)⟩ (Nat.le_of_ble_eq_true rfl) (fun _ h => by cases h) (fun _ => rfl) (fun r_11 C_12 d_14 q_13 => ?_)
    obtain ⟨q_13a, h⟩ := q_13
    subst d_14
    show AW p l e _ s m args below meth c E M_G_field true _ n _ _ _ [(2, v0), (0, v1), (0, v2)] [(0, r_11)] C_12
    exact AW.iret (dc hd_G_field 15 rfl) rfl rfl (Nat.le_of_ble_eq_true rfl) (Nat.le_of_ble_eq_true rfl) ⟨rfl, h⟩
  · have h := h.2 c_10
    refine AW.iload_n (dc hd_G_field 6 rfl) rfl ?_
    refine AW.i2l (dc hd_G_field 7 rfl) ?_
    refine AW.lconst (v := 0) (dc hd_G_field 8 rfl) (by decide) (by decide +kernel) ?_
    refine AW.ldc2 (v := 4) (dc hd_G_field 9 rfl) ck_10_267 (by decide) rfl ?_
    refine AW.callS (As := [(1, v2), (1, 0), (1, 4)]) (rest := []) (m_G_in l E n C_2 v2 0 4 _ h) cb_10_113 sm_G_in (dc hd_G_field 10 rfl) rfl rfl ⟨Nat.le_of_ble_eq_true rfl, Nat.le_of_ble_eq_true rfl⟩ ⟨(Nat.le_of_ble_eq_true rfl), (Nat.le_of_ble_eq_true rfl)⟩ (Nat.le_of_ble_eq_true rfl) (fun _ h => by cases h) (fun _ => rfl) (fun r_15 D_17 d_18 q_16 => ?_)
    obtain ⟨q_16a, q_16b, h⟩ := q_16
    subst D_17
    subst d_18
    show AW p l e _ s m args below meth c E M_G_field true _ n _ _ _ [(2, v0), (0, v1), (0, v2)] [(0, r_15)] C_2
    refine AW.if_ne (t := 30) (dc hd_G_field 11 rfl) (by decide) (fun c_19 => ?_) (fun c_19 => ?_)
    · have h := h.2 c_19
      refine AW.iload_n (dc hd_G_field 16 rfl) rfl ?_
      refine AW.tsw (td := 89) (dc hd_G_field 17 rfl) [60, 67, 74, 83] (by decide +kernel) (by decide) (by decide) (fun j t hj hx => ?_) (fun q_20 => ?_)
      · match j, hj with
        | 0, hj =>
          cases hj
          have h := h.1 (hx.trans (by decide))
          refine AW.ra_n (dc hd_G_field 18 rfl) rfl rfl rfl ?_
          refine AW.getp fl_10_49 (dc hd_G_field 19 rfl) g_1 rfl ?_
          refine AW.iload_n (dc hd_G_field 20 rfl) rfl ?_
          obtain ⟨g_21, h⟩ := h
          obtain ⟨g_22, h⟩ := h
          refine AW.iald (dc hd_G_field 21 rfl) g_21 g_22 ?_
          exact AW.iret (dc hd_G_field 22 rfl) rfl rfl (Nat.le_of_ble_eq_true rfl) (Nat.le_of_ble_eq_true rfl) ⟨rfl, h⟩
        | 1, hj =>
          cases hj
          have h := h.2.1 (hx.trans (by decide))
          refine AW.ra_n (dc hd_G_field 23 rfl) rfl rfl rfl ?_
          refine AW.getp fl_10_52 (dc hd_G_field 24 rfl) g_1 rfl ?_
          refine AW.iload_n (dc hd_G_field 25 rfl) rfl ?_
          obtain ⟨g_23, h⟩ := h
          obtain ⟨g_24, h⟩ := h
          refine AW.iald (dc hd_G_field 26 rfl) g_23 g_24 ?_
          exact AW.iret (dc hd_G_field 27 rfl) rfl rfl (Nat.le_of_ble_eq_true rfl) (Nat.le_of_ble_eq_true rfl) ⟨rfl, h⟩
        | 2, hj =>
          cases hj
          have h := h.2.2.1 (hx.trans (by decide))
          refine AW.ra_n (dc hd_G_field 28 rfl) rfl rfl rfl ?_
          refine AW.getp fl_10_55 (dc hd_G_field 29 rfl) g_1 rfl ?_
          refine AW.iload_n (dc hd_G_field 30 rfl) rfl ?_
          obtain ⟨g_25, h⟩ := h
          obtain ⟨g_26, h⟩ := h
          refine AW.iald (dc hd_G_field 31 rfl) g_25 g_26 ?_
          refine AW.iconst (dc hd_G_field 32 rfl) (by decide) ?_
          refine AW.isub (dc hd_G_field 33 rfl) ?_
          exact AW.iret (dc hd_G_field 34 rfl) rfl rfl (Nat.le_of_ble_eq_true rfl) (Nat.le_of_ble_eq_true rfl) ⟨rfl, h⟩
        | 3, hj =>
          cases hj
          have h := h.2.2.2.1 (hx.trans (by decide))
          refine AW.ra_n (dc hd_G_field 35 rfl) rfl rfl rfl ?_
          refine AW.iload_n (dc hd_G_field 36 rfl) rfl ?_
          refine AW.callV (As := [(0, v1)]) (rest := []) (ci := 10) (m_G_closeOf l E n C_2 v0 v1 _ h) cb_10_269 im_G_closeOf se_G_closeOf ⟨_, _, rfl⟩ (by decide) (dc hd_G_field 37 rfl) g_1 rfl rfl ⟨Nat.le_of_ble_eq_true rfl, Nat.le_of_ble_eq_true rfl⟩ ⟨(Nat.le_of_ble_eq_true rfl), (Nat.le_of_ble_eq_true rfl)⟩ (Nat.le_of_ble_eq_true rfl) (fun _ h => by cases h) (fun _ => rfl) (fun r_27 D_29 d_30 q_28 => ?_)
          obtain ⟨q_28a, q_28b, h⟩ := q_28
          subst D_29
          subst d_30
          show AW p l e _ s m args below meth c E M_G_field true _ n _ _ _ [(2, v0), (0, v1), (0, v2)] [(0, r_27)] C_2
          exact AW.iret (dc hd_G_field 38 rfl) rfl rfl (Nat.le_of_ble_eq_true rfl) (Nat.le_of_ble_eq_true rfl) ⟨rfl, h⟩
        | j + 4, hj => exact absurd hj (by simp)
      · have h := h.2.2.2.2 q_20
        refine AW.ra_n (dc hd_G_field 39 rfl) rfl rfl rfl ?_
        refine AW.getp fl_10_58 (dc hd_G_field 40 rfl) g_1 rfl ?_
        refine AW.iload_n (dc hd_G_field 41 rfl) rfl ?_
        obtain ⟨g_31, h⟩ := h
        obtain ⟨g_32, h⟩ := h
        refine AW.iald (dc hd_G_field 42 rfl) g_31 g_32 ?_
        refine AW.ra_n (dc hd_G_field 43 rfl) rfl rfl rfl ?_
        refine AW.getp fl_10_55 (dc hd_G_field 44 rfl) g_1 rfl ?_
        refine AW.iload_n (dc hd_G_field 45 rfl) rfl ?_
        obtain ⟨g_33, h⟩ := h
        obtain ⟨g_34, h⟩ := h
        refine AW.iald (dc hd_G_field 46 rfl) g_33 g_34 ?_
        refine AW.isub (dc hd_G_field 47 rfl) ?_
        refine AW.iconst (dc hd_G_field 48 rfl) (by decide) ?_
        refine AW.iadd (dc hd_G_field 49 rfl) ?_
        exact AW.iret (dc hd_G_field 50 rfl) rfl rfl (Nat.le_of_ble_eq_true rfl) (Nat.le_of_ble_eq_true rfl) ⟨rfl, h⟩
    · have h := h.1 c_19
      refine AW.ra_n (dc hd_G_field 12 rfl) rfl rfl rfl ?_
      refine AW.iconst (dc hd_G_field 13 rfl) (by decide) ?_
      refine AW.callV (As := [(0, 0)]) (rest := []) (ci := 10) (m_G_finds l E n C_2 v0 0 _ h) cb_10_186 im_G_finds se_G_finds ⟨_, _, rfl⟩ (by decide) (dc hd_G_field 14 rfl) g_1 rfl rfl ⟨Nat.le_of_ble_eq_true rfl, Nat.le_of_ble_eq_true rfl⟩ ⟨(Nat.le_of_ble_eq_true rfl), (Nat.le_of_ble_eq_true rfl)⟩ (Nat.le_of_ble_eq_true rfl) (fun _ h => by cases h) (fun _ => rfl) (fun r_35 C_36 d_38 q_37 => ?_)
      obtain ⟨q_37a, h⟩ := q_37
      subst d_38
      show AW p l e _ s m args below meth c E M_G_field true _ n _ _ _ [(2, v0), (0, v1), (0, v2)] [(0, r_35)] C_36
      exact AW.iret (dc hd_G_field 15 rfl) rfl rfl (Nat.le_of_ble_eq_true rfl) (Nat.le_of_ble_eq_true rfl) ⟨rfl, h⟩
def B_G_onSegment_2 (n : Nat) (C : Cn) (v0 v1 v2 : Int) (Q : Int → Prop) (kz2 : Int → Prop) (v3 : Int) : Prop :=
  okO n v0 10 ∧ ((C v0.toNat 0 ≤ v3 → (Q (-1))) ∧ (¬ C v0.toNat 0 ≤ v3 → (okO n (PT v0.toNat 1) 17 ∧ (okI (PT v0.toNat 1) v3 ∧ (P_G_isOn n C (PT (PT v0.toNat 1).toNat v3.toNat) v1 v2 (fun (r_5 : Int) => (r_5 = 0 → (kz2 (w32 (v3 + 1)))) ∧ (¬ r_5 = 0 → (Q v3))))))))
theorem bB_G_onSegment_2 (n : Nat) (C : Cn) (v0 v1 v2 : Int) (Q : Int → Prop) (kz2 : Int → Prop) (hkz2 : ∀ (z3 : Int), kz2 z3 → AW p l e R s m args below meth c E M_G_onSegment true (fun r C2 n2 => C2 = C ∧ n2 = n ∧ Q r) n 0 0 2 [(2, v0), (0, v1), (0, v2), (0, z3)] [] C) (v3 : Int) (h : B_G_onSegment_2 n C v0 v1 v2 Q kz2 v3) : AW p l e R s m args below meth c E M_G_onSegment true (fun r C2 n2 => C2 = C ∧ n2 = n ∧ Q r) n 0 0 2 [(2, v0), (0, v1), (0, v2), (0, v3)] [] C := by
  unfold B_G_onSegment_2 at h
  refine AW.iload_n (dc hd_G_onSegment 2 rfl) rfl ?_
  refine AW.ra_n (dc hd_G_onSegment 3 rfl) rfl rfl rfl ?_
  obtain ⟨g_1, h⟩ := h
  refine AW.getf fl_10_117 (dc hd_G_onSegment 4 rfl) g_1 ?_
  refine AW.icmp_ge (t := 32) (dc hd_G_onSegment 5 rfl) (by decide) (fun c_2 => ?_) (fun c_2 => ?_)
  · have h := h.1 c_2
    refine AW.iconst (dc hd_G_onSegment 18 rfl) (by decide) ?_
    exact AW.iret (dc hd_G_onSegment 19 rfl) rfl rfl (Nat.le_of_ble_eq_true rfl) (Nat.le_of_ble_eq_true rfl) ⟨rfl, rfl, h⟩
  · have h := h.2 c_2
    refine AW.ra_n (dc hd_G_onSegment 6 rfl) rfl rfl rfl ?_
    refine AW.getp fl_10_11 (dc hd_G_onSegment 7 rfl) g_1 rfl ?_
    refine AW.iload_n (dc hd_G_onSegment 8 rfl) rfl ?_
    obtain ⟨g_3, h⟩ := h
    obtain ⟨g_4, h⟩ := h
    refine AW.aaldp (by decide) (dc hd_G_onSegment 9 rfl) g_3 g_4 rfl ?_
    refine AW.iload_n (dc hd_G_onSegment 10 rfl) rfl ?_
    refine AW.iload_n (dc hd_G_onSegment 11 rfl) rfl ?_
    refine AW.callS (As := [(2, PT (PT v0.toNat 1).toNat v3.toNat), (0, v1), (0, v2)]) (rest := []) (m_G_isOn l E n C (PT (PT v0.toNat 1).toNat v3.toNat) v1 v2 _ h) cb_10_138 sm_G_isOn (dc hd_G_onSegment 12 rfl) rfl rfl ⟨Nat.le_of_ble_eq_true rfl, Nat.le_of_ble_eq_true rfl⟩ ⟨(Nat.le_of_ble_eq_true rfl), (Nat.le_of_ble_eq_true rfl)⟩ (Nat.le_of_ble_eq_true rfl) (fun _ h => by cases h) (fun _ => rfl) (fun r_5 D_7 d_8 q_6 => ?_)
    obtain ⟨q_6a, q_6b, h⟩ := q_6
    subst D_7
    subst d_8
    show AW p l e _ s m args below meth c E M_G_onSegment true _ n _ _ _ [(2, v0), (0, v1), (0, v2), (0, v3)] [(0, r_5)] C
    refine AW.if_eq (t := 26) (dc hd_G_onSegment 13 rfl) (by decide) (fun c_9 => ?_) (fun c_9 => ?_)
    · have h := h.1 c_9
      refine AW.iinc [(2, v0), (0, v1), (0, v2), (0, w32 (v3 + 1))] (dc hd_G_onSegment 16 rfl) rfl (Nat.le_of_ble_eq_true rfl) rfl rfl ?_
      refine AW.goto (t := 2) (dc hd_G_onSegment 17 rfl) (by decide) ?_
      exact hkz2 (w32 (v3 + 1)) h
    · have h := h.2 c_9
      refine AW.iload_n (dc hd_G_onSegment 14 rfl) rfl ?_
      exact AW.iret (dc hd_G_onSegment 15 rfl) rfl rfl (Nat.le_of_ble_eq_true rfl) (Nat.le_of_ble_eq_true rfl) ⟨rfl, rfl, h⟩
theorem aB_G_onSegment_2 (n : Nat) (C : Cn) (v0 v1 v2 : Int) (Q : Int → Prop) : ∀ (f : Nat) (z : Int), lp (B_G_onSegment_2 n C v0 v1 v2 Q) f z → AW p l e R s m args below meth c E M_G_onSegment true (fun r C2 n2 => C2 = C ∧ n2 = n ∧ Q r) n 0 0 2 [(2, v0), (0, v1), (0, v2), (0, z)] [] C := by
  intro f
  induction f with
  | zero => intro z h; exact False.elim h
  | succ f ih => intro z h; exact bB_G_onSegment_2 n C v0 v1 v2 Q (lp (B_G_onSegment_2 n C v0 v1 v2 Q) f) (fun a0 h => ih a0 h) z h
def P_G_onSegment (n : Nat) (C : Cn) (v0 v1 v2 : Int) (Q : Int → Prop) : Prop :=
  ∃ f_10 : Nat, lp (B_G_onSegment_2 n C v0 v1 v2 Q) f_10 0
theorem m_G_onSegment (l : Launch) (E : Ev) (n : Nat) (C : Cn) (v0 v1 v2 : Int) (Q : Int → Prop) (h : P_G_onSegment n C v0 v1 v2 Q) : MA l y_G_onSegment M_G_onSegment E true C n [(2, v0), (0, v1), (0, v2)] (fun r C2 n2 => C2 = C ∧ n2 = n ∧ Q r) := by
  refine MA.of (by decide) rfl rfl 1 rfl (fun p e s m args below meth c => ?_)
  show AW p l e _ s m args below meth c E M_G_onSegment true _ n 0 0 0 [(2, v0), (0, v1), (0, v2), (9, 0)] [] C
  unfold P_G_onSegment at h
  refine AW.iconst (dc hd_G_onSegment 0 rfl) (by decide) ?_
  refine AW.istore_n [(2, v0), (0, v1), (0, v2), (0, 0)] (dc hd_G_onSegment 1 rfl) (Nat.le_of_ble_eq_true rfl) rfl rfl ?_
  obtain ⟨f_10, h⟩ := h
  exact aB_G_onSegment_2 n C v0 v1 v2 Q f_10 0 h
def J_G_isIn_155 (n : Nat) (C : Cn) (v0 : Int) (Q : Int → Cn → Prop) : Prop :=
  okO n v0 10 ∧ (okO n (PT v0.toNat 17) 17 ∧ (okI (PT v0.toNat 17) (C v0.toNat 23) ∧ (okO n (PT (PT v0.toNat 17).toNat (C v0.toNat 23).toNat) 12 ∧ (okI (PT (PT v0.toNat 17).toNat (C v0.toNat 23).toNat) (C v0.toNat 24) ∧ (Q (C (PT (PT v0.toNat 17).toNat (C v0.toNat 23).toNat).toNat (C v0.toNat 24).toNat) C)))))
theorem aJ_G_isIn_155 (n : Nat) (C : Cn) (v0 : Int) (Q : Int → Cn → Prop) (h : J_G_isIn_155 n C v0 Q) : AW p l e R s m args below meth c E M_G_isIn true (fun r C2 n2 => n2 = n ∧ Q r C2) n 0 0 155 [(2, v0), (9, 0), (9, 0)] [] C := by
  unfold J_G_isIn_155 at h
  refine AW.ra_n (dc hd_G_isIn 86 rfl) rfl rfl rfl ?_
  obtain ⟨g_21, h⟩ := h
  refine AW.getp fl_10_46 (dc hd_G_isIn 87 rfl) g_21 rfl ?_
  refine AW.ra_n (dc hd_G_isIn 88 rfl) rfl rfl rfl ?_
  refine AW.getf fl_10_275 (dc hd_G_isIn 89 rfl) g_21 ?_
  obtain ⟨g_22, h⟩ := h
  obtain ⟨g_23, h⟩ := h
  refine AW.aaldp (by decide) (dc hd_G_isIn 90 rfl) g_22 g_23 rfl ?_
  refine AW.ra_n (dc hd_G_isIn 91 rfl) rfl rfl rfl ?_
  refine AW.getf fl_10_278 (dc hd_G_isIn 92 rfl) g_21 ?_
  obtain ⟨g_24, h⟩ := h
  obtain ⟨g_25, h⟩ := h
  refine AW.iald (dc hd_G_isIn 93 rfl) g_24 g_25 ?_
  exact AW.iret (dc hd_G_isIn 94 rfl) rfl rfl (Nat.le_of_ble_eq_true rfl) (Nat.le_of_ble_eq_true rfl) ⟨rfl, h⟩
def B_G_isIn_99 (n : Nat) (v0 v1 v2 : Int) (Q : Int → Cn → Prop) (kz99 : Cn → Prop) (C : Cn) : Prop :=
  okO n v0 10 ∧ (okO n (PT v0.toNat 15) 12 ∧ (okI (PT v0.toNat 15) (C v0.toNat 23) ∧ ((C (PT v0.toNat 15).toNat (C v0.toNat 23).toNat ≤ C v0.toNat 24 → (J_G_isIn_155 n C v0 Q)) ∧ (¬ C (PT v0.toNat 15).toNat (C v0.toNat 23).toNat ≤ C v0.toNat 24 → (okO n (PT v0.toNat 16) 17 ∧ (okI (PT v0.toNat 16) (C v0.toNat 23) ∧ (okO n (PT (PT v0.toNat 16).toNat (C v0.toNat 23).toNat) 12 ∧ (okI (PT (PT v0.toNat 16).toNat (C v0.toNat 23).toNat) (C v0.toNat 24) ∧ (okO n (PT v0.toNat 1) 17 ∧ (okI (PT v0.toNat 1) (C (PT (PT v0.toNat 16).toNat (C v0.toNat 23).toNat).toNat (C v0.toNat 24).toNat) ∧ (P_G_side n C (PT (PT v0.toNat 1).toNat (C (PT (PT v0.toNat 16).toNat (C v0.toNat 23).toNat).toNat (C v0.toNat 24).toNat).toNat) v1 v2 (fun (r_32 : Int) => (r_32 ≤ 0 → (J_G_isIn_155 n C v0 Q)) ∧ (¬ r_32 ≤ 0 → (∀ C_37 : Cn, C_37 = wr C v0.toNat 24 (w32 (C v0.toNat 24 + 1)) → (kz99 C_37)))))))))))))))
theorem bB_G_isIn_99 (n : Nat) (v0 v1 v2 : Int) (Q : Int → Cn → Prop) (kz99 : Cn → Prop) (hkz99 : ∀ (Cz : Cn), kz99 Cz → AW p l e R s m args below meth c E M_G_isIn true (fun r C2 n2 => n2 = n ∧ Q r C2) n 0 0 99 [(2, v0), (0, v1), (0, v2)] [] Cz) (C : Cn) (h : B_G_isIn_99 n v0 v1 v2 Q kz99 C) : AW p l e R s m args below meth c E M_G_isIn true (fun r C2 n2 => n2 = n ∧ Q r C2) n 0 0 99 [(2, v0), (0, v1), (0, v2)] [] C := by
  unfold B_G_isIn_99 at h
  refine AW.ra_n (dc hd_G_isIn 56 rfl) rfl rfl rfl ?_
  obtain ⟨g_17, h⟩ := h
  refine AW.getf fl_10_278 (dc hd_G_isIn 57 rfl) g_17 ?_
  refine AW.ra_n (dc hd_G_isIn 58 rfl) rfl rfl rfl ?_
  refine AW.getp fl_10_40 (dc hd_G_isIn 59 rfl) g_17 rfl ?_
  refine AW.ra_n (dc hd_G_isIn 60 rfl) rfl rfl rfl ?_
  refine AW.getf fl_10_275 (dc hd_G_isIn 61 rfl) g_17 ?_
  obtain ⟨g_18, h⟩ := h
  obtain ⟨g_19, h⟩ := h
  refine AW.iald (dc hd_G_isIn 62 rfl) g_18 g_19 ?_
  refine AW.icmp_ge (t := 155) (dc hd_G_isIn 63 rfl) (by decide) (fun c_20 => ?_) (fun c_20 => ?_)
  · have h := h.1 c_20
    refine AW.fgt [(2, v0), (9, 0), (9, 0)] ⟨.inl rfl, .inr rfl, .inr rfl, trivial⟩ ?_
    exact aJ_G_isIn_155 n C v0 Q h
  · have h := h.2 c_20
    refine AW.ra_n (dc hd_G_isIn 64 rfl) rfl rfl rfl ?_
    refine AW.getp fl_10_11 (dc hd_G_isIn 65 rfl) g_17 rfl ?_
    refine AW.ra_n (dc hd_G_isIn 66 rfl) rfl rfl rfl ?_
    refine AW.getp fl_10_43 (dc hd_G_isIn 67 rfl) g_17 rfl ?_
    refine AW.ra_n (dc hd_G_isIn 68 rfl) rfl rfl rfl ?_
    refine AW.getf fl_10_275 (dc hd_G_isIn 69 rfl) g_17 ?_
    obtain ⟨g_26, h⟩ := h
    obtain ⟨g_27, h⟩ := h
    refine AW.aaldp (by decide) (dc hd_G_isIn 70 rfl) g_26 g_27 rfl ?_
    refine AW.ra_n (dc hd_G_isIn 71 rfl) rfl rfl rfl ?_
    refine AW.getf fl_10_278 (dc hd_G_isIn 72 rfl) g_17 ?_
    obtain ⟨g_28, h⟩ := h
    obtain ⟨g_29, h⟩ := h
    refine AW.iald (dc hd_G_isIn 73 rfl) g_28 g_29 ?_
    obtain ⟨g_30, h⟩ := h
    obtain ⟨g_31, h⟩ := h
    refine AW.aaldp (by decide) (dc hd_G_isIn 74 rfl) g_30 g_31 rfl ?_
    refine AW.iload_n (dc hd_G_isIn 75 rfl) rfl ?_
    refine AW.iload_n (dc hd_G_isIn 76 rfl) rfl ?_
    refine AW.callS (As := [(2, PT (PT v0.toNat 1).toNat (C (PT (PT v0.toNat 16).toNat (C v0.toNat 23).toNat).toNat (C v0.toNat 24).toNat).toNat), (0, v1), (0, v2)]) (rest := []) (m_G_side l E n C (PT (PT v0.toNat 1).toNat (C (PT (PT v0.toNat 16).toNat (C v0.toNat 23).toNat).toNat (C v0.toNat 24).toNat).toNat) v1 v2 _ h) cb_10_126 sm_G_side (dc hd_G_isIn 77 rfl) rfl rfl ⟨Nat.le_of_ble_eq_true rfl, Nat.le_of_ble_eq_true rfl⟩ ⟨(Nat.le_of_ble_eq_true rfl), (Nat.le_of_ble_eq_true rfl)⟩ (Nat.le_of_ble_eq_true rfl) (fun _ h => by cases h) (fun _ => rfl) (fun r_32 D_34 d_35 q_33 => ?_)
    obtain ⟨q_33a, q_33b, h⟩ := q_33
    subst D_34
    subst d_35
    show AW p l e _ s m args below meth c E M_G_isIn true _ n _ _ _ [(2, v0), (0, v1), (0, v2)] [(0, r_32)] C
    refine AW.if_le (t := 155) (dc hd_G_isIn 78 rfl) (by decide) (fun c_36 => ?_) (fun c_36 => ?_)
    · have h := h.1 c_36
      refine AW.fgt [(2, v0), (9, 0), (9, 0)] ⟨.inl rfl, .inr rfl, .inr rfl, trivial⟩ ?_
      exact aJ_G_isIn_155 n C v0 Q h
    · have h := h.2 c_36
      refine AW.ra_n (dc hd_G_isIn 79 rfl) rfl rfl rfl ?_
      refine AW.rdup (dc hd_G_isIn 80 rfl) rfl ?_
      refine AW.getf fl_10_278 (dc hd_G_isIn 81 rfl) g_17 ?_
      refine AW.iconst (dc hd_G_isIn 82 rfl) (by decide) ?_
      refine AW.iadd (dc hd_G_isIn 83 rfl) ?_
      refine AW.nputI fl_10_278 (dc hd_G_isIn 84 rfl) g_17 (fun C_37 eC_37 => ?_)
      have h := h C_37 eC_37
      refine AW.goto (t := 99) (dc hd_G_isIn 85 rfl) (by decide) ?_
      exact hkz99 C_37 h
theorem aB_G_isIn_99 (n : Nat) (v0 v1 v2 : Int) (Q : Int → Cn → Prop) : ∀ (f : Nat) (z : Cn), lp (B_G_isIn_99 n v0 v1 v2 Q) f z → AW p l e R s m args below meth c E M_G_isIn true (fun r C2 n2 => n2 = n ∧ Q r C2) n 0 0 99 [(2, v0), (0, v1), (0, v2)] [] z := by
  intro f
  induction f with
  | zero => intro z h; exact False.elim h
  | succ f ih => intro z h; exact bB_G_isIn_99 n v0 v1 v2 Q (lp (B_G_isIn_99 n v0 v1 v2 Q) f) (fun a0 h => ih a0 h) z h
def J_G_isIn_94 (n : Nat) (C : Cn) (v0 v1 v2 : Int) (Q : Int → Cn → Prop) : Prop :=
  okO n v0 10 ∧ (∀ C_16 : Cn, C_16 = wr C v0.toNat 24 0 → (∃ f_38 : Nat, lp (B_G_isIn_99 n v0 v1 v2 Q) f_38 C_16))
theorem aJ_G_isIn_94 (n : Nat) (C : Cn) (v0 v1 v2 : Int) (Q : Int → Cn → Prop) (h : J_G_isIn_94 n C v0 v1 v2 Q) : AW p l e R s m args below meth c E M_G_isIn true (fun r C2 n2 => n2 = n ∧ Q r C2) n 0 0 94 [(2, v0), (0, v1), (0, v2)] [] C := by
  unfold J_G_isIn_94 at h
  refine AW.ra_n (dc hd_G_isIn 53 rfl) rfl rfl rfl ?_
  refine AW.iconst (dc hd_G_isIn 54 rfl) (by decide) ?_
  obtain ⟨g_15, h⟩ := h
  refine AW.nputI fl_10_278 (dc hd_G_isIn 55 rfl) g_15 (fun C_16 eC_16 => ?_)
  have h := h C_16 eC_16
  obtain ⟨f_38, h⟩ := h
  exact aB_G_isIn_99 n v0 v1 v2 Q f_38 C_16 h
def B_G_isIn_44 (n : Nat) (v0 v1 v2 : Int) (Q : Int → Cn → Prop) (kz44 : Cn → Prop) (C : Cn) : Prop :=
  okO n v0 10 ∧ ((C v0.toNat 10 ≤ C v0.toNat 23 → (J_G_isIn_94 n C v0 v1 v2 Q)) ∧ (¬ C v0.toNat 10 ≤ C v0.toNat 23 → (okO n (PT v0.toNat 11) 12 ∧ (okI (PT v0.toNat 11) (C v0.toNat 23) ∧ (okO n (PT v0.toNat 12) 12 ∧ (okI (PT v0.toNat 12) (C v0.toNat 23) ∧ (P_G_isAhead n C (C (PT v0.toNat 11).toNat (C v0.toNat 23).toNat) (C (PT v0.toNat 12).toNat (C v0.toNat 23).toNat) v1 v2 (fun (r_43 : Int) => (r_43 = 0 → (J_G_isIn_94 n C v0 v1 v2 Q)) ∧ (¬ r_43 = 0 → (∀ C_48 : Cn, C_48 = wr C v0.toNat 23 (w32 (C v0.toNat 23 + 1)) → (kz44 C_48)))))))))))
theorem bB_G_isIn_44 (n : Nat) (v0 v1 v2 : Int) (Q : Int → Cn → Prop) (kz44 : Cn → Prop) (hkz44 : ∀ (Cz : Cn), kz44 Cz → AW p l e R s m args below meth c E M_G_isIn true (fun r C2 n2 => n2 = n ∧ Q r C2) n 0 0 44 [(2, v0), (0, v1), (0, v2)] [] Cz) (C : Cn) (h : B_G_isIn_44 n v0 v1 v2 Q kz44 C) : AW p l e R s m args below meth c E M_G_isIn true (fun r C2 n2 => n2 = n ∧ Q r C2) n 0 0 44 [(2, v0), (0, v1), (0, v2)] [] C := by
  unfold B_G_isIn_44 at h
  refine AW.ra_n (dc hd_G_isIn 27 rfl) rfl rfl rfl ?_
  obtain ⟨g_13, h⟩ := h
  refine AW.getf fl_10_275 (dc hd_G_isIn 28 rfl) g_13 ?_
  refine AW.ra_n (dc hd_G_isIn 29 rfl) rfl rfl rfl ?_
  refine AW.getf fl_10_221 (dc hd_G_isIn 30 rfl) g_13 ?_
  refine AW.icmp_ge (t := 94) (dc hd_G_isIn 31 rfl) (by decide) (fun c_14 => ?_) (fun c_14 => ?_)
  · have h := h.1 c_14
    exact aJ_G_isIn_94 n C v0 v1 v2 Q h
  · have h := h.2 c_14
    refine AW.ra_n (dc hd_G_isIn 32 rfl) rfl rfl rfl ?_
    refine AW.getp fl_10_28 (dc hd_G_isIn 33 rfl) g_13 rfl ?_
    refine AW.ra_n (dc hd_G_isIn 34 rfl) rfl rfl rfl ?_
    refine AW.getf fl_10_275 (dc hd_G_isIn 35 rfl) g_13 ?_
    obtain ⟨g_39, h⟩ := h
    obtain ⟨g_40, h⟩ := h
    refine AW.iald (dc hd_G_isIn 36 rfl) g_39 g_40 ?_
    refine AW.ra_n (dc hd_G_isIn 37 rfl) rfl rfl rfl ?_
    refine AW.getp fl_10_31 (dc hd_G_isIn 38 rfl) g_13 rfl ?_
    refine AW.ra_n (dc hd_G_isIn 39 rfl) rfl rfl rfl ?_
    refine AW.getf fl_10_275 (dc hd_G_isIn 40 rfl) g_13 ?_
    obtain ⟨g_41, h⟩ := h
    obtain ⟨g_42, h⟩ := h
    refine AW.iald (dc hd_G_isIn 41 rfl) g_41 g_42 ?_
    refine AW.iload_n (dc hd_G_isIn 42 rfl) rfl ?_
    refine AW.iload_n (dc hd_G_isIn 43 rfl) rfl ?_
    refine AW.callS (As := [(0, C (PT v0.toNat 11).toNat (C v0.toNat 23).toNat), (0, C (PT v0.toNat 12).toNat (C v0.toNat 23).toNat), (0, v1), (0, v2)]) (rest := []) (m_G_isAhead l E n C (C (PT v0.toNat 11).toNat (C v0.toNat 23).toNat) (C (PT v0.toNat 12).toNat (C v0.toNat 23).toNat) v1 v2 _ h) cb_10_130 sm_G_isAhead (dc hd_G_isIn 44 rfl) rfl rfl ⟨Nat.le_of_ble_eq_true rfl, Nat.le_of_ble_eq_true rfl⟩ ⟨(Nat.le_of_ble_eq_true rfl), (Nat.le_of_ble_eq_true rfl)⟩ (Nat.le_of_ble_eq_true rfl) (fun _ h => by cases h) (fun _ => rfl) (fun r_43 D_45 d_46 q_44 => ?_)
    obtain ⟨q_44a, q_44b, h⟩ := q_44
    subst D_45
    subst d_46
    show AW p l e _ s m args below meth c E M_G_isIn true _ n _ _ _ [(2, v0), (0, v1), (0, v2)] [(0, r_43)] C
    refine AW.if_eq (t := 94) (dc hd_G_isIn 45 rfl) (by decide) (fun c_47 => ?_) (fun c_47 => ?_)
    · have h := h.1 c_47
      exact aJ_G_isIn_94 n C v0 v1 v2 Q h
    · have h := h.2 c_47
      refine AW.ra_n (dc hd_G_isIn 46 rfl) rfl rfl rfl ?_
      refine AW.rdup (dc hd_G_isIn 47 rfl) rfl ?_
      refine AW.getf fl_10_275 (dc hd_G_isIn 48 rfl) g_13 ?_
      refine AW.iconst (dc hd_G_isIn 49 rfl) (by decide) ?_
      refine AW.iadd (dc hd_G_isIn 50 rfl) ?_
      refine AW.nputI fl_10_275 (dc hd_G_isIn 51 rfl) g_13 (fun C_48 eC_48 => ?_)
      have h := h C_48 eC_48
      refine AW.goto (t := 44) (dc hd_G_isIn 52 rfl) (by decide) ?_
      exact hkz44 C_48 h
theorem aB_G_isIn_44 (n : Nat) (v0 v1 v2 : Int) (Q : Int → Cn → Prop) : ∀ (f : Nat) (z : Cn), lp (B_G_isIn_44 n v0 v1 v2 Q) f z → AW p l e R s m args below meth c E M_G_isIn true (fun r C2 n2 => n2 = n ∧ Q r C2) n 0 0 44 [(2, v0), (0, v1), (0, v2)] [] z := by
  intro f
  induction f with
  | zero => intro z h; exact False.elim h
  | succ f ih => intro z h; exact bB_G_isIn_44 n v0 v1 v2 Q (lp (B_G_isIn_44 n v0 v1 v2 Q) f) (fun a0 h => ih a0 h) z h
def P_G_isIn (n : Nat) (C : Cn) (v0 v1 v2 : Int) (Q : Int → Cn → Prop) : Prop :=
  okO n v0 10 ∧ (P_G_endAt n C v0 v1 v2 (fun (r_1 : Int) => (r_1 < 0 → (P_G_onSegment n C v0 v1 v2 (fun (r_7 : Int) => (r_7 < 0 → (∀ C_12 : Cn, C_12 = wr C v0.toNat 23 0 → (∃ f_49 : Nat, lp (B_G_isIn_44 n v0 v1 v2 Q) f_49 C_12))) ∧ (¬ r_7 < 0 → (P_G_onSegment n C v0 v1 v2 (fun (r_50 : Int) => Q (w32 (200 + r_50)) C)))))) ∧ (¬ r_1 < 0 → (P_G_endAt n C v0 v1 v2 (fun (r_54 : Int) => Q (w32 (100 + r_54)) C)))))
theorem m_G_isIn (l : Launch) (E : Ev) (n : Nat) (C : Cn) (v0 v1 v2 : Int) (Q : Int → Cn → Prop) (h : P_G_isIn n C v0 v1 v2 Q) : MA l y_G_isIn M_G_isIn E true C n [(2, v0), (0, v1), (0, v2)] (fun r C2 n2 => n2 = n ∧ Q r C2) := by
  refine MA.of (by decide) rfl rfl 0 rfl (fun p e s m args below meth c => ?_)
  show AW p l e _ s m args below meth c E M_G_isIn true _ n 0 0 0 [(2, v0), (0, v1), (0, v2)] [] C
  unfold P_G_isIn at h
  refine AW.ra_n (dc hd_G_isIn 0 rfl) rfl rfl rfl ?_
  refine AW.iload_n (dc hd_G_isIn 1 rfl) rfl ?_
  refine AW.iload_n (dc hd_G_isIn 2 rfl) rfl ?_
  obtain ⟨g_2, h⟩ := h
  refine AW.callV (As := [(0, v1), (0, v2)]) (rest := []) (ci := 10) (m_G_endAt l E n C v0 v1 v2 _ h) cb_10_224 im_G_endAt se_G_endAt ⟨_, _, rfl⟩ (by decide) (dc hd_G_isIn 3 rfl) g_2 rfl rfl ⟨Nat.le_of_ble_eq_true rfl, Nat.le_of_ble_eq_true rfl⟩ ⟨(Nat.le_of_ble_eq_true rfl), (Nat.le_of_ble_eq_true rfl)⟩ (Nat.le_of_ble_eq_true rfl) (fun _ h => by cases h) (fun _ => rfl) (fun r_1 D_4 d_5 q_3 => ?_)
  obtain ⟨q_3a, q_3b, h⟩ := q_3
  subst D_4
  subst d_5
  show AW p l e _ s m args below meth c E M_G_isIn true _ n _ _ _ [(2, v0), (0, v1), (0, v2)] [(0, r_1)] C
  refine AW.if_lt (t := 19) (dc hd_G_isIn 4 rfl) (by decide) (fun c_6 => ?_) (fun c_6 => ?_)
  · have h := h.1 c_6
    refine AW.ra_n (dc hd_G_isIn 12 rfl) rfl rfl rfl ?_
    refine AW.iload_n (dc hd_G_isIn 13 rfl) rfl ?_
    refine AW.iload_n (dc hd_G_isIn 14 rfl) rfl ?_
    refine AW.callV (As := [(0, v1), (0, v2)]) (rest := []) (ci := 10) (m_G_onSegment l E n C v0 v1 v2 _ h) cb_10_272 im_G_onSegment se_G_onSegment ⟨_, _, rfl⟩ (by decide) (dc hd_G_isIn 15 rfl) g_2 rfl rfl ⟨Nat.le_of_ble_eq_true rfl, Nat.le_of_ble_eq_true rfl⟩ ⟨(Nat.le_of_ble_eq_true rfl), (Nat.le_of_ble_eq_true rfl)⟩ (Nat.le_of_ble_eq_true rfl) (fun _ h => by cases h) (fun _ => rfl) (fun r_7 D_9 d_10 q_8 => ?_)
    obtain ⟨q_8a, q_8b, h⟩ := q_8
    subst D_9
    subst d_10
    show AW p l e _ s m args below meth c E M_G_isIn true _ n _ _ _ [(2, v0), (0, v1), (0, v2)] [(0, r_7)] C
    refine AW.if_lt (t := 39) (dc hd_G_isIn 16 rfl) (by decide) (fun c_11 => ?_) (fun c_11 => ?_)
    · have h := h.1 c_11
      refine AW.ra_n (dc hd_G_isIn 24 rfl) rfl rfl rfl ?_
      refine AW.iconst (dc hd_G_isIn 25 rfl) (by decide) ?_
      refine AW.nputI fl_10_275 (dc hd_G_isIn 26 rfl) g_2 (fun C_12 eC_12 => ?_)
      have h := h C_12 eC_12
      obtain ⟨f_49, h⟩ := h
      exact aB_G_isIn_44 n v0 v1 v2 Q f_49 C_12 h
    · have h := h.2 c_11
      refine AW.sipush (dc hd_G_isIn 17 rfl) (by decide) (by decide +kernel) ?_
      refine AW.ra_n (dc hd_G_isIn 18 rfl) rfl rfl rfl ?_
      refine AW.iload_n (dc hd_G_isIn 19 rfl) rfl ?_
      refine AW.iload_n (dc hd_G_isIn 20 rfl) rfl ?_
      refine AW.callV (As := [(0, v1), (0, v2)]) (rest := [(0, 200)]) (ci := 10) (m_G_onSegment l E n C v0 v1 v2 _ h) cb_10_272 im_G_onSegment se_G_onSegment ⟨_, _, rfl⟩ (by decide) (dc hd_G_isIn 21 rfl) g_2 rfl rfl ⟨Nat.le_of_ble_eq_true rfl, Nat.le_of_ble_eq_true rfl⟩ ⟨(Nat.le_of_ble_eq_true rfl), (Nat.le_of_ble_eq_true rfl)⟩ (Nat.le_of_ble_eq_true rfl) (fun _ h => by cases h) (fun _ => rfl) (fun r_50 D_52 d_53 q_51 => ?_)
      obtain ⟨q_51a, q_51b, h⟩ := q_51
      subst D_52
      subst d_53
      show AW p l e _ s m args below meth c E M_G_isIn true _ n _ _ _ [(2, v0), (0, v1), (0, v2)] [(0, r_50), (0, 200)] C
      refine AW.iadd (dc hd_G_isIn 22 rfl) ?_
      exact AW.iret (dc hd_G_isIn 23 rfl) rfl rfl (Nat.le_of_ble_eq_true rfl) (Nat.le_of_ble_eq_true rfl) ⟨rfl, h⟩
  · have h := h.2 c_6
    refine AW.bipush (dc hd_G_isIn 5 rfl) (by decide) (by decide +kernel) ?_
    refine AW.ra_n (dc hd_G_isIn 6 rfl) rfl rfl rfl ?_
    refine AW.iload_n (dc hd_G_isIn 7 rfl) rfl ?_
    refine AW.iload_n (dc hd_G_isIn 8 rfl) rfl ?_
    refine AW.callV (As := [(0, v1), (0, v2)]) (rest := [(0, 100)]) (ci := 10) (m_G_endAt l E n C v0 v1 v2 _ h) cb_10_224 im_G_endAt se_G_endAt ⟨_, _, rfl⟩ (by decide) (dc hd_G_isIn 9 rfl) g_2 rfl rfl ⟨Nat.le_of_ble_eq_true rfl, Nat.le_of_ble_eq_true rfl⟩ ⟨(Nat.le_of_ble_eq_true rfl), (Nat.le_of_ble_eq_true rfl)⟩ (Nat.le_of_ble_eq_true rfl) (fun _ h => by cases h) (fun _ => rfl) (fun r_54 D_56 d_57 q_55 => ?_)
    obtain ⟨q_55a, q_55b, h⟩ := q_55
    subst D_56
    subst d_57
    show AW p l e _ s m args below meth c E M_G_isIn true _ n _ _ _ [(2, v0), (0, v1), (0, v2)] [(0, r_54), (0, 100)] C
    refine AW.iadd (dc hd_G_isIn 10 rfl) ?_
    exact AW.iret (dc hd_G_isIn 11 rfl) rfl rfl (Nat.le_of_ble_eq_true rfl) (Nat.le_of_ble_eq_true rfl) ⟨rfl, h⟩
def J_G_isFree_16 (n : Nat) (C : Cn) (s0 : Int) (Q : Int → Cn → Prop) : Prop :=
  (s0 = 0 ∨ s0 = 1) ∧ (Q s0 C)
theorem aJ_G_isFree_16 (n : Nat) (C : Cn) (s0 : Int) (Q : Int → Cn → Prop) (h : J_G_isFree_16 n C s0 Q) : AW p l e R s m args below meth c E M_G_isFree true (fun r C2 n2 => n2 = n ∧ Q r C2) n 0 0 16 [(9, 0), (9, 0), (9, 0)] [(0, s0)] C := by
  unfold J_G_isFree_16 at h
  obtain ⟨g_7, h⟩ := h
  exact AW.zret (dc hd_G_isFree 9 rfl) rfl rfl (Nat.le_of_ble_eq_true rfl) (Nat.le_of_ble_eq_true rfl) g_7 ⟨rfl, h⟩
def P_G_isFree (n : Nat) (C : Cn) (v0 v1 v2 : Int) (Q : Int → Cn → Prop) : Prop :=
  okO n v0 10 ∧ (P_G_isIn n C v0 v1 v2 (fun (r_1 : Int) (C_3 : Cn) => J_G_isFree_16 n C_3 (if 100 ≤ r_1 then 0 else 1) Q))
theorem m_G_isFree (l : Launch) (E : Ev) (n : Nat) (C : Cn) (v0 v1 v2 : Int) (Q : Int → Cn → Prop) (h : P_G_isFree n C v0 v1 v2 Q) : MA l y_G_isFree M_G_isFree E true C n [(2, v0), (0, v1), (0, v2)] (fun r C2 n2 => n2 = n ∧ Q r C2) := by
  refine MA.of (by decide) rfl rfl 0 rfl (fun p e s m args below meth c => ?_)
  show AW p l e _ s m args below meth c E M_G_isFree true _ n 0 0 0 [(2, v0), (0, v1), (0, v2)] [] C
  unfold P_G_isFree at h
  refine AW.ra_n (dc hd_G_isFree 0 rfl) rfl rfl rfl ?_
  refine AW.iload_n (dc hd_G_isFree 1 rfl) rfl ?_
  refine AW.iload_n (dc hd_G_isFree 2 rfl) rfl ?_
  obtain ⟨g_2, h⟩ := h
  refine AW.callV (As := [(0, v1), (0, v2)]) (rest := []) (ci := 10) (m_G_isIn l E n C v0 v1 v2 _ h) cb_10_281 im_G_isIn se_G_isIn ⟨_, _, rfl⟩ (by decide) (dc hd_G_isFree 3 rfl) g_2 rfl rfl ⟨Nat.le_of_ble_eq_true rfl, Nat.le_of_ble_eq_true rfl⟩ ⟨(Nat.le_of_ble_eq_true rfl), (Nat.le_of_ble_eq_true rfl)⟩ (Nat.le_of_ble_eq_true rfl) (fun _ h => by cases h) (fun _ => rfl) (fun r_1 C_3 d_5 q_4 => ?_)
  obtain ⟨q_4a, h⟩ := q_4
  subst d_5
  show AW p l e _ s m args below meth c E M_G_isFree true _ n _ _ _ [(2, v0), (0, v1), (0, v2)] [(0, r_1)] C_3
  refine AW.bipush (dc hd_G_isFree 4 rfl) (by decide) (by decide +kernel) ?_
  refine AW.icmp_ge (t := 15) (dc hd_G_isFree 5 rfl) (by decide) (fun c_6 => ?_) (fun c_6 => ?_)
  · simp only [if_pos (show 100 ≤ r_1 from c_6)] at h
    refine AW.iconst (dc hd_G_isFree 8 rfl) (by decide) ?_
    refine AW.fgt [(9, 0), (9, 0), (9, 0)] ⟨.inr rfl, .inr rfl, .inr rfl, trivial⟩ ?_
    exact aJ_G_isFree_16 n C_3 _ Q h
  · simp only [if_neg (show ¬ (100 ≤ r_1) from c_6)] at h
    refine AW.iconst (dc hd_G_isFree 6 rfl) (by decide) ?_
    refine AW.goto (t := 16) (dc hd_G_isFree 7 rfl) (by decide) ?_
    refine AW.fgt [(9, 0), (9, 0), (9, 0)] ⟨.inr rfl, .inr rfl, .inr rfl, trivial⟩ ?_
    exact aJ_G_isFree_16 n C_3 _ Q h
def P_G_at (n : Nat) (C : Cn) (v0 v1 v2 : Int) (Q : Int → Cn → Prop) : Prop :=
  P_G_isPoint n C v1 v2 (fun (r_1 : Int) => (r_1 = 0 → (okO n v0 10 ∧ (P_G_finds n C v0 0 (fun (r_15 : Int) (C_17 : Cn) => Q r_15 C_17)))) ∧ (¬ r_1 = 0 → (okO n v0 10 ∧ (P_G_maps n C v0 (fun (_ : Int) (C_7 : Cn) => P_G_isIn n C_7 v0 v1 v2 (fun (r_11 : Int) (C_12 : Cn) => Q r_11 C_12))))))
theorem m_G_at (l : Launch) (E : Ev) (n : Nat) (C : Cn) (v0 v1 v2 : Int) (Q : Int → Cn → Prop) (h : P_G_at n C v0 v1 v2 Q) : MA l y_G_at M_G_at E true C n [(2, v0), (0, v1), (0, v2)] (fun r C2 n2 => n2 = n ∧ Q r C2) := by
  refine MA.of (by decide) rfl rfl 0 rfl (fun p e s m args below meth c => ?_)
  show AW p l e _ s m args below meth c E M_G_at true _ n 0 0 0 [(2, v0), (0, v1), (0, v2)] [] C
  unfold P_G_at at h
  refine AW.iload_n (dc hd_G_at 0 rfl) rfl ?_
  refine AW.iload_n (dc hd_G_at 1 rfl) rfl ?_
  refine AW.callS (As := [(0, v1), (0, v2)]) (rest := []) (m_G_isPoint l E n C v1 v2 _ h) cb_10_183 sm_G_isPoint (dc hd_G_at 2 rfl) rfl rfl ⟨Nat.le_of_ble_eq_true rfl, Nat.le_of_ble_eq_true rfl⟩ ⟨(Nat.le_of_ble_eq_true rfl), (Nat.le_of_ble_eq_true rfl)⟩ (Nat.le_of_ble_eq_true rfl) (fun _ h => by cases h) (fun _ => rfl) (fun r_1 D_3 d_4 q_2 => ?_)
  obtain ⟨q_2a, q_2b, h⟩ := q_2
  subst D_3
  subst d_4
  show AW p l e _ s m args below meth c E M_G_at true _ n _ _ _ [(2, v0), (0, v1), (0, v2)] [(0, r_1)] C
  refine AW.if_ne (t := 14) (dc hd_G_at 3 rfl) (by decide) (fun c_5 => ?_) (fun c_5 => ?_)
  · have h := h.2 c_5
    refine AW.ra_n (dc hd_G_at 8 rfl) rfl rfl rfl ?_
    obtain ⟨g_6, h⟩ := h
    refine AW.callV (As := []) (rest := []) (ci := 10) (m_G_maps l E n C v0 _ h) cb_10_211 im_G_maps se_G_maps ⟨_, _, rfl⟩ (by decide) (dc hd_G_at 9 rfl) g_6 rfl rfl ⟨Nat.le_of_ble_eq_true rfl, Nat.le_of_ble_eq_true rfl⟩ ⟨(Nat.le_of_ble_eq_true rfl), (Nat.le_of_ble_eq_true rfl)⟩ (Nat.le_of_ble_eq_true rfl) (fun _ h => by cases h) (fun _ => rfl) (fun u_9 C_7 d_10 q_8 => ?_)
    obtain ⟨q_8a, h⟩ := q_8
    subst d_10
    show AW p l e _ s m args below meth c E M_G_at true _ n _ _ _ [(2, v0), (0, v1), (0, v2)] [] C_7
    refine AW.ra_n (dc hd_G_at 10 rfl) rfl rfl rfl ?_
    refine AW.iload_n (dc hd_G_at 11 rfl) rfl ?_
    refine AW.iload_n (dc hd_G_at 12 rfl) rfl ?_
    refine AW.callV (As := [(0, v1), (0, v2)]) (rest := []) (ci := 10) (m_G_isIn l E n C_7 v0 v1 v2 _ h) cb_10_281 im_G_isIn se_G_isIn ⟨_, _, rfl⟩ (by decide) (dc hd_G_at 13 rfl) g_6 rfl rfl ⟨Nat.le_of_ble_eq_true rfl, Nat.le_of_ble_eq_true rfl⟩ ⟨(Nat.le_of_ble_eq_true rfl), (Nat.le_of_ble_eq_true rfl)⟩ (Nat.le_of_ble_eq_true rfl) (fun _ h => by cases h) (fun _ => rfl) (fun r_11 C_12 d_14 q_13 => ?_)
    obtain ⟨q_13a, h⟩ := q_13
    subst d_14
    show AW p l e _ s m args below meth c E M_G_at true _ n _ _ _ [(2, v0), (0, v1), (0, v2)] [(0, r_11)] C_12
    exact AW.iret (dc hd_G_at 14 rfl) rfl rfl (Nat.le_of_ble_eq_true rfl) (Nat.le_of_ble_eq_true rfl) ⟨rfl, h⟩
  · have h := h.1 c_5
    refine AW.ra_n (dc hd_G_at 4 rfl) rfl rfl rfl ?_
    refine AW.iconst (dc hd_G_at 5 rfl) (by decide) ?_
    obtain ⟨g_16, h⟩ := h
    refine AW.callV (As := [(0, 0)]) (rest := []) (ci := 10) (m_G_finds l E n C v0 0 _ h) cb_10_186 im_G_finds se_G_finds ⟨_, _, rfl⟩ (by decide) (dc hd_G_at 6 rfl) g_16 rfl rfl ⟨Nat.le_of_ble_eq_true rfl, Nat.le_of_ble_eq_true rfl⟩ ⟨(Nat.le_of_ble_eq_true rfl), (Nat.le_of_ble_eq_true rfl)⟩ (Nat.le_of_ble_eq_true rfl) (fun _ h => by cases h) (fun _ => rfl) (fun r_15 C_17 d_19 q_18 => ?_)
    obtain ⟨q_18a, h⟩ := q_18
    subst d_19
    show AW p l e _ s m args below meth c E M_G_at true _ n _ _ _ [(2, v0), (0, v1), (0, v2)] [(0, r_15)] C_17
    exact AW.iret (dc hd_G_at 7 rfl) rfl rfl (Nat.le_of_ble_eq_true rfl) (Nat.le_of_ble_eq_true rfl) ⟨rfl, h⟩
def J_G_near_100 (n : Nat) (C : Cn) (s0 : Int) (Q : Int → Cn → Prop) : Prop :=
  Q s0 C
theorem aJ_G_near_100 (n : Nat) (C : Cn) (s0 : Int) (Q : Int → Cn → Prop) (h : J_G_near_100 n C s0 Q) : AW p l e R s m args below meth c E M_G_near true (fun r C2 n2 => n2 = n ∧ Q r C2) n 0 0 100 [(9, 0), (9, 0), (9, 0), (9, 0)] [(0, s0)] C := by
  unfold J_G_near_100 at h
  exact AW.iret (dc hd_G_near 52 rfl) rfl rfl (Nat.le_of_ble_eq_true rfl) (Nat.le_of_ble_eq_true rfl) ⟨rfl, h⟩
def P_G_near (n : Nat) (C : Cn) (v0 v1 v2 v3 : Int) (Q : Int → Cn → Prop) : Prop :=
  P_G_isPoint n C v1 v2 (fun (r_1 : Int) => (r_1 = 0 → (okO n v0 10 ∧ (P_G_finds n C v0 0 (fun (r_6 : Int) (C_8 : Cn) => Q r_6 C_8)))) ∧ (¬ r_1 = 0 → (P_G_in n C v3 0 3 (fun (r_11 : Int) => (r_11 = 0 → (okO n v0 10 ∧ (P_G_finds n C v0 0 (fun (r_47 : Int) (C_49 : Cn) => Q r_47 C_49)))) ∧ (¬ r_11 = 0 → (okO n v0 10 ∧ (P_G_maps n C v0 (fun (_ : Int) (C_17 : Cn) => P_G_isFree n C_17 v0 v1 v2 (fun (r_21 : Int) (C_22 : Cn) => (r_21 = 0 → (P_G_finds n C_22 v0 4 (fun (r_43 : Int) (C_44 : Cn) => Q r_43 C_44))) ∧ (¬ r_21 = 0 → ((v3 = 0 → (P_G_floorAt n C_22 v0 (C_22 v0.toNat 23) (C_22 v0.toNat 24) (fun (r_39 : Int) => Q r_39 C_22))) ∧ (¬ v3 = 0 → ((v3 = 1 → (P_G_roofAt n C_22 v0 (C_22 v0.toNat 23) (C_22 v0.toNat 24) (fun (r_35 : Int) => Q r_35 C_22))) ∧ (¬ v3 = 1 → (J_G_near_100 n C_22 (if v3 = 2 then C_22 v0.toNat 23 else C_22 v0.toNat 24) Q)))))))))))))))
theorem m_G_near (l : Launch) (E : Ev) (n : Nat) (C : Cn) (v0 v1 v2 v3 : Int) (Q : Int → Cn → Prop) (h : P_G_near n C v0 v1 v2 v3 Q) : MA l y_G_near M_G_near E true C n [(2, v0), (0, v1), (0, v2), (0, v3)] (fun r C2 n2 => n2 = n ∧ Q r C2) := by
  refine MA.of (by decide) rfl rfl 0 rfl (fun p e s m args below meth c => ?_)
  show AW p l e _ s m args below meth c E M_G_near true _ n 0 0 0 [(2, v0), (0, v1), (0, v2), (0, v3)] [] C
  unfold P_G_near at h
  refine AW.iload_n (dc hd_G_near 0 rfl) rfl ?_
  refine AW.iload_n (dc hd_G_near 1 rfl) rfl ?_
  refine AW.callS (As := [(0, v1), (0, v2)]) (rest := []) (m_G_isPoint l E n C v1 v2 _ h) cb_10_183 sm_G_isPoint (dc hd_G_near 2 rfl) rfl rfl ⟨Nat.le_of_ble_eq_true rfl, Nat.le_of_ble_eq_true rfl⟩ ⟨(Nat.le_of_ble_eq_true rfl), (Nat.le_of_ble_eq_true rfl)⟩ (Nat.le_of_ble_eq_true rfl) (fun _ h => by cases h) (fun _ => rfl) (fun r_1 D_3 d_4 q_2 => ?_)
  obtain ⟨q_2a, q_2b, h⟩ := q_2
  subst D_3
  subst d_4
  show AW p l e _ s m args below meth c E M_G_near true _ n _ _ _ [(2, v0), (0, v1), (0, v2), (0, v3)] [(0, r_1)] C
  refine AW.if_eq (t := 20) (dc hd_G_near 3 rfl) (by decide) (fun c_5 => ?_) (fun c_5 => ?_)
  · have h := h.1 c_5
    refine AW.ra_n (dc hd_G_near 10 rfl) rfl rfl rfl ?_
    refine AW.iconst (dc hd_G_near 11 rfl) (by decide) ?_
    obtain ⟨g_7, h⟩ := h
    refine AW.callV (As := [(0, 0)]) (rest := []) (ci := 10) (m_G_finds l E n C v0 0 _ h) cb_10_186 im_G_finds se_G_finds ⟨_, _, rfl⟩ (by decide) (dc hd_G_near 12 rfl) g_7 rfl rfl ⟨Nat.le_of_ble_eq_true rfl, Nat.le_of_ble_eq_true rfl⟩ ⟨(Nat.le_of_ble_eq_true rfl), (Nat.le_of_ble_eq_true rfl)⟩ (Nat.le_of_ble_eq_true rfl) (fun _ h => by cases h) (fun _ => rfl) (fun r_6 C_8 d_10 q_9 => ?_)
    obtain ⟨q_9a, h⟩ := q_9
    subst d_10
    show AW p l e _ s m args below meth c E M_G_near true _ n _ _ _ [(2, v0), (0, v1), (0, v2), (0, v3)] [(0, r_6)] C_8
    exact AW.iret (dc hd_G_near 13 rfl) rfl rfl (Nat.le_of_ble_eq_true rfl) (Nat.le_of_ble_eq_true rfl) ⟨rfl, h⟩
  · have h := h.2 c_5
    refine AW.iload_n (dc hd_G_near 4 rfl) rfl ?_
    refine AW.i2l (dc hd_G_near 5 rfl) ?_
    refine AW.lconst (v := 0) (dc hd_G_near 6 rfl) (by decide) (by decide +kernel) ?_
    refine AW.ldc2 (v := 3) (dc hd_G_near 7 rfl) ck_10_217 (by decide) rfl ?_
    refine AW.callS (As := [(1, v3), (1, 0), (1, 3)]) (rest := []) (m_G_in l E n C v3 0 3 _ h) cb_10_113 sm_G_in (dc hd_G_near 8 rfl) rfl rfl ⟨Nat.le_of_ble_eq_true rfl, Nat.le_of_ble_eq_true rfl⟩ ⟨(Nat.le_of_ble_eq_true rfl), (Nat.le_of_ble_eq_true rfl)⟩ (Nat.le_of_ble_eq_true rfl) (fun _ h => by cases h) (fun _ => rfl) (fun r_11 D_13 d_14 q_12 => ?_)
    obtain ⟨q_12a, q_12b, h⟩ := q_12
    subst D_13
    subst d_14
    show AW p l e _ s m args below meth c E M_G_near true _ n _ _ _ [(2, v0), (0, v1), (0, v2), (0, v3)] [(0, r_11)] C
    refine AW.if_ne (t := 26) (dc hd_G_near 9 rfl) (by decide) (fun c_15 => ?_) (fun c_15 => ?_)
    · have h := h.2 c_15
      refine AW.ra_n (dc hd_G_near 14 rfl) rfl rfl rfl ?_
      obtain ⟨g_16, h⟩ := h
      refine AW.callV (As := []) (rest := []) (ci := 10) (m_G_maps l E n C v0 _ h) cb_10_211 im_G_maps se_G_maps ⟨_, _, rfl⟩ (by decide) (dc hd_G_near 15 rfl) g_16 rfl rfl ⟨Nat.le_of_ble_eq_true rfl, Nat.le_of_ble_eq_true rfl⟩ ⟨(Nat.le_of_ble_eq_true rfl), (Nat.le_of_ble_eq_true rfl)⟩ (Nat.le_of_ble_eq_true rfl) (fun _ h => by cases h) (fun _ => rfl) (fun u_19 C_17 d_20 q_18 => ?_)
      obtain ⟨q_18a, h⟩ := q_18
      subst d_20
      show AW p l e _ s m args below meth c E M_G_near true _ n _ _ _ [(2, v0), (0, v1), (0, v2), (0, v3)] [] C_17
      refine AW.ra_n (dc hd_G_near 16 rfl) rfl rfl rfl ?_
      refine AW.iload_n (dc hd_G_near 17 rfl) rfl ?_
      refine AW.iload_n (dc hd_G_near 18 rfl) rfl ?_
      refine AW.callV (As := [(0, v1), (0, v2)]) (rest := []) (ci := 10) (m_G_isFree l E n C_17 v0 v1 v2 _ h) cb_10_284 im_G_isFree se_G_isFree ⟨_, _, rfl⟩ (by decide) (dc hd_G_near 19 rfl) g_16 rfl rfl ⟨Nat.le_of_ble_eq_true rfl, Nat.le_of_ble_eq_true rfl⟩ ⟨(Nat.le_of_ble_eq_true rfl), (Nat.le_of_ble_eq_true rfl)⟩ (Nat.le_of_ble_eq_true rfl) (fun _ h => by cases h) (fun _ => rfl) (fun r_21 C_22 d_24 q_23 => ?_)
      obtain ⟨q_23a, h⟩ := q_23
      subst d_24
      show AW p l e _ s m args below meth c E M_G_near true _ n _ _ _ [(2, v0), (0, v1), (0, v2), (0, v3)] [(0, r_21)] C_22
      refine AW.if_ne (t := 45) (dc hd_G_near 20 rfl) (by decide) (fun c_25 => ?_) (fun c_25 => ?_)
      · have h := h.2 c_25
        refine AW.iload_n (dc hd_G_near 25 rfl) rfl ?_
        refine AW.if_ne (t := 64) (dc hd_G_near 26 rfl) (by decide) (fun c_29 => ?_) (fun c_29 => ?_)
        · have h := h.2 c_29
          refine AW.iload_n (dc hd_G_near 34 rfl) rfl ?_
          refine AW.iconst (dc hd_G_near 35 rfl) (by decide) ?_
          refine AW.icmp_ne (t := 84) (dc hd_G_near 36 rfl) (by decide) (fun c_32 => ?_) (fun c_32 => ?_)
          · have h := h.2 c_32
            refine AW.iload_n (dc hd_G_near 44 rfl) rfl ?_
            refine AW.iconst (dc hd_G_near 45 rfl) (by decide) ?_
            refine AW.icmp_ne (t := 96) (dc hd_G_near 46 rfl) (by decide) (fun c_34 => ?_) (fun c_34 => ?_)
            · simp only [if_neg (show ¬ (v3 = 2) from c_34)] at h
              refine AW.ra_n (dc hd_G_near 50 rfl) rfl rfl rfl ?_
              refine AW.getf fl_10_278 (dc hd_G_near 51 rfl) g_16 ?_
              refine AW.fgt [(9, 0), (9, 0), (9, 0), (9, 0)] ⟨.inr rfl, .inr rfl, .inr rfl, .inr rfl, trivial⟩ ?_
              exact aJ_G_near_100 n C_22 _ Q h
            · simp only [if_pos (show v3 = 2 from c_34)] at h
              refine AW.ra_n (dc hd_G_near 47 rfl) rfl rfl rfl ?_
              refine AW.getf fl_10_275 (dc hd_G_near 48 rfl) g_16 ?_
              refine AW.goto (t := 100) (dc hd_G_near 49 rfl) (by decide) ?_
              refine AW.fgt [(9, 0), (9, 0), (9, 0), (9, 0)] ⟨.inr rfl, .inr rfl, .inr rfl, .inr rfl, trivial⟩ ?_
              exact aJ_G_near_100 n C_22 _ Q h
          · have h := h.1 c_32
            refine AW.ra_n (dc hd_G_near 37 rfl) rfl rfl rfl ?_
            refine AW.ra_n (dc hd_G_near 38 rfl) rfl rfl rfl ?_
            refine AW.getf fl_10_275 (dc hd_G_near 39 rfl) g_16 ?_
            refine AW.ra_n (dc hd_G_near 40 rfl) rfl rfl rfl ?_
            refine AW.getf fl_10_278 (dc hd_G_near 41 rfl) g_16 ?_
            refine AW.callV (As := [(0, C_22 v0.toNat 23), (0, C_22 v0.toNat 24)]) (rest := []) (ci := 10) (m_G_roofAt l E n C_22 v0 (C_22 v0.toNat 23) (C_22 v0.toNat 24) _ h) cb_10_236 im_G_roofAt se_G_roofAt ⟨_, _, rfl⟩ (by decide) (dc hd_G_near 42 rfl) g_16 rfl rfl ⟨Nat.le_of_ble_eq_true rfl, Nat.le_of_ble_eq_true rfl⟩ ⟨(Nat.le_of_ble_eq_true rfl), (Nat.le_of_ble_eq_true rfl)⟩ (Nat.le_of_ble_eq_true rfl) (fun _ h => by cases h) (fun _ => rfl) (fun r_35 D_37 d_38 q_36 => ?_)
            obtain ⟨q_36a, q_36b, h⟩ := q_36
            subst D_37
            subst d_38
            show AW p l e _ s m args below meth c E M_G_near true _ n _ _ _ [(2, v0), (0, v1), (0, v2), (0, v3)] [(0, r_35)] C_22
            refine AW.goto (t := 100) (dc hd_G_near 43 rfl) (by decide) ?_
            exact AW.iret (dc hd_G_near 52 rfl) rfl rfl (Nat.le_of_ble_eq_true rfl) (Nat.le_of_ble_eq_true rfl) ⟨rfl, h⟩
        · have h := h.1 c_29
          refine AW.ra_n (dc hd_G_near 27 rfl) rfl rfl rfl ?_
          refine AW.ra_n (dc hd_G_near 28 rfl) rfl rfl rfl ?_
          refine AW.getf fl_10_275 (dc hd_G_near 29 rfl) g_16 ?_
          refine AW.ra_n (dc hd_G_near 30 rfl) rfl rfl rfl ?_
          refine AW.getf fl_10_278 (dc hd_G_near 31 rfl) g_16 ?_
          refine AW.callV (As := [(0, C_22 v0.toNat 23), (0, C_22 v0.toNat 24)]) (rest := []) (ci := 10) (m_G_floorAt l E n C_22 v0 (C_22 v0.toNat 23) (C_22 v0.toNat 24) _ h) cb_10_233 im_G_floorAt se_G_floorAt ⟨_, _, rfl⟩ (by decide) (dc hd_G_near 32 rfl) g_16 rfl rfl ⟨Nat.le_of_ble_eq_true rfl, Nat.le_of_ble_eq_true rfl⟩ ⟨(Nat.le_of_ble_eq_true rfl), (Nat.le_of_ble_eq_true rfl)⟩ (Nat.le_of_ble_eq_true rfl) (fun _ h => by cases h) (fun _ => rfl) (fun r_39 D_41 d_42 q_40 => ?_)
          obtain ⟨q_40a, q_40b, h⟩ := q_40
          subst D_41
          subst d_42
          show AW p l e _ s m args below meth c E M_G_near true _ n _ _ _ [(2, v0), (0, v1), (0, v2), (0, v3)] [(0, r_39)] C_22
          refine AW.goto (t := 100) (dc hd_G_near 33 rfl) (by decide) ?_
          exact AW.iret (dc hd_G_near 52 rfl) rfl rfl (Nat.le_of_ble_eq_true rfl) (Nat.le_of_ble_eq_true rfl) ⟨rfl, h⟩
      · have h := h.1 c_25
        refine AW.ra_n (dc hd_G_near 21 rfl) rfl rfl rfl ?_
        refine AW.iconst (dc hd_G_near 22 rfl) (by decide) ?_
        refine AW.callV (As := [(0, 4)]) (rest := []) (ci := 10) (m_G_finds l E n C_22 v0 4 _ h) cb_10_186 im_G_finds se_G_finds ⟨_, _, rfl⟩ (by decide) (dc hd_G_near 23 rfl) g_16 rfl rfl ⟨Nat.le_of_ble_eq_true rfl, Nat.le_of_ble_eq_true rfl⟩ ⟨(Nat.le_of_ble_eq_true rfl), (Nat.le_of_ble_eq_true rfl)⟩ (Nat.le_of_ble_eq_true rfl) (fun _ h => by cases h) (fun _ => rfl) (fun r_43 C_44 d_46 q_45 => ?_)
        obtain ⟨q_45a, h⟩ := q_45
        subst d_46
        show AW p l e _ s m args below meth c E M_G_near true _ n _ _ _ [(2, v0), (0, v1), (0, v2), (0, v3)] [(0, r_43)] C_44
        exact AW.iret (dc hd_G_near 24 rfl) rfl rfl (Nat.le_of_ble_eq_true rfl) (Nat.le_of_ble_eq_true rfl) ⟨rfl, h⟩
    · have h := h.1 c_15
      refine AW.ra_n (dc hd_G_near 10 rfl) rfl rfl rfl ?_
      refine AW.iconst (dc hd_G_near 11 rfl) (by decide) ?_
      obtain ⟨g_48, h⟩ := h
      refine AW.callV (As := [(0, 0)]) (rest := []) (ci := 10) (m_G_finds l E n C v0 0 _ h) cb_10_186 im_G_finds se_G_finds ⟨_, _, rfl⟩ (by decide) (dc hd_G_near 12 rfl) g_48 rfl rfl ⟨Nat.le_of_ble_eq_true rfl, Nat.le_of_ble_eq_true rfl⟩ ⟨(Nat.le_of_ble_eq_true rfl), (Nat.le_of_ble_eq_true rfl)⟩ (Nat.le_of_ble_eq_true rfl) (fun _ h => by cases h) (fun _ => rfl) (fun r_47 C_49 d_51 q_50 => ?_)
      obtain ⟨q_50a, h⟩ := q_50
      subst d_51
      show AW p l e _ s m args below meth c E M_G_near true _ n _ _ _ [(2, v0), (0, v1), (0, v2), (0, v3)] [(0, r_47)] C_49
      exact AW.iret (dc hd_G_near 13 rfl) rfl rfl (Nat.le_of_ble_eq_true rfl) (Nat.le_of_ble_eq_true rfl) ⟨rfl, h⟩
def J_G_sight_103 (n : Nat) (C : Cn) (v0 v6 s0 s1 : Int) (kz53 : Int × Int → Prop) (Q : Int → Cn → Prop) : Prop :=
  kz53 (w32 (s0 + s1), w32 (v6 + 1))
theorem aJ_G_sight_103 (n : Nat) (C : Cn) (v0 v6 s0 s1 : Int) (kz53 : Int × Int → Prop) (Q : Int → Cn → Prop) (hkz53 : ∀ (z5 : Int) (z6 : Int), kz53 (z5, z6) → AW p l e R s m args below meth c E M_G_sight true (fun r C2 n2 => n2 = n ∧ Q r C2) n 0 0 53 [(2, v0), (9, 0), (9, 0), (9, 0), (9, 0), (0, z5), (0, z6)] [] C) (h : J_G_sight_103 n C v0 v6 s0 s1 kz53 Q) : AW p l e R s m args below meth c E M_G_sight true (fun r C2 n2 => n2 = n ∧ Q r C2) n 0 0 103 [(2, v0), (9, 0), (9, 0), (9, 0), (9, 0), (9, 0), (0, v6)] [(0, s1), (0, s0)] C := by
  unfold J_G_sight_103 at h
  refine AW.iadd (dc hd_G_sight 54 rfl) ?_
  refine AW.istore [(2, v0), (9, 0), (9, 0), (9, 0), (9, 0), (0, w32 (s0 + s1)), (0, v6)] (dc hd_G_sight 55 rfl) (Nat.le_of_ble_eq_true rfl) rfl rfl ?_
  refine AW.iinc [(2, v0), (9, 0), (9, 0), (9, 0), (9, 0), (0, w32 (s0 + s1)), (0, w32 (v6 + 1))] (dc hd_G_sight 56 rfl) rfl (Nat.le_of_ble_eq_true rfl) rfl rfl ?_
  refine AW.goto (t := 53) (dc hd_G_sight 57 rfl) (by decide) ?_
  exact hkz53 (w32 (s0 + s1)) (w32 (v6 + 1)) h
def B_G_sight_53 (n : Nat) (C : Cn) (v0 : Int) (Q : Int → Cn → Prop) (kz53 : Int × Int → Prop) (z : Int × Int) : Prop := match z with
  | (v5, v6) => okO n v0 10 ∧ ((C v0.toNat 0 ≤ v6 → (Q v5 C)) ∧ (¬ C v0.toNat 0 ≤ v6 → (okO n (PT v0.toNat 1) 17 ∧ (okI (PT v0.toNat 1) v6 ∧ (P_G_doCross n C (PT v0.toNat 9) (PT (PT v0.toNat 1).toNat v6.toNat) (fun (r_31 : Int) => (r_31 = 0 → (P_G_hasEndOn n C (PT v0.toNat 9) (PT (PT v0.toNat 1).toNat v6.toNat) (fun (r_36 : Int) => J_G_sight_103 n C v0 v6 v5 (if r_36 = 0 then 0 else 1) kz53 Q))) ∧ (¬ r_31 = 0 → (kz53 (w32 (v5 + 1), w32 (v6 + 1))))))))))
theorem bB_G_sight_53 (n : Nat) (C : Cn) (v0 : Int) (Q : Int → Cn → Prop) (kz53 : Int × Int → Prop) (hkz53 : ∀ (z5 : Int) (z6 : Int), kz53 (z5, z6) → AW p l e R s m args below meth c E M_G_sight true (fun r C2 n2 => n2 = n ∧ Q r C2) n 0 0 53 [(2, v0), (9, 0), (9, 0), (9, 0), (9, 0), (0, z5), (0, z6)] [] C) (v5 : Int) (v6 : Int) (h : B_G_sight_53 n C v0 Q kz53 (v5, v6)) : AW p l e R s m args below meth c E M_G_sight true (fun r C2 n2 => n2 = n ∧ Q r C2) n 0 0 53 [(2, v0), (9, 0), (9, 0), (9, 0), (9, 0), (0, v5), (0, v6)] [] C := by
  unfold B_G_sight_53 at h
  dsimp only at h
  refine AW.iload (dc hd_G_sight 30 rfl) rfl ?_
  refine AW.ra_n (dc hd_G_sight 31 rfl) rfl rfl rfl ?_
  obtain ⟨g_27, h⟩ := h
  refine AW.getf fl_10_117 (dc hd_G_sight 32 rfl) g_27 ?_
  refine AW.icmp_ge (t := 112) (dc hd_G_sight 33 rfl) (by decide) (fun c_28 => ?_) (fun c_28 => ?_)
  · have h := h.1 c_28
    refine AW.iload (dc hd_G_sight 58 rfl) rfl ?_
    exact AW.iret (dc hd_G_sight 59 rfl) rfl rfl (Nat.le_of_ble_eq_true rfl) (Nat.le_of_ble_eq_true rfl) ⟨rfl, h⟩
  · have h := h.2 c_28
    refine AW.iload (dc hd_G_sight 34 rfl) rfl ?_
    refine AW.ra_n (dc hd_G_sight 35 rfl) rfl rfl rfl ?_
    refine AW.getp fl_10_25 (dc hd_G_sight 36 rfl) g_27 rfl ?_
    refine AW.ra_n (dc hd_G_sight 37 rfl) rfl rfl rfl ?_
    refine AW.getp fl_10_11 (dc hd_G_sight 38 rfl) g_27 rfl ?_
    refine AW.iload (dc hd_G_sight 39 rfl) rfl ?_
    obtain ⟨g_29, h⟩ := h
    obtain ⟨g_30, h⟩ := h
    refine AW.aaldp (by decide) (dc hd_G_sight 40 rfl) g_29 g_30 rfl ?_
    refine AW.callS (As := [(2, PT v0.toNat 9), (2, PT (PT v0.toNat 1).toNat v6.toNat)]) (rest := [(0, v5)]) (m_G_doCross l E n C (PT v0.toNat 9) (PT (PT v0.toNat 1).toNat v6.toNat) _ h) cb_10_152 sm_G_doCross (dc hd_G_sight 41 rfl) rfl rfl ⟨Nat.le_of_ble_eq_true rfl, Nat.le_of_ble_eq_true rfl⟩ ⟨(Nat.le_of_ble_eq_true rfl), (Nat.le_of_ble_eq_true rfl)⟩ (Nat.le_of_ble_eq_true rfl) (fun _ h => by cases h) (fun _ => rfl) (fun r_31 D_33 d_34 q_32 => ?_)
    obtain ⟨q_32a, q_32b, h⟩ := q_32
    subst D_33
    subst d_34
    show AW p l e _ s m args below meth c E M_G_sight true _ n _ _ _ [(2, v0), (9, 0), (9, 0), (9, 0), (9, 0), (0, v5), (0, v6)] [(0, r_31), (0, v5)] C
    refine AW.if_ne (t := 98) (dc hd_G_sight 42 rfl) (by decide) (fun c_35 => ?_) (fun c_35 => ?_)
    · have h := h.2 c_35
      refine AW.iconst (dc hd_G_sight 51 rfl) (by decide) ?_
      refine AW.goto (t := 103) (dc hd_G_sight 52 rfl) (by decide) ?_
      refine AW.iadd (dc hd_G_sight 54 rfl) ?_
      refine AW.istore [(2, v0), (9, 0), (9, 0), (9, 0), (9, 0), (0, w32 (v5 + 1)), (0, v6)] (dc hd_G_sight 55 rfl) (Nat.le_of_ble_eq_true rfl) rfl rfl ?_
      refine AW.iinc [(2, v0), (9, 0), (9, 0), (9, 0), (9, 0), (0, w32 (v5 + 1)), (0, w32 (v6 + 1))] (dc hd_G_sight 56 rfl) rfl (Nat.le_of_ble_eq_true rfl) rfl rfl ?_
      refine AW.goto (t := 53) (dc hd_G_sight 57 rfl) (by decide) ?_
      exact hkz53 (w32 (v5 + 1)) (w32 (v6 + 1)) h
    · have h := h.1 c_35
      refine AW.ra_n (dc hd_G_sight 43 rfl) rfl rfl rfl ?_
      refine AW.getp fl_10_25 (dc hd_G_sight 44 rfl) g_27 rfl ?_
      refine AW.ra_n (dc hd_G_sight 45 rfl) rfl rfl rfl ?_
      refine AW.getp fl_10_11 (dc hd_G_sight 46 rfl) g_27 rfl ?_
      refine AW.iload (dc hd_G_sight 47 rfl) rfl ?_
      refine AW.aaldp (by decide) (dc hd_G_sight 48 rfl) g_29 g_30 rfl ?_
      refine AW.callS (As := [(2, PT v0.toNat 9), (2, PT (PT v0.toNat 1).toNat v6.toNat)]) (rest := [(0, v5)]) (m_G_hasEndOn l E n C (PT v0.toNat 9) (PT (PT v0.toNat 1).toNat v6.toNat) _ h) cb_10_170 sm_G_hasEndOn (dc hd_G_sight 49 rfl) rfl rfl ⟨Nat.le_of_ble_eq_true rfl, Nat.le_of_ble_eq_true rfl⟩ ⟨(Nat.le_of_ble_eq_true rfl), (Nat.le_of_ble_eq_true rfl)⟩ (Nat.le_of_ble_eq_true rfl) (fun _ h => by cases h) (fun _ => rfl) (fun r_36 D_38 d_39 q_37 => ?_)
      obtain ⟨q_37a, q_37b, h⟩ := q_37
      subst D_38
      subst d_39
      show AW p l e _ s m args below meth c E M_G_sight true _ n _ _ _ [(2, v0), (9, 0), (9, 0), (9, 0), (9, 0), (0, v5), (0, v6)] [(0, r_36), (0, v5)] C
      refine AW.if_eq (t := 102) (dc hd_G_sight 50 rfl) (by decide) (fun c_40 => ?_) (fun c_40 => ?_)
      · simp only [if_pos (show r_36 = 0 from c_40)] at h
        refine AW.iconst (dc hd_G_sight 53 rfl) (by decide) ?_
        refine AW.fgt [(2, v0), (9, 0), (9, 0), (9, 0), (9, 0), (9, 0), (0, v6)] ⟨.inl rfl, .inl rfl, .inl rfl, .inl rfl, .inl rfl, .inr rfl, .inl rfl, trivial⟩ ?_
        exact aJ_G_sight_103 n C _ _ _ _ kz53 Q hkz53 h
      · simp only [if_neg (show ¬ (r_36 = 0) from c_40)] at h
        refine AW.iconst (dc hd_G_sight 51 rfl) (by decide) ?_
        refine AW.goto (t := 103) (dc hd_G_sight 52 rfl) (by decide) ?_
        refine AW.fgt [(2, v0), (9, 0), (9, 0), (9, 0), (9, 0), (9, 0), (0, v6)] ⟨.inl rfl, .inl rfl, .inl rfl, .inl rfl, .inl rfl, .inr rfl, .inl rfl, trivial⟩ ?_
        exact aJ_G_sight_103 n C _ _ _ _ kz53 Q hkz53 h
theorem aB_G_sight_53 (n : Nat) (C : Cn) (v0 : Int) (Q : Int → Cn → Prop) : ∀ (f : Nat) (z : Int × Int), lp (B_G_sight_53 n C v0 Q) f z → AW p l e R s m args below meth c E M_G_sight true (fun r C2 n2 => n2 = n ∧ Q r C2) n 0 0 53 [(2, v0), (9, 0), (9, 0), (9, 0), (9, 0), (0, z.1), (0, z.2)] [] C := by
  intro f
  induction f with
  | zero => intro z h; exact False.elim h
  | succ f ih => intro z h; exact bB_G_sight_53 n C v0 Q (lp (B_G_sight_53 n C v0 Q) f) (fun a0 a1 h => ih (a0, a1) h) z.1 z.2 h
def J_G_sight_34 (n : Nat) (C : Cn) (v0 v1 v2 v3 v4 : Int) (Q : Int → Cn → Prop) : Prop :=
  okO n v0 10 ∧ (P_G_lays n C (PT v0.toNat 9) 0 v1 v2 v3 v4 (fun (_ : Int) (C_23 : Cn) => ∃ f_41 : Nat, lp (B_G_sight_53 n C_23 v0 Q) f_41 (0, 0)))
theorem aJ_G_sight_34 (n : Nat) (C : Cn) (v0 v1 v2 v3 v4 : Int) (Q : Int → Cn → Prop) (h : J_G_sight_34 n C v0 v1 v2 v3 v4 Q) : AW p l e R s m args below meth c E M_G_sight true (fun r C2 n2 => n2 = n ∧ Q r C2) n 0 0 34 [(2, v0), (0, v1), (0, v2), (0, v3), (0, v4), (9, 0), (9, 0)] [] C := by
  unfold J_G_sight_34 at h
  refine AW.ra_n (dc hd_G_sight 18 rfl) rfl rfl rfl ?_
  obtain ⟨g_22, h⟩ := h
  refine AW.getp fl_10_25 (dc hd_G_sight 19 rfl) g_22 rfl ?_
  refine AW.iconst (dc hd_G_sight 20 rfl) (by decide) ?_
  refine AW.iload_n (dc hd_G_sight 21 rfl) rfl ?_
  refine AW.iload_n (dc hd_G_sight 22 rfl) rfl ?_
  refine AW.iload_n (dc hd_G_sight 23 rfl) rfl ?_
  refine AW.iload (dc hd_G_sight 24 rfl) rfl ?_
  refine AW.callS (As := [(2, PT v0.toNat 9), (0, 0), (0, v1), (0, v2), (0, v3), (0, v4)]) (rest := []) (m_G_lays l E n C (PT v0.toNat 9) 0 v1 v2 v3 v4 _ h) cb_10_190 sm_G_lays (dc hd_G_sight 25 rfl) rfl rfl ⟨Nat.le_of_ble_eq_true rfl, Nat.le_of_ble_eq_true rfl⟩ ⟨(Nat.le_of_ble_eq_true rfl), (Nat.le_of_ble_eq_true rfl)⟩ (Nat.le_of_ble_eq_true rfl) (fun _ h => by cases h) (fun _ => rfl) (fun u_25 C_23 d_26 q_24 => ?_)
  obtain ⟨q_24a, h⟩ := q_24
  subst d_26
  show AW p l e _ s m args below meth c E M_G_sight true _ n _ _ _ [(2, v0), (0, v1), (0, v2), (0, v3), (0, v4), (9, 0), (9, 0)] [] C_23
  refine AW.iconst (dc hd_G_sight 26 rfl) (by decide) ?_
  refine AW.istore [(2, v0), (0, v1), (0, v2), (0, v3), (0, v4), (0, 0), (9, 0)] (dc hd_G_sight 27 rfl) (Nat.le_of_ble_eq_true rfl) rfl rfl ?_
  refine AW.iconst (dc hd_G_sight 28 rfl) (by decide) ?_
  refine AW.istore [(2, v0), (0, v1), (0, v2), (0, v3), (0, v4), (0, 0), (0, 0)] (dc hd_G_sight 29 rfl) (Nat.le_of_ble_eq_true rfl) rfl rfl ?_
  obtain ⟨f_41, h⟩ := h
  refine AW.fgt [(2, v0), (9, 0), (9, 0), (9, 0), (9, 0), (0, 0), (0, 0)] ⟨.inl rfl, .inr rfl, .inr rfl, .inr rfl, .inr rfl, .inl rfl, .inl rfl, trivial⟩ ?_
  exact aB_G_sight_53 n C_23 v0 Q f_41 (0, 0) h
def P_G_sight (n : Nat) (C : Cn) (v0 v1 v2 v3 v4 : Int) (Q : Int → Cn → Prop) : Prop :=
  P_G_isPoint n C v1 v2 (fun (r_1 : Int) => (r_1 = 0 → (okO n v0 10 ∧ (P_G_finds n C v0 0 (fun (r_6 : Int) (C_8 : Cn) => Q r_6 C_8)))) ∧ (¬ r_1 = 0 → (P_G_isPoint n C v3 v4 (fun (r_11 : Int) => (r_11 = 0 → (okO n v0 10 ∧ (P_G_finds n C v0 0 (fun (r_16 : Int) (C_18 : Cn) => Q r_16 C_18)))) ∧ (¬ r_11 = 0 → ((v1 = v3 → ((v2 = v4 → (okO n v0 10 ∧ (P_G_finds n C v0 0 (fun (r_43 : Int) (C_45 : Cn) => Q r_43 C_45)))) ∧ (¬ v2 = v4 → (J_G_sight_34 n C v0 v1 v2 v3 v4 Q)))) ∧ (¬ v1 = v3 → (J_G_sight_34 n C v0 v1 v2 v3 v4 Q))))))))
theorem m_G_sight (l : Launch) (E : Ev) (n : Nat) (C : Cn) (v0 v1 v2 v3 v4 : Int) (Q : Int → Cn → Prop) (h : P_G_sight n C v0 v1 v2 v3 v4 Q) : MA l y_G_sight M_G_sight E true C n [(2, v0), (0, v1), (0, v2), (0, v3), (0, v4)] (fun r C2 n2 => n2 = n ∧ Q r C2) := by
  refine MA.of (by decide) rfl rfl 2 rfl (fun p e s m args below meth c => ?_)
  show AW p l e _ s m args below meth c E M_G_sight true _ n 0 0 0 [(2, v0), (0, v1), (0, v2), (0, v3), (0, v4), (9, 0), (9, 0)] [] C
  unfold P_G_sight at h
  refine AW.iload_n (dc hd_G_sight 0 rfl) rfl ?_
  refine AW.iload_n (dc hd_G_sight 1 rfl) rfl ?_
  refine AW.callS (As := [(0, v1), (0, v2)]) (rest := []) (m_G_isPoint l E n C v1 v2 _ h) cb_10_183 sm_G_isPoint (dc hd_G_sight 2 rfl) rfl rfl ⟨Nat.le_of_ble_eq_true rfl, Nat.le_of_ble_eq_true rfl⟩ ⟨(Nat.le_of_ble_eq_true rfl), (Nat.le_of_ble_eq_true rfl)⟩ (Nat.le_of_ble_eq_true rfl) (fun _ h => by cases h) (fun _ => rfl) (fun r_1 D_3 d_4 q_2 => ?_)
  obtain ⟨q_2a, q_2b, h⟩ := q_2
  subst D_3
  subst d_4
  show AW p l e _ s m args below meth c E M_G_sight true _ n _ _ _ [(2, v0), (0, v1), (0, v2), (0, v3), (0, v4), (9, 0), (9, 0)] [(0, r_1)] C
  refine AW.if_eq (t := 28) (dc hd_G_sight 3 rfl) (by decide) (fun c_5 => ?_) (fun c_5 => ?_)
  · have h := h.1 c_5
    refine AW.ra_n (dc hd_G_sight 14 rfl) rfl rfl rfl ?_
    refine AW.iconst (dc hd_G_sight 15 rfl) (by decide) ?_
    obtain ⟨g_7, h⟩ := h
    refine AW.callV (As := [(0, 0)]) (rest := []) (ci := 10) (m_G_finds l E n C v0 0 _ h) cb_10_186 im_G_finds se_G_finds ⟨_, _, rfl⟩ (by decide) (dc hd_G_sight 16 rfl) g_7 rfl rfl ⟨Nat.le_of_ble_eq_true rfl, Nat.le_of_ble_eq_true rfl⟩ ⟨(Nat.le_of_ble_eq_true rfl), (Nat.le_of_ble_eq_true rfl)⟩ (Nat.le_of_ble_eq_true rfl) (fun _ h => by cases h) (fun _ => rfl) (fun r_6 C_8 d_10 q_9 => ?_)
    obtain ⟨q_9a, h⟩ := q_9
    subst d_10
    show AW p l e _ s m args below meth c E M_G_sight true _ n _ _ _ [(2, v0), (0, v1), (0, v2), (0, v3), (0, v4), (9, 0), (9, 0)] [(0, r_6)] C_8
    exact AW.iret (dc hd_G_sight 17 rfl) rfl rfl (Nat.le_of_ble_eq_true rfl) (Nat.le_of_ble_eq_true rfl) ⟨rfl, h⟩
  · have h := h.2 c_5
    refine AW.iload_n (dc hd_G_sight 4 rfl) rfl ?_
    refine AW.iload (dc hd_G_sight 5 rfl) rfl ?_
    refine AW.callS (As := [(0, v3), (0, v4)]) (rest := []) (m_G_isPoint l E n C v3 v4 _ h) cb_10_183 sm_G_isPoint (dc hd_G_sight 6 rfl) rfl rfl ⟨Nat.le_of_ble_eq_true rfl, Nat.le_of_ble_eq_true rfl⟩ ⟨(Nat.le_of_ble_eq_true rfl), (Nat.le_of_ble_eq_true rfl)⟩ (Nat.le_of_ble_eq_true rfl) (fun _ h => by cases h) (fun _ => rfl) (fun r_11 D_13 d_14 q_12 => ?_)
    obtain ⟨q_12a, q_12b, h⟩ := q_12
    subst D_13
    subst d_14
    show AW p l e _ s m args below meth c E M_G_sight true _ n _ _ _ [(2, v0), (0, v1), (0, v2), (0, v3), (0, v4), (9, 0), (9, 0)] [(0, r_11)] C
    refine AW.if_eq (t := 28) (dc hd_G_sight 7 rfl) (by decide) (fun c_15 => ?_) (fun c_15 => ?_)
    · have h := h.1 c_15
      refine AW.ra_n (dc hd_G_sight 14 rfl) rfl rfl rfl ?_
      refine AW.iconst (dc hd_G_sight 15 rfl) (by decide) ?_
      obtain ⟨g_17, h⟩ := h
      refine AW.callV (As := [(0, 0)]) (rest := []) (ci := 10) (m_G_finds l E n C v0 0 _ h) cb_10_186 im_G_finds se_G_finds ⟨_, _, rfl⟩ (by decide) (dc hd_G_sight 16 rfl) g_17 rfl rfl ⟨Nat.le_of_ble_eq_true rfl, Nat.le_of_ble_eq_true rfl⟩ ⟨(Nat.le_of_ble_eq_true rfl), (Nat.le_of_ble_eq_true rfl)⟩ (Nat.le_of_ble_eq_true rfl) (fun _ h => by cases h) (fun _ => rfl) (fun r_16 C_18 d_20 q_19 => ?_)
      obtain ⟨q_19a, h⟩ := q_19
      subst d_20
      show AW p l e _ s m args below meth c E M_G_sight true _ n _ _ _ [(2, v0), (0, v1), (0, v2), (0, v3), (0, v4), (9, 0), (9, 0)] [(0, r_16)] C_18
      exact AW.iret (dc hd_G_sight 17 rfl) rfl rfl (Nat.le_of_ble_eq_true rfl) (Nat.le_of_ble_eq_true rfl) ⟨rfl, h⟩
    · have h := h.2 c_15
      refine AW.iload_n (dc hd_G_sight 8 rfl) rfl ?_
      refine AW.iload_n (dc hd_G_sight 9 rfl) rfl ?_
      refine AW.icmp_ne (t := 34) (dc hd_G_sight 10 rfl) (by decide) (fun c_21 => ?_) (fun c_21 => ?_)
      · have h := h.2 c_21
        exact aJ_G_sight_34 n C v0 v1 v2 v3 v4 Q h
      · have h := h.1 c_21
        refine AW.iload_n (dc hd_G_sight 11 rfl) rfl ?_
        refine AW.iload (dc hd_G_sight 12 rfl) rfl ?_
        refine AW.icmp_ne (t := 34) (dc hd_G_sight 13 rfl) (by decide) (fun c_42 => ?_) (fun c_42 => ?_)
        · have h := h.2 c_42
          exact aJ_G_sight_34 n C v0 v1 v2 v3 v4 Q h
        · have h := h.1 c_42
          refine AW.ra_n (dc hd_G_sight 14 rfl) rfl rfl rfl ?_
          refine AW.iconst (dc hd_G_sight 15 rfl) (by decide) ?_
          obtain ⟨g_44, h⟩ := h
          refine AW.callV (As := [(0, 0)]) (rest := []) (ci := 10) (m_G_finds l E n C v0 0 _ h) cb_10_186 im_G_finds se_G_finds ⟨_, _, rfl⟩ (by decide) (dc hd_G_sight 16 rfl) g_44 rfl rfl ⟨Nat.le_of_ble_eq_true rfl, Nat.le_of_ble_eq_true rfl⟩ ⟨(Nat.le_of_ble_eq_true rfl), (Nat.le_of_ble_eq_true rfl)⟩ (Nat.le_of_ble_eq_true rfl) (fun _ h => by cases h) (fun _ => rfl) (fun r_43 C_45 d_47 q_46 => ?_)
          obtain ⟨q_46a, h⟩ := q_46
          subst d_47
          show AW p l e _ s m args below meth c E M_G_sight true _ n _ _ _ [(2, v0), (0, v1), (0, v2), (0, v3), (0, v4), (9, 0), (9, 0)] [(0, r_43)] C_45
          exact AW.iret (dc hd_G_sight 17 rfl) rfl rfl (Nat.le_of_ble_eq_true rfl) (Nat.le_of_ble_eq_true rfl) ⟨rfl, h⟩
def J_G_has_14 (n : Nat) (C : Cn) (s0 : Int) (Q : Int → Prop) : Prop :=
  (s0 = 0 ∨ s0 = 1) ∧ (Q s0)
theorem aJ_G_has_14 (n : Nat) (C : Cn) (s0 : Int) (Q : Int → Prop) (h : J_G_has_14 n C s0 Q) : AW p l e R s m args below meth c E M_G_has true (fun r C2 n2 => C2 = C ∧ n2 = n ∧ Q r) n 0 0 14 [(9, 0), (9, 0)] [(0, s0)] C := by
  unfold J_G_has_14 at h
  obtain ⟨g_2, h⟩ := h
  exact AW.zret (dc hd_G_has 10 rfl) rfl rfl (Nat.le_of_ble_eq_true rfl) (Nat.le_of_ble_eq_true rfl) g_2 ⟨rfl, rfl, h⟩
def P_G_has (n : Nat) (C : Cn) (v0 v1 : Int) (Q : Int → Prop) : Prop :=
  J_G_has_14 n C (if and32 (shr32 v0 v1) 1 = 1 then 1 else 0) Q
theorem m_G_has (l : Launch) (E : Ev) (n : Nat) (C : Cn) (v0 v1 : Int) (Q : Int → Prop) (h : P_G_has n C v0 v1 Q) : MA l y_G_has M_G_has E true C n [(0, v0), (0, v1)] (fun r C2 n2 => C2 = C ∧ n2 = n ∧ Q r) := by
  refine MA.of (by decide) rfl rfl 0 rfl (fun p e s m args below meth c => ?_)
  show AW p l e _ s m args below meth c E M_G_has true _ n 0 0 0 [(0, v0), (0, v1)] [] C
  unfold P_G_has at h
  refine AW.iload_n (dc hd_G_has 0 rfl) rfl ?_
  refine AW.iload_n (dc hd_G_has 1 rfl) rfl ?_
  refine AW.ishr (dc hd_G_has 2 rfl) ?_
  refine AW.iconst (dc hd_G_has 3 rfl) (by decide) ?_
  refine AW.iand (dc hd_G_has 4 rfl) ?_
  refine AW.iconst (dc hd_G_has 5 rfl) (by decide) ?_
  refine AW.icmp_ne (t := 13) (dc hd_G_has 6 rfl) (by decide) (fun c_1 => ?_) (fun c_1 => ?_)
  · simp only [if_neg (show ¬ (and32 (shr32 v0 v1) 1 = 1) from c_1)] at h
    refine AW.iconst (dc hd_G_has 9 rfl) (by decide) ?_
    refine AW.fgt [(9, 0), (9, 0)] ⟨.inr rfl, .inr rfl, trivial⟩ ?_
    exact aJ_G_has_14 n C _ Q h
  · simp only [if_pos (show and32 (shr32 v0 v1) 1 = 1 from c_1)] at h
    refine AW.iconst (dc hd_G_has 7 rfl) (by decide) ?_
    refine AW.goto (t := 14) (dc hd_G_has 8 rfl) (by decide) ?_
    refine AW.fgt [(9, 0), (9, 0)] ⟨.inr rfl, .inr rfl, trivial⟩ ?_
    exact aJ_G_has_14 n C _ Q h
def B_G_bounds_64 (n : Nat) (v0 v1 v2 v3 : Int) (Q : Int → Cn → Prop) (kz64 : Cn × Int → Prop) (z : Cn × Int) : Prop := match z with
  | (C, v4) => (v4 < v2 → (Q 0 C)) ∧ (¬ v4 < v2 → (okO n v0 10 ∧ (okO n (PT v0.toNat 16) 17 ∧ (okI (PT v0.toNat 16) v1 ∧ (okO n (PT (PT v0.toNat 16).toNat v1.toNat) 12 ∧ (okI (PT (PT v0.toNat 16).toNat v1.toNat) v4 ∧ (P_G_has n C v3 (C (PT (PT v0.toNat 16).toNat v1.toNat).toNat v4.toNat) (fun (r_15 : Int) => (r_15 = 0 → (kz64 (C, w32 (v4 + (-1))))) ∧ (¬ r_15 = 0 → (∀ C_20 : Cn, C_20 = wr C v0.toNat 26 (C (PT (PT v0.toNat 16).toNat v1.toNat).toNat v4.toNat) → (kz64 (C_20, w32 (v4 + (-1))))))))))))))
theorem bB_G_bounds_64 (n : Nat) (v0 v1 v2 v3 : Int) (Q : Int → Cn → Prop) (kz64 : Cn × Int → Prop) (hkz64 : ∀ (Cz : Cn) (z4 : Int), kz64 (Cz, z4) → AW p l e R s m args below meth c E M_G_bounds true (fun r C2 n2 => n2 = n ∧ Q r C2) n 0 0 64 [(2, v0), (0, v1), (0, v2), (0, v3), (0, z4)] [] Cz) (C : Cn) (v4 : Int) (h : B_G_bounds_64 n v0 v1 v2 v3 Q kz64 (C, v4)) : AW p l e R s m args below meth c E M_G_bounds true (fun r C2 n2 => n2 = n ∧ Q r C2) n 0 0 64 [(2, v0), (0, v1), (0, v2), (0, v3), (0, v4)] [] C := by
  unfold B_G_bounds_64 at h
  dsimp only at h
  refine AW.iload (dc hd_G_bounds 37 rfl) rfl ?_
  refine AW.iload_n (dc hd_G_bounds 38 rfl) rfl ?_
  refine AW.icmp_lt (t := 105) (dc hd_G_bounds 39 rfl) (by decide) (fun c_9 => ?_) (fun c_9 => ?_)
  · have h := h.1 c_9
    exact AW.vret (dc hd_G_bounds 59 rfl) rfl rfl (Nat.le_of_ble_eq_true rfl) (Nat.le_of_ble_eq_true rfl) ⟨rfl, h⟩
  · have h := h.2 c_9
    refine AW.iload_n (dc hd_G_bounds 40 rfl) rfl ?_
    refine AW.ra_n (dc hd_G_bounds 41 rfl) rfl rfl rfl ?_
    obtain ⟨g_10, h⟩ := h
    refine AW.getp fl_10_43 (dc hd_G_bounds 42 rfl) g_10 rfl ?_
    refine AW.iload_n (dc hd_G_bounds 43 rfl) rfl ?_
    obtain ⟨g_11, h⟩ := h
    obtain ⟨g_12, h⟩ := h
    refine AW.aaldp (by decide) (dc hd_G_bounds 44 rfl) g_11 g_12 rfl ?_
    refine AW.iload (dc hd_G_bounds 45 rfl) rfl ?_
    obtain ⟨g_13, h⟩ := h
    obtain ⟨g_14, h⟩ := h
    refine AW.iald (dc hd_G_bounds 46 rfl) g_13 g_14 ?_
    refine AW.callS (As := [(0, v3), (0, C (PT (PT v0.toNat 16).toNat v1.toNat).toNat v4.toNat)]) (rest := []) (m_G_has l E n C v3 (C (PT (PT v0.toNat 16).toNat v1.toNat).toNat v4.toNat) _ h) cb_10_293 sm_G_has (dc hd_G_bounds 47 rfl) rfl rfl ⟨Nat.le_of_ble_eq_true rfl, Nat.le_of_ble_eq_true rfl⟩ ⟨(Nat.le_of_ble_eq_true rfl), (Nat.le_of_ble_eq_true rfl)⟩ (Nat.le_of_ble_eq_true rfl) (fun _ h => by cases h) (fun _ => rfl) (fun r_15 D_17 d_18 q_16 => ?_)
    obtain ⟨q_16a, q_16b, h⟩ := q_16
    subst D_17
    subst d_18
    show AW p l e _ s m args below meth c E M_G_bounds true _ n _ _ _ [(2, v0), (0, v1), (0, v2), (0, v3), (0, v4)] [(0, r_15)] C
    refine AW.if_eq (t := 99) (dc hd_G_bounds 48 rfl) (by decide) (fun c_19 => ?_) (fun c_19 => ?_)
    · have h := h.1 c_19
      refine AW.iinc [(2, v0), (0, v1), (0, v2), (0, v3), (0, w32 (v4 + (-1)))] (dc hd_G_bounds 57 rfl) rfl (Nat.le_of_ble_eq_true rfl) rfl rfl ?_
      refine AW.goto (t := 64) (dc hd_G_bounds 58 rfl) (by decide) ?_
      exact hkz64 C (w32 (v4 + (-1))) h
    · have h := h.2 c_19
      refine AW.ra_n (dc hd_G_bounds 49 rfl) rfl rfl rfl ?_
      refine AW.ra_n (dc hd_G_bounds 50 rfl) rfl rfl rfl ?_
      refine AW.getp fl_10_43 (dc hd_G_bounds 51 rfl) g_10 rfl ?_
      refine AW.iload_n (dc hd_G_bounds 52 rfl) rfl ?_
      refine AW.aaldp (by decide) (dc hd_G_bounds 53 rfl) g_11 g_12 rfl ?_
      refine AW.iload (dc hd_G_bounds 54 rfl) rfl ?_
      refine AW.iald (dc hd_G_bounds 55 rfl) g_13 g_14 ?_
      refine AW.nputI fl_10_290 (dc hd_G_bounds 56 rfl) g_10 (fun C_20 eC_20 => ?_)
      have h := h C_20 eC_20
      refine AW.iinc [(2, v0), (0, v1), (0, v2), (0, v3), (0, w32 (v4 + (-1)))] (dc hd_G_bounds 57 rfl) rfl (Nat.le_of_ble_eq_true rfl) rfl rfl ?_
      refine AW.goto (t := 64) (dc hd_G_bounds 58 rfl) (by decide) ?_
      exact hkz64 C_20 (w32 (v4 + (-1))) h
theorem aB_G_bounds_64 (n : Nat) (v0 v1 v2 v3 : Int) (Q : Int → Cn → Prop) : ∀ (f : Nat) (z : Cn × Int), lp (B_G_bounds_64 n v0 v1 v2 v3 Q) f z → AW p l e R s m args below meth c E M_G_bounds true (fun r C2 n2 => n2 = n ∧ Q r C2) n 0 0 64 [(2, v0), (0, v1), (0, v2), (0, v3), (0, z.2)] [] (z.1) := by
  intro f
  induction f with
  | zero => intro z h; exact False.elim h
  | succ f ih => intro z h; exact bB_G_bounds_64 n v0 v1 v2 v3 Q (lp (B_G_bounds_64 n v0 v1 v2 v3 Q) f) (fun a0 a1 h => ih (a0, a1) h) z.1 z.2 h
def B_G_bounds_13 (n : Nat) (v0 v1 v2 v3 : Int) (Q : Int → Cn → Prop) (kz13 : Cn × Int → Prop) (z : Cn × Int) : Prop := match z with
  | (C, v4) => (v2 ≤ v4 → (okO n v0 10 ∧ (okO n (PT v0.toNat 15) 12 ∧ (okI (PT v0.toNat 15) v1 ∧ (∀ v4_8 : Int, v4_8 = w32 (C (PT v0.toNat 15).toNat v1.toNat - 1) → (∃ f_21 : Nat, lp (B_G_bounds_64 n v0 v1 v2 v3 Q) f_21 (C, v4_8))))))) ∧ (¬ v2 ≤ v4 → (okO n v0 10 ∧ (okO n (PT v0.toNat 16) 17 ∧ (okI (PT v0.toNat 16) v1 ∧ (okO n (PT (PT v0.toNat 16).toNat v1.toNat) 12 ∧ (okI (PT (PT v0.toNat 16).toNat v1.toNat) v4 ∧ (P_G_has n C v3 (C (PT (PT v0.toNat 16).toNat v1.toNat).toNat v4.toNat) (fun (r_27 : Int) => (r_27 = 0 → (kz13 (C, w32 (v4 + 1)))) ∧ (¬ r_27 = 0 → (∀ C_32 : Cn, C_32 = wr C v0.toNat 25 (C (PT (PT v0.toNat 16).toNat v1.toNat).toNat v4.toNat) → (kz13 (C_32, w32 (v4 + 1)))))))))))))
theorem bB_G_bounds_13 (n : Nat) (v0 v1 v2 v3 : Int) (Q : Int → Cn → Prop) (kz13 : Cn × Int → Prop) (hkz13 : ∀ (Cz : Cn) (z4 : Int), kz13 (Cz, z4) → AW p l e R s m args below meth c E M_G_bounds true (fun r C2 n2 => n2 = n ∧ Q r C2) n 0 0 13 [(2, v0), (0, v1), (0, v2), (0, v3), (0, z4)] [] Cz) (C : Cn) (v4 : Int) (h : B_G_bounds_13 n v0 v1 v2 v3 Q kz13 (C, v4)) : AW p l e R s m args below meth c E M_G_bounds true (fun r C2 n2 => n2 = n ∧ Q r C2) n 0 0 13 [(2, v0), (0, v1), (0, v2), (0, v3), (0, v4)] [] C := by
  unfold B_G_bounds_13 at h
  dsimp only at h
  refine AW.iload (dc hd_G_bounds 8 rfl) rfl ?_
  refine AW.iload_n (dc hd_G_bounds 9 rfl) rfl ?_
  refine AW.icmp_ge (t := 54) (dc hd_G_bounds 10 rfl) (by decide) (fun c_4 => ?_) (fun c_4 => ?_)
  · have h := h.1 c_4
    refine AW.ra_n (dc hd_G_bounds 30 rfl) rfl rfl rfl ?_
    obtain ⟨g_5, h⟩ := h
    refine AW.getp fl_10_40 (dc hd_G_bounds 31 rfl) g_5 rfl ?_
    refine AW.iload_n (dc hd_G_bounds 32 rfl) rfl ?_
    obtain ⟨g_6, h⟩ := h
    obtain ⟨g_7, h⟩ := h
    refine AW.iald (dc hd_G_bounds 33 rfl) g_6 g_7 ?_
    refine AW.iconst (dc hd_G_bounds 34 rfl) (by decide) ?_
    refine AW.isub (dc hd_G_bounds 35 rfl) ?_
    refine AW.nm (fun v4_8 ev4_8 => ?_)
    have h := h v4_8 ev4_8
    refine AW.istore [(2, v0), (0, v1), (0, v2), (0, v3), (0, v4_8)] (dc hd_G_bounds 36 rfl) (Nat.le_of_ble_eq_true rfl) rfl rfl ?_
    obtain ⟨f_21, h⟩ := h
    exact aB_G_bounds_64 n v0 v1 v2 v3 Q f_21 (C, v4_8) h
  · have h := h.2 c_4
    refine AW.iload_n (dc hd_G_bounds 11 rfl) rfl ?_
    refine AW.ra_n (dc hd_G_bounds 12 rfl) rfl rfl rfl ?_
    obtain ⟨g_22, h⟩ := h
    refine AW.getp fl_10_43 (dc hd_G_bounds 13 rfl) g_22 rfl ?_
    refine AW.iload_n (dc hd_G_bounds 14 rfl) rfl ?_
    obtain ⟨g_23, h⟩ := h
    obtain ⟨g_24, h⟩ := h
    refine AW.aaldp (by decide) (dc hd_G_bounds 15 rfl) g_23 g_24 rfl ?_
    refine AW.iload (dc hd_G_bounds 16 rfl) rfl ?_
    obtain ⟨g_25, h⟩ := h
    obtain ⟨g_26, h⟩ := h
    refine AW.iald (dc hd_G_bounds 17 rfl) g_25 g_26 ?_
    refine AW.callS (As := [(0, v3), (0, C (PT (PT v0.toNat 16).toNat v1.toNat).toNat v4.toNat)]) (rest := []) (m_G_has l E n C v3 (C (PT (PT v0.toNat 16).toNat v1.toNat).toNat v4.toNat) _ h) cb_10_293 sm_G_has (dc hd_G_bounds 18 rfl) rfl rfl ⟨Nat.le_of_ble_eq_true rfl, Nat.le_of_ble_eq_true rfl⟩ ⟨(Nat.le_of_ble_eq_true rfl), (Nat.le_of_ble_eq_true rfl)⟩ (Nat.le_of_ble_eq_true rfl) (fun _ h => by cases h) (fun _ => rfl) (fun r_27 D_29 d_30 q_28 => ?_)
    obtain ⟨q_28a, q_28b, h⟩ := q_28
    subst D_29
    subst d_30
    show AW p l e _ s m args below meth c E M_G_bounds true _ n _ _ _ [(2, v0), (0, v1), (0, v2), (0, v3), (0, v4)] [(0, r_27)] C
    refine AW.if_eq (t := 48) (dc hd_G_bounds 19 rfl) (by decide) (fun c_31 => ?_) (fun c_31 => ?_)
    · have h := h.1 c_31
      refine AW.iinc [(2, v0), (0, v1), (0, v2), (0, v3), (0, w32 (v4 + 1))] (dc hd_G_bounds 28 rfl) rfl (Nat.le_of_ble_eq_true rfl) rfl rfl ?_
      refine AW.goto (t := 13) (dc hd_G_bounds 29 rfl) (by decide) ?_
      exact hkz13 C (w32 (v4 + 1)) h
    · have h := h.2 c_31
      refine AW.ra_n (dc hd_G_bounds 20 rfl) rfl rfl rfl ?_
      refine AW.ra_n (dc hd_G_bounds 21 rfl) rfl rfl rfl ?_
      refine AW.getp fl_10_43 (dc hd_G_bounds 22 rfl) g_22 rfl ?_
      refine AW.iload_n (dc hd_G_bounds 23 rfl) rfl ?_
      refine AW.aaldp (by decide) (dc hd_G_bounds 24 rfl) g_23 g_24 rfl ?_
      refine AW.iload (dc hd_G_bounds 25 rfl) rfl ?_
      refine AW.iald (dc hd_G_bounds 26 rfl) g_25 g_26 ?_
      refine AW.nputI fl_10_287 (dc hd_G_bounds 27 rfl) g_22 (fun C_32 eC_32 => ?_)
      have h := h C_32 eC_32
      refine AW.iinc [(2, v0), (0, v1), (0, v2), (0, v3), (0, w32 (v4 + 1))] (dc hd_G_bounds 28 rfl) rfl (Nat.le_of_ble_eq_true rfl) rfl rfl ?_
      refine AW.goto (t := 13) (dc hd_G_bounds 29 rfl) (by decide) ?_
      exact hkz13 C_32 (w32 (v4 + 1)) h
theorem aB_G_bounds_13 (n : Nat) (v0 v1 v2 v3 : Int) (Q : Int → Cn → Prop) : ∀ (f : Nat) (z : Cn × Int), lp (B_G_bounds_13 n v0 v1 v2 v3 Q) f z → AW p l e R s m args below meth c E M_G_bounds true (fun r C2 n2 => n2 = n ∧ Q r C2) n 0 0 13 [(2, v0), (0, v1), (0, v2), (0, v3), (0, z.2)] [] (z.1) := by
  intro f
  induction f with
  | zero => intro z h; exact False.elim h
  | succ f ih => intro z h; exact bB_G_bounds_13 n v0 v1 v2 v3 Q (lp (B_G_bounds_13 n v0 v1 v2 v3 Q) f) (fun a0 a1 h => ih (a0, a1) h) z.1 z.2 h
def P_G_bounds (n : Nat) (C : Cn) (v0 v1 v2 v3 : Int) (Q : Int → Cn → Prop) : Prop :=
  okO n v0 10 ∧ (∀ C_2 : Cn, C_2 = wr C v0.toNat 25 (-1) → (∀ C_3 : Cn, C_3 = wr C_2 v0.toNat 26 (-1) → (∃ f_33 : Nat, lp (B_G_bounds_13 n v0 v1 v2 v3 Q) f_33 (C_3, 0))))
theorem m_G_bounds (l : Launch) (E : Ev) (n : Nat) (C : Cn) (v0 v1 v2 v3 : Int) (Q : Int → Cn → Prop) (h : P_G_bounds n C v0 v1 v2 v3 Q) : MA l y_G_bounds M_G_bounds E true C n [(2, v0), (0, v1), (0, v2), (0, v3)] (fun r C2 n2 => n2 = n ∧ Q r C2) := by
  refine MA.of (by decide) rfl rfl 1 rfl (fun p e s m args below meth c => ?_)
  show AW p l e _ s m args below meth c E M_G_bounds true _ n 0 0 0 [(2, v0), (0, v1), (0, v2), (0, v3), (9, 0)] [] C
  unfold P_G_bounds at h
  refine AW.ra_n (dc hd_G_bounds 0 rfl) rfl rfl rfl ?_
  refine AW.iconst (dc hd_G_bounds 1 rfl) (by decide) ?_
  obtain ⟨g_1, h⟩ := h
  refine AW.nputI fl_10_287 (dc hd_G_bounds 2 rfl) g_1 (fun C_2 eC_2 => ?_)
  have h := h C_2 eC_2
  refine AW.ra_n (dc hd_G_bounds 3 rfl) rfl rfl rfl ?_
  refine AW.iconst (dc hd_G_bounds 4 rfl) (by decide) ?_
  refine AW.nputI fl_10_290 (dc hd_G_bounds 5 rfl) g_1 (fun C_3 eC_3 => ?_)
  have h := h C_3 eC_3
  refine AW.iconst (dc hd_G_bounds 6 rfl) (by decide) ?_
  refine AW.istore [(2, v0), (0, v1), (0, v2), (0, v3), (0, 0)] (dc hd_G_bounds 7 rfl) (Nat.le_of_ble_eq_true rfl) rfl rfl ?_
  obtain ⟨f_33, h⟩ := h
  exact aB_G_bounds_13 n v0 v1 v2 v3 Q f_33 (C_3, 0) h
def J_G_areNext_82 (n : Nat) (C : Cn) (s0 : Int) (Q : Int → Prop) : Prop :=
  (s0 = 0 ∨ s0 = 1) ∧ (Q s0)
theorem aJ_G_areNext_82 (n : Nat) (C : Cn) (s0 : Int) (Q : Int → Prop) (h : J_G_areNext_82 n C s0 Q) : AW p l e R s m args below meth c E M_G_areNext true (fun r C2 n2 => C2 = C ∧ n2 = n ∧ Q r) n 0 0 82 [(9, 0), (9, 0), (9, 0), (9, 0), (9, 0), (9, 0), (9, 0), (9, 0)] [(0, s0)] C := by
  unfold J_G_areNext_82 at h
  obtain ⟨g_7, h⟩ := h
  exact AW.zret (dc hd_G_areNext 43 rfl) rfl rfl (Nat.le_of_ble_eq_true rfl) (Nat.le_of_ble_eq_true rfl) g_7 ⟨rfl, rfl, h⟩
def J_G_areNext_65 (n : Nat) (C : Cn) (v3 v4 v5 : Int) (Q : Int → Prop) : Prop :=
  J_G_areNext_82 n C (if v5 = v3 then (if v4 = (-1) then 1 else 0) else 0) Q
theorem aJ_G_areNext_65 (n : Nat) (C : Cn) (v3 v4 v5 : Int) (Q : Int → Prop) (h : J_G_areNext_65 n C v3 v4 v5 Q) : AW p l e R s m args below meth c E M_G_areNext true (fun r C2 n2 => C2 = C ∧ n2 = n ∧ Q r) n 0 0 65 [(9, 0), (9, 0), (9, 0), (0, v3), (0, v4), (0, v5), (9, 0), (9, 0)] [] C := by
  unfold J_G_areNext_65 at h
  refine AW.iload (dc hd_G_areNext 34 rfl) rfl ?_
  refine AW.iload_n (dc hd_G_areNext 35 rfl) rfl ?_
  refine AW.icmp_ne (t := 81) (dc hd_G_areNext 36 rfl) (by decide) (fun c_5 => ?_) (fun c_5 => ?_)
  · simp only [if_neg (show ¬ (v5 = v3) from c_5)] at h
    refine AW.iconst (dc hd_G_areNext 42 rfl) (by decide) ?_
    refine AW.fgt [(9, 0), (9, 0), (9, 0), (9, 0), (9, 0), (9, 0), (9, 0), (9, 0)] ⟨.inl rfl, .inl rfl, .inl rfl, .inr rfl, .inr rfl, .inr rfl, .inl rfl, .inl rfl, trivial⟩ ?_
    exact aJ_G_areNext_82 n C _ Q h
  · simp only [if_pos (show v5 = v3 from c_5)] at h
    refine AW.iload (dc hd_G_areNext 37 rfl) rfl ?_
    refine AW.iconst (dc hd_G_areNext 38 rfl) (by decide) ?_
    refine AW.icmp_ne (t := 81) (dc hd_G_areNext 39 rfl) (by decide) (fun c_6 => ?_) (fun c_6 => ?_)
    · simp only [if_neg (show ¬ (v4 = (-1)) from c_6)] at h
      refine AW.iconst (dc hd_G_areNext 42 rfl) (by decide) ?_
      refine AW.fgt [(9, 0), (9, 0), (9, 0), (9, 0), (9, 0), (9, 0), (9, 0), (9, 0)] ⟨.inl rfl, .inl rfl, .inl rfl, .inr rfl, .inr rfl, .inr rfl, .inl rfl, .inl rfl, trivial⟩ ?_
      exact aJ_G_areNext_82 n C _ Q h
    · simp only [if_pos (show v4 = (-1) from c_6)] at h
      refine AW.iconst (dc hd_G_areNext 40 rfl) (by decide) ?_
      refine AW.goto (t := 82) (dc hd_G_areNext 41 rfl) (by decide) ?_
      refine AW.fgt [(9, 0), (9, 0), (9, 0), (9, 0), (9, 0), (9, 0), (9, 0), (9, 0)] ⟨.inl rfl, .inl rfl, .inl rfl, .inr rfl, .inr rfl, .inr rfl, .inl rfl, .inl rfl, trivial⟩ ?_
      exact aJ_G_areNext_82 n C _ Q h
def B_G_areNext_6 (n : Nat) (C : Cn) (v0 v1 v2 v3 v4 : Int) (Q : Int → Prop) (kz6 : Int × Int → Prop) (z : Int × Int) : Prop := match z with
  | (v5, v6) => okO n v0 10 ∧ (okO n (PT v0.toNat 15) 12 ∧ (okI (PT v0.toNat 15) v1 ∧ ((C (PT v0.toNat 15).toNat v1.toNat ≤ v6 → (J_G_areNext_65 n C v3 v4 v5 Q)) ∧ (¬ C (PT v0.toNat 15).toNat v1.toNat ≤ v6 → (okO n (PT v0.toNat 16) 17 ∧ (okI (PT v0.toNat 16) v1 ∧ (okO n (PT (PT v0.toNat 16).toNat v1.toNat) 12 ∧ (okI (PT (PT v0.toNat 16).toNat v1.toNat) v6 ∧ (∀ v7_12 : Int, v7_12 = C (PT (PT v0.toNat 16).toNat v1.toNat).toNat v6.toNat → (P_G_has n C v2 v7_12 (fun (r_13 : Int) => (r_13 = 0 → (kz6 (v5, w32 (v6 + 1)))) ∧ (¬ r_13 = 0 → ((v5 = v3 → ((v7_12 = v4 → (Q 1)) ∧ (¬ v7_12 = v4 → (kz6 (v7_12, w32 (v6 + 1)))))) ∧ (¬ v5 = v3 → (kz6 (v7_12, w32 (v6 + 1)))))))))))))))))
theorem bB_G_areNext_6 (n : Nat) (C : Cn) (v0 v1 v2 v3 v4 : Int) (Q : Int → Prop) (kz6 : Int × Int → Prop) (hkz6 : ∀ (z5 : Int) (z6 : Int), kz6 (z5, z6) → AW p l e R s m args below meth c E M_G_areNext true (fun r C2 n2 => C2 = C ∧ n2 = n ∧ Q r) n 0 0 6 [(2, v0), (0, v1), (0, v2), (0, v3), (0, v4), (0, z5), (0, z6), (9, 0)] [] C) (v5 : Int) (v6 : Int) (h : B_G_areNext_6 n C v0 v1 v2 v3 v4 Q kz6 (v5, v6)) : AW p l e R s m args below meth c E M_G_areNext true (fun r C2 n2 => C2 = C ∧ n2 = n ∧ Q r) n 0 0 6 [(2, v0), (0, v1), (0, v2), (0, v3), (0, v4), (0, v5), (0, v6), (9, 0)] [] C := by
  unfold B_G_areNext_6 at h
  dsimp only at h
  refine AW.iload (dc hd_G_areNext 4 rfl) rfl ?_
  refine AW.ra_n (dc hd_G_areNext 5 rfl) rfl rfl rfl ?_
  obtain ⟨g_1, h⟩ := h
  refine AW.getp fl_10_40 (dc hd_G_areNext 6 rfl) g_1 rfl ?_
  refine AW.iload_n (dc hd_G_areNext 7 rfl) rfl ?_
  obtain ⟨g_2, h⟩ := h
  obtain ⟨g_3, h⟩ := h
  refine AW.iald (dc hd_G_areNext 8 rfl) g_2 g_3 ?_
  refine AW.icmp_ge (t := 65) (dc hd_G_areNext 9 rfl) (by decide) (fun c_4 => ?_) (fun c_4 => ?_)
  · have h := h.1 c_4
    refine AW.fgt [(9, 0), (9, 0), (9, 0), (0, v3), (0, v4), (0, v5), (9, 0), (9, 0)] ⟨.inr rfl, .inr rfl, .inr rfl, .inl rfl, .inl rfl, .inl rfl, .inr rfl, .inl rfl, trivial⟩ ?_
    exact aJ_G_areNext_65 n C v3 v4 v5 Q h
  · have h := h.2 c_4
    refine AW.ra_n (dc hd_G_areNext 10 rfl) rfl rfl rfl ?_
    refine AW.getp fl_10_43 (dc hd_G_areNext 11 rfl) g_1 rfl ?_
    refine AW.iload_n (dc hd_G_areNext 12 rfl) rfl ?_
    obtain ⟨g_8, h⟩ := h
    obtain ⟨g_9, h⟩ := h
    refine AW.aaldp (by decide) (dc hd_G_areNext 13 rfl) g_8 g_9 rfl ?_
    refine AW.iload (dc hd_G_areNext 14 rfl) rfl ?_
    obtain ⟨g_10, h⟩ := h
    obtain ⟨g_11, h⟩ := h
    refine AW.iald (dc hd_G_areNext 15 rfl) g_10 g_11 ?_
    refine AW.nm (fun v7_12 ev7_12 => ?_)
    have h := h v7_12 ev7_12
    refine AW.istore [(2, v0), (0, v1), (0, v2), (0, v3), (0, v4), (0, v5), (0, v6), (0, v7_12)] (dc hd_G_areNext 16 rfl) (Nat.le_of_ble_eq_true rfl) rfl rfl ?_
    refine AW.iload_n (dc hd_G_areNext 17 rfl) rfl ?_
    refine AW.iload (dc hd_G_areNext 18 rfl) rfl ?_
    refine AW.callS (As := [(0, v2), (0, v7_12)]) (rest := []) (m_G_has l E n C v2 v7_12 _ h) cb_10_293 sm_G_has (dc hd_G_areNext 19 rfl) rfl rfl ⟨Nat.le_of_ble_eq_true rfl, Nat.le_of_ble_eq_true rfl⟩ ⟨(Nat.le_of_ble_eq_true rfl), (Nat.le_of_ble_eq_true rfl)⟩ (Nat.le_of_ble_eq_true rfl) (fun _ h => by cases h) (fun _ => rfl) (fun r_13 D_15 d_16 q_14 => ?_)
    obtain ⟨q_14a, q_14b, h⟩ := q_14
    subst D_15
    subst d_16
    show AW p l e _ s m args below meth c E M_G_areNext true _ n _ _ _ [(2, v0), (0, v1), (0, v2), (0, v3), (0, v4), (0, v5), (0, v6), (0, v7_12)] [(0, r_13)] C
    refine AW.if_ne (t := 40) (dc hd_G_areNext 20 rfl) (by decide) (fun c_17 => ?_) (fun c_17 => ?_)
    · have h := h.2 c_17
      refine AW.iload (dc hd_G_areNext 22 rfl) rfl ?_
      refine AW.iload_n (dc hd_G_areNext 23 rfl) rfl ?_
      refine AW.icmp_ne (t := 55) (dc hd_G_areNext 24 rfl) (by decide) (fun c_19 => ?_) (fun c_19 => ?_)
      · have h := h.2 c_19
        refine AW.iload (dc hd_G_areNext 30 rfl) rfl ?_
        refine AW.istore [(2, v0), (0, v1), (0, v2), (0, v3), (0, v4), (0, v7_12), (0, v6), (0, v7_12)] (dc hd_G_areNext 31 rfl) (Nat.le_of_ble_eq_true rfl) rfl rfl ?_
        refine AW.iinc [(2, v0), (0, v1), (0, v2), (0, v3), (0, v4), (0, v7_12), (0, w32 (v6 + 1)), (0, v7_12)] (dc hd_G_areNext 32 rfl) rfl (Nat.le_of_ble_eq_true rfl) rfl rfl ?_
        refine AW.goto (t := 6) (dc hd_G_areNext 33 rfl) (by decide) ?_
        refine AW.fgt [(2, v0), (0, v1), (0, v2), (0, v3), (0, v4), (0, v7_12), (0, w32 (v6 + 1)), (9, 0)] ⟨.inl rfl, .inl rfl, .inl rfl, .inl rfl, .inl rfl, .inl rfl, .inl rfl, .inr rfl, trivial⟩ ?_
        exact hkz6 v7_12 (w32 (v6 + 1)) h
      · have h := h.1 c_19
        refine AW.iload (dc hd_G_areNext 25 rfl) rfl ?_
        refine AW.iload (dc hd_G_areNext 26 rfl) rfl ?_
        refine AW.icmp_ne (t := 55) (dc hd_G_areNext 27 rfl) (by decide) (fun c_20 => ?_) (fun c_20 => ?_)
        · have h := h.2 c_20
          refine AW.iload (dc hd_G_areNext 30 rfl) rfl ?_
          refine AW.istore [(2, v0), (0, v1), (0, v2), (0, v3), (0, v4), (0, v7_12), (0, v6), (0, v7_12)] (dc hd_G_areNext 31 rfl) (Nat.le_of_ble_eq_true rfl) rfl rfl ?_
          refine AW.iinc [(2, v0), (0, v1), (0, v2), (0, v3), (0, v4), (0, v7_12), (0, w32 (v6 + 1)), (0, v7_12)] (dc hd_G_areNext 32 rfl) rfl (Nat.le_of_ble_eq_true rfl) rfl rfl ?_
          refine AW.goto (t := 6) (dc hd_G_areNext 33 rfl) (by decide) ?_
          refine AW.fgt [(2, v0), (0, v1), (0, v2), (0, v3), (0, v4), (0, v7_12), (0, w32 (v6 + 1)), (9, 0)] ⟨.inl rfl, .inl rfl, .inl rfl, .inl rfl, .inl rfl, .inl rfl, .inl rfl, .inr rfl, trivial⟩ ?_
          exact hkz6 v7_12 (w32 (v6 + 1)) h
        · have h := h.1 c_20
          refine AW.iconst (dc hd_G_areNext 28 rfl) (by decide) ?_
          exact AW.zret (dc hd_G_areNext 29 rfl) rfl rfl (Nat.le_of_ble_eq_true rfl) (Nat.le_of_ble_eq_true rfl) (by decide) ⟨rfl, rfl, h⟩
    · have h := h.1 c_17
      refine AW.goto (t := 59) (dc hd_G_areNext 21 rfl) (by decide) ?_
      refine AW.iinc [(2, v0), (0, v1), (0, v2), (0, v3), (0, v4), (0, v5), (0, w32 (v6 + 1)), (0, v7_12)] (dc hd_G_areNext 32 rfl) rfl (Nat.le_of_ble_eq_true rfl) rfl rfl ?_
      refine AW.goto (t := 6) (dc hd_G_areNext 33 rfl) (by decide) ?_
      refine AW.fgt [(2, v0), (0, v1), (0, v2), (0, v3), (0, v4), (0, v5), (0, w32 (v6 + 1)), (9, 0)] ⟨.inl rfl, .inl rfl, .inl rfl, .inl rfl, .inl rfl, .inl rfl, .inl rfl, .inr rfl, trivial⟩ ?_
      exact hkz6 v5 (w32 (v6 + 1)) h
theorem aB_G_areNext_6 (n : Nat) (C : Cn) (v0 v1 v2 v3 v4 : Int) (Q : Int → Prop) : ∀ (f : Nat) (z : Int × Int), lp (B_G_areNext_6 n C v0 v1 v2 v3 v4 Q) f z → AW p l e R s m args below meth c E M_G_areNext true (fun r C2 n2 => C2 = C ∧ n2 = n ∧ Q r) n 0 0 6 [(2, v0), (0, v1), (0, v2), (0, v3), (0, v4), (0, z.1), (0, z.2), (9, 0)] [] C := by
  intro f
  induction f with
  | zero => intro z h; exact False.elim h
  | succ f ih => intro z h; exact bB_G_areNext_6 n C v0 v1 v2 v3 v4 Q (lp (B_G_areNext_6 n C v0 v1 v2 v3 v4 Q) f) (fun a0 a1 h => ih (a0, a1) h) z.1 z.2 h
def P_G_areNext (n : Nat) (C : Cn) (v0 v1 v2 v3 v4 : Int) (Q : Int → Prop) : Prop :=
  ∃ f_21 : Nat, lp (B_G_areNext_6 n C v0 v1 v2 v3 v4 Q) f_21 ((-1), 0)
theorem m_G_areNext (l : Launch) (E : Ev) (n : Nat) (C : Cn) (v0 v1 v2 v3 v4 : Int) (Q : Int → Prop) (h : P_G_areNext n C v0 v1 v2 v3 v4 Q) : MA l y_G_areNext M_G_areNext E true C n [(2, v0), (0, v1), (0, v2), (0, v3), (0, v4)] (fun r C2 n2 => C2 = C ∧ n2 = n ∧ Q r) := by
  refine MA.of (by decide) rfl rfl 3 rfl (fun p e s m args below meth c => ?_)
  show AW p l e _ s m args below meth c E M_G_areNext true _ n 0 0 0 [(2, v0), (0, v1), (0, v2), (0, v3), (0, v4), (9, 0), (9, 0), (9, 0)] [] C
  unfold P_G_areNext at h
  refine AW.iconst (dc hd_G_areNext 0 rfl) (by decide) ?_
  refine AW.istore [(2, v0), (0, v1), (0, v2), (0, v3), (0, v4), (0, (-1)), (9, 0), (9, 0)] (dc hd_G_areNext 1 rfl) (Nat.le_of_ble_eq_true rfl) rfl rfl ?_
  refine AW.iconst (dc hd_G_areNext 2 rfl) (by decide) ?_
  refine AW.istore [(2, v0), (0, v1), (0, v2), (0, v3), (0, v4), (0, (-1)), (0, 0), (9, 0)] (dc hd_G_areNext 3 rfl) (Nat.le_of_ble_eq_true rfl) rfl rfl ?_
  obtain ⟨f_21, h⟩ := h
  exact aB_G_areNext_6 n C v0 v1 v2 v3 v4 Q f_21 ((-1), 0) h
def J_G_isBetween_58 (n : Nat) (C : Cn) (v0 v1 v2 v3 v4 v5 v6 : Int) (kz15 : Int × Int → Prop) (Q : Int → Prop) : Prop :=
  okO n v0 10 ∧ (okO n (PT v0.toNat 16) 17 ∧ (okI (PT v0.toNat 16) v1 ∧ (okO n (PT (PT v0.toNat 16).toNat v1.toNat) 12 ∧ (okI (PT (PT v0.toNat 16).toNat v1.toNat) v6 ∧ ((C (PT (PT v0.toNat 16).toNat v1.toNat).toNat v6.toNat = v4 → (Q 0)) ∧ (¬ C (PT (PT v0.toNat 16).toNat v1.toNat).toNat v6.toNat = v4 → (kz15 (v5, w32 (v6 + 1)))))))))
theorem aJ_G_isBetween_58 (n : Nat) (C : Cn) (v0 v1 v2 v3 v4 v5 v6 : Int) (kz15 : Int × Int → Prop) (Q : Int → Prop) (hkz15 : ∀ (z5 : Int) (z6 : Int), kz15 (z5, z6) → AW p l e R s m args below meth c E M_G_isBetween true (fun r C2 n2 => C2 = C ∧ n2 = n ∧ Q r) n 0 0 15 [(2, v0), (0, v1), (0, v2), (0, v3), (0, v4), (0, z5), (0, z6)] [] C) (h : J_G_isBetween_58 n C v0 v1 v2 v3 v4 v5 v6 kz15 Q) : AW p l e R s m args below meth c E M_G_isBetween true (fun r C2 n2 => C2 = C ∧ n2 = n ∧ Q r) n 0 0 58 [(2, v0), (0, v1), (0, v2), (0, v3), (0, v4), (0, v5), (0, v6)] [] C := by
  unfold J_G_isBetween_58 at h
  refine AW.ra_n (dc hd_G_isBetween 35 rfl) rfl rfl rfl ?_
  obtain ⟨g_12, h⟩ := h
  refine AW.getp fl_10_43 (dc hd_G_isBetween 36 rfl) g_12 rfl ?_
  refine AW.iload_n (dc hd_G_isBetween 37 rfl) rfl ?_
  obtain ⟨g_13, h⟩ := h
  obtain ⟨g_14, h⟩ := h
  refine AW.aaldp (by decide) (dc hd_G_isBetween 38 rfl) g_13 g_14 rfl ?_
  refine AW.iload (dc hd_G_isBetween 39 rfl) rfl ?_
  obtain ⟨g_15, h⟩ := h
  obtain ⟨g_16, h⟩ := h
  refine AW.iald (dc hd_G_isBetween 40 rfl) g_15 g_16 ?_
  refine AW.iload (dc hd_G_isBetween 41 rfl) rfl ?_
  refine AW.icmp_ne (t := 74) (dc hd_G_isBetween 42 rfl) (by decide) (fun c_17 => ?_) (fun c_17 => ?_)
  · have h := h.2 c_17
    refine AW.iinc [(2, v0), (0, v1), (0, v2), (0, v3), (0, v4), (0, v5), (0, w32 (v6 + 1))] (dc hd_G_isBetween 45 rfl) rfl (Nat.le_of_ble_eq_true rfl) rfl rfl ?_
    refine AW.goto (t := 15) (dc hd_G_isBetween 46 rfl) (by decide) ?_
    exact hkz15 v5 (w32 (v6 + 1)) h
  · have h := h.1 c_17
    refine AW.iconst (dc hd_G_isBetween 43 rfl) (by decide) ?_
    exact AW.zret (dc hd_G_isBetween 44 rfl) rfl rfl (Nat.le_of_ble_eq_true rfl) (Nat.le_of_ble_eq_true rfl) (by decide) ⟨rfl, rfl, h⟩
def B_G_isBetween_15 (n : Nat) (C : Cn) (v0 v1 v2 v3 v4 : Int) (Q : Int → Prop) (kz15 : Int × Int → Prop) (z : Int × Int) : Prop := match z with
  | (v5, v6) => okO n v0 10 ∧ (okO n (PT v0.toNat 15) 12 ∧ (okI (PT v0.toNat 15) v1 ∧ ((C (PT v0.toNat 15).toNat v1.toNat ≤ v6 → (Q 0)) ∧ (¬ C (PT v0.toNat 15).toNat v1.toNat ≤ v6 → (okO n (PT v0.toNat 16) 17 ∧ (okI (PT v0.toNat 16) v1 ∧ (okO n (PT (PT v0.toNat 16).toNat v1.toNat) 12 ∧ (okI (PT (PT v0.toNat 16).toNat v1.toNat) v6 ∧ ((C (PT (PT v0.toNat 16).toNat v1.toNat).toNat v6.toNat = v2 → ((v5 = 0 ∨ v5 = 1) ∧ (Q v5))) ∧ (¬ C (PT (PT v0.toNat 16).toNat v1.toNat).toNat v6.toNat = v2 → ((C (PT (PT v0.toNat 16).toNat v1.toNat).toNat v6.toNat = v3 → (J_G_isBetween_58 n C v0 v1 v2 v3 v4 1 v6 kz15 Q)) ∧ (¬ C (PT (PT v0.toNat 16).toNat v1.toNat).toNat v6.toNat = v3 → (J_G_isBetween_58 n C v0 v1 v2 v3 v4 v5 v6 kz15 Q)))))))))))))
theorem bB_G_isBetween_15 (n : Nat) (C : Cn) (v0 v1 v2 v3 v4 : Int) (Q : Int → Prop) (kz15 : Int × Int → Prop) (hkz15 : ∀ (z5 : Int) (z6 : Int), kz15 (z5, z6) → AW p l e R s m args below meth c E M_G_isBetween true (fun r C2 n2 => C2 = C ∧ n2 = n ∧ Q r) n 0 0 15 [(2, v0), (0, v1), (0, v2), (0, v3), (0, v4), (0, z5), (0, z6)] [] C) (v5 : Int) (v6 : Int) (h : B_G_isBetween_15 n C v0 v1 v2 v3 v4 Q kz15 (v5, v6)) : AW p l e R s m args below meth c E M_G_isBetween true (fun r C2 n2 => C2 = C ∧ n2 = n ∧ Q r) n 0 0 15 [(2, v0), (0, v1), (0, v2), (0, v3), (0, v4), (0, v5), (0, v6)] [] C := by
  unfold B_G_isBetween_15 at h
  dsimp only at h
  refine AW.iload (dc hd_G_isBetween 9 rfl) rfl ?_
  refine AW.ra_n (dc hd_G_isBetween 10 rfl) rfl rfl rfl ?_
  obtain ⟨g_2, h⟩ := h
  refine AW.getp fl_10_40 (dc hd_G_isBetween 11 rfl) g_2 rfl ?_
  refine AW.iload_n (dc hd_G_isBetween 12 rfl) rfl ?_
  obtain ⟨g_3, h⟩ := h
  obtain ⟨g_4, h⟩ := h
  refine AW.iald (dc hd_G_isBetween 13 rfl) g_3 g_4 ?_
  refine AW.icmp_ge (t := 80) (dc hd_G_isBetween 14 rfl) (by decide) (fun c_5 => ?_) (fun c_5 => ?_)
  · have h := h.1 c_5
    refine AW.iconst (dc hd_G_isBetween 47 rfl) (by decide) ?_
    exact AW.zret (dc hd_G_isBetween 48 rfl) rfl rfl (Nat.le_of_ble_eq_true rfl) (Nat.le_of_ble_eq_true rfl) (by decide) ⟨rfl, rfl, h⟩
  · have h := h.2 c_5
    refine AW.ra_n (dc hd_G_isBetween 15 rfl) rfl rfl rfl ?_
    refine AW.getp fl_10_43 (dc hd_G_isBetween 16 rfl) g_2 rfl ?_
    refine AW.iload_n (dc hd_G_isBetween 17 rfl) rfl ?_
    obtain ⟨g_6, h⟩ := h
    obtain ⟨g_7, h⟩ := h
    refine AW.aaldp (by decide) (dc hd_G_isBetween 18 rfl) g_6 g_7 rfl ?_
    refine AW.iload (dc hd_G_isBetween 19 rfl) rfl ?_
    obtain ⟨g_8, h⟩ := h
    obtain ⟨g_9, h⟩ := h
    refine AW.iald (dc hd_G_isBetween 20 rfl) g_8 g_9 ?_
    refine AW.iload_n (dc hd_G_isBetween 21 rfl) rfl ?_
    refine AW.icmp_ne (t := 42) (dc hd_G_isBetween 22 rfl) (by decide) (fun c_10 => ?_) (fun c_10 => ?_)
    · have h := h.2 c_10
      refine AW.ra_n (dc hd_G_isBetween 25 rfl) rfl rfl rfl ?_
      refine AW.getp fl_10_43 (dc hd_G_isBetween 26 rfl) g_2 rfl ?_
      refine AW.iload_n (dc hd_G_isBetween 27 rfl) rfl ?_
      refine AW.aaldp (by decide) (dc hd_G_isBetween 28 rfl) g_6 g_7 rfl ?_
      refine AW.iload (dc hd_G_isBetween 29 rfl) rfl ?_
      refine AW.iald (dc hd_G_isBetween 30 rfl) g_8 g_9 ?_
      refine AW.iload_n (dc hd_G_isBetween 31 rfl) rfl ?_
      refine AW.icmp_ne (t := 58) (dc hd_G_isBetween 32 rfl) (by decide) (fun c_11 => ?_) (fun c_11 => ?_)
      · have h := h.2 c_11
        exact aJ_G_isBetween_58 n C v0 v1 v2 v3 v4 v5 v6 kz15 Q hkz15 h
      · have h := h.1 c_11
        refine AW.iconst (dc hd_G_isBetween 33 rfl) (by decide) ?_
        refine AW.istore [(2, v0), (0, v1), (0, v2), (0, v3), (0, v4), (0, 1), (0, v6)] (dc hd_G_isBetween 34 rfl) (Nat.le_of_ble_eq_true rfl) rfl rfl ?_
        exact aJ_G_isBetween_58 n C v0 v1 v2 v3 v4 1 v6 kz15 Q hkz15 h
    · have h := h.1 c_10
      refine AW.iload (dc hd_G_isBetween 23 rfl) rfl ?_
      obtain ⟨g_18, h⟩ := h
      exact AW.zret (dc hd_G_isBetween 24 rfl) rfl rfl (Nat.le_of_ble_eq_true rfl) (Nat.le_of_ble_eq_true rfl) g_18 ⟨rfl, rfl, h⟩
theorem aB_G_isBetween_15 (n : Nat) (C : Cn) (v0 v1 v2 v3 v4 : Int) (Q : Int → Prop) : ∀ (f : Nat) (z : Int × Int), lp (B_G_isBetween_15 n C v0 v1 v2 v3 v4 Q) f z → AW p l e R s m args below meth c E M_G_isBetween true (fun r C2 n2 => C2 = C ∧ n2 = n ∧ Q r) n 0 0 15 [(2, v0), (0, v1), (0, v2), (0, v3), (0, v4), (0, z.1), (0, z.2)] [] C := by
  intro f
  induction f with
  | zero => intro z h; exact False.elim h
  | succ f ih => intro z h; exact bB_G_isBetween_15 n C v0 v1 v2 v3 v4 Q (lp (B_G_isBetween_15 n C v0 v1 v2 v3 v4 Q) f) (fun a0 a1 h => ih (a0, a1) h) z.1 z.2 h
def J_G_isBetween_10 (n : Nat) (C : Cn) (v0 v1 v2 v3 v4 s0 : Int) (Q : Int → Prop) : Prop :=
  ∃ f_19 : Nat, lp (B_G_isBetween_15 n C v0 v1 v2 v3 v4 Q) f_19 (s0, 0)
theorem aJ_G_isBetween_10 (n : Nat) (C : Cn) (v0 v1 v2 v3 v4 s0 : Int) (Q : Int → Prop) (h : J_G_isBetween_10 n C v0 v1 v2 v3 v4 s0 Q) : AW p l e R s m args below meth c E M_G_isBetween true (fun r C2 n2 => C2 = C ∧ n2 = n ∧ Q r) n 0 0 10 [(2, v0), (0, v1), (0, v2), (0, v3), (0, v4), (9, 0), (9, 0)] [(0, s0)] C := by
  unfold J_G_isBetween_10 at h
  refine AW.istore [(2, v0), (0, v1), (0, v2), (0, v3), (0, v4), (0, s0), (9, 0)] (dc hd_G_isBetween 6 rfl) (Nat.le_of_ble_eq_true rfl) rfl rfl ?_
  refine AW.iconst (dc hd_G_isBetween 7 rfl) (by decide) ?_
  refine AW.istore [(2, v0), (0, v1), (0, v2), (0, v3), (0, v4), (0, s0), (0, 0)] (dc hd_G_isBetween 8 rfl) (Nat.le_of_ble_eq_true rfl) rfl rfl ?_
  obtain ⟨f_19, h⟩ := h
  exact aB_G_isBetween_15 n C v0 v1 v2 v3 v4 Q f_19 (s0, 0) h
def P_G_isBetween (n : Nat) (C : Cn) (v0 v1 v2 v3 v4 : Int) (Q : Int → Prop) : Prop :=
  J_G_isBetween_10 n C v0 v1 v2 v3 v4 (if v3 = (-1) then 1 else 0) Q
theorem m_G_isBetween (l : Launch) (E : Ev) (n : Nat) (C : Cn) (v0 v1 v2 v3 v4 : Int) (Q : Int → Prop) (h : P_G_isBetween n C v0 v1 v2 v3 v4 Q) : MA l y_G_isBetween M_G_isBetween E true C n [(2, v0), (0, v1), (0, v2), (0, v3), (0, v4)] (fun r C2 n2 => C2 = C ∧ n2 = n ∧ Q r) := by
  refine MA.of (by decide) rfl rfl 2 rfl (fun p e s m args below meth c => ?_)
  show AW p l e _ s m args below meth c E M_G_isBetween true _ n 0 0 0 [(2, v0), (0, v1), (0, v2), (0, v3), (0, v4), (9, 0), (9, 0)] [] C
  unfold P_G_isBetween at h
  refine AW.iload_n (dc hd_G_isBetween 0 rfl) rfl ?_
  refine AW.iconst (dc hd_G_isBetween 1 rfl) (by decide) ?_
  refine AW.icmp_ne (t := 9) (dc hd_G_isBetween 2 rfl) (by decide) (fun c_1 => ?_) (fun c_1 => ?_)
  · simp only [if_neg (show ¬ (v3 = (-1)) from c_1)] at h
    refine AW.iconst (dc hd_G_isBetween 5 rfl) (by decide) ?_
    exact aJ_G_isBetween_10 n C _ _ _ _ _ _ Q h
  · simp only [if_pos (show v3 = (-1) from c_1)] at h
    refine AW.iconst (dc hd_G_isBetween 3 rfl) (by decide) ?_
    refine AW.goto (t := 10) (dc hd_G_isBetween 4 rfl) (by decide) ?_
    exact aJ_G_isBetween_10 n C _ _ _ _ _ _ Q h
end
