section
variable {p : Program} {l : Launch} {e : Env} {R : Room} {s : State} {m : MethodId} {args : Array Value} {below : List Frame} {meth : Method} {c : Code} {E : Ev}
def P_F_copy (n : Nat) (C : Cn) (v0 v1 v2 v3 v4 v5 : Int) (Q : Int → Cn → Prop) : Prop :=
  P_F_isSheet n C v1 (fun (r_1 : Int) => (r_1 = 0 → (okO n v0 9 ∧ (P_F_tell n C v0 0 (fun (r_6 : Int) (C_8 : Cn) => Q r_6 C_8)))) ∧ (¬ r_1 = 0 → (P_F_isSheet n C v3 (fun (r_11 : Int) => (r_11 = 0 → (okO n v0 9 ∧ (P_F_tell n C v0 0 (fun (r_72 : Int) (C_74 : Cn) => Q r_72 C_74)))) ∧ (¬ r_11 = 0 → (okO n v0 9 ∧ (okO n (PT v0.toNat 10) 15 ∧ (okI (PT v0.toNat 10) v1 ∧ (okI (PT v0.toNat 10) v3 ∧ (okO n (PT (PT v0.toNat 10).toNat v1.toNat) 5 ∧ (P_Sh_isMissing n C (PT (PT v0.toNat 10).toNat v1.toNat) (fun (r_20 : Int) => (r_20 = 0 → (okO n (PT (PT v0.toNat 10).toNat v3.toNat) 5 ∧ (P_Sh_isMissing n C (PT (PT v0.toNat 10).toNat v3.toNat) (fun (r_30 : Int) => (r_30 = 0 → ((C (PT (PT v0.toNat 10).toNat v1.toNat).toNat 0 = C (PT (PT v0.toNat 10).toNat v3.toNat).toNat 0 → (P_Sh_has n C (PT (PT v0.toNat 10).toNat v1.toNat) v2 v5 (fun (r_38 : Int) => (r_38 = 0 → (P_F_tell n C v0 0 (fun (r_43 : Int) (C_44 : Cn) => Q r_43 C_44))) ∧ (¬ r_38 = 0 → (P_Sh_has n C (PT (PT v0.toNat 10).toNat v3.toNat) v4 v5 (fun (r_47 : Int) => (r_47 = 0 → (P_F_tell n C v0 0 (fun (r_60 : Int) (C_61 : Cn) => Q r_60 C_61))) ∧ (¬ r_47 = 0 → (okO n (PT (PT (PT v0.toNat 10).toNat v1.toNat).toNat 2) 13 ∧ (okO n (PT (PT (PT v0.toNat 10).toNat v3.toNat).toNat 2) 13 ∧ (0 ≤ v2 ∧ (0 ≤ v4 ∧ (0 ≤ v5 ∧ (v2 + v5 ≤ (LAY (PT (PT (PT v0.toNat 10).toNat v1.toNat).toNat 2).toNat).2 ∧ (v4 + v5 ≤ (LAY (PT (PT (PT v0.toNat 10).toNat v3.toNat).toNat 2).toNat).2 ∧ (∀ C_59 : Cn, C_59 = acp C (PT (PT (PT v0.toNat 10).toNat v1.toNat).toNat 2).toNat v2.toNat (PT (PT (PT v0.toNat 10).toNat v3.toNat).toNat 2).toNat v4.toNat v5.toNat → (Q v5 C_59)))))))))))))))) ∧ (¬ C (PT (PT v0.toNat 10).toNat v1.toNat).toNat 0 = C (PT (PT v0.toNat 10).toNat v3.toNat).toNat 0 → (P_F_tell n C v0 2 (fun (r_64 : Int) (C_65 : Cn) => Q r_64 C_65))))) ∧ (¬ r_30 = 0 → (P_F_tell n C v0 5 (fun (r_68 : Int) (C_69 : Cn) => Q r_68 C_69))))))) ∧ (¬ r_20 = 0 → (P_F_tell n C v0 5 (fun (r_26 : Int) (C_27 : Cn) => Q r_26 C_27)))))))))))))))
theorem m_F_copy (l : Launch) (E : Ev) (n : Nat) (C : Cn) (v0 v1 v2 v3 v4 v5 : Int) (Q : Int → Cn → Prop) (h : P_F_copy n C v0 v1 v2 v3 v4 v5 Q) : MA l y_F_copy M_F_copy E true C n [(2, v0), (0, v1), (0, v2), (0, v3), (0, v4), (0, v5)] (fun r C2 n2 => n2 = n ∧ Q r C2) := by
  refine MA.of (by decide) rfl rfl 2 rfl (fun p e s m args below meth c => ?_)
  show AW p l e _ s m args below meth c E M_F_copy true _ n 0 0 0 [(2, v0), (0, v1), (0, v2), (0, v3), (0, v4), (0, v5), (9, 0), (9, 0)] [] C
  unfold P_F_copy at h
  refine AW.iload_n (dc hd_F_copy 0 rfl) rfl ?_
  refine AW.callS (As := [(0, v1)]) (rest := []) (m_F_isSheet l E n C v1 _ h) cb_9_310 sm_F_isSheet (dc hd_F_copy 1 rfl) rfl rfl ⟨Nat.le_of_ble_eq_true rfl, Nat.le_of_ble_eq_true rfl⟩ ⟨(Nat.le_of_ble_eq_true rfl), (Nat.le_of_ble_eq_true rfl)⟩ (Nat.le_of_ble_eq_true rfl) (fun _ h => by cases h) (fun _ => rfl) (fun r_1 D_3 d_4 q_2 => ?_)
  obtain ⟨q_2a, q_2b, h⟩ := q_2
  subst D_3
  subst d_4
  show AW p l e _ s m args below meth c E M_F_copy true _ n _ _ _ [(2, v0), (0, v1), (0, v2), (0, v3), (0, v4), (0, v5), (9, 0), (9, 0)] [(0, r_1)] C
  refine AW.if_eq (t := 14) (dc hd_F_copy 2 rfl) (by decide) (fun c_5 => ?_) (fun c_5 => ?_)
  · have h := h.1 c_5
    refine AW.ra_n (dc hd_F_copy 6 rfl) rfl rfl rfl ?_
    refine AW.iconst (dc hd_F_copy 7 rfl) (by decide) ?_
    obtain ⟨g_7, h⟩ := h
    refine AW.callV (As := [(0, 0)]) (rest := []) (ci := 9) (m_F_tell l E n C v0 0 _ h) cb_9_101 im_F_tell se_F_tell ⟨_, _, rfl⟩ (by decide) (dc hd_F_copy 8 rfl) g_7 rfl rfl ⟨Nat.le_of_ble_eq_true rfl, Nat.le_of_ble_eq_true rfl⟩ ⟨(Nat.le_of_ble_eq_true rfl), (Nat.le_of_ble_eq_true rfl)⟩ (Nat.le_of_ble_eq_true rfl) (fun _ h => by cases h) (fun _ => rfl) (fun r_6 C_8 d_10 q_9 => ?_)
    obtain ⟨q_9a, h⟩ := q_9
    subst d_10
    show AW p l e _ s m args below meth c E M_F_copy true _ n _ _ _ [(2, v0), (0, v1), (0, v2), (0, v3), (0, v4), (0, v5), (9, 0), (9, 0)] [(0, r_6)] C_8
    exact AW.iret (dc hd_F_copy 9 rfl) rfl rfl (Nat.le_of_ble_eq_true rfl) (Nat.le_of_ble_eq_true rfl) ⟨rfl, h⟩
  · have h := h.2 c_5
    refine AW.iload_n (dc hd_F_copy 3 rfl) rfl ?_
    refine AW.callS (As := [(0, v3)]) (rest := []) (m_F_isSheet l E n C v3 _ h) cb_9_310 sm_F_isSheet (dc hd_F_copy 4 rfl) rfl rfl ⟨Nat.le_of_ble_eq_true rfl, Nat.le_of_ble_eq_true rfl⟩ ⟨(Nat.le_of_ble_eq_true rfl), (Nat.le_of_ble_eq_true rfl)⟩ (Nat.le_of_ble_eq_true rfl) (fun _ h => by cases h) (fun _ => rfl) (fun r_11 D_13 d_14 q_12 => ?_)
    obtain ⟨q_12a, q_12b, h⟩ := q_12
    subst D_13
    subst d_14
    show AW p l e _ s m args below meth c E M_F_copy true _ n _ _ _ [(2, v0), (0, v1), (0, v2), (0, v3), (0, v4), (0, v5), (9, 0), (9, 0)] [(0, r_11)] C
    refine AW.if_ne (t := 20) (dc hd_F_copy 5 rfl) (by decide) (fun c_15 => ?_) (fun c_15 => ?_)
    · have h := h.2 c_15
      refine AW.ra_n (dc hd_F_copy 10 rfl) rfl rfl rfl ?_
      obtain ⟨g_16, h⟩ := h
      refine AW.getp fl_9_71 (dc hd_F_copy 11 rfl) g_16 rfl ?_
      refine AW.iload_n (dc hd_F_copy 12 rfl) rfl ?_
      obtain ⟨g_17, h⟩ := h
      obtain ⟨g_18, h⟩ := h
      refine AW.aaldp (by decide) (dc hd_F_copy 13 rfl) g_17 g_18 rfl ?_
      refine AW.rs [(2, v0), (0, v1), (0, v2), (0, v3), (0, v4), (0, v5), (2, PT (PT v0.toNat 10).toNat v1.toNat), (9, 0)] (dc hd_F_copy 14 rfl) (Nat.le_of_ble_eq_true rfl) rfl rfl rfl ?_
      refine AW.ra_n (dc hd_F_copy 15 rfl) rfl rfl rfl ?_
      refine AW.getp fl_9_71 (dc hd_F_copy 16 rfl) g_16 rfl ?_
      refine AW.iload_n (dc hd_F_copy 17 rfl) rfl ?_
      obtain ⟨g_19, h⟩ := h
      refine AW.aaldp (by decide) (dc hd_F_copy 18 rfl) g_17 g_19 rfl ?_
      refine AW.rs [(2, v0), (0, v1), (0, v2), (0, v3), (0, v4), (0, v5), (2, PT (PT v0.toNat 10).toNat v1.toNat), (2, PT (PT v0.toNat 10).toNat v3.toNat)] (dc hd_F_copy 19 rfl) (Nat.le_of_ble_eq_true rfl) rfl rfl rfl ?_
      refine AW.ra (dc hd_F_copy 20 rfl) rfl rfl rfl ?_
      obtain ⟨g_21, h⟩ := h
      refine AW.callV (As := []) (rest := []) (ci := 5) (m_Sh_isMissing l E n C (PT (PT v0.toNat 10).toNat v1.toNat) _ h) cb_9_313 im_Sh_isMissing se_Sh_isMissing ⟨_, _, rfl⟩ (by decide) (dc hd_F_copy 21 rfl) g_21 rfl rfl ⟨Nat.le_of_ble_eq_true rfl, Nat.le_of_ble_eq_true rfl⟩ ⟨(Nat.le_of_ble_eq_true rfl), (Nat.le_of_ble_eq_true rfl)⟩ (Nat.le_of_ble_eq_true rfl) (fun _ h => by cases h) (fun _ => rfl) (fun r_20 D_23 d_24 q_22 => ?_)
      obtain ⟨q_22a, q_22b, h⟩ := q_22
      subst D_23
      subst d_24
      show AW p l e _ s m args below meth c E M_F_copy true _ n _ _ _ [(2, v0), (0, v1), (0, v2), (0, v3), (0, v4), (0, v5), (2, PT (PT v0.toNat 10).toNat v1.toNat), (2, PT (PT v0.toNat 10).toNat v3.toNat)] [(0, r_20)] C
      refine AW.if_ne (t := 52) (dc hd_F_copy 22 rfl) (by decide) (fun c_25 => ?_) (fun c_25 => ?_)
      · have h := h.2 c_25
        refine AW.ra_n (dc hd_F_copy 26 rfl) rfl rfl rfl ?_
        refine AW.iconst (dc hd_F_copy 27 rfl) (by decide) ?_
        refine AW.callV (As := [(0, 5)]) (rest := []) (ci := 9) (m_F_tell l E n C v0 5 _ h) cb_9_101 im_F_tell se_F_tell ⟨_, _, rfl⟩ (by decide) (dc hd_F_copy 28 rfl) g_16 rfl rfl ⟨Nat.le_of_ble_eq_true rfl, Nat.le_of_ble_eq_true rfl⟩ ⟨(Nat.le_of_ble_eq_true rfl), (Nat.le_of_ble_eq_true rfl)⟩ (Nat.le_of_ble_eq_true rfl) (fun _ h => by cases h) (fun _ => rfl) (fun r_26 C_27 d_29 q_28 => ?_)
        obtain ⟨q_28a, h⟩ := q_28
        subst d_29
        show AW p l e _ s m args below meth c E M_F_copy true _ n _ _ _ [(2, v0), (0, v1), (0, v2), (0, v3), (0, v4), (0, v5), (2, PT (PT v0.toNat 10).toNat v1.toNat), (2, PT (PT v0.toNat 10).toNat v3.toNat)] [(0, r_26)] C_27
        exact AW.iret (dc hd_F_copy 29 rfl) rfl rfl (Nat.le_of_ble_eq_true rfl) (Nat.le_of_ble_eq_true rfl) ⟨rfl, h⟩
      · have h := h.1 c_25
        refine AW.ra (dc hd_F_copy 23 rfl) rfl rfl rfl ?_
        obtain ⟨g_31, h⟩ := h
        refine AW.callV (As := []) (rest := []) (ci := 5) (m_Sh_isMissing l E n C (PT (PT v0.toNat 10).toNat v3.toNat) _ h) cb_9_313 im_Sh_isMissing se_Sh_isMissing ⟨_, _, rfl⟩ (by decide) (dc hd_F_copy 24 rfl) g_31 rfl rfl ⟨Nat.le_of_ble_eq_true rfl, Nat.le_of_ble_eq_true rfl⟩ ⟨(Nat.le_of_ble_eq_true rfl), (Nat.le_of_ble_eq_true rfl)⟩ (Nat.le_of_ble_eq_true rfl) (fun _ h => by cases h) (fun _ => rfl) (fun r_30 D_33 d_34 q_32 => ?_)
        obtain ⟨q_32a, q_32b, h⟩ := q_32
        subst D_33
        subst d_34
        show AW p l e _ s m args below meth c E M_F_copy true _ n _ _ _ [(2, v0), (0, v1), (0, v2), (0, v3), (0, v4), (0, v5), (2, PT (PT v0.toNat 10).toNat v1.toNat), (2, PT (PT v0.toNat 10).toNat v3.toNat)] [(0, r_30)] C
        refine AW.if_eq (t := 58) (dc hd_F_copy 25 rfl) (by decide) (fun c_35 => ?_) (fun c_35 => ?_)
        · have h := h.1 c_35
          refine AW.ra (dc hd_F_copy 30 rfl) rfl rfl rfl ?_
          refine AW.getf fl_9_387 (dc hd_F_copy 31 rfl) g_21 ?_
          refine AW.ra (dc hd_F_copy 32 rfl) rfl rfl rfl ?_
          refine AW.getf fl_9_387 (dc hd_F_copy 33 rfl) g_31 ?_
          refine AW.icmp_eq (t := 77) (dc hd_F_copy 34 rfl) (by decide) (fun c_37 => ?_) (fun c_37 => ?_)
          · have h := h.1 c_37
            refine AW.ra (dc hd_F_copy 39 rfl) rfl rfl rfl ?_
            refine AW.iload_n (dc hd_F_copy 40 rfl) rfl ?_
            refine AW.iload (dc hd_F_copy 41 rfl) rfl ?_
            refine AW.callV (As := [(0, v2), (0, v5)]) (rest := []) (ci := 5) (m_Sh_has l E n C (PT (PT v0.toNat 10).toNat v1.toNat) v2 v5 _ h) cb_9_384 im_Sh_has se_Sh_has ⟨_, _, rfl⟩ (by decide) (dc hd_F_copy 42 rfl) g_21 rfl rfl ⟨Nat.le_of_ble_eq_true rfl, Nat.le_of_ble_eq_true rfl⟩ ⟨(Nat.le_of_ble_eq_true rfl), (Nat.le_of_ble_eq_true rfl)⟩ (Nat.le_of_ble_eq_true rfl) (fun _ h => by cases h) (fun _ => rfl) (fun r_38 D_40 d_41 q_39 => ?_)
            obtain ⟨q_39a, q_39b, h⟩ := q_39
            subst D_40
            subst d_41
            show AW p l e _ s m args below meth c E M_F_copy true _ n _ _ _ [(2, v0), (0, v1), (0, v2), (0, v3), (0, v4), (0, v5), (2, PT (PT v0.toNat 10).toNat v1.toNat), (2, PT (PT v0.toNat 10).toNat v3.toNat)] [(0, r_38)] C
            refine AW.if_eq (t := 100) (dc hd_F_copy 43 rfl) (by decide) (fun c_42 => ?_) (fun c_42 => ?_)
            · have h := h.1 c_42
              refine AW.ra_n (dc hd_F_copy 49 rfl) rfl rfl rfl ?_
              refine AW.iconst (dc hd_F_copy 50 rfl) (by decide) ?_
              refine AW.callV (As := [(0, 0)]) (rest := []) (ci := 9) (m_F_tell l E n C v0 0 _ h) cb_9_101 im_F_tell se_F_tell ⟨_, _, rfl⟩ (by decide) (dc hd_F_copy 51 rfl) g_16 rfl rfl ⟨Nat.le_of_ble_eq_true rfl, Nat.le_of_ble_eq_true rfl⟩ ⟨(Nat.le_of_ble_eq_true rfl), (Nat.le_of_ble_eq_true rfl)⟩ (Nat.le_of_ble_eq_true rfl) (fun _ h => by cases h) (fun _ => rfl) (fun r_43 C_44 d_46 q_45 => ?_)
              obtain ⟨q_45a, h⟩ := q_45
              subst d_46
              show AW p l e _ s m args below meth c E M_F_copy true _ n _ _ _ [(2, v0), (0, v1), (0, v2), (0, v3), (0, v4), (0, v5), (2, PT (PT v0.toNat 10).toNat v1.toNat), (2, PT (PT v0.toNat 10).toNat v3.toNat)] [(0, r_43)] C_44
              exact AW.iret (dc hd_F_copy 52 rfl) rfl rfl (Nat.le_of_ble_eq_true rfl) (Nat.le_of_ble_eq_true rfl) ⟨rfl, h⟩
            · have h := h.2 c_42
              refine AW.ra (dc hd_F_copy 44 rfl) rfl rfl rfl ?_
              refine AW.iload (dc hd_F_copy 45 rfl) rfl ?_
              refine AW.iload (dc hd_F_copy 46 rfl) rfl ?_
              refine AW.callV (As := [(0, v4), (0, v5)]) (rest := []) (ci := 5) (m_Sh_has l E n C (PT (PT v0.toNat 10).toNat v3.toNat) v4 v5 _ h) cb_9_384 im_Sh_has se_Sh_has ⟨_, _, rfl⟩ (by decide) (dc hd_F_copy 47 rfl) g_31 rfl rfl ⟨Nat.le_of_ble_eq_true rfl, Nat.le_of_ble_eq_true rfl⟩ ⟨(Nat.le_of_ble_eq_true rfl), (Nat.le_of_ble_eq_true rfl)⟩ (Nat.le_of_ble_eq_true rfl) (fun _ h => by cases h) (fun _ => rfl) (fun r_47 D_49 d_50 q_48 => ?_)
              obtain ⟨q_48a, q_48b, h⟩ := q_48
              subst D_49
              subst d_50
              show AW p l e _ s m args below meth c E M_F_copy true _ n _ _ _ [(2, v0), (0, v1), (0, v2), (0, v3), (0, v4), (0, v5), (2, PT (PT v0.toNat 10).toNat v1.toNat), (2, PT (PT v0.toNat 10).toNat v3.toNat)] [(0, r_47)] C
              refine AW.if_ne (t := 106) (dc hd_F_copy 48 rfl) (by decide) (fun c_51 => ?_) (fun c_51 => ?_)
              · have h := h.2 c_51
                refine AW.ra (dc hd_F_copy 53 rfl) rfl rfl rfl ?_
                refine AW.getp fl_9_320 (dc hd_F_copy 54 rfl) g_21 rfl ?_
                refine AW.iload_n (dc hd_F_copy 55 rfl) rfl ?_
                refine AW.ra (dc hd_F_copy 56 rfl) rfl rfl rfl ?_
                refine AW.getp fl_9_320 (dc hd_F_copy 57 rfl) g_31 rfl ?_
                refine AW.iload (dc hd_F_copy 58 rfl) rfl ?_
                refine AW.iload (dc hd_F_copy 59 rfl) rfl ?_
                obtain ⟨g_52, h⟩ := h
                obtain ⟨g_53, h⟩ := h
                obtain ⟨g_54, h⟩ := h
                obtain ⟨g_55, h⟩ := h
                obtain ⟨g_56, h⟩ := h
                obtain ⟨g_57, h⟩ := h
                obtain ⟨g_58, h⟩ := h
                refine AW.acopy (dc hd_F_copy 60 rfl) ac_9_390 g_52 g_53 g_54 g_55 g_56 g_57 g_58 (Nat.le_of_ble_eq_true rfl) (by decide +kernel) (Nat.le_of_ble_eq_true rfl) (fun C_59 eC_59 => ?_)
                have h := h C_59 eC_59
                refine AW.iload (dc hd_F_copy 61 rfl) rfl ?_
                exact AW.iret (dc hd_F_copy 62 rfl) rfl rfl (Nat.le_of_ble_eq_true rfl) (Nat.le_of_ble_eq_true rfl) ⟨rfl, h⟩
              · have h := h.1 c_51
                refine AW.ra_n (dc hd_F_copy 49 rfl) rfl rfl rfl ?_
                refine AW.iconst (dc hd_F_copy 50 rfl) (by decide) ?_
                refine AW.callV (As := [(0, 0)]) (rest := []) (ci := 9) (m_F_tell l E n C v0 0 _ h) cb_9_101 im_F_tell se_F_tell ⟨_, _, rfl⟩ (by decide) (dc hd_F_copy 51 rfl) g_16 rfl rfl ⟨Nat.le_of_ble_eq_true rfl, Nat.le_of_ble_eq_true rfl⟩ ⟨(Nat.le_of_ble_eq_true rfl), (Nat.le_of_ble_eq_true rfl)⟩ (Nat.le_of_ble_eq_true rfl) (fun _ h => by cases h) (fun _ => rfl) (fun r_60 C_61 d_63 q_62 => ?_)
                obtain ⟨q_62a, h⟩ := q_62
                subst d_63
                show AW p l e _ s m args below meth c E M_F_copy true _ n _ _ _ [(2, v0), (0, v1), (0, v2), (0, v3), (0, v4), (0, v5), (2, PT (PT v0.toNat 10).toNat v1.toNat), (2, PT (PT v0.toNat 10).toNat v3.toNat)] [(0, r_60)] C_61
                exact AW.iret (dc hd_F_copy 52 rfl) rfl rfl (Nat.le_of_ble_eq_true rfl) (Nat.le_of_ble_eq_true rfl) ⟨rfl, h⟩
          · have h := h.2 c_37
            refine AW.ra_n (dc hd_F_copy 35 rfl) rfl rfl rfl ?_
            refine AW.iconst (dc hd_F_copy 36 rfl) (by decide) ?_
            refine AW.callV (As := [(0, 2)]) (rest := []) (ci := 9) (m_F_tell l E n C v0 2 _ h) cb_9_101 im_F_tell se_F_tell ⟨_, _, rfl⟩ (by decide) (dc hd_F_copy 37 rfl) g_16 rfl rfl ⟨Nat.le_of_ble_eq_true rfl, Nat.le_of_ble_eq_true rfl⟩ ⟨(Nat.le_of_ble_eq_true rfl), (Nat.le_of_ble_eq_true rfl)⟩ (Nat.le_of_ble_eq_true rfl) (fun _ h => by cases h) (fun _ => rfl) (fun r_64 C_65 d_67 q_66 => ?_)
            obtain ⟨q_66a, h⟩ := q_66
            subst d_67
            show AW p l e _ s m args below meth c E M_F_copy true _ n _ _ _ [(2, v0), (0, v1), (0, v2), (0, v3), (0, v4), (0, v5), (2, PT (PT v0.toNat 10).toNat v1.toNat), (2, PT (PT v0.toNat 10).toNat v3.toNat)] [(0, r_64)] C_65
            exact AW.iret (dc hd_F_copy 38 rfl) rfl rfl (Nat.le_of_ble_eq_true rfl) (Nat.le_of_ble_eq_true rfl) ⟨rfl, h⟩
        · have h := h.2 c_35
          refine AW.ra_n (dc hd_F_copy 26 rfl) rfl rfl rfl ?_
          refine AW.iconst (dc hd_F_copy 27 rfl) (by decide) ?_
          refine AW.callV (As := [(0, 5)]) (rest := []) (ci := 9) (m_F_tell l E n C v0 5 _ h) cb_9_101 im_F_tell se_F_tell ⟨_, _, rfl⟩ (by decide) (dc hd_F_copy 28 rfl) g_16 rfl rfl ⟨Nat.le_of_ble_eq_true rfl, Nat.le_of_ble_eq_true rfl⟩ ⟨(Nat.le_of_ble_eq_true rfl), (Nat.le_of_ble_eq_true rfl)⟩ (Nat.le_of_ble_eq_true rfl) (fun _ h => by cases h) (fun _ => rfl) (fun r_68 C_69 d_71 q_70 => ?_)
          obtain ⟨q_70a, h⟩ := q_70
          subst d_71
          show AW p l e _ s m args below meth c E M_F_copy true _ n _ _ _ [(2, v0), (0, v1), (0, v2), (0, v3), (0, v4), (0, v5), (2, PT (PT v0.toNat 10).toNat v1.toNat), (2, PT (PT v0.toNat 10).toNat v3.toNat)] [(0, r_68)] C_69
          exact AW.iret (dc hd_F_copy 29 rfl) rfl rfl (Nat.le_of_ble_eq_true rfl) (Nat.le_of_ble_eq_true rfl) ⟨rfl, h⟩
    · have h := h.1 c_15
      refine AW.ra_n (dc hd_F_copy 6 rfl) rfl rfl rfl ?_
      refine AW.iconst (dc hd_F_copy 7 rfl) (by decide) ?_
      obtain ⟨g_73, h⟩ := h
      refine AW.callV (As := [(0, 0)]) (rest := []) (ci := 9) (m_F_tell l E n C v0 0 _ h) cb_9_101 im_F_tell se_F_tell ⟨_, _, rfl⟩ (by decide) (dc hd_F_copy 8 rfl) g_73 rfl rfl ⟨Nat.le_of_ble_eq_true rfl, Nat.le_of_ble_eq_true rfl⟩ ⟨(Nat.le_of_ble_eq_true rfl), (Nat.le_of_ble_eq_true rfl)⟩ (Nat.le_of_ble_eq_true rfl) (fun _ h => by cases h) (fun _ => rfl) (fun r_72 C_74 d_76 q_75 => ?_)
      obtain ⟨q_75a, h⟩ := q_75
      subst d_76
      show AW p l e _ s m args below meth c E M_F_copy true _ n _ _ _ [(2, v0), (0, v1), (0, v2), (0, v3), (0, v4), (0, v5), (9, 0), (9, 0)] [(0, r_72)] C_74
      exact AW.iret (dc hd_F_copy 9 rfl) rfl rfl (Nat.le_of_ble_eq_true rfl) (Nat.le_of_ble_eq_true rfl) ⟨rfl, h⟩
def J_G_isWord_82 (n : Nat) (C : Cn) (v2 : Int) (Q : Int → Prop) : Prop :=
  (v2 = 0 ∨ v2 = 1) ∧ (Q v2)
theorem aJ_G_isWord_82 (n : Nat) (C : Cn) (v2 : Int) (Q : Int → Prop) (h : J_G_isWord_82 n C v2 Q) : AW p l e R s m args below meth c E M_G_isWord true (fun r C2 n2 => C2 = C ∧ n2 = n ∧ Q r) n 0 0 82 [(9, 0), (9, 0), (0, v2), (9, 0)] [] C := by
  unfold J_G_isWord_82 at h
  refine AW.iload_n (dc hd_G_isWord 44 rfl) rfl ?_
  obtain ⟨g_7, h⟩ := h
  exact AW.zret (dc hd_G_isWord 45 rfl) rfl rfl (Nat.le_of_ble_eq_true rfl) (Nat.le_of_ble_eq_true rfl) g_7 ⟨rfl, rfl, h⟩
def J_G_isWord_75 (n : Nat) (C : Cn) (v0 v1 v3 s0 : Int) (kz39 : Int × Int → Prop) (Q : Int → Prop) : Prop :=
  kz39 (s0, w32 (v3 + 1))
theorem aJ_G_isWord_75 (n : Nat) (C : Cn) (v0 v1 v3 s0 : Int) (kz39 : Int × Int → Prop) (Q : Int → Prop) (hkz39 : ∀ (z2 : Int) (z3 : Int), kz39 (z2, z3) → AW p l e R s m args below meth c E M_G_isWord true (fun r C2 n2 => C2 = C ∧ n2 = n ∧ Q r) n 0 0 39 [(2, v0), (4, v1), (0, z2), (0, z3)] [] C) (h : J_G_isWord_75 n C v0 v1 v3 s0 kz39 Q) : AW p l e R s m args below meth c E M_G_isWord true (fun r C2 n2 => C2 = C ∧ n2 = n ∧ Q r) n 0 0 75 [(2, v0), (4, v1), (9, 0), (0, v3)] [(0, s0)] C := by
  unfold J_G_isWord_75 at h
  refine AW.istore_n [(2, v0), (4, v1), (0, s0), (0, v3)] (dc hd_G_isWord 41 rfl) (Nat.le_of_ble_eq_true rfl) rfl rfl ?_
  refine AW.iinc [(2, v0), (4, v1), (0, s0), (0, w32 (v3 + 1))] (dc hd_G_isWord 42 rfl) rfl (Nat.le_of_ble_eq_true rfl) rfl rfl ?_
  refine AW.goto (t := 39) (dc hd_G_isWord 43 rfl) (by decide) ?_
  exact hkz39 s0 (w32 (v3 + 1)) h
def B_G_isWord_39 (n : Nat) (C : Cn) (v0 v1 : Int) (Q : Int → Prop) (kz39 : Int × Int → Prop) (z : Int × Int) : Prop := match z with
  | (v2, v3) => (0 : Int) < v1 ∧ ((v1 : Int) ≤ 10 ∧ ((sLen v1 ≤ v3 → (J_G_isWord_82 n C v2 Q)) ∧ (¬ sLen v1 ≤ v3 → ((v2 = 0 → (J_G_isWord_82 n C v2 Q)) ∧ (¬ v2 = 0 → (okO n v0 10 ∧ (okO n (PT v0.toNat 37) 12 ∧ (okI (PT v0.toNat 37) (w32 (C v0.toNat 39 + v3)) ∧ (0 ≤ v3 ∧ (v3 < sLen v1 ∧ (J_G_isWord_75 n C v0 v1 v3 (if C (PT v0.toNat 37).toNat (w32 (C v0.toNat 39 + v3)).toNat = sChr v1 v3 then 1 else 0) kz39 Q)))))))))))
theorem bB_G_isWord_39 (n : Nat) (C : Cn) (v0 v1 : Int) (Q : Int → Prop) (kz39 : Int × Int → Prop) (hkz39 : ∀ (z2 : Int) (z3 : Int), kz39 (z2, z3) → AW p l e R s m args below meth c E M_G_isWord true (fun r C2 n2 => C2 = C ∧ n2 = n ∧ Q r) n 0 0 39 [(2, v0), (4, v1), (0, z2), (0, z3)] [] C) (v2 : Int) (v3 : Int) (h : B_G_isWord_39 n C v0 v1 Q kz39 (v2, v3)) : AW p l e R s m args below meth c E M_G_isWord true (fun r C2 n2 => C2 = C ∧ n2 = n ∧ Q r) n 0 0 39 [(2, v0), (4, v1), (0, v2), (0, v3)] [] C := by
  unfold B_G_isWord_39 at h
  dsimp only at h
  refine AW.iload_n (dc hd_G_isWord 21 rfl) rfl ?_
  refine AW.ra_n (dc hd_G_isWord 22 rfl) rfl rfl rfl ?_
  obtain ⟨g_4, h⟩ := h
  obtain ⟨g_5, h⟩ := h
  refine AW.slen (dc hd_G_isWord 23 rfl) g_4 g_5 slk_10_437 ⟨Nat.le_of_ble_eq_true rfl, Nat.le_of_ble_eq_true rfl⟩ (Nat.le_of_ble_eq_true rfl) (Nat.le_of_ble_eq_true rfl) (Nat.le_of_ble_eq_true rfl) ?_
  refine AW.icmp_ge (t := 82) (dc hd_G_isWord 24 rfl) (by decide) (fun c_6 => ?_) (fun c_6 => ?_)
  · have h := h.1 c_6
    refine AW.fgt [(9, 0), (9, 0), (0, v2), (9, 0)] ⟨.inr rfl, .inr rfl, .inl rfl, .inr rfl, trivial⟩ ?_
    exact aJ_G_isWord_82 n C v2 Q h
  · have h := h.2 c_6
    refine AW.iload_n (dc hd_G_isWord 25 rfl) rfl ?_
    refine AW.if_eq (t := 82) (dc hd_G_isWord 26 rfl) (by decide) (fun c_8 => ?_) (fun c_8 => ?_)
    · have h := h.1 c_8
      refine AW.fgt [(9, 0), (9, 0), (0, v2), (9, 0)] ⟨.inr rfl, .inr rfl, .inl rfl, .inr rfl, trivial⟩ ?_
      exact aJ_G_isWord_82 n C v2 Q h
    · have h := h.2 c_8
      refine AW.ra_n (dc hd_G_isWord 27 rfl) rfl rfl rfl ?_
      obtain ⟨g_9, h⟩ := h
      refine AW.getp fl_10_79 (dc hd_G_isWord 28 rfl) g_9 rfl ?_
      refine AW.ra_n (dc hd_G_isWord 29 rfl) rfl rfl rfl ?_
      refine AW.getf fl_10_415 (dc hd_G_isWord 30 rfl) g_9 ?_
      refine AW.iload_n (dc hd_G_isWord 31 rfl) rfl ?_
      refine AW.iadd (dc hd_G_isWord 32 rfl) ?_
      obtain ⟨g_10, h⟩ := h
      obtain ⟨g_11, h⟩ := h
      refine AW.iald (dc hd_G_isWord 33 rfl) g_10 g_11 ?_
      refine AW.ra_n (dc hd_G_isWord 34 rfl) rfl rfl rfl ?_
      refine AW.iload_n (dc hd_G_isWord 35 rfl) rfl ?_
      obtain ⟨g_12, h⟩ := h
      obtain ⟨g_13, h⟩ := h
      refine AW.schr (dc hd_G_isWord 36 rfl) g_4 g_5 g_12 g_13 slk_10_442 ⟨Nat.le_of_ble_eq_true rfl, Nat.le_of_ble_eq_true rfl⟩ (Nat.le_of_ble_eq_true rfl) (Nat.le_of_ble_eq_true rfl) (Nat.le_of_ble_eq_true rfl) ?_
      refine AW.icmp_ne (t := 74) (dc hd_G_isWord 37 rfl) (by decide) (fun c_14 => ?_) (fun c_14 => ?_)
      · simp only [if_neg (show ¬ (C (PT v0.toNat 37).toNat (w32 (C v0.toNat 39 + v3)).toNat = sChr v1 v3) from c_14)] at h
        refine AW.iconst (dc hd_G_isWord 40 rfl) (by decide) ?_
        refine AW.fgt [(2, v0), (4, v1), (9, 0), (0, v3)] ⟨.inl rfl, .inl rfl, .inr rfl, .inl rfl, trivial⟩ ?_
        exact aJ_G_isWord_75 n C _ _ _ _ kz39 Q hkz39 h
      · simp only [if_pos (show C (PT v0.toNat 37).toNat (w32 (C v0.toNat 39 + v3)).toNat = sChr v1 v3 from c_14)] at h
        refine AW.iconst (dc hd_G_isWord 38 rfl) (by decide) ?_
        refine AW.goto (t := 75) (dc hd_G_isWord 39 rfl) (by decide) ?_
        refine AW.fgt [(2, v0), (4, v1), (9, 0), (0, v3)] ⟨.inl rfl, .inl rfl, .inr rfl, .inl rfl, trivial⟩ ?_
        exact aJ_G_isWord_75 n C _ _ _ _ kz39 Q hkz39 h
theorem aB_G_isWord_39 (n : Nat) (C : Cn) (v0 v1 : Int) (Q : Int → Prop) : ∀ (f : Nat) (z : Int × Int), lp (B_G_isWord_39 n C v0 v1 Q) f z → AW p l e R s m args below meth c E M_G_isWord true (fun r C2 n2 => C2 = C ∧ n2 = n ∧ Q r) n 0 0 39 [(2, v0), (4, v1), (0, z.1), (0, z.2)] [] C := by
  intro f
  induction f with
  | zero => intro z h; exact False.elim h
  | succ f ih => intro z h; exact bB_G_isWord_39 n C v0 v1 Q (lp (B_G_isWord_39 n C v0 v1 Q) f) (fun a0 a1 h => ih (a0, a1) h) z.1 z.2 h
def J_G_isWord_36 (n : Nat) (C : Cn) (v0 v1 s0 : Int) (Q : Int → Prop) : Prop :=
  ∃ f_21 : Nat, lp (B_G_isWord_39 n C v0 v1 Q) f_21 (s0, 0)
theorem aJ_G_isWord_36 (n : Nat) (C : Cn) (v0 v1 s0 : Int) (Q : Int → Prop) (h : J_G_isWord_36 n C v0 v1 s0 Q) : AW p l e R s m args below meth c E M_G_isWord true (fun r C2 n2 => C2 = C ∧ n2 = n ∧ Q r) n 0 0 36 [(2, v0), (4, v1), (9, 0), (9, 0)] [(0, s0)] C := by
  unfold J_G_isWord_36 at h
  refine AW.istore_n [(2, v0), (4, v1), (0, s0), (9, 0)] (dc hd_G_isWord 18 rfl) (Nat.le_of_ble_eq_true rfl) rfl rfl ?_
  refine AW.iconst (dc hd_G_isWord 19 rfl) (by decide) ?_
  refine AW.istore_n [(2, v0), (4, v1), (0, s0), (0, 0)] (dc hd_G_isWord 20 rfl) (Nat.le_of_ble_eq_true rfl) rfl rfl ?_
  obtain ⟨f_21, h⟩ := h
  exact aB_G_isWord_39 n C v0 v1 Q f_21 (s0, 0) h
def P_G_isWord (n : Nat) (C : Cn) (v0 v1 : Int) (Q : Int → Prop) : Prop :=
  okO n v0 10 ∧ ((0 ≤ C v0.toNat 43 → (∃ f_15 : Nat, lp (B_G_isWord_39 n C v0 v1 Q) f_15 (0, 0))) ∧ (¬ 0 ≤ C v0.toNat 43 → ((C v0.toNat 41 = 1 → ((0 : Int) < v1 ∧ ((v1 : Int) ≤ 10 ∧ (J_G_isWord_36 n C v0 v1 (if w32 (C v0.toNat 40 - (C v0.toNat 39)) = sLen v1 then 1 else 0) Q)))) ∧ (¬ C v0.toNat 41 = 1 → (∃ f_17 : Nat, lp (B_G_isWord_39 n C v0 v1 Q) f_17 (0, 0))))))
theorem m_G_isWord (l : Launch) (E : Ev) (n : Nat) (C : Cn) (v0 v1 : Int) (Q : Int → Prop) (h : P_G_isWord n C v0 v1 Q) : MA l y_G_isWord M_G_isWord E true C n [(2, v0), (4, v1)] (fun r C2 n2 => C2 = C ∧ n2 = n ∧ Q r) := by
  refine MA.of (by decide) rfl rfl 2 rfl (fun p e s m args below meth c => ?_)
  show AW p l e _ s m args below meth c E M_G_isWord true _ n 0 0 0 [(2, v0), (4, v1), (9, 0), (9, 0)] [] C
  unfold P_G_isWord at h
  refine AW.ra_n (dc hd_G_isWord 0 rfl) rfl rfl rfl ?_
  obtain ⟨g_1, h⟩ := h
  refine AW.getf fl_10_431 (dc hd_G_isWord 1 rfl) g_1 ?_
  refine AW.if_ge (t := 35) (dc hd_G_isWord 2 rfl) (by decide) (fun c_2 => ?_) (fun c_2 => ?_)
  · have h := h.1 c_2
    refine AW.iconst (dc hd_G_isWord 17 rfl) (by decide) ?_
    refine AW.istore_n [(2, v0), (4, v1), (0, 0), (9, 0)] (dc hd_G_isWord 18 rfl) (Nat.le_of_ble_eq_true rfl) rfl rfl ?_
    refine AW.iconst (dc hd_G_isWord 19 rfl) (by decide) ?_
    refine AW.istore_n [(2, v0), (4, v1), (0, 0), (0, 0)] (dc hd_G_isWord 20 rfl) (Nat.le_of_ble_eq_true rfl) rfl rfl ?_
    obtain ⟨f_15, h⟩ := h
    exact aB_G_isWord_39 n C v0 v1 Q f_15 (0, 0) h
  · have h := h.2 c_2
    refine AW.ra_n (dc hd_G_isWord 3 rfl) rfl rfl rfl ?_
    refine AW.getf fl_10_428 (dc hd_G_isWord 4 rfl) g_1 ?_
    refine AW.iconst (dc hd_G_isWord 5 rfl) (by decide) ?_
    refine AW.icmp_ne (t := 35) (dc hd_G_isWord 6 rfl) (by decide) (fun c_16 => ?_) (fun c_16 => ?_)
    · have h := h.2 c_16
      refine AW.iconst (dc hd_G_isWord 17 rfl) (by decide) ?_
      refine AW.istore_n [(2, v0), (4, v1), (0, 0), (9, 0)] (dc hd_G_isWord 18 rfl) (Nat.le_of_ble_eq_true rfl) rfl rfl ?_
      refine AW.iconst (dc hd_G_isWord 19 rfl) (by decide) ?_
      refine AW.istore_n [(2, v0), (4, v1), (0, 0), (0, 0)] (dc hd_G_isWord 20 rfl) (Nat.le_of_ble_eq_true rfl) rfl rfl ?_
      obtain ⟨f_17, h⟩ := h
      exact aB_G_isWord_39 n C v0 v1 Q f_17 (0, 0) h
    · have h := h.1 c_16
      refine AW.ra_n (dc hd_G_isWord 7 rfl) rfl rfl rfl ?_
      refine AW.getf fl_10_422 (dc hd_G_isWord 8 rfl) g_1 ?_
      refine AW.ra_n (dc hd_G_isWord 9 rfl) rfl rfl rfl ?_
      refine AW.getf fl_10_415 (dc hd_G_isWord 10 rfl) g_1 ?_
      refine AW.isub (dc hd_G_isWord 11 rfl) ?_
      refine AW.ra_n (dc hd_G_isWord 12 rfl) rfl rfl rfl ?_
      obtain ⟨g_18, h⟩ := h
      obtain ⟨g_19, h⟩ := h
      refine AW.slen (dc hd_G_isWord 13 rfl) g_18 g_19 slk_10_437 ⟨Nat.le_of_ble_eq_true rfl, Nat.le_of_ble_eq_true rfl⟩ (Nat.le_of_ble_eq_true rfl) (Nat.le_of_ble_eq_true rfl) (Nat.le_of_ble_eq_true rfl) ?_
      refine AW.icmp_ne (t := 35) (dc hd_G_isWord 14 rfl) (by decide) (fun c_20 => ?_) (fun c_20 => ?_)
      · simp only [if_neg (show ¬ (w32 (C v0.toNat 40 - (C v0.toNat 39)) = sLen v1) from c_20)] at h
        refine AW.iconst (dc hd_G_isWord 17 rfl) (by decide) ?_
        exact aJ_G_isWord_36 n C _ _ _ Q h
      · simp only [if_pos (show w32 (C v0.toNat 40 - (C v0.toNat 39)) = sLen v1 from c_20)] at h
        refine AW.iconst (dc hd_G_isWord 15 rfl) (by decide) ?_
        refine AW.goto (t := 36) (dc hd_G_isWord 16 rfl) (by decide) ?_
        exact aJ_G_isWord_36 n C _ _ _ Q h
def P_G_word (n : Nat) (C : Cn) (v0 v1 : Int) (Q : Int → Cn → Prop) : Prop :=
  okO n v0 10 ∧ (P_G_isWord n C v0 v1 (fun (r_1 : Int) => P_G_must n C v0 r_1 (fun (_ : Int) (C_6 : Cn) => P_G_passes n C_6 v0 (fun (_ : Int) (C_10 : Cn) => Q 0 C_10))))
theorem m_G_word (l : Launch) (E : Ev) (n : Nat) (C : Cn) (v0 v1 : Int) (Q : Int → Cn → Prop) (h : P_G_word n C v0 v1 Q) : MA l y_G_word M_G_word E true C n [(2, v0), (4, v1)] (fun r C2 n2 => n2 = n ∧ Q r C2) := by
  refine MA.of (by decide) rfl rfl 0 rfl (fun p e s m args below meth c => ?_)
  show AW p l e _ s m args below meth c E M_G_word true _ n 0 0 0 [(2, v0), (4, v1)] [] C
  unfold P_G_word at h
  refine AW.ra_n (dc hd_G_word 0 rfl) rfl rfl rfl ?_
  refine AW.ra_n (dc hd_G_word 1 rfl) rfl rfl rfl ?_
  refine AW.ra_n (dc hd_G_word 2 rfl) rfl rfl rfl ?_
  obtain ⟨g_2, h⟩ := h
  refine AW.callV (As := [(4, v1)]) (rest := [(2, v0)]) (ci := 10) (m_G_isWord l E n C v0 v1 _ h) cb_10_453 im_G_isWord se_G_isWord ⟨_, _, rfl⟩ (by decide) (dc hd_G_word 3 rfl) g_2 rfl rfl ⟨Nat.le_of_ble_eq_true rfl, Nat.le_of_ble_eq_true rfl⟩ ⟨(Nat.le_of_ble_eq_true rfl), (Nat.le_of_ble_eq_true rfl)⟩ (Nat.le_of_ble_eq_true rfl) (fun _ h => by cases h) (fun _ => rfl) (fun r_1 D_4 d_5 q_3 => ?_)
  obtain ⟨q_3a, q_3b, h⟩ := q_3
  subst D_4
  subst d_5
  show AW p l e _ s m args below meth c E M_G_word true _ n _ _ _ [(2, v0), (4, v1)] [(0, r_1), (2, v0)] C
  refine AW.callV (As := [(0, r_1)]) (rest := []) (ci := 10) (m_G_must l E n C v0 r_1 _ h) cb_10_446 im_G_must se_G_must ⟨_, _, rfl⟩ (by decide) (dc hd_G_word 4 rfl) g_2 rfl rfl ⟨Nat.le_of_ble_eq_true rfl, Nat.le_of_ble_eq_true rfl⟩ ⟨(Nat.le_of_ble_eq_true rfl), (Nat.le_of_ble_eq_true rfl)⟩ (Nat.le_of_ble_eq_true rfl) (fun _ h => by cases h) (fun _ => rfl) (fun u_8 C_6 d_9 q_7 => ?_)
  obtain ⟨q_7a, h⟩ := q_7
  subst d_9
  show AW p l e _ s m args below meth c E M_G_word true _ n _ _ _ [(2, v0), (4, v1)] [] C_6
  refine AW.ra_n (dc hd_G_word 5 rfl) rfl rfl rfl ?_
  refine AW.callV (As := []) (rest := []) (ci := 10) (m_G_passes l E n C_6 v0 _ h) cb_10_450 im_G_passes se_G_passes ⟨_, _, rfl⟩ (by decide) (dc hd_G_word 6 rfl) g_2 rfl rfl ⟨Nat.le_of_ble_eq_true rfl, Nat.le_of_ble_eq_true rfl⟩ ⟨(Nat.le_of_ble_eq_true rfl), (Nat.le_of_ble_eq_true rfl)⟩ (Nat.le_of_ble_eq_true rfl) (fun _ h => by cases h) (fun _ => rfl) (fun u_12 C_10 d_13 q_11 => ?_)
  obtain ⟨q_11a, h⟩ := q_11
  subst d_13
  show AW p l e _ s m args below meth c E M_G_word true _ n _ _ _ [(2, v0), (4, v1)] [] C_10
  exact AW.vret (dc hd_G_word 7 rfl) rfl rfl (Nat.le_of_ble_eq_true rfl) (Nat.le_of_ble_eq_true rfl) ⟨rfl, h⟩
def B_G_kindHere_44 (n : Nat) (C : Cn) (kc ks : Nat) (v0 v1 : Int) (Q : Int → Cn → Nat → Prop) (kz44 : Int → Prop) (v2 : Int) : Prop :=
  okO n v1 19 ∧ ((((LAY v1.toNat).2 : Int) ≤ v2 → (kc ≤ 1 ∧ (ks ≤ 6 ∧ (Q (-1) C n)))) ∧ (¬ ((LAY v1.toNat).2 : Int) ≤ v2 → (okI v1 v2 ∧ (okO n v0 10 ∧ (kc ≤ 1 ∧ (ks ≤ 6 ∧ (P_G_isWord n C v0 (C v1.toNat v2.toNat) (fun (r_33 : Int) => (r_33 = 0 → (kz44 (w32 (v2 + 1)))) ∧ (¬ r_33 = 0 → (Q v2 C n))))))))))
theorem bB_G_kindHere_44 (n : Nat) (C : Cn) (kc ks : Nat) (v0 v1 : Int) (Q : Int → Cn → Nat → Prop) (kz44 : Int → Prop) (hkz44 : ∀ (z2 : Int), kz44 z2 → AW p l e R s m args below meth c E M_G_kindHere true Q n kc ks 44 [(2, v0), (2, v1), (0, z2)] [] C) (v2 : Int) (h : B_G_kindHere_44 n C kc ks v0 v1 Q kz44 v2) : AW p l e R s m args below meth c E M_G_kindHere true Q n kc ks 44 [(2, v0), (2, v1), (0, v2)] [] C := by
  unfold B_G_kindHere_44 at h
  refine AW.iload_n (dc hd_G_kindHere 29 rfl) rfl ?_
  refine AW.ra_n (dc hd_G_kindHere 30 rfl) rfl rfl rfl ?_
  obtain ⟨g_28, h⟩ := h
  refine AW.alen19 (dc hd_G_kindHere 31 rfl) g_28 ?_
  refine AW.icmp_ge (t := 68) (dc hd_G_kindHere 32 rfl) (by decide) (fun c_29 => ?_) (fun c_29 => ?_)
  · have h := h.1 c_29
    refine AW.iconst (dc hd_G_kindHere 43 rfl) (by decide) ?_
    obtain ⟨g_30, h⟩ := h
    obtain ⟨g_31, h⟩ := h
    exact AW.iret (dc hd_G_kindHere 44 rfl) rfl rfl g_30 g_31 h
  · have h := h.2 c_29
    refine AW.ra_n (dc hd_G_kindHere 33 rfl) rfl rfl rfl ?_
    refine AW.ra_n (dc hd_G_kindHere 34 rfl) rfl rfl rfl ?_
    refine AW.iload_n (dc hd_G_kindHere 35 rfl) rfl ?_
    obtain ⟨g_32, h⟩ := h
    refine AW.saald (dc hd_G_kindHere 36 rfl) g_28 g_32 ?_
    obtain ⟨g_34, h⟩ := h
    obtain ⟨g_35, h⟩ := h
    obtain ⟨g_36, h⟩ := h
    refine AW.callV (As := [(4, C v1.toNat v2.toNat)]) (rest := []) (ci := 10) (m_G_isWord l E n C v0 (C v1.toNat v2.toNat) _ h) cb_10_453 im_G_isWord se_G_isWord ⟨_, _, rfl⟩ (by decide) (dc hd_G_kindHere 37 rfl) g_34 rfl rfl ⟨Nat.le_of_ble_eq_true rfl, Nat.le_of_ble_eq_true rfl⟩ ⟨g_35, g_36⟩ (Nat.le_of_ble_eq_true rfl) (fun _ h => by cases h) (fun _ => rfl) (fun r_33 D_38 d_39 q_37 => ?_)
    obtain ⟨q_37a, q_37b, h⟩ := q_37
    subst D_38
    subst d_39
    show AW p l e _ s m args below meth c E M_G_kindHere true _ n _ _ _ [(2, v0), (2, v1), (0, v2)] [(0, r_33)] C
    refine AW.if_eq (t := 62) (dc hd_G_kindHere 38 rfl) (by decide) (fun c_40 => ?_) (fun c_40 => ?_)
    · have h := h.1 c_40
      refine AW.iinc [(2, v0), (2, v1), (0, w32 (v2 + 1))] (dc hd_G_kindHere 41 rfl) rfl (Nat.le_of_ble_eq_true rfl) rfl rfl ?_
      refine AW.goto (t := 44) (dc hd_G_kindHere 42 rfl) (by decide) ?_
      exact hkz44 (w32 (v2 + 1)) h
    · have h := h.2 c_40
      refine AW.iload_n (dc hd_G_kindHere 39 rfl) rfl ?_
      exact AW.iret (dc hd_G_kindHere 40 rfl) rfl rfl g_35 g_36 h
theorem aB_G_kindHere_44 (n : Nat) (C : Cn) (kc ks : Nat) (v0 v1 : Int) (Q : Int → Cn → Nat → Prop) : ∀ (f : Nat) (z : Int), lp (B_G_kindHere_44 n C kc ks v0 v1 Q) f z → AW p l e R s m args below meth c E M_G_kindHere true Q n kc ks 44 [(2, v0), (2, v1), (0, z)] [] C := by
  intro f
  induction f with
  | zero => intro z h; exact False.elim h
  | succ f ih => intro z h; exact bB_G_kindHere_44 n C kc ks v0 v1 Q (lp (B_G_kindHere_44 n C kc ks v0 v1 Q) f) (fun a0 h => ih a0 h) z h
def P_G_kindHere (n : Nat) (C : Cn) (v0 : Int) (Q : Int → Cn → Nat → Prop) : Prop :=
  LAY n = (19, 6) ∧ (N0 ≤ n ∧ (okO (n + 1) ((n : Nat) : Int) 19 ∧ (okI ((n : Nat) : Int) 0 ∧ ((0 : Int) < 1 ∧ ((1 : Int) ≤ 10 ∧ (∀ C_7 : Cn, C_7 = wr C (((n : Nat) : Int)).toNat 0 1 → (okI ((n : Nat) : Int) 1 ∧ ((0 : Int) < 2 ∧ ((2 : Int) ≤ 10 ∧ (∀ C_11 : Cn, C_11 = wr C_7 (((n : Nat) : Int)).toNat 1 2 → (okI ((n : Nat) : Int) 2 ∧ ((0 : Int) < 3 ∧ ((3 : Int) ≤ 10 ∧ (∀ C_15 : Cn, C_15 = wr C_11 (((n : Nat) : Int)).toNat 2 3 → (okI ((n : Nat) : Int) 3 ∧ ((0 : Int) < 4 ∧ ((4 : Int) ≤ 10 ∧ (∀ C_19 : Cn, C_19 = wr C_15 (((n : Nat) : Int)).toNat 3 4 → (okI ((n : Nat) : Int) 4 ∧ ((0 : Int) < 5 ∧ ((5 : Int) ≤ 10 ∧ (∀ C_23 : Cn, C_23 = wr C_19 (((n : Nat) : Int)).toNat 4 5 → (okI ((n : Nat) : Int) 5 ∧ ((0 : Int) < 6 ∧ ((6 : Int) ≤ 10 ∧ (∀ C_27 : Cn, C_27 = wr C_23 (((n : Nat) : Int)).toNat 5 6 → (∃ f_41 : Nat, lp (B_G_kindHere_44 (n + 1) C_27 1 6 v0 ((n : Nat) : Int) Q) f_41 0)))))))))))))))))))))))))))
theorem m_G_kindHere (l : Launch) (E : Ev) (n : Nat) (C : Cn) (v0 : Int) (Q : Int → Cn → Nat → Prop) (h : P_G_kindHere n C v0 Q) : MA l y_G_kindHere M_G_kindHere E true C n [(2, v0)] Q := by
  refine MA.of (by decide) rfl rfl 2 rfl (fun p e s m args below meth c => ?_)
  show AW p l e _ s m args below meth c E M_G_kindHere true _ n 0 0 0 [(2, v0), (9, 0), (9, 0)] [] C
  unfold P_G_kindHere at h
  refine AW.bipush (dc hd_G_kindHere 0 rfl) (by decide) (by decide +kernel) ?_
  obtain ⟨g_1, h⟩ := h
  obtain ⟨g_2, h⟩ := h
  refine AW.anew19 (dc hd_G_kindHere 1 rfl) nwa_10_438 g_1 (by decide) (fun _ => g_2) (Nat.le_of_ble_eq_true rfl) (Nat.le_of_ble_eq_true rfl) ?_
  refine AW.rdup (dc hd_G_kindHere 2 rfl) rfl ?_
  refine AW.iconst (dc hd_G_kindHere 3 rfl) (by decide) ?_
  refine AW.ldcSw (t := 0) (dc hd_G_kindHere 4 rfl) (by decide +kernel) ?_
  obtain ⟨g_3, h⟩ := h
  obtain ⟨g_4, h⟩ := h
  obtain ⟨g_5, h⟩ := h
  obtain ⟨g_6, h⟩ := h
  refine AW.naast19 (dc hd_G_kindHere 5 rfl) g_3 g_4 g_5 g_6 (fun C_7 eC_7 => ?_)
  have h := h C_7 eC_7
  refine AW.rdup (dc hd_G_kindHere 6 rfl) rfl ?_
  refine AW.iconst (dc hd_G_kindHere 7 rfl) (by decide) ?_
  refine AW.ldcSw (t := 1) (dc hd_G_kindHere 8 rfl) (by decide +kernel) ?_
  obtain ⟨g_8, h⟩ := h
  obtain ⟨g_9, h⟩ := h
  obtain ⟨g_10, h⟩ := h
  refine AW.naast19 (dc hd_G_kindHere 9 rfl) g_3 g_8 g_9 g_10 (fun C_11 eC_11 => ?_)
  have h := h C_11 eC_11
  refine AW.rdup (dc hd_G_kindHere 10 rfl) rfl ?_
  refine AW.iconst (dc hd_G_kindHere 11 rfl) (by decide) ?_
  refine AW.ldcSw (t := 2) (dc hd_G_kindHere 12 rfl) (by decide +kernel) ?_
  obtain ⟨g_12, h⟩ := h
  obtain ⟨g_13, h⟩ := h
  obtain ⟨g_14, h⟩ := h
  refine AW.naast19 (dc hd_G_kindHere 13 rfl) g_3 g_12 g_13 g_14 (fun C_15 eC_15 => ?_)
  have h := h C_15 eC_15
  refine AW.rdup (dc hd_G_kindHere 14 rfl) rfl ?_
  refine AW.iconst (dc hd_G_kindHere 15 rfl) (by decide) ?_
  refine AW.ldcSw (t := 3) (dc hd_G_kindHere 16 rfl) (by decide +kernel) ?_
  obtain ⟨g_16, h⟩ := h
  obtain ⟨g_17, h⟩ := h
  obtain ⟨g_18, h⟩ := h
  refine AW.naast19 (dc hd_G_kindHere 17 rfl) g_3 g_16 g_17 g_18 (fun C_19 eC_19 => ?_)
  have h := h C_19 eC_19
  refine AW.rdup (dc hd_G_kindHere 18 rfl) rfl ?_
  refine AW.iconst (dc hd_G_kindHere 19 rfl) (by decide) ?_
  refine AW.ldcSw (t := 4) (dc hd_G_kindHere 20 rfl) (by decide +kernel) ?_
  obtain ⟨g_20, h⟩ := h
  obtain ⟨g_21, h⟩ := h
  obtain ⟨g_22, h⟩ := h
  refine AW.naast19 (dc hd_G_kindHere 21 rfl) g_3 g_20 g_21 g_22 (fun C_23 eC_23 => ?_)
  have h := h C_23 eC_23
  refine AW.rdup (dc hd_G_kindHere 22 rfl) rfl ?_
  refine AW.iconst (dc hd_G_kindHere 23 rfl) (by decide) ?_
  refine AW.ldcSw (t := 5) (dc hd_G_kindHere 24 rfl) (by decide +kernel) ?_
  obtain ⟨g_24, h⟩ := h
  obtain ⟨g_25, h⟩ := h
  obtain ⟨g_26, h⟩ := h
  refine AW.naast19 (dc hd_G_kindHere 25 rfl) g_3 g_24 g_25 g_26 (fun C_27 eC_27 => ?_)
  have h := h C_27 eC_27
  refine AW.rs_n [(2, v0), (2, ((n : Nat) : Int)), (9, 0)] (dc hd_G_kindHere 26 rfl) (Nat.le_of_ble_eq_true rfl) rfl rfl rfl ?_
  refine AW.iconst (dc hd_G_kindHere 27 rfl) (by decide) ?_
  refine AW.istore_n [(2, v0), (2, ((n : Nat) : Int)), (0, 0)] (dc hd_G_kindHere 28 rfl) (Nat.le_of_ble_eq_true rfl) rfl rfl ?_
  obtain ⟨f_41, h⟩ := h
  exact aB_G_kindHere_44 (n + 1) C_27 1 6 v0 ((n : Nat) : Int) Q f_41 0 h
def J_G_segmentText_105 (n : Nat) (C : Cn) (v0 v1 v2 v3 v4 v5 v6 s0 s1 : Int) (Q : Int → Cn → Prop) : Prop :=
  okO n s0 10 ∧ (P_G_must n C s0 s1 (fun (_ : Int) (C_46 : Cn) => okO n v0 10 ∧ ((C_46 v0.toNat 43 < 0 → (P_G_lays n C_46 (PT v0.toNat 9) (w32 (w32 (10 * v1) + v2)) v3 v4 v5 v6 (fun (_ : Int) (C_52 : Cn) => P_G_stands n C_52 v0 (PT v0.toNat 9) (-1) 1 (fun (r_56 : Int) (C_57 : Cn) => P_G_must n C_57 v0 r_56 (fun (_ : Int) (C_60 : Cn) => (C_60 v0.toNat 43 < 0 → (okO n (PT v0.toNat 1) 17 ∧ (okI (PT v0.toNat 1) (C_60 v0.toNat 0) ∧ (P_G_copies n C_60 (PT v0.toNat 9) (PT (PT v0.toNat 1).toNat (C_60 v0.toNat 0).toNat) (fun (_ : Int) (C_67 : Cn) => ∀ C_71 : Cn, C_71 = wr C_67 v0.toNat 0 (w32 (C_67 v0.toNat 0 + 1)) → (P_G_passes n C_71 v0 (fun (_ : Int) (C_72 : Cn) => Q 0 C_72))))))) ∧ (¬ C_60 v0.toNat 43 < 0 → (Q 0 C_60))))))) ∧ (¬ C_46 v0.toNat 43 < 0 → (Q 0 C_46)))))
theorem aJ_G_segmentText_105 (n : Nat) (C : Cn) (v0 v1 v2 v3 v4 v5 v6 s0 s1 : Int) (Q : Int → Cn → Prop) (h : J_G_segmentText_105 n C v0 v1 v2 v3 v4 v5 v6 s0 s1 Q) : AW p l e R s m args below meth c E M_G_segmentText true (fun r C2 n2 => n2 = n ∧ Q r C2) n 0 0 105 [(2, v0), (0, v1), (0, v2), (0, v3), (0, v4), (0, v5), (0, v6)] [(0, s1), (2, s0)] C := by
  unfold J_G_segmentText_105 at h
  obtain ⟨g_45, h⟩ := h
  refine AW.callV (As := [(0, s1)]) (rest := []) (ci := 10) (m_G_must l E n C s0 s1 _ h) cb_10_446 im_G_must se_G_must ⟨_, _, rfl⟩ (by decide) (dc hd_G_segmentText 55 rfl) g_45 rfl rfl ⟨Nat.le_of_ble_eq_true rfl, Nat.le_of_ble_eq_true rfl⟩ ⟨(Nat.le_of_ble_eq_true rfl), (Nat.le_of_ble_eq_true rfl)⟩ (Nat.le_of_ble_eq_true rfl) (fun _ h => by cases h) (fun _ => rfl) (fun u_48 C_46 d_49 q_47 => ?_)
  obtain ⟨q_47a, h⟩ := q_47
  subst d_49
  show AW p l e _ s m args below meth c E M_G_segmentText true _ n _ _ _ [(2, v0), (0, v1), (0, v2), (0, v3), (0, v4), (0, v5), (0, v6)] [] C_46
  refine AW.ra_n (dc hd_G_segmentText 56 rfl) rfl rfl rfl ?_
  obtain ⟨g_50, h⟩ := h
  refine AW.getf fl_10_431 (dc hd_G_segmentText 57 rfl) g_50 ?_
  refine AW.if_lt (t := 116) (dc hd_G_segmentText 58 rfl) (by decide) (fun c_51 => ?_) (fun c_51 => ?_)
  · have h := h.1 c_51
    refine AW.ra_n (dc hd_G_segmentText 60 rfl) rfl rfl rfl ?_
    refine AW.getp fl_10_25 (dc hd_G_segmentText 61 rfl) g_50 rfl ?_
    refine AW.bipush (dc hd_G_segmentText 62 rfl) (by decide) (by decide +kernel) ?_
    refine AW.iload_n (dc hd_G_segmentText 63 rfl) rfl ?_
    refine AW.imul (dc hd_G_segmentText 64 rfl) ?_
    refine AW.iload_n (dc hd_G_segmentText 65 rfl) rfl ?_
    refine AW.iadd (dc hd_G_segmentText 66 rfl) ?_
    refine AW.iload_n (dc hd_G_segmentText 67 rfl) rfl ?_
    refine AW.iload (dc hd_G_segmentText 68 rfl) rfl ?_
    refine AW.iload (dc hd_G_segmentText 69 rfl) rfl ?_
    refine AW.iload (dc hd_G_segmentText 70 rfl) rfl ?_
    refine AW.callS (As := [(2, PT v0.toNat 9), (0, w32 (w32 (10 * v1) + v2)), (0, v3), (0, v4), (0, v5), (0, v6)]) (rest := []) (m_G_lays l E n C_46 (PT v0.toNat 9) (w32 (w32 (10 * v1) + v2)) v3 v4 v5 v6 _ h) cb_10_190 sm_G_lays (dc hd_G_segmentText 71 rfl) rfl rfl ⟨Nat.le_of_ble_eq_true rfl, Nat.le_of_ble_eq_true rfl⟩ ⟨(Nat.le_of_ble_eq_true rfl), (Nat.le_of_ble_eq_true rfl)⟩ (Nat.le_of_ble_eq_true rfl) (fun _ h => by cases h) (fun _ => rfl) (fun u_54 C_52 d_55 q_53 => ?_)
    obtain ⟨q_53a, h⟩ := q_53
    subst d_55
    show AW p l e _ s m args below meth c E M_G_segmentText true _ n _ _ _ [(2, v0), (0, v1), (0, v2), (0, v3), (0, v4), (0, v5), (0, v6)] [] C_52
    refine AW.ra_n (dc hd_G_segmentText 72 rfl) rfl rfl rfl ?_
    refine AW.ra_n (dc hd_G_segmentText 73 rfl) rfl rfl rfl ?_
    refine AW.ra_n (dc hd_G_segmentText 74 rfl) rfl rfl rfl ?_
    refine AW.getp fl_10_25 (dc hd_G_segmentText 75 rfl) g_50 rfl ?_
    refine AW.iconst (dc hd_G_segmentText 76 rfl) (by decide) ?_
    refine AW.iconst (dc hd_G_segmentText 77 rfl) (by decide) ?_
    refine AW.callV (As := [(2, PT v0.toNat 9), (0, (-1)), (0, 1)]) (rest := [(2, v0)]) (ci := 10) (m_G_stands l E n C_52 v0 (PT v0.toNat 9) (-1) 1 _ h) cb_10_194 im_G_stands se_G_stands ⟨_, _, rfl⟩ (by decide) (dc hd_G_segmentText 78 rfl) g_50 rfl rfl ⟨Nat.le_of_ble_eq_true rfl, Nat.le_of_ble_eq_true rfl⟩ ⟨(Nat.le_of_ble_eq_true rfl), (Nat.le_of_ble_eq_true rfl)⟩ (Nat.le_of_ble_eq_true rfl) (fun _ h => by cases h) (fun _ => rfl) (fun r_56 C_57 d_59 q_58 => ?_)
    obtain ⟨q_58a, h⟩ := q_58
    subst d_59
    show AW p l e _ s m args below meth c E M_G_segmentText true _ n _ _ _ [(2, v0), (0, v1), (0, v2), (0, v3), (0, v4), (0, v5), (0, v6)] [(0, r_56), (2, v0)] C_57
    refine AW.callV (As := [(0, r_56)]) (rest := []) (ci := 10) (m_G_must l E n C_57 v0 r_56 _ h) cb_10_446 im_G_must se_G_must ⟨_, _, rfl⟩ (by decide) (dc hd_G_segmentText 79 rfl) g_50 rfl rfl ⟨Nat.le_of_ble_eq_true rfl, Nat.le_of_ble_eq_true rfl⟩ ⟨(Nat.le_of_ble_eq_true rfl), (Nat.le_of_ble_eq_true rfl)⟩ (Nat.le_of_ble_eq_true rfl) (fun _ h => by cases h) (fun _ => rfl) (fun u_62 C_60 d_63 q_61 => ?_)
    obtain ⟨q_61a, h⟩ := q_61
    subst d_63
    show AW p l e _ s m args below meth c E M_G_segmentText true _ n _ _ _ [(2, v0), (0, v1), (0, v2), (0, v3), (0, v4), (0, v5), (0, v6)] [] C_60
    refine AW.ra_n (dc hd_G_segmentText 80 rfl) rfl rfl rfl ?_
    refine AW.getf fl_10_431 (dc hd_G_segmentText 81 rfl) g_50 ?_
    refine AW.if_lt (t := 158) (dc hd_G_segmentText 82 rfl) (by decide) (fun c_64 => ?_) (fun c_64 => ?_)
    · have h := h.1 c_64
      refine AW.ra_n (dc hd_G_segmentText 84 rfl) rfl rfl rfl ?_
      refine AW.getp fl_10_25 (dc hd_G_segmentText 85 rfl) g_50 rfl ?_
      refine AW.ra_n (dc hd_G_segmentText 86 rfl) rfl rfl rfl ?_
      refine AW.getp fl_10_11 (dc hd_G_segmentText 87 rfl) g_50 rfl ?_
      refine AW.ra_n (dc hd_G_segmentText 88 rfl) rfl rfl rfl ?_
      refine AW.getf fl_10_117 (dc hd_G_segmentText 89 rfl) g_50 ?_
      obtain ⟨g_65, h⟩ := h
      obtain ⟨g_66, h⟩ := h
      refine AW.aaldp (by decide) (dc hd_G_segmentText 90 rfl) g_65 g_66 rfl ?_
      refine AW.callS (As := [(2, PT v0.toNat 9), (2, PT (PT v0.toNat 1).toNat (C_60 v0.toNat 0).toNat)]) (rest := []) (m_G_copies l E n C_60 (PT v0.toNat 9) (PT (PT v0.toNat 1).toNat (C_60 v0.toNat 0).toNat) _ h) cb_10_198 sm_G_copies (dc hd_G_segmentText 91 rfl) rfl rfl ⟨Nat.le_of_ble_eq_true rfl, Nat.le_of_ble_eq_true rfl⟩ ⟨(Nat.le_of_ble_eq_true rfl), (Nat.le_of_ble_eq_true rfl)⟩ (Nat.le_of_ble_eq_true rfl) (fun _ h => by cases h) (fun _ => rfl) (fun u_69 C_67 d_70 q_68 => ?_)
      obtain ⟨q_68a, h⟩ := q_68
      subst d_70
      show AW p l e _ s m args below meth c E M_G_segmentText true _ n _ _ _ [(2, v0), (0, v1), (0, v2), (0, v3), (0, v4), (0, v5), (0, v6)] [] C_67
      refine AW.ra_n (dc hd_G_segmentText 92 rfl) rfl rfl rfl ?_
      refine AW.rdup (dc hd_G_segmentText 93 rfl) rfl ?_
      refine AW.getf fl_10_117 (dc hd_G_segmentText 94 rfl) g_50 ?_
      refine AW.iconst (dc hd_G_segmentText 95 rfl) (by decide) ?_
      refine AW.iadd (dc hd_G_segmentText 96 rfl) ?_
      refine AW.nputI fl_10_117 (dc hd_G_segmentText 97 rfl) g_50 (fun C_71 eC_71 => ?_)
      have h := h C_71 eC_71
      refine AW.ra_n (dc hd_G_segmentText 98 rfl) rfl rfl rfl ?_
      refine AW.callV (As := []) (rest := []) (ci := 10) (m_G_passes l E n C_71 v0 _ h) cb_10_450 im_G_passes se_G_passes ⟨_, _, rfl⟩ (by decide) (dc hd_G_segmentText 99 rfl) g_50 rfl rfl ⟨Nat.le_of_ble_eq_true rfl, Nat.le_of_ble_eq_true rfl⟩ ⟨(Nat.le_of_ble_eq_true rfl), (Nat.le_of_ble_eq_true rfl)⟩ (Nat.le_of_ble_eq_true rfl) (fun _ h => by cases h) (fun _ => rfl) (fun u_74 C_72 d_75 q_73 => ?_)
      obtain ⟨q_73a, h⟩ := q_73
      subst d_75
      show AW p l e _ s m args below meth c E M_G_segmentText true _ n _ _ _ [(2, v0), (0, v1), (0, v2), (0, v3), (0, v4), (0, v5), (0, v6)] [] C_72
      exact AW.vret (dc hd_G_segmentText 100 rfl) rfl rfl (Nat.le_of_ble_eq_true rfl) (Nat.le_of_ble_eq_true rfl) ⟨rfl, h⟩
    · have h := h.2 c_64
      exact AW.vret (dc hd_G_segmentText 83 rfl) rfl rfl (Nat.le_of_ble_eq_true rfl) (Nat.le_of_ble_eq_true rfl) ⟨rfl, h⟩
  · have h := h.2 c_51
    exact AW.vret (dc hd_G_segmentText 59 rfl) rfl rfl (Nat.le_of_ble_eq_true rfl) (Nat.le_of_ble_eq_true rfl) ⟨rfl, h⟩
def J_G_segmentText_45 (n : Nat) (C : Cn) (v0 v1 v2 : Int) (Q : Int → Cn → Prop) : Prop :=
  okO n v0 10 ∧ (P_G_word n C v0 8 (fun (_ : Int) (C_19 : Cn) => P_G_signed n C_19 v0 0 (fun (r_23 : Int) (C_24 : Cn) => P_G_signed n C_24 v0 0 (fun (r_27 : Int) (C_28 : Cn) => P_G_word n C_28 v0 9 (fun (_ : Int) (C_31 : Cn) => P_G_signed n C_31 v0 0 (fun (r_35 : Int) (C_36 : Cn) => P_G_signed n C_36 v0 1 (fun (r_39 : Int) (C_40 : Cn) => J_G_segmentText_105 n C_40 v0 v1 v2 r_23 r_27 r_35 r_39 v0 (if r_23 = r_35 then (if r_27 = r_39 then 0 else 1) else 1) Q)))))))
theorem aJ_G_segmentText_45 (n : Nat) (C : Cn) (v0 v1 v2 : Int) (Q : Int → Cn → Prop) (h : J_G_segmentText_45 n C v0 v1 v2 Q) : AW p l e R s m args below meth c E M_G_segmentText true (fun r C2 n2 => n2 = n ∧ Q r C2) n 0 0 45 [(2, v0), (0, v1), (0, v2), (9, 0), (9, 0), (9, 0), (9, 0)] [] C := by
  unfold J_G_segmentText_45 at h
  refine AW.ra_n (dc hd_G_segmentText 23 rfl) rfl rfl rfl ?_
  refine AW.ldcSw (t := 7) (dc hd_G_segmentText 24 rfl) (by decide +kernel) ?_
  obtain ⟨g_18, h⟩ := h
  refine AW.callV (As := [(4, 8)]) (rest := []) (ci := 10) (m_G_word l E n C v0 8 _ h) cb_10_475 im_G_word se_G_word ⟨_, _, rfl⟩ (by decide) (dc hd_G_segmentText 25 rfl) g_18 rfl rfl ⟨Nat.le_of_ble_eq_true rfl, Nat.le_of_ble_eq_true rfl⟩ ⟨(Nat.le_of_ble_eq_true rfl), (Nat.le_of_ble_eq_true rfl)⟩ (Nat.le_of_ble_eq_true rfl) (fun _ h => by cases h) (fun _ => rfl) (fun u_21 C_19 d_22 q_20 => ?_)
  obtain ⟨q_20a, h⟩ := q_20
  subst d_22
  show AW p l e _ s m args below meth c E M_G_segmentText true _ n _ _ _ [(2, v0), (0, v1), (0, v2), (9, 0), (9, 0), (9, 0), (9, 0)] [] C_19
  refine AW.ra_n (dc hd_G_segmentText 26 rfl) rfl rfl rfl ?_
  refine AW.iconst (dc hd_G_segmentText 27 rfl) (by decide) ?_
  refine AW.callV (As := [(0, 0)]) (rest := []) (ci := 10) (m_G_signed l E n C_19 v0 0 _ h) cb_10_479 im_G_signed se_G_signed ⟨_, _, rfl⟩ (by decide) (dc hd_G_segmentText 28 rfl) g_18 rfl rfl ⟨Nat.le_of_ble_eq_true rfl, Nat.le_of_ble_eq_true rfl⟩ ⟨(Nat.le_of_ble_eq_true rfl), (Nat.le_of_ble_eq_true rfl)⟩ (Nat.le_of_ble_eq_true rfl) (fun _ h => by cases h) (fun _ => rfl) (fun r_23 C_24 d_26 q_25 => ?_)
  obtain ⟨q_25a, h⟩ := q_25
  subst d_26
  show AW p l e _ s m args below meth c E M_G_segmentText true _ n _ _ _ [(2, v0), (0, v1), (0, v2), (9, 0), (9, 0), (9, 0), (9, 0)] [(0, r_23)] C_24
  refine AW.istore_n [(2, v0), (0, v1), (0, v2), (0, r_23), (9, 0), (9, 0), (9, 0)] (dc hd_G_segmentText 29 rfl) (Nat.le_of_ble_eq_true rfl) rfl rfl ?_
  refine AW.ra_n (dc hd_G_segmentText 30 rfl) rfl rfl rfl ?_
  refine AW.iconst (dc hd_G_segmentText 31 rfl) (by decide) ?_
  refine AW.callV (As := [(0, 0)]) (rest := []) (ci := 10) (m_G_signed l E n C_24 v0 0 _ h) cb_10_479 im_G_signed se_G_signed ⟨_, _, rfl⟩ (by decide) (dc hd_G_segmentText 32 rfl) g_18 rfl rfl ⟨Nat.le_of_ble_eq_true rfl, Nat.le_of_ble_eq_true rfl⟩ ⟨(Nat.le_of_ble_eq_true rfl), (Nat.le_of_ble_eq_true rfl)⟩ (Nat.le_of_ble_eq_true rfl) (fun _ h => by cases h) (fun _ => rfl) (fun r_27 C_28 d_30 q_29 => ?_)
  obtain ⟨q_29a, h⟩ := q_29
  subst d_30
  show AW p l e _ s m args below meth c E M_G_segmentText true _ n _ _ _ [(2, v0), (0, v1), (0, v2), (0, r_23), (9, 0), (9, 0), (9, 0)] [(0, r_27)] C_28
  refine AW.istore [(2, v0), (0, v1), (0, v2), (0, r_23), (0, r_27), (9, 0), (9, 0)] (dc hd_G_segmentText 33 rfl) (Nat.le_of_ble_eq_true rfl) rfl rfl ?_
  refine AW.ra_n (dc hd_G_segmentText 34 rfl) rfl rfl rfl ?_
  refine AW.ldcSw (t := 8) (dc hd_G_segmentText 35 rfl) (by decide +kernel) ?_
  refine AW.callV (As := [(4, 9)]) (rest := []) (ci := 10) (m_G_word l E n C_28 v0 9 _ h) cb_10_475 im_G_word se_G_word ⟨_, _, rfl⟩ (by decide) (dc hd_G_segmentText 36 rfl) g_18 rfl rfl ⟨Nat.le_of_ble_eq_true rfl, Nat.le_of_ble_eq_true rfl⟩ ⟨(Nat.le_of_ble_eq_true rfl), (Nat.le_of_ble_eq_true rfl)⟩ (Nat.le_of_ble_eq_true rfl) (fun _ h => by cases h) (fun _ => rfl) (fun u_33 C_31 d_34 q_32 => ?_)
  obtain ⟨q_32a, h⟩ := q_32
  subst d_34
  show AW p l e _ s m args below meth c E M_G_segmentText true _ n _ _ _ [(2, v0), (0, v1), (0, v2), (0, r_23), (0, r_27), (9, 0), (9, 0)] [] C_31
  refine AW.ra_n (dc hd_G_segmentText 37 rfl) rfl rfl rfl ?_
  refine AW.iconst (dc hd_G_segmentText 38 rfl) (by decide) ?_
  refine AW.callV (As := [(0, 0)]) (rest := []) (ci := 10) (m_G_signed l E n C_31 v0 0 _ h) cb_10_479 im_G_signed se_G_signed ⟨_, _, rfl⟩ (by decide) (dc hd_G_segmentText 39 rfl) g_18 rfl rfl ⟨Nat.le_of_ble_eq_true rfl, Nat.le_of_ble_eq_true rfl⟩ ⟨(Nat.le_of_ble_eq_true rfl), (Nat.le_of_ble_eq_true rfl)⟩ (Nat.le_of_ble_eq_true rfl) (fun _ h => by cases h) (fun _ => rfl) (fun r_35 C_36 d_38 q_37 => ?_)
  obtain ⟨q_37a, h⟩ := q_37
  subst d_38
  show AW p l e _ s m args below meth c E M_G_segmentText true _ n _ _ _ [(2, v0), (0, v1), (0, v2), (0, r_23), (0, r_27), (9, 0), (9, 0)] [(0, r_35)] C_36
  refine AW.istore [(2, v0), (0, v1), (0, v2), (0, r_23), (0, r_27), (0, r_35), (9, 0)] (dc hd_G_segmentText 40 rfl) (Nat.le_of_ble_eq_true rfl) rfl rfl ?_
  refine AW.ra_n (dc hd_G_segmentText 41 rfl) rfl rfl rfl ?_
  refine AW.iconst (dc hd_G_segmentText 42 rfl) (by decide) ?_
  refine AW.callV (As := [(0, 1)]) (rest := []) (ci := 10) (m_G_signed l E n C_36 v0 1 _ h) cb_10_479 im_G_signed se_G_signed ⟨_, _, rfl⟩ (by decide) (dc hd_G_segmentText 43 rfl) g_18 rfl rfl ⟨Nat.le_of_ble_eq_true rfl, Nat.le_of_ble_eq_true rfl⟩ ⟨(Nat.le_of_ble_eq_true rfl), (Nat.le_of_ble_eq_true rfl)⟩ (Nat.le_of_ble_eq_true rfl) (fun _ h => by cases h) (fun _ => rfl) (fun r_39 C_40 d_42 q_41 => ?_)
  obtain ⟨q_41a, h⟩ := q_41
  subst d_42
  show AW p l e _ s m args below meth c E M_G_segmentText true _ n _ _ _ [(2, v0), (0, v1), (0, v2), (0, r_23), (0, r_27), (0, r_35), (9, 0)] [(0, r_39)] C_40
  refine AW.istore [(2, v0), (0, v1), (0, v2), (0, r_23), (0, r_27), (0, r_35), (0, r_39)] (dc hd_G_segmentText 44 rfl) (Nat.le_of_ble_eq_true rfl) rfl rfl ?_
  refine AW.ra_n (dc hd_G_segmentText 45 rfl) rfl rfl rfl ?_
  refine AW.iload_n (dc hd_G_segmentText 46 rfl) rfl ?_
  refine AW.iload (dc hd_G_segmentText 47 rfl) rfl ?_
  refine AW.icmp_ne (t := 100) (dc hd_G_segmentText 48 rfl) (by decide) (fun c_43 => ?_) (fun c_43 => ?_)
  · simp only [if_neg (show ¬ (r_23 = r_35) from c_43)] at h
    refine AW.iconst (dc hd_G_segmentText 52 rfl) (by decide) ?_
    refine AW.goto (t := 105) (dc hd_G_segmentText 53 rfl) (by decide) ?_
    exact aJ_G_segmentText_105 n C_40 _ _ _ _ _ _ _ _ _ Q h
  · simp only [if_pos (show r_23 = r_35 from c_43)] at h
    refine AW.iload (dc hd_G_segmentText 49 rfl) rfl ?_
    refine AW.iload (dc hd_G_segmentText 50 rfl) rfl ?_
    refine AW.icmp_eq (t := 104) (dc hd_G_segmentText 51 rfl) (by decide) (fun c_44 => ?_) (fun c_44 => ?_)
    · simp only [if_pos (show r_27 = r_39 from c_44)] at h
      refine AW.iconst (dc hd_G_segmentText 54 rfl) (by decide) ?_
      exact aJ_G_segmentText_105 n C_40 _ _ _ _ _ _ _ _ _ Q h
    · simp only [if_neg (show ¬ (r_27 = r_39) from c_44)] at h
      refine AW.iconst (dc hd_G_segmentText 52 rfl) (by decide) ?_
      refine AW.goto (t := 105) (dc hd_G_segmentText 53 rfl) (by decide) ?_
      exact aJ_G_segmentText_105 n C_40 _ _ _ _ _ _ _ _ _ Q h
def J_G_segmentText_15 (n : Nat) (C : Cn) (v0 v1 s0 s1 : Int) (Q : Int → Cn → Prop) : Prop :=
  okO n s0 10 ∧ (P_G_must n C s0 s1 (fun (_ : Int) (C_4 : Cn) => okO n v0 10 ∧ (P_G_passes n C_4 v0 (fun (_ : Int) (C_9 : Cn) => P_G_isWord n C_9 v0 7 (fun (r_13 : Int) => (r_13 = 0 → (J_G_segmentText_45 n C_9 v0 v1 0 Q)) ∧ (¬ r_13 = 0 → (P_G_passes n C_9 v0 (fun (_ : Int) (C_76 : Cn) => P_G_number n C_76 v0 9 (fun (r_80 : Int) (C_81 : Cn) => J_G_segmentText_45 n C_81 v0 v1 r_80 Q)))))))))
theorem aJ_G_segmentText_15 (n : Nat) (C : Cn) (v0 v1 s0 s1 : Int) (Q : Int → Cn → Prop) (h : J_G_segmentText_15 n C v0 v1 s0 s1 Q) : AW p l e R s m args below meth c E M_G_segmentText true (fun r C2 n2 => n2 = n ∧ Q r C2) n 0 0 15 [(2, v0), (0, v1), (9, 0), (9, 0), (9, 0), (9, 0), (9, 0)] [(0, s1), (2, s0)] C := by
  unfold J_G_segmentText_15 at h
  obtain ⟨g_3, h⟩ := h
  refine AW.callV (As := [(0, s1)]) (rest := []) (ci := 10) (m_G_must l E n C s0 s1 _ h) cb_10_446 im_G_must se_G_must ⟨_, _, rfl⟩ (by decide) (dc hd_G_segmentText 8 rfl) g_3 rfl rfl ⟨Nat.le_of_ble_eq_true rfl, Nat.le_of_ble_eq_true rfl⟩ ⟨(Nat.le_of_ble_eq_true rfl), (Nat.le_of_ble_eq_true rfl)⟩ (Nat.le_of_ble_eq_true rfl) (fun _ h => by cases h) (fun _ => rfl) (fun u_6 C_4 d_7 q_5 => ?_)
  obtain ⟨q_5a, h⟩ := q_5
  subst d_7
  show AW p l e _ s m args below meth c E M_G_segmentText true _ n _ _ _ [(2, v0), (0, v1), (9, 0), (9, 0), (9, 0), (9, 0), (9, 0)] [] C_4
  refine AW.ra_n (dc hd_G_segmentText 9 rfl) rfl rfl rfl ?_
  obtain ⟨g_8, h⟩ := h
  refine AW.callV (As := []) (rest := []) (ci := 10) (m_G_passes l E n C_4 v0 _ h) cb_10_450 im_G_passes se_G_passes ⟨_, _, rfl⟩ (by decide) (dc hd_G_segmentText 10 rfl) g_8 rfl rfl ⟨Nat.le_of_ble_eq_true rfl, Nat.le_of_ble_eq_true rfl⟩ ⟨(Nat.le_of_ble_eq_true rfl), (Nat.le_of_ble_eq_true rfl)⟩ (Nat.le_of_ble_eq_true rfl) (fun _ h => by cases h) (fun _ => rfl) (fun u_11 C_9 d_12 q_10 => ?_)
  obtain ⟨q_10a, h⟩ := q_10
  subst d_12
  show AW p l e _ s m args below meth c E M_G_segmentText true _ n _ _ _ [(2, v0), (0, v1), (9, 0), (9, 0), (9, 0), (9, 0), (9, 0)] [] C_9
  refine AW.iconst (dc hd_G_segmentText 11 rfl) (by decide) ?_
  refine AW.istore_n [(2, v0), (0, v1), (0, 0), (9, 0), (9, 0), (9, 0), (9, 0)] (dc hd_G_segmentText 12 rfl) (Nat.le_of_ble_eq_true rfl) rfl rfl ?_
  refine AW.ra_n (dc hd_G_segmentText 13 rfl) rfl rfl rfl ?_
  refine AW.ldcSw (t := 6) (dc hd_G_segmentText 14 rfl) (by decide +kernel) ?_
  refine AW.callV (As := [(4, 7)]) (rest := []) (ci := 10) (m_G_isWord l E n C_9 v0 7 _ h) cb_10_453 im_G_isWord se_G_isWord ⟨_, _, rfl⟩ (by decide) (dc hd_G_segmentText 15 rfl) g_8 rfl rfl ⟨Nat.le_of_ble_eq_true rfl, Nat.le_of_ble_eq_true rfl⟩ ⟨(Nat.le_of_ble_eq_true rfl), (Nat.le_of_ble_eq_true rfl)⟩ (Nat.le_of_ble_eq_true rfl) (fun _ h => by cases h) (fun _ => rfl) (fun r_13 D_15 d_16 q_14 => ?_)
  obtain ⟨q_14a, q_14b, h⟩ := q_14
  subst D_15
  subst d_16
  show AW p l e _ s m args below meth c E M_G_segmentText true _ n _ _ _ [(2, v0), (0, v1), (0, 0), (9, 0), (9, 0), (9, 0), (9, 0)] [(0, r_13)] C_9
  refine AW.if_eq (t := 45) (dc hd_G_segmentText 16 rfl) (by decide) (fun c_17 => ?_) (fun c_17 => ?_)
  · have h := h.1 c_17
    exact aJ_G_segmentText_45 n C_9 v0 v1 0 Q h
  · have h := h.2 c_17
    refine AW.ra_n (dc hd_G_segmentText 17 rfl) rfl rfl rfl ?_
    refine AW.callV (As := []) (rest := []) (ci := 10) (m_G_passes l E n C_9 v0 _ h) cb_10_450 im_G_passes se_G_passes ⟨_, _, rfl⟩ (by decide) (dc hd_G_segmentText 18 rfl) g_8 rfl rfl ⟨Nat.le_of_ble_eq_true rfl, Nat.le_of_ble_eq_true rfl⟩ ⟨(Nat.le_of_ble_eq_true rfl), (Nat.le_of_ble_eq_true rfl)⟩ (Nat.le_of_ble_eq_true rfl) (fun _ h => by cases h) (fun _ => rfl) (fun u_78 C_76 d_79 q_77 => ?_)
    obtain ⟨q_77a, h⟩ := q_77
    subst d_79
    show AW p l e _ s m args below meth c E M_G_segmentText true _ n _ _ _ [(2, v0), (0, v1), (0, 0), (9, 0), (9, 0), (9, 0), (9, 0)] [] C_76
    refine AW.ra_n (dc hd_G_segmentText 19 rfl) rfl rfl rfl ?_
    refine AW.bipush (dc hd_G_segmentText 20 rfl) (by decide) (by decide +kernel) ?_
    refine AW.callV (As := [(0, 9)]) (rest := []) (ci := 10) (m_G_number l E n C_76 v0 9 _ h) cb_10_471 im_G_number se_G_number ⟨_, _, rfl⟩ (by decide) (dc hd_G_segmentText 21 rfl) g_8 rfl rfl ⟨Nat.le_of_ble_eq_true rfl, Nat.le_of_ble_eq_true rfl⟩ ⟨(Nat.le_of_ble_eq_true rfl), (Nat.le_of_ble_eq_true rfl)⟩ (Nat.le_of_ble_eq_true rfl) (fun _ h => by cases h) (fun _ => rfl) (fun r_80 C_81 d_83 q_82 => ?_)
    obtain ⟨q_82a, h⟩ := q_82
    subst d_83
    show AW p l e _ s m args below meth c E M_G_segmentText true _ n _ _ _ [(2, v0), (0, v1), (0, 0), (9, 0), (9, 0), (9, 0), (9, 0)] [(0, r_80)] C_81
    refine AW.istore_n [(2, v0), (0, v1), (0, r_80), (9, 0), (9, 0), (9, 0), (9, 0)] (dc hd_G_segmentText 22 rfl) (Nat.le_of_ble_eq_true rfl) rfl rfl ?_
    exact aJ_G_segmentText_45 n C_81 v0 v1 r_80 Q h
def P_G_segmentText (n : Nat) (C : Cn) (v0 v1 : Int) (Q : Int → Cn → Prop) : Prop :=
  okO n v0 10 ∧ (J_G_segmentText_15 n C v0 v1 v0 (if 6 ≤ C v0.toNat 0 then 0 else 1) Q)
theorem m_G_segmentText (l : Launch) (E : Ev) (n : Nat) (C : Cn) (v0 v1 : Int) (Q : Int → Cn → Prop) (h : P_G_segmentText n C v0 v1 Q) : MA l y_G_segmentText M_G_segmentText E true C n [(2, v0), (0, v1)] (fun r C2 n2 => n2 = n ∧ Q r C2) := by
  refine MA.of (by decide) rfl rfl 5 rfl (fun p e s m args below meth c => ?_)
  show AW p l e _ s m args below meth c E M_G_segmentText true _ n 0 0 0 [(2, v0), (0, v1), (9, 0), (9, 0), (9, 0), (9, 0), (9, 0)] [] C
  unfold P_G_segmentText at h
  refine AW.ra_n (dc hd_G_segmentText 0 rfl) rfl rfl rfl ?_
  refine AW.ra_n (dc hd_G_segmentText 1 rfl) rfl rfl rfl ?_
  obtain ⟨g_1, h⟩ := h
  refine AW.getf fl_10_117 (dc hd_G_segmentText 2 rfl) g_1 ?_
  refine AW.bipush (dc hd_G_segmentText 3 rfl) (by decide) (by decide +kernel) ?_
  refine AW.icmp_ge (t := 14) (dc hd_G_segmentText 4 rfl) (by decide) (fun c_2 => ?_) (fun c_2 => ?_)
  · simp only [if_pos (show 6 ≤ C v0.toNat 0 from c_2)] at h
    refine AW.iconst (dc hd_G_segmentText 7 rfl) (by decide) ?_
    exact aJ_G_segmentText_15 n C _ _ _ _ Q h
  · simp only [if_neg (show ¬ (6 ≤ C v0.toNat 0) from c_2)] at h
    refine AW.iconst (dc hd_G_segmentText 5 rfl) (by decide) ?_
    refine AW.goto (t := 15) (dc hd_G_segmentText 6 rfl) (by decide) ?_
    exact aJ_G_segmentText_15 n C _ _ _ _ Q h
def P_G_itemText (n : Nat) (C : Cn) (v0 : Int) (Q : Int → Cn → Nat → Prop) : Prop :=
  okO n v0 10 ∧ (P_G_kindHere n C v0 (fun (r_1 : Int) (C_3 : Cn) (n_4 : Nat) => (r_1 < 0 → (okO n_4 v0 10 ∧ (P_G_word n_4 C_3 v0 10 (fun (_ : Int) (C_8 : Cn) => P_G_number n_4 C_8 v0 3 (fun (r_12 : Int) (C_13 : Cn) => (0 ≤ C_13 v0.toNat 43 → (Q 0 C_13 n_4)) ∧ (¬ 0 ≤ C_13 v0.toNat 43 → (∀ C_17 : Cn, C_17 = wr C_13 v0.toNat 2 r_12 → (Q 0 C_17 n_4)))))))) ∧ (¬ r_1 < 0 → (okO n_4 v0 10 ∧ (P_G_segmentText n_4 C_3 v0 r_1 (fun (_ : Int) (C_19 : Cn) => Q 0 C_19 n_4))))))
theorem m_G_itemText (l : Launch) (E : Ev) (n : Nat) (C : Cn) (v0 : Int) (Q : Int → Cn → Nat → Prop) (h : P_G_itemText n C v0 Q) : MA l y_G_itemText M_G_itemText E true C n [(2, v0)] Q := by
  refine MA.of (by decide) rfl rfl 2 rfl (fun p e s m args below meth c => ?_)
  show AW p l e _ s m args below meth c E M_G_itemText true _ n 0 0 0 [(2, v0), (9, 0), (9, 0)] [] C
  unfold P_G_itemText at h
  refine AW.ra_n (dc hd_G_itemText 0 rfl) rfl rfl rfl ?_
  obtain ⟨g_2, h⟩ := h
  refine AW.callV (As := []) (rest := []) (ci := 10) (m_G_kindHere l E n C v0 _ h) cb_10_484 im_G_kindHere se_G_kindHere ⟨_, _, rfl⟩ (by decide) (dc hd_G_itemText 1 rfl) g_2 rfl rfl ⟨Nat.le_of_ble_eq_true rfl, Nat.le_of_ble_eq_true rfl⟩ ⟨(Nat.le_of_ble_eq_true rfl), (Nat.le_of_ble_eq_true rfl)⟩ (Nat.le_of_ble_eq_true rfl) (fun _ h => by cases h) (fun _ => rfl) (fun r_1 C_3 n_4 q_5 => ?_)
  have h := q_5
  show AW p l e _ s m args below meth c E M_G_itemText true _ n_4 _ _ _ [(2, v0), (9, 0), (9, 0)] [(0, r_1)] C_3
  refine AW.istore_n [(2, v0), (0, r_1), (9, 0)] (dc hd_G_itemText 2 rfl) (Nat.le_of_ble_eq_true rfl) rfl rfl ?_
  refine AW.iload_n (dc hd_G_itemText 3 rfl) rfl ?_
  refine AW.if_lt (t := 15) (dc hd_G_itemText 4 rfl) (by decide) (fun c_6 => ?_) (fun c_6 => ?_)
  · have h := h.1 c_6
    refine AW.ra_n (dc hd_G_itemText 9 rfl) rfl rfl rfl ?_
    refine AW.ldcSw (t := 9) (dc hd_G_itemText 10 rfl) (by decide +kernel) ?_
    obtain ⟨g_7, h⟩ := h
    refine AW.callV (As := [(4, 10)]) (rest := []) (ci := 10) (m_G_word l E n_4 C_3 v0 10 _ h) cb_10_475 im_G_word se_G_word ⟨_, _, rfl⟩ (by decide) (dc hd_G_itemText 11 rfl) g_7 rfl rfl ⟨Nat.le_of_ble_eq_true rfl, Nat.le_of_ble_eq_true rfl⟩ ⟨(Nat.le_of_ble_eq_true rfl), (Nat.le_of_ble_eq_true rfl)⟩ (Nat.le_of_ble_eq_true rfl) (fun _ h => by cases h) (fun _ => rfl) (fun u_10 C_8 d_11 q_9 => ?_)
    obtain ⟨q_9a, h⟩ := q_9
    subst d_11
    show AW p l e _ s m args below meth c E M_G_itemText true _ n_4 _ _ _ [(2, v0), (0, r_1), (9, 0)] [] C_8
    refine AW.ra_n (dc hd_G_itemText 12 rfl) rfl rfl rfl ?_
    refine AW.iconst (dc hd_G_itemText 13 rfl) (by decide) ?_
    refine AW.callV (As := [(0, 3)]) (rest := []) (ci := 10) (m_G_number l E n_4 C_8 v0 3 _ h) cb_10_471 im_G_number se_G_number ⟨_, _, rfl⟩ (by decide) (dc hd_G_itemText 14 rfl) g_7 rfl rfl ⟨Nat.le_of_ble_eq_true rfl, Nat.le_of_ble_eq_true rfl⟩ ⟨(Nat.le_of_ble_eq_true rfl), (Nat.le_of_ble_eq_true rfl)⟩ (Nat.le_of_ble_eq_true rfl) (fun _ h => by cases h) (fun _ => rfl) (fun r_12 C_13 d_15 q_14 => ?_)
    obtain ⟨q_14a, h⟩ := q_14
    subst d_15
    show AW p l e _ s m args below meth c E M_G_itemText true _ n_4 _ _ _ [(2, v0), (0, r_1), (9, 0)] [(0, r_12)] C_13
    refine AW.istore_n [(2, v0), (0, r_1), (0, r_12)] (dc hd_G_itemText 15 rfl) (Nat.le_of_ble_eq_true rfl) rfl rfl ?_
    refine AW.ra_n (dc hd_G_itemText 16 rfl) rfl rfl rfl ?_
    refine AW.getf fl_10_431 (dc hd_G_itemText 17 rfl) g_7 ?_
    refine AW.if_ge (t := 40) (dc hd_G_itemText 18 rfl) (by decide) (fun c_16 => ?_) (fun c_16 => ?_)
    · have h := h.1 c_16
      exact AW.vret (dc hd_G_itemText 22 rfl) rfl rfl (Nat.le_of_ble_eq_true rfl) (Nat.le_of_ble_eq_true rfl) h
    · have h := h.2 c_16
      refine AW.ra_n (dc hd_G_itemText 19 rfl) rfl rfl rfl ?_
      refine AW.iload_n (dc hd_G_itemText 20 rfl) rfl ?_
      refine AW.nputI fl_10_158 (dc hd_G_itemText 21 rfl) g_7 (fun C_17 eC_17 => ?_)
      have h := h C_17 eC_17
      exact AW.vret (dc hd_G_itemText 22 rfl) rfl rfl (Nat.le_of_ble_eq_true rfl) (Nat.le_of_ble_eq_true rfl) h
  · have h := h.2 c_6
    refine AW.ra_n (dc hd_G_itemText 5 rfl) rfl rfl rfl ?_
    refine AW.iload_n (dc hd_G_itemText 6 rfl) rfl ?_
    obtain ⟨g_18, h⟩ := h
    refine AW.callV (As := [(0, r_1)]) (rest := []) (ci := 10) (m_G_segmentText l E n_4 C_3 v0 r_1 _ h) cb_10_487 im_G_segmentText se_G_segmentText ⟨_, _, rfl⟩ (by decide) (dc hd_G_itemText 7 rfl) g_18 rfl rfl ⟨Nat.le_of_ble_eq_true rfl, Nat.le_of_ble_eq_true rfl⟩ ⟨(Nat.le_of_ble_eq_true rfl), (Nat.le_of_ble_eq_true rfl)⟩ (Nat.le_of_ble_eq_true rfl) (fun _ h => by cases h) (fun _ => rfl) (fun u_21 C_19 d_22 q_20 => ?_)
    obtain ⟨q_20a, h⟩ := q_20
    subst d_22
    show AW p l e _ s m args below meth c E M_G_itemText true _ n_4 _ _ _ [(2, v0), (0, r_1), (9, 0)] [] C_19
    exact AW.vret (dc hd_G_itemText 8 rfl) rfl rfl (Nat.le_of_ble_eq_true rfl) (Nat.le_of_ble_eq_true rfl) h
def J_G_text_67 (n : Nat) (C : Cn) (kc ks : Nat) (v0 v1 v2 s0 s1 : Int) (Q : Int → Cn → Nat → Prop) : Prop :=
  okO n s0 10 ∧ (kc ≤ 130 ∧ (ks ≤ 780 ∧ (P_G_must n C s0 s1 (fun (_ : Int) (C_22 : Cn) => okO n v0 10 ∧ (∀ C_27 : Cn, C_27 = wr C_22 v0.toNat 38 0 → ((0 ≤ C_27 v0.toNat 43 → (P_G_laysBack n C_27 v0 (fun (_ : Int) (C_29 : Cn) => ∀ C_33 : Cn, C_33 = wr C_29 v0.toNat 2 v1 → (Q (w32 ((-1) - (C_33 v0.toNat 43))) C_33 n)))) ∧ (¬ 0 ≤ C_27 v0.toNat 43 → (Q v2 C_27 n))))))))
theorem aJ_G_text_67 (n : Nat) (C : Cn) (kc ks : Nat) (v0 v1 v2 s0 s1 : Int) (Q : Int → Cn → Nat → Prop) (h : J_G_text_67 n C kc ks v0 v1 v2 s0 s1 Q) : AW p l e R s m args below meth c E M_G_text true Q n kc ks 67 [(2, v0), (0, v1), (0, v2)] [(0, s1), (2, s0)] C := by
  unfold J_G_text_67 at h
  obtain ⟨g_19, h⟩ := h
  obtain ⟨g_20, h⟩ := h
  obtain ⟨g_21, h⟩ := h
  refine AW.callV (As := [(0, s1)]) (rest := []) (ci := 10) (m_G_must l E n C s0 s1 _ h) cb_10_446 im_G_must se_G_must ⟨_, _, rfl⟩ (by decide) (dc hd_G_text 35 rfl) g_19 rfl rfl ⟨Nat.le_of_ble_eq_true rfl, Nat.le_of_ble_eq_true rfl⟩ ⟨g_20, g_21⟩ (Nat.le_of_ble_eq_true rfl) (fun _ h => by cases h) (fun _ => rfl) (fun u_24 C_22 d_25 q_23 => ?_)
  obtain ⟨q_23a, h⟩ := q_23
  subst d_25
  show AW p l e _ s m args below meth c E M_G_text true _ n _ _ _ [(2, v0), (0, v1), (0, v2)] [] C_22
  refine AW.ra_n (dc hd_G_text 36 rfl) rfl rfl rfl ?_
  refine AW.iconst (dc hd_G_text 37 rfl) (by decide) ?_
  obtain ⟨g_26, h⟩ := h
  refine AW.nputI fl_10_412 (dc hd_G_text 38 rfl) g_26 (fun C_27 eC_27 => ?_)
  have h := h C_27 eC_27
  refine AW.ra_n (dc hd_G_text 39 rfl) rfl rfl rfl ?_
  refine AW.getf fl_10_431 (dc hd_G_text 40 rfl) g_26 ?_
  refine AW.if_ge (t := 84) (dc hd_G_text 41 rfl) (by decide) (fun c_28 => ?_) (fun c_28 => ?_)
  · have h := h.1 c_28
    refine AW.ra_n (dc hd_G_text 44 rfl) rfl rfl rfl ?_
    refine AW.callV (As := []) (rest := []) (ci := 10) (m_G_laysBack l E n C_27 v0 _ h) cb_10_366 im_G_laysBack se_G_laysBack ⟨_, _, rfl⟩ (by decide) (dc hd_G_text 45 rfl) g_26 rfl rfl ⟨Nat.le_of_ble_eq_true rfl, Nat.le_of_ble_eq_true rfl⟩ ⟨g_20, g_21⟩ (Nat.le_of_ble_eq_true rfl) (fun _ h => by cases h) (fun _ => rfl) (fun u_31 C_29 d_32 q_30 => ?_)
    obtain ⟨q_30a, h⟩ := q_30
    subst d_32
    show AW p l e _ s m args below meth c E M_G_text true _ n _ _ _ [(2, v0), (0, v1), (0, v2)] [] C_29
    refine AW.ra_n (dc hd_G_text 46 rfl) rfl rfl rfl ?_
    refine AW.iload_n (dc hd_G_text 47 rfl) rfl ?_
    refine AW.nputI fl_10_158 (dc hd_G_text 48 rfl) g_26 (fun C_33 eC_33 => ?_)
    have h := h C_33 eC_33
    refine AW.iconst (dc hd_G_text 49 rfl) (by decide) ?_
    refine AW.ra_n (dc hd_G_text 50 rfl) rfl rfl rfl ?_
    refine AW.getf fl_10_431 (dc hd_G_text 51 rfl) g_26 ?_
    refine AW.isub (dc hd_G_text 52 rfl) ?_
    exact AW.iret (dc hd_G_text 53 rfl) rfl rfl g_20 g_21 h
  · have h := h.2 c_28
    refine AW.iload_n (dc hd_G_text 42 rfl) rfl ?_
    exact AW.iret (dc hd_G_text 43 rfl) rfl rfl g_20 g_21 h
def J_G_text_54 (n : Nat) (C : Cn) (kc ks : Nat) (v0 v1 v2 : Int) (Q : Int → Cn → Nat → Prop) : Prop :=
  okO n v0 10 ∧ (J_G_text_67 n C kc ks v0 v1 v2 v0 (if C v0.toNat 41 = 0 then 1 else 0) Q)
theorem aJ_G_text_54 (n : Nat) (C : Cn) (kc ks : Nat) (v0 v1 v2 : Int) (Q : Int → Cn → Nat → Prop) (h : J_G_text_54 n C kc ks v0 v1 v2 Q) : AW p l e R s m args below meth c E M_G_text true Q n kc ks 54 [(2, v0), (0, v1), (0, v2)] [] C := by
  unfold J_G_text_54 at h
  refine AW.ra_n (dc hd_G_text 28 rfl) rfl rfl rfl ?_
  refine AW.ra_n (dc hd_G_text 29 rfl) rfl rfl rfl ?_
  obtain ⟨g_17, h⟩ := h
  refine AW.getf fl_10_428 (dc hd_G_text 30 rfl) g_17 ?_
  refine AW.if_ne (t := 66) (dc hd_G_text 31 rfl) (by decide) (fun c_18 => ?_) (fun c_18 => ?_)
  · simp only [if_neg (show ¬ (C v0.toNat 41 = 0) from c_18)] at h
    refine AW.iconst (dc hd_G_text 34 rfl) (by decide) ?_
    exact aJ_G_text_67 n C kc ks _ _ _ _ _ Q h
  · simp only [if_pos (show C v0.toNat 41 = 0 from c_18)] at h
    refine AW.iconst (dc hd_G_text 32 rfl) (by decide) ?_
    refine AW.goto (t := 67) (dc hd_G_text 33 rfl) (by decide) ?_
    exact aJ_G_text_67 n C kc ks _ _ _ _ _ Q h
def B_G_text_25 (v0 v1 : Int) (Q : Int → Cn → Nat → Prop) (kz25 : Cn × Nat × Nat × Nat × Int → Prop) (z : Cn × Nat × Nat × Nat × Int) : Prop := match z with
  | (C, n, kc, ks, v2) => okO n v0 10 ∧ ((0 ≤ C v0.toNat 43 → (J_G_text_54 n C kc ks v0 v1 v2 Q)) ∧ (¬ 0 ≤ C v0.toNat 43 → ((C v0.toNat 41 = 3 → (kc ≤ 130 ∧ (ks ≤ 780 ∧ (P_G_passes n C v0 (fun (_ : Int) (C_37 : Cn) => (kc + 1) ≤ 130 ∧ ((ks + 6) ≤ 780 ∧ (P_G_itemText n C_37 v0 (fun (_ : Int) (C_43 : Cn) (n_44 : Nat) => kz25 (C_43, n_44, (kc + 1), (ks + 6), w32 (v2 + 1)))))))))) ∧ (¬ C v0.toNat 41 = 3 → (J_G_text_54 n C kc ks v0 v1 v2 Q)))))
theorem bB_G_text_25 (v0 v1 : Int) (Q : Int → Cn → Nat → Prop) (kz25 : Cn × Nat × Nat × Nat × Int → Prop) (hkz25 : ∀ (Cz : Cn) (nz : Nat) (kcz : Nat) (ksz : Nat) (z2 : Int), kz25 (Cz, nz, kcz, ksz, z2) → AW p l e R s m args below meth c E M_G_text true Q nz kcz ksz 25 [(2, v0), (0, v1), (0, z2)] [] Cz) (C : Cn) (n : Nat) (kc : Nat) (ks : Nat) (v2 : Int) (h : B_G_text_25 v0 v1 Q kz25 (C, n, kc, ks, v2)) : AW p l e R s m args below meth c E M_G_text true Q n kc ks 25 [(2, v0), (0, v1), (0, v2)] [] C := by
  unfold B_G_text_25 at h
  dsimp only at h
  refine AW.ra_n (dc hd_G_text 15 rfl) rfl rfl rfl ?_
  obtain ⟨g_15, h⟩ := h
  refine AW.getf fl_10_431 (dc hd_G_text 16 rfl) g_15 ?_
  refine AW.if_ge (t := 54) (dc hd_G_text 17 rfl) (by decide) (fun c_16 => ?_) (fun c_16 => ?_)
  · have h := h.1 c_16
    exact aJ_G_text_54 n C kc ks v0 v1 v2 Q h
  · have h := h.2 c_16
    refine AW.ra_n (dc hd_G_text 18 rfl) rfl rfl rfl ?_
    refine AW.getf fl_10_428 (dc hd_G_text 19 rfl) g_15 ?_
    refine AW.iconst (dc hd_G_text 20 rfl) (by decide) ?_
    refine AW.icmp_ne (t := 54) (dc hd_G_text 21 rfl) (by decide) (fun c_34 => ?_) (fun c_34 => ?_)
    · have h := h.2 c_34
      exact aJ_G_text_54 n C kc ks v0 v1 v2 Q h
    · have h := h.1 c_34
      refine AW.ra_n (dc hd_G_text 22 rfl) rfl rfl rfl ?_
      obtain ⟨g_35, h⟩ := h
      obtain ⟨g_36, h⟩ := h
      refine AW.callV (As := []) (rest := []) (ci := 10) (m_G_passes l E n C v0 _ h) cb_10_450 im_G_passes se_G_passes ⟨_, _, rfl⟩ (by decide) (dc hd_G_text 23 rfl) g_15 rfl rfl ⟨Nat.le_of_ble_eq_true rfl, Nat.le_of_ble_eq_true rfl⟩ ⟨g_35, g_36⟩ (Nat.le_of_ble_eq_true rfl) (fun _ h => by cases h) (fun _ => rfl) (fun u_39 C_37 d_40 q_38 => ?_)
      obtain ⟨q_38a, h⟩ := q_38
      subst d_40
      show AW p l e _ s m args below meth c E M_G_text true _ n _ _ _ [(2, v0), (0, v1), (0, v2)] [] C_37
      refine AW.ra_n (dc hd_G_text 24 rfl) rfl rfl rfl ?_
      obtain ⟨g_41, h⟩ := h
      obtain ⟨g_42, h⟩ := h
      refine AW.callV (As := []) (rest := []) (ci := 10) (m_G_itemText l E n C_37 v0 _ h) cb_10_491 im_G_itemText se_G_itemText ⟨_, _, rfl⟩ (by decide) (dc hd_G_text 25 rfl) g_15 rfl rfl ⟨Nat.le_of_ble_eq_true rfl, Nat.le_of_ble_eq_true rfl⟩ ⟨g_41, g_42⟩ (Nat.le_of_ble_eq_true rfl) (fun _ h => by cases h) (fun _ => rfl) (fun u_46 C_43 n_44 q_45 => ?_)
      have h := q_45
      show AW p l e _ s m args below meth c E M_G_text true _ n_44 _ _ _ [(2, v0), (0, v1), (0, v2)] [] C_43
      refine AW.iinc [(2, v0), (0, v1), (0, w32 (v2 + 1))] (dc hd_G_text 26 rfl) rfl (Nat.le_of_ble_eq_true rfl) rfl rfl ?_
      refine AW.goto (t := 25) (dc hd_G_text 27 rfl) (by decide) ?_
      exact hkz25 C_43 n_44 (kc + 1) (ks + 6) (w32 (v2 + 1)) h
theorem aB_G_text_25 (v0 v1 : Int) (Q : Int → Cn → Nat → Prop) : ∀ (f : Nat) (z : Cn × Nat × Nat × Nat × Int), lp (B_G_text_25 v0 v1 Q) f z → AW p l e R s m args below meth c E M_G_text true Q z.2.1 z.2.2.1 z.2.2.2.1 25 [(2, v0), (0, v1), (0, z.2.2.2.2)] [] (z.1) := by
  intro f
  induction f with
  | zero => intro z h; exact False.elim h
  | succ f ih => intro z h; exact bB_G_text_25 v0 v1 Q (lp (B_G_text_25 v0 v1 Q) f) (fun a0 a1 a2 a3 a4 h => ih (a0, a1, a2, a3, a4) h) z.1 z.2.1 z.2.2.1 z.2.2.2.1 z.2.2.2.2 h
def P_G_text (n : Nat) (C : Cn) (v0 : Int) (Q : Int → Cn → Nat → Prop) : Prop :=
  okO n v0 10 ∧ (P_G_laysAside n C v0 (fun (_ : Int) (C_2 : Cn) => ∀ C_6 : Cn, C_6 = wr C_2 v0.toNat 43 (-1) → (P_G_looks n C_6 v0 0 (fun (_ : Int) (C_7 : Cn) => P_G_itemText n C_7 v0 (fun (_ : Int) (C_11 : Cn) (n_12 : Nat) => ∃ f_47 : Nat, lp (B_G_text_25 v0 (C_2 v0.toNat 2) Q) f_47 (C_11, n_12, 1, 6, 1))))))
theorem m_G_text (l : Launch) (E : Ev) (n : Nat) (C : Cn) (v0 : Int) (Q : Int → Cn → Nat → Prop) (h : P_G_text n C v0 Q) : MA l y_G_text M_G_text E true C n [(2, v0)] Q := by
  refine MA.of (by decide) rfl rfl 2 rfl (fun p e s m args below meth c => ?_)
  show AW p l e _ s m args below meth c E M_G_text true _ n 0 0 0 [(2, v0), (9, 0), (9, 0)] [] C
  unfold P_G_text at h
  refine AW.ra_n (dc hd_G_text 0 rfl) rfl rfl rfl ?_
  obtain ⟨g_1, h⟩ := h
  refine AW.callV (As := []) (rest := []) (ci := 10) (m_G_laysAside l E n C v0 _ h) cb_10_360 im_G_laysAside se_G_laysAside ⟨_, _, rfl⟩ (by decide) (dc hd_G_text 1 rfl) g_1 rfl rfl ⟨Nat.le_of_ble_eq_true rfl, Nat.le_of_ble_eq_true rfl⟩ ⟨(Nat.le_of_ble_eq_true rfl), (Nat.le_of_ble_eq_true rfl)⟩ (Nat.le_of_ble_eq_true rfl) (fun _ h => by cases h) (fun _ => rfl) (fun u_4 C_2 d_5 q_3 => ?_)
  obtain ⟨q_3a, h⟩ := q_3
  subst d_5
  show AW p l e _ s m args below meth c E M_G_text true _ n _ _ _ [(2, v0), (9, 0), (9, 0)] [] C_2
  refine AW.ra_n (dc hd_G_text 2 rfl) rfl rfl rfl ?_
  refine AW.getf fl_10_158 (dc hd_G_text 3 rfl) g_1 ?_
  refine AW.istore_n [(2, v0), (0, C_2 v0.toNat 2), (9, 0)] (dc hd_G_text 4 rfl) (Nat.le_of_ble_eq_true rfl) rfl rfl ?_
  refine AW.ra_n (dc hd_G_text 5 rfl) rfl rfl rfl ?_
  refine AW.iconst (dc hd_G_text 6 rfl) (by decide) ?_
  refine AW.nputI fl_10_431 (dc hd_G_text 7 rfl) g_1 (fun C_6 eC_6 => ?_)
  have h := h C_6 eC_6
  refine AW.ra_n (dc hd_G_text 8 rfl) rfl rfl rfl ?_
  refine AW.iconst (dc hd_G_text 9 rfl) (by decide) ?_
  refine AW.callV (As := [(0, 0)]) (rest := []) (ci := 10) (m_G_looks l E n C_6 v0 0 _ h) cb_10_434 im_G_looks se_G_looks ⟨_, _, rfl⟩ (by decide) (dc hd_G_text 10 rfl) g_1 rfl rfl ⟨Nat.le_of_ble_eq_true rfl, Nat.le_of_ble_eq_true rfl⟩ ⟨(Nat.le_of_ble_eq_true rfl), (Nat.le_of_ble_eq_true rfl)⟩ (Nat.le_of_ble_eq_true rfl) (fun _ h => by cases h) (fun _ => rfl) (fun u_9 C_7 d_10 q_8 => ?_)
  obtain ⟨q_8a, h⟩ := q_8
  subst d_10
  show AW p l e _ s m args below meth c E M_G_text true _ n _ _ _ [(2, v0), (0, C_2 v0.toNat 2), (9, 0)] [] C_7
  refine AW.ra_n (dc hd_G_text 11 rfl) rfl rfl rfl ?_
  refine AW.callV (As := []) (rest := []) (ci := 10) (m_G_itemText l E n C_7 v0 _ h) cb_10_491 im_G_itemText se_G_itemText ⟨_, _, rfl⟩ (by decide) (dc hd_G_text 12 rfl) g_1 rfl rfl ⟨Nat.le_of_ble_eq_true rfl, Nat.le_of_ble_eq_true rfl⟩ ⟨(Nat.le_of_ble_eq_true rfl), (Nat.le_of_ble_eq_true rfl)⟩ (Nat.le_of_ble_eq_true rfl) (fun _ h => by cases h) (fun _ => rfl) (fun u_14 C_11 n_12 q_13 => ?_)
  have h := q_13
  show AW p l e _ s m args below meth c E M_G_text true _ n_12 _ _ _ [(2, v0), (0, C_2 v0.toNat 2), (9, 0)] [] C_11
  refine AW.iconst (dc hd_G_text 13 rfl) (by decide) ?_
  refine AW.istore_n [(2, v0), (0, C_2 v0.toNat 2), (0, 1)] (dc hd_G_text 14 rfl) (Nat.le_of_ble_eq_true rfl) rfl rfl ?_
  obtain ⟨f_47, h⟩ := h
  exact aB_G_text_25 v0 (C_2 v0.toNat 2) Q f_47 (C_11, n_12, 1, 6, 1) h
end
