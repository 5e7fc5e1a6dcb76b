section
variable {p : Program} {l : Launch} {e : Env} {R : Room} {s : State} {m : MethodId} {args : Array Value} {below : List Frame} {meth : Method} {c : Code} {E : Ev}
def J_G_segment_43 (n : Nat) (C : Cn) (v0 v1 v2 v3 v4 v5 : Int) (Q : Int → Cn → Prop) : Prop :=
  okO n v0 10 ∧ ((C v0.toNat 0 = 6 → (P_G_finds n C v0 1 (fun (r_54 : Int) (C_55 : Cn) => Q r_54 C_55))) ∧ (¬ C v0.toNat 0 = 6 → (P_G_lays n C (PT v0.toNat 9) v1 v2 v3 v4 v5 (fun (_ : Int) (C_34 : Cn) => P_G_stands n C_34 v0 (PT v0.toNat 9) (-1) 0 (fun (r_38 : Int) (C_39 : Cn) => (r_38 = 0 → (P_G_finds n C_39 v0 4 (fun (r_50 : Int) (C_51 : Cn) => Q r_50 C_51))) ∧ (¬ r_38 = 0 → (okO n (PT v0.toNat 1) 17 ∧ (okI (PT v0.toNat 1) (C_39 v0.toNat 0) ∧ (P_G_copies n C_39 (PT v0.toNat 9) (PT (PT v0.toNat 1).toNat (C_39 v0.toNat 0).toNat) (fun (_ : Int) (C_45 : Cn) => ∀ C_49 : Cn, C_49 = wr C_45 v0.toNat 0 (w32 (C_45 v0.toNat 0 + 1)) → (Q (w32 (C_49 v0.toNat 0 - 1)) C_49)))))))))))
theorem aJ_G_segment_43 (n : Nat) (C : Cn) (v0 v1 v2 v3 v4 v5 : Int) (Q : Int → Cn → Prop) (h : J_G_segment_43 n C v0 v1 v2 v3 v4 v5 Q) : AW p l e R s m args below meth c E M_G_segment true (fun r C2 n2 => n2 = n ∧ Q r C2) n 0 0 43 [(2, v0), (0, v1), (0, v2), (0, v3), (0, v4), (0, v5)] [] C := by
  unfold J_G_segment_43 at h
  refine AW.ra_n (dc hd_G_segment 21 rfl) rfl rfl rfl ?_
  obtain ⟨g_32, h⟩ := h
  refine AW.getf fl_10_117 (dc hd_G_segment 22 rfl) g_32 ?_
  refine AW.bipush (dc hd_G_segment 23 rfl) (by decide) (by decide +kernel) ?_
  refine AW.icmp_ne (t := 58) (dc hd_G_segment 24 rfl) (by decide) (fun c_33 => ?_) (fun c_33 => ?_)
  · have h := h.2 c_33
    refine AW.ra_n (dc hd_G_segment 29 rfl) rfl rfl rfl ?_
    refine AW.getp fl_10_25 (dc hd_G_segment 30 rfl) g_32 rfl ?_
    refine AW.iload_n (dc hd_G_segment 31 rfl) rfl ?_
    refine AW.iload_n (dc hd_G_segment 32 rfl) rfl ?_
    refine AW.iload_n (dc hd_G_segment 33 rfl) rfl ?_
    refine AW.iload (dc hd_G_segment 34 rfl) rfl ?_
    refine AW.iload (dc hd_G_segment 35 rfl) rfl ?_
    refine AW.callS (As := [(2, PT v0.toNat 9), (0, v1), (0, v2), (0, v3), (0, v4), (0, v5)]) (rest := []) (m_G_lays l E n C (PT v0.toNat 9) v1 v2 v3 v4 v5 _ h) cb_10_190 sm_G_lays (dc hd_G_segment 36 rfl) rfl rfl ⟨Nat.le_of_ble_eq_true rfl, Nat.le_of_ble_eq_true rfl⟩ ⟨(Nat.le_of_ble_eq_true rfl), (Nat.le_of_ble_eq_true rfl)⟩ (Nat.le_of_ble_eq_true rfl) (fun _ h => by cases h) (fun _ => rfl) (fun u_36 C_34 d_37 q_35 => ?_)
    obtain ⟨q_35a, h⟩ := q_35
    subst d_37
    show AW p l e _ s m args below meth c E M_G_segment true _ n _ _ _ [(2, v0), (0, v1), (0, v2), (0, v3), (0, v4), (0, v5)] [] C_34
    refine AW.ra_n (dc hd_G_segment 37 rfl) rfl rfl rfl ?_
    refine AW.ra_n (dc hd_G_segment 38 rfl) rfl rfl rfl ?_
    refine AW.getp fl_10_25 (dc hd_G_segment 39 rfl) g_32 rfl ?_
    refine AW.iconst (dc hd_G_segment 40 rfl) (by decide) ?_
    refine AW.iconst (dc hd_G_segment 41 rfl) (by decide) ?_
    refine AW.callV (As := [(2, PT v0.toNat 9), (0, (-1)), (0, 0)]) (rest := []) (ci := 10) (m_G_stands l E n C_34 v0 (PT v0.toNat 9) (-1) 0 _ h) cb_10_194 im_G_stands se_G_stands ⟨_, _, rfl⟩ (by decide) (dc hd_G_segment 42 rfl) g_32 rfl rfl ⟨Nat.le_of_ble_eq_true rfl, Nat.le_of_ble_eq_true rfl⟩ ⟨(Nat.le_of_ble_eq_true rfl), (Nat.le_of_ble_eq_true rfl)⟩ (Nat.le_of_ble_eq_true rfl) (fun _ h => by cases h) (fun _ => rfl) (fun r_38 C_39 d_41 q_40 => ?_)
    obtain ⟨q_40a, h⟩ := q_40
    subst d_41
    show AW p l e _ s m args below meth c E M_G_segment true _ n _ _ _ [(2, v0), (0, v1), (0, v2), (0, v3), (0, v4), (0, v5)] [(0, r_38)] C_39
    refine AW.if_ne (t := 91) (dc hd_G_segment 43 rfl) (by decide) (fun c_42 => ?_) (fun c_42 => ?_)
    · have h := h.2 c_42
      refine AW.ra_n (dc hd_G_segment 48 rfl) rfl rfl rfl ?_
      refine AW.getp fl_10_25 (dc hd_G_segment 49 rfl) g_32 rfl ?_
      refine AW.ra_n (dc hd_G_segment 50 rfl) rfl rfl rfl ?_
      refine AW.getp fl_10_11 (dc hd_G_segment 51 rfl) g_32 rfl ?_
      refine AW.ra_n (dc hd_G_segment 52 rfl) rfl rfl rfl ?_
      refine AW.getf fl_10_117 (dc hd_G_segment 53 rfl) g_32 ?_
      obtain ⟨g_43, h⟩ := h
      obtain ⟨g_44, h⟩ := h
      refine AW.aaldp (by decide) (dc hd_G_segment 54 rfl) g_43 g_44 rfl ?_
      refine AW.callS (As := [(2, PT v0.toNat 9), (2, PT (PT v0.toNat 1).toNat (C_39 v0.toNat 0).toNat)]) (rest := []) (m_G_copies l E n C_39 (PT v0.toNat 9) (PT (PT v0.toNat 1).toNat (C_39 v0.toNat 0).toNat) _ h) cb_10_198 sm_G_copies (dc hd_G_segment 55 rfl) rfl rfl ⟨Nat.le_of_ble_eq_true rfl, Nat.le_of_ble_eq_true rfl⟩ ⟨(Nat.le_of_ble_eq_true rfl), (Nat.le_of_ble_eq_true rfl)⟩ (Nat.le_of_ble_eq_true rfl) (fun _ h => by cases h) (fun _ => rfl) (fun u_47 C_45 d_48 q_46 => ?_)
      obtain ⟨q_46a, h⟩ := q_46
      subst d_48
      show AW p l e _ s m args below meth c E M_G_segment true _ n _ _ _ [(2, v0), (0, v1), (0, v2), (0, v3), (0, v4), (0, v5)] [] C_45
      refine AW.ra_n (dc hd_G_segment 56 rfl) rfl rfl rfl ?_
      refine AW.rdup (dc hd_G_segment 57 rfl) rfl ?_
      refine AW.getf fl_10_117 (dc hd_G_segment 58 rfl) g_32 ?_
      refine AW.iconst (dc hd_G_segment 59 rfl) (by decide) ?_
      refine AW.iadd (dc hd_G_segment 60 rfl) ?_
      refine AW.nputI fl_10_117 (dc hd_G_segment 61 rfl) g_32 (fun C_49 eC_49 => ?_)
      have h := h C_49 eC_49
      refine AW.ra_n (dc hd_G_segment 62 rfl) rfl rfl rfl ?_
      refine AW.getf fl_10_117 (dc hd_G_segment 63 rfl) g_32 ?_
      refine AW.iconst (dc hd_G_segment 64 rfl) (by decide) ?_
      refine AW.isub (dc hd_G_segment 65 rfl) ?_
      exact AW.iret (dc hd_G_segment 66 rfl) rfl rfl (Nat.le_of_ble_eq_true rfl) (Nat.le_of_ble_eq_true rfl) ⟨rfl, h⟩
    · have h := h.1 c_42
      refine AW.ra_n (dc hd_G_segment 44 rfl) rfl rfl rfl ?_
      refine AW.iconst (dc hd_G_segment 45 rfl) (by decide) ?_
      refine AW.callV (As := [(0, 4)]) (rest := []) (ci := 10) (m_G_finds l E n C_39 v0 4 _ h) cb_10_186 im_G_finds se_G_finds ⟨_, _, rfl⟩ (by decide) (dc hd_G_segment 46 rfl) g_32 rfl rfl ⟨Nat.le_of_ble_eq_true rfl, Nat.le_of_ble_eq_true rfl⟩ ⟨(Nat.le_of_ble_eq_true rfl), (Nat.le_of_ble_eq_true rfl)⟩ (Nat.le_of_ble_eq_true rfl) (fun _ h => by cases h) (fun _ => rfl) (fun r_50 C_51 d_53 q_52 => ?_)
      obtain ⟨q_52a, h⟩ := q_52
      subst d_53
      show AW p l e _ s m args below meth c E M_G_segment true _ n _ _ _ [(2, v0), (0, v1), (0, v2), (0, v3), (0, v4), (0, v5)] [(0, r_50)] C_51
      exact AW.iret (dc hd_G_segment 47 rfl) rfl rfl (Nat.le_of_ble_eq_true rfl) (Nat.le_of_ble_eq_true rfl) ⟨rfl, h⟩
  · have h := h.1 c_33
    refine AW.ra_n (dc hd_G_segment 25 rfl) rfl rfl rfl ?_
    refine AW.iconst (dc hd_G_segment 26 rfl) (by decide) ?_
    refine AW.callV (As := [(0, 1)]) (rest := []) (ci := 10) (m_G_finds l E n C v0 1 _ h) cb_10_186 im_G_finds se_G_finds ⟨_, _, rfl⟩ (by decide) (dc hd_G_segment 27 rfl) g_32 rfl rfl ⟨Nat.le_of_ble_eq_true rfl, Nat.le_of_ble_eq_true rfl⟩ ⟨(Nat.le_of_ble_eq_true rfl), (Nat.le_of_ble_eq_true rfl)⟩ (Nat.le_of_ble_eq_true rfl) (fun _ h => by cases h) (fun _ => rfl) (fun r_54 C_55 d_57 q_56 => ?_)
    obtain ⟨q_56a, h⟩ := q_56
    subst d_57
    show AW p l e _ s m args below meth c E M_G_segment true _ n _ _ _ [(2, v0), (0, v1), (0, v2), (0, v3), (0, v4), (0, v5)] [(0, r_54)] C_55
    exact AW.iret (dc hd_G_segment 28 rfl) rfl rfl (Nat.le_of_ble_eq_true rfl) (Nat.le_of_ble_eq_true rfl) ⟨rfl, h⟩
def P_G_segment (n : Nat) (C : Cn) (v0 v1 v2 v3 v4 v5 : Int) (Q : Int → Cn → Prop) : Prop :=
  P_G_isKm n C v1 (fun (r_1 : Int) => (r_1 = 0 → (okO n v0 10 ∧ (P_G_finds n C v0 0 (fun (r_6 : Int) (C_8 : Cn) => Q r_6 C_8)))) ∧ (¬ r_1 = 0 → (P_G_isPoint n C v2 v3 (fun (r_11 : Int) => (r_11 = 0 → (okO n v0 10 ∧ (P_G_finds n C v0 0 (fun (r_16 : Int) (C_18 : Cn) => Q r_16 C_18)))) ∧ (¬ r_11 = 0 → (P_G_isPoint n C v4 v5 (fun (r_21 : Int) => (r_21 = 0 → (okO n v0 10 ∧ (P_G_finds n C v0 0 (fun (r_26 : Int) (C_28 : Cn) => Q r_26 C_28)))) ∧ (¬ r_21 = 0 → ((v2 = v4 → ((v3 = v5 → (okO n v0 10 ∧ (P_G_finds n C v0 0 (fun (r_59 : Int) (C_61 : Cn) => Q r_59 C_61)))) ∧ (¬ v3 = v5 → (J_G_segment_43 n C v0 v1 v2 v3 v4 v5 Q)))) ∧ (¬ v2 = v4 → (J_G_segment_43 n C v0 v1 v2 v3 v4 v5 Q)))))))))))
theorem m_G_segment (l : Launch) (E : Ev) (n : Nat) (C : Cn) (v0 v1 v2 v3 v4 v5 : Int) (Q : Int → Cn → Prop) (h : P_G_segment n C v0 v1 v2 v3 v4 v5 Q) : MA l y_G_segment M_G_segment E true C n [(2, v0), (0, v1), (0, v2), (0, v3), (0, v4), (0, v5)] (fun r C2 n2 => n2 = n ∧ Q r C2) := by
  refine MA.of (by decide) rfl rfl 0 rfl (fun p e s m args below meth c => ?_)
  show AW p l e _ s m args below meth c E M_G_segment true _ n 0 0 0 [(2, v0), (0, v1), (0, v2), (0, v3), (0, v4), (0, v5)] [] C
  unfold P_G_segment at h
  refine AW.iload_n (dc hd_G_segment 0 rfl) rfl ?_
  refine AW.callS (As := [(0, v1)]) (rest := []) (m_G_isKm l E n C v1 _ h) cb_10_179 sm_G_isKm (dc hd_G_segment 1 rfl) rfl rfl ⟨Nat.le_of_ble_eq_true rfl, Nat.le_of_ble_eq_true rfl⟩ ⟨(Nat.le_of_ble_eq_true rfl), (Nat.le_of_ble_eq_true rfl)⟩ (Nat.le_of_ble_eq_true rfl) (fun _ h => by cases h) (fun _ => rfl) (fun r_1 D_3 d_4 q_2 => ?_)
  obtain ⟨q_2a, q_2b, h⟩ := q_2
  subst D_3
  subst d_4
  show AW p l e _ s m args below meth c E M_G_segment true _ n _ _ _ [(2, v0), (0, v1), (0, v2), (0, v3), (0, v4), (0, v5)] [(0, r_1)] C
  refine AW.if_eq (t := 37) (dc hd_G_segment 2 rfl) (by decide) (fun c_5 => ?_) (fun c_5 => ?_)
  · have h := h.1 c_5
    refine AW.ra_n (dc hd_G_segment 17 rfl) rfl rfl rfl ?_
    refine AW.iconst (dc hd_G_segment 18 rfl) (by decide) ?_
    obtain ⟨g_7, h⟩ := h
    refine AW.callV (As := [(0, 0)]) (rest := []) (ci := 10) (m_G_finds l E n C v0 0 _ h) cb_10_186 im_G_finds se_G_finds ⟨_, _, rfl⟩ (by decide) (dc hd_G_segment 19 rfl) g_7 rfl rfl ⟨Nat.le_of_ble_eq_true rfl, Nat.le_of_ble_eq_true rfl⟩ ⟨(Nat.le_of_ble_eq_true rfl), (Nat.le_of_ble_eq_true rfl)⟩ (Nat.le_of_ble_eq_true rfl) (fun _ h => by cases h) (fun _ => rfl) (fun r_6 C_8 d_10 q_9 => ?_)
    obtain ⟨q_9a, h⟩ := q_9
    subst d_10
    show AW p l e _ s m args below meth c E M_G_segment true _ n _ _ _ [(2, v0), (0, v1), (0, v2), (0, v3), (0, v4), (0, v5)] [(0, r_6)] C_8
    exact AW.iret (dc hd_G_segment 20 rfl) rfl rfl (Nat.le_of_ble_eq_true rfl) (Nat.le_of_ble_eq_true rfl) ⟨rfl, h⟩
  · have h := h.2 c_5
    refine AW.iload_n (dc hd_G_segment 3 rfl) rfl ?_
    refine AW.iload_n (dc hd_G_segment 4 rfl) rfl ?_
    refine AW.callS (As := [(0, v2), (0, v3)]) (rest := []) (m_G_isPoint l E n C v2 v3 _ h) cb_10_183 sm_G_isPoint (dc hd_G_segment 5 rfl) rfl rfl ⟨Nat.le_of_ble_eq_true rfl, Nat.le_of_ble_eq_true rfl⟩ ⟨(Nat.le_of_ble_eq_true rfl), (Nat.le_of_ble_eq_true rfl)⟩ (Nat.le_of_ble_eq_true rfl) (fun _ h => by cases h) (fun _ => rfl) (fun r_11 D_13 d_14 q_12 => ?_)
    obtain ⟨q_12a, q_12b, h⟩ := q_12
    subst D_13
    subst d_14
    show AW p l e _ s m args below meth c E M_G_segment true _ n _ _ _ [(2, v0), (0, v1), (0, v2), (0, v3), (0, v4), (0, v5)] [(0, r_11)] C
    refine AW.if_eq (t := 37) (dc hd_G_segment 6 rfl) (by decide) (fun c_15 => ?_) (fun c_15 => ?_)
    · have h := h.1 c_15
      refine AW.ra_n (dc hd_G_segment 17 rfl) rfl rfl rfl ?_
      refine AW.iconst (dc hd_G_segment 18 rfl) (by decide) ?_
      obtain ⟨g_17, h⟩ := h
      refine AW.callV (As := [(0, 0)]) (rest := []) (ci := 10) (m_G_finds l E n C v0 0 _ h) cb_10_186 im_G_finds se_G_finds ⟨_, _, rfl⟩ (by decide) (dc hd_G_segment 19 rfl) g_17 rfl rfl ⟨Nat.le_of_ble_eq_true rfl, Nat.le_of_ble_eq_true rfl⟩ ⟨(Nat.le_of_ble_eq_true rfl), (Nat.le_of_ble_eq_true rfl)⟩ (Nat.le_of_ble_eq_true rfl) (fun _ h => by cases h) (fun _ => rfl) (fun r_16 C_18 d_20 q_19 => ?_)
      obtain ⟨q_19a, h⟩ := q_19
      subst d_20
      show AW p l e _ s m args below meth c E M_G_segment true _ n _ _ _ [(2, v0), (0, v1), (0, v2), (0, v3), (0, v4), (0, v5)] [(0, r_16)] C_18
      exact AW.iret (dc hd_G_segment 20 rfl) rfl rfl (Nat.le_of_ble_eq_true rfl) (Nat.le_of_ble_eq_true rfl) ⟨rfl, h⟩
    · have h := h.2 c_15
      refine AW.iload (dc hd_G_segment 7 rfl) rfl ?_
      refine AW.iload (dc hd_G_segment 8 rfl) rfl ?_
      refine AW.callS (As := [(0, v4), (0, v5)]) (rest := []) (m_G_isPoint l E n C v4 v5 _ h) cb_10_183 sm_G_isPoint (dc hd_G_segment 9 rfl) rfl rfl ⟨Nat.le_of_ble_eq_true rfl, Nat.le_of_ble_eq_true rfl⟩ ⟨(Nat.le_of_ble_eq_true rfl), (Nat.le_of_ble_eq_true rfl)⟩ (Nat.le_of_ble_eq_true rfl) (fun _ h => by cases h) (fun _ => rfl) (fun r_21 D_23 d_24 q_22 => ?_)
      obtain ⟨q_22a, q_22b, h⟩ := q_22
      subst D_23
      subst d_24
      show AW p l e _ s m args below meth c E M_G_segment true _ n _ _ _ [(2, v0), (0, v1), (0, v2), (0, v3), (0, v4), (0, v5)] [(0, r_21)] C
      refine AW.if_eq (t := 37) (dc hd_G_segment 10 rfl) (by decide) (fun c_25 => ?_) (fun c_25 => ?_)
      · have h := h.1 c_25
        refine AW.ra_n (dc hd_G_segment 17 rfl) rfl rfl rfl ?_
        refine AW.iconst (dc hd_G_segment 18 rfl) (by decide) ?_
        obtain ⟨g_27, h⟩ := h
        refine AW.callV (As := [(0, 0)]) (rest := []) (ci := 10) (m_G_finds l E n C v0 0 _ h) cb_10_186 im_G_finds se_G_finds ⟨_, _, rfl⟩ (by decide) (dc hd_G_segment 19 rfl) g_27 rfl rfl ⟨Nat.le_of_ble_eq_true rfl, Nat.le_of_ble_eq_true rfl⟩ ⟨(Nat.le_of_ble_eq_true rfl), (Nat.le_of_ble_eq_true rfl)⟩ (Nat.le_of_ble_eq_true rfl) (fun _ h => by cases h) (fun _ => rfl) (fun r_26 C_28 d_30 q_29 => ?_)
        obtain ⟨q_29a, h⟩ := q_29
        subst d_30
        show AW p l e _ s m args below meth c E M_G_segment true _ n _ _ _ [(2, v0), (0, v1), (0, v2), (0, v3), (0, v4), (0, v5)] [(0, r_26)] C_28
        exact AW.iret (dc hd_G_segment 20 rfl) rfl rfl (Nat.le_of_ble_eq_true rfl) (Nat.le_of_ble_eq_true rfl) ⟨rfl, h⟩
      · have h := h.2 c_25
        refine AW.iload_n (dc hd_G_segment 11 rfl) rfl ?_
        refine AW.iload (dc hd_G_segment 12 rfl) rfl ?_
        refine AW.icmp_ne (t := 43) (dc hd_G_segment 13 rfl) (by decide) (fun c_31 => ?_) (fun c_31 => ?_)
        · have h := h.2 c_31
          exact aJ_G_segment_43 n C v0 v1 v2 v3 v4 v5 Q h
        · have h := h.1 c_31
          refine AW.iload_n (dc hd_G_segment 14 rfl) rfl ?_
          refine AW.iload (dc hd_G_segment 15 rfl) rfl ?_
          refine AW.icmp_ne (t := 43) (dc hd_G_segment 16 rfl) (by decide) (fun c_58 => ?_) (fun c_58 => ?_)
          · have h := h.2 c_58
            exact aJ_G_segment_43 n C v0 v1 v2 v3 v4 v5 Q h
          · have h := h.1 c_58
            refine AW.ra_n (dc hd_G_segment 17 rfl) rfl rfl rfl ?_
            refine AW.iconst (dc hd_G_segment 18 rfl) (by decide) ?_
            obtain ⟨g_60, h⟩ := h
            refine AW.callV (As := [(0, 0)]) (rest := []) (ci := 10) (m_G_finds l E n C v0 0 _ h) cb_10_186 im_G_finds se_G_finds ⟨_, _, rfl⟩ (by decide) (dc hd_G_segment 19 rfl) g_60 rfl rfl ⟨Nat.le_of_ble_eq_true rfl, Nat.le_of_ble_eq_true rfl⟩ ⟨(Nat.le_of_ble_eq_true rfl), (Nat.le_of_ble_eq_true rfl)⟩ (Nat.le_of_ble_eq_true rfl) (fun _ h => by cases h) (fun _ => rfl) (fun r_59 C_61 d_63 q_62 => ?_)
            obtain ⟨q_62a, h⟩ := q_62
            subst d_63
            show AW p l e _ s m args below meth c E M_G_segment true _ n _ _ _ [(2, v0), (0, v1), (0, v2), (0, v3), (0, v4), (0, v5)] [(0, r_59)] C_61
            exact AW.iret (dc hd_G_segment 20 rfl) rfl rfl (Nat.le_of_ble_eq_true rfl) (Nat.le_of_ble_eq_true rfl) ⟨rfl, h⟩
def J_G_move_44 (n : Nat) (C : Cn) (v0 v1 v2 v3 v4 v5 : Int) (Q : Int → Cn → Prop) : Prop :=
  okO n v0 10 ∧ (okO n (PT v0.toNat 1) 17 ∧ (okI (PT v0.toNat 1) v1 ∧ (okO n (PT (PT v0.toNat 1).toNat v1.toNat) 12 ∧ (okI (PT (PT v0.toNat 1).toNat v1.toNat) 0 ∧ (okI (PT (PT v0.toNat 1).toNat v1.toNat) 1 ∧ (P_G_lays n C (PT v0.toNat 9) (w32 (w32 (10 * (C (PT (PT v0.toNat 1).toNat v1.toNat).toNat 0)) + C (PT (PT v0.toNat 1).toNat v1.toNat).toNat 1)) v2 v3 v4 v5 (fun (_ : Int) (C_36 : Cn) => P_G_stands n C_36 v0 (PT v0.toNat 9) v1 0 (fun (r_40 : Int) (C_41 : Cn) => (r_40 = 0 → (P_G_finds n C_41 v0 4 (fun (r_49 : Int) (C_50 : Cn) => Q r_49 C_50))) ∧ (¬ r_40 = 0 → (P_G_copies n C_41 (PT v0.toNat 9) (PT (PT v0.toNat 1).toNat v1.toNat) (fun (_ : Int) (C_45 : Cn) => Q 1 C_45)))))))))))
theorem aJ_G_move_44 (n : Nat) (C : Cn) (v0 v1 v2 v3 v4 v5 : Int) (Q : Int → Cn → Prop) (h : J_G_move_44 n C v0 v1 v2 v3 v4 v5 Q) : AW p l e R s m args below meth c E M_G_move true (fun r C2 n2 => n2 = n ∧ Q r C2) n 0 0 44 [(2, v0), (0, v1), (0, v2), (0, v3), (0, v4), (0, v5)] [] C := by
  unfold J_G_move_44 at h
  refine AW.ra_n (dc hd_G_move 22 rfl) rfl rfl rfl ?_
  obtain ⟨g_30, h⟩ := h
  refine AW.getp fl_10_25 (dc hd_G_move 23 rfl) g_30 rfl ?_
  refine AW.bipush (dc hd_G_move 24 rfl) (by decide) (by decide +kernel) ?_
  refine AW.ra_n (dc hd_G_move 25 rfl) rfl rfl rfl ?_
  refine AW.getp fl_10_11 (dc hd_G_move 26 rfl) g_30 rfl ?_
  refine AW.iload_n (dc hd_G_move 27 rfl) rfl ?_
  obtain ⟨g_31, h⟩ := h
  obtain ⟨g_32, h⟩ := h
  refine AW.aaldp (by decide) (dc hd_G_move 28 rfl) g_31 g_32 rfl ?_
  refine AW.iconst (dc hd_G_move 29 rfl) (by decide) ?_
  obtain ⟨g_33, h⟩ := h
  obtain ⟨g_34, h⟩ := h
  refine AW.iald (dc hd_G_move 30 rfl) g_33 g_34 ?_
  refine AW.imul (dc hd_G_move 31 rfl) ?_
  refine AW.ra_n (dc hd_G_move 32 rfl) rfl rfl rfl ?_
  refine AW.getp fl_10_11 (dc hd_G_move 33 rfl) g_30 rfl ?_
  refine AW.iload_n (dc hd_G_move 34 rfl) rfl ?_
  refine AW.aaldp (by decide) (dc hd_G_move 35 rfl) g_31 g_32 rfl ?_
  refine AW.iconst (dc hd_G_move 36 rfl) (by decide) ?_
  obtain ⟨g_35, h⟩ := h
  refine AW.iald (dc hd_G_move 37 rfl) g_33 g_35 ?_
  refine AW.iadd (dc hd_G_move 38 rfl) ?_
  refine AW.iload_n (dc hd_G_move 39 rfl) rfl ?_
  refine AW.iload_n (dc hd_G_move 40 rfl) rfl ?_
  refine AW.iload (dc hd_G_move 41 rfl) rfl ?_
  refine AW.iload (dc hd_G_move 42 rfl) rfl ?_
  refine AW.callS (As := [(2, PT v0.toNat 9), (0, w32 (w32 (10 * (C (PT (PT v0.toNat 1).toNat v1.toNat).toNat 0)) + C (PT (PT v0.toNat 1).toNat v1.toNat).toNat 1)), (0, v2), (0, v3), (0, v4), (0, v5)]) (rest := []) (m_G_lays l E n C (PT v0.toNat 9) (w32 (w32 (10 * (C (PT (PT v0.toNat 1).toNat v1.toNat).toNat 0)) + C (PT (PT v0.toNat 1).toNat v1.toNat).toNat 1)) v2 v3 v4 v5 _ h) cb_10_190 sm_G_lays (dc hd_G_move 43 rfl) rfl rfl ⟨Nat.le_of_ble_eq_true rfl, Nat.le_of_ble_eq_true rfl⟩ ⟨(Nat.le_of_ble_eq_true rfl), (Nat.le_of_ble_eq_true rfl)⟩ (Nat.le_of_ble_eq_true rfl) (fun _ h => by cases h) (fun _ => rfl) (fun u_38 C_36 d_39 q_37 => ?_)
  obtain ⟨q_37a, h⟩ := q_37
  subst d_39
  show AW p l e _ s m args below meth c E M_G_move true _ n _ _ _ [(2, v0), (0, v1), (0, v2), (0, v3), (0, v4), (0, v5)] [] C_36
  refine AW.ra_n (dc hd_G_move 44 rfl) rfl rfl rfl ?_
  refine AW.ra_n (dc hd_G_move 45 rfl) rfl rfl rfl ?_
  refine AW.getp fl_10_25 (dc hd_G_move 46 rfl) g_30 rfl ?_
  refine AW.iload_n (dc hd_G_move 47 rfl) rfl ?_
  refine AW.iconst (dc hd_G_move 48 rfl) (by decide) ?_
  refine AW.callV (As := [(2, PT v0.toNat 9), (0, v1), (0, 0)]) (rest := []) (ci := 10) (m_G_stands l E n C_36 v0 (PT v0.toNat 9) v1 0 _ h) cb_10_194 im_G_stands se_G_stands ⟨_, _, rfl⟩ (by decide) (dc hd_G_move 49 rfl) g_30 rfl rfl ⟨Nat.le_of_ble_eq_true rfl, Nat.le_of_ble_eq_true rfl⟩ ⟨(Nat.le_of_ble_eq_true rfl), (Nat.le_of_ble_eq_true rfl)⟩ (Nat.le_of_ble_eq_true rfl) (fun _ h => by cases h) (fun _ => rfl) (fun r_40 C_41 d_43 q_42 => ?_)
  obtain ⟨q_42a, h⟩ := q_42
  subst d_43
  show AW p l e _ s m args below meth c E M_G_move true _ n _ _ _ [(2, v0), (0, v1), (0, v2), (0, v3), (0, v4), (0, v5)] [(0, r_40)] C_41
  refine AW.if_ne (t := 96) (dc hd_G_move 50 rfl) (by decide) (fun c_44 => ?_) (fun c_44 => ?_)
  · have h := h.2 c_44
    refine AW.ra_n (dc hd_G_move 55 rfl) rfl rfl rfl ?_
    refine AW.getp fl_10_25 (dc hd_G_move 56 rfl) g_30 rfl ?_
    refine AW.ra_n (dc hd_G_move 57 rfl) rfl rfl rfl ?_
    refine AW.getp fl_10_11 (dc hd_G_move 58 rfl) g_30 rfl ?_
    refine AW.iload_n (dc hd_G_move 59 rfl) rfl ?_
    refine AW.aaldp (by decide) (dc hd_G_move 60 rfl) g_31 g_32 rfl ?_
    refine AW.callS (As := [(2, PT v0.toNat 9), (2, PT (PT v0.toNat 1).toNat v1.toNat)]) (rest := []) (m_G_copies l E n C_41 (PT v0.toNat 9) (PT (PT v0.toNat 1).toNat v1.toNat) _ h) cb_10_198 sm_G_copies (dc hd_G_move 61 rfl) rfl rfl ⟨Nat.le_of_ble_eq_true rfl, Nat.le_of_ble_eq_true rfl⟩ ⟨(Nat.le_of_ble_eq_true rfl), (Nat.le_of_ble_eq_true rfl)⟩ (Nat.le_of_ble_eq_true rfl) (fun _ h => by cases h) (fun _ => rfl) (fun u_47 C_45 d_48 q_46 => ?_)
    obtain ⟨q_46a, h⟩ := q_46
    subst d_48
    show AW p l e _ s m args below meth c E M_G_move true _ n _ _ _ [(2, v0), (0, v1), (0, v2), (0, v3), (0, v4), (0, v5)] [] C_45
    refine AW.iconst (dc hd_G_move 62 rfl) (by decide) ?_
    exact AW.iret (dc hd_G_move 63 rfl) rfl rfl (Nat.le_of_ble_eq_true rfl) (Nat.le_of_ble_eq_true rfl) ⟨rfl, h⟩
  · have h := h.1 c_44
    refine AW.ra_n (dc hd_G_move 51 rfl) rfl rfl rfl ?_
    refine AW.iconst (dc hd_G_move 52 rfl) (by decide) ?_
    refine AW.callV (As := [(0, 4)]) (rest := []) (ci := 10) (m_G_finds l E n C_41 v0 4 _ h) cb_10_186 im_G_finds se_G_finds ⟨_, _, rfl⟩ (by decide) (dc hd_G_move 53 rfl) g_30 rfl rfl ⟨Nat.le_of_ble_eq_true rfl, Nat.le_of_ble_eq_true rfl⟩ ⟨(Nat.le_of_ble_eq_true rfl), (Nat.le_of_ble_eq_true rfl)⟩ (Nat.le_of_ble_eq_true rfl) (fun _ h => by cases h) (fun _ => rfl) (fun r_49 C_50 d_52 q_51 => ?_)
    obtain ⟨q_51a, h⟩ := q_51
    subst d_52
    show AW p l e _ s m args below meth c E M_G_move true _ n _ _ _ [(2, v0), (0, v1), (0, v2), (0, v3), (0, v4), (0, v5)] [(0, r_49)] C_50
    exact AW.iret (dc hd_G_move 54 rfl) rfl rfl (Nat.le_of_ble_eq_true rfl) (Nat.le_of_ble_eq_true rfl) ⟨rfl, h⟩
def P_G_move (n : Nat) (C : Cn) (v0 v1 v2 v3 v4 v5 : Int) (Q : Int → Cn → Prop) : Prop :=
  okO n v0 10 ∧ (P_G_isSegment n C v0 v1 (fun (r_1 : Int) => (r_1 = 0 → (P_G_finds n C v0 0 (fun (r_7 : Int) (C_8 : Cn) => Q r_7 C_8))) ∧ (¬ r_1 = 0 → (P_G_isPoint n C v2 v3 (fun (r_11 : Int) => (r_11 = 0 → (P_G_finds n C v0 0 (fun (r_16 : Int) (C_17 : Cn) => Q r_16 C_17))) ∧ (¬ r_11 = 0 → (P_G_isPoint n C v4 v5 (fun (r_20 : Int) => (r_20 = 0 → (P_G_finds n C v0 0 (fun (r_25 : Int) (C_26 : Cn) => Q r_25 C_26))) ∧ (¬ r_20 = 0 → ((v2 = v4 → ((v3 = v5 → (P_G_finds n C v0 0 (fun (r_54 : Int) (C_55 : Cn) => Q r_54 C_55))) ∧ (¬ v3 = v5 → (J_G_move_44 n C v0 v1 v2 v3 v4 v5 Q)))) ∧ (¬ v2 = v4 → (J_G_move_44 n C v0 v1 v2 v3 v4 v5 Q))))))))))))
theorem m_G_move (l : Launch) (E : Ev) (n : Nat) (C : Cn) (v0 v1 v2 v3 v4 v5 : Int) (Q : Int → Cn → Prop) (h : P_G_move n C v0 v1 v2 v3 v4 v5 Q) : MA l y_G_move M_G_move E true C n [(2, v0), (0, v1), (0, v2), (0, v3), (0, v4), (0, v5)] (fun r C2 n2 => n2 = n ∧ Q r C2) := by
  refine MA.of (by decide) rfl rfl 0 rfl (fun p e s m args below meth c => ?_)
  show AW p l e _ s m args below meth c E M_G_move true _ n 0 0 0 [(2, v0), (0, v1), (0, v2), (0, v3), (0, v4), (0, v5)] [] C
  unfold P_G_move at h
  refine AW.ra_n (dc hd_G_move 0 rfl) rfl rfl rfl ?_
  refine AW.iload_n (dc hd_G_move 1 rfl) rfl ?_
  obtain ⟨g_2, h⟩ := h
  refine AW.callV (As := [(0, v1)]) (rest := []) (ci := 10) (m_G_isSegment l E n C v0 v1 _ h) cb_10_202 im_G_isSegment se_G_isSegment ⟨_, _, rfl⟩ (by decide) (dc hd_G_move 2 rfl) g_2 rfl rfl ⟨Nat.le_of_ble_eq_true rfl, Nat.le_of_ble_eq_true rfl⟩ ⟨(Nat.le_of_ble_eq_true rfl), (Nat.le_of_ble_eq_true rfl)⟩ (Nat.le_of_ble_eq_true rfl) (fun _ h => by cases h) (fun _ => rfl) (fun r_1 D_4 d_5 q_3 => ?_)
  obtain ⟨q_3a, q_3b, h⟩ := q_3
  subst D_4
  subst d_5
  show AW p l e _ s m args below meth c E M_G_move true _ n _ _ _ [(2, v0), (0, v1), (0, v2), (0, v3), (0, v4), (0, v5)] [(0, r_1)] C
  refine AW.if_eq (t := 38) (dc hd_G_move 3 rfl) (by decide) (fun c_6 => ?_) (fun c_6 => ?_)
  · have h := h.1 c_6
    refine AW.ra_n (dc hd_G_move 18 rfl) rfl rfl rfl ?_
    refine AW.iconst (dc hd_G_move 19 rfl) (by decide) ?_
    refine AW.callV (As := [(0, 0)]) (rest := []) (ci := 10) (m_G_finds l E n C v0 0 _ h) cb_10_186 im_G_finds se_G_finds ⟨_, _, rfl⟩ (by decide) (dc hd_G_move 20 rfl) g_2 rfl rfl ⟨Nat.le_of_ble_eq_true rfl, Nat.le_of_ble_eq_true rfl⟩ ⟨(Nat.le_of_ble_eq_true rfl), (Nat.le_of_ble_eq_true rfl)⟩ (Nat.le_of_ble_eq_true rfl) (fun _ h => by cases h) (fun _ => rfl) (fun r_7 C_8 d_10 q_9 => ?_)
    obtain ⟨q_9a, h⟩ := q_9
    subst d_10
    show AW p l e _ s m args below meth c E M_G_move true _ n _ _ _ [(2, v0), (0, v1), (0, v2), (0, v3), (0, v4), (0, v5)] [(0, r_7)] C_8
    exact AW.iret (dc hd_G_move 21 rfl) rfl rfl (Nat.le_of_ble_eq_true rfl) (Nat.le_of_ble_eq_true rfl) ⟨rfl, h⟩
  · have h := h.2 c_6
    refine AW.iload_n (dc hd_G_move 4 rfl) rfl ?_
    refine AW.iload_n (dc hd_G_move 5 rfl) rfl ?_
    refine AW.callS (As := [(0, v2), (0, v3)]) (rest := []) (m_G_isPoint l E n C v2 v3 _ h) cb_10_183 sm_G_isPoint (dc hd_G_move 6 rfl) rfl rfl ⟨Nat.le_of_ble_eq_true rfl, Nat.le_of_ble_eq_true rfl⟩ ⟨(Nat.le_of_ble_eq_true rfl), (Nat.le_of_ble_eq_true rfl)⟩ (Nat.le_of_ble_eq_true rfl) (fun _ h => by cases h) (fun _ => rfl) (fun r_11 D_13 d_14 q_12 => ?_)
    obtain ⟨q_12a, q_12b, h⟩ := q_12
    subst D_13
    subst d_14
    show AW p l e _ s m args below meth c E M_G_move true _ n _ _ _ [(2, v0), (0, v1), (0, v2), (0, v3), (0, v4), (0, v5)] [(0, r_11)] C
    refine AW.if_eq (t := 38) (dc hd_G_move 7 rfl) (by decide) (fun c_15 => ?_) (fun c_15 => ?_)
    · have h := h.1 c_15
      refine AW.ra_n (dc hd_G_move 18 rfl) rfl rfl rfl ?_
      refine AW.iconst (dc hd_G_move 19 rfl) (by decide) ?_
      refine AW.callV (As := [(0, 0)]) (rest := []) (ci := 10) (m_G_finds l E n C v0 0 _ h) cb_10_186 im_G_finds se_G_finds ⟨_, _, rfl⟩ (by decide) (dc hd_G_move 20 rfl) g_2 rfl rfl ⟨Nat.le_of_ble_eq_true rfl, Nat.le_of_ble_eq_true rfl⟩ ⟨(Nat.le_of_ble_eq_true rfl), (Nat.le_of_ble_eq_true rfl)⟩ (Nat.le_of_ble_eq_true rfl) (fun _ h => by cases h) (fun _ => rfl) (fun r_16 C_17 d_19 q_18 => ?_)
      obtain ⟨q_18a, h⟩ := q_18
      subst d_19
      show AW p l e _ s m args below meth c E M_G_move true _ n _ _ _ [(2, v0), (0, v1), (0, v2), (0, v3), (0, v4), (0, v5)] [(0, r_16)] C_17
      exact AW.iret (dc hd_G_move 21 rfl) rfl rfl (Nat.le_of_ble_eq_true rfl) (Nat.le_of_ble_eq_true rfl) ⟨rfl, h⟩
    · have h := h.2 c_15
      refine AW.iload (dc hd_G_move 8 rfl) rfl ?_
      refine AW.iload (dc hd_G_move 9 rfl) rfl ?_
      refine AW.callS (As := [(0, v4), (0, v5)]) (rest := []) (m_G_isPoint l E n C v4 v5 _ h) cb_10_183 sm_G_isPoint (dc hd_G_move 10 rfl) rfl rfl ⟨Nat.le_of_ble_eq_true rfl, Nat.le_of_ble_eq_true rfl⟩ ⟨(Nat.le_of_ble_eq_true rfl), (Nat.le_of_ble_eq_true rfl)⟩ (Nat.le_of_ble_eq_true rfl) (fun _ h => by cases h) (fun _ => rfl) (fun r_20 D_22 d_23 q_21 => ?_)
      obtain ⟨q_21a, q_21b, h⟩ := q_21
      subst D_22
      subst d_23
      show AW p l e _ s m args below meth c E M_G_move true _ n _ _ _ [(2, v0), (0, v1), (0, v2), (0, v3), (0, v4), (0, v5)] [(0, r_20)] C
      refine AW.if_eq (t := 38) (dc hd_G_move 11 rfl) (by decide) (fun c_24 => ?_) (fun c_24 => ?_)
      · have h := h.1 c_24
        refine AW.ra_n (dc hd_G_move 18 rfl) rfl rfl rfl ?_
        refine AW.iconst (dc hd_G_move 19 rfl) (by decide) ?_
        refine AW.callV (As := [(0, 0)]) (rest := []) (ci := 10) (m_G_finds l E n C v0 0 _ h) cb_10_186 im_G_finds se_G_finds ⟨_, _, rfl⟩ (by decide) (dc hd_G_move 20 rfl) g_2 rfl rfl ⟨Nat.le_of_ble_eq_true rfl, Nat.le_of_ble_eq_true rfl⟩ ⟨(Nat.le_of_ble_eq_true rfl), (Nat.le_of_ble_eq_true rfl)⟩ (Nat.le_of_ble_eq_true rfl) (fun _ h => by cases h) (fun _ => rfl) (fun r_25 C_26 d_28 q_27 => ?_)
        obtain ⟨q_27a, h⟩ := q_27
        subst d_28
        show AW p l e _ s m args below meth c E M_G_move true _ n _ _ _ [(2, v0), (0, v1), (0, v2), (0, v3), (0, v4), (0, v5)] [(0, r_25)] C_26
        exact AW.iret (dc hd_G_move 21 rfl) rfl rfl (Nat.le_of_ble_eq_true rfl) (Nat.le_of_ble_eq_true rfl) ⟨rfl, h⟩
      · have h := h.2 c_24
        refine AW.iload_n (dc hd_G_move 12 rfl) rfl ?_
        refine AW.iload (dc hd_G_move 13 rfl) rfl ?_
        refine AW.icmp_ne (t := 44) (dc hd_G_move 14 rfl) (by decide) (fun c_29 => ?_) (fun c_29 => ?_)
        · have h := h.2 c_29
          exact aJ_G_move_44 n C v0 v1 v2 v3 v4 v5 Q h
        · have h := h.1 c_29
          refine AW.iload_n (dc hd_G_move 15 rfl) rfl ?_
          refine AW.iload (dc hd_G_move 16 rfl) rfl ?_
          refine AW.icmp_ne (t := 44) (dc hd_G_move 17 rfl) (by decide) (fun c_53 => ?_) (fun c_53 => ?_)
          · have h := h.2 c_53
            exact aJ_G_move_44 n C v0 v1 v2 v3 v4 v5 Q h
          · have h := h.1 c_53
            refine AW.ra_n (dc hd_G_move 18 rfl) rfl rfl rfl ?_
            refine AW.iconst (dc hd_G_move 19 rfl) (by decide) ?_
            refine AW.callV (As := [(0, 0)]) (rest := []) (ci := 10) (m_G_finds l E n C v0 0 _ h) cb_10_186 im_G_finds se_G_finds ⟨_, _, rfl⟩ (by decide) (dc hd_G_move 20 rfl) g_2 rfl rfl ⟨Nat.le_of_ble_eq_true rfl, Nat.le_of_ble_eq_true rfl⟩ ⟨(Nat.le_of_ble_eq_true rfl), (Nat.le_of_ble_eq_true rfl)⟩ (Nat.le_of_ble_eq_true rfl) (fun _ h => by cases h) (fun _ => rfl) (fun r_54 C_55 d_57 q_56 => ?_)
            obtain ⟨q_56a, h⟩ := q_56
            subst d_57
            show AW p l e _ s m args below meth c E M_G_move true _ n _ _ _ [(2, v0), (0, v1), (0, v2), (0, v3), (0, v4), (0, v5)] [(0, r_54)] C_55
            exact AW.iret (dc hd_G_move 21 rfl) rfl rfl (Nat.le_of_ble_eq_true rfl) (Nat.le_of_ble_eq_true rfl) ⟨rfl, h⟩
def P_G_become (n : Nat) (C : Cn) (v0 v1 v2 : Int) (Q : Int → Cn → Prop) : Prop :=
  okO n v0 10 ∧ (P_G_isSegment n C v0 v1 (fun (r_1 : Int) => (r_1 = 0 → (P_G_finds n C v0 0 (fun (r_7 : Int) (C_8 : Cn) => Q r_7 C_8))) ∧ (¬ r_1 = 0 → (P_G_isKm n C v2 (fun (r_11 : Int) => (r_11 = 0 → (P_G_finds n C v0 0 (fun (r_24 : Int) (C_25 : Cn) => Q r_24 C_25))) ∧ (¬ r_11 = 0 → (okO n (PT v0.toNat 1) 17 ∧ (okI (PT v0.toNat 1) v1 ∧ (okO n (PT (PT v0.toNat 1).toNat v1.toNat) 12 ∧ (okI (PT (PT v0.toNat 1).toNat v1.toNat) 0 ∧ (∀ v3_20 : Int, v3_20 = C (PT (PT v0.toNat 1).toNat v1.toNat).toNat 0 → (∀ C_21 : Cn, C_21 = wr C (PT (PT v0.toNat 1).toNat v1.toNat).toNat 0 (w32 (Int.tdiv v2 10)) → (okI (PT (PT v0.toNat 1).toNat v1.toNat) 1 ∧ (∀ C_23 : Cn, C_23 = wr C_21 (PT (PT v0.toNat 1).toNat v1.toNat).toNat 1 (w32 (Int.tmod v2 10)) → (Q v3_20 C_23)))))))))))))))
theorem m_G_become (l : Launch) (E : Ev) (n : Nat) (C : Cn) (v0 v1 v2 : Int) (Q : Int → Cn → Prop) (h : P_G_become n C v0 v1 v2 Q) : MA l y_G_become M_G_become E true C n [(2, v0), (0, v1), (0, v2)] (fun r C2 n2 => n2 = n ∧ Q r C2) := by
  refine MA.of (by decide) rfl rfl 1 rfl (fun p e s m args below meth c => ?_)
  show AW p l e _ s m args below meth c E M_G_become true _ n 0 0 0 [(2, v0), (0, v1), (0, v2), (9, 0)] [] C
  unfold P_G_become at h
  refine AW.ra_n (dc hd_G_become 0 rfl) rfl rfl rfl ?_
  refine AW.iload_n (dc hd_G_become 1 rfl) rfl ?_
  obtain ⟨g_2, h⟩ := h
  refine AW.callV (As := [(0, v1)]) (rest := []) (ci := 10) (m_G_isSegment l E n C v0 v1 _ h) cb_10_202 im_G_isSegment se_G_isSegment ⟨_, _, rfl⟩ (by decide) (dc hd_G_become 2 rfl) g_2 rfl rfl ⟨Nat.le_of_ble_eq_true rfl, Nat.le_of_ble_eq_true rfl⟩ ⟨(Nat.le_of_ble_eq_true rfl), (Nat.le_of_ble_eq_true rfl)⟩ (Nat.le_of_ble_eq_true rfl) (fun _ h => by cases h) (fun _ => rfl) (fun r_1 D_4 d_5 q_3 => ?_)
  obtain ⟨q_3a, q_3b, h⟩ := q_3
  subst D_4
  subst d_5
  show AW p l e _ s m args below meth c E M_G_become true _ n _ _ _ [(2, v0), (0, v1), (0, v2), (9, 0)] [(0, r_1)] C
  refine AW.if_eq (t := 15) (dc hd_G_become 3 rfl) (by decide) (fun c_6 => ?_) (fun c_6 => ?_)
  · have h := h.1 c_6
    refine AW.ra_n (dc hd_G_become 7 rfl) rfl rfl rfl ?_
    refine AW.iconst (dc hd_G_become 8 rfl) (by decide) ?_
    refine AW.callV (As := [(0, 0)]) (rest := []) (ci := 10) (m_G_finds l E n C v0 0 _ h) cb_10_186 im_G_finds se_G_finds ⟨_, _, rfl⟩ (by decide) (dc hd_G_become 9 rfl) g_2 rfl rfl ⟨Nat.le_of_ble_eq_true rfl, Nat.le_of_ble_eq_true rfl⟩ ⟨(Nat.le_of_ble_eq_true rfl), (Nat.le_of_ble_eq_true rfl)⟩ (Nat.le_of_ble_eq_true rfl) (fun _ h => by cases h) (fun _ => rfl) (fun r_7 C_8 d_10 q_9 => ?_)
    obtain ⟨q_9a, h⟩ := q_9
    subst d_10
    show AW p l e _ s m args below meth c E M_G_become true _ n _ _ _ [(2, v0), (0, v1), (0, v2), (9, 0)] [(0, r_7)] C_8
    exact AW.iret (dc hd_G_become 10 rfl) rfl rfl (Nat.le_of_ble_eq_true rfl) (Nat.le_of_ble_eq_true rfl) ⟨rfl, h⟩
  · have h := h.2 c_6
    refine AW.iload_n (dc hd_G_become 4 rfl) rfl ?_
    refine AW.callS (As := [(0, v2)]) (rest := []) (m_G_isKm l E n C v2 _ h) cb_10_179 sm_G_isKm (dc hd_G_become 5 rfl) rfl rfl ⟨Nat.le_of_ble_eq_true rfl, Nat.le_of_ble_eq_true rfl⟩ ⟨(Nat.le_of_ble_eq_true rfl), (Nat.le_of_ble_eq_true rfl)⟩ (Nat.le_of_ble_eq_true rfl) (fun _ h => by cases h) (fun _ => rfl) (fun r_11 D_13 d_14 q_12 => ?_)
    obtain ⟨q_12a, q_12b, h⟩ := q_12
    subst D_13
    subst d_14
    show AW p l e _ s m args below meth c E M_G_become true _ n _ _ _ [(2, v0), (0, v1), (0, v2), (9, 0)] [(0, r_11)] C
    refine AW.if_ne (t := 21) (dc hd_G_become 6 rfl) (by decide) (fun c_15 => ?_) (fun c_15 => ?_)
    · have h := h.2 c_15
      refine AW.ra_n (dc hd_G_become 11 rfl) rfl rfl rfl ?_
      refine AW.getp fl_10_11 (dc hd_G_become 12 rfl) g_2 rfl ?_
      refine AW.iload_n (dc hd_G_become 13 rfl) rfl ?_
      obtain ⟨g_16, h⟩ := h
      obtain ⟨g_17, h⟩ := h
      refine AW.aaldp (by decide) (dc hd_G_become 14 rfl) g_16 g_17 rfl ?_
      refine AW.iconst (dc hd_G_become 15 rfl) (by decide) ?_
      obtain ⟨g_18, h⟩ := h
      obtain ⟨g_19, h⟩ := h
      refine AW.iald (dc hd_G_become 16 rfl) g_18 g_19 ?_
      refine AW.nm (fun v3_20 ev3_20 => ?_)
      have h := h v3_20 ev3_20
      refine AW.istore_n [(2, v0), (0, v1), (0, v2), (0, v3_20)] (dc hd_G_become 17 rfl) (Nat.le_of_ble_eq_true rfl) rfl rfl ?_
      refine AW.ra_n (dc hd_G_become 18 rfl) rfl rfl rfl ?_
      refine AW.getp fl_10_11 (dc hd_G_become 19 rfl) g_2 rfl ?_
      refine AW.iload_n (dc hd_G_become 20 rfl) rfl ?_
      refine AW.aaldp (by decide) (dc hd_G_become 21 rfl) g_16 g_17 rfl ?_
      refine AW.iconst (dc hd_G_become 22 rfl) (by decide) ?_
      refine AW.iload_n (dc hd_G_become 23 rfl) rfl ?_
      refine AW.bipush (dc hd_G_become 24 rfl) (by decide) (by decide +kernel) ?_
      refine AW.idiv (dc hd_G_become 25 rfl) (by decide) ?_
      refine AW.niast (dc hd_G_become 26 rfl) g_18 g_19 (fun C_21 eC_21 => ?_)
      have h := h C_21 eC_21
      refine AW.ra_n (dc hd_G_become 27 rfl) rfl rfl rfl ?_
      refine AW.getp fl_10_11 (dc hd_G_become 28 rfl) g_2 rfl ?_
      refine AW.iload_n (dc hd_G_become 29 rfl) rfl ?_
      refine AW.aaldp (by decide) (dc hd_G_become 30 rfl) g_16 g_17 rfl ?_
      refine AW.iconst (dc hd_G_become 31 rfl) (by decide) ?_
      refine AW.iload_n (dc hd_G_become 32 rfl) rfl ?_
      refine AW.bipush (dc hd_G_become 33 rfl) (by decide) (by decide +kernel) ?_
      refine AW.irem (dc hd_G_become 34 rfl) (by decide) ?_
      obtain ⟨g_22, h⟩ := h
      refine AW.niast (dc hd_G_become 35 rfl) g_18 g_22 (fun C_23 eC_23 => ?_)
      have h := h C_23 eC_23
      refine AW.iload_n (dc hd_G_become 36 rfl) rfl ?_
      exact AW.iret (dc hd_G_become 37 rfl) rfl rfl (Nat.le_of_ble_eq_true rfl) (Nat.le_of_ble_eq_true rfl) ⟨rfl, h⟩
    · have h := h.1 c_15
      refine AW.ra_n (dc hd_G_become 7 rfl) rfl rfl rfl ?_
      refine AW.iconst (dc hd_G_become 8 rfl) (by decide) ?_
      refine AW.callV (As := [(0, 0)]) (rest := []) (ci := 10) (m_G_finds l E n C v0 0 _ h) cb_10_186 im_G_finds se_G_finds ⟨_, _, rfl⟩ (by decide) (dc hd_G_become 9 rfl) g_2 rfl rfl ⟨Nat.le_of_ble_eq_true rfl, Nat.le_of_ble_eq_true rfl⟩ ⟨(Nat.le_of_ble_eq_true rfl), (Nat.le_of_ble_eq_true rfl)⟩ (Nat.le_of_ble_eq_true rfl) (fun _ h => by cases h) (fun _ => rfl) (fun r_24 C_25 d_27 q_26 => ?_)
      obtain ⟨q_26a, h⟩ := q_26
      subst d_27
      show AW p l e _ s m args below meth c E M_G_become true _ n _ _ _ [(2, v0), (0, v1), (0, v2), (9, 0)] [(0, r_24)] C_25
      exact AW.iret (dc hd_G_become 10 rfl) rfl rfl (Nat.le_of_ble_eq_true rfl) (Nat.le_of_ble_eq_true rfl) ⟨rfl, h⟩
def P_G_drop (n : Nat) (C : Cn) (v0 : Int) (Q : Int → Cn → Prop) : Prop :=
  okO n v0 10 ∧ ((C v0.toNat 0 = 0 → (P_G_finds n C v0 3 (fun (r_4 : Int) (C_5 : Cn) => Q r_4 C_5))) ∧ (¬ C v0.toNat 0 = 0 → (∀ C_3 : Cn, C_3 = wr C v0.toNat 0 (w32 (C v0.toNat 0 - 1)) → (Q (C_3 v0.toNat 0) C_3))))
theorem m_G_drop (l : Launch) (E : Ev) (n : Nat) (C : Cn) (v0 : Int) (Q : Int → Cn → Prop) (h : P_G_drop n C v0 Q) : MA l y_G_drop M_G_drop E true C n [(2, v0)] (fun r C2 n2 => n2 = n ∧ Q r C2) := by
  refine MA.of (by decide) rfl rfl 0 rfl (fun p e s m args below meth c => ?_)
  show AW p l e _ s m args below meth c E M_G_drop true _ n 0 0 0 [(2, v0)] [] C
  unfold P_G_drop at h
  refine AW.ra_n (dc hd_G_drop 0 rfl) rfl rfl rfl ?_
  obtain ⟨g_1, h⟩ := h
  refine AW.getf fl_10_117 (dc hd_G_drop 1 rfl) g_1 ?_
  refine AW.if_ne (t := 13) (dc hd_G_drop 2 rfl) (by decide) (fun c_2 => ?_) (fun c_2 => ?_)
  · have h := h.2 c_2
    refine AW.ra_n (dc hd_G_drop 7 rfl) rfl rfl rfl ?_
    refine AW.rdup (dc hd_G_drop 8 rfl) rfl ?_
    refine AW.getf fl_10_117 (dc hd_G_drop 9 rfl) g_1 ?_
    refine AW.iconst (dc hd_G_drop 10 rfl) (by decide) ?_
    refine AW.isub (dc hd_G_drop 11 rfl) ?_
    refine AW.nputI fl_10_117 (dc hd_G_drop 12 rfl) g_1 (fun C_3 eC_3 => ?_)
    have h := h C_3 eC_3
    refine AW.ra_n (dc hd_G_drop 13 rfl) rfl rfl rfl ?_
    refine AW.getf fl_10_117 (dc hd_G_drop 14 rfl) g_1 ?_
    exact AW.iret (dc hd_G_drop 15 rfl) rfl rfl (Nat.le_of_ble_eq_true rfl) (Nat.le_of_ble_eq_true rfl) ⟨rfl, h⟩
  · have h := h.1 c_2
    refine AW.ra_n (dc hd_G_drop 3 rfl) rfl rfl rfl ?_
    refine AW.iconst (dc hd_G_drop 4 rfl) (by decide) ?_
    refine AW.callV (As := [(0, 3)]) (rest := []) (ci := 10) (m_G_finds l E n C v0 3 _ h) cb_10_186 im_G_finds se_G_finds ⟨_, _, rfl⟩ (by decide) (dc hd_G_drop 5 rfl) g_1 rfl rfl ⟨Nat.le_of_ble_eq_true rfl, Nat.le_of_ble_eq_true rfl⟩ ⟨(Nat.le_of_ble_eq_true rfl), (Nat.le_of_ble_eq_true rfl)⟩ (Nat.le_of_ble_eq_true rfl) (fun _ h => by cases h) (fun _ => rfl) (fun r_4 C_5 d_7 q_6 => ?_)
    obtain ⟨q_6a, h⟩ := q_6
    subst d_7
    show AW p l e _ s m args below meth c E M_G_drop true _ n _ _ _ [(2, v0)] [(0, r_4)] C_5
    exact AW.iret (dc hd_G_drop 6 rfl) rfl rfl (Nat.le_of_ble_eq_true rfl) (Nat.le_of_ble_eq_true rfl) ⟨rfl, h⟩
def B_G_endAt_2 (n : Nat) (C : Cn) (v0 v1 v2 : Int) (Q : Int → Prop) (kz2 : Int → Prop) (v3 : Int) : Prop :=
  okO n v0 10 ∧ ((C v0.toNat 10 ≤ v3 → (Q (-1))) ∧ (¬ C v0.toNat 10 ≤ v3 → (okO n (PT v0.toNat 11) 12 ∧ (okI (PT v0.toNat 11) v3 ∧ ((C (PT v0.toNat 11).toNat v3.toNat = v1 → (okO n (PT v0.toNat 12) 12 ∧ (okI (PT v0.toNat 12) v3 ∧ ((C (PT v0.toNat 12).toNat v3.toNat = v2 → (Q v3)) ∧ (¬ C (PT v0.toNat 12).toNat v3.toNat = v2 → (kz2 (w32 (v3 + 1)))))))) ∧ (¬ C (PT v0.toNat 11).toNat v3.toNat = v1 → (kz2 (w32 (v3 + 1)))))))))
theorem bB_G_endAt_2 (n : Nat) (C : Cn) (v0 v1 v2 : Int) (Q : Int → Prop) (kz2 : Int → Prop) (hkz2 : ∀ (z3 : Int), kz2 z3 → AW p l e R s m args below meth c E M_G_endAt true (fun r C2 n2 => C2 = C ∧ n2 = n ∧ Q r) n 0 0 2 [(2, v0), (0, v1), (0, v2), (0, z3)] [] C) (v3 : Int) (h : B_G_endAt_2 n C v0 v1 v2 Q kz2 v3) : AW p l e R s m args below meth c E M_G_endAt true (fun r C2 n2 => C2 = C ∧ n2 = n ∧ Q r) n 0 0 2 [(2, v0), (0, v1), (0, v2), (0, v3)] [] C := by
  unfold B_G_endAt_2 at h
  refine AW.iload_n (dc hd_G_endAt 2 rfl) rfl ?_
  refine AW.ra_n (dc hd_G_endAt 3 rfl) rfl rfl rfl ?_
  obtain ⟨g_1, h⟩ := h
  refine AW.getf fl_10_221 (dc hd_G_endAt 4 rfl) g_1 ?_
  refine AW.icmp_ge (t := 38) (dc hd_G_endAt 5 rfl) (by decide) (fun c_2 => ?_) (fun c_2 => ?_)
  · have h := h.1 c_2
    refine AW.iconst (dc hd_G_endAt 22 rfl) (by decide) ?_
    exact AW.iret (dc hd_G_endAt 23 rfl) rfl rfl (Nat.le_of_ble_eq_true rfl) (Nat.le_of_ble_eq_true rfl) ⟨rfl, rfl, h⟩
  · have h := h.2 c_2
    refine AW.ra_n (dc hd_G_endAt 6 rfl) rfl rfl rfl ?_
    refine AW.getp fl_10_28 (dc hd_G_endAt 7 rfl) g_1 rfl ?_
    refine AW.iload_n (dc hd_G_endAt 8 rfl) rfl ?_
    obtain ⟨g_3, h⟩ := h
    obtain ⟨g_4, h⟩ := h
    refine AW.iald (dc hd_G_endAt 9 rfl) g_3 g_4 ?_
    refine AW.iload_n (dc hd_G_endAt 10 rfl) rfl ?_
    refine AW.icmp_ne (t := 32) (dc hd_G_endAt 11 rfl) (by decide) (fun c_5 => ?_) (fun c_5 => ?_)
    · have h := h.2 c_5
      refine AW.iinc [(2, v0), (0, v1), (0, v2), (0, w32 (v3 + 1))] (dc hd_G_endAt 20 rfl) rfl (Nat.le_of_ble_eq_true rfl) rfl rfl ?_
      refine AW.goto (t := 2) (dc hd_G_endAt 21 rfl) (by decide) ?_
      exact hkz2 (w32 (v3 + 1)) h
    · have h := h.1 c_5
      refine AW.ra_n (dc hd_G_endAt 12 rfl) rfl rfl rfl ?_
      refine AW.getp fl_10_31 (dc hd_G_endAt 13 rfl) g_1 rfl ?_
      refine AW.iload_n (dc hd_G_endAt 14 rfl) rfl ?_
      obtain ⟨g_6, h⟩ := h
      obtain ⟨g_7, h⟩ := h
      refine AW.iald (dc hd_G_endAt 15 rfl) g_6 g_7 ?_
      refine AW.iload_n (dc hd_G_endAt 16 rfl) rfl ?_
      refine AW.icmp_ne (t := 32) (dc hd_G_endAt 17 rfl) (by decide) (fun c_8 => ?_) (fun c_8 => ?_)
      · have h := h.2 c_8
        refine AW.iinc [(2, v0), (0, v1), (0, v2), (0, w32 (v3 + 1))] (dc hd_G_endAt 20 rfl) rfl (Nat.le_of_ble_eq_true rfl) rfl rfl ?_
        refine AW.goto (t := 2) (dc hd_G_endAt 21 rfl) (by decide) ?_
        exact hkz2 (w32 (v3 + 1)) h
      · have h := h.1 c_8
        refine AW.iload_n (dc hd_G_endAt 18 rfl) rfl ?_
        exact AW.iret (dc hd_G_endAt 19 rfl) rfl rfl (Nat.le_of_ble_eq_true rfl) (Nat.le_of_ble_eq_true rfl) ⟨rfl, rfl, h⟩
theorem aB_G_endAt_2 (n : Nat) (C : Cn) (v0 v1 v2 : Int) (Q : Int → Prop) : ∀ (f : Nat) (z : Int), lp (B_G_endAt_2 n C v0 v1 v2 Q) f z → AW p l e R s m args below meth c E M_G_endAt true (fun r C2 n2 => C2 = C ∧ n2 = n ∧ Q r) n 0 0 2 [(2, v0), (0, v1), (0, v2), (0, z)] [] C := by
  intro f
  induction f with
  | zero => intro z h; exact False.elim h
  | succ f ih => intro z h; exact bB_G_endAt_2 n C v0 v1 v2 Q (lp (B_G_endAt_2 n C v0 v1 v2 Q) f) (fun a0 h => ih a0 h) z h
def P_G_endAt (n : Nat) (C : Cn) (v0 v1 v2 : Int) (Q : Int → Prop) : Prop :=
  ∃ f_9 : Nat, lp (B_G_endAt_2 n C v0 v1 v2 Q) f_9 0
theorem m_G_endAt (l : Launch) (E : Ev) (n : Nat) (C : Cn) (v0 v1 v2 : Int) (Q : Int → Prop) (h : P_G_endAt n C v0 v1 v2 Q) : MA l y_G_endAt M_G_endAt E true C n [(2, v0), (0, v1), (0, v2)] (fun r C2 n2 => C2 = C ∧ n2 = n ∧ Q r) := by
  refine MA.of (by decide) rfl rfl 1 rfl (fun p e s m args below meth c => ?_)
  show AW p l e _ s m args below meth c E M_G_endAt true _ n 0 0 0 [(2, v0), (0, v1), (0, v2), (9, 0)] [] C
  unfold P_G_endAt at h
  refine AW.iconst (dc hd_G_endAt 0 rfl) (by decide) ?_
  refine AW.istore_n [(2, v0), (0, v1), (0, v2), (0, 0)] (dc hd_G_endAt 1 rfl) (Nat.le_of_ble_eq_true rfl) rfl rfl ?_
  obtain ⟨f_9, h⟩ := h
  exact aB_G_endAt_2 n C v0 v1 v2 Q f_9 0 h
def J_G_takesEnd_77 (n : Nat) (C : Cn) (v0 v1 v2 v3 : Int) (Q : Int → Cn → Prop) : Prop :=
  okO n v0 10 ∧ (okO n (PT v0.toNat 11) 12 ∧ (okI (PT v0.toNat 11) v3 ∧ (∀ C_11 : Cn, C_11 = wr C (PT v0.toNat 11).toNat v3.toNat v1 → (okO n (PT v0.toNat 12) 12 ∧ (okI (PT v0.toNat 12) v3 ∧ (∀ C_14 : Cn, C_14 = wr C_11 (PT v0.toNat 12).toNat v3.toNat v2 → (∀ C_15 : Cn, C_15 = wr C_14 v0.toNat 10 (w32 (C_14 v0.toNat 10 + 1)) → (Q 0 C_15))))))))
theorem aJ_G_takesEnd_77 (n : Nat) (C : Cn) (v0 v1 v2 v3 : Int) (Q : Int → Cn → Prop) (h : J_G_takesEnd_77 n C v0 v1 v2 v3 Q) : AW p l e R s m args below meth c E M_G_takesEnd true (fun r C2 n2 => n2 = n ∧ Q r C2) n 0 0 77 [(2, v0), (0, v1), (0, v2), (0, v3)] [] C := by
  unfold J_G_takesEnd_77 at h
  refine AW.ra_n (dc hd_G_takesEnd 49 rfl) rfl rfl rfl ?_
  obtain ⟨g_8, h⟩ := h
  refine AW.getp fl_10_28 (dc hd_G_takesEnd 50 rfl) g_8 rfl ?_
  refine AW.iload_n (dc hd_G_takesEnd 51 rfl) rfl ?_
  refine AW.iload_n (dc hd_G_takesEnd 52 rfl) rfl ?_
  obtain ⟨g_9, h⟩ := h
  obtain ⟨g_10, h⟩ := h
  refine AW.niast (dc hd_G_takesEnd 53 rfl) g_9 g_10 (fun C_11 eC_11 => ?_)
  have h := h C_11 eC_11
  refine AW.ra_n (dc hd_G_takesEnd 54 rfl) rfl rfl rfl ?_
  refine AW.getp fl_10_31 (dc hd_G_takesEnd 55 rfl) g_8 rfl ?_
  refine AW.iload_n (dc hd_G_takesEnd 56 rfl) rfl ?_
  refine AW.iload_n (dc hd_G_takesEnd 57 rfl) rfl ?_
  obtain ⟨g_12, h⟩ := h
  obtain ⟨g_13, h⟩ := h
  refine AW.niast (dc hd_G_takesEnd 58 rfl) g_12 g_13 (fun C_14 eC_14 => ?_)
  have h := h C_14 eC_14
  refine AW.ra_n (dc hd_G_takesEnd 59 rfl) rfl rfl rfl ?_
  refine AW.rdup (dc hd_G_takesEnd 60 rfl) rfl ?_
  refine AW.getf fl_10_221 (dc hd_G_takesEnd 61 rfl) g_8 ?_
  refine AW.iconst (dc hd_G_takesEnd 62 rfl) (by decide) ?_
  refine AW.iadd (dc hd_G_takesEnd 63 rfl) ?_
  refine AW.nputI fl_10_221 (dc hd_G_takesEnd 64 rfl) g_8 (fun C_15 eC_15 => ?_)
  have h := h C_15 eC_15
  exact AW.vret (dc hd_G_takesEnd 65 rfl) rfl rfl (Nat.le_of_ble_eq_true rfl) (Nat.le_of_ble_eq_true rfl) ⟨rfl, h⟩
def B_G_takesEnd_15 (n : Nat) (v0 v1 v2 : Int) (Q : Int → Cn → Prop) (kz15 : Cn × Int → Prop) (z : Cn × Int) : Prop := match z with
  | (C, v3) => (v3 ≤ 0 → (J_G_takesEnd_77 n C v0 v1 v2 v3 Q)) ∧ (¬ v3 ≤ 0 → (okO n v0 10 ∧ (okO n (PT v0.toNat 11) 12 ∧ (okI (PT v0.toNat 11) (w32 (v3 - 1)) ∧ (okO n (PT v0.toNat 12) 12 ∧ (okI (PT v0.toNat 12) (w32 (v3 - 1)) ∧ (P_G_isAhead n C v1 v2 (C (PT v0.toNat 11).toNat (w32 (v3 - 1)).toNat) (C (PT v0.toNat 12).toNat (w32 (v3 - 1)).toNat) (fun (r_21 : Int) => (r_21 = 0 → (J_G_takesEnd_77 n C v0 v1 v2 v3 Q)) ∧ (¬ r_21 = 0 → (okI (PT v0.toNat 11) v3 ∧ (∀ C_27 : Cn, C_27 = wr C (PT v0.toNat 11).toNat v3.toNat (C (PT v0.toNat 11).toNat (w32 (v3 - 1)).toNat) → (okI (PT v0.toNat 12) v3 ∧ (∀ C_29 : Cn, C_29 = wr C_27 (PT v0.toNat 12).toNat v3.toNat (C_27 (PT v0.toNat 12).toNat (w32 (v3 - 1)).toNat) → (kz15 (C_29, w32 (v3 + (-1)))))))))))))))))
theorem bB_G_takesEnd_15 (n : Nat) (v0 v1 v2 : Int) (Q : Int → Cn → Prop) (kz15 : Cn × Int → Prop) (hkz15 : ∀ (Cz : Cn) (z3 : Int), kz15 (Cz, z3) → AW p l e R s m args below meth c E M_G_takesEnd true (fun r C2 n2 => n2 = n ∧ Q r C2) n 0 0 15 [(2, v0), (0, v1), (0, v2), (0, z3)] [] Cz) (C : Cn) (v3 : Int) (h : B_G_takesEnd_15 n v0 v1 v2 Q kz15 (C, v3)) : AW p l e R s m args below meth c E M_G_takesEnd true (fun r C2 n2 => n2 = n ∧ Q r C2) n 0 0 15 [(2, v0), (0, v1), (0, v2), (0, v3)] [] C := by
  unfold B_G_takesEnd_15 at h
  dsimp only at h
  refine AW.iload_n (dc hd_G_takesEnd 9 rfl) rfl ?_
  refine AW.if_le (t := 77) (dc hd_G_takesEnd 10 rfl) (by decide) (fun c_7 => ?_) (fun c_7 => ?_)
  · have h := h.1 c_7
    exact aJ_G_takesEnd_77 n C v0 v1 v2 v3 Q h
  · have h := h.2 c_7
    refine AW.iload_n (dc hd_G_takesEnd 11 rfl) rfl ?_
    refine AW.iload_n (dc hd_G_takesEnd 12 rfl) rfl ?_
    refine AW.ra_n (dc hd_G_takesEnd 13 rfl) rfl rfl rfl ?_
    obtain ⟨g_16, h⟩ := h
    refine AW.getp fl_10_28 (dc hd_G_takesEnd 14 rfl) g_16 rfl ?_
    refine AW.iload_n (dc hd_G_takesEnd 15 rfl) rfl ?_
    refine AW.iconst (dc hd_G_takesEnd 16 rfl) (by decide) ?_
    refine AW.isub (dc hd_G_takesEnd 17 rfl) ?_
    obtain ⟨g_17, h⟩ := h
    obtain ⟨g_18, h⟩ := h
    refine AW.iald (dc hd_G_takesEnd 18 rfl) g_17 g_18 ?_
    refine AW.ra_n (dc hd_G_takesEnd 19 rfl) rfl rfl rfl ?_
    refine AW.getp fl_10_31 (dc hd_G_takesEnd 20 rfl) g_16 rfl ?_
    refine AW.iload_n (dc hd_G_takesEnd 21 rfl) rfl ?_
    refine AW.iconst (dc hd_G_takesEnd 22 rfl) (by decide) ?_
    refine AW.isub (dc hd_G_takesEnd 23 rfl) ?_
    obtain ⟨g_19, h⟩ := h
    obtain ⟨g_20, h⟩ := h
    refine AW.iald (dc hd_G_takesEnd 24 rfl) g_19 g_20 ?_
    refine AW.callS (As := [(0, v1), (0, v2), (0, C (PT v0.toNat 11).toNat (w32 (v3 - 1)).toNat), (0, C (PT v0.toNat 12).toNat (w32 (v3 - 1)).toNat)]) (rest := []) (m_G_isAhead l E n C v1 v2 (C (PT v0.toNat 11).toNat (w32 (v3 - 1)).toNat) (C (PT v0.toNat 12).toNat (w32 (v3 - 1)).toNat) _ h) cb_10_130 sm_G_isAhead (dc hd_G_takesEnd 25 rfl) rfl rfl ⟨Nat.le_of_ble_eq_true rfl, Nat.le_of_ble_eq_true rfl⟩ ⟨(Nat.le_of_ble_eq_true rfl), (Nat.le_of_ble_eq_true rfl)⟩ (Nat.le_of_ble_eq_true rfl) (fun _ h => by cases h) (fun _ => rfl) (fun r_21 D_23 d_24 q_22 => ?_)
    obtain ⟨q_22a, q_22b, h⟩ := q_22
    subst D_23
    subst d_24
    show AW p l e _ s m args below meth c E M_G_takesEnd true _ n _ _ _ [(2, v0), (0, v1), (0, v2), (0, v3)] [(0, r_21)] C
    refine AW.if_eq (t := 77) (dc hd_G_takesEnd 26 rfl) (by decide) (fun c_25 => ?_) (fun c_25 => ?_)
    · have h := h.1 c_25
      exact aJ_G_takesEnd_77 n C v0 v1 v2 v3 Q h
    · have h := h.2 c_25
      refine AW.ra_n (dc hd_G_takesEnd 27 rfl) rfl rfl rfl ?_
      refine AW.getp fl_10_28 (dc hd_G_takesEnd 28 rfl) g_16 rfl ?_
      refine AW.iload_n (dc hd_G_takesEnd 29 rfl) rfl ?_
      refine AW.ra_n (dc hd_G_takesEnd 30 rfl) rfl rfl rfl ?_
      refine AW.getp fl_10_28 (dc hd_G_takesEnd 31 rfl) g_16 rfl ?_
      refine AW.iload_n (dc hd_G_takesEnd 32 rfl) rfl ?_
      refine AW.iconst (dc hd_G_takesEnd 33 rfl) (by decide) ?_
      refine AW.isub (dc hd_G_takesEnd 34 rfl) ?_
      refine AW.iald (dc hd_G_takesEnd 35 rfl) g_17 g_18 ?_
      obtain ⟨g_26, h⟩ := h
      refine AW.niast (dc hd_G_takesEnd 36 rfl) g_17 g_26 (fun C_27 eC_27 => ?_)
      have h := h C_27 eC_27
      refine AW.ra_n (dc hd_G_takesEnd 37 rfl) rfl rfl rfl ?_
      refine AW.getp fl_10_31 (dc hd_G_takesEnd 38 rfl) g_16 rfl ?_
      refine AW.iload_n (dc hd_G_takesEnd 39 rfl) rfl ?_
      refine AW.ra_n (dc hd_G_takesEnd 40 rfl) rfl rfl rfl ?_
      refine AW.getp fl_10_31 (dc hd_G_takesEnd 41 rfl) g_16 rfl ?_
      refine AW.iload_n (dc hd_G_takesEnd 42 rfl) rfl ?_
      refine AW.iconst (dc hd_G_takesEnd 43 rfl) (by decide) ?_
      refine AW.isub (dc hd_G_takesEnd 44 rfl) ?_
      refine AW.iald (dc hd_G_takesEnd 45 rfl) g_19 g_20 ?_
      obtain ⟨g_28, h⟩ := h
      refine AW.niast (dc hd_G_takesEnd 46 rfl) g_19 g_28 (fun C_29 eC_29 => ?_)
      have h := h C_29 eC_29
      refine AW.iinc [(2, v0), (0, v1), (0, v2), (0, w32 (v3 + (-1)))] (dc hd_G_takesEnd 47 rfl) rfl (Nat.le_of_ble_eq_true rfl) rfl rfl ?_
      refine AW.goto (t := 15) (dc hd_G_takesEnd 48 rfl) (by decide) ?_
      exact hkz15 C_29 (w32 (v3 + (-1))) h
theorem aB_G_takesEnd_15 (n : Nat) (v0 v1 v2 : Int) (Q : Int → Cn → Prop) : ∀ (f : Nat) (z : Cn × Int), lp (B_G_takesEnd_15 n v0 v1 v2 Q) f z → AW p l e R s m args below meth c E M_G_takesEnd true (fun r C2 n2 => n2 = n ∧ Q r C2) n 0 0 15 [(2, v0), (0, v1), (0, v2), (0, z.2)] [] (z.1) := by
  intro f
  induction f with
  | zero => intro z h; exact False.elim h
  | succ f ih => intro z h; exact bB_G_takesEnd_15 n v0 v1 v2 Q (lp (B_G_takesEnd_15 n v0 v1 v2 Q) f) (fun a0 a1 h => ih (a0, a1) h) z.1 z.2 h
def P_G_takesEnd (n : Nat) (C : Cn) (v0 v1 v2 : Int) (Q : Int → Cn → Prop) : Prop :=
  okO n v0 10 ∧ (P_G_endAt n C v0 v1 v2 (fun (r_1 : Int) => (r_1 < 0 → (∃ f_30 : Nat, lp (B_G_takesEnd_15 n v0 v1 v2 Q) f_30 (C, C v0.toNat 10))) ∧ (¬ r_1 < 0 → (Q 0 C))))
theorem m_G_takesEnd (l : Launch) (E : Ev) (n : Nat) (C : Cn) (v0 v1 v2 : Int) (Q : Int → Cn → Prop) (h : P_G_takesEnd n C v0 v1 v2 Q) : MA l y_G_takesEnd M_G_takesEnd E true C n [(2, v0), (0, v1), (0, v2)] (fun r C2 n2 => n2 = n ∧ Q r C2) := by
  refine MA.of (by decide) rfl rfl 1 rfl (fun p e s m args below meth c => ?_)
  show AW p l e _ s m args below meth c E M_G_takesEnd true _ n 0 0 0 [(2, v0), (0, v1), (0, v2), (9, 0)] [] C
  unfold P_G_takesEnd at h
  refine AW.ra_n (dc hd_G_takesEnd 0 rfl) rfl rfl rfl ?_
  refine AW.iload_n (dc hd_G_takesEnd 1 rfl) rfl ?_
  refine AW.iload_n (dc hd_G_takesEnd 2 rfl) rfl ?_
  obtain ⟨g_2, h⟩ := h
  refine AW.callV (As := [(0, v1), (0, v2)]) (rest := []) (ci := 10) (m_G_endAt l E n C v0 v1 v2 _ h) cb_10_224 im_G_endAt se_G_endAt ⟨_, _, rfl⟩ (by decide) (dc hd_G_takesEnd 3 rfl) g_2 rfl rfl ⟨Nat.le_of_ble_eq_true rfl, Nat.le_of_ble_eq_true rfl⟩ ⟨(Nat.le_of_ble_eq_true rfl), (Nat.le_of_ble_eq_true rfl)⟩ (Nat.le_of_ble_eq_true rfl) (fun _ h => by cases h) (fun _ => rfl) (fun r_1 D_4 d_5 q_3 => ?_)
  obtain ⟨q_3a, q_3b, h⟩ := q_3
  subst D_4
  subst d_5
  show AW p l e _ s m args below meth c E M_G_takesEnd true _ n _ _ _ [(2, v0), (0, v1), (0, v2), (9, 0)] [(0, r_1)] C
  refine AW.if_lt (t := 10) (dc hd_G_takesEnd 4 rfl) (by decide) (fun c_6 => ?_) (fun c_6 => ?_)
  · have h := h.1 c_6
    refine AW.ra_n (dc hd_G_takesEnd 6 rfl) rfl rfl rfl ?_
    refine AW.getf fl_10_221 (dc hd_G_takesEnd 7 rfl) g_2 ?_
    refine AW.istore_n [(2, v0), (0, v1), (0, v2), (0, C v0.toNat 10)] (dc hd_G_takesEnd 8 rfl) (Nat.le_of_ble_eq_true rfl) rfl rfl ?_
    obtain ⟨f_30, h⟩ := h
    exact aB_G_takesEnd_15 n v0 v1 v2 Q f_30 (C, C v0.toNat 10) h
  · have h := h.2 c_6
    exact AW.vret (dc hd_G_takesEnd 5 rfl) rfl rfl (Nat.le_of_ble_eq_true rfl) (Nat.le_of_ble_eq_true rfl) ⟨rfl, h⟩
def J_G_goesThrough_25 (n : Nat) (C : Cn) (s0 : Int) (Q : Int → Prop) : Prop :=
  (s0 = 0 ∨ s0 = 1) ∧ (Q s0)
theorem aJ_G_goesThrough_25 (n : Nat) (C : Cn) (s0 : Int) (Q : Int → Prop) (h : J_G_goesThrough_25 n C s0 Q) : AW p l e R s m args below meth c E M_G_goesThrough true (fun r C2 n2 => C2 = C ∧ n2 = n ∧ Q r) n 0 0 25 [(9, 0), (9, 0), (9, 0)] [(0, s0)] C := by
  unfold J_G_goesThrough_25 at h
  obtain ⟨g_8, h⟩ := h
  exact AW.zret (dc hd_G_goesThrough 15 rfl) rfl rfl (Nat.le_of_ble_eq_true rfl) (Nat.le_of_ble_eq_true rfl) g_8 ⟨rfl, rfl, h⟩
def P_G_goesThrough (n : Nat) (C : Cn) (v0 v1 v2 : Int) (Q : Int → Prop) : Prop :=
  okO n v0 10 ∧ (okO n (PT v0.toNat 13) 12 ∧ (okI (PT v0.toNat 13) v1 ∧ ((v2 ≤ C (PT v0.toNat 13).toNat v1.toNat → (Q 0)) ∧ (¬ v2 ≤ C (PT v0.toNat 13).toNat v1.toNat → (okO n (PT v0.toNat 14) 12 ∧ (okI (PT v0.toNat 14) v1 ∧ (J_G_goesThrough_25 n C (if C (PT v0.toNat 14).toNat v1.toNat < v2 then 0 else 1) Q)))))))
theorem m_G_goesThrough (l : Launch) (E : Ev) (n : Nat) (C : Cn) (v0 v1 v2 : Int) (Q : Int → Prop) (h : P_G_goesThrough n C v0 v1 v2 Q) : MA l y_G_goesThrough M_G_goesThrough E true C n [(2, v0), (0, v1), (0, v2)] (fun r C2 n2 => C2 = C ∧ n2 = n ∧ Q r) := by
  refine MA.of (by decide) rfl rfl 0 rfl (fun p e s m args below meth c => ?_)
  show AW p l e _ s m args below meth c E M_G_goesThrough true _ n 0 0 0 [(2, v0), (0, v1), (0, v2)] [] C
  unfold P_G_goesThrough at h
  refine AW.ra_n (dc hd_G_goesThrough 0 rfl) rfl rfl rfl ?_
  obtain ⟨g_1, h⟩ := h
  refine AW.getp fl_10_34 (dc hd_G_goesThrough 1 rfl) g_1 rfl ?_
  refine AW.iload_n (dc hd_G_goesThrough 2 rfl) rfl ?_
  obtain ⟨g_2, h⟩ := h
  obtain ⟨g_3, h⟩ := h
  refine AW.iald (dc hd_G_goesThrough 3 rfl) g_2 g_3 ?_
  refine AW.iload_n (dc hd_G_goesThrough 4 rfl) rfl ?_
  refine AW.icmp_ge (t := 24) (dc hd_G_goesThrough 5 rfl) (by decide) (fun c_4 => ?_) (fun c_4 => ?_)
  · have h := h.1 c_4
    refine AW.iconst (dc hd_G_goesThrough 14 rfl) (by decide) ?_
    exact AW.zret (dc hd_G_goesThrough 15 rfl) rfl rfl (Nat.le_of_ble_eq_true rfl) (Nat.le_of_ble_eq_true rfl) (by decide) ⟨rfl, rfl, h⟩
  · have h := h.2 c_4
    refine AW.ra_n (dc hd_G_goesThrough 6 rfl) rfl rfl rfl ?_
    refine AW.getp fl_10_37 (dc hd_G_goesThrough 7 rfl) g_1 rfl ?_
    refine AW.iload_n (dc hd_G_goesThrough 8 rfl) rfl ?_
    obtain ⟨g_5, h⟩ := h
    obtain ⟨g_6, h⟩ := h
    refine AW.iald (dc hd_G_goesThrough 9 rfl) g_5 g_6 ?_
    refine AW.iload_n (dc hd_G_goesThrough 10 rfl) rfl ?_
    refine AW.icmp_lt (t := 24) (dc hd_G_goesThrough 11 rfl) (by decide) (fun c_7 => ?_) (fun c_7 => ?_)
    · simp only [if_pos (show C (PT v0.toNat 14).toNat v1.toNat < v2 from c_7)] at h
      refine AW.iconst (dc hd_G_goesThrough 14 rfl) (by decide) ?_
      refine AW.fgt [(9, 0), (9, 0), (9, 0)] ⟨.inr rfl, .inr rfl, .inr rfl, trivial⟩ ?_
      exact aJ_G_goesThrough_25 n C _ Q h
    · simp only [if_neg (show ¬ (C (PT v0.toNat 14).toNat v1.toNat < v2) from c_7)] at h
      refine AW.iconst (dc hd_G_goesThrough 12 rfl) (by decide) ?_
      refine AW.goto (t := 25) (dc hd_G_goesThrough 13 rfl) (by decide) ?_
      refine AW.fgt [(9, 0), (9, 0), (9, 0)] ⟨.inr rfl, .inr rfl, .inr rfl, trivial⟩ ?_
      exact aJ_G_goesThrough_25 n C _ Q h
def J_G_isOver_97 (n : Nat) (C : Cn) (s0 : Int) (Q : Int → Prop) : Prop :=
  (s0 = 0 ∨ s0 = 1) ∧ (Q s0)
theorem aJ_G_isOver_97 (n : Nat) (C : Cn) (s0 : Int) (Q : Int → Prop) (h : J_G_isOver_97 n C s0 Q) : AW p l e R s m args below meth c E M_G_isOver true (fun r C2 n2 => C2 = C ∧ n2 = n ∧ Q r) n 0 0 97 [(9, 0), (9, 0), (9, 0), (9, 0), (9, 0)] [(0, s0)] C := by
  unfold J_G_isOver_97 at h
  obtain ⟨g_26, h⟩ := h
  exact AW.zret (dc hd_G_isOver 63 rfl) rfl rfl (Nat.le_of_ble_eq_true rfl) (Nat.le_of_ble_eq_true rfl) g_26 ⟨rfl, rfl, h⟩
def J_G_isOver_35 (n : Nat) (C : Cn) (v3 v4 : Int) (Q : Int → Prop) : Prop :=
  okO n v4 12 ∧ (okI v4 2 ∧ (okI v4 3 ∧ (okO n v3 12 ∧ (okI v3 2 ∧ (okI v3 3 ∧ (P_G_isAhead n C (C v4.toNat 2) (C v4.toNat 3) (C v3.toNat 2) (C v3.toNat 3) (fun (r_16 : Int) => (r_16 = 0 → (P_G_side n C v3 (C v4.toNat 2) (C v4.toNat 3) (fun (r_21 : Int) => J_G_isOver_97 n C (if 0 ≤ r_21 then 0 else 1) Q))) ∧ (¬ r_16 = 0 → (P_G_side n C v4 (C v3.toNat 2) (C v3.toNat 3) (fun (r_27 : Int) => J_G_isOver_97 n C (if r_27 ≤ 0 then 0 else 1) Q))))))))))
theorem aJ_G_isOver_35 (n : Nat) (C : Cn) (v3 v4 : Int) (Q : Int → Prop) (h : J_G_isOver_35 n C v3 v4 Q) : AW p l e R s m args below meth c E M_G_isOver true (fun r C2 n2 => C2 = C ∧ n2 = n ∧ Q r) n 0 0 35 [(9, 0), (9, 0), (9, 0), (2, v3), (2, v4)] [] C := by
  unfold J_G_isOver_35 at h
  refine AW.ra (dc hd_G_isOver 24 rfl) rfl rfl rfl ?_
  refine AW.iconst (dc hd_G_isOver 25 rfl) (by decide) ?_
  obtain ⟨g_10, h⟩ := h
  obtain ⟨g_11, h⟩ := h
  refine AW.iald (dc hd_G_isOver 26 rfl) g_10 g_11 ?_
  refine AW.ra (dc hd_G_isOver 27 rfl) rfl rfl rfl ?_
  refine AW.iconst (dc hd_G_isOver 28 rfl) (by decide) ?_
  obtain ⟨g_12, h⟩ := h
  refine AW.iald (dc hd_G_isOver 29 rfl) g_10 g_12 ?_
  refine AW.ra_n (dc hd_G_isOver 30 rfl) rfl rfl rfl ?_
  refine AW.iconst (dc hd_G_isOver 31 rfl) (by decide) ?_
  obtain ⟨g_13, h⟩ := h
  obtain ⟨g_14, h⟩ := h
  refine AW.iald (dc hd_G_isOver 32 rfl) g_13 g_14 ?_
  refine AW.ra_n (dc hd_G_isOver 33 rfl) rfl rfl rfl ?_
  refine AW.iconst (dc hd_G_isOver 34 rfl) (by decide) ?_
  obtain ⟨g_15, h⟩ := h
  refine AW.iald (dc hd_G_isOver 35 rfl) g_13 g_15 ?_
  refine AW.callS (As := [(0, C v4.toNat 2), (0, C v4.toNat 3), (0, C v3.toNat 2), (0, C v3.toNat 3)]) (rest := []) (m_G_isAhead l E n C (C v4.toNat 2) (C v4.toNat 3) (C v3.toNat 2) (C v3.toNat 3) _ h) cb_10_130 sm_G_isAhead (dc hd_G_isOver 36 rfl) rfl rfl ⟨Nat.le_of_ble_eq_true rfl, Nat.le_of_ble_eq_true rfl⟩ ⟨(Nat.le_of_ble_eq_true rfl), (Nat.le_of_ble_eq_true rfl)⟩ (Nat.le_of_ble_eq_true rfl) (fun _ h => by cases h) (fun _ => rfl) (fun r_16 D_18 d_19 q_17 => ?_)
  obtain ⟨q_17a, q_17b, h⟩ := q_17
  subst D_18
  subst d_19
  show AW p l e _ s m args below meth c E M_G_isOver true _ n _ _ _ [(9, 0), (9, 0), (9, 0), (2, v3), (2, v4)] [(0, r_16)] C
  refine AW.if_eq (t := 77) (dc hd_G_isOver 37 rfl) (by decide) (fun c_20 => ?_) (fun c_20 => ?_)
  · have h := h.1 c_20
    refine AW.ra_n (dc hd_G_isOver 51 rfl) rfl rfl rfl ?_
    refine AW.ra (dc hd_G_isOver 52 rfl) rfl rfl rfl ?_
    refine AW.iconst (dc hd_G_isOver 53 rfl) (by decide) ?_
    refine AW.iald (dc hd_G_isOver 54 rfl) g_10 g_11 ?_
    refine AW.ra (dc hd_G_isOver 55 rfl) rfl rfl rfl ?_
    refine AW.iconst (dc hd_G_isOver 56 rfl) (by decide) ?_
    refine AW.iald (dc hd_G_isOver 57 rfl) g_10 g_12 ?_
    refine AW.callS (As := [(2, v3), (0, C v4.toNat 2), (0, C v4.toNat 3)]) (rest := []) (m_G_side l E n C v3 (C v4.toNat 2) (C v4.toNat 3) _ h) cb_10_126 sm_G_side (dc hd_G_isOver 58 rfl) rfl rfl ⟨Nat.le_of_ble_eq_true rfl, Nat.le_of_ble_eq_true rfl⟩ ⟨(Nat.le_of_ble_eq_true rfl), (Nat.le_of_ble_eq_true rfl)⟩ (Nat.le_of_ble_eq_true rfl) (fun _ h => by cases h) (fun _ => rfl) (fun r_21 D_23 d_24 q_22 => ?_)
    obtain ⟨q_22a, q_22b, h⟩ := q_22
    subst D_23
    subst d_24
    show AW p l e _ s m args below meth c E M_G_isOver true _ n _ _ _ [(9, 0), (9, 0), (9, 0), (2, v3), (2, v4)] [(0, r_21)] C
    refine AW.if_ge (t := 96) (dc hd_G_isOver 59 rfl) (by decide) (fun c_25 => ?_) (fun c_25 => ?_)
    · simp only [if_pos (show 0 ≤ r_21 from c_25)] at h
      refine AW.iconst (dc hd_G_isOver 62 rfl) (by decide) ?_
      refine AW.fgt [(9, 0), (9, 0), (9, 0), (9, 0), (9, 0)] ⟨.inl rfl, .inl rfl, .inl rfl, .inr rfl, .inr rfl, trivial⟩ ?_
      exact aJ_G_isOver_97 n C _ Q h
    · simp only [if_neg (show ¬ (0 ≤ r_21) from c_25)] at h
      refine AW.iconst (dc hd_G_isOver 60 rfl) (by decide) ?_
      refine AW.goto (t := 97) (dc hd_G_isOver 61 rfl) (by decide) ?_
      refine AW.fgt [(9, 0), (9, 0), (9, 0), (9, 0), (9, 0)] ⟨.inl rfl, .inl rfl, .inl rfl, .inr rfl, .inr rfl, trivial⟩ ?_
      exact aJ_G_isOver_97 n C _ Q h
  · have h := h.2 c_20
    refine AW.ra (dc hd_G_isOver 38 rfl) rfl rfl rfl ?_
    refine AW.ra_n (dc hd_G_isOver 39 rfl) rfl rfl rfl ?_
    refine AW.iconst (dc hd_G_isOver 40 rfl) (by decide) ?_
    refine AW.iald (dc hd_G_isOver 41 rfl) g_13 g_14 ?_
    refine AW.ra_n (dc hd_G_isOver 42 rfl) rfl rfl rfl ?_
    refine AW.iconst (dc hd_G_isOver 43 rfl) (by decide) ?_
    refine AW.iald (dc hd_G_isOver 44 rfl) g_13 g_15 ?_
    refine AW.callS (As := [(2, v4), (0, C v3.toNat 2), (0, C v3.toNat 3)]) (rest := []) (m_G_side l E n C v4 (C v3.toNat 2) (C v3.toNat 3) _ h) cb_10_126 sm_G_side (dc hd_G_isOver 45 rfl) rfl rfl ⟨Nat.le_of_ble_eq_true rfl, Nat.le_of_ble_eq_true rfl⟩ ⟨(Nat.le_of_ble_eq_true rfl), (Nat.le_of_ble_eq_true rfl)⟩ (Nat.le_of_ble_eq_true rfl) (fun _ h => by cases h) (fun _ => rfl) (fun r_27 D_29 d_30 q_28 => ?_)
    obtain ⟨q_28a, q_28b, h⟩ := q_28
    subst D_29
    subst d_30
    show AW p l e _ s m args below meth c E M_G_isOver true _ n _ _ _ [(9, 0), (9, 0), (9, 0), (2, v3), (2, v4)] [(0, r_27)] C
    refine AW.if_le (t := 73) (dc hd_G_isOver 46 rfl) (by decide) (fun c_31 => ?_) (fun c_31 => ?_)
    · simp only [if_pos (show r_27 ≤ 0 from c_31)] at h
      refine AW.iconst (dc hd_G_isOver 49 rfl) (by decide) ?_
      refine AW.goto (t := 97) (dc hd_G_isOver 50 rfl) (by decide) ?_
      refine AW.fgt [(9, 0), (9, 0), (9, 0), (9, 0), (9, 0)] ⟨.inl rfl, .inl rfl, .inl rfl, .inr rfl, .inr rfl, trivial⟩ ?_
      exact aJ_G_isOver_97 n C _ Q h
    · simp only [if_neg (show ¬ (r_27 ≤ 0) from c_31)] at h
      refine AW.iconst (dc hd_G_isOver 47 rfl) (by decide) ?_
      refine AW.goto (t := 97) (dc hd_G_isOver 48 rfl) (by decide) ?_
      refine AW.fgt [(9, 0), (9, 0), (9, 0), (9, 0), (9, 0)] ⟨.inl rfl, .inl rfl, .inl rfl, .inr rfl, .inr rfl, trivial⟩ ?_
      exact aJ_G_isOver_97 n C _ Q h
def J_G_isOver_160 (n : Nat) (C : Cn) (s0 : Int) (Q : Int → Prop) : Prop :=
  (s0 = 0 ∨ s0 = 1) ∧ (Q s0)
theorem aJ_G_isOver_160 (n : Nat) (C : Cn) (s0 : Int) (Q : Int → Prop) (h : J_G_isOver_160 n C s0 Q) : AW p l e R s m args below meth c E M_G_isOver true (fun r C2 n2 => C2 = C ∧ n2 = n ∧ Q r) n 0 0 160 [(9, 0), (9, 0), (9, 0), (9, 0), (9, 0)] [(0, s0)] C := by
  unfold J_G_isOver_160 at h
  obtain ⟨g_49, h⟩ := h
  exact AW.zret (dc hd_G_isOver 103 rfl) rfl rfl (Nat.le_of_ble_eq_true rfl) (Nat.le_of_ble_eq_true rfl) g_49 ⟨rfl, rfl, h⟩
def P_G_isOver (n : Nat) (C : Cn) (v0 v1 v2 : Int) (Q : Int → Prop) : Prop :=
  okO n v0 10 ∧ (okO n (PT v0.toNat 1) 17 ∧ (okI (PT v0.toNat 1) v1 ∧ (okI (PT v0.toNat 1) v2 ∧ (okO n (PT (PT v0.toNat 1).toNat v1.toNat) 12 ∧ (okI (PT (PT v0.toNat 1).toNat v1.toNat) 2 ∧ (okO n (PT (PT v0.toNat 1).toNat v2.toNat) 12 ∧ (okI (PT (PT v0.toNat 1).toNat v2.toNat) 2 ∧ ((C (PT (PT v0.toNat 1).toNat v1.toNat).toNat 2 = C (PT (PT v0.toNat 1).toNat v2.toNat).toNat 2 → (okI (PT (PT v0.toNat 1).toNat v1.toNat) 3 ∧ (okI (PT (PT v0.toNat 1).toNat v2.toNat) 3 ∧ ((C (PT (PT v0.toNat 1).toNat v1.toNat).toNat 3 = C (PT (PT v0.toNat 1).toNat v2.toNat).toNat 3 → (okI (PT (PT v0.toNat 1).toNat v1.toNat) 4 ∧ (okI (PT (PT v0.toNat 1).toNat v1.toNat) 5 ∧ (okI (PT (PT v0.toNat 1).toNat v2.toNat) 4 ∧ (okI (PT (PT v0.toNat 1).toNat v2.toNat) 5 ∧ (P_G_isAhead n C (C (PT (PT v0.toNat 1).toNat v1.toNat).toNat 4) (C (PT (PT v0.toNat 1).toNat v1.toNat).toNat 5) (C (PT (PT v0.toNat 1).toNat v2.toNat).toNat 4) (C (PT (PT v0.toNat 1).toNat v2.toNat).toNat 5) (fun (r_39 : Int) => (r_39 = 0 → (P_G_side n C (PT (PT v0.toNat 1).toNat v1.toNat) (C (PT (PT v0.toNat 1).toNat v2.toNat).toNat 4) (C (PT (PT v0.toNat 1).toNat v2.toNat).toNat 5) (fun (r_44 : Int) => J_G_isOver_160 n C (if 0 ≤ r_44 then 0 else 1) Q))) ∧ (¬ r_39 = 0 → (P_G_side n C (PT (PT v0.toNat 1).toNat v2.toNat) (C (PT (PT v0.toNat 1).toNat v1.toNat).toNat 4) (C (PT (PT v0.toNat 1).toNat v1.toNat).toNat 5) (fun (r_50 : Int) => J_G_isOver_160 n C (if r_50 ≤ 0 then 0 else 1) Q)))))))))) ∧ (¬ C (PT (PT v0.toNat 1).toNat v1.toNat).toNat 3 = C (PT (PT v0.toNat 1).toNat v2.toNat).toNat 3 → (J_G_isOver_35 n C (PT (PT v0.toNat 1).toNat v1.toNat) (PT (PT v0.toNat 1).toNat v2.toNat) Q)))))) ∧ (¬ C (PT (PT v0.toNat 1).toNat v1.toNat).toNat 2 = C (PT (PT v0.toNat 1).toNat v2.toNat).toNat 2 → (J_G_isOver_35 n C (PT (PT v0.toNat 1).toNat v1.toNat) (PT (PT v0.toNat 1).toNat v2.toNat) Q))))))))))
theorem m_G_isOver (l : Launch) (E : Ev) (n : Nat) (C : Cn) (v0 v1 v2 : Int) (Q : Int → Prop) (h : P_G_isOver n C v0 v1 v2 Q) : MA l y_G_isOver M_G_isOver E true C n [(2, v0), (0, v1), (0, v2)] (fun r C2 n2 => C2 = C ∧ n2 = n ∧ Q r) := by
  refine MA.of (by decide) rfl rfl 2 rfl (fun p e s m args below meth c => ?_)
  show AW p l e _ s m args below meth c E M_G_isOver true _ n 0 0 0 [(2, v0), (0, v1), (0, v2), (9, 0), (9, 0)] [] C
  unfold P_G_isOver at h
  refine AW.ra_n (dc hd_G_isOver 0 rfl) rfl rfl rfl ?_
  obtain ⟨g_1, h⟩ := h
  refine AW.getp fl_10_11 (dc hd_G_isOver 1 rfl) g_1 rfl ?_
  refine AW.iload_n (dc hd_G_isOver 2 rfl) rfl ?_
  obtain ⟨g_2, h⟩ := h
  obtain ⟨g_3, h⟩ := h
  refine AW.aaldp (by decide) (dc hd_G_isOver 3 rfl) g_2 g_3 rfl ?_
  refine AW.rs_n [(2, v0), (0, v1), (0, v2), (2, PT (PT v0.toNat 1).toNat v1.toNat), (9, 0)] (dc hd_G_isOver 4 rfl) (Nat.le_of_ble_eq_true rfl) rfl rfl rfl ?_
  refine AW.ra_n (dc hd_G_isOver 5 rfl) rfl rfl rfl ?_
  refine AW.getp fl_10_11 (dc hd_G_isOver 6 rfl) g_1 rfl ?_
  refine AW.iload_n (dc hd_G_isOver 7 rfl) rfl ?_
  obtain ⟨g_4, h⟩ := h
  refine AW.aaldp (by decide) (dc hd_G_isOver 8 rfl) g_2 g_4 rfl ?_
  refine AW.rs [(2, v0), (0, v1), (0, v2), (2, PT (PT v0.toNat 1).toNat v1.toNat), (2, PT (PT v0.toNat 1).toNat v2.toNat)] (dc hd_G_isOver 9 rfl) (Nat.le_of_ble_eq_true rfl) rfl rfl rfl ?_
  refine AW.ra_n (dc hd_G_isOver 10 rfl) rfl rfl rfl ?_
  refine AW.iconst (dc hd_G_isOver 11 rfl) (by decide) ?_
  obtain ⟨g_5, h⟩ := h
  obtain ⟨g_6, h⟩ := h
  refine AW.iald (dc hd_G_isOver 12 rfl) g_5 g_6 ?_
  refine AW.ra (dc hd_G_isOver 13 rfl) rfl rfl rfl ?_
  refine AW.iconst (dc hd_G_isOver 14 rfl) (by decide) ?_
  obtain ⟨g_7, h⟩ := h
  obtain ⟨g_8, h⟩ := h
  refine AW.iald (dc hd_G_isOver 15 rfl) g_7 g_8 ?_
  refine AW.icmp_ne (t := 35) (dc hd_G_isOver 16 rfl) (by decide) (fun c_9 => ?_) (fun c_9 => ?_)
  · have h := h.2 c_9
    refine AW.fgt [(9, 0), (9, 0), (9, 0), (2, PT (PT v0.toNat 1).toNat v1.toNat), (2, PT (PT v0.toNat 1).toNat v2.toNat)] ⟨.inr rfl, .inr rfl, .inr rfl, .inl rfl, .inl rfl, trivial⟩ ?_
    exact aJ_G_isOver_35 n C (PT (PT v0.toNat 1).toNat v1.toNat) (PT (PT v0.toNat 1).toNat v2.toNat) Q h
  · have h := h.1 c_9
    refine AW.ra_n (dc hd_G_isOver 17 rfl) rfl rfl rfl ?_
    refine AW.iconst (dc hd_G_isOver 18 rfl) (by decide) ?_
    obtain ⟨g_32, h⟩ := h
    refine AW.iald (dc hd_G_isOver 19 rfl) g_5 g_32 ?_
    refine AW.ra (dc hd_G_isOver 20 rfl) rfl rfl rfl ?_
    refine AW.iconst (dc hd_G_isOver 21 rfl) (by decide) ?_
    obtain ⟨g_33, h⟩ := h
    refine AW.iald (dc hd_G_isOver 22 rfl) g_7 g_33 ?_
    refine AW.icmp_eq (t := 98) (dc hd_G_isOver 23 rfl) (by decide) (fun c_34 => ?_) (fun c_34 => ?_)
    · have h := h.1 c_34
      refine AW.ra_n (dc hd_G_isOver 64 rfl) rfl rfl rfl ?_
      refine AW.iconst (dc hd_G_isOver 65 rfl) (by decide) ?_
      obtain ⟨g_35, h⟩ := h
      refine AW.iald (dc hd_G_isOver 66 rfl) g_5 g_35 ?_
      refine AW.ra_n (dc hd_G_isOver 67 rfl) rfl rfl rfl ?_
      refine AW.iconst (dc hd_G_isOver 68 rfl) (by decide) ?_
      obtain ⟨g_36, h⟩ := h
      refine AW.iald (dc hd_G_isOver 69 rfl) g_5 g_36 ?_
      refine AW.ra (dc hd_G_isOver 70 rfl) rfl rfl rfl ?_
      refine AW.iconst (dc hd_G_isOver 71 rfl) (by decide) ?_
      obtain ⟨g_37, h⟩ := h
      refine AW.iald (dc hd_G_isOver 72 rfl) g_7 g_37 ?_
      refine AW.ra (dc hd_G_isOver 73 rfl) rfl rfl rfl ?_
      refine AW.iconst (dc hd_G_isOver 74 rfl) (by decide) ?_
      obtain ⟨g_38, h⟩ := h
      refine AW.iald (dc hd_G_isOver 75 rfl) g_7 g_38 ?_
      refine AW.callS (As := [(0, C (PT (PT v0.toNat 1).toNat v1.toNat).toNat 4), (0, C (PT (PT v0.toNat 1).toNat v1.toNat).toNat 5), (0, C (PT (PT v0.toNat 1).toNat v2.toNat).toNat 4), (0, C (PT (PT v0.toNat 1).toNat v2.toNat).toNat 5)]) (rest := []) (m_G_isAhead l E n C (C (PT (PT v0.toNat 1).toNat v1.toNat).toNat 4) (C (PT (PT v0.toNat 1).toNat v1.toNat).toNat 5) (C (PT (PT v0.toNat 1).toNat v2.toNat).toNat 4) (C (PT (PT v0.toNat 1).toNat v2.toNat).toNat 5) _ h) cb_10_130 sm_G_isAhead (dc hd_G_isOver 76 rfl) rfl rfl ⟨Nat.le_of_ble_eq_true rfl, Nat.le_of_ble_eq_true rfl⟩ ⟨(Nat.le_of_ble_eq_true rfl), (Nat.le_of_ble_eq_true rfl)⟩ (Nat.le_of_ble_eq_true rfl) (fun _ h => by cases h) (fun _ => rfl) (fun r_39 D_41 d_42 q_40 => ?_)
      obtain ⟨q_40a, q_40b, h⟩ := q_40
      subst D_41
      subst d_42
      show AW p l e _ s m args below meth c E M_G_isOver true _ n _ _ _ [(2, v0), (0, v1), (0, v2), (2, PT (PT v0.toNat 1).toNat v1.toNat), (2, PT (PT v0.toNat 1).toNat v2.toNat)] [(0, r_39)] C
      refine AW.if_eq (t := 140) (dc hd_G_isOver 77 rfl) (by decide) (fun c_43 => ?_) (fun c_43 => ?_)
      · have h := h.1 c_43
        refine AW.ra_n (dc hd_G_isOver 91 rfl) rfl rfl rfl ?_
        refine AW.ra (dc hd_G_isOver 92 rfl) rfl rfl rfl ?_
        refine AW.iconst (dc hd_G_isOver 93 rfl) (by decide) ?_
        refine AW.iald (dc hd_G_isOver 94 rfl) g_7 g_37 ?_
        refine AW.ra (dc hd_G_isOver 95 rfl) rfl rfl rfl ?_
        refine AW.iconst (dc hd_G_isOver 96 rfl) (by decide) ?_
        refine AW.iald (dc hd_G_isOver 97 rfl) g_7 g_38 ?_
        refine AW.callS (As := [(2, PT (PT v0.toNat 1).toNat v1.toNat), (0, C (PT (PT v0.toNat 1).toNat v2.toNat).toNat 4), (0, C (PT (PT v0.toNat 1).toNat v2.toNat).toNat 5)]) (rest := []) (m_G_side l E n C (PT (PT v0.toNat 1).toNat v1.toNat) (C (PT (PT v0.toNat 1).toNat v2.toNat).toNat 4) (C (PT (PT v0.toNat 1).toNat v2.toNat).toNat 5) _ h) cb_10_126 sm_G_side (dc hd_G_isOver 98 rfl) rfl rfl ⟨Nat.le_of_ble_eq_true rfl, Nat.le_of_ble_eq_true rfl⟩ ⟨(Nat.le_of_ble_eq_true rfl), (Nat.le_of_ble_eq_true rfl)⟩ (Nat.le_of_ble_eq_true rfl) (fun _ h => by cases h) (fun _ => rfl) (fun r_44 D_46 d_47 q_45 => ?_)
        obtain ⟨q_45a, q_45b, h⟩ := q_45
        subst D_46
        subst d_47
        show AW p l e _ s m args below meth c E M_G_isOver true _ n _ _ _ [(2, v0), (0, v1), (0, v2), (2, PT (PT v0.toNat 1).toNat v1.toNat), (2, PT (PT v0.toNat 1).toNat v2.toNat)] [(0, r_44)] C
        refine AW.if_ge (t := 159) (dc hd_G_isOver 99 rfl) (by decide) (fun c_48 => ?_) (fun c_48 => ?_)
        · simp only [if_pos (show 0 ≤ r_44 from c_48)] at h
          refine AW.iconst (dc hd_G_isOver 102 rfl) (by decide) ?_
          refine AW.fgt [(9, 0), (9, 0), (9, 0), (9, 0), (9, 0)] ⟨.inr rfl, .inr rfl, .inr rfl, .inr rfl, .inr rfl, trivial⟩ ?_
          exact aJ_G_isOver_160 n C _ Q h
        · simp only [if_neg (show ¬ (0 ≤ r_44) from c_48)] at h
          refine AW.iconst (dc hd_G_isOver 100 rfl) (by decide) ?_
          refine AW.goto (t := 160) (dc hd_G_isOver 101 rfl) (by decide) ?_
          refine AW.fgt [(9, 0), (9, 0), (9, 0), (9, 0), (9, 0)] ⟨.inr rfl, .inr rfl, .inr rfl, .inr rfl, .inr rfl, trivial⟩ ?_
          exact aJ_G_isOver_160 n C _ Q h
      · have h := h.2 c_43
        refine AW.ra (dc hd_G_isOver 78 rfl) rfl rfl rfl ?_
        refine AW.ra_n (dc hd_G_isOver 79 rfl) rfl rfl rfl ?_
        refine AW.iconst (dc hd_G_isOver 80 rfl) (by decide) ?_
        refine AW.iald (dc hd_G_isOver 81 rfl) g_5 g_35 ?_
        refine AW.ra_n (dc hd_G_isOver 82 rfl) rfl rfl rfl ?_
        refine AW.iconst (dc hd_G_isOver 83 rfl) (by decide) ?_
        refine AW.iald (dc hd_G_isOver 84 rfl) g_5 g_36 ?_
        refine AW.callS (As := [(2, PT (PT v0.toNat 1).toNat v2.toNat), (0, C (PT (PT v0.toNat 1).toNat v1.toNat).toNat 4), (0, C (PT (PT v0.toNat 1).toNat v1.toNat).toNat 5)]) (rest := []) (m_G_side l E n C (PT (PT v0.toNat 1).toNat v2.toNat) (C (PT (PT v0.toNat 1).toNat v1.toNat).toNat 4) (C (PT (PT v0.toNat 1).toNat v1.toNat).toNat 5) _ h) cb_10_126 sm_G_side (dc hd_G_isOver 85 rfl) rfl rfl ⟨Nat.le_of_ble_eq_true rfl, Nat.le_of_ble_eq_true rfl⟩ ⟨(Nat.le_of_ble_eq_true rfl), (Nat.le_of_ble_eq_true rfl)⟩ (Nat.le_of_ble_eq_true rfl) (fun _ h => by cases h) (fun _ => rfl) (fun r_50 D_52 d_53 q_51 => ?_)
        obtain ⟨q_51a, q_51b, h⟩ := q_51
        subst D_52
        subst d_53
        show AW p l e _ s m args below meth c E M_G_isOver true _ n _ _ _ [(2, v0), (0, v1), (0, v2), (2, PT (PT v0.toNat 1).toNat v1.toNat), (2, PT (PT v0.toNat 1).toNat v2.toNat)] [(0, r_50)] C
        refine AW.if_le (t := 136) (dc hd_G_isOver 86 rfl) (by decide) (fun c_54 => ?_) (fun c_54 => ?_)
        · simp only [if_pos (show r_50 ≤ 0 from c_54)] at h
          refine AW.iconst (dc hd_G_isOver 89 rfl) (by decide) ?_
          refine AW.goto (t := 160) (dc hd_G_isOver 90 rfl) (by decide) ?_
          refine AW.fgt [(9, 0), (9, 0), (9, 0), (9, 0), (9, 0)] ⟨.inr rfl, .inr rfl, .inr rfl, .inr rfl, .inr rfl, trivial⟩ ?_
          exact aJ_G_isOver_160 n C _ Q h
        · simp only [if_neg (show ¬ (r_50 ≤ 0) from c_54)] at h
          refine AW.iconst (dc hd_G_isOver 87 rfl) (by decide) ?_
          refine AW.goto (t := 160) (dc hd_G_isOver 88 rfl) (by decide) ?_
          refine AW.fgt [(9, 0), (9, 0), (9, 0), (9, 0), (9, 0)] ⟨.inr rfl, .inr rfl, .inr rfl, .inr rfl, .inr rfl, trivial⟩ ?_
          exact aJ_G_isOver_160 n C _ Q h
    · have h := h.2 c_34
      refine AW.fgt [(9, 0), (9, 0), (9, 0), (2, PT (PT v0.toNat 1).toNat v1.toNat), (2, PT (PT v0.toNat 1).toNat v2.toNat)] ⟨.inr rfl, .inr rfl, .inr rfl, .inl rfl, .inl rfl, trivial⟩ ?_
      exact aJ_G_isOver_35 n C (PT (PT v0.toNat 1).toNat v1.toNat) (PT (PT v0.toNat 1).toNat v2.toNat) Q h
def J_G_sorts_82 (n : Nat) (C : Cn) (v0 v1 v2 v3 : Int) (kz9 : Cn × Int → Prop) (Q : Int → Cn → Prop) : Prop :=
  okO n v0 10 ∧ (okO n (PT v0.toNat 16) 17 ∧ (okI (PT v0.toNat 16) v1 ∧ (okO n (PT (PT v0.toNat 16).toNat v1.toNat) 12 ∧ (okI (PT (PT v0.toNat 16).toNat v1.toNat) v3 ∧ (∀ C_21 : Cn, C_21 = wr C (PT (PT v0.toNat 16).toNat v1.toNat).toNat v3.toNat v2 → (okO n (PT v0.toNat 15) 12 ∧ (okI (PT v0.toNat 15) v1 ∧ (∀ C_24 : Cn, C_24 = wr C_21 (PT v0.toNat 15).toNat v1.toNat (w32 (C_21 (PT v0.toNat 15).toNat v1.toNat + 1)) → (kz9 (C_24, w32 (v2 + 1)))))))))))
theorem aJ_G_sorts_82 (n : Nat) (C : Cn) (v0 v1 v2 v3 : Int) (kz9 : Cn × Int → Prop) (Q : Int → Cn → Prop) (hkz9 : ∀ (Cz : Cn) (z2 : Int), kz9 (Cz, z2) → AW p l e R s m args below meth c E M_G_sorts true (fun r C2 n2 => n2 = n ∧ Q r C2) n 0 0 9 [(2, v0), (0, v1), (0, z2), (9, 0)] [] Cz) (h : J_G_sorts_82 n C v0 v1 v2 v3 kz9 Q) : AW p l e R s m args below meth c E M_G_sorts true (fun r C2 n2 => n2 = n ∧ Q r C2) n 0 0 82 [(2, v0), (0, v1), (0, v2), (0, v3)] [] C := by
  unfold J_G_sorts_82 at h
  refine AW.ra_n (dc hd_G_sorts 52 rfl) rfl rfl rfl ?_
  obtain ⟨g_16, h⟩ := h
  refine AW.getp fl_10_43 (dc hd_G_sorts 53 rfl) g_16 rfl ?_
  refine AW.iload_n (dc hd_G_sorts 54 rfl) rfl ?_
  obtain ⟨g_17, h⟩ := h
  obtain ⟨g_18, h⟩ := h
  refine AW.aaldp (by decide) (dc hd_G_sorts 55 rfl) g_17 g_18 rfl ?_
  refine AW.iload_n (dc hd_G_sorts 56 rfl) rfl ?_
  refine AW.iload_n (dc hd_G_sorts 57 rfl) rfl ?_
  obtain ⟨g_19, h⟩ := h
  obtain ⟨g_20, h⟩ := h
  refine AW.niast (dc hd_G_sorts 58 rfl) g_19 g_20 (fun C_21 eC_21 => ?_)
  have h := h C_21 eC_21
  refine AW.ra_n (dc hd_G_sorts 59 rfl) rfl rfl rfl ?_
  refine AW.getp fl_10_40 (dc hd_G_sorts 60 rfl) g_16 rfl ?_
  refine AW.iload_n (dc hd_G_sorts 61 rfl) rfl ?_
  refine AW.rdup2 (dc hd_G_sorts 62 rfl) rfl rfl ?_
  obtain ⟨g_22, h⟩ := h
  obtain ⟨g_23, h⟩ := h
  refine AW.iald (dc hd_G_sorts 63 rfl) g_22 g_23 ?_
  refine AW.iconst (dc hd_G_sorts 64 rfl) (by decide) ?_
  refine AW.iadd (dc hd_G_sorts 65 rfl) ?_
  refine AW.niast (dc hd_G_sorts 66 rfl) g_22 g_23 (fun C_24 eC_24 => ?_)
  have h := h C_24 eC_24
  refine AW.iinc [(2, v0), (0, v1), (0, w32 (v2 + 1)), (0, v3)] (dc hd_G_sorts 67 rfl) rfl (Nat.le_of_ble_eq_true rfl) rfl rfl ?_
  refine AW.goto (t := 9) (dc hd_G_sorts 68 rfl) (by decide) ?_
  refine AW.fgt [(2, v0), (0, v1), (0, w32 (v2 + 1)), (9, 0)] ⟨.inl rfl, .inl rfl, .inl rfl, .inr rfl, trivial⟩ ?_
  exact hkz9 C_24 (w32 (v2 + 1)) h
def B_G_sorts_36 (n : Nat) (v0 v1 v2 : Int) (kz9 : Cn × Int → Prop) (Q : Int → Cn → Prop) (kz36 : Cn × Int → Prop) (z : Cn × Int) : Prop := match z with
  | (C, v3) => (v3 ≤ 0 → (J_G_sorts_82 n C v0 v1 v2 v3 kz9 Q)) ∧ (¬ v3 ≤ 0 → (okO n v0 10 ∧ (okO n (PT v0.toNat 16) 17 ∧ (okI (PT v0.toNat 16) v1 ∧ (okO n (PT (PT v0.toNat 16).toNat v1.toNat) 12 ∧ (okI (PT (PT v0.toNat 16).toNat v1.toNat) (w32 (v3 - 1)) ∧ (P_G_isOver n C v0 (C (PT (PT v0.toNat 16).toNat v1.toNat).toNat (w32 (v3 - 1)).toNat) v2 (fun (r_30 : Int) => (r_30 = 0 → (J_G_sorts_82 n C v0 v1 v2 v3 kz9 Q)) ∧ (¬ r_30 = 0 → (okI (PT (PT v0.toNat 16).toNat v1.toNat) v3 ∧ (∀ C_36 : Cn, C_36 = wr C (PT (PT v0.toNat 16).toNat v1.toNat).toNat v3.toNat (C (PT (PT v0.toNat 16).toNat v1.toNat).toNat (w32 (v3 - 1)).toNat) → (kz36 (C_36, w32 (v3 + (-1)))))))))))))))
theorem bB_G_sorts_36 (n : Nat) (v0 v1 v2 : Int) (kz9 : Cn × Int → Prop) (Q : Int → Cn → Prop) (hkz9 : ∀ (Cz : Cn) (z2 : Int), kz9 (Cz, z2) → AW p l e R s m args below meth c E M_G_sorts true (fun r C2 n2 => n2 = n ∧ Q r C2) n 0 0 9 [(2, v0), (0, v1), (0, z2), (9, 0)] [] Cz) (kz36 : Cn × Int → Prop) (hkz36 : ∀ (Cz : Cn) (z3 : Int), kz36 (Cz, z3) → AW p l e R s m args below meth c E M_G_sorts true (fun r C2 n2 => n2 = n ∧ Q r C2) n 0 0 36 [(2, v0), (0, v1), (0, v2), (0, z3)] [] Cz) (C : Cn) (v3 : Int) (h : B_G_sorts_36 n v0 v1 v2 kz9 Q kz36 (C, v3)) : AW p l e R s m args below meth c E M_G_sorts true (fun r C2 n2 => n2 = n ∧ Q r C2) n 0 0 36 [(2, v0), (0, v1), (0, v2), (0, v3)] [] C := by
  unfold B_G_sorts_36 at h
  dsimp only at h
  refine AW.iload_n (dc hd_G_sorts 22 rfl) rfl ?_
  refine AW.if_le (t := 82) (dc hd_G_sorts 23 rfl) (by decide) (fun c_15 => ?_) (fun c_15 => ?_)
  · have h := h.1 c_15
    exact aJ_G_sorts_82 n C v0 v1 v2 v3 kz9 Q hkz9 h
  · have h := h.2 c_15
    refine AW.ra_n (dc hd_G_sorts 24 rfl) rfl rfl rfl ?_
    refine AW.ra_n (dc hd_G_sorts 25 rfl) rfl rfl rfl ?_
    obtain ⟨g_25, h⟩ := h
    refine AW.getp fl_10_43 (dc hd_G_sorts 26 rfl) g_25 rfl ?_
    refine AW.iload_n (dc hd_G_sorts 27 rfl) rfl ?_
    obtain ⟨g_26, h⟩ := h
    obtain ⟨g_27, h⟩ := h
    refine AW.aaldp (by decide) (dc hd_G_sorts 28 rfl) g_26 g_27 rfl ?_
    refine AW.iload_n (dc hd_G_sorts 29 rfl) rfl ?_
    refine AW.iconst (dc hd_G_sorts 30 rfl) (by decide) ?_
    refine AW.isub (dc hd_G_sorts 31 rfl) ?_
    obtain ⟨g_28, h⟩ := h
    obtain ⟨g_29, h⟩ := h
    refine AW.iald (dc hd_G_sorts 32 rfl) g_28 g_29 ?_
    refine AW.iload_n (dc hd_G_sorts 33 rfl) rfl ?_
    refine AW.callV (As := [(0, C (PT (PT v0.toNat 16).toNat v1.toNat).toNat (w32 (v3 - 1)).toNat), (0, v2)]) (rest := []) (ci := 10) (m_G_isOver l E n C v0 (C (PT (PT v0.toNat 16).toNat v1.toNat).toNat (w32 (v3 - 1)).toNat) v2 _ h) cb_10_230 im_G_isOver se_G_isOver ⟨_, _, rfl⟩ (by decide) (dc hd_G_sorts 34 rfl) g_25 rfl rfl ⟨Nat.le_of_ble_eq_true rfl, Nat.le_of_ble_eq_true rfl⟩ ⟨(Nat.le_of_ble_eq_true rfl), (Nat.le_of_ble_eq_true rfl)⟩ (Nat.le_of_ble_eq_true rfl) (fun _ h => by cases h) (fun _ => rfl) (fun r_30 D_32 d_33 q_31 => ?_)
    obtain ⟨q_31a, q_31b, h⟩ := q_31
    subst D_32
    subst d_33
    show AW p l e _ s m args below meth c E M_G_sorts true _ n _ _ _ [(2, v0), (0, v1), (0, v2), (0, v3)] [(0, r_30)] C
    refine AW.if_eq (t := 82) (dc hd_G_sorts 35 rfl) (by decide) (fun c_34 => ?_) (fun c_34 => ?_)
    · have h := h.1 c_34
      exact aJ_G_sorts_82 n C v0 v1 v2 v3 kz9 Q hkz9 h
    · have h := h.2 c_34
      refine AW.ra_n (dc hd_G_sorts 36 rfl) rfl rfl rfl ?_
      refine AW.getp fl_10_43 (dc hd_G_sorts 37 rfl) g_25 rfl ?_
      refine AW.iload_n (dc hd_G_sorts 38 rfl) rfl ?_
      refine AW.aaldp (by decide) (dc hd_G_sorts 39 rfl) g_26 g_27 rfl ?_
      refine AW.iload_n (dc hd_G_sorts 40 rfl) rfl ?_
      refine AW.ra_n (dc hd_G_sorts 41 rfl) rfl rfl rfl ?_
      refine AW.getp fl_10_43 (dc hd_G_sorts 42 rfl) g_25 rfl ?_
      refine AW.iload_n (dc hd_G_sorts 43 rfl) rfl ?_
      refine AW.aaldp (by decide) (dc hd_G_sorts 44 rfl) g_26 g_27 rfl ?_
      refine AW.iload_n (dc hd_G_sorts 45 rfl) rfl ?_
      refine AW.iconst (dc hd_G_sorts 46 rfl) (by decide) ?_
      refine AW.isub (dc hd_G_sorts 47 rfl) ?_
      refine AW.iald (dc hd_G_sorts 48 rfl) g_28 g_29 ?_
      obtain ⟨g_35, h⟩ := h
      refine AW.niast (dc hd_G_sorts 49 rfl) g_28 g_35 (fun C_36 eC_36 => ?_)
      have h := h C_36 eC_36
      refine AW.iinc [(2, v0), (0, v1), (0, v2), (0, w32 (v3 + (-1)))] (dc hd_G_sorts 50 rfl) rfl (Nat.le_of_ble_eq_true rfl) rfl rfl ?_
      refine AW.goto (t := 36) (dc hd_G_sorts 51 rfl) (by decide) ?_
      exact hkz36 C_36 (w32 (v3 + (-1))) h
theorem aB_G_sorts_36 (n : Nat) (v0 v1 v2 : Int) (kz9 : Cn × Int → Prop) (Q : Int → Cn → Prop) (hkz9 : ∀ (Cz : Cn) (z2 : Int), kz9 (Cz, z2) → AW p l e R s m args below meth c E M_G_sorts true (fun r C2 n2 => n2 = n ∧ Q r C2) n 0 0 9 [(2, v0), (0, v1), (0, z2), (9, 0)] [] Cz) : ∀ (f : Nat) (z : Cn × Int), lp (B_G_sorts_36 n v0 v1 v2 kz9 Q) f z → AW p l e R s m args below meth c E M_G_sorts true (fun r C2 n2 => n2 = n ∧ Q r C2) n 0 0 36 [(2, v0), (0, v1), (0, v2), (0, z.2)] [] (z.1) := by
  intro f
  induction f with
  | zero => intro z h; exact False.elim h
  | succ f ih => intro z h; exact bB_G_sorts_36 n v0 v1 v2 kz9 Q hkz9 (lp (B_G_sorts_36 n v0 v1 v2 kz9 Q) f) (fun a0 a1 h => ih (a0, a1) h) z.1 z.2 h
def B_G_sorts_9 (n : Nat) (v0 v1 : Int) (Q : Int → Cn → Prop) (kz9 : Cn × Int → Prop) (z : Cn × Int) : Prop := match z with
  | (C, v2) => okO n v0 10 ∧ ((C v0.toNat 0 ≤ v2 → (Q 0 C)) ∧ (¬ C v0.toNat 0 ≤ v2 → (P_G_goesThrough n C v0 v2 v1 (fun (r_7 : Int) => (r_7 = 0 → (kz9 (C, w32 (v2 + 1)))) ∧ (¬ r_7 = 0 → (okO n (PT v0.toNat 15) 12 ∧ (okI (PT v0.toNat 15) v1 ∧ (∀ v3_14 : Int, v3_14 = C (PT v0.toNat 15).toNat v1.toNat → (∃ f_37 : Nat, lp (B_G_sorts_36 n v0 v1 v2 kz9 Q) f_37 (C, v3_14))))))))))
theorem bB_G_sorts_9 (n : Nat) (v0 v1 : Int) (Q : Int → Cn → Prop) (kz9 : Cn × Int → Prop) (hkz9 : ∀ (Cz : Cn) (z2 : Int), kz9 (Cz, z2) → AW p l e R s m args below meth c E M_G_sorts true (fun r C2 n2 => n2 = n ∧ Q r C2) n 0 0 9 [(2, v0), (0, v1), (0, z2), (9, 0)] [] Cz) (C : Cn) (v2 : Int) (h : B_G_sorts_9 n v0 v1 Q kz9 (C, v2)) : AW p l e R s m args below meth c E M_G_sorts true (fun r C2 n2 => n2 = n ∧ Q r C2) n 0 0 9 [(2, v0), (0, v1), (0, v2), (9, 0)] [] C := by
  unfold B_G_sorts_9 at h
  dsimp only at h
  refine AW.iload_n (dc hd_G_sorts 7 rfl) rfl ?_
  refine AW.ra_n (dc hd_G_sorts 8 rfl) rfl rfl rfl ?_
  obtain ⟨g_5, h⟩ := h
  refine AW.getf fl_10_117 (dc hd_G_sorts 9 rfl) g_5 ?_
  refine AW.icmp_ge (t := 107) (dc hd_G_sorts 10 rfl) (by decide) (fun c_6 => ?_) (fun c_6 => ?_)
  · have h := h.1 c_6
    exact AW.vret (dc hd_G_sorts 69 rfl) rfl rfl (Nat.le_of_ble_eq_true rfl) (Nat.le_of_ble_eq_true rfl) ⟨rfl, h⟩
  · have h := h.2 c_6
    refine AW.ra_n (dc hd_G_sorts 11 rfl) rfl rfl rfl ?_
    refine AW.iload_n (dc hd_G_sorts 12 rfl) rfl ?_
    refine AW.iload_n (dc hd_G_sorts 13 rfl) rfl ?_
    refine AW.callV (As := [(0, v2), (0, v1)]) (rest := []) (ci := 10) (m_G_goesThrough l E n C v0 v2 v1 _ h) cb_10_227 im_G_goesThrough se_G_goesThrough ⟨_, _, rfl⟩ (by decide) (dc hd_G_sorts 14 rfl) g_5 rfl rfl ⟨Nat.le_of_ble_eq_true rfl, Nat.le_of_ble_eq_true rfl⟩ ⟨(Nat.le_of_ble_eq_true rfl), (Nat.le_of_ble_eq_true rfl)⟩ (Nat.le_of_ble_eq_true rfl) (fun _ h => by cases h) (fun _ => rfl) (fun r_7 D_9 d_10 q_8 => ?_)
    obtain ⟨q_8a, q_8b, h⟩ := q_8
    subst D_9
    subst d_10
    show AW p l e _ s m args below meth c E M_G_sorts true _ n _ _ _ [(2, v0), (0, v1), (0, v2), (9, 0)] [(0, r_7)] C
    refine AW.if_ne (t := 29) (dc hd_G_sorts 15 rfl) (by decide) (fun c_11 => ?_) (fun c_11 => ?_)
    · have h := h.2 c_11
      refine AW.ra_n (dc hd_G_sorts 17 rfl) rfl rfl rfl ?_
      refine AW.getp fl_10_40 (dc hd_G_sorts 18 rfl) g_5 rfl ?_
      refine AW.iload_n (dc hd_G_sorts 19 rfl) rfl ?_
      obtain ⟨g_12, h⟩ := h
      obtain ⟨g_13, h⟩ := h
      refine AW.iald (dc hd_G_sorts 20 rfl) g_12 g_13 ?_
      refine AW.nm (fun v3_14 ev3_14 => ?_)
      have h := h v3_14 ev3_14
      refine AW.istore_n [(2, v0), (0, v1), (0, v2), (0, v3_14)] (dc hd_G_sorts 21 rfl) (Nat.le_of_ble_eq_true rfl) rfl rfl ?_
      obtain ⟨f_37, h⟩ := h
      exact aB_G_sorts_36 n v0 v1 v2 kz9 Q hkz9 f_37 (C, v3_14) h
    · have h := h.1 c_11
      refine AW.goto (t := 101) (dc hd_G_sorts 16 rfl) (by decide) ?_
      refine AW.iinc [(2, v0), (0, v1), (0, w32 (v2 + 1)), (9, 0)] (dc hd_G_sorts 67 rfl) rfl (Nat.le_of_ble_eq_true rfl) rfl rfl ?_
      refine AW.goto (t := 9) (dc hd_G_sorts 68 rfl) (by decide) ?_
      exact hkz9 C (w32 (v2 + 1)) h
theorem aB_G_sorts_9 (n : Nat) (v0 v1 : Int) (Q : Int → Cn → Prop) : ∀ (f : Nat) (z : Cn × Int), lp (B_G_sorts_9 n v0 v1 Q) f z → AW p l e R s m args below meth c E M_G_sorts true (fun r C2 n2 => n2 = n ∧ Q r C2) n 0 0 9 [(2, v0), (0, v1), (0, z.2), (9, 0)] [] (z.1) := by
  intro f
  induction f with
  | zero => intro z h; exact False.elim h
  | succ f ih => intro z h; exact bB_G_sorts_9 n v0 v1 Q (lp (B_G_sorts_9 n v0 v1 Q) f) (fun a0 a1 h => ih (a0, a1) h) z.1 z.2 h
def P_G_sorts (n : Nat) (C : Cn) (v0 v1 : Int) (Q : Int → Cn → Prop) : Prop :=
  okO n v0 10 ∧ (okO n (PT v0.toNat 15) 12 ∧ (okI (PT v0.toNat 15) v1 ∧ (∀ C_4 : Cn, C_4 = wr C (PT v0.toNat 15).toNat v1.toNat 0 → (∃ f_38 : Nat, lp (B_G_sorts_9 n v0 v1 Q) f_38 (C_4, 0)))))
theorem m_G_sorts (l : Launch) (E : Ev) (n : Nat) (C : Cn) (v0 v1 : Int) (Q : Int → Cn → Prop) (h : P_G_sorts n C v0 v1 Q) : MA l y_G_sorts M_G_sorts E true C n [(2, v0), (0, v1)] (fun r C2 n2 => n2 = n ∧ Q r C2) := by
  refine MA.of (by decide) rfl rfl 2 rfl (fun p e s m args below meth c => ?_)
  show AW p l e _ s m args below meth c E M_G_sorts true _ n 0 0 0 [(2, v0), (0, v1), (9, 0), (9, 0)] [] C
  unfold P_G_sorts at h
  refine AW.ra_n (dc hd_G_sorts 0 rfl) rfl rfl rfl ?_
  obtain ⟨g_1, h⟩ := h
  refine AW.getp fl_10_40 (dc hd_G_sorts 1 rfl) g_1 rfl ?_
  refine AW.iload_n (dc hd_G_sorts 2 rfl) rfl ?_
  refine AW.iconst (dc hd_G_sorts 3 rfl) (by decide) ?_
  obtain ⟨g_2, h⟩ := h
  obtain ⟨g_3, h⟩ := h
  refine AW.niast (dc hd_G_sorts 4 rfl) g_2 g_3 (fun C_4 eC_4 => ?_)
  have h := h C_4 eC_4
  refine AW.iconst (dc hd_G_sorts 5 rfl) (by decide) ?_
  refine AW.istore_n [(2, v0), (0, v1), (0, 0), (9, 0)] (dc hd_G_sorts 6 rfl) (Nat.le_of_ble_eq_true rfl) rfl rfl ?_
  obtain ⟨f_38, h⟩ := h
  exact aB_G_sorts_9 n v0 v1 Q f_38 (C_4, 0) h
def P_G_floorAt (n : Nat) (C : Cn) (v0 v1 v2 : Int) (Q : Int → Prop) : Prop :=
  (v2 = 0 → (Q (-1))) ∧ (¬ v2 = 0 → (okO n v0 10 ∧ (okO n (PT v0.toNat 16) 17 ∧ (okI (PT v0.toNat 16) v1 ∧ (okO n (PT (PT v0.toNat 16).toNat v1.toNat) 12 ∧ (okI (PT (PT v0.toNat 16).toNat v1.toNat) (w32 (v2 - 1)) ∧ (Q (C (PT (PT v0.toNat 16).toNat v1.toNat).toNat (w32 (v2 - 1)).toNat))))))))
theorem m_G_floorAt (l : Launch) (E : Ev) (n : Nat) (C : Cn) (v0 v1 v2 : Int) (Q : Int → Prop) (h : P_G_floorAt n C v0 v1 v2 Q) : MA l y_G_floorAt M_G_floorAt E true C n [(2, v0), (0, v1), (0, v2)] (fun r C2 n2 => C2 = C ∧ n2 = n ∧ Q r) := by
  refine MA.of (by decide) rfl rfl 0 rfl (fun p e s m args below meth c => ?_)
  show AW p l e _ s m args below meth c E M_G_floorAt true _ n 0 0 0 [(2, v0), (0, v1), (0, v2)] [] C
  unfold P_G_floorAt at h
  refine AW.iload_n (dc hd_G_floorAt 0 rfl) rfl ?_
  refine AW.if_ne (t := 8) (dc hd_G_floorAt 1 rfl) (by decide) (fun c_1 => ?_) (fun c_1 => ?_)
  · have h := h.2 c_1
    refine AW.ra_n (dc hd_G_floorAt 4 rfl) rfl rfl rfl ?_
    obtain ⟨g_2, h⟩ := h
    refine AW.getp fl_10_43 (dc hd_G_floorAt 5 rfl) g_2 rfl ?_
    refine AW.iload_n (dc hd_G_floorAt 6 rfl) rfl ?_
    obtain ⟨g_3, h⟩ := h
    obtain ⟨g_4, h⟩ := h
    refine AW.aaldp (by decide) (dc hd_G_floorAt 7 rfl) g_3 g_4 rfl ?_
    refine AW.iload_n (dc hd_G_floorAt 8 rfl) rfl ?_
    refine AW.iconst (dc hd_G_floorAt 9 rfl) (by decide) ?_
    refine AW.isub (dc hd_G_floorAt 10 rfl) ?_
    obtain ⟨g_5, h⟩ := h
    obtain ⟨g_6, h⟩ := h
    refine AW.iald (dc hd_G_floorAt 11 rfl) g_5 g_6 ?_
    exact AW.iret (dc hd_G_floorAt 12 rfl) rfl rfl (Nat.le_of_ble_eq_true rfl) (Nat.le_of_ble_eq_true rfl) ⟨rfl, rfl, h⟩
  · have h := h.1 c_1
    refine AW.iconst (dc hd_G_floorAt 2 rfl) (by decide) ?_
    refine AW.goto (t := 18) (dc hd_G_floorAt 3 rfl) (by decide) ?_
    exact AW.iret (dc hd_G_floorAt 12 rfl) rfl rfl (Nat.le_of_ble_eq_true rfl) (Nat.le_of_ble_eq_true rfl) ⟨rfl, rfl, h⟩
def P_G_roofAt (n : Nat) (C : Cn) (v0 v1 v2 : Int) (Q : Int → Prop) : Prop :=
  okO n v0 10 ∧ (okO n (PT v0.toNat 15) 12 ∧ (okI (PT v0.toNat 15) v1 ∧ ((v2 = C (PT v0.toNat 15).toNat v1.toNat → (Q (-1))) ∧ (¬ v2 = C (PT v0.toNat 15).toNat v1.toNat → (okO n (PT v0.toNat 16) 17 ∧ (okI (PT v0.toNat 16) v1 ∧ (okO n (PT (PT v0.toNat 16).toNat v1.toNat) 12 ∧ (okI (PT (PT v0.toNat 16).toNat v1.toNat) v2 ∧ (Q (C (PT (PT v0.toNat 16).toNat v1.toNat).toNat v2.toNat))))))))))
theorem m_G_roofAt (l : Launch) (E : Ev) (n : Nat) (C : Cn) (v0 v1 v2 : Int) (Q : Int → Prop) (h : P_G_roofAt n C v0 v1 v2 Q) : MA l y_G_roofAt M_G_roofAt E true C n [(2, v0), (0, v1), (0, v2)] (fun r C2 n2 => C2 = C ∧ n2 = n ∧ Q r) := by
  refine MA.of (by decide) rfl rfl 0 rfl (fun p e s m args below meth c => ?_)
  show AW p l e _ s m args below meth c E M_G_roofAt true _ n 0 0 0 [(2, v0), (0, v1), (0, v2)] [] C
  unfold P_G_roofAt at h
  refine AW.iload_n (dc hd_G_roofAt 0 rfl) rfl ?_
  refine AW.ra_n (dc hd_G_roofAt 1 rfl) rfl rfl rfl ?_
  obtain ⟨g_1, h⟩ := h
  refine AW.getp fl_10_40 (dc hd_G_roofAt 2 rfl) g_1 rfl ?_
  refine AW.iload_n (dc hd_G_roofAt 3 rfl) rfl ?_
  obtain ⟨g_2, h⟩ := h
  obtain ⟨g_3, h⟩ := h
  refine AW.iald (dc hd_G_roofAt 4 rfl) g_2 g_3 ?_
  refine AW.icmp_ne (t := 14) (dc hd_G_roofAt 5 rfl) (by decide) (fun c_4 => ?_) (fun c_4 => ?_)
  · have h := h.2 c_4
    refine AW.ra_n (dc hd_G_roofAt 8 rfl) rfl rfl rfl ?_
    refine AW.getp fl_10_43 (dc hd_G_roofAt 9 rfl) g_1 rfl ?_
    refine AW.iload_n (dc hd_G_roofAt 10 rfl) rfl ?_
    obtain ⟨g_5, h⟩ := h
    obtain ⟨g_6, h⟩ := h
    refine AW.aaldp (by decide) (dc hd_G_roofAt 11 rfl) g_5 g_6 rfl ?_
    refine AW.iload_n (dc hd_G_roofAt 12 rfl) rfl ?_
    obtain ⟨g_7, h⟩ := h
    obtain ⟨g_8, h⟩ := h
    refine AW.iald (dc hd_G_roofAt 13 rfl) g_7 g_8 ?_
    exact AW.iret (dc hd_G_roofAt 14 rfl) rfl rfl (Nat.le_of_ble_eq_true rfl) (Nat.le_of_ble_eq_true rfl) ⟨rfl, rfl, h⟩
  · have h := h.1 c_4
    refine AW.iconst (dc hd_G_roofAt 6 rfl) (by decide) ?_
    refine AW.goto (t := 22) (dc hd_G_roofAt 7 rfl) (by decide) ?_
    exact AW.iret (dc hd_G_roofAt 14 rfl) rfl rfl (Nat.le_of_ble_eq_true rfl) (Nat.le_of_ble_eq_true rfl) ⟨rfl, rfl, h⟩
def B_G_cellWith_3 (n : Nat) (C : Cn) (v0 v1 v2 v3 : Int) (Q : Int → Prop) (kz3 : Int → Prop) (v4 : Int) : Prop :=
  okO n v0 10 ∧ (okO n (PT v0.toNat 15) 12 ∧ (okI (PT v0.toNat 15) v1 ∧ ((C (PT v0.toNat 15).toNat v1.toNat < v4 → (Q (-1))) ∧ (¬ C (PT v0.toNat 15).toNat v1.toNat < v4 → (P_G_floorAt n C v0 v1 v4 (fun (r_5 : Int) => (r_5 = v2 → (P_G_roofAt n C v0 v1 v4 (fun (r_10 : Int) => (r_10 = v3 → (Q v4)) ∧ (¬ r_10 = v3 → (kz3 (w32 (v4 + 1))))))) ∧ (¬ r_5 = v2 → (kz3 (w32 (v4 + 1))))))))))
theorem bB_G_cellWith_3 (n : Nat) (C : Cn) (v0 v1 v2 v3 : Int) (Q : Int → Prop) (kz3 : Int → Prop) (hkz3 : ∀ (z4 : Int), kz3 z4 → AW p l e R s m args below meth c E M_G_cellWith true (fun r C2 n2 => C2 = C ∧ n2 = n ∧ Q r) n 0 0 3 [(2, v0), (0, v1), (0, v2), (0, v3), (0, z4)] [] C) (v4 : Int) (h : B_G_cellWith_3 n C v0 v1 v2 v3 Q kz3 v4) : AW p l e R s m args below meth c E M_G_cellWith true (fun r C2 n2 => C2 = C ∧ n2 = n ∧ Q r) n 0 0 3 [(2, v0), (0, v1), (0, v2), (0, v3), (0, v4)] [] C := by
  unfold B_G_cellWith_3 at h
  refine AW.iload (dc hd_G_cellWith 2 rfl) rfl ?_
  refine AW.ra_n (dc hd_G_cellWith 3 rfl) rfl rfl rfl ?_
  obtain ⟨g_1, h⟩ := h
  refine AW.getp fl_10_40 (dc hd_G_cellWith 4 rfl) g_1 rfl ?_
  refine AW.iload_n (dc hd_G_cellWith 5 rfl) rfl ?_
  obtain ⟨g_2, h⟩ := h
  obtain ⟨g_3, h⟩ := h
  refine AW.iald (dc hd_G_cellWith 6 rfl) g_2 g_3 ?_
  refine AW.icmp_gt (t := 45) (dc hd_G_cellWith 7 rfl) (by decide) (fun c_4 => ?_) (fun c_4 => ?_)
  · have h := h.1 c_4
    refine AW.iconst (dc hd_G_cellWith 24 rfl) (by decide) ?_
    exact AW.iret (dc hd_G_cellWith 25 rfl) rfl rfl (Nat.le_of_ble_eq_true rfl) (Nat.le_of_ble_eq_true rfl) ⟨rfl, rfl, h⟩
  · have h := h.2 c_4
    refine AW.ra_n (dc hd_G_cellWith 8 rfl) rfl rfl rfl ?_
    refine AW.iload_n (dc hd_G_cellWith 9 rfl) rfl ?_
    refine AW.iload (dc hd_G_cellWith 10 rfl) rfl ?_
    refine AW.callV (As := [(0, v1), (0, v4)]) (rest := []) (ci := 10) (m_G_floorAt l E n C v0 v1 v4 _ h) cb_10_233 im_G_floorAt se_G_floorAt ⟨_, _, rfl⟩ (by decide) (dc hd_G_cellWith 11 rfl) g_1 rfl rfl ⟨Nat.le_of_ble_eq_true rfl, Nat.le_of_ble_eq_true rfl⟩ ⟨(Nat.le_of_ble_eq_true rfl), (Nat.le_of_ble_eq_true rfl)⟩ (Nat.le_of_ble_eq_true rfl) (fun _ h => by cases h) (fun _ => rfl) (fun r_5 D_7 d_8 q_6 => ?_)
    obtain ⟨q_6a, q_6b, h⟩ := q_6
    subst D_7
    subst d_8
    show AW p l e _ s m args below meth c E M_G_cellWith true _ n _ _ _ [(2, v0), (0, v1), (0, v2), (0, v3), (0, v4)] [(0, r_5)] C
    refine AW.iload_n (dc hd_G_cellWith 12 rfl) rfl ?_
    refine AW.icmp_ne (t := 39) (dc hd_G_cellWith 13 rfl) (by decide) (fun c_9 => ?_) (fun c_9 => ?_)
    · have h := h.2 c_9
      refine AW.iinc [(2, v0), (0, v1), (0, v2), (0, v3), (0, w32 (v4 + 1))] (dc hd_G_cellWith 22 rfl) rfl (Nat.le_of_ble_eq_true rfl) rfl rfl ?_
      refine AW.goto (t := 3) (dc hd_G_cellWith 23 rfl) (by decide) ?_
      exact hkz3 (w32 (v4 + 1)) h
    · have h := h.1 c_9
      refine AW.ra_n (dc hd_G_cellWith 14 rfl) rfl rfl rfl ?_
      refine AW.iload_n (dc hd_G_cellWith 15 rfl) rfl ?_
      refine AW.iload (dc hd_G_cellWith 16 rfl) rfl ?_
      refine AW.callV (As := [(0, v1), (0, v4)]) (rest := []) (ci := 10) (m_G_roofAt l E n C v0 v1 v4 _ h) cb_10_236 im_G_roofAt se_G_roofAt ⟨_, _, rfl⟩ (by decide) (dc hd_G_cellWith 17 rfl) g_1 rfl rfl ⟨Nat.le_of_ble_eq_true rfl, Nat.le_of_ble_eq_true rfl⟩ ⟨(Nat.le_of_ble_eq_true rfl), (Nat.le_of_ble_eq_true rfl)⟩ (Nat.le_of_ble_eq_true rfl) (fun _ h => by cases h) (fun _ => rfl) (fun r_10 D_12 d_13 q_11 => ?_)
      obtain ⟨q_11a, q_11b, h⟩ := q_11
      subst D_12
      subst d_13
      show AW p l e _ s m args below meth c E M_G_cellWith true _ n _ _ _ [(2, v0), (0, v1), (0, v2), (0, v3), (0, v4)] [(0, r_10)] C
      refine AW.iload_n (dc hd_G_cellWith 18 rfl) rfl ?_
      refine AW.icmp_ne (t := 39) (dc hd_G_cellWith 19 rfl) (by decide) (fun c_14 => ?_) (fun c_14 => ?_)
      · have h := h.2 c_14
        refine AW.iinc [(2, v0), (0, v1), (0, v2), (0, v3), (0, w32 (v4 + 1))] (dc hd_G_cellWith 22 rfl) rfl (Nat.le_of_ble_eq_true rfl) rfl rfl ?_
        refine AW.goto (t := 3) (dc hd_G_cellWith 23 rfl) (by decide) ?_
        exact hkz3 (w32 (v4 + 1)) h
      · have h := h.1 c_14
        refine AW.iload (dc hd_G_cellWith 20 rfl) rfl ?_
        exact AW.iret (dc hd_G_cellWith 21 rfl) rfl rfl (Nat.le_of_ble_eq_true rfl) (Nat.le_of_ble_eq_true rfl) ⟨rfl, rfl, h⟩
theorem aB_G_cellWith_3 (n : Nat) (C : Cn) (v0 v1 v2 v3 : Int) (Q : Int → Prop) : ∀ (f : Nat) (z : Int), lp (B_G_cellWith_3 n C v0 v1 v2 v3 Q) f z → AW p l e R s m args below meth c E M_G_cellWith true (fun r C2 n2 => C2 = C ∧ n2 = n ∧ Q r) n 0 0 3 [(2, v0), (0, v1), (0, v2), (0, v3), (0, z)] [] C := by
  intro f
  induction f with
  | zero => intro z h; exact False.elim h
  | succ f ih => intro z h; exact bB_G_cellWith_3 n C v0 v1 v2 v3 Q (lp (B_G_cellWith_3 n C v0 v1 v2 v3 Q) f) (fun a0 h => ih a0 h) z h
def P_G_cellWith (n : Nat) (C : Cn) (v0 v1 v2 v3 : Int) (Q : Int → Prop) : Prop :=
  ∃ f_15 : Nat, lp (B_G_cellWith_3 n C v0 v1 v2 v3 Q) f_15 0
theorem m_G_cellWith (l : Launch) (E : Ev) (n : Nat) (C : Cn) (v0 v1 v2 v3 : Int) (Q : Int → Prop) (h : P_G_cellWith n C v0 v1 v2 v3 Q) : MA l y_G_cellWith M_G_cellWith E true C n [(2, v0), (0, v1), (0, v2), (0, v3)] (fun r C2 n2 => C2 = C ∧ n2 = n ∧ Q r) := by
  refine MA.of (by decide) rfl rfl 1 rfl (fun p e s m args below meth c => ?_)
  show AW p l e _ s m args below meth c E M_G_cellWith true _ n 0 0 0 [(2, v0), (0, v1), (0, v2), (0, v3), (9, 0)] [] C
  unfold P_G_cellWith at h
  refine AW.iconst (dc hd_G_cellWith 0 rfl) (by decide) ?_
  refine AW.istore [(2, v0), (0, v1), (0, v2), (0, v3), (0, 0)] (dc hd_G_cellWith 1 rfl) (Nat.le_of_ble_eq_true rfl) rfl rfl ?_
  obtain ⟨f_15, h⟩ := h
  exact aB_G_cellWith_3 n C v0 v1 v2 v3 Q f_15 0 h
end
