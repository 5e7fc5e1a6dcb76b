section
variable {p : Program} {l : Launch} {e : Env} {R : Room} {s : State} {m : MethodId} {args : Array Value} {below : List Frame} {meth : Method} {c : Code} {E : Ev}
def J_G_fields_61 (n : Nat) (C : Cn) (v0 v1 v2 v3 s0 : Int) (kz2 : Cn × Int → Prop) (Q : Int → Cn → Prop) : Prop :=
  okO n v0 10 ∧ (okO n (PT v0.toNat 17) 17 ∧ (okI (PT v0.toNat 17) v1 ∧ (okO n (PT (PT v0.toNat 17).toNat v1.toNat) 12 ∧ (okI (PT (PT v0.toNat 17).toNat v1.toNat) v2 ∧ (∀ C_29 : Cn, C_29 = wr C (PT (PT v0.toNat 17).toNat v1.toNat).toNat v2.toNat s0 → (okO n (PT v0.toNat 22) 12 ∧ (okI (PT v0.toNat 22) s0 ∧ (∀ C_32 : Cn, C_32 = wr C_29 (PT v0.toNat 22).toNat s0.toNat v1 → ((v3 < 0 → (P_G_floorAt n C_32 v0 v1 v2 (fun (r_34 : Int) => okO n (PT v0.toNat 19) 12 ∧ (okI (PT v0.toNat 19) s0 ∧ (∀ C_40 : Cn, C_40 = wr C_32 (PT v0.toNat 19).toNat s0.toNat r_34 → (P_G_roofAt n C_40 v0 v1 v2 (fun (r_41 : Int) => okO n (PT v0.toNat 20) 12 ∧ (okI (PT v0.toNat 20) s0 ∧ (∀ C_47 : Cn, C_47 = wr C_40 (PT v0.toNat 20).toNat s0.toNat r_41 → (okO n (PT v0.toNat 21) 12 ∧ (okI (PT v0.toNat 21) s0 ∧ (∀ C_50 : Cn, C_50 = wr C_47 (PT v0.toNat 21).toNat s0.toNat v1 → (∀ C_51 : Cn, C_51 = wr C_50 v0.toNat 18 (w32 (C_50 v0.toNat 18 + 1)) → (kz2 (C_51, w32 (v2 + 1)))))))))))))))) ∧ (¬ v3 < 0 → (kz2 (C_32, w32 (v2 + 1)))))))))))))
theorem aJ_G_fields_61 (n : Nat) (C : Cn) (v0 v1 v2 v3 s0 : Int) (kz2 : Cn × Int → Prop) (Q : Int → Cn → Prop) (hkz2 : ∀ (Cz : Cn) (z2 : Int), kz2 (Cz, z2) → AW p l e R s m args below meth c E M_G_fields true (fun r C2 n2 => n2 = n ∧ Q r C2) n 0 0 2 [(2, v0), (0, v1), (0, z2), (9, 0), (9, 0)] [] Cz) (h : J_G_fields_61 n C v0 v1 v2 v3 s0 kz2 Q) : AW p l e R s m args below meth c E M_G_fields true (fun r C2 n2 => n2 = n ∧ Q r C2) n 0 0 61 [(2, v0), (0, v1), (0, v2), (0, v3), (9, 0)] [(0, s0)] C := by
  unfold J_G_fields_61 at h
  refine AW.istore [(2, v0), (0, v1), (0, v2), (0, v3), (0, s0)] (dc hd_G_fields 39 rfl) (Nat.le_of_ble_eq_true rfl) rfl rfl ?_
  refine AW.ra_n (dc hd_G_fields 40 rfl) rfl rfl rfl ?_
  obtain ⟨g_24, h⟩ := h
  refine AW.getp fl_10_46 (dc hd_G_fields 41 rfl) g_24 rfl ?_
  refine AW.iload_n (dc hd_G_fields 42 rfl) rfl ?_
  obtain ⟨g_25, h⟩ := h
  obtain ⟨g_26, h⟩ := h
  refine AW.aaldp (by decide) (dc hd_G_fields 43 rfl) g_25 g_26 rfl ?_
  refine AW.iload_n (dc hd_G_fields 44 rfl) rfl ?_
  refine AW.iload (dc hd_G_fields 45 rfl) rfl ?_
  obtain ⟨g_27, h⟩ := h
  obtain ⟨g_28, h⟩ := h
  refine AW.niast (dc hd_G_fields 46 rfl) g_27 g_28 (fun C_29 eC_29 => ?_)
  have h := h C_29 eC_29
  refine AW.ra_n (dc hd_G_fields 47 rfl) rfl rfl rfl ?_
  refine AW.getp fl_10_58 (dc hd_G_fields 48 rfl) g_24 rfl ?_
  refine AW.iload (dc hd_G_fields 49 rfl) rfl ?_
  refine AW.iload_n (dc hd_G_fields 50 rfl) rfl ?_
  obtain ⟨g_30, h⟩ := h
  obtain ⟨g_31, h⟩ := h
  refine AW.niast (dc hd_G_fields 51 rfl) g_30 g_31 (fun C_32 eC_32 => ?_)
  have h := h C_32 eC_32
  refine AW.iload_n (dc hd_G_fields 52 rfl) rfl ?_
  refine AW.if_lt (t := 88) (dc hd_G_fields 53 rfl) (by decide) (fun c_33 => ?_) (fun c_33 => ?_)
  · have h := h.1 c_33
    refine AW.ra_n (dc hd_G_fields 55 rfl) rfl rfl rfl ?_
    refine AW.getp fl_10_49 (dc hd_G_fields 56 rfl) g_24 rfl ?_
    refine AW.iload (dc hd_G_fields 57 rfl) rfl ?_
    refine AW.ra_n (dc hd_G_fields 58 rfl) rfl rfl rfl ?_
    refine AW.iload_n (dc hd_G_fields 59 rfl) rfl ?_
    refine AW.iload_n (dc hd_G_fields 60 rfl) rfl ?_
    refine AW.callV (As := [(0, v1), (0, v2)]) (rest := [(0, s0), (2, PT v0.toNat 19)]) (ci := 10) (m_G_floorAt l E n C_32 v0 v1 v2 _ h) cb_10_233 im_G_floorAt se_G_floorAt ⟨_, _, rfl⟩ (by decide) (dc hd_G_fields 61 rfl) g_24 rfl rfl ⟨Nat.le_of_ble_eq_true rfl, Nat.le_of_ble_eq_true rfl⟩ ⟨(Nat.le_of_ble_eq_true rfl), (Nat.le_of_ble_eq_true rfl)⟩ (Nat.le_of_ble_eq_true rfl) (fun _ h => by cases h) (fun _ => rfl) (fun r_34 D_36 d_37 q_35 => ?_)
    obtain ⟨q_35a, q_35b, h⟩ := q_35
    subst D_36
    subst d_37
    show AW p l e _ s m args below meth c E M_G_fields true _ n _ _ _ [(2, v0), (0, v1), (0, v2), (0, v3), (0, s0)] [(0, r_34), (0, s0), (2, PT v0.toNat 19)] C_32
    obtain ⟨g_38, h⟩ := h
    obtain ⟨g_39, h⟩ := h
    refine AW.niast (dc hd_G_fields 62 rfl) g_38 g_39 (fun C_40 eC_40 => ?_)
    have h := h C_40 eC_40
    refine AW.ra_n (dc hd_G_fields 63 rfl) rfl rfl rfl ?_
    refine AW.getp fl_10_52 (dc hd_G_fields 64 rfl) g_24 rfl ?_
    refine AW.iload (dc hd_G_fields 65 rfl) rfl ?_
    refine AW.ra_n (dc hd_G_fields 66 rfl) rfl rfl rfl ?_
    refine AW.iload_n (dc hd_G_fields 67 rfl) rfl ?_
    refine AW.iload_n (dc hd_G_fields 68 rfl) rfl ?_
    refine AW.callV (As := [(0, v1), (0, v2)]) (rest := [(0, s0), (2, PT v0.toNat 20)]) (ci := 10) (m_G_roofAt l E n C_40 v0 v1 v2 _ h) cb_10_236 im_G_roofAt se_G_roofAt ⟨_, _, rfl⟩ (by decide) (dc hd_G_fields 69 rfl) g_24 rfl rfl ⟨Nat.le_of_ble_eq_true rfl, Nat.le_of_ble_eq_true rfl⟩ ⟨(Nat.le_of_ble_eq_true rfl), (Nat.le_of_ble_eq_true rfl)⟩ (Nat.le_of_ble_eq_true rfl) (fun _ h => by cases h) (fun _ => rfl) (fun r_41 D_43 d_44 q_42 => ?_)
    obtain ⟨q_42a, q_42b, h⟩ := q_42
    subst D_43
    subst d_44
    show AW p l e _ s m args below meth c E M_G_fields true _ n _ _ _ [(2, v0), (0, v1), (0, v2), (0, v3), (0, s0)] [(0, r_41), (0, s0), (2, PT v0.toNat 20)] C_40
    obtain ⟨g_45, h⟩ := h
    obtain ⟨g_46, h⟩ := h
    refine AW.niast (dc hd_G_fields 70 rfl) g_45 g_46 (fun C_47 eC_47 => ?_)
    have h := h C_47 eC_47
    refine AW.ra_n (dc hd_G_fields 71 rfl) rfl rfl rfl ?_
    refine AW.getp fl_10_55 (dc hd_G_fields 72 rfl) g_24 rfl ?_
    refine AW.iload (dc hd_G_fields 73 rfl) rfl ?_
    refine AW.iload_n (dc hd_G_fields 74 rfl) rfl ?_
    obtain ⟨g_48, h⟩ := h
    obtain ⟨g_49, h⟩ := h
    refine AW.niast (dc hd_G_fields 75 rfl) g_48 g_49 (fun C_50 eC_50 => ?_)
    have h := h C_50 eC_50
    refine AW.ra_n (dc hd_G_fields 76 rfl) rfl rfl rfl ?_
    refine AW.rdup (dc hd_G_fields 77 rfl) rfl ?_
    refine AW.getf fl_10_214 (dc hd_G_fields 78 rfl) g_24 ?_
    refine AW.iconst (dc hd_G_fields 79 rfl) (by decide) ?_
    refine AW.iadd (dc hd_G_fields 80 rfl) ?_
    refine AW.nputI fl_10_214 (dc hd_G_fields 81 rfl) g_24 (fun C_51 eC_51 => ?_)
    have h := h C_51 eC_51
    refine AW.iinc [(2, v0), (0, v1), (0, w32 (v2 + 1)), (0, v3), (0, s0)] (dc hd_G_fields 82 rfl) rfl (Nat.le_of_ble_eq_true rfl) rfl rfl ?_
    refine AW.goto (t := 2) (dc hd_G_fields 83 rfl) (by decide) ?_
    refine AW.fgt [(2, v0), (0, v1), (0, w32 (v2 + 1)), (9, 0), (9, 0)] ⟨.inl rfl, .inl rfl, .inl rfl, .inr rfl, .inr rfl, trivial⟩ ?_
    exact hkz2 C_51 (w32 (v2 + 1)) h
  · have h := h.2 c_33
    refine AW.goto (t := 132) (dc hd_G_fields 54 rfl) (by decide) ?_
    refine AW.iinc [(2, v0), (0, v1), (0, w32 (v2 + 1)), (0, v3), (0, s0)] (dc hd_G_fields 82 rfl) rfl (Nat.le_of_ble_eq_true rfl) rfl rfl ?_
    refine AW.goto (t := 2) (dc hd_G_fields 83 rfl) (by decide) ?_
    refine AW.fgt [(2, v0), (0, v1), (0, w32 (v2 + 1)), (9, 0), (9, 0)] ⟨.inl rfl, .inl rfl, .inl rfl, .inr rfl, .inr rfl, trivial⟩ ?_
    exact hkz2 C_32 (w32 (v2 + 1)) h
def J_G_fields_39 (n : Nat) (C : Cn) (v0 v1 v2 s0 : Int) (kz2 : Cn × Int → Prop) (Q : Int → Cn → Prop) : Prop :=
  (0 ≤ s0 → (okO n v0 10 ∧ (okO n (PT v0.toNat 17) 17 ∧ (okI (PT v0.toNat 17) (w32 (v1 - 1)) ∧ (okO n (PT (PT v0.toNat 17).toNat (w32 (v1 - 1)).toNat) 12 ∧ (okI (PT (PT v0.toNat 17).toNat (w32 (v1 - 1)).toNat) s0 ∧ (J_G_fields_61 n C v0 v1 v2 s0 (C (PT (PT v0.toNat 17).toNat (w32 (v1 - 1)).toNat).toNat s0.toNat) kz2 Q))))))) ∧ (¬ 0 ≤ s0 → (okO n v0 10 ∧ (J_G_fields_61 n C v0 v1 v2 s0 (C v0.toNat 18) kz2 Q)))
theorem aJ_G_fields_39 (n : Nat) (C : Cn) (v0 v1 v2 s0 : Int) (kz2 : Cn × Int → Prop) (Q : Int → Cn → Prop) (hkz2 : ∀ (Cz : Cn) (z2 : Int), kz2 (Cz, z2) → AW p l e R s m args below meth c E M_G_fields true (fun r C2 n2 => n2 = n ∧ Q r C2) n 0 0 2 [(2, v0), (0, v1), (0, z2), (9, 0), (9, 0)] [] Cz) (h : J_G_fields_39 n C v0 v1 v2 s0 kz2 Q) : AW p l e R s m args below meth c E M_G_fields true (fun r C2 n2 => n2 = n ∧ Q r C2) n 0 0 39 [(2, v0), (0, v1), (0, v2), (9, 0), (9, 0)] [(0, s0)] C := by
  unfold J_G_fields_39 at h
  refine AW.istore_n [(2, v0), (0, v1), (0, v2), (0, s0), (9, 0)] (dc hd_G_fields 25 rfl) (Nat.le_of_ble_eq_true rfl) rfl rfl ?_
  refine AW.iload_n (dc hd_G_fields 26 rfl) rfl ?_
  refine AW.if_ge (t := 51) (dc hd_G_fields 27 rfl) (by decide) (fun c_18 => ?_) (fun c_18 => ?_)
  · have h := h.1 c_18
    refine AW.ra_n (dc hd_G_fields 31 rfl) rfl rfl rfl ?_
    obtain ⟨g_19, h⟩ := h
    refine AW.getp fl_10_46 (dc hd_G_fields 32 rfl) g_19 rfl ?_
    refine AW.iload_n (dc hd_G_fields 33 rfl) rfl ?_
    refine AW.iconst (dc hd_G_fields 34 rfl) (by decide) ?_
    refine AW.isub (dc hd_G_fields 35 rfl) ?_
    obtain ⟨g_20, h⟩ := h
    obtain ⟨g_21, h⟩ := h
    refine AW.aaldp (by decide) (dc hd_G_fields 36 rfl) g_20 g_21 rfl ?_
    refine AW.iload_n (dc hd_G_fields 37 rfl) rfl ?_
    obtain ⟨g_22, h⟩ := h
    obtain ⟨g_23, h⟩ := h
    refine AW.iald (dc hd_G_fields 38 rfl) g_22 g_23 ?_
    exact aJ_G_fields_61 n C v0 v1 v2 s0 (C (PT (PT v0.toNat 17).toNat (w32 (v1 - 1)).toNat).toNat s0.toNat) kz2 Q hkz2 h
  · have h := h.2 c_18
    refine AW.ra_n (dc hd_G_fields 28 rfl) rfl rfl rfl ?_
    obtain ⟨g_52, h⟩ := h
    refine AW.getf fl_10_214 (dc hd_G_fields 29 rfl) g_52 ?_
    refine AW.goto (t := 61) (dc hd_G_fields 30 rfl) (by decide) ?_
    exact aJ_G_fields_61 n C v0 v1 v2 s0 (C v0.toNat 18) kz2 Q hkz2 h
def B_G_fields_2 (n : Nat) (v0 v1 : Int) (Q : Int → Cn → Prop) (kz2 : Cn × Int → Prop) (z : Cn × Int) : Prop := match z with
  | (C, v2) => okO n v0 10 ∧ (okO n (PT v0.toNat 15) 12 ∧ (okI (PT v0.toNat 15) v1 ∧ ((C (PT v0.toNat 15).toNat v1.toNat < v2 → (Q 0 C)) ∧ (¬ C (PT v0.toNat 15).toNat v1.toNat < v2 → ((v1 = 0 → (J_G_fields_39 n C v0 v1 v2 (-1) kz2 Q)) ∧ (¬ v1 = 0 → (P_G_floorAt n C v0 v1 v2 (fun (r_6 : Int) => P_G_roofAt n C v0 v1 v2 (fun (r_10 : Int) => P_G_cellWith n C v0 (w32 (v1 - 1)) r_6 r_10 (fun (r_14 : Int) => J_G_fields_39 n C v0 v1 v2 r_14 kz2 Q))))))))))
theorem bB_G_fields_2 (n : Nat) (v0 v1 : Int) (Q : Int → Cn → Prop) (kz2 : Cn × Int → Prop) (hkz2 : ∀ (Cz : Cn) (z2 : Int), kz2 (Cz, z2) → AW p l e R s m args below meth c E M_G_fields true (fun r C2 n2 => n2 = n ∧ Q r C2) n 0 0 2 [(2, v0), (0, v1), (0, z2), (9, 0), (9, 0)] [] Cz) (C : Cn) (v2 : Int) (h : B_G_fields_2 n v0 v1 Q kz2 (C, v2)) : AW p l e R s m args below meth c E M_G_fields true (fun r C2 n2 => n2 = n ∧ Q r C2) n 0 0 2 [(2, v0), (0, v1), (0, v2), (9, 0), (9, 0)] [] C := by
  unfold B_G_fields_2 at h
  dsimp only at h
  refine AW.iload_n (dc hd_G_fields 2 rfl) rfl ?_
  refine AW.ra_n (dc hd_G_fields 3 rfl) rfl rfl rfl ?_
  obtain ⟨g_1, h⟩ := h
  refine AW.getp fl_10_40 (dc hd_G_fields 4 rfl) g_1 rfl ?_
  refine AW.iload_n (dc hd_G_fields 5 rfl) rfl ?_
  obtain ⟨g_2, h⟩ := h
  obtain ⟨g_3, h⟩ := h
  refine AW.iald (dc hd_G_fields 6 rfl) g_2 g_3 ?_
  refine AW.icmp_gt (t := 138) (dc hd_G_fields 7 rfl) (by decide) (fun c_4 => ?_) (fun c_4 => ?_)
  · have h := h.1 c_4
    exact AW.vret (dc hd_G_fields 84 rfl) rfl rfl (Nat.le_of_ble_eq_true rfl) (Nat.le_of_ble_eq_true rfl) ⟨rfl, h⟩
  · have h := h.2 c_4
    refine AW.iload_n (dc hd_G_fields 8 rfl) rfl ?_
    refine AW.if_ne (t := 20) (dc hd_G_fields 9 rfl) (by decide) (fun c_5 => ?_) (fun c_5 => ?_)
    · have h := h.2 c_5
      refine AW.ra_n (dc hd_G_fields 12 rfl) rfl rfl rfl ?_
      refine AW.iload_n (dc hd_G_fields 13 rfl) rfl ?_
      refine AW.iconst (dc hd_G_fields 14 rfl) (by decide) ?_
      refine AW.isub (dc hd_G_fields 15 rfl) ?_
      refine AW.ra_n (dc hd_G_fields 16 rfl) rfl rfl rfl ?_
      refine AW.iload_n (dc hd_G_fields 17 rfl) rfl ?_
      refine AW.iload_n (dc hd_G_fields 18 rfl) rfl ?_
      refine AW.callV (As := [(0, v1), (0, v2)]) (rest := [(0, w32 (v1 - 1)), (2, v0)]) (ci := 10) (m_G_floorAt l E n C v0 v1 v2 _ h) cb_10_233 im_G_floorAt se_G_floorAt ⟨_, _, rfl⟩ (by decide) (dc hd_G_fields 19 rfl) g_1 rfl rfl ⟨Nat.le_of_ble_eq_true rfl, Nat.le_of_ble_eq_true rfl⟩ ⟨(Nat.le_of_ble_eq_true rfl), (Nat.le_of_ble_eq_true rfl)⟩ (Nat.le_of_ble_eq_true rfl) (fun _ h => by cases h) (fun _ => rfl) (fun r_6 D_8 d_9 q_7 => ?_)
      obtain ⟨q_7a, q_7b, h⟩ := q_7
      subst D_8
      subst d_9
      show AW p l e _ s m args below meth c E M_G_fields true _ n _ _ _ [(2, v0), (0, v1), (0, v2), (9, 0), (9, 0)] [(0, r_6), (0, w32 (v1 - 1)), (2, v0)] C
      refine AW.ra_n (dc hd_G_fields 20 rfl) rfl rfl rfl ?_
      refine AW.iload_n (dc hd_G_fields 21 rfl) rfl ?_
      refine AW.iload_n (dc hd_G_fields 22 rfl) rfl ?_
      refine AW.callV (As := [(0, v1), (0, v2)]) (rest := [(0, r_6), (0, w32 (v1 - 1)), (2, v0)]) (ci := 10) (m_G_roofAt l E n C v0 v1 v2 _ h) cb_10_236 im_G_roofAt se_G_roofAt ⟨_, _, rfl⟩ (by decide) (dc hd_G_fields 23 rfl) g_1 rfl rfl ⟨Nat.le_of_ble_eq_true rfl, Nat.le_of_ble_eq_true rfl⟩ ⟨(Nat.le_of_ble_eq_true rfl), (Nat.le_of_ble_eq_true rfl)⟩ (Nat.le_of_ble_eq_true rfl) (fun _ h => by cases h) (fun _ => rfl) (fun r_10 D_12 d_13 q_11 => ?_)
      obtain ⟨q_11a, q_11b, h⟩ := q_11
      subst D_12
      subst d_13
      show AW p l e _ s m args below meth c E M_G_fields true _ n _ _ _ [(2, v0), (0, v1), (0, v2), (9, 0), (9, 0)] [(0, r_10), (0, r_6), (0, w32 (v1 - 1)), (2, v0)] C
      refine AW.callV (As := [(0, w32 (v1 - 1)), (0, r_6), (0, r_10)]) (rest := []) (ci := 10) (m_G_cellWith l E n C v0 (w32 (v1 - 1)) r_6 r_10 _ h) cb_10_239 im_G_cellWith se_G_cellWith ⟨_, _, rfl⟩ (by decide) (dc hd_G_fields 24 rfl) g_1 rfl rfl ⟨Nat.le_of_ble_eq_true rfl, Nat.le_of_ble_eq_true rfl⟩ ⟨(Nat.le_of_ble_eq_true rfl), (Nat.le_of_ble_eq_true rfl)⟩ (Nat.le_of_ble_eq_true rfl) (fun _ h => by cases h) (fun _ => rfl) (fun r_14 D_16 d_17 q_15 => ?_)
      obtain ⟨q_15a, q_15b, h⟩ := q_15
      subst D_16
      subst d_17
      show AW p l e _ s m args below meth c E M_G_fields true _ n _ _ _ [(2, v0), (0, v1), (0, v2), (9, 0), (9, 0)] [(0, r_14)] C
      exact aJ_G_fields_39 n C v0 v1 v2 r_14 kz2 Q hkz2 h
    · have h := h.1 c_5
      refine AW.iconst (dc hd_G_fields 10 rfl) (by decide) ?_
      refine AW.goto (t := 39) (dc hd_G_fields 11 rfl) (by decide) ?_
      exact aJ_G_fields_39 n C v0 v1 v2 (-1) kz2 Q hkz2 h
theorem aB_G_fields_2 (n : Nat) (v0 v1 : Int) (Q : Int → Cn → Prop) : ∀ (f : Nat) (z : Cn × Int), lp (B_G_fields_2 n v0 v1 Q) f z → AW p l e R s m args below meth c E M_G_fields true (fun r C2 n2 => n2 = n ∧ Q r C2) n 0 0 2 [(2, v0), (0, v1), (0, z.2), (9, 0), (9, 0)] [] (z.1) := by
  intro f
  induction f with
  | zero => intro z h; exact False.elim h
  | succ f ih => intro z h; exact bB_G_fields_2 n v0 v1 Q (lp (B_G_fields_2 n v0 v1 Q) f) (fun a0 a1 h => ih (a0, a1) h) z.1 z.2 h
def P_G_fields (n : Nat) (C : Cn) (v0 v1 : Int) (Q : Int → Cn → Prop) : Prop :=
  ∃ f_53 : Nat, lp (B_G_fields_2 n v0 v1 Q) f_53 (C, 0)
theorem m_G_fields (l : Launch) (E : Ev) (n : Nat) (C : Cn) (v0 v1 : Int) (Q : Int → Cn → Prop) (h : P_G_fields n C v0 v1 Q) : MA l y_G_fields M_G_fields E true C n [(2, v0), (0, v1)] (fun r C2 n2 => n2 = n ∧ Q r C2) := by
  refine MA.of (by decide) rfl rfl 3 rfl (fun p e s m args below meth c => ?_)
  show AW p l e _ s m args below meth c E M_G_fields true _ n 0 0 0 [(2, v0), (0, v1), (9, 0), (9, 0), (9, 0)] [] C
  unfold P_G_fields at h
  refine AW.iconst (dc hd_G_fields 0 rfl) (by decide) ?_
  refine AW.istore_n [(2, v0), (0, v1), (0, 0), (9, 0), (9, 0)] (dc hd_G_fields 1 rfl) (Nat.le_of_ble_eq_true rfl) rfl rfl ?_
  obtain ⟨f_53, h⟩ := h
  exact aB_G_fields_2 n v0 v1 Q f_53 (C, 0) h
def B_G_maps_136 (n : Nat) (v0 : Int) (Q : Int → Cn → Prop) (kz136 : Cn × Int → Prop) (z : Cn × Int) : Prop := match z with
  | (C, v1) => okO n v0 10 ∧ ((C v0.toNat 10 < v1 → (Q 0 C)) ∧ (¬ C v0.toNat 10 < v1 → (P_G_sorts n C v0 v1 (fun (_ : Int) (C_10 : Cn) => P_G_fields n C_10 v0 v1 (fun (_ : Int) (C_14 : Cn) => kz136 (C_14, w32 (v1 + 1)))))))
theorem bB_G_maps_136 (n : Nat) (v0 : Int) (Q : Int → Cn → Prop) (kz136 : Cn × Int → Prop) (hkz136 : ∀ (Cz : Cn) (z1 : Int), kz136 (Cz, z1) → AW p l e R s m args below meth c E M_G_maps true (fun r C2 n2 => n2 = n ∧ Q r C2) n 0 0 136 [(2, v0), (0, z1)] [] Cz) (C : Cn) (v1 : Int) (h : B_G_maps_136 n v0 Q kz136 (C, v1)) : AW p l e R s m args below meth c E M_G_maps true (fun r C2 n2 => n2 = n ∧ Q r C2) n 0 0 136 [(2, v0), (0, v1)] [] C := by
  unfold B_G_maps_136 at h
  dsimp only at h
  refine AW.iload_n (dc hd_G_maps 88 rfl) rfl ?_
  refine AW.ra_n (dc hd_G_maps 89 rfl) rfl rfl rfl ?_
  obtain ⟨g_8, h⟩ := h
  refine AW.getf fl_10_221 (dc hd_G_maps 90 rfl) g_8 ?_
  refine AW.icmp_gt (t := 160) (dc hd_G_maps 91 rfl) (by decide) (fun c_9 => ?_) (fun c_9 => ?_)
  · have h := h.1 c_9
    exact AW.vret (dc hd_G_maps 100 rfl) rfl rfl (Nat.le_of_ble_eq_true rfl) (Nat.le_of_ble_eq_true rfl) ⟨rfl, h⟩
  · have h := h.2 c_9
    refine AW.ra_n (dc hd_G_maps 92 rfl) rfl rfl rfl ?_
    refine AW.iload_n (dc hd_G_maps 93 rfl) rfl ?_
    refine AW.callV (As := [(0, v1)]) (rest := []) (ci := 10) (m_G_sorts l E n C v0 v1 _ h) cb_10_247 im_G_sorts se_G_sorts ⟨_, _, rfl⟩ (by decide) (dc hd_G_maps 94 rfl) g_8 rfl rfl ⟨Nat.le_of_ble_eq_true rfl, Nat.le_of_ble_eq_true rfl⟩ ⟨(Nat.le_of_ble_eq_true rfl), (Nat.le_of_ble_eq_true rfl)⟩ (Nat.le_of_ble_eq_true rfl) (fun _ h => by cases h) (fun _ => rfl) (fun u_12 C_10 d_13 q_11 => ?_)
    obtain ⟨q_11a, h⟩ := q_11
    subst d_13
    show AW p l e _ s m args below meth c E M_G_maps true _ n _ _ _ [(2, v0), (0, v1)] [] C_10
    refine AW.ra_n (dc hd_G_maps 95 rfl) rfl rfl rfl ?_
    refine AW.iload_n (dc hd_G_maps 96 rfl) rfl ?_
    refine AW.callV (As := [(0, v1)]) (rest := []) (ci := 10) (m_G_fields l E n C_10 v0 v1 _ h) cb_10_251 im_G_fields se_G_fields ⟨_, _, rfl⟩ (by decide) (dc hd_G_maps 97 rfl) g_8 rfl rfl ⟨Nat.le_of_ble_eq_true rfl, Nat.le_of_ble_eq_true rfl⟩ ⟨(Nat.le_of_ble_eq_true rfl), (Nat.le_of_ble_eq_true rfl)⟩ (Nat.le_of_ble_eq_true rfl) (fun _ h => by cases h) (fun _ => rfl) (fun u_16 C_14 d_17 q_15 => ?_)
    obtain ⟨q_15a, h⟩ := q_15
    subst d_17
    show AW p l e _ s m args below meth c E M_G_maps true _ n _ _ _ [(2, v0), (0, v1)] [] C_14
    refine AW.iinc [(2, v0), (0, w32 (v1 + 1))] (dc hd_G_maps 98 rfl) rfl (Nat.le_of_ble_eq_true rfl) rfl rfl ?_
    refine AW.goto (t := 136) (dc hd_G_maps 99 rfl) (by decide) ?_
    exact hkz136 C_14 (w32 (v1 + 1)) h
theorem aB_G_maps_136 (n : Nat) (v0 : Int) (Q : Int → Cn → Prop) : ∀ (f : Nat) (z : Cn × Int), lp (B_G_maps_136 n v0 Q) f z → AW p l e R s m args below meth c E M_G_maps true (fun r C2 n2 => n2 = n ∧ Q r C2) n 0 0 136 [(2, v0), (0, z.2)] [] (z.1) := by
  intro f
  induction f with
  | zero => intro z h; exact False.elim h
  | succ f ih => intro z h; exact bB_G_maps_136 n v0 Q (lp (B_G_maps_136 n v0 Q) f) (fun a0 a1 h => ih (a0, a1) h) z.1 z.2 h
def B_G_maps_63 (n : Nat) (v0 : Int) (Q : Int → Cn → Prop) (kz63 : Cn × Int → Prop) (z : Cn × Int) : Prop := match z with
  | (C, v1) => okO n v0 10 ∧ ((C v0.toNat 0 ≤ v1 → (∀ C_7 : Cn, C_7 = wr C v0.toNat 18 0 → (∃ f_18 : Nat, lp (B_G_maps_136 n v0 Q) f_18 (C_7, 0)))) ∧ (¬ C v0.toNat 0 ≤ v1 → (okO n (PT v0.toNat 1) 17 ∧ (okI (PT v0.toNat 1) v1 ∧ (okO n (PT (PT v0.toNat 1).toNat v1.toNat) 12 ∧ (okI (PT (PT v0.toNat 1).toNat v1.toNat) 2 ∧ (okI (PT (PT v0.toNat 1).toNat v1.toNat) 3 ∧ (P_G_endAt n C v0 (C (PT (PT v0.toNat 1).toNat v1.toNat).toNat 2) (C (PT (PT v0.toNat 1).toNat v1.toNat).toNat 3) (fun (r_24 : Int) => okO n (PT v0.toNat 13) 12 ∧ (okI (PT v0.toNat 13) v1 ∧ (∀ C_30 : Cn, C_30 = wr C (PT v0.toNat 13).toNat v1.toNat r_24 → (okI (PT (PT v0.toNat 1).toNat v1.toNat) 4 ∧ (okI (PT (PT v0.toNat 1).toNat v1.toNat) 5 ∧ (P_G_endAt n C_30 v0 (C_30 (PT (PT v0.toNat 1).toNat v1.toNat).toNat 4) (C_30 (PT (PT v0.toNat 1).toNat v1.toNat).toNat 5) (fun (r_33 : Int) => okO n (PT v0.toNat 14) 12 ∧ (okI (PT v0.toNat 14) v1 ∧ (∀ C_39 : Cn, C_39 = wr C_30 (PT v0.toNat 14).toNat v1.toNat r_33 → (kz63 (C_39, w32 (v1 + 1))))))))))))))))))))
theorem bB_G_maps_63 (n : Nat) (v0 : Int) (Q : Int → Cn → Prop) (kz63 : Cn × Int → Prop) (hkz63 : ∀ (Cz : Cn) (z1 : Int), kz63 (Cz, z1) → AW p l e R s m args below meth c E M_G_maps true (fun r C2 n2 => n2 = n ∧ Q r C2) n 0 0 63 [(2, v0), (0, z1)] [] Cz) (C : Cn) (v1 : Int) (h : B_G_maps_63 n v0 Q kz63 (C, v1)) : AW p l e R s m args below meth c E M_G_maps true (fun r C2 n2 => n2 = n ∧ Q r C2) n 0 0 63 [(2, v0), (0, v1)] [] C := by
  unfold B_G_maps_63 at h
  dsimp only at h
  refine AW.iload_n (dc hd_G_maps 41 rfl) rfl ?_
  refine AW.ra_n (dc hd_G_maps 42 rfl) rfl rfl rfl ?_
  obtain ⟨g_5, h⟩ := h
  refine AW.getf fl_10_117 (dc hd_G_maps 43 rfl) g_5 ?_
  refine AW.icmp_ge (t := 129) (dc hd_G_maps 44 rfl) (by decide) (fun c_6 => ?_) (fun c_6 => ?_)
  · have h := h.1 c_6
    refine AW.ra_n (dc hd_G_maps 83 rfl) rfl rfl rfl ?_
    refine AW.iconst (dc hd_G_maps 84 rfl) (by decide) ?_
    refine AW.nputI fl_10_214 (dc hd_G_maps 85 rfl) g_5 (fun C_7 eC_7 => ?_)
    have h := h C_7 eC_7
    refine AW.iconst (dc hd_G_maps 86 rfl) (by decide) ?_
    refine AW.istore_n [(2, v0), (0, 0)] (dc hd_G_maps 87 rfl) (Nat.le_of_ble_eq_true rfl) rfl rfl ?_
    obtain ⟨f_18, h⟩ := h
    exact aB_G_maps_136 n v0 Q f_18 (C_7, 0) h
  · have h := h.2 c_6
    refine AW.ra_n (dc hd_G_maps 45 rfl) rfl rfl rfl ?_
    refine AW.getp fl_10_34 (dc hd_G_maps 46 rfl) g_5 rfl ?_
    refine AW.iload_n (dc hd_G_maps 47 rfl) rfl ?_
    refine AW.ra_n (dc hd_G_maps 48 rfl) rfl rfl rfl ?_
    refine AW.ra_n (dc hd_G_maps 49 rfl) rfl rfl rfl ?_
    refine AW.getp fl_10_11 (dc hd_G_maps 50 rfl) g_5 rfl ?_
    refine AW.iload_n (dc hd_G_maps 51 rfl) rfl ?_
    obtain ⟨g_19, h⟩ := h
    obtain ⟨g_20, h⟩ := h
    refine AW.aaldp (by decide) (dc hd_G_maps 52 rfl) g_19 g_20 rfl ?_
    refine AW.iconst (dc hd_G_maps 53 rfl) (by decide) ?_
    obtain ⟨g_21, h⟩ := h
    obtain ⟨g_22, h⟩ := h
    refine AW.iald (dc hd_G_maps 54 rfl) g_21 g_22 ?_
    refine AW.ra_n (dc hd_G_maps 55 rfl) rfl rfl rfl ?_
    refine AW.getp fl_10_11 (dc hd_G_maps 56 rfl) g_5 rfl ?_
    refine AW.iload_n (dc hd_G_maps 57 rfl) rfl ?_
    refine AW.aaldp (by decide) (dc hd_G_maps 58 rfl) g_19 g_20 rfl ?_
    refine AW.iconst (dc hd_G_maps 59 rfl) (by decide) ?_
    obtain ⟨g_23, h⟩ := h
    refine AW.iald (dc hd_G_maps 60 rfl) g_21 g_23 ?_
    refine AW.callV (As := [(0, C (PT (PT v0.toNat 1).toNat v1.toNat).toNat 2), (0, C (PT (PT v0.toNat 1).toNat v1.toNat).toNat 3)]) (rest := [(0, v1), (2, PT v0.toNat 13)]) (ci := 10) (m_G_endAt l E n C v0 (C (PT (PT v0.toNat 1).toNat v1.toNat).toNat 2) (C (PT (PT v0.toNat 1).toNat v1.toNat).toNat 3) _ h) cb_10_224 im_G_endAt se_G_endAt ⟨_, _, rfl⟩ (by decide) (dc hd_G_maps 61 rfl) g_5 rfl rfl ⟨Nat.le_of_ble_eq_true rfl, Nat.le_of_ble_eq_true rfl⟩ ⟨(Nat.le_of_ble_eq_true rfl), (Nat.le_of_ble_eq_true rfl)⟩ (Nat.le_of_ble_eq_true rfl) (fun _ h => by cases h) (fun _ => rfl) (fun r_24 D_26 d_27 q_25 => ?_)
    obtain ⟨q_25a, q_25b, h⟩ := q_25
    subst D_26
    subst d_27
    show AW p l e _ s m args below meth c E M_G_maps true _ n _ _ _ [(2, v0), (0, v1)] [(0, r_24), (0, v1), (2, PT v0.toNat 13)] C
    obtain ⟨g_28, h⟩ := h
    obtain ⟨g_29, h⟩ := h
    refine AW.niast (dc hd_G_maps 62 rfl) g_28 g_29 (fun C_30 eC_30 => ?_)
    have h := h C_30 eC_30
    refine AW.ra_n (dc hd_G_maps 63 rfl) rfl rfl rfl ?_
    refine AW.getp fl_10_37 (dc hd_G_maps 64 rfl) g_5 rfl ?_
    refine AW.iload_n (dc hd_G_maps 65 rfl) rfl ?_
    refine AW.ra_n (dc hd_G_maps 66 rfl) rfl rfl rfl ?_
    refine AW.ra_n (dc hd_G_maps 67 rfl) rfl rfl rfl ?_
    refine AW.getp fl_10_11 (dc hd_G_maps 68 rfl) g_5 rfl ?_
    refine AW.iload_n (dc hd_G_maps 69 rfl) rfl ?_
    refine AW.aaldp (by decide) (dc hd_G_maps 70 rfl) g_19 g_20 rfl ?_
    refine AW.iconst (dc hd_G_maps 71 rfl) (by decide) ?_
    obtain ⟨g_31, h⟩ := h
    refine AW.iald (dc hd_G_maps 72 rfl) g_21 g_31 ?_
    refine AW.ra_n (dc hd_G_maps 73 rfl) rfl rfl rfl ?_
    refine AW.getp fl_10_11 (dc hd_G_maps 74 rfl) g_5 rfl ?_
    refine AW.iload_n (dc hd_G_maps 75 rfl) rfl ?_
    refine AW.aaldp (by decide) (dc hd_G_maps 76 rfl) g_19 g_20 rfl ?_
    refine AW.iconst (dc hd_G_maps 77 rfl) (by decide) ?_
    obtain ⟨g_32, h⟩ := h
    refine AW.iald (dc hd_G_maps 78 rfl) g_21 g_32 ?_
    refine AW.callV (As := [(0, C_30 (PT (PT v0.toNat 1).toNat v1.toNat).toNat 4), (0, C_30 (PT (PT v0.toNat 1).toNat v1.toNat).toNat 5)]) (rest := [(0, v1), (2, PT v0.toNat 14)]) (ci := 10) (m_G_endAt l E n C_30 v0 (C_30 (PT (PT v0.toNat 1).toNat v1.toNat).toNat 4) (C_30 (PT (PT v0.toNat 1).toNat v1.toNat).toNat 5) _ h) cb_10_224 im_G_endAt se_G_endAt ⟨_, _, rfl⟩ (by decide) (dc hd_G_maps 79 rfl) g_5 rfl rfl ⟨Nat.le_of_ble_eq_true rfl, Nat.le_of_ble_eq_true rfl⟩ ⟨(Nat.le_of_ble_eq_true rfl), (Nat.le_of_ble_eq_true rfl)⟩ (Nat.le_of_ble_eq_true rfl) (fun _ h => by cases h) (fun _ => rfl) (fun r_33 D_35 d_36 q_34 => ?_)
    obtain ⟨q_34a, q_34b, h⟩ := q_34
    subst D_35
    subst d_36
    show AW p l e _ s m args below meth c E M_G_maps true _ n _ _ _ [(2, v0), (0, v1)] [(0, r_33), (0, v1), (2, PT v0.toNat 14)] C_30
    obtain ⟨g_37, h⟩ := h
    obtain ⟨g_38, h⟩ := h
    refine AW.niast (dc hd_G_maps 80 rfl) g_37 g_38 (fun C_39 eC_39 => ?_)
    have h := h C_39 eC_39
    refine AW.iinc [(2, v0), (0, w32 (v1 + 1))] (dc hd_G_maps 81 rfl) rfl (Nat.le_of_ble_eq_true rfl) rfl rfl ?_
    refine AW.goto (t := 63) (dc hd_G_maps 82 rfl) (by decide) ?_
    exact hkz63 C_39 (w32 (v1 + 1)) h
theorem aB_G_maps_63 (n : Nat) (v0 : Int) (Q : Int → Cn → Prop) : ∀ (f : Nat) (z : Cn × Int), lp (B_G_maps_63 n v0 Q) f z → AW p l e R s m args below meth c E M_G_maps true (fun r C2 n2 => n2 = n ∧ Q r C2) n 0 0 63 [(2, v0), (0, z.2)] [] (z.1) := by
  intro f
  induction f with
  | zero => intro z h; exact False.elim h
  | succ f ih => intro z h; exact bB_G_maps_63 n v0 Q (lp (B_G_maps_63 n v0 Q) f) (fun a0 a1 h => ih (a0, a1) h) z.1 z.2 h
def B_G_maps_7 (n : Nat) (v0 : Int) (Q : Int → Cn → Prop) (kz7 : Cn × Int → Prop) (z : Cn × Int) : Prop := match z with
  | (C, v1) => okO n v0 10 ∧ ((C v0.toNat 0 ≤ v1 → (∃ f_40 : Nat, lp (B_G_maps_63 n v0 Q) f_40 (C, 0))) ∧ (¬ C v0.toNat 0 ≤ v1 → (okO n (PT v0.toNat 1) 17 ∧ (okI (PT v0.toNat 1) v1 ∧ (okO n (PT (PT v0.toNat 1).toNat v1.toNat) 12 ∧ (okI (PT (PT v0.toNat 1).toNat v1.toNat) 2 ∧ (okI (PT (PT v0.toNat 1).toNat v1.toNat) 3 ∧ (P_G_takesEnd n C v0 (C (PT (PT v0.toNat 1).toNat v1.toNat).toNat 2) (C (PT (PT v0.toNat 1).toNat v1.toNat).toNat 3) (fun (_ : Int) (C_46 : Cn) => okI (PT (PT v0.toNat 1).toNat v1.toNat) 4 ∧ (okI (PT (PT v0.toNat 1).toNat v1.toNat) 5 ∧ (P_G_takesEnd n C_46 v0 (C_46 (PT (PT v0.toNat 1).toNat v1.toNat).toNat 4) (C_46 (PT (PT v0.toNat 1).toNat v1.toNat).toNat 5) (fun (_ : Int) (C_52 : Cn) => kz7 (C_52, w32 (v1 + 1))))))))))))))
theorem bB_G_maps_7 (n : Nat) (v0 : Int) (Q : Int → Cn → Prop) (kz7 : Cn × Int → Prop) (hkz7 : ∀ (Cz : Cn) (z1 : Int), kz7 (Cz, z1) → AW p l e R s m args below meth c E M_G_maps true (fun r C2 n2 => n2 = n ∧ Q r C2) n 0 0 7 [(2, v0), (0, z1)] [] Cz) (C : Cn) (v1 : Int) (h : B_G_maps_7 n v0 Q kz7 (C, v1)) : AW p l e R s m args below meth c E M_G_maps true (fun r C2 n2 => n2 = n ∧ Q r C2) n 0 0 7 [(2, v0), (0, v1)] [] C := by
  unfold B_G_maps_7 at h
  dsimp only at h
  refine AW.iload_n (dc hd_G_maps 5 rfl) rfl ?_
  refine AW.ra_n (dc hd_G_maps 6 rfl) rfl rfl rfl ?_
  obtain ⟨g_3, h⟩ := h
  refine AW.getf fl_10_117 (dc hd_G_maps 7 rfl) g_3 ?_
  refine AW.icmp_ge (t := 61) (dc hd_G_maps 8 rfl) (by decide) (fun c_4 => ?_) (fun c_4 => ?_)
  · have h := h.1 c_4
    refine AW.iconst (dc hd_G_maps 39 rfl) (by decide) ?_
    refine AW.istore_n [(2, v0), (0, 0)] (dc hd_G_maps 40 rfl) (Nat.le_of_ble_eq_true rfl) rfl rfl ?_
    obtain ⟨f_40, h⟩ := h
    exact aB_G_maps_63 n v0 Q f_40 (C, 0) h
  · have h := h.2 c_4
    refine AW.ra_n (dc hd_G_maps 9 rfl) rfl rfl rfl ?_
    refine AW.ra_n (dc hd_G_maps 10 rfl) rfl rfl rfl ?_
    refine AW.getp fl_10_11 (dc hd_G_maps 11 rfl) g_3 rfl ?_
    refine AW.iload_n (dc hd_G_maps 12 rfl) rfl ?_
    obtain ⟨g_41, h⟩ := h
    obtain ⟨g_42, h⟩ := h
    refine AW.aaldp (by decide) (dc hd_G_maps 13 rfl) g_41 g_42 rfl ?_
    refine AW.iconst (dc hd_G_maps 14 rfl) (by decide) ?_
    obtain ⟨g_43, h⟩ := h
    obtain ⟨g_44, h⟩ := h
    refine AW.iald (dc hd_G_maps 15 rfl) g_43 g_44 ?_
    refine AW.ra_n (dc hd_G_maps 16 rfl) rfl rfl rfl ?_
    refine AW.getp fl_10_11 (dc hd_G_maps 17 rfl) g_3 rfl ?_
    refine AW.iload_n (dc hd_G_maps 18 rfl) rfl ?_
    refine AW.aaldp (by decide) (dc hd_G_maps 19 rfl) g_41 g_42 rfl ?_
    refine AW.iconst (dc hd_G_maps 20 rfl) (by decide) ?_
    obtain ⟨g_45, h⟩ := h
    refine AW.iald (dc hd_G_maps 21 rfl) g_43 g_45 ?_
    refine AW.callV (As := [(0, C (PT (PT v0.toNat 1).toNat v1.toNat).toNat 2), (0, C (PT (PT v0.toNat 1).toNat v1.toNat).toNat 3)]) (rest := []) (ci := 10) (m_G_takesEnd l E n C v0 (C (PT (PT v0.toNat 1).toNat v1.toNat).toNat 2) (C (PT (PT v0.toNat 1).toNat v1.toNat).toNat 3) _ h) cb_10_243 im_G_takesEnd se_G_takesEnd ⟨_, _, rfl⟩ (by decide) (dc hd_G_maps 22 rfl) g_3 rfl rfl ⟨Nat.le_of_ble_eq_true rfl, Nat.le_of_ble_eq_true rfl⟩ ⟨(Nat.le_of_ble_eq_true rfl), (Nat.le_of_ble_eq_true rfl)⟩ (Nat.le_of_ble_eq_true rfl) (fun _ h => by cases h) (fun _ => rfl) (fun u_48 C_46 d_49 q_47 => ?_)
    obtain ⟨q_47a, h⟩ := q_47
    subst d_49
    show AW p l e _ s m args below meth c E M_G_maps true _ n _ _ _ [(2, v0), (0, v1)] [] C_46
    refine AW.ra_n (dc hd_G_maps 23 rfl) rfl rfl rfl ?_
    refine AW.ra_n (dc hd_G_maps 24 rfl) rfl rfl rfl ?_
    refine AW.getp fl_10_11 (dc hd_G_maps 25 rfl) g_3 rfl ?_
    refine AW.iload_n (dc hd_G_maps 26 rfl) rfl ?_
    refine AW.aaldp (by decide) (dc hd_G_maps 27 rfl) g_41 g_42 rfl ?_
    refine AW.iconst (dc hd_G_maps 28 rfl) (by decide) ?_
    obtain ⟨g_50, h⟩ := h
    refine AW.iald (dc hd_G_maps 29 rfl) g_43 g_50 ?_
    refine AW.ra_n (dc hd_G_maps 30 rfl) rfl rfl rfl ?_
    refine AW.getp fl_10_11 (dc hd_G_maps 31 rfl) g_3 rfl ?_
    refine AW.iload_n (dc hd_G_maps 32 rfl) rfl ?_
    refine AW.aaldp (by decide) (dc hd_G_maps 33 rfl) g_41 g_42 rfl ?_
    refine AW.iconst (dc hd_G_maps 34 rfl) (by decide) ?_
    obtain ⟨g_51, h⟩ := h
    refine AW.iald (dc hd_G_maps 35 rfl) g_43 g_51 ?_
    refine AW.callV (As := [(0, C_46 (PT (PT v0.toNat 1).toNat v1.toNat).toNat 4), (0, C_46 (PT (PT v0.toNat 1).toNat v1.toNat).toNat 5)]) (rest := []) (ci := 10) (m_G_takesEnd l E n C_46 v0 (C_46 (PT (PT v0.toNat 1).toNat v1.toNat).toNat 4) (C_46 (PT (PT v0.toNat 1).toNat v1.toNat).toNat 5) _ h) cb_10_243 im_G_takesEnd se_G_takesEnd ⟨_, _, rfl⟩ (by decide) (dc hd_G_maps 36 rfl) g_3 rfl rfl ⟨Nat.le_of_ble_eq_true rfl, Nat.le_of_ble_eq_true rfl⟩ ⟨(Nat.le_of_ble_eq_true rfl), (Nat.le_of_ble_eq_true rfl)⟩ (Nat.le_of_ble_eq_true rfl) (fun _ h => by cases h) (fun _ => rfl) (fun u_54 C_52 d_55 q_53 => ?_)
    obtain ⟨q_53a, h⟩ := q_53
    subst d_55
    show AW p l e _ s m args below meth c E M_G_maps true _ n _ _ _ [(2, v0), (0, v1)] [] C_52
    refine AW.iinc [(2, v0), (0, w32 (v1 + 1))] (dc hd_G_maps 37 rfl) rfl (Nat.le_of_ble_eq_true rfl) rfl rfl ?_
    refine AW.goto (t := 7) (dc hd_G_maps 38 rfl) (by decide) ?_
    exact hkz7 C_52 (w32 (v1 + 1)) h
theorem aB_G_maps_7 (n : Nat) (v0 : Int) (Q : Int → Cn → Prop) : ∀ (f : Nat) (z : Cn × Int), lp (B_G_maps_7 n v0 Q) f z → AW p l e R s m args below meth c E M_G_maps true (fun r C2 n2 => n2 = n ∧ Q r C2) n 0 0 7 [(2, v0), (0, z.2)] [] (z.1) := by
  intro f
  induction f with
  | zero => intro z h; exact False.elim h
  | succ f ih => intro z h; exact bB_G_maps_7 n v0 Q (lp (B_G_maps_7 n v0 Q) f) (fun a0 a1 h => ih (a0, a1) h) z.1 z.2 h
def P_G_maps (n : Nat) (C : Cn) (v0 : Int) (Q : Int → Cn → Prop) : Prop :=
  okO n v0 10 ∧ (∀ C_2 : Cn, C_2 = wr C v0.toNat 10 0 → (∃ f_56 : Nat, lp (B_G_maps_7 n v0 Q) f_56 (C_2, 0)))
theorem m_G_maps (l : Launch) (E : Ev) (n : Nat) (C : Cn) (v0 : Int) (Q : Int → Cn → Prop) (h : P_G_maps n C v0 Q) : MA l y_G_maps M_G_maps E true C n [(2, v0)] (fun r C2 n2 => n2 = n ∧ Q r C2) := by
  refine MA.of (by decide) rfl rfl 1 rfl (fun p e s m args below meth c => ?_)
  show AW p l e _ s m args below meth c E M_G_maps true _ n 0 0 0 [(2, v0), (9, 0)] [] C
  unfold P_G_maps at h
  refine AW.ra_n (dc hd_G_maps 0 rfl) rfl rfl rfl ?_
  refine AW.iconst (dc hd_G_maps 1 rfl) (by decide) ?_
  obtain ⟨g_1, h⟩ := h
  refine AW.nputI fl_10_221 (dc hd_G_maps 2 rfl) g_1 (fun C_2 eC_2 => ?_)
  have h := h C_2 eC_2
  refine AW.iconst (dc hd_G_maps 3 rfl) (by decide) ?_
  refine AW.istore_n [(2, v0), (0, 0)] (dc hd_G_maps 4 rfl) (Nat.le_of_ble_eq_true rfl) rfl rfl ?_
  obtain ⟨f_56, h⟩ := h
  exact aB_G_maps_7 n v0 Q f_56 (C_2, 0) h
def J_G_of_109 (n : Nat) (C : Cn) (v0 v1 v2 v4 s0 s1 : Int) (kz67 : Int × Int → Prop) (Q : Int → Cn → Prop) : Prop :=
  kz67 (w32 (s0 + s1), w32 (v4 + 1))
theorem aJ_G_of_109 (n : Nat) (C : Cn) (v0 v1 v2 v4 s0 s1 : Int) (kz67 : Int × Int → Prop) (Q : Int → Cn → Prop) (hkz67 : ∀ (z3 : Int) (z4 : Int), kz67 (z3, z4) → AW p l e R s m args below meth c E M_G_of true (fun r C2 n2 => n2 = n ∧ Q r C2) n 0 0 67 [(2, v0), (0, v1), (0, v2), (0, z3), (0, z4)] [] C) (h : J_G_of_109 n C v0 v1 v2 v4 s0 s1 kz67 Q) : AW p l e R s m args below meth c E M_G_of true (fun r C2 n2 => n2 = n ∧ Q r C2) n 0 0 109 [(2, v0), (0, v1), (0, v2), (9, 0), (0, v4)] [(0, s1), (0, s0)] C := by
  unfold J_G_of_109 at h
  refine AW.iadd (dc hd_G_of 62 rfl) ?_
  refine AW.istore_n [(2, v0), (0, v1), (0, v2), (0, w32 (s0 + s1)), (0, v4)] (dc hd_G_of 63 rfl) (Nat.le_of_ble_eq_true rfl) rfl rfl ?_
  refine AW.iinc [(2, v0), (0, v1), (0, v2), (0, w32 (s0 + s1)), (0, w32 (v4 + 1))] (dc hd_G_of 64 rfl) rfl (Nat.le_of_ble_eq_true rfl) rfl rfl ?_
  refine AW.goto (t := 67) (dc hd_G_of 65 rfl) (by decide) ?_
  exact hkz67 (w32 (s0 + s1)) (w32 (v4 + 1)) h
def J_G_of_100 (n : Nat) (C : Cn) (v0 v1 v2 v4 s0 s1 : Int) (kz67 : Int × Int → Prop) (Q : Int → Cn → Prop) : Prop :=
  J_G_of_109 n C v0 v1 v2 v4 s0 (if s1 = v1 then 1 else 0) kz67 Q
theorem aJ_G_of_100 (n : Nat) (C : Cn) (v0 v1 v2 v4 s0 s1 : Int) (kz67 : Int × Int → Prop) (Q : Int → Cn → Prop) (hkz67 : ∀ (z3 : Int) (z4 : Int), kz67 (z3, z4) → AW p l e R s m args below meth c E M_G_of true (fun r C2 n2 => n2 = n ∧ Q r C2) n 0 0 67 [(2, v0), (0, v1), (0, v2), (0, z3), (0, z4)] [] C) (h : J_G_of_100 n C v0 v1 v2 v4 s0 s1 kz67 Q) : AW p l e R s m args below meth c E M_G_of true (fun r C2 n2 => n2 = n ∧ Q r C2) n 0 0 100 [(2, v0), (0, v1), (0, v2), (9, 0), (0, v4)] [(0, s1), (0, s0)] C := by
  unfold J_G_of_100 at h
  refine AW.iload_n (dc hd_G_of 57 rfl) rfl ?_
  refine AW.icmp_ne (t := 108) (dc hd_G_of 58 rfl) (by decide) (fun c_30 => ?_) (fun c_30 => ?_)
  · simp only [if_neg (show ¬ (s1 = v1) from c_30)] at h
    refine AW.iconst (dc hd_G_of 61 rfl) (by decide) ?_
    exact aJ_G_of_109 n C _ _ _ _ _ _ kz67 Q hkz67 h
  · simp only [if_pos (show s1 = v1 from c_30)] at h
    refine AW.iconst (dc hd_G_of 59 rfl) (by decide) ?_
    refine AW.goto (t := 109) (dc hd_G_of 60 rfl) (by decide) ?_
    exact aJ_G_of_109 n C _ _ _ _ _ _ kz67 Q hkz67 h
def B_G_of_67 (n : Nat) (C : Cn) (v0 v1 v2 : Int) (Q : Int → Cn → Prop) (kz67 : Int × Int → Prop) (z : Int × Int) : Prop := match z with
  | (v3, v4) => okO n v0 10 ∧ ((C v0.toNat 18 ≤ v4 → (Q v3 C)) ∧ (¬ C v0.toNat 18 ≤ v4 → ((v2 = 7 → (okO n (PT v0.toNat 19) 12 ∧ (okI (PT v0.toNat 19) v4 ∧ (J_G_of_100 n C v0 v1 v2 v4 v3 (C (PT v0.toNat 19).toNat v4.toNat) kz67 Q)))) ∧ (¬ v2 = 7 → (okO n (PT v0.toNat 20) 12 ∧ (okI (PT v0.toNat 20) v4 ∧ (J_G_of_100 n C v0 v1 v2 v4 v3 (C (PT v0.toNat 20).toNat v4.toNat) kz67 Q)))))))
theorem bB_G_of_67 (n : Nat) (C : Cn) (v0 v1 v2 : Int) (Q : Int → Cn → Prop) (kz67 : Int × Int → Prop) (hkz67 : ∀ (z3 : Int) (z4 : Int), kz67 (z3, z4) → AW p l e R s m args below meth c E M_G_of true (fun r C2 n2 => n2 = n ∧ Q r C2) n 0 0 67 [(2, v0), (0, v1), (0, v2), (0, z3), (0, z4)] [] C) (v3 : Int) (v4 : Int) (h : B_G_of_67 n C v0 v1 v2 Q kz67 (v3, v4)) : AW p l e R s m args below meth c E M_G_of true (fun r C2 n2 => n2 = n ∧ Q r C2) n 0 0 67 [(2, v0), (0, v1), (0, v2), (0, v3), (0, v4)] [] C := by
  unfold B_G_of_67 at h
  dsimp only at h
  refine AW.iload (dc hd_G_of 40 rfl) rfl ?_
  refine AW.ra_n (dc hd_G_of 41 rfl) rfl rfl rfl ?_
  obtain ⟨g_25, h⟩ := h
  refine AW.getf fl_10_214 (dc hd_G_of 42 rfl) g_25 ?_
  refine AW.icmp_ge (t := 117) (dc hd_G_of 43 rfl) (by decide) (fun c_26 => ?_) (fun c_26 => ?_)
  · have h := h.1 c_26
    refine AW.iload_n (dc hd_G_of 66 rfl) rfl ?_
    exact AW.iret (dc hd_G_of 67 rfl) rfl rfl (Nat.le_of_ble_eq_true rfl) (Nat.le_of_ble_eq_true rfl) ⟨rfl, h⟩
  · have h := h.2 c_26
    refine AW.iload_n (dc hd_G_of 44 rfl) rfl ?_
    refine AW.iload_n (dc hd_G_of 45 rfl) rfl ?_
    refine AW.bipush (dc hd_G_of 46 rfl) (by decide) (by decide +kernel) ?_
    refine AW.icmp_ne (t := 93) (dc hd_G_of 47 rfl) (by decide) (fun c_27 => ?_) (fun c_27 => ?_)
    · have h := h.2 c_27
      refine AW.ra_n (dc hd_G_of 53 rfl) rfl rfl rfl ?_
      refine AW.getp fl_10_52 (dc hd_G_of 54 rfl) g_25 rfl ?_
      refine AW.iload (dc hd_G_of 55 rfl) rfl ?_
      obtain ⟨g_28, h⟩ := h
      obtain ⟨g_29, h⟩ := h
      refine AW.iald (dc hd_G_of 56 rfl) g_28 g_29 ?_
      refine AW.fgt [(2, v0), (0, v1), (0, v2), (9, 0), (0, v4)] ⟨.inl rfl, .inl rfl, .inl rfl, .inr rfl, .inl rfl, trivial⟩ ?_
      exact aJ_G_of_100 n C v0 v1 v2 v4 v3 (C (PT v0.toNat 20).toNat v4.toNat) kz67 Q hkz67 h
    · have h := h.1 c_27
      refine AW.ra_n (dc hd_G_of 48 rfl) rfl rfl rfl ?_
      refine AW.getp fl_10_49 (dc hd_G_of 49 rfl) g_25 rfl ?_
      refine AW.iload (dc hd_G_of 50 rfl) rfl ?_
      obtain ⟨g_31, h⟩ := h
      obtain ⟨g_32, h⟩ := h
      refine AW.iald (dc hd_G_of 51 rfl) g_31 g_32 ?_
      refine AW.goto (t := 100) (dc hd_G_of 52 rfl) (by decide) ?_
      refine AW.fgt [(2, v0), (0, v1), (0, v2), (9, 0), (0, v4)] ⟨.inl rfl, .inl rfl, .inl rfl, .inr rfl, .inl rfl, trivial⟩ ?_
      exact aJ_G_of_100 n C v0 v1 v2 v4 v3 (C (PT v0.toNat 19).toNat v4.toNat) kz67 Q hkz67 h
theorem aB_G_of_67 (n : Nat) (C : Cn) (v0 v1 v2 : Int) (Q : Int → Cn → Prop) : ∀ (f : Nat) (z : Int × Int), lp (B_G_of_67 n C v0 v1 v2 Q) f z → AW p l e R s m args below meth c E M_G_of true (fun r C2 n2 => n2 = n ∧ Q r C2) n 0 0 67 [(2, v0), (0, v1), (0, v2), (0, z.1), (0, z.2)] [] C := by
  intro f
  induction f with
  | zero => intro z h; exact False.elim h
  | succ f ih => intro z h; exact bB_G_of_67 n C v0 v1 v2 Q (lp (B_G_of_67 n C v0 v1 v2 Q) f) (fun a0 a1 h => ih (a0, a1) h) z.1 z.2 h
def P_G_of (n : Nat) (C : Cn) (v0 v1 v2 : Int) (Q : Int → Cn → Prop) : Prop :=
  okO n v0 10 ∧ (P_G_isSegment n C v0 v1 (fun (r_1 : Int) => (r_1 = 0 → (P_G_finds n C v0 0 (fun (r_7 : Int) (C_8 : Cn) => Q r_7 C_8))) ∧ (¬ r_1 = 0 → (P_G_in n C v2 0 8 (fun (r_11 : Int) => (r_11 = 0 → (P_G_finds n C v0 0 (fun (r_44 : Int) (C_45 : Cn) => Q r_44 C_45))) ∧ (¬ r_11 = 0 → ((6 ≤ v2 → ((v2 = 6 → (okO n (PT v0.toNat 1) 17 ∧ (okI (PT v0.toNat 1) v1 ∧ (P_G_toll n C v0 (PT (PT v0.toNat 1).toNat v1.toNat) (fun (r_36 : Int) => Q r_36 C))))) ∧ (¬ v2 = 6 → (P_G_maps n C v0 (fun (_ : Int) (C_21 : Cn) => ∃ f_33 : Nat, lp (B_G_of_67 n C_21 v0 v1 v2 Q) f_33 (0, 0)))))) ∧ (¬ 6 ≤ v2 → (okO n (PT v0.toNat 1) 17 ∧ (okI (PT v0.toNat 1) v1 ∧ (okO n (PT (PT v0.toNat 1).toNat v1.toNat) 12 ∧ (okI (PT (PT v0.toNat 1).toNat v1.toNat) v2 ∧ (Q (C (PT (PT v0.toNat 1).toNat v1.toNat).toNat v2.toNat) C)))))))))))))
theorem m_G_of (l : Launch) (E : Ev) (n : Nat) (C : Cn) (v0 v1 v2 : Int) (Q : Int → Cn → Prop) (h : P_G_of n C v0 v1 v2 Q) : MA l y_G_of M_G_of E true C n [(2, v0), (0, v1), (0, v2)] (fun r C2 n2 => n2 = n ∧ Q r C2) := by
  refine MA.of (by decide) rfl rfl 2 rfl (fun p e s m args below meth c => ?_)
  show AW p l e _ s m args below meth c E M_G_of true _ n 0 0 0 [(2, v0), (0, v1), (0, v2), (9, 0), (9, 0)] [] C
  unfold P_G_of at h
  refine AW.ra_n (dc hd_G_of 0 rfl) rfl rfl rfl ?_
  refine AW.iload_n (dc hd_G_of 1 rfl) rfl ?_
  obtain ⟨g_2, h⟩ := h
  refine AW.callV (As := [(0, v1)]) (rest := []) (ci := 10) (m_G_isSegment l E n C v0 v1 _ h) cb_10_202 im_G_isSegment se_G_isSegment ⟨_, _, rfl⟩ (by decide) (dc hd_G_of 2 rfl) g_2 rfl rfl ⟨Nat.le_of_ble_eq_true rfl, Nat.le_of_ble_eq_true rfl⟩ ⟨(Nat.le_of_ble_eq_true rfl), (Nat.le_of_ble_eq_true rfl)⟩ (Nat.le_of_ble_eq_true rfl) (fun _ h => by cases h) (fun _ => rfl) (fun r_1 D_4 d_5 q_3 => ?_)
  obtain ⟨q_3a, q_3b, h⟩ := q_3
  subst D_4
  subst d_5
  show AW p l e _ s m args below meth c E M_G_of true _ n _ _ _ [(2, v0), (0, v1), (0, v2), (9, 0), (9, 0)] [(0, r_1)] C
  refine AW.if_eq (t := 20) (dc hd_G_of 3 rfl) (by decide) (fun c_6 => ?_) (fun c_6 => ?_)
  · have h := h.1 c_6
    refine AW.ra_n (dc hd_G_of 10 rfl) rfl rfl rfl ?_
    refine AW.iconst (dc hd_G_of 11 rfl) (by decide) ?_
    refine AW.callV (As := [(0, 0)]) (rest := []) (ci := 10) (m_G_finds l E n C v0 0 _ h) cb_10_186 im_G_finds se_G_finds ⟨_, _, rfl⟩ (by decide) (dc hd_G_of 12 rfl) g_2 rfl rfl ⟨Nat.le_of_ble_eq_true rfl, Nat.le_of_ble_eq_true rfl⟩ ⟨(Nat.le_of_ble_eq_true rfl), (Nat.le_of_ble_eq_true rfl)⟩ (Nat.le_of_ble_eq_true rfl) (fun _ h => by cases h) (fun _ => rfl) (fun r_7 C_8 d_10 q_9 => ?_)
    obtain ⟨q_9a, h⟩ := q_9
    subst d_10
    show AW p l e _ s m args below meth c E M_G_of true _ n _ _ _ [(2, v0), (0, v1), (0, v2), (9, 0), (9, 0)] [(0, r_7)] C_8
    exact AW.iret (dc hd_G_of 13 rfl) rfl rfl (Nat.le_of_ble_eq_true rfl) (Nat.le_of_ble_eq_true rfl) ⟨rfl, h⟩
  · have h := h.2 c_6
    refine AW.iload_n (dc hd_G_of 4 rfl) rfl ?_
    refine AW.i2l (dc hd_G_of 5 rfl) ?_
    refine AW.lconst (v := 0) (dc hd_G_of 6 rfl) (by decide) (by decide +kernel) ?_
    refine AW.ldc2 (v := 8) (dc hd_G_of 7 rfl) ck_10_205 (by decide) rfl ?_
    refine AW.callS (As := [(1, v2), (1, 0), (1, 8)]) (rest := []) (m_G_in l E n C v2 0 8 _ h) cb_10_113 sm_G_in (dc hd_G_of 8 rfl) rfl rfl ⟨Nat.le_of_ble_eq_true rfl, Nat.le_of_ble_eq_true rfl⟩ ⟨(Nat.le_of_ble_eq_true rfl), (Nat.le_of_ble_eq_true rfl)⟩ (Nat.le_of_ble_eq_true rfl) (fun _ h => by cases h) (fun _ => rfl) (fun r_11 D_13 d_14 q_12 => ?_)
    obtain ⟨q_12a, q_12b, h⟩ := q_12
    subst D_13
    subst d_14
    show AW p l e _ s m args below meth c E M_G_of true _ n _ _ _ [(2, v0), (0, v1), (0, v2), (9, 0), (9, 0)] [(0, r_11)] C
    refine AW.if_ne (t := 26) (dc hd_G_of 9 rfl) (by decide) (fun c_15 => ?_) (fun c_15 => ?_)
    · have h := h.2 c_15
      refine AW.iload_n (dc hd_G_of 14 rfl) rfl ?_
      refine AW.bipush (dc hd_G_of 15 rfl) (by decide) (by decide +kernel) ?_
      refine AW.icmp_ge (t := 41) (dc hd_G_of 16 rfl) (by decide) (fun c_18 => ?_) (fun c_18 => ?_)
      · have h := h.1 c_18
        refine AW.iload_n (dc hd_G_of 24 rfl) rfl ?_
        refine AW.bipush (dc hd_G_of 25 rfl) (by decide) (by decide +kernel) ?_
        refine AW.icmp_ne (t := 58) (dc hd_G_of 26 rfl) (by decide) (fun c_20 => ?_) (fun c_20 => ?_)
        · have h := h.2 c_20
          refine AW.ra_n (dc hd_G_of 34 rfl) rfl rfl rfl ?_
          refine AW.callV (As := []) (rest := []) (ci := 10) (m_G_maps l E n C v0 _ h) cb_10_211 im_G_maps se_G_maps ⟨_, _, rfl⟩ (by decide) (dc hd_G_of 35 rfl) g_2 rfl rfl ⟨Nat.le_of_ble_eq_true rfl, Nat.le_of_ble_eq_true rfl⟩ ⟨(Nat.le_of_ble_eq_true rfl), (Nat.le_of_ble_eq_true rfl)⟩ (Nat.le_of_ble_eq_true rfl) (fun _ h => by cases h) (fun _ => rfl) (fun u_23 C_21 d_24 q_22 => ?_)
          obtain ⟨q_22a, h⟩ := q_22
          subst d_24
          show AW p l e _ s m args below meth c E M_G_of true _ n _ _ _ [(2, v0), (0, v1), (0, v2), (9, 0), (9, 0)] [] C_21
          refine AW.iconst (dc hd_G_of 36 rfl) (by decide) ?_
          refine AW.istore_n [(2, v0), (0, v1), (0, v2), (0, 0), (9, 0)] (dc hd_G_of 37 rfl) (Nat.le_of_ble_eq_true rfl) rfl rfl ?_
          refine AW.iconst (dc hd_G_of 38 rfl) (by decide) ?_
          refine AW.istore [(2, v0), (0, v1), (0, v2), (0, 0), (0, 0)] (dc hd_G_of 39 rfl) (Nat.le_of_ble_eq_true rfl) rfl rfl ?_
          obtain ⟨f_33, h⟩ := h
          exact aB_G_of_67 n C_21 v0 v1 v2 Q f_33 (0, 0) h
        · have h := h.1 c_20
          refine AW.ra_n (dc hd_G_of 27 rfl) rfl rfl rfl ?_
          refine AW.ra_n (dc hd_G_of 28 rfl) rfl rfl rfl ?_
          refine AW.getp fl_10_11 (dc hd_G_of 29 rfl) g_2 rfl ?_
          refine AW.iload_n (dc hd_G_of 30 rfl) rfl ?_
          obtain ⟨g_34, h⟩ := h
          obtain ⟨g_35, h⟩ := h
          refine AW.aaldp (by decide) (dc hd_G_of 31 rfl) g_34 g_35 rfl ?_
          refine AW.callV (As := [(2, PT (PT v0.toNat 1).toNat v1.toNat)]) (rest := []) (ci := 10) (m_G_toll l E n C v0 (PT (PT v0.toNat 1).toNat v1.toNat) _ h) cb_10_207 im_G_toll se_G_toll ⟨_, _, rfl⟩ (by decide) (dc hd_G_of 32 rfl) g_2 rfl rfl ⟨Nat.le_of_ble_eq_true rfl, Nat.le_of_ble_eq_true rfl⟩ ⟨(Nat.le_of_ble_eq_true rfl), (Nat.le_of_ble_eq_true rfl)⟩ (Nat.le_of_ble_eq_true rfl) (fun _ h => by cases h) (fun _ => rfl) (fun r_36 D_38 d_39 q_37 => ?_)
          obtain ⟨q_37a, q_37b, h⟩ := q_37
          subst D_38
          subst d_39
          show AW p l e _ s m args below meth c E M_G_of true _ n _ _ _ [(2, v0), (0, v1), (0, v2), (9, 0), (9, 0)] [(0, r_36)] C
          exact AW.iret (dc hd_G_of 33 rfl) rfl rfl (Nat.le_of_ble_eq_true rfl) (Nat.le_of_ble_eq_true rfl) ⟨rfl, h⟩
      · have h := h.2 c_18
        refine AW.ra_n (dc hd_G_of 17 rfl) rfl rfl rfl ?_
        refine AW.getp fl_10_11 (dc hd_G_of 18 rfl) g_2 rfl ?_
        refine AW.iload_n (dc hd_G_of 19 rfl) rfl ?_
        obtain ⟨g_40, h⟩ := h
        obtain ⟨g_41, h⟩ := h
        refine AW.aaldp (by decide) (dc hd_G_of 20 rfl) g_40 g_41 rfl ?_
        refine AW.iload_n (dc hd_G_of 21 rfl) rfl ?_
        obtain ⟨g_42, h⟩ := h
        obtain ⟨g_43, h⟩ := h
        refine AW.iald (dc hd_G_of 22 rfl) g_42 g_43 ?_
        exact AW.iret (dc hd_G_of 23 rfl) rfl rfl (Nat.le_of_ble_eq_true rfl) (Nat.le_of_ble_eq_true rfl) ⟨rfl, h⟩
    · have h := h.1 c_15
      refine AW.ra_n (dc hd_G_of 10 rfl) rfl rfl rfl ?_
      refine AW.iconst (dc hd_G_of 11 rfl) (by decide) ?_
      refine AW.callV (As := [(0, 0)]) (rest := []) (ci := 10) (m_G_finds l E n C v0 0 _ h) cb_10_186 im_G_finds se_G_finds ⟨_, _, rfl⟩ (by decide) (dc hd_G_of 12 rfl) g_2 rfl rfl ⟨Nat.le_of_ble_eq_true rfl, Nat.le_of_ble_eq_true rfl⟩ ⟨(Nat.le_of_ble_eq_true rfl), (Nat.le_of_ble_eq_true rfl)⟩ (Nat.le_of_ble_eq_true rfl) (fun _ h => by cases h) (fun _ => rfl) (fun r_44 C_45 d_47 q_46 => ?_)
      obtain ⟨q_46a, h⟩ := q_46
      subst d_47
      show AW p l e _ s m args below meth c E M_G_of true _ n _ _ _ [(2, v0), (0, v1), (0, v2), (9, 0), (9, 0)] [(0, r_44)] C_45
      exact AW.iret (dc hd_G_of 13 rfl) rfl rfl (Nat.le_of_ble_eq_true rfl) (Nat.le_of_ble_eq_true rfl) ⟨rfl, h⟩
def P_G_tide (n : Nat) (C : Cn) (v0 v1 : Int) (Q : Int → Cn → Prop) : Prop :=
  P_G_in n C v1 0 3 (fun (r_1 : Int) => (r_1 = 0 → (okO n v0 10 ∧ (P_G_finds n C v0 0 (fun (r_8 : Int) (C_10 : Cn) => Q r_8 C_10)))) ∧ (¬ r_1 = 0 → (okO n v0 10 ∧ (∀ C_7 : Cn, C_7 = wr C v0.toNat 2 v1 → (Q (C v0.toNat 2) C_7)))))
theorem m_G_tide (l : Launch) (E : Ev) (n : Nat) (C : Cn) (v0 v1 : Int) (Q : Int → Cn → Prop) (h : P_G_tide n C v0 v1 Q) : MA l y_G_tide M_G_tide E true C n [(2, v0), (0, v1)] (fun r C2 n2 => n2 = n ∧ Q r C2) := by
  refine MA.of (by decide) rfl rfl 1 rfl (fun p e s m args below meth c => ?_)
  show AW p l e _ s m args below meth c E M_G_tide true _ n 0 0 0 [(2, v0), (0, v1), (9, 0)] [] C
  unfold P_G_tide at h
  refine AW.iload_n (dc hd_G_tide 0 rfl) rfl ?_
  refine AW.i2l (dc hd_G_tide 1 rfl) ?_
  refine AW.lconst (v := 0) (dc hd_G_tide 2 rfl) (by decide) (by decide +kernel) ?_
  refine AW.ldc2 (v := 3) (dc hd_G_tide 3 rfl) ck_10_217 (by decide) rfl ?_
  refine AW.callS (As := [(1, v1), (1, 0), (1, 3)]) (rest := []) (m_G_in l E n C v1 0 3 _ h) cb_10_113 sm_G_in (dc hd_G_tide 4 rfl) rfl rfl ⟨Nat.le_of_ble_eq_true rfl, Nat.le_of_ble_eq_true rfl⟩ ⟨(Nat.le_of_ble_eq_true rfl), (Nat.le_of_ble_eq_true rfl)⟩ (Nat.le_of_ble_eq_true rfl) (fun _ h => by cases h) (fun _ => rfl) (fun r_1 D_3 d_4 q_2 => ?_)
  obtain ⟨q_2a, q_2b, h⟩ := q_2
  subst D_3
  subst d_4
  show AW p l e _ s m args below meth c E M_G_tide true _ n _ _ _ [(2, v0), (0, v1), (9, 0)] [(0, r_1)] C
  refine AW.if_ne (t := 18) (dc hd_G_tide 5 rfl) (by decide) (fun c_5 => ?_) (fun c_5 => ?_)
  · have h := h.2 c_5
    refine AW.ra_n (dc hd_G_tide 10 rfl) rfl rfl rfl ?_
    obtain ⟨g_6, h⟩ := h
    refine AW.getf fl_10_158 (dc hd_G_tide 11 rfl) g_6 ?_
    refine AW.istore_n [(2, v0), (0, v1), (0, C v0.toNat 2)] (dc hd_G_tide 12 rfl) (Nat.le_of_ble_eq_true rfl) rfl rfl ?_
    refine AW.ra_n (dc hd_G_tide 13 rfl) rfl rfl rfl ?_
    refine AW.iload_n (dc hd_G_tide 14 rfl) rfl ?_
    refine AW.nputI fl_10_158 (dc hd_G_tide 15 rfl) g_6 (fun C_7 eC_7 => ?_)
    have h := h C_7 eC_7
    refine AW.iload_n (dc hd_G_tide 16 rfl) rfl ?_
    exact AW.iret (dc hd_G_tide 17 rfl) rfl rfl (Nat.le_of_ble_eq_true rfl) (Nat.le_of_ble_eq_true rfl) ⟨rfl, h⟩
  · have h := h.1 c_5
    refine AW.ra_n (dc hd_G_tide 6 rfl) rfl rfl rfl ?_
    refine AW.iconst (dc hd_G_tide 7 rfl) (by decide) ?_
    obtain ⟨g_9, h⟩ := h
    refine AW.callV (As := [(0, 0)]) (rest := []) (ci := 10) (m_G_finds l E n C v0 0 _ h) cb_10_186 im_G_finds se_G_finds ⟨_, _, rfl⟩ (by decide) (dc hd_G_tide 8 rfl) g_9 rfl rfl ⟨Nat.le_of_ble_eq_true rfl, Nat.le_of_ble_eq_true rfl⟩ ⟨(Nat.le_of_ble_eq_true rfl), (Nat.le_of_ble_eq_true rfl)⟩ (Nat.le_of_ble_eq_true rfl) (fun _ h => by cases h) (fun _ => rfl) (fun r_8 C_10 d_12 q_11 => ?_)
    obtain ⟨q_11a, h⟩ := q_11
    subst d_12
    show AW p l e _ s m args below meth c E M_G_tide true _ n _ _ _ [(2, v0), (0, v1), (9, 0)] [(0, r_8)] C_10
    exact AW.iret (dc hd_G_tide 9 rfl) rfl rfl (Nat.le_of_ble_eq_true rfl) (Nat.le_of_ble_eq_true rfl) ⟨rfl, h⟩
def P_G_blame (n : Nat) (C : Cn) (v0 v1 : Int) (Q : Int → Cn → Prop) : Prop :=
  P_G_in n C v1 0 2 (fun (r_1 : Int) => (r_1 = 0 → (okO n v0 10 ∧ (P_G_finds n C v0 0 (fun (r_14 : Int) (C_16 : Cn) => Q r_14 C_16)))) ∧ (¬ r_1 = 0 → ((v1 = 0 → (okO n v0 10 ∧ (Q (C v0.toNat 6) C))) ∧ (¬ v1 = 0 → ((v1 = 1 → (okO n v0 10 ∧ (Q (C v0.toNat 7) C))) ∧ (¬ v1 = 1 → (okO n v0 10 ∧ (Q (C v0.toNat 8) C))))))))
theorem m_G_blame (l : Launch) (E : Ev) (n : Nat) (C : Cn) (v0 v1 : Int) (Q : Int → Cn → Prop) (h : P_G_blame n C v0 v1 Q) : MA l y_G_blame M_G_blame E true C n [(2, v0), (0, v1)] (fun r C2 n2 => n2 = n ∧ Q r C2) := by
  refine MA.of (by decide) rfl rfl 0 rfl (fun p e s m args below meth c => ?_)
  show AW p l e _ s m args below meth c E M_G_blame true _ n 0 0 0 [(2, v0), (0, v1)] [] C
  unfold P_G_blame at h
  refine AW.iload_n (dc hd_G_blame 0 rfl) rfl ?_
  refine AW.i2l (dc hd_G_blame 1 rfl) ?_
  refine AW.lconst (v := 0) (dc hd_G_blame 2 rfl) (by decide) (by decide +kernel) ?_
  refine AW.ldc2 (v := 2) (dc hd_G_blame 3 rfl) ck_10_219 (by decide) rfl ?_
  refine AW.callS (As := [(1, v1), (1, 0), (1, 2)]) (rest := []) (m_G_in l E n C v1 0 2 _ h) cb_10_113 sm_G_in (dc hd_G_blame 4 rfl) rfl rfl ⟨Nat.le_of_ble_eq_true rfl, Nat.le_of_ble_eq_true rfl⟩ ⟨(Nat.le_of_ble_eq_true rfl), (Nat.le_of_ble_eq_true rfl)⟩ (Nat.le_of_ble_eq_true rfl) (fun _ h => by cases h) (fun _ => rfl) (fun r_1 D_3 d_4 q_2 => ?_)
  obtain ⟨q_2a, q_2b, h⟩ := q_2
  subst D_3
  subst d_4
  show AW p l e _ s m args below meth c E M_G_blame true _ n _ _ _ [(2, v0), (0, v1)] [(0, r_1)] C
  refine AW.if_ne (t := 18) (dc hd_G_blame 5 rfl) (by decide) (fun c_5 => ?_) (fun c_5 => ?_)
  · have h := h.2 c_5
    refine AW.iload_n (dc hd_G_blame 10 rfl) rfl ?_
    refine AW.if_ne (t := 29) (dc hd_G_blame 11 rfl) (by decide) (fun c_8 => ?_) (fun c_8 => ?_)
    · have h := h.2 c_8
      refine AW.iload_n (dc hd_G_blame 15 rfl) rfl ?_
      refine AW.iconst (dc hd_G_blame 16 rfl) (by decide) ?_
      refine AW.icmp_ne (t := 41) (dc hd_G_blame 17 rfl) (by decide) (fun c_10 => ?_) (fun c_10 => ?_)
      · have h := h.2 c_10
        refine AW.ra_n (dc hd_G_blame 21 rfl) rfl rfl rfl ?_
        obtain ⟨g_11, h⟩ := h
        refine AW.getf fl_10_176 (dc hd_G_blame 22 rfl) g_11 ?_
        exact AW.iret (dc hd_G_blame 23 rfl) rfl rfl (Nat.le_of_ble_eq_true rfl) (Nat.le_of_ble_eq_true rfl) ⟨rfl, h⟩
      · have h := h.1 c_10
        refine AW.ra_n (dc hd_G_blame 18 rfl) rfl rfl rfl ?_
        obtain ⟨g_12, h⟩ := h
        refine AW.getf fl_10_22 (dc hd_G_blame 19 rfl) g_12 ?_
        refine AW.goto (t := 45) (dc hd_G_blame 20 rfl) (by decide) ?_
        exact AW.iret (dc hd_G_blame 23 rfl) rfl rfl (Nat.le_of_ble_eq_true rfl) (Nat.le_of_ble_eq_true rfl) ⟨rfl, h⟩
    · have h := h.1 c_8
      refine AW.ra_n (dc hd_G_blame 12 rfl) rfl rfl rfl ?_
      obtain ⟨g_13, h⟩ := h
      refine AW.getf fl_10_173 (dc hd_G_blame 13 rfl) g_13 ?_
      refine AW.goto (t := 45) (dc hd_G_blame 14 rfl) (by decide) ?_
      exact AW.iret (dc hd_G_blame 23 rfl) rfl rfl (Nat.le_of_ble_eq_true rfl) (Nat.le_of_ble_eq_true rfl) ⟨rfl, h⟩
  · have h := h.1 c_5
    refine AW.ra_n (dc hd_G_blame 6 rfl) rfl rfl rfl ?_
    refine AW.iconst (dc hd_G_blame 7 rfl) (by decide) ?_
    obtain ⟨g_15, h⟩ := h
    refine AW.callV (As := [(0, 0)]) (rest := []) (ci := 10) (m_G_finds l E n C v0 0 _ h) cb_10_186 im_G_finds se_G_finds ⟨_, _, rfl⟩ (by decide) (dc hd_G_blame 8 rfl) g_15 rfl rfl ⟨Nat.le_of_ble_eq_true rfl, Nat.le_of_ble_eq_true rfl⟩ ⟨(Nat.le_of_ble_eq_true rfl), (Nat.le_of_ble_eq_true rfl)⟩ (Nat.le_of_ble_eq_true rfl) (fun _ h => by cases h) (fun _ => rfl) (fun r_14 C_16 d_18 q_17 => ?_)
    obtain ⟨q_17a, h⟩ := q_17
    subst d_18
    show AW p l e _ s m args below meth c E M_G_blame true _ n _ _ _ [(2, v0), (0, v1)] [(0, r_14)] C_16
    exact AW.iret (dc hd_G_blame 9 rfl) rfl rfl (Nat.le_of_ble_eq_true rfl) (Nat.le_of_ble_eq_true rfl) ⟨rfl, h⟩
def P_G_isField (n : Nat) (C : Cn) (v0 v1 : Int) (Q : Int → Prop) : Prop :=
  okO n v0 10 ∧ (P_G_in n C v1 0 (w32 (C v0.toNat 18 - 1)) (fun (r_2 : Int) => (r_2 = 0 ∨ r_2 = 1) ∧ (Q r_2)))
theorem m_G_isField (l : Launch) (E : Ev) (n : Nat) (C : Cn) (v0 v1 : Int) (Q : Int → Prop) (h : P_G_isField n C v0 v1 Q) : MA l y_G_isField M_G_isField E true C n [(2, v0), (0, v1)] (fun r C2 n2 => C2 = C ∧ n2 = n ∧ Q r) := by
  refine MA.of (by decide) rfl rfl 0 rfl (fun p e s m args below meth c => ?_)
  show AW p l e _ s m args below meth c E M_G_isField true _ n 0 0 0 [(2, v0), (0, v1)] [] C
  unfold P_G_isField at h
  refine AW.iload_n (dc hd_G_isField 0 rfl) rfl ?_
  refine AW.i2l (dc hd_G_isField 1 rfl) ?_
  refine AW.lconst (v := 0) (dc hd_G_isField 2 rfl) (by decide) (by decide +kernel) ?_
  refine AW.ra_n (dc hd_G_isField 3 rfl) rfl rfl rfl ?_
  obtain ⟨g_1, h⟩ := h
  refine AW.getf fl_10_214 (dc hd_G_isField 4 rfl) g_1 ?_
  refine AW.iconst (dc hd_G_isField 5 rfl) (by decide) ?_
  refine AW.isub (dc hd_G_isField 6 rfl) ?_
  refine AW.i2l (dc hd_G_isField 7 rfl) ?_
  refine AW.callS (As := [(1, v1), (1, 0), (1, w32 (C v0.toNat 18 - 1))]) (rest := []) (m_G_in l E n C v1 0 (w32 (C v0.toNat 18 - 1)) _ h) cb_10_113 sm_G_in (dc hd_G_isField 8 rfl) rfl rfl ⟨Nat.le_of_ble_eq_true rfl, Nat.le_of_ble_eq_true rfl⟩ ⟨(Nat.le_of_ble_eq_true rfl), (Nat.le_of_ble_eq_true rfl)⟩ (Nat.le_of_ble_eq_true rfl) (fun _ h => by cases h) (fun _ => rfl) (fun r_2 D_4 d_5 q_3 => ?_)
  obtain ⟨q_3a, q_3b, h⟩ := q_3
  subst D_4
  subst d_5
  show AW p l e _ s m args below meth c E M_G_isField true _ n _ _ _ [(2, v0), (0, v1)] [(0, r_2)] C
  obtain ⟨g_6, h⟩ := h
  exact AW.zret (dc hd_G_isField 9 rfl) rfl rfl (Nat.le_of_ble_eq_true rfl) (Nat.le_of_ble_eq_true rfl) g_6 ⟨rfl, rfl, h⟩
def B_G_cellMany_4 (n : Nat) (C : Cn) (v0 : Int) (Q : Int → Prop) (kz4 : Int × Int → Prop) (z : Int × Int) : Prop := match z with
  | (v1, v2) => okO n v0 10 ∧ ((C v0.toNat 10 < v2 → (Q v1)) ∧ (¬ C v0.toNat 10 < v2 → (okO n (PT v0.toNat 15) 12 ∧ (okI (PT v0.toNat 15) v2 ∧ (∀ v1_5 : Int, v1_5 = w32 (v1 + w32 (C (PT v0.toNat 15).toNat v2.toNat + 1)) → (kz4 (v1_5, w32 (v2 + 1))))))))
theorem bB_G_cellMany_4 (n : Nat) (C : Cn) (v0 : Int) (Q : Int → Prop) (kz4 : Int × Int → Prop) (hkz4 : ∀ (z1 : Int) (z2 : Int), kz4 (z1, z2) → AW p l e R s m args below meth c E M_G_cellMany true (fun r C2 n2 => C2 = C ∧ n2 = n ∧ Q r) n 0 0 4 [(2, v0), (0, z1), (0, z2)] [] C) (v1 : Int) (v2 : Int) (h : B_G_cellMany_4 n C v0 Q kz4 (v1, v2)) : AW p l e R s m args below meth c E M_G_cellMany true (fun r C2 n2 => C2 = C ∧ n2 = n ∧ Q r) n 0 0 4 [(2, v0), (0, v1), (0, v2)] [] C := by
  unfold B_G_cellMany_4 at h
  dsimp only at h
  refine AW.iload_n (dc hd_G_cellMany 4 rfl) rfl ?_
  refine AW.ra_n (dc hd_G_cellMany 5 rfl) rfl rfl rfl ?_
  obtain ⟨g_1, h⟩ := h
  refine AW.getf fl_10_221 (dc hd_G_cellMany 6 rfl) g_1 ?_
  refine AW.icmp_gt (t := 29) (dc hd_G_cellMany 7 rfl) (by decide) (fun c_2 => ?_) (fun c_2 => ?_)
  · have h := h.1 c_2
    refine AW.iload_n (dc hd_G_cellMany 19 rfl) rfl ?_
    exact AW.iret (dc hd_G_cellMany 20 rfl) rfl rfl (Nat.le_of_ble_eq_true rfl) (Nat.le_of_ble_eq_true rfl) ⟨rfl, rfl, h⟩
  · have h := h.2 c_2
    refine AW.iload_n (dc hd_G_cellMany 8 rfl) rfl ?_
    refine AW.ra_n (dc hd_G_cellMany 9 rfl) rfl rfl rfl ?_
    refine AW.getp fl_10_40 (dc hd_G_cellMany 10 rfl) g_1 rfl ?_
    refine AW.iload_n (dc hd_G_cellMany 11 rfl) rfl ?_
    obtain ⟨g_3, h⟩ := h
    obtain ⟨g_4, h⟩ := h
    refine AW.iald (dc hd_G_cellMany 12 rfl) g_3 g_4 ?_
    refine AW.iconst (dc hd_G_cellMany 13 rfl) (by decide) ?_
    refine AW.iadd (dc hd_G_cellMany 14 rfl) ?_
    refine AW.iadd (dc hd_G_cellMany 15 rfl) ?_
    refine AW.nm (fun v1_5 ev1_5 => ?_)
    have h := h v1_5 ev1_5
    refine AW.istore_n [(2, v0), (0, v1_5), (0, v2)] (dc hd_G_cellMany 16 rfl) (Nat.le_of_ble_eq_true rfl) rfl rfl ?_
    refine AW.iinc [(2, v0), (0, v1_5), (0, w32 (v2 + 1))] (dc hd_G_cellMany 17 rfl) rfl (Nat.le_of_ble_eq_true rfl) rfl rfl ?_
    refine AW.goto (t := 4) (dc hd_G_cellMany 18 rfl) (by decide) ?_
    exact hkz4 v1_5 (w32 (v2 + 1)) h
theorem aB_G_cellMany_4 (n : Nat) (C : Cn) (v0 : Int) (Q : Int → Prop) : ∀ (f : Nat) (z : Int × Int), lp (B_G_cellMany_4 n C v0 Q) f z → AW p l e R s m args below meth c E M_G_cellMany true (fun r C2 n2 => C2 = C ∧ n2 = n ∧ Q r) n 0 0 4 [(2, v0), (0, z.1), (0, z.2)] [] C := by
  intro f
  induction f with
  | zero => intro z h; exact False.elim h
  | succ f ih => intro z h; exact bB_G_cellMany_4 n C v0 Q (lp (B_G_cellMany_4 n C v0 Q) f) (fun a0 a1 h => ih (a0, a1) h) z.1 z.2 h
def P_G_cellMany (n : Nat) (C : Cn) (v0 : Int) (Q : Int → Prop) : Prop :=
  ∃ f_6 : Nat, lp (B_G_cellMany_4 n C v0 Q) f_6 (0, 0)
theorem m_G_cellMany (l : Launch) (E : Ev) (n : Nat) (C : Cn) (v0 : Int) (Q : Int → Prop) (h : P_G_cellMany n C v0 Q) : MA l y_G_cellMany M_G_cellMany E true C n [(2, v0)] (fun r C2 n2 => C2 = C ∧ n2 = n ∧ Q r) := by
  refine MA.of (by decide) rfl rfl 2 rfl (fun p e s m args below meth c => ?_)
  show AW p l e _ s m args below meth c E M_G_cellMany true _ n 0 0 0 [(2, v0), (9, 0), (9, 0)] [] C
  unfold P_G_cellMany at h
  refine AW.iconst (dc hd_G_cellMany 0 rfl) (by decide) ?_
  refine AW.istore_n [(2, v0), (0, 0), (9, 0)] (dc hd_G_cellMany 1 rfl) (Nat.le_of_ble_eq_true rfl) rfl rfl ?_
  refine AW.iconst (dc hd_G_cellMany 2 rfl) (by decide) ?_
  refine AW.istore_n [(2, v0), (0, 0), (0, 0)] (dc hd_G_cellMany 3 rfl) (Nat.le_of_ble_eq_true rfl) rfl rfl ?_
  obtain ⟨f_6, h⟩ := h
  exact aB_G_cellMany_4 n C v0 Q f_6 (0, 0) h
def J_G_areOverOneAnother_80 (n : Nat) (C : Cn) (Q : Int → Prop) : Prop :=
  Q 1
theorem aJ_G_areOverOneAnother_80 (n : Nat) (C : Cn) (Q : Int → Prop) (h : J_G_areOverOneAnother_80 n C Q) : AW p l e R s m args below meth c E M_G_areOverOneAnother true (fun r C2 n2 => C2 = C ∧ n2 = n ∧ Q r) n 0 0 80 [(9, 0), (9, 0), (9, 0), (9, 0), (9, 0)] [] C := by
  unfold J_G_areOverOneAnother_80 at h
  refine AW.iconst (dc hd_G_areOverOneAnother 50 rfl) (by decide) ?_
  exact AW.zret (dc hd_G_areOverOneAnother 51 rfl) rfl rfl (Nat.le_of_ble_eq_true rfl) (Nat.le_of_ble_eq_true rfl) (by decide) ⟨rfl, rfl, h⟩
def J_G_areOverOneAnother_52 (n : Nat) (C : Cn) (v0 v1 v2 v3 v4 : Int) (kz2 : Int → Prop) (kz13 : Int → Prop) (Q : Int → Prop) : Prop :=
  okO n v0 10 ∧ (okO n (PT v0.toNat 17) 17 ∧ (okI (PT v0.toNat 17) v3 ∧ (okO n (PT (PT v0.toNat 17).toNat v3.toNat) 12 ∧ (okI (PT (PT v0.toNat 17).toNat v3.toNat) (w32 (v4 - 1)) ∧ ((C (PT (PT v0.toNat 17).toNat v3.toNat).toNat (w32 (v4 - 1)).toNat = v2 → (okI (PT (PT v0.toNat 17).toNat v3.toNat) v4 ∧ ((C (PT (PT v0.toNat 17).toNat v3.toNat).toNat v4.toNat = v1 → (J_G_areOverOneAnother_80 n C Q)) ∧ (¬ C (PT (PT v0.toNat 17).toNat v3.toNat).toNat v4.toNat = v1 → (kz13 (w32 (v4 + 1))))))) ∧ (¬ C (PT (PT v0.toNat 17).toNat v3.toNat).toNat (w32 (v4 - 1)).toNat = v2 → (kz13 (w32 (v4 + 1)))))))))
theorem aJ_G_areOverOneAnother_52 (n : Nat) (C : Cn) (v0 v1 v2 v3 v4 : Int) (kz2 : Int → Prop) (kz13 : Int → Prop) (Q : Int → Prop) (hkz2 : ∀ (z3 : Int), kz2 z3 → AW p l e R s m args below meth c E M_G_areOverOneAnother true (fun r C2 n2 => C2 = C ∧ n2 = n ∧ Q r) n 0 0 2 [(2, v0), (0, v1), (0, v2), (0, z3), (9, 0)] [] C) (hkz13 : ∀ (z4 : Int), kz13 z4 → AW p l e R s m args below meth c E M_G_areOverOneAnother true (fun r C2 n2 => C2 = C ∧ n2 = n ∧ Q r) n 0 0 13 [(2, v0), (0, v1), (0, v2), (0, v3), (0, z4)] [] C) (h : J_G_areOverOneAnother_52 n C v0 v1 v2 v3 v4 kz2 kz13 Q) : AW p l e R s m args below meth c E M_G_areOverOneAnother true (fun r C2 n2 => C2 = C ∧ n2 = n ∧ Q r) n 0 0 52 [(2, v0), (0, v1), (0, v2), (0, v3), (0, v4)] [] C := by
  unfold J_G_areOverOneAnother_52 at h
  refine AW.ra_n (dc hd_G_areOverOneAnother 32 rfl) rfl rfl rfl ?_
  obtain ⟨g_12, h⟩ := h
  refine AW.getp fl_10_46 (dc hd_G_areOverOneAnother 33 rfl) g_12 rfl ?_
  refine AW.iload_n (dc hd_G_areOverOneAnother 34 rfl) rfl ?_
  obtain ⟨g_13, h⟩ := h
  obtain ⟨g_14, h⟩ := h
  refine AW.aaldp (by decide) (dc hd_G_areOverOneAnother 35 rfl) g_13 g_14 rfl ?_
  refine AW.iload (dc hd_G_areOverOneAnother 36 rfl) rfl ?_
  refine AW.iconst (dc hd_G_areOverOneAnother 37 rfl) (by decide) ?_
  refine AW.isub (dc hd_G_areOverOneAnother 38 rfl) ?_
  obtain ⟨g_15, h⟩ := h
  obtain ⟨g_16, h⟩ := h
  refine AW.iald (dc hd_G_areOverOneAnother 39 rfl) g_15 g_16 ?_
  refine AW.iload_n (dc hd_G_areOverOneAnother 40 rfl) rfl ?_
  refine AW.icmp_ne (t := 82) (dc hd_G_areOverOneAnother 41 rfl) (by decide) (fun c_17 => ?_) (fun c_17 => ?_)
  · have h := h.2 c_17
    refine AW.iinc [(2, v0), (0, v1), (0, v2), (0, v3), (0, w32 (v4 + 1))] (dc hd_G_areOverOneAnother 52 rfl) rfl (Nat.le_of_ble_eq_true rfl) rfl rfl ?_
    refine AW.goto (t := 13) (dc hd_G_areOverOneAnother 53 rfl) (by decide) ?_
    exact hkz13 (w32 (v4 + 1)) h
  · have h := h.1 c_17
    refine AW.ra_n (dc hd_G_areOverOneAnother 42 rfl) rfl rfl rfl ?_
    refine AW.getp fl_10_46 (dc hd_G_areOverOneAnother 43 rfl) g_12 rfl ?_
    refine AW.iload_n (dc hd_G_areOverOneAnother 44 rfl) rfl ?_
    refine AW.aaldp (by decide) (dc hd_G_areOverOneAnother 45 rfl) g_13 g_14 rfl ?_
    refine AW.iload (dc hd_G_areOverOneAnother 46 rfl) rfl ?_
    obtain ⟨g_18, h⟩ := h
    refine AW.iald (dc hd_G_areOverOneAnother 47 rfl) g_15 g_18 ?_
    refine AW.iload_n (dc hd_G_areOverOneAnother 48 rfl) rfl ?_
    refine AW.icmp_ne (t := 82) (dc hd_G_areOverOneAnother 49 rfl) (by decide) (fun c_19 => ?_) (fun c_19 => ?_)
    · have h := h.2 c_19
      refine AW.iinc [(2, v0), (0, v1), (0, v2), (0, v3), (0, w32 (v4 + 1))] (dc hd_G_areOverOneAnother 52 rfl) rfl (Nat.le_of_ble_eq_true rfl) rfl rfl ?_
      refine AW.goto (t := 13) (dc hd_G_areOverOneAnother 53 rfl) (by decide) ?_
      exact hkz13 (w32 (v4 + 1)) h
    · have h := h.1 c_19
      refine AW.fgt [(9, 0), (9, 0), (9, 0), (9, 0), (9, 0)] ⟨.inr rfl, .inr rfl, .inr rfl, .inr rfl, .inr rfl, trivial⟩ ?_
      exact aJ_G_areOverOneAnother_80 n C Q h
def B_G_areOverOneAnother_13 (n : Nat) (C : Cn) (v0 v1 v2 v3 : Int) (kz2 : Int → Prop) (Q : Int → Prop) (kz13 : Int → Prop) (v4 : Int) : Prop :=
  okO n v0 10 ∧ (okO n (PT v0.toNat 15) 12 ∧ (okI (PT v0.toNat 15) v3 ∧ ((C (PT v0.toNat 15).toNat v3.toNat < v4 → (kz2 (w32 (v3 + 1)))) ∧ (¬ C (PT v0.toNat 15).toNat v3.toNat < v4 → (okO n (PT v0.toNat 17) 17 ∧ (okI (PT v0.toNat 17) v3 ∧ (okO n (PT (PT v0.toNat 17).toNat v3.toNat) 12 ∧ (okI (PT (PT v0.toNat 17).toNat v3.toNat) (w32 (v4 - 1)) ∧ ((C (PT (PT v0.toNat 17).toNat v3.toNat).toNat (w32 (v4 - 1)).toNat = v1 → (okI (PT (PT v0.toNat 17).toNat v3.toNat) v4 ∧ ((C (PT (PT v0.toNat 17).toNat v3.toNat).toNat v4.toNat = v2 → (J_G_areOverOneAnother_80 n C Q)) ∧ (¬ C (PT (PT v0.toNat 17).toNat v3.toNat).toNat v4.toNat = v2 → (J_G_areOverOneAnother_52 n C v0 v1 v2 v3 v4 kz2 kz13 Q))))) ∧ (¬ C (PT (PT v0.toNat 17).toNat v3.toNat).toNat (w32 (v4 - 1)).toNat = v1 → (J_G_areOverOneAnother_52 n C v0 v1 v2 v3 v4 kz2 kz13 Q)))))))))))
theorem bB_G_areOverOneAnother_13 (n : Nat) (C : Cn) (v0 v1 v2 v3 : Int) (kz2 : Int → Prop) (Q : Int → Prop) (hkz2 : ∀ (z3 : Int), kz2 z3 → AW p l e R s m args below meth c E M_G_areOverOneAnother true (fun r C2 n2 => C2 = C ∧ n2 = n ∧ Q r) n 0 0 2 [(2, v0), (0, v1), (0, v2), (0, z3), (9, 0)] [] C) (kz13 : Int → Prop) (hkz13 : ∀ (z4 : Int), kz13 z4 → AW p l e R s m args below meth c E M_G_areOverOneAnother true (fun r C2 n2 => C2 = C ∧ n2 = n ∧ Q r) n 0 0 13 [(2, v0), (0, v1), (0, v2), (0, v3), (0, z4)] [] C) (v4 : Int) (h : B_G_areOverOneAnother_13 n C v0 v1 v2 v3 kz2 Q kz13 v4) : AW p l e R s m args below meth c E M_G_areOverOneAnother true (fun r C2 n2 => C2 = C ∧ n2 = n ∧ Q r) n 0 0 13 [(2, v0), (0, v1), (0, v2), (0, v3), (0, v4)] [] C := by
  unfold B_G_areOverOneAnother_13 at h
  refine AW.iload (dc hd_G_areOverOneAnother 8 rfl) rfl ?_
  refine AW.ra_n (dc hd_G_areOverOneAnother 9 rfl) rfl rfl rfl ?_
  obtain ⟨g_3, h⟩ := h
  refine AW.getp fl_10_40 (dc hd_G_areOverOneAnother 10 rfl) g_3 rfl ?_
  refine AW.iload_n (dc hd_G_areOverOneAnother 11 rfl) rfl ?_
  obtain ⟨g_4, h⟩ := h
  obtain ⟨g_5, h⟩ := h
  refine AW.iald (dc hd_G_areOverOneAnother 12 rfl) g_4 g_5 ?_
  refine AW.icmp_gt (t := 88) (dc hd_G_areOverOneAnother 13 rfl) (by decide) (fun c_6 => ?_) (fun c_6 => ?_)
  · have h := h.1 c_6
    refine AW.iinc [(2, v0), (0, v1), (0, v2), (0, w32 (v3 + 1)), (0, v4)] (dc hd_G_areOverOneAnother 54 rfl) rfl (Nat.le_of_ble_eq_true rfl) rfl rfl ?_
    refine AW.goto (t := 2) (dc hd_G_areOverOneAnother 55 rfl) (by decide) ?_
    refine AW.fgt [(2, v0), (0, v1), (0, v2), (0, w32 (v3 + 1)), (9, 0)] ⟨.inl rfl, .inl rfl, .inl rfl, .inl rfl, .inr rfl, trivial⟩ ?_
    exact hkz2 (w32 (v3 + 1)) h
  · have h := h.2 c_6
    refine AW.ra_n (dc hd_G_areOverOneAnother 14 rfl) rfl rfl rfl ?_
    refine AW.getp fl_10_46 (dc hd_G_areOverOneAnother 15 rfl) g_3 rfl ?_
    refine AW.iload_n (dc hd_G_areOverOneAnother 16 rfl) rfl ?_
    obtain ⟨g_7, h⟩ := h
    obtain ⟨g_8, h⟩ := h
    refine AW.aaldp (by decide) (dc hd_G_areOverOneAnother 17 rfl) g_7 g_8 rfl ?_
    refine AW.iload (dc hd_G_areOverOneAnother 18 rfl) rfl ?_
    refine AW.iconst (dc hd_G_areOverOneAnother 19 rfl) (by decide) ?_
    refine AW.isub (dc hd_G_areOverOneAnother 20 rfl) ?_
    obtain ⟨g_9, h⟩ := h
    obtain ⟨g_10, h⟩ := h
    refine AW.iald (dc hd_G_areOverOneAnother 21 rfl) g_9 g_10 ?_
    refine AW.iload_n (dc hd_G_areOverOneAnother 22 rfl) rfl ?_
    refine AW.icmp_ne (t := 52) (dc hd_G_areOverOneAnother 23 rfl) (by decide) (fun c_11 => ?_) (fun c_11 => ?_)
    · have h := h.2 c_11
      exact aJ_G_areOverOneAnother_52 n C v0 v1 v2 v3 v4 kz2 kz13 Q hkz2 hkz13 h
    · have h := h.1 c_11
      refine AW.ra_n (dc hd_G_areOverOneAnother 24 rfl) rfl rfl rfl ?_
      refine AW.getp fl_10_46 (dc hd_G_areOverOneAnother 25 rfl) g_3 rfl ?_
      refine AW.iload_n (dc hd_G_areOverOneAnother 26 rfl) rfl ?_
      refine AW.aaldp (by decide) (dc hd_G_areOverOneAnother 27 rfl) g_7 g_8 rfl ?_
      refine AW.iload (dc hd_G_areOverOneAnother 28 rfl) rfl ?_
      obtain ⟨g_20, h⟩ := h
      refine AW.iald (dc hd_G_areOverOneAnother 29 rfl) g_9 g_20 ?_
      refine AW.iload_n (dc hd_G_areOverOneAnother 30 rfl) rfl ?_
      refine AW.icmp_eq (t := 80) (dc hd_G_areOverOneAnother 31 rfl) (by decide) (fun c_21 => ?_) (fun c_21 => ?_)
      · have h := h.1 c_21
        refine AW.fgt [(9, 0), (9, 0), (9, 0), (9, 0), (9, 0)] ⟨.inr rfl, .inr rfl, .inr rfl, .inr rfl, .inr rfl, trivial⟩ ?_
        exact aJ_G_areOverOneAnother_80 n C Q h
      · have h := h.2 c_21
        exact aJ_G_areOverOneAnother_52 n C v0 v1 v2 v3 v4 kz2 kz13 Q hkz2 hkz13 h
theorem aB_G_areOverOneAnother_13 (n : Nat) (C : Cn) (v0 v1 v2 v3 : Int) (kz2 : Int → Prop) (Q : Int → Prop) (hkz2 : ∀ (z3 : Int), kz2 z3 → AW p l e R s m args below meth c E M_G_areOverOneAnother true (fun r C2 n2 => C2 = C ∧ n2 = n ∧ Q r) n 0 0 2 [(2, v0), (0, v1), (0, v2), (0, z3), (9, 0)] [] C) : ∀ (f : Nat) (z : Int), lp (B_G_areOverOneAnother_13 n C v0 v1 v2 v3 kz2 Q) f z → AW p l e R s m args below meth c E M_G_areOverOneAnother true (fun r C2 n2 => C2 = C ∧ n2 = n ∧ Q r) n 0 0 13 [(2, v0), (0, v1), (0, v2), (0, v3), (0, z)] [] C := by
  intro f
  induction f with
  | zero => intro z h; exact False.elim h
  | succ f ih => intro z h; exact bB_G_areOverOneAnother_13 n C v0 v1 v2 v3 kz2 Q hkz2 (lp (B_G_areOverOneAnother_13 n C v0 v1 v2 v3 kz2 Q) f) (fun a0 h => ih a0 h) z h
def B_G_areOverOneAnother_2 (n : Nat) (C : Cn) (v0 v1 v2 : Int) (Q : Int → Prop) (kz2 : Int → Prop) (v3 : Int) : Prop :=
  okO n v0 10 ∧ ((C v0.toNat 10 < v3 → (Q 0)) ∧ (¬ C v0.toNat 10 < v3 → (∃ f_22 : Nat, lp (B_G_areOverOneAnother_13 n C v0 v1 v2 v3 kz2 Q) f_22 1)))
theorem bB_G_areOverOneAnother_2 (n : Nat) (C : Cn) (v0 v1 v2 : Int) (Q : Int → Prop) (kz2 : Int → Prop) (hkz2 : ∀ (z3 : Int), kz2 z3 → AW p l e R s m args below meth c E M_G_areOverOneAnother true (fun r C2 n2 => C2 = C ∧ n2 = n ∧ Q r) n 0 0 2 [(2, v0), (0, v1), (0, v2), (0, z3), (9, 0)] [] C) (v3 : Int) (h : B_G_areOverOneAnother_2 n C v0 v1 v2 Q kz2 v3) : AW p l e R s m args below meth c E M_G_areOverOneAnother true (fun r C2 n2 => C2 = C ∧ n2 = n ∧ Q r) n 0 0 2 [(2, v0), (0, v1), (0, v2), (0, v3), (9, 0)] [] C := by
  unfold B_G_areOverOneAnother_2 at h
  refine AW.iload_n (dc hd_G_areOverOneAnother 2 rfl) rfl ?_
  refine AW.ra_n (dc hd_G_areOverOneAnother 3 rfl) rfl rfl rfl ?_
  obtain ⟨g_1, h⟩ := h
  refine AW.getf fl_10_221 (dc hd_G_areOverOneAnother 4 rfl) g_1 ?_
  refine AW.icmp_gt (t := 94) (dc hd_G_areOverOneAnother 5 rfl) (by decide) (fun c_2 => ?_) (fun c_2 => ?_)
  · have h := h.1 c_2
    refine AW.iconst (dc hd_G_areOverOneAnother 56 rfl) (by decide) ?_
    exact AW.zret (dc hd_G_areOverOneAnother 57 rfl) rfl rfl (Nat.le_of_ble_eq_true rfl) (Nat.le_of_ble_eq_true rfl) (by decide) ⟨rfl, rfl, h⟩
  · have h := h.2 c_2
    refine AW.iconst (dc hd_G_areOverOneAnother 6 rfl) (by decide) ?_
    refine AW.istore [(2, v0), (0, v1), (0, v2), (0, v3), (0, 1)] (dc hd_G_areOverOneAnother 7 rfl) (Nat.le_of_ble_eq_true rfl) rfl rfl ?_
    obtain ⟨f_22, h⟩ := h
    exact aB_G_areOverOneAnother_13 n C v0 v1 v2 v3 kz2 Q hkz2 f_22 1 h
theorem aB_G_areOverOneAnother_2 (n : Nat) (C : Cn) (v0 v1 v2 : Int) (Q : Int → Prop) : ∀ (f : Nat) (z : Int), lp (B_G_areOverOneAnother_2 n C v0 v1 v2 Q) f z → AW p l e R s m args below meth c E M_G_areOverOneAnother true (fun r C2 n2 => C2 = C ∧ n2 = n ∧ Q r) n 0 0 2 [(2, v0), (0, v1), (0, v2), (0, z), (9, 0)] [] C := by
  intro f
  induction f with
  | zero => intro z h; exact False.elim h
  | succ f ih => intro z h; exact bB_G_areOverOneAnother_2 n C v0 v1 v2 Q (lp (B_G_areOverOneAnother_2 n C v0 v1 v2 Q) f) (fun a0 h => ih a0 h) z h
def P_G_areOverOneAnother (n : Nat) (C : Cn) (v0 v1 v2 : Int) (Q : Int → Prop) : Prop :=
  ∃ f_23 : Nat, lp (B_G_areOverOneAnother_2 n C v0 v1 v2 Q) f_23 0
theorem m_G_areOverOneAnother (l : Launch) (E : Ev) (n : Nat) (C : Cn) (v0 v1 v2 : Int) (Q : Int → Prop) (h : P_G_areOverOneAnother n C v0 v1 v2 Q) : MA l y_G_areOverOneAnother M_G_areOverOneAnother E true C n [(2, v0), (0, v1), (0, v2)] (fun r C2 n2 => C2 = C ∧ n2 = n ∧ Q r) := by
  refine MA.of (by decide) rfl rfl 2 rfl (fun p e s m args below meth c => ?_)
  show AW p l e _ s m args below meth c E M_G_areOverOneAnother true _ n 0 0 0 [(2, v0), (0, v1), (0, v2), (9, 0), (9, 0)] [] C
  unfold P_G_areOverOneAnother at h
  refine AW.iconst (dc hd_G_areOverOneAnother 0 rfl) (by decide) ?_
  refine AW.istore_n [(2, v0), (0, v1), (0, v2), (0, 0), (9, 0)] (dc hd_G_areOverOneAnother 1 rfl) (Nat.le_of_ble_eq_true rfl) rfl rfl ?_
  obtain ⟨f_23, h⟩ := h
  exact aB_G_areOverOneAnother_2 n C v0 v1 v2 Q f_23 0 h
def J_G_twos_39 (n : Nat) (C : Cn) (v0 v2 v3 s0 s1 : Int) (kz4 : Int × Int → Prop) (kz16 : Int × Int → Prop) (Q : Int → Prop) : Prop :=
  kz16 (w32 (s0 + s1), w32 (v3 + 1))
theorem aJ_G_twos_39 (n : Nat) (C : Cn) (v0 v2 v3 s0 s1 : Int) (kz4 : Int × Int → Prop) (kz16 : Int × Int → Prop) (Q : Int → Prop) (hkz4 : ∀ (z1 : Int) (z2 : Int), kz4 (z1, z2) → AW p l e R s m args below meth c E M_G_twos true (fun r C2 n2 => C2 = C ∧ n2 = n ∧ Q r) n 0 0 4 [(2, v0), (0, z1), (0, z2), (9, 0)] [] C) (hkz16 : ∀ (z1 : Int) (z3 : Int), kz16 (z1, z3) → AW p l e R s m args below meth c E M_G_twos true (fun r C2 n2 => C2 = C ∧ n2 = n ∧ Q r) n 0 0 16 [(2, v0), (0, z1), (0, v2), (0, z3)] [] C) (h : J_G_twos_39 n C v0 v2 v3 s0 s1 kz4 kz16 Q) : AW p l e R s m args below meth c E M_G_twos true (fun r C2 n2 => C2 = C ∧ n2 = n ∧ Q r) n 0 0 39 [(2, v0), (9, 0), (0, v2), (0, v3)] [(0, s1), (0, s0)] C := by
  unfold J_G_twos_39 at h
  refine AW.iadd (dc hd_G_twos 25 rfl) ?_
  refine AW.istore_n [(2, v0), (0, w32 (s0 + s1)), (0, v2), (0, v3)] (dc hd_G_twos 26 rfl) (Nat.le_of_ble_eq_true rfl) rfl rfl ?_
  refine AW.iinc [(2, v0), (0, w32 (s0 + s1)), (0, v2), (0, w32 (v3 + 1))] (dc hd_G_twos 27 rfl) rfl (Nat.le_of_ble_eq_true rfl) rfl rfl ?_
  refine AW.goto (t := 16) (dc hd_G_twos 28 rfl) (by decide) ?_
  exact hkz16 (w32 (s0 + s1)) (w32 (v3 + 1)) h
def B_G_twos_16 (n : Nat) (C : Cn) (v0 v2 : Int) (kz4 : Int × Int → Prop) (Q : Int → Prop) (kz16 : Int × Int → Prop) (z : Int × Int) : Prop := match z with
  | (v1, v3) => okO n v0 10 ∧ ((C v0.toNat 18 ≤ v3 → (kz4 (v1, w32 (v2 + 1)))) ∧ (¬ C v0.toNat 18 ≤ v3 → (P_G_areOverOneAnother n C v0 v2 v3 (fun (r_5 : Int) => J_G_twos_39 n C v0 v2 v3 v1 (if r_5 = 0 then 0 else 1) kz4 kz16 Q))))
theorem bB_G_twos_16 (n : Nat) (C : Cn) (v0 v2 : Int) (kz4 : Int × Int → Prop) (Q : Int → Prop) (hkz4 : ∀ (z1 : Int) (z2 : Int), kz4 (z1, z2) → AW p l e R s m args below meth c E M_G_twos true (fun r C2 n2 => C2 = C ∧ n2 = n ∧ Q r) n 0 0 4 [(2, v0), (0, z1), (0, z2), (9, 0)] [] C) (kz16 : Int × Int → Prop) (hkz16 : ∀ (z1 : Int) (z3 : Int), kz16 (z1, z3) → AW p l e R s m args below meth c E M_G_twos true (fun r C2 n2 => C2 = C ∧ n2 = n ∧ Q r) n 0 0 16 [(2, v0), (0, z1), (0, v2), (0, z3)] [] C) (v1 : Int) (v3 : Int) (h : B_G_twos_16 n C v0 v2 kz4 Q kz16 (v1, v3)) : AW p l e R s m args below meth c E M_G_twos true (fun r C2 n2 => C2 = C ∧ n2 = n ∧ Q r) n 0 0 16 [(2, v0), (0, v1), (0, v2), (0, v3)] [] C := by
  unfold B_G_twos_16 at h
  dsimp only at h
  refine AW.iload_n (dc hd_G_twos 12 rfl) rfl ?_
  refine AW.ra_n (dc hd_G_twos 13 rfl) rfl rfl rfl ?_
  obtain ⟨g_3, h⟩ := h
  refine AW.getf fl_10_214 (dc hd_G_twos 14 rfl) g_3 ?_
  refine AW.icmp_ge (t := 47) (dc hd_G_twos 15 rfl) (by decide) (fun c_4 => ?_) (fun c_4 => ?_)
  · have h := h.1 c_4
    refine AW.iinc [(2, v0), (0, v1), (0, w32 (v2 + 1)), (0, v3)] (dc hd_G_twos 29 rfl) rfl (Nat.le_of_ble_eq_true rfl) rfl rfl ?_
    refine AW.goto (t := 4) (dc hd_G_twos 30 rfl) (by decide) ?_
    refine AW.fgt [(2, v0), (0, v1), (0, w32 (v2 + 1)), (9, 0)] ⟨.inl rfl, .inl rfl, .inl rfl, .inr rfl, trivial⟩ ?_
    exact hkz4 v1 (w32 (v2 + 1)) h
  · have h := h.2 c_4
    refine AW.iload_n (dc hd_G_twos 16 rfl) rfl ?_
    refine AW.ra_n (dc hd_G_twos 17 rfl) rfl rfl rfl ?_
    refine AW.iload_n (dc hd_G_twos 18 rfl) rfl ?_
    refine AW.iload_n (dc hd_G_twos 19 rfl) rfl ?_
    refine AW.callV (As := [(0, v2), (0, v3)]) (rest := [(0, v1)]) (ci := 10) (m_G_areOverOneAnother l E n C v0 v2 v3 _ h) cb_10_254 im_G_areOverOneAnother se_G_areOverOneAnother ⟨_, _, rfl⟩ (by decide) (dc hd_G_twos 20 rfl) g_3 rfl rfl ⟨Nat.le_of_ble_eq_true rfl, Nat.le_of_ble_eq_true rfl⟩ ⟨(Nat.le_of_ble_eq_true rfl), (Nat.le_of_ble_eq_true rfl)⟩ (Nat.le_of_ble_eq_true rfl) (fun _ h => by cases h) (fun _ => rfl) (fun r_5 D_7 d_8 q_6 => ?_)
    obtain ⟨q_6a, q_6b, h⟩ := q_6
    subst D_7
    subst d_8
    show AW p l e _ s m args below meth c E M_G_twos true _ n _ _ _ [(2, v0), (0, v1), (0, v2), (0, v3)] [(0, r_5), (0, v1)] C
    refine AW.if_eq (t := 38) (dc hd_G_twos 21 rfl) (by decide) (fun c_9 => ?_) (fun c_9 => ?_)
    · simp only [if_pos (show r_5 = 0 from c_9)] at h
      refine AW.iconst (dc hd_G_twos 24 rfl) (by decide) ?_
      refine AW.fgt [(2, v0), (9, 0), (0, v2), (0, v3)] ⟨.inl rfl, .inr rfl, .inl rfl, .inl rfl, trivial⟩ ?_
      exact aJ_G_twos_39 n C _ _ _ _ _ kz4 kz16 Q hkz4 hkz16 h
    · simp only [if_neg (show ¬ (r_5 = 0) from c_9)] at h
      refine AW.iconst (dc hd_G_twos 22 rfl) (by decide) ?_
      refine AW.goto (t := 39) (dc hd_G_twos 23 rfl) (by decide) ?_
      refine AW.fgt [(2, v0), (9, 0), (0, v2), (0, v3)] ⟨.inl rfl, .inr rfl, .inl rfl, .inl rfl, trivial⟩ ?_
      exact aJ_G_twos_39 n C _ _ _ _ _ kz4 kz16 Q hkz4 hkz16 h
theorem aB_G_twos_16 (n : Nat) (C : Cn) (v0 v2 : Int) (kz4 : Int × Int → Prop) (Q : Int → Prop) (hkz4 : ∀ (z1 : Int) (z2 : Int), kz4 (z1, z2) → AW p l e R s m args below meth c E M_G_twos true (fun r C2 n2 => C2 = C ∧ n2 = n ∧ Q r) n 0 0 4 [(2, v0), (0, z1), (0, z2), (9, 0)] [] C) : ∀ (f : Nat) (z : Int × Int), lp (B_G_twos_16 n C v0 v2 kz4 Q) f z → AW p l e R s m args below meth c E M_G_twos true (fun r C2 n2 => C2 = C ∧ n2 = n ∧ Q r) n 0 0 16 [(2, v0), (0, z.1), (0, v2), (0, z.2)] [] C := by
  intro f
  induction f with
  | zero => intro z h; exact False.elim h
  | succ f ih => intro z h; exact bB_G_twos_16 n C v0 v2 kz4 Q hkz4 (lp (B_G_twos_16 n C v0 v2 kz4 Q) f) (fun a0 a1 h => ih (a0, a1) h) z.1 z.2 h
def B_G_twos_4 (n : Nat) (C : Cn) (v0 : Int) (Q : Int → Prop) (kz4 : Int × Int → Prop) (z : Int × Int) : Prop := match z with
  | (v1, v2) => okO n v0 10 ∧ ((C v0.toNat 18 ≤ v2 → (Q v1)) ∧ (¬ C v0.toNat 18 ≤ v2 → (∃ f_10 : Nat, lp (B_G_twos_16 n C v0 v2 kz4 Q) f_10 (v1, w32 (v2 + 1)))))
theorem bB_G_twos_4 (n : Nat) (C : Cn) (v0 : Int) (Q : Int → Prop) (kz4 : Int × Int → Prop) (hkz4 : ∀ (z1 : Int) (z2 : Int), kz4 (z1, z2) → AW p l e R s m args below meth c E M_G_twos true (fun r C2 n2 => C2 = C ∧ n2 = n ∧ Q r) n 0 0 4 [(2, v0), (0, z1), (0, z2), (9, 0)] [] C) (v1 : Int) (v2 : Int) (h : B_G_twos_4 n C v0 Q kz4 (v1, v2)) : AW p l e R s m args below meth c E M_G_twos true (fun r C2 n2 => C2 = C ∧ n2 = n ∧ Q r) n 0 0 4 [(2, v0), (0, v1), (0, v2), (9, 0)] [] C := by
  unfold B_G_twos_4 at h
  dsimp only at h
  refine AW.iload_n (dc hd_G_twos 4 rfl) rfl ?_
  refine AW.ra_n (dc hd_G_twos 5 rfl) rfl rfl rfl ?_
  obtain ⟨g_1, h⟩ := h
  refine AW.getf fl_10_214 (dc hd_G_twos 6 rfl) g_1 ?_
  refine AW.icmp_ge (t := 53) (dc hd_G_twos 7 rfl) (by decide) (fun c_2 => ?_) (fun c_2 => ?_)
  · have h := h.1 c_2
    refine AW.iload_n (dc hd_G_twos 31 rfl) rfl ?_
    exact AW.iret (dc hd_G_twos 32 rfl) rfl rfl (Nat.le_of_ble_eq_true rfl) (Nat.le_of_ble_eq_true rfl) ⟨rfl, rfl, h⟩
  · have h := h.2 c_2
    refine AW.iload_n (dc hd_G_twos 8 rfl) rfl ?_
    refine AW.iconst (dc hd_G_twos 9 rfl) (by decide) ?_
    refine AW.iadd (dc hd_G_twos 10 rfl) ?_
    refine AW.istore_n [(2, v0), (0, v1), (0, v2), (0, w32 (v2 + 1))] (dc hd_G_twos 11 rfl) (Nat.le_of_ble_eq_true rfl) rfl rfl ?_
    obtain ⟨f_10, h⟩ := h
    exact aB_G_twos_16 n C v0 v2 kz4 Q hkz4 f_10 (v1, w32 (v2 + 1)) h
theorem aB_G_twos_4 (n : Nat) (C : Cn) (v0 : Int) (Q : Int → Prop) : ∀ (f : Nat) (z : Int × Int), lp (B_G_twos_4 n C v0 Q) f z → AW p l e R s m args below meth c E M_G_twos true (fun r C2 n2 => C2 = C ∧ n2 = n ∧ Q r) n 0 0 4 [(2, v0), (0, z.1), (0, z.2), (9, 0)] [] C := by
  intro f
  induction f with
  | zero => intro z h; exact False.elim h
  | succ f ih => intro z h; exact bB_G_twos_4 n C v0 Q (lp (B_G_twos_4 n C v0 Q) f) (fun a0 a1 h => ih (a0, a1) h) z.1 z.2 h
def P_G_twos (n : Nat) (C : Cn) (v0 : Int) (Q : Int → Prop) : Prop :=
  ∃ f_11 : Nat, lp (B_G_twos_4 n C v0 Q) f_11 (0, 0)
theorem m_G_twos (l : Launch) (E : Ev) (n : Nat) (C : Cn) (v0 : Int) (Q : Int → Prop) (h : P_G_twos n C v0 Q) : MA l y_G_twos M_G_twos E true C n [(2, v0)] (fun r C2 n2 => C2 = C ∧ n2 = n ∧ Q r) := by
  refine MA.of (by decide) rfl rfl 3 rfl (fun p e s m args below meth c => ?_)
  show AW p l e _ s m args below meth c E M_G_twos true _ n 0 0 0 [(2, v0), (9, 0), (9, 0), (9, 0)] [] C
  unfold P_G_twos at h
  refine AW.iconst (dc hd_G_twos 0 rfl) (by decide) ?_
  refine AW.istore_n [(2, v0), (0, 0), (9, 0), (9, 0)] (dc hd_G_twos 1 rfl) (Nat.le_of_ble_eq_true rfl) rfl rfl ?_
  refine AW.iconst (dc hd_G_twos 2 rfl) (by decide) ?_
  refine AW.istore_n [(2, v0), (0, 0), (0, 0), (9, 0)] (dc hd_G_twos 3 rfl) (Nat.le_of_ble_eq_true rfl) rfl rfl ?_
  obtain ⟨f_11, h⟩ := h
  exact aB_G_twos_4 n C v0 Q f_11 (0, 0) h
def P_G_many (n : Nat) (C : Cn) (v0 v1 : Int) (Q : Int → Cn → Prop) : Prop :=
  P_G_in n C v1 0 3 (fun (r_1 : Int) => (r_1 = 0 → (okO n v0 10 ∧ (P_G_finds n C v0 0 (fun (r_25 : Int) (C_27 : Cn) => Q r_25 C_27)))) ∧ (¬ r_1 = 0 → (okO n v0 10 ∧ (P_G_maps n C v0 (fun (_ : Int) (C_7 : Cn) => (v1 = 0 → (Q (C_7 v0.toNat 10) C_7)) ∧ (¬ v1 = 0 → ((v1 = 1 → (P_G_cellMany n C_7 v0 (fun (r_21 : Int) => Q r_21 C_7))) ∧ (¬ v1 = 1 → ((v1 = 2 → (Q (C_7 v0.toNat 18) C_7)) ∧ (¬ v1 = 2 → (P_G_twos n C_7 v0 (fun (r_17 : Int) => Q r_17 C_7))))))))))))
theorem m_G_many (l : Launch) (E : Ev) (n : Nat) (C : Cn) (v0 v1 : Int) (Q : Int → Cn → Prop) (h : P_G_many n C v0 v1 Q) : MA l y_G_many M_G_many E true C n [(2, v0), (0, v1)] (fun r C2 n2 => n2 = n ∧ Q r C2) := by
  refine MA.of (by decide) rfl rfl 0 rfl (fun p e s m args below meth c => ?_)
  show AW p l e _ s m args below meth c E M_G_many true _ n 0 0 0 [(2, v0), (0, v1)] [] C
  unfold P_G_many at h
  refine AW.iload_n (dc hd_G_many 0 rfl) rfl ?_
  refine AW.i2l (dc hd_G_many 1 rfl) ?_
  refine AW.lconst (v := 0) (dc hd_G_many 2 rfl) (by decide) (by decide +kernel) ?_
  refine AW.ldc2 (v := 3) (dc hd_G_many 3 rfl) ck_10_217 (by decide) rfl ?_
  refine AW.callS (As := [(1, v1), (1, 0), (1, 3)]) (rest := []) (m_G_in l E n C v1 0 3 _ h) cb_10_113 sm_G_in (dc hd_G_many 4 rfl) rfl rfl ⟨Nat.le_of_ble_eq_true rfl, Nat.le_of_ble_eq_true rfl⟩ ⟨(Nat.le_of_ble_eq_true rfl), (Nat.le_of_ble_eq_true rfl)⟩ (Nat.le_of_ble_eq_true rfl) (fun _ h => by cases h) (fun _ => rfl) (fun r_1 D_3 d_4 q_2 => ?_)
  obtain ⟨q_2a, q_2b, h⟩ := q_2
  subst D_3
  subst d_4
  show AW p l e _ s m args below meth c E M_G_many true _ n _ _ _ [(2, v0), (0, v1)] [(0, r_1)] C
  refine AW.if_ne (t := 18) (dc hd_G_many 5 rfl) (by decide) (fun c_5 => ?_) (fun c_5 => ?_)
  · have h := h.2 c_5
    refine AW.ra_n (dc hd_G_many 10 rfl) rfl rfl rfl ?_
    obtain ⟨g_6, h⟩ := h
    refine AW.callV (As := []) (rest := []) (ci := 10) (m_G_maps l E n C v0 _ h) cb_10_211 im_G_maps se_G_maps ⟨_, _, rfl⟩ (by decide) (dc hd_G_many 11 rfl) g_6 rfl rfl ⟨Nat.le_of_ble_eq_true rfl, Nat.le_of_ble_eq_true rfl⟩ ⟨(Nat.le_of_ble_eq_true rfl), (Nat.le_of_ble_eq_true rfl)⟩ (Nat.le_of_ble_eq_true rfl) (fun _ h => by cases h) (fun _ => rfl) (fun u_9 C_7 d_10 q_8 => ?_)
    obtain ⟨q_8a, h⟩ := q_8
    subst d_10
    show AW p l e _ s m args below meth c E M_G_many true _ n _ _ _ [(2, v0), (0, v1)] [] C_7
    refine AW.iload_n (dc hd_G_many 12 rfl) rfl ?_
    refine AW.if_ne (t := 33) (dc hd_G_many 13 rfl) (by decide) (fun c_11 => ?_) (fun c_11 => ?_)
    · have h := h.2 c_11
      refine AW.iload_n (dc hd_G_many 17 rfl) rfl ?_
      refine AW.iconst (dc hd_G_many 18 rfl) (by decide) ?_
      refine AW.icmp_ne (t := 45) (dc hd_G_many 19 rfl) (by decide) (fun c_14 => ?_) (fun c_14 => ?_)
      · have h := h.2 c_14
        refine AW.iload_n (dc hd_G_many 23 rfl) rfl ?_
        refine AW.iconst (dc hd_G_many 24 rfl) (by decide) ?_
        refine AW.icmp_ne (t := 57) (dc hd_G_many 25 rfl) (by decide) (fun c_16 => ?_) (fun c_16 => ?_)
        · have h := h.2 c_16
          refine AW.ra_n (dc hd_G_many 29 rfl) rfl rfl rfl ?_
          refine AW.callV (As := []) (rest := []) (ci := 10) (m_G_twos l E n C_7 v0 _ h) cb_10_261 im_G_twos se_G_twos ⟨_, _, rfl⟩ (by decide) (dc hd_G_many 30 rfl) g_6 rfl rfl ⟨Nat.le_of_ble_eq_true rfl, Nat.le_of_ble_eq_true rfl⟩ ⟨(Nat.le_of_ble_eq_true rfl), (Nat.le_of_ble_eq_true rfl)⟩ (Nat.le_of_ble_eq_true rfl) (fun _ h => by cases h) (fun _ => rfl) (fun r_17 D_19 d_20 q_18 => ?_)
          obtain ⟨q_18a, q_18b, h⟩ := q_18
          subst D_19
          subst d_20
          show AW p l e _ s m args below meth c E M_G_many true _ n _ _ _ [(2, v0), (0, v1)] [(0, r_17)] C_7
          exact AW.iret (dc hd_G_many 31 rfl) rfl rfl (Nat.le_of_ble_eq_true rfl) (Nat.le_of_ble_eq_true rfl) ⟨rfl, h⟩
        · have h := h.1 c_16
          refine AW.ra_n (dc hd_G_many 26 rfl) rfl rfl rfl ?_
          refine AW.getf fl_10_214 (dc hd_G_many 27 rfl) g_6 ?_
          refine AW.goto (t := 61) (dc hd_G_many 28 rfl) (by decide) ?_
          exact AW.iret (dc hd_G_many 31 rfl) rfl rfl (Nat.le_of_ble_eq_true rfl) (Nat.le_of_ble_eq_true rfl) ⟨rfl, h⟩
      · have h := h.1 c_14
        refine AW.ra_n (dc hd_G_many 20 rfl) rfl rfl rfl ?_
        refine AW.callV (As := []) (rest := []) (ci := 10) (m_G_cellMany l E n C_7 v0 _ h) cb_10_257 im_G_cellMany se_G_cellMany ⟨_, _, rfl⟩ (by decide) (dc hd_G_many 21 rfl) g_6 rfl rfl ⟨Nat.le_of_ble_eq_true rfl, Nat.le_of_ble_eq_true rfl⟩ ⟨(Nat.le_of_ble_eq_true rfl), (Nat.le_of_ble_eq_true rfl)⟩ (Nat.le_of_ble_eq_true rfl) (fun _ h => by cases h) (fun _ => rfl) (fun r_21 D_23 d_24 q_22 => ?_)
        obtain ⟨q_22a, q_22b, h⟩ := q_22
        subst D_23
        subst d_24
        show AW p l e _ s m args below meth c E M_G_many true _ n _ _ _ [(2, v0), (0, v1)] [(0, r_21)] C_7
        refine AW.goto (t := 61) (dc hd_G_many 22 rfl) (by decide) ?_
        exact AW.iret (dc hd_G_many 31 rfl) rfl rfl (Nat.le_of_ble_eq_true rfl) (Nat.le_of_ble_eq_true rfl) ⟨rfl, h⟩
    · have h := h.1 c_11
      refine AW.ra_n (dc hd_G_many 14 rfl) rfl rfl rfl ?_
      refine AW.getf fl_10_221 (dc hd_G_many 15 rfl) g_6 ?_
      refine AW.goto (t := 61) (dc hd_G_many 16 rfl) (by decide) ?_
      exact AW.iret (dc hd_G_many 31 rfl) rfl rfl (Nat.le_of_ble_eq_true rfl) (Nat.le_of_ble_eq_true rfl) ⟨rfl, h⟩
  · have h := h.1 c_5
    refine AW.ra_n (dc hd_G_many 6 rfl) rfl rfl rfl ?_
    refine AW.iconst (dc hd_G_many 7 rfl) (by decide) ?_
    obtain ⟨g_26, h⟩ := h
    refine AW.callV (As := [(0, 0)]) (rest := []) (ci := 10) (m_G_finds l E n C v0 0 _ h) cb_10_186 im_G_finds se_G_finds ⟨_, _, rfl⟩ (by decide) (dc hd_G_many 8 rfl) g_26 rfl rfl ⟨Nat.le_of_ble_eq_true rfl, Nat.le_of_ble_eq_true rfl⟩ ⟨(Nat.le_of_ble_eq_true rfl), (Nat.le_of_ble_eq_true rfl)⟩ (Nat.le_of_ble_eq_true rfl) (fun _ h => by cases h) (fun _ => rfl) (fun r_25 C_27 d_29 q_28 => ?_)
    obtain ⟨q_28a, h⟩ := q_28
    subst d_29
    show AW p l e _ s m args below meth c E M_G_many true _ n _ _ _ [(2, v0), (0, v1)] [(0, r_25)] C_27
    exact AW.iret (dc hd_G_many 9 rfl) rfl rfl (Nat.le_of_ble_eq_true rfl) (Nat.le_of_ble_eq_true rfl) ⟨rfl, h⟩
def J_G_end_109 (n : Nat) (C : Cn) (v0 v1 v2 v4 s0 s1 : Int) (kz68 : Int × Int → Prop) (Q : Int → Cn → Prop) : Prop :=
  kz68 (w32 (s0 + s1), w32 (v4 + 1))
theorem aJ_G_end_109 (n : Nat) (C : Cn) (v0 v1 v2 v4 s0 s1 : Int) (kz68 : Int × Int → Prop) (Q : Int → Cn → Prop) (hkz68 : ∀ (z3 : Int) (z4 : Int), kz68 (z3, z4) → AW p l e R s m args below meth c E M_G_end true (fun r C2 n2 => n2 = n ∧ Q r C2) n 0 0 68 [(2, v0), (0, v1), (0, v2), (0, z3), (0, z4)] [] C) (h : J_G_end_109 n C v0 v1 v2 v4 s0 s1 kz68 Q) : AW p l e R s m args below meth c E M_G_end true (fun r C2 n2 => n2 = n ∧ Q r C2) n 0 0 109 [(2, v0), (0, v1), (0, v2), (9, 0), (0, v4)] [(0, s1), (0, s0)] C := by
  unfold J_G_end_109 at h
  refine AW.iadd (dc hd_G_end 63 rfl) ?_
  refine AW.istore_n [(2, v0), (0, v1), (0, v2), (0, w32 (s0 + s1)), (0, v4)] (dc hd_G_end 64 rfl) (Nat.le_of_ble_eq_true rfl) rfl rfl ?_
  refine AW.iinc [(2, v0), (0, v1), (0, v2), (0, w32 (s0 + s1)), (0, w32 (v4 + 1))] (dc hd_G_end 65 rfl) rfl (Nat.le_of_ble_eq_true rfl) rfl rfl ?_
  refine AW.goto (t := 68) (dc hd_G_end 66 rfl) (by decide) ?_
  exact hkz68 (w32 (s0 + s1)) (w32 (v4 + 1)) h
def J_G_end_100 (n : Nat) (C : Cn) (v0 v1 v2 v4 s0 s1 : Int) (kz68 : Int × Int → Prop) (Q : Int → Cn → Prop) : Prop :=
  J_G_end_109 n C v0 v1 v2 v4 s0 (if s1 = v1 then 1 else 0) kz68 Q
theorem aJ_G_end_100 (n : Nat) (C : Cn) (v0 v1 v2 v4 s0 s1 : Int) (kz68 : Int × Int → Prop) (Q : Int → Cn → Prop) (hkz68 : ∀ (z3 : Int) (z4 : Int), kz68 (z3, z4) → AW p l e R s m args below meth c E M_G_end true (fun r C2 n2 => n2 = n ∧ Q r C2) n 0 0 68 [(2, v0), (0, v1), (0, v2), (0, z3), (0, z4)] [] C) (h : J_G_end_100 n C v0 v1 v2 v4 s0 s1 kz68 Q) : AW p l e R s m args below meth c E M_G_end true (fun r C2 n2 => n2 = n ∧ Q r C2) n 0 0 100 [(2, v0), (0, v1), (0, v2), (9, 0), (0, v4)] [(0, s1), (0, s0)] C := by
  unfold J_G_end_100 at h
  refine AW.iload_n (dc hd_G_end 58 rfl) rfl ?_
  refine AW.icmp_ne (t := 108) (dc hd_G_end 59 rfl) (by decide) (fun c_27 => ?_) (fun c_27 => ?_)
  · simp only [if_neg (show ¬ (s1 = v1) from c_27)] at h
    refine AW.iconst (dc hd_G_end 62 rfl) (by decide) ?_
    exact aJ_G_end_109 n C _ _ _ _ _ _ kz68 Q hkz68 h
  · simp only [if_pos (show s1 = v1 from c_27)] at h
    refine AW.iconst (dc hd_G_end 60 rfl) (by decide) ?_
    refine AW.goto (t := 109) (dc hd_G_end 61 rfl) (by decide) ?_
    exact aJ_G_end_109 n C _ _ _ _ _ _ kz68 Q hkz68 h
def B_G_end_68 (n : Nat) (C : Cn) (v0 v1 v2 : Int) (Q : Int → Cn → Prop) (kz68 : Int × Int → Prop) (z : Int × Int) : Prop := match z with
  | (v3, v4) => okO n v0 10 ∧ ((C v0.toNat 0 ≤ v4 → (Q v3 C)) ∧ (¬ C v0.toNat 0 ≤ v4 → ((v2 = 2 → (okO n (PT v0.toNat 13) 12 ∧ (okI (PT v0.toNat 13) v4 ∧ (J_G_end_100 n C v0 v1 v2 v4 v3 (C (PT v0.toNat 13).toNat v4.toNat) kz68 Q)))) ∧ (¬ v2 = 2 → (okO n (PT v0.toNat 14) 12 ∧ (okI (PT v0.toNat 14) v4 ∧ (J_G_end_100 n C v0 v1 v2 v4 v3 (C (PT v0.toNat 14).toNat v4.toNat) kz68 Q)))))))
theorem bB_G_end_68 (n : Nat) (C : Cn) (v0 v1 v2 : Int) (Q : Int → Cn → Prop) (kz68 : Int × Int → Prop) (hkz68 : ∀ (z3 : Int) (z4 : Int), kz68 (z3, z4) → AW p l e R s m args below meth c E M_G_end true (fun r C2 n2 => n2 = n ∧ Q r C2) n 0 0 68 [(2, v0), (0, v1), (0, v2), (0, z3), (0, z4)] [] C) (v3 : Int) (v4 : Int) (h : B_G_end_68 n C v0 v1 v2 Q kz68 (v3, v4)) : AW p l e R s m args below meth c E M_G_end true (fun r C2 n2 => n2 = n ∧ Q r C2) n 0 0 68 [(2, v0), (0, v1), (0, v2), (0, v3), (0, v4)] [] C := by
  unfold B_G_end_68 at h
  dsimp only at h
  refine AW.iload (dc hd_G_end 41 rfl) rfl ?_
  refine AW.ra_n (dc hd_G_end 42 rfl) rfl rfl rfl ?_
  obtain ⟨g_22, h⟩ := h
  refine AW.getf fl_10_117 (dc hd_G_end 43 rfl) g_22 ?_
  refine AW.icmp_ge (t := 117) (dc hd_G_end 44 rfl) (by decide) (fun c_23 => ?_) (fun c_23 => ?_)
  · have h := h.1 c_23
    refine AW.iload_n (dc hd_G_end 67 rfl) rfl ?_
    exact AW.iret (dc hd_G_end 68 rfl) rfl rfl (Nat.le_of_ble_eq_true rfl) (Nat.le_of_ble_eq_true rfl) ⟨rfl, h⟩
  · have h := h.2 c_23
    refine AW.iload_n (dc hd_G_end 45 rfl) rfl ?_
    refine AW.iload_n (dc hd_G_end 46 rfl) rfl ?_
    refine AW.iconst (dc hd_G_end 47 rfl) (by decide) ?_
    refine AW.icmp_ne (t := 93) (dc hd_G_end 48 rfl) (by decide) (fun c_24 => ?_) (fun c_24 => ?_)
    · have h := h.2 c_24
      refine AW.ra_n (dc hd_G_end 54 rfl) rfl rfl rfl ?_
      refine AW.getp fl_10_37 (dc hd_G_end 55 rfl) g_22 rfl ?_
      refine AW.iload (dc hd_G_end 56 rfl) rfl ?_
      obtain ⟨g_25, h⟩ := h
      obtain ⟨g_26, h⟩ := h
      refine AW.iald (dc hd_G_end 57 rfl) g_25 g_26 ?_
      refine AW.fgt [(2, v0), (0, v1), (0, v2), (9, 0), (0, v4)] ⟨.inl rfl, .inl rfl, .inl rfl, .inr rfl, .inl rfl, trivial⟩ ?_
      exact aJ_G_end_100 n C v0 v1 v2 v4 v3 (C (PT v0.toNat 14).toNat v4.toNat) kz68 Q hkz68 h
    · have h := h.1 c_24
      refine AW.ra_n (dc hd_G_end 49 rfl) rfl rfl rfl ?_
      refine AW.getp fl_10_34 (dc hd_G_end 50 rfl) g_22 rfl ?_
      refine AW.iload (dc hd_G_end 51 rfl) rfl ?_
      obtain ⟨g_28, h⟩ := h
      obtain ⟨g_29, h⟩ := h
      refine AW.iald (dc hd_G_end 52 rfl) g_28 g_29 ?_
      refine AW.goto (t := 100) (dc hd_G_end 53 rfl) (by decide) ?_
      refine AW.fgt [(2, v0), (0, v1), (0, v2), (9, 0), (0, v4)] ⟨.inl rfl, .inl rfl, .inl rfl, .inr rfl, .inl rfl, trivial⟩ ?_
      exact aJ_G_end_100 n C v0 v1 v2 v4 v3 (C (PT v0.toNat 13).toNat v4.toNat) kz68 Q hkz68 h
theorem aB_G_end_68 (n : Nat) (C : Cn) (v0 v1 v2 : Int) (Q : Int → Cn → Prop) : ∀ (f : Nat) (z : Int × Int), lp (B_G_end_68 n C v0 v1 v2 Q) f z → AW p l e R s m args below meth c E M_G_end true (fun r C2 n2 => n2 = n ∧ Q r C2) n 0 0 68 [(2, v0), (0, v1), (0, v2), (0, z.1), (0, z.2)] [] C := by
  intro f
  induction f with
  | zero => intro z h; exact False.elim h
  | succ f ih => intro z h; exact bB_G_end_68 n C v0 v1 v2 Q (lp (B_G_end_68 n C v0 v1 v2 Q) f) (fun a0 a1 h => ih (a0, a1) h) z.1 z.2 h
def P_G_end (n : Nat) (C : Cn) (v0 v1 v2 : Int) (Q : Int → Cn → Prop) : Prop :=
  okO n v0 10 ∧ (P_G_maps n C v0 (fun (_ : Int) (C_2 : Cn) => P_G_in n C_2 v1 0 (w32 (C_2 v0.toNat 10 - 1)) (fun (r_6 : Int) => (r_6 = 0 → (P_G_finds n C_2 v0 0 (fun (r_11 : Int) (C_12 : Cn) => Q r_11 C_12))) ∧ (¬ r_6 = 0 → (P_G_in n C_2 v2 0 3 (fun (r_15 : Int) => (r_15 = 0 → (P_G_finds n C_2 v0 0 (fun (r_36 : Int) (C_37 : Cn) => Q r_36 C_37))) ∧ (¬ r_15 = 0 → ((2 ≤ v2 → (∃ f_30 : Nat, lp (B_G_end_68 n C_2 v0 v1 v2 Q) f_30 (0, 0))) ∧ (¬ 2 ≤ v2 → ((v2 = 0 → (okO n (PT v0.toNat 11) 12 ∧ (okI (PT v0.toNat 11) v1 ∧ (Q (C_2 (PT v0.toNat 11).toNat v1.toNat) C_2)))) ∧ (¬ v2 = 0 → (okO n (PT v0.toNat 12) 12 ∧ (okI (PT v0.toNat 12) v1 ∧ (Q (C_2 (PT v0.toNat 12).toNat v1.toNat) C_2))))))))))))))
theorem m_G_end (l : Launch) (E : Ev) (n : Nat) (C : Cn) (v0 v1 v2 : Int) (Q : Int → Cn → Prop) (h : P_G_end n C v0 v1 v2 Q) : MA l y_G_end M_G_end E true C n [(2, v0), (0, v1), (0, v2)] (fun r C2 n2 => n2 = n ∧ Q r C2) := by
  refine MA.of (by decide) rfl rfl 2 rfl (fun p e s m args below meth c => ?_)
  show AW p l e _ s m args below meth c E M_G_end true _ n 0 0 0 [(2, v0), (0, v1), (0, v2), (9, 0), (9, 0)] [] C
  unfold P_G_end at h
  refine AW.ra_n (dc hd_G_end 0 rfl) rfl rfl rfl ?_
  obtain ⟨g_1, h⟩ := h
  refine AW.callV (As := []) (rest := []) (ci := 10) (m_G_maps l E n C v0 _ h) cb_10_211 im_G_maps se_G_maps ⟨_, _, rfl⟩ (by decide) (dc hd_G_end 1 rfl) g_1 rfl rfl ⟨Nat.le_of_ble_eq_true rfl, Nat.le_of_ble_eq_true rfl⟩ ⟨(Nat.le_of_ble_eq_true rfl), (Nat.le_of_ble_eq_true rfl)⟩ (Nat.le_of_ble_eq_true rfl) (fun _ h => by cases h) (fun _ => rfl) (fun u_4 C_2 d_5 q_3 => ?_)
  obtain ⟨q_3a, h⟩ := q_3
  subst d_5
  show AW p l e _ s m args below meth c E M_G_end true _ n _ _ _ [(2, v0), (0, v1), (0, v2), (9, 0), (9, 0)] [] C_2
  refine AW.iload_n (dc hd_G_end 2 rfl) rfl ?_
  refine AW.i2l (dc hd_G_end 3 rfl) ?_
  refine AW.lconst (v := 0) (dc hd_G_end 4 rfl) (by decide) (by decide +kernel) ?_
  refine AW.ra_n (dc hd_G_end 5 rfl) rfl rfl rfl ?_
  refine AW.getf fl_10_221 (dc hd_G_end 6 rfl) g_1 ?_
  refine AW.iconst (dc hd_G_end 7 rfl) (by decide) ?_
  refine AW.isub (dc hd_G_end 8 rfl) ?_
  refine AW.i2l (dc hd_G_end 9 rfl) ?_
  refine AW.callS (As := [(1, v1), (1, 0), (1, w32 (C_2 v0.toNat 10 - 1))]) (rest := []) (m_G_in l E n C_2 v1 0 (w32 (C_2 v0.toNat 10 - 1)) _ h) cb_10_113 sm_G_in (dc hd_G_end 10 rfl) rfl rfl ⟨Nat.le_of_ble_eq_true rfl, Nat.le_of_ble_eq_true rfl⟩ ⟨(Nat.le_of_ble_eq_true rfl), (Nat.le_of_ble_eq_true rfl)⟩ (Nat.le_of_ble_eq_true rfl) (fun _ h => by cases h) (fun _ => rfl) (fun r_6 D_8 d_9 q_7 => ?_)
  obtain ⟨q_7a, q_7b, h⟩ := q_7
  subst D_8
  subst d_9
  show AW p l e _ s m args below meth c E M_G_end true _ n _ _ _ [(2, v0), (0, v1), (0, v2), (9, 0), (9, 0)] [(0, r_6)] C_2
  refine AW.if_eq (t := 32) (dc hd_G_end 11 rfl) (by decide) (fun c_10 => ?_) (fun c_10 => ?_)
  · have h := h.1 c_10
    refine AW.ra_n (dc hd_G_end 18 rfl) rfl rfl rfl ?_
    refine AW.iconst (dc hd_G_end 19 rfl) (by decide) ?_
    refine AW.callV (As := [(0, 0)]) (rest := []) (ci := 10) (m_G_finds l E n C_2 v0 0 _ h) cb_10_186 im_G_finds se_G_finds ⟨_, _, rfl⟩ (by decide) (dc hd_G_end 20 rfl) g_1 rfl rfl ⟨Nat.le_of_ble_eq_true rfl, Nat.le_of_ble_eq_true rfl⟩ ⟨(Nat.le_of_ble_eq_true rfl), (Nat.le_of_ble_eq_true rfl)⟩ (Nat.le_of_ble_eq_true rfl) (fun _ h => by cases h) (fun _ => rfl) (fun r_11 C_12 d_14 q_13 => ?_)
    obtain ⟨q_13a, h⟩ := q_13
    subst d_14
    show AW p l e _ s m args below meth c E M_G_end true _ n _ _ _ [(2, v0), (0, v1), (0, v2), (9, 0), (9, 0)] [(0, r_11)] C_12
    exact AW.iret (dc hd_G_end 21 rfl) rfl rfl (Nat.le_of_ble_eq_true rfl) (Nat.le_of_ble_eq_true rfl) ⟨rfl, h⟩
  · have h := h.2 c_10
    refine AW.iload_n (dc hd_G_end 12 rfl) rfl ?_
    refine AW.i2l (dc hd_G_end 13 rfl) ?_
    refine AW.lconst (v := 0) (dc hd_G_end 14 rfl) (by decide) (by decide +kernel) ?_
    refine AW.ldc2 (v := 3) (dc hd_G_end 15 rfl) ck_10_217 (by decide) rfl ?_
    refine AW.callS (As := [(1, v2), (1, 0), (1, 3)]) (rest := []) (m_G_in l E n C_2 v2 0 3 _ h) cb_10_113 sm_G_in (dc hd_G_end 16 rfl) rfl rfl ⟨Nat.le_of_ble_eq_true rfl, Nat.le_of_ble_eq_true rfl⟩ ⟨(Nat.le_of_ble_eq_true rfl), (Nat.le_of_ble_eq_true rfl)⟩ (Nat.le_of_ble_eq_true rfl) (fun _ h => by cases h) (fun _ => rfl) (fun r_15 D_17 d_18 q_16 => ?_)
    obtain ⟨q_16a, q_16b, h⟩ := q_16
    subst D_17
    subst d_18
    show AW p l e _ s m args below meth c E M_G_end true _ n _ _ _ [(2, v0), (0, v1), (0, v2), (9, 0), (9, 0)] [(0, r_15)] C_2
    refine AW.if_ne (t := 38) (dc hd_G_end 17 rfl) (by decide) (fun c_19 => ?_) (fun c_19 => ?_)
    · have h := h.2 c_19
      refine AW.iload_n (dc hd_G_end 22 rfl) rfl ?_
      refine AW.iconst (dc hd_G_end 23 rfl) (by decide) ?_
      refine AW.icmp_ge (t := 63) (dc hd_G_end 24 rfl) (by decide) (fun c_21 => ?_) (fun c_21 => ?_)
      · have h := h.1 c_21
        refine AW.iconst (dc hd_G_end 37 rfl) (by decide) ?_
        refine AW.istore_n [(2, v0), (0, v1), (0, v2), (0, 0), (9, 0)] (dc hd_G_end 38 rfl) (Nat.le_of_ble_eq_true rfl) rfl rfl ?_
        refine AW.iconst (dc hd_G_end 39 rfl) (by decide) ?_
        refine AW.istore [(2, v0), (0, v1), (0, v2), (0, 0), (0, 0)] (dc hd_G_end 40 rfl) (Nat.le_of_ble_eq_true rfl) rfl rfl ?_
        obtain ⟨f_30, h⟩ := h
        exact aB_G_end_68 n C_2 v0 v1 v2 Q f_30 (0, 0) h
      · have h := h.2 c_21
        refine AW.iload_n (dc hd_G_end 25 rfl) rfl ?_
        refine AW.if_ne (t := 56) (dc hd_G_end 26 rfl) (by decide) (fun c_31 => ?_) (fun c_31 => ?_)
        · have h := h.2 c_31
          refine AW.ra_n (dc hd_G_end 32 rfl) rfl rfl rfl ?_
          refine AW.getp fl_10_31 (dc hd_G_end 33 rfl) g_1 rfl ?_
          refine AW.iload_n (dc hd_G_end 34 rfl) rfl ?_
          obtain ⟨g_32, h⟩ := h
          obtain ⟨g_33, h⟩ := h
          refine AW.iald (dc hd_G_end 35 rfl) g_32 g_33 ?_
          exact AW.iret (dc hd_G_end 36 rfl) rfl rfl (Nat.le_of_ble_eq_true rfl) (Nat.le_of_ble_eq_true rfl) ⟨rfl, h⟩
        · have h := h.1 c_31
          refine AW.ra_n (dc hd_G_end 27 rfl) rfl rfl rfl ?_
          refine AW.getp fl_10_28 (dc hd_G_end 28 rfl) g_1 rfl ?_
          refine AW.iload_n (dc hd_G_end 29 rfl) rfl ?_
          obtain ⟨g_34, h⟩ := h
          obtain ⟨g_35, h⟩ := h
          refine AW.iald (dc hd_G_end 30 rfl) g_34 g_35 ?_
          refine AW.goto (t := 62) (dc hd_G_end 31 rfl) (by decide) ?_
          exact AW.iret (dc hd_G_end 36 rfl) rfl rfl (Nat.le_of_ble_eq_true rfl) (Nat.le_of_ble_eq_true rfl) ⟨rfl, h⟩
    · have h := h.1 c_19
      refine AW.ra_n (dc hd_G_end 18 rfl) rfl rfl rfl ?_
      refine AW.iconst (dc hd_G_end 19 rfl) (by decide) ?_
      refine AW.callV (As := [(0, 0)]) (rest := []) (ci := 10) (m_G_finds l E n C_2 v0 0 _ h) cb_10_186 im_G_finds se_G_finds ⟨_, _, rfl⟩ (by decide) (dc hd_G_end 20 rfl) g_1 rfl rfl ⟨Nat.le_of_ble_eq_true rfl, Nat.le_of_ble_eq_true rfl⟩ ⟨(Nat.le_of_ble_eq_true rfl), (Nat.le_of_ble_eq_true rfl)⟩ (Nat.le_of_ble_eq_true rfl) (fun _ h => by cases h) (fun _ => rfl) (fun r_36 C_37 d_39 q_38 => ?_)
      obtain ⟨q_38a, h⟩ := q_38
      subst d_39
      show AW p l e _ s m args below meth c E M_G_end true _ n _ _ _ [(2, v0), (0, v1), (0, v2), (9, 0), (9, 0)] [(0, r_36)] C_37
      exact AW.iret (dc hd_G_end 21 rfl) rfl rfl (Nat.le_of_ble_eq_true rfl) (Nat.le_of_ble_eq_true rfl) ⟨rfl, h⟩
end
