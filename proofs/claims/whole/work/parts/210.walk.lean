section
variable {p : Program} {l : Launch} {e : Env} {R : Room} {s : State} {m : MethodId} {args : Array Value} {below : List Frame} {meth : Method} {c : Code} {E : Ev}
def J_G_doCross_57 (n : Nat) (C : Cn) (s0 : Int) (Q : Int → Prop) : Prop :=
  (s0 = 0 ∨ s0 = 1) ∧ (Q s0)
theorem aJ_G_doCross_57 (n : Nat) (C : Cn) (s0 : Int) (Q : Int → Prop) (h : J_G_doCross_57 n C s0 Q) : AW p l e R s m args below meth c E M_G_doCross true (fun r C2 n2 => C2 = C ∧ n2 = n ∧ Q r) n 0 0 57 [(9, 0), (9, 0)] [(0, s0)] C := by
  unfold J_G_doCross_57 at h
  obtain ⟨g_37, h⟩ := h
  exact AW.zret (dc hd_G_doCross 39 rfl) rfl rfl (Nat.le_of_ble_eq_true rfl) (Nat.le_of_ble_eq_true rfl) g_37 ⟨rfl, rfl, h⟩
def P_G_doCross (n : Nat) (C : Cn) (v0 v1 : Int) (Q : Int → Prop) : Prop :=
  okO n v1 12 ∧ (okI v1 2 ∧ (okI v1 3 ∧ (P_G_side n C v0 (C v1.toNat 2) (C v1.toNat 3) (fun (r_4 : Int) => okI v1 4 ∧ (okI v1 5 ∧ (P_G_side n C v0 (C v1.toNat 4) (C v1.toNat 5) (fun (r_10 : Int) => P_G_areApartSides n C r_4 r_10 (fun (r_14 : Int) => (r_14 = 0 → (Q 0)) ∧ (¬ r_14 = 0 → (okO n v0 12 ∧ (okI v0 2 ∧ (okI v0 3 ∧ (P_G_side n C v1 (C v0.toNat 2) (C v0.toNat 3) (fun (r_22 : Int) => okI v0 4 ∧ (okI v0 5 ∧ (P_G_side n C v1 (C v0.toNat 4) (C v0.toNat 5) (fun (r_28 : Int) => P_G_areApartSides n C r_22 r_28 (fun (r_32 : Int) => J_G_doCross_57 n C (if r_32 = 0 then 0 else 1) Q))))))))))))))))))
theorem m_G_doCross (l : Launch) (E : Ev) (n : Nat) (C : Cn) (v0 v1 : Int) (Q : Int → Prop) (h : P_G_doCross n C v0 v1 Q) : MA l y_G_doCross M_G_doCross E true C n [(2, v0), (2, v1)] (fun r C2 n2 => C2 = C ∧ n2 = n ∧ Q r) := by
  refine MA.of (by decide) rfl rfl 0 rfl (fun p e s m args below meth c => ?_)
  show AW p l e _ s m args below meth c E M_G_doCross true _ n 0 0 0 [(2, v0), (2, v1)] [] C
  unfold P_G_doCross at h
  refine AW.ra_n (dc hd_G_doCross 0 rfl) rfl rfl rfl ?_
  refine AW.ra_n (dc hd_G_doCross 1 rfl) rfl rfl rfl ?_
  refine AW.iconst (dc hd_G_doCross 2 rfl) (by decide) ?_
  obtain ⟨g_1, h⟩ := h
  obtain ⟨g_2, h⟩ := h
  refine AW.iald (dc hd_G_doCross 3 rfl) g_1 g_2 ?_
  refine AW.ra_n (dc hd_G_doCross 4 rfl) rfl rfl rfl ?_
  refine AW.iconst (dc hd_G_doCross 5 rfl) (by decide) ?_
  obtain ⟨g_3, h⟩ := h
  refine AW.iald (dc hd_G_doCross 6 rfl) g_1 g_3 ?_
  refine AW.callS (As := [(2, v0), (0, C v1.toNat 2), (0, C v1.toNat 3)]) (rest := []) (m_G_side l E n C v0 (C v1.toNat 2) (C v1.toNat 3) _ h) cb_10_126 sm_G_side (dc hd_G_doCross 7 rfl) rfl rfl ⟨Nat.le_of_ble_eq_true rfl, Nat.le_of_ble_eq_true rfl⟩ ⟨(Nat.le_of_ble_eq_true rfl), (Nat.le_of_ble_eq_true rfl)⟩ (Nat.le_of_ble_eq_true rfl) (fun _ h => by cases h) (fun _ => rfl) (fun r_4 D_6 d_7 q_5 => ?_)
  obtain ⟨q_5a, q_5b, h⟩ := q_5
  subst D_6
  subst d_7
  show AW p l e _ s m args below meth c E M_G_doCross true _ n _ _ _ [(2, v0), (2, v1)] [(0, r_4)] C
  refine AW.ra_n (dc hd_G_doCross 8 rfl) rfl rfl rfl ?_
  refine AW.ra_n (dc hd_G_doCross 9 rfl) rfl rfl rfl ?_
  refine AW.iconst (dc hd_G_doCross 10 rfl) (by decide) ?_
  obtain ⟨g_8, h⟩ := h
  refine AW.iald (dc hd_G_doCross 11 rfl) g_1 g_8 ?_
  refine AW.ra_n (dc hd_G_doCross 12 rfl) rfl rfl rfl ?_
  refine AW.iconst (dc hd_G_doCross 13 rfl) (by decide) ?_
  obtain ⟨g_9, h⟩ := h
  refine AW.iald (dc hd_G_doCross 14 rfl) g_1 g_9 ?_
  refine AW.callS (As := [(2, v0), (0, C v1.toNat 4), (0, C v1.toNat 5)]) (rest := [(0, r_4)]) (m_G_side l E n C v0 (C v1.toNat 4) (C v1.toNat 5) _ h) cb_10_126 sm_G_side (dc hd_G_doCross 15 rfl) rfl rfl ⟨Nat.le_of_ble_eq_true rfl, Nat.le_of_ble_eq_true rfl⟩ ⟨(Nat.le_of_ble_eq_true rfl), (Nat.le_of_ble_eq_true rfl)⟩ (Nat.le_of_ble_eq_true rfl) (fun _ h => by cases h) (fun _ => rfl) (fun r_10 D_12 d_13 q_11 => ?_)
  obtain ⟨q_11a, q_11b, h⟩ := q_11
  subst D_12
  subst d_13
  show AW p l e _ s m args below meth c E M_G_doCross true _ n _ _ _ [(2, v0), (2, v1)] [(0, r_10), (0, r_4)] C
  refine AW.callS (As := [(0, r_4), (0, r_10)]) (rest := []) (m_G_areApartSides l E n C r_4 r_10 _ h) cb_10_134 sm_G_areApartSides (dc hd_G_doCross 16 rfl) rfl rfl ⟨Nat.le_of_ble_eq_true rfl, Nat.le_of_ble_eq_true rfl⟩ ⟨(Nat.le_of_ble_eq_true rfl), (Nat.le_of_ble_eq_true rfl)⟩ (Nat.le_of_ble_eq_true rfl) (fun _ h => by cases h) (fun _ => rfl) (fun r_14 D_16 d_17 q_15 => ?_)
  obtain ⟨q_15a, q_15b, h⟩ := q_15
  subst D_16
  subst d_17
  show AW p l e _ s m args below meth c E M_G_doCross true _ n _ _ _ [(2, v0), (2, v1)] [(0, r_14)] C
  refine AW.if_eq (t := 56) (dc hd_G_doCross 17 rfl) (by decide) (fun c_18 => ?_) (fun c_18 => ?_)
  · have h := h.1 c_18
    refine AW.iconst (dc hd_G_doCross 38 rfl) (by decide) ?_
    exact AW.zret (dc hd_G_doCross 39 rfl) rfl rfl (Nat.le_of_ble_eq_true rfl) (Nat.le_of_ble_eq_true rfl) (by decide) ⟨rfl, rfl, h⟩
  · have h := h.2 c_18
    refine AW.ra_n (dc hd_G_doCross 18 rfl) rfl rfl rfl ?_
    refine AW.ra_n (dc hd_G_doCross 19 rfl) rfl rfl rfl ?_
    refine AW.iconst (dc hd_G_doCross 20 rfl) (by decide) ?_
    obtain ⟨g_19, h⟩ := h
    obtain ⟨g_20, h⟩ := h
    refine AW.iald (dc hd_G_doCross 21 rfl) g_19 g_20 ?_
    refine AW.ra_n (dc hd_G_doCross 22 rfl) rfl rfl rfl ?_
    refine AW.iconst (dc hd_G_doCross 23 rfl) (by decide) ?_
    obtain ⟨g_21, h⟩ := h
    refine AW.iald (dc hd_G_doCross 24 rfl) g_19 g_21 ?_
    refine AW.callS (As := [(2, v1), (0, C v0.toNat 2), (0, C v0.toNat 3)]) (rest := []) (m_G_side l E n C v1 (C v0.toNat 2) (C v0.toNat 3) _ h) cb_10_126 sm_G_side (dc hd_G_doCross 25 rfl) rfl rfl ⟨Nat.le_of_ble_eq_true rfl, Nat.le_of_ble_eq_true rfl⟩ ⟨(Nat.le_of_ble_eq_true rfl), (Nat.le_of_ble_eq_true rfl)⟩ (Nat.le_of_ble_eq_true rfl) (fun _ h => by cases h) (fun _ => rfl) (fun r_22 D_24 d_25 q_23 => ?_)
    obtain ⟨q_23a, q_23b, h⟩ := q_23
    subst D_24
    subst d_25
    show AW p l e _ s m args below meth c E M_G_doCross true _ n _ _ _ [(2, v0), (2, v1)] [(0, r_22)] C
    refine AW.ra_n (dc hd_G_doCross 26 rfl) rfl rfl rfl ?_
    refine AW.ra_n (dc hd_G_doCross 27 rfl) rfl rfl rfl ?_
    refine AW.iconst (dc hd_G_doCross 28 rfl) (by decide) ?_
    obtain ⟨g_26, h⟩ := h
    refine AW.iald (dc hd_G_doCross 29 rfl) g_19 g_26 ?_
    refine AW.ra_n (dc hd_G_doCross 30 rfl) rfl rfl rfl ?_
    refine AW.iconst (dc hd_G_doCross 31 rfl) (by decide) ?_
    obtain ⟨g_27, h⟩ := h
    refine AW.iald (dc hd_G_doCross 32 rfl) g_19 g_27 ?_
    refine AW.callS (As := [(2, v1), (0, C v0.toNat 4), (0, C v0.toNat 5)]) (rest := [(0, r_22)]) (m_G_side l E n C v1 (C v0.toNat 4) (C v0.toNat 5) _ h) cb_10_126 sm_G_side (dc hd_G_doCross 33 rfl) rfl rfl ⟨Nat.le_of_ble_eq_true rfl, Nat.le_of_ble_eq_true rfl⟩ ⟨(Nat.le_of_ble_eq_true rfl), (Nat.le_of_ble_eq_true rfl)⟩ (Nat.le_of_ble_eq_true rfl) (fun _ h => by cases h) (fun _ => rfl) (fun r_28 D_30 d_31 q_29 => ?_)
    obtain ⟨q_29a, q_29b, h⟩ := q_29
    subst D_30
    subst d_31
    show AW p l e _ s m args below meth c E M_G_doCross true _ n _ _ _ [(2, v0), (2, v1)] [(0, r_28), (0, r_22)] C
    refine AW.callS (As := [(0, r_22), (0, r_28)]) (rest := []) (m_G_areApartSides l E n C r_22 r_28 _ h) cb_10_134 sm_G_areApartSides (dc hd_G_doCross 34 rfl) rfl rfl ⟨Nat.le_of_ble_eq_true rfl, Nat.le_of_ble_eq_true rfl⟩ ⟨(Nat.le_of_ble_eq_true rfl), (Nat.le_of_ble_eq_true rfl)⟩ (Nat.le_of_ble_eq_true rfl) (fun _ h => by cases h) (fun _ => rfl) (fun r_32 D_34 d_35 q_33 => ?_)
    obtain ⟨q_33a, q_33b, h⟩ := q_33
    subst D_34
    subst d_35
    show AW p l e _ s m args below meth c E M_G_doCross true _ n _ _ _ [(2, v0), (2, v1)] [(0, r_32)] C
    refine AW.if_eq (t := 56) (dc hd_G_doCross 35 rfl) (by decide) (fun c_36 => ?_) (fun c_36 => ?_)
    · simp only [if_pos c_36] at h
      refine AW.iconst (dc hd_G_doCross 38 rfl) (by decide) ?_
      refine AW.fgt [(9, 0), (9, 0)] ⟨.inr rfl, .inr rfl, trivial⟩ ?_
      exact aJ_G_doCross_57 n C _ Q h
    · simp only [if_neg c_36] at h
      refine AW.iconst (dc hd_G_doCross 36 rfl) (by decide) ?_
      refine AW.goto (t := 57) (dc hd_G_doCross 37 rfl) (by decide) ?_
      refine AW.fgt [(9, 0), (9, 0)] ⟨.inr rfl, .inr rfl, trivial⟩ ?_
      exact aJ_G_doCross_57 n C _ Q h
def J_G_hasEndOn_57 (n : Nat) (C : Cn) (s0 : Int) (Q : Int → Prop) : Prop :=
  (s0 = 0 ∨ s0 = 1) ∧ (Q s0)
theorem aJ_G_hasEndOn_57 (n : Nat) (C : Cn) (s0 : Int) (Q : Int → Prop) (h : J_G_hasEndOn_57 n C s0 Q) : AW p l e R s m args below meth c E M_G_hasEndOn true (fun r C2 n2 => C2 = C ∧ n2 = n ∧ Q r) n 0 0 57 [(9, 0), (9, 0)] [(0, s0)] C := by
  unfold J_G_hasEndOn_57 at h
  obtain ⟨g_31, h⟩ := h
  exact AW.zret (dc hd_G_hasEndOn 39 rfl) rfl rfl (Nat.le_of_ble_eq_true rfl) (Nat.le_of_ble_eq_true rfl) g_31 ⟨rfl, rfl, h⟩
def P_G_hasEndOn (n : Nat) (C : Cn) (v0 v1 : Int) (Q : Int → Prop) : Prop :=
  okO n v0 12 ∧ (okI v0 2 ∧ (okI v0 3 ∧ (P_G_isOn n C v1 (C v0.toNat 2) (C v0.toNat 3) (fun (r_4 : Int) => (r_4 = 0 → (okI v0 4 ∧ (okI v0 5 ∧ (P_G_isOn n C v1 (C v0.toNat 4) (C v0.toNat 5) (fun (r_11 : Int) => (r_11 = 0 → (okO n v1 12 ∧ (okI v1 2 ∧ (okI v1 3 ∧ (P_G_isOn n C v0 (C v1.toNat 2) (C v1.toNat 3) (fun (r_19 : Int) => (r_19 = 0 → (okI v1 4 ∧ (okI v1 5 ∧ (P_G_isOn n C v0 (C v1.toNat 4) (C v1.toNat 5) (fun (r_26 : Int) => J_G_hasEndOn_57 n C (if r_26 = 0 then 0 else 1) Q))))) ∧ (¬ r_19 = 0 → (Q 1)))))))) ∧ (¬ r_11 = 0 → (Q 1))))))) ∧ (¬ r_4 = 0 → (Q 1))))))
theorem m_G_hasEndOn (l : Launch) (E : Ev) (n : Nat) (C : Cn) (v0 v1 : Int) (Q : Int → Prop) (h : P_G_hasEndOn n C v0 v1 Q) : MA l y_G_hasEndOn M_G_hasEndOn E true C n [(2, v0), (2, v1)] (fun r C2 n2 => C2 = C ∧ n2 = n ∧ Q r) := by
  refine MA.of (by decide) rfl rfl 0 rfl (fun p e s m args below meth c => ?_)
  show AW p l e _ s m args below meth c E M_G_hasEndOn true _ n 0 0 0 [(2, v0), (2, v1)] [] C
  unfold P_G_hasEndOn at h
  refine AW.ra_n (dc hd_G_hasEndOn 0 rfl) rfl rfl rfl ?_
  refine AW.ra_n (dc hd_G_hasEndOn 1 rfl) rfl rfl rfl ?_
  refine AW.iconst (dc hd_G_hasEndOn 2 rfl) (by decide) ?_
  obtain ⟨g_1, h⟩ := h
  obtain ⟨g_2, h⟩ := h
  refine AW.iald (dc hd_G_hasEndOn 3 rfl) g_1 g_2 ?_
  refine AW.ra_n (dc hd_G_hasEndOn 4 rfl) rfl rfl rfl ?_
  refine AW.iconst (dc hd_G_hasEndOn 5 rfl) (by decide) ?_
  obtain ⟨g_3, h⟩ := h
  refine AW.iald (dc hd_G_hasEndOn 6 rfl) g_1 g_3 ?_
  refine AW.callS (As := [(2, v1), (0, C v0.toNat 2), (0, C v0.toNat 3)]) (rest := []) (m_G_isOn l E n C v1 (C v0.toNat 2) (C v0.toNat 3) _ h) cb_10_138 sm_G_isOn (dc hd_G_hasEndOn 7 rfl) rfl rfl ⟨Nat.le_of_ble_eq_true rfl, Nat.le_of_ble_eq_true rfl⟩ ⟨(Nat.le_of_ble_eq_true rfl), (Nat.le_of_ble_eq_true rfl)⟩ (Nat.le_of_ble_eq_true rfl) (fun _ h => by cases h) (fun _ => rfl) (fun r_4 D_6 d_7 q_5 => ?_)
  obtain ⟨q_5a, q_5b, h⟩ := q_5
  subst D_6
  subst d_7
  show AW p l e _ s m args below meth c E M_G_hasEndOn true _ n _ _ _ [(2, v0), (2, v1)] [(0, r_4)] C
  refine AW.if_ne (t := 52) (dc hd_G_hasEndOn 8 rfl) (by decide) (fun c_8 => ?_) (fun c_8 => ?_)
  · have h := h.2 c_8
    refine AW.iconst (dc hd_G_hasEndOn 36 rfl) (by decide) ?_
    refine AW.goto (t := 57) (dc hd_G_hasEndOn 37 rfl) (by decide) ?_
    exact AW.zret (dc hd_G_hasEndOn 39 rfl) rfl rfl (Nat.le_of_ble_eq_true rfl) (Nat.le_of_ble_eq_true rfl) (by decide) ⟨rfl, rfl, h⟩
  · have h := h.1 c_8
    refine AW.ra_n (dc hd_G_hasEndOn 9 rfl) rfl rfl rfl ?_
    refine AW.ra_n (dc hd_G_hasEndOn 10 rfl) rfl rfl rfl ?_
    refine AW.iconst (dc hd_G_hasEndOn 11 rfl) (by decide) ?_
    obtain ⟨g_9, h⟩ := h
    refine AW.iald (dc hd_G_hasEndOn 12 rfl) g_1 g_9 ?_
    refine AW.ra_n (dc hd_G_hasEndOn 13 rfl) rfl rfl rfl ?_
    refine AW.iconst (dc hd_G_hasEndOn 14 rfl) (by decide) ?_
    obtain ⟨g_10, h⟩ := h
    refine AW.iald (dc hd_G_hasEndOn 15 rfl) g_1 g_10 ?_
    refine AW.callS (As := [(2, v1), (0, C v0.toNat 4), (0, C v0.toNat 5)]) (rest := []) (m_G_isOn l E n C v1 (C v0.toNat 4) (C v0.toNat 5) _ h) cb_10_138 sm_G_isOn (dc hd_G_hasEndOn 16 rfl) rfl rfl ⟨Nat.le_of_ble_eq_true rfl, Nat.le_of_ble_eq_true rfl⟩ ⟨(Nat.le_of_ble_eq_true rfl), (Nat.le_of_ble_eq_true rfl)⟩ (Nat.le_of_ble_eq_true rfl) (fun _ h => by cases h) (fun _ => rfl) (fun r_11 D_13 d_14 q_12 => ?_)
    obtain ⟨q_12a, q_12b, h⟩ := q_12
    subst D_13
    subst d_14
    show AW p l e _ s m args below meth c E M_G_hasEndOn true _ n _ _ _ [(2, v0), (2, v1)] [(0, r_11)] C
    refine AW.if_ne (t := 52) (dc hd_G_hasEndOn 17 rfl) (by decide) (fun c_15 => ?_) (fun c_15 => ?_)
    · have h := h.2 c_15
      refine AW.iconst (dc hd_G_hasEndOn 36 rfl) (by decide) ?_
      refine AW.goto (t := 57) (dc hd_G_hasEndOn 37 rfl) (by decide) ?_
      exact AW.zret (dc hd_G_hasEndOn 39 rfl) rfl rfl (Nat.le_of_ble_eq_true rfl) (Nat.le_of_ble_eq_true rfl) (by decide) ⟨rfl, rfl, h⟩
    · have h := h.1 c_15
      refine AW.ra_n (dc hd_G_hasEndOn 18 rfl) rfl rfl rfl ?_
      refine AW.ra_n (dc hd_G_hasEndOn 19 rfl) rfl rfl rfl ?_
      refine AW.iconst (dc hd_G_hasEndOn 20 rfl) (by decide) ?_
      obtain ⟨g_16, h⟩ := h
      obtain ⟨g_17, h⟩ := h
      refine AW.iald (dc hd_G_hasEndOn 21 rfl) g_16 g_17 ?_
      refine AW.ra_n (dc hd_G_hasEndOn 22 rfl) rfl rfl rfl ?_
      refine AW.iconst (dc hd_G_hasEndOn 23 rfl) (by decide) ?_
      obtain ⟨g_18, h⟩ := h
      refine AW.iald (dc hd_G_hasEndOn 24 rfl) g_16 g_18 ?_
      refine AW.callS (As := [(2, v0), (0, C v1.toNat 2), (0, C v1.toNat 3)]) (rest := []) (m_G_isOn l E n C v0 (C v1.toNat 2) (C v1.toNat 3) _ h) cb_10_138 sm_G_isOn (dc hd_G_hasEndOn 25 rfl) rfl rfl ⟨Nat.le_of_ble_eq_true rfl, Nat.le_of_ble_eq_true rfl⟩ ⟨(Nat.le_of_ble_eq_true rfl), (Nat.le_of_ble_eq_true rfl)⟩ (Nat.le_of_ble_eq_true rfl) (fun _ h => by cases h) (fun _ => rfl) (fun r_19 D_21 d_22 q_20 => ?_)
      obtain ⟨q_20a, q_20b, h⟩ := q_20
      subst D_21
      subst d_22
      show AW p l e _ s m args below meth c E M_G_hasEndOn true _ n _ _ _ [(2, v0), (2, v1)] [(0, r_19)] C
      refine AW.if_ne (t := 52) (dc hd_G_hasEndOn 26 rfl) (by decide) (fun c_23 => ?_) (fun c_23 => ?_)
      · have h := h.2 c_23
        refine AW.iconst (dc hd_G_hasEndOn 36 rfl) (by decide) ?_
        refine AW.goto (t := 57) (dc hd_G_hasEndOn 37 rfl) (by decide) ?_
        exact AW.zret (dc hd_G_hasEndOn 39 rfl) rfl rfl (Nat.le_of_ble_eq_true rfl) (Nat.le_of_ble_eq_true rfl) (by decide) ⟨rfl, rfl, h⟩
      · have h := h.1 c_23
        refine AW.ra_n (dc hd_G_hasEndOn 27 rfl) rfl rfl rfl ?_
        refine AW.ra_n (dc hd_G_hasEndOn 28 rfl) rfl rfl rfl ?_
        refine AW.iconst (dc hd_G_hasEndOn 29 rfl) (by decide) ?_
        obtain ⟨g_24, h⟩ := h
        refine AW.iald (dc hd_G_hasEndOn 30 rfl) g_16 g_24 ?_
        refine AW.ra_n (dc hd_G_hasEndOn 31 rfl) rfl rfl rfl ?_
        refine AW.iconst (dc hd_G_hasEndOn 32 rfl) (by decide) ?_
        obtain ⟨g_25, h⟩ := h
        refine AW.iald (dc hd_G_hasEndOn 33 rfl) g_16 g_25 ?_
        refine AW.callS (As := [(2, v0), (0, C v1.toNat 4), (0, C v1.toNat 5)]) (rest := []) (m_G_isOn l E n C v0 (C v1.toNat 4) (C v1.toNat 5) _ h) cb_10_138 sm_G_isOn (dc hd_G_hasEndOn 34 rfl) rfl rfl ⟨Nat.le_of_ble_eq_true rfl, Nat.le_of_ble_eq_true rfl⟩ ⟨(Nat.le_of_ble_eq_true rfl), (Nat.le_of_ble_eq_true rfl)⟩ (Nat.le_of_ble_eq_true rfl) (fun _ h => by cases h) (fun _ => rfl) (fun r_26 D_28 d_29 q_27 => ?_)
        obtain ⟨q_27a, q_27b, h⟩ := q_27
        subst D_28
        subst d_29
        show AW p l e _ s m args below meth c E M_G_hasEndOn true _ n _ _ _ [(2, v0), (2, v1)] [(0, r_26)] C
        refine AW.if_eq (t := 56) (dc hd_G_hasEndOn 35 rfl) (by decide) (fun c_30 => ?_) (fun c_30 => ?_)
        · simp only [if_pos c_30] at h
          refine AW.iconst (dc hd_G_hasEndOn 38 rfl) (by decide) ?_
          refine AW.fgt [(9, 0), (9, 0)] ⟨.inr rfl, .inr rfl, trivial⟩ ?_
          exact aJ_G_hasEndOn_57 n C _ Q h
        · simp only [if_neg c_30] at h
          refine AW.iconst (dc hd_G_hasEndOn 36 rfl) (by decide) ?_
          refine AW.goto (t := 57) (dc hd_G_hasEndOn 37 rfl) (by decide) ?_
          refine AW.fgt [(9, 0), (9, 0)] ⟨.inr rfl, .inr rfl, trivial⟩ ?_
          exact aJ_G_hasEndOn_57 n C _ Q h
def J_G_areInLine_31 (n : Nat) (C : Cn) (s0 : Int) (Q : Int → Prop) : Prop :=
  (s0 = 0 ∨ s0 = 1) ∧ (Q s0)
theorem aJ_G_areInLine_31 (n : Nat) (C : Cn) (s0 : Int) (Q : Int → Prop) (h : J_G_areInLine_31 n C s0 Q) : AW p l e R s m args below meth c E M_G_areInLine true (fun r C2 n2 => C2 = C ∧ n2 = n ∧ Q r) n 0 0 31 [(9, 0), (9, 0)] [(0, s0)] C := by
  unfold J_G_areInLine_31 at h
  obtain ⟨g_16, h⟩ := h
  exact AW.zret (dc hd_G_areInLine 21 rfl) rfl rfl (Nat.le_of_ble_eq_true rfl) (Nat.le_of_ble_eq_true rfl) g_16 ⟨rfl, rfl, h⟩
def P_G_areInLine (n : Nat) (C : Cn) (v0 v1 : Int) (Q : Int → Prop) : Prop :=
  okO n v1 12 ∧ (okI v1 2 ∧ (okI v1 3 ∧ (P_G_side n C v0 (C v1.toNat 2) (C v1.toNat 3) (fun (r_4 : Int) => (r_4 = 0 → (okI v1 4 ∧ (okI v1 5 ∧ (P_G_side n C v0 (C v1.toNat 4) (C v1.toNat 5) (fun (r_11 : Int) => J_G_areInLine_31 n C (if r_11 = 0 then 1 else 0) Q))))) ∧ (¬ r_4 = 0 → (Q 0))))))
theorem m_G_areInLine (l : Launch) (E : Ev) (n : Nat) (C : Cn) (v0 v1 : Int) (Q : Int → Prop) (h : P_G_areInLine n C v0 v1 Q) : MA l y_G_areInLine M_G_areInLine E true C n [(2, v0), (2, v1)] (fun r C2 n2 => C2 = C ∧ n2 = n ∧ Q r) := by
  refine MA.of (by decide) rfl rfl 0 rfl (fun p e s m args below meth c => ?_)
  show AW p l e _ s m args below meth c E M_G_areInLine true _ n 0 0 0 [(2, v0), (2, v1)] [] C
  unfold P_G_areInLine at h
  refine AW.ra_n (dc hd_G_areInLine 0 rfl) rfl rfl rfl ?_
  refine AW.ra_n (dc hd_G_areInLine 1 rfl) rfl rfl rfl ?_
  refine AW.iconst (dc hd_G_areInLine 2 rfl) (by decide) ?_
  obtain ⟨g_1, h⟩ := h
  obtain ⟨g_2, h⟩ := h
  refine AW.iald (dc hd_G_areInLine 3 rfl) g_1 g_2 ?_
  refine AW.ra_n (dc hd_G_areInLine 4 rfl) rfl rfl rfl ?_
  refine AW.iconst (dc hd_G_areInLine 5 rfl) (by decide) ?_
  obtain ⟨g_3, h⟩ := h
  refine AW.iald (dc hd_G_areInLine 6 rfl) g_1 g_3 ?_
  refine AW.callS (As := [(2, v0), (0, C v1.toNat 2), (0, C v1.toNat 3)]) (rest := []) (m_G_side l E n C v0 (C v1.toNat 2) (C v1.toNat 3) _ h) cb_10_126 sm_G_side (dc hd_G_areInLine 7 rfl) rfl rfl ⟨Nat.le_of_ble_eq_true rfl, Nat.le_of_ble_eq_true rfl⟩ ⟨(Nat.le_of_ble_eq_true rfl), (Nat.le_of_ble_eq_true rfl)⟩ (Nat.le_of_ble_eq_true rfl) (fun _ h => by cases h) (fun _ => rfl) (fun r_4 D_6 d_7 q_5 => ?_)
  obtain ⟨q_5a, q_5b, h⟩ := q_5
  subst D_6
  subst d_7
  show AW p l e _ s m args below meth c E M_G_areInLine true _ n _ _ _ [(2, v0), (2, v1)] [(0, r_4)] C
  refine AW.if_ne (t := 30) (dc hd_G_areInLine 8 rfl) (by decide) (fun c_8 => ?_) (fun c_8 => ?_)
  · have h := h.2 c_8
    refine AW.iconst (dc hd_G_areInLine 20 rfl) (by decide) ?_
    exact AW.zret (dc hd_G_areInLine 21 rfl) rfl rfl (Nat.le_of_ble_eq_true rfl) (Nat.le_of_ble_eq_true rfl) (by decide) ⟨rfl, rfl, h⟩
  · have h := h.1 c_8
    refine AW.ra_n (dc hd_G_areInLine 9 rfl) rfl rfl rfl ?_
    refine AW.ra_n (dc hd_G_areInLine 10 rfl) rfl rfl rfl ?_
    refine AW.iconst (dc hd_G_areInLine 11 rfl) (by decide) ?_
    obtain ⟨g_9, h⟩ := h
    refine AW.iald (dc hd_G_areInLine 12 rfl) g_1 g_9 ?_
    refine AW.ra_n (dc hd_G_areInLine 13 rfl) rfl rfl rfl ?_
    refine AW.iconst (dc hd_G_areInLine 14 rfl) (by decide) ?_
    obtain ⟨g_10, h⟩ := h
    refine AW.iald (dc hd_G_areInLine 15 rfl) g_1 g_10 ?_
    refine AW.callS (As := [(2, v0), (0, C v1.toNat 4), (0, C v1.toNat 5)]) (rest := []) (m_G_side l E n C v0 (C v1.toNat 4) (C v1.toNat 5) _ h) cb_10_126 sm_G_side (dc hd_G_areInLine 16 rfl) rfl rfl ⟨Nat.le_of_ble_eq_true rfl, Nat.le_of_ble_eq_true rfl⟩ ⟨(Nat.le_of_ble_eq_true rfl), (Nat.le_of_ble_eq_true rfl)⟩ (Nat.le_of_ble_eq_true rfl) (fun _ h => by cases h) (fun _ => rfl) (fun r_11 D_13 d_14 q_12 => ?_)
    obtain ⟨q_12a, q_12b, h⟩ := q_12
    subst D_13
    subst d_14
    show AW p l e _ s m args below meth c E M_G_areInLine true _ n _ _ _ [(2, v0), (2, v1)] [(0, r_11)] C
    refine AW.if_ne (t := 30) (dc hd_G_areInLine 17 rfl) (by decide) (fun c_15 => ?_) (fun c_15 => ?_)
    · simp only [if_neg c_15] at h
      refine AW.iconst (dc hd_G_areInLine 20 rfl) (by decide) ?_
      refine AW.fgt [(9, 0), (9, 0)] ⟨.inr rfl, .inr rfl, trivial⟩ ?_
      exact aJ_G_areInLine_31 n C _ Q h
    · simp only [if_pos c_15] at h
      refine AW.iconst (dc hd_G_areInLine 18 rfl) (by decide) ?_
      refine AW.goto (t := 31) (dc hd_G_areInLine 19 rfl) (by decide) ?_
      refine AW.fgt [(9, 0), (9, 0)] ⟨.inr rfl, .inr rfl, trivial⟩ ?_
      exact aJ_G_areInLine_31 n C _ Q h
def J_G_overlap_41 (n : Nat) (C : Cn) (s0 : Int) (Q : Int → Prop) : Prop :=
  (s0 = 0 ∨ s0 = 1) ∧ (Q s0)
theorem aJ_G_overlap_41 (n : Nat) (C : Cn) (s0 : Int) (Q : Int → Prop) (h : J_G_overlap_41 n C s0 Q) : AW p l e R s m args below meth c E M_G_overlap true (fun r C2 n2 => C2 = C ∧ n2 = n ∧ Q r) n 0 0 41 [(9, 0), (9, 0)] [(0, s0)] C := by
  unfold J_G_overlap_41 at h
  obtain ⟨g_21, h⟩ := h
  exact AW.zret (dc hd_G_overlap 31 rfl) rfl rfl (Nat.le_of_ble_eq_true rfl) (Nat.le_of_ble_eq_true rfl) g_21 ⟨rfl, rfl, h⟩
def P_G_overlap (n : Nat) (C : Cn) (v0 v1 : Int) (Q : Int → Prop) : Prop :=
  okO n v0 12 ∧ (okI v0 2 ∧ (okI v0 3 ∧ (okO n v1 12 ∧ (okI v1 4 ∧ (okI v1 5 ∧ (P_G_isAhead n C (C v0.toNat 2) (C v0.toNat 3) (C v1.toNat 4) (C v1.toNat 5) (fun (r_7 : Int) => (r_7 = 0 → (Q 0)) ∧ (¬ r_7 = 0 → (okI v1 2 ∧ (okI v1 3 ∧ (okI v0 4 ∧ (okI v0 5 ∧ (P_G_isAhead n C (C v1.toNat 2) (C v1.toNat 3) (C v0.toNat 4) (C v0.toNat 5) (fun (r_16 : Int) => J_G_overlap_41 n C (if r_16 = 0 then 0 else 1) Q))))))))))))))
theorem m_G_overlap (l : Launch) (E : Ev) (n : Nat) (C : Cn) (v0 v1 : Int) (Q : Int → Prop) (h : P_G_overlap n C v0 v1 Q) : MA l y_G_overlap M_G_overlap E true C n [(2, v0), (2, v1)] (fun r C2 n2 => C2 = C ∧ n2 = n ∧ Q r) := by
  refine MA.of (by decide) rfl rfl 0 rfl (fun p e s m args below meth c => ?_)
  show AW p l e _ s m args below meth c E M_G_overlap true _ n 0 0 0 [(2, v0), (2, v1)] [] C
  unfold P_G_overlap at h
  refine AW.ra_n (dc hd_G_overlap 0 rfl) rfl rfl rfl ?_
  refine AW.iconst (dc hd_G_overlap 1 rfl) (by decide) ?_
  obtain ⟨g_1, h⟩ := h
  obtain ⟨g_2, h⟩ := h
  refine AW.iald (dc hd_G_overlap 2 rfl) g_1 g_2 ?_
  refine AW.ra_n (dc hd_G_overlap 3 rfl) rfl rfl rfl ?_
  refine AW.iconst (dc hd_G_overlap 4 rfl) (by decide) ?_
  obtain ⟨g_3, h⟩ := h
  refine AW.iald (dc hd_G_overlap 5 rfl) g_1 g_3 ?_
  refine AW.ra_n (dc hd_G_overlap 6 rfl) rfl rfl rfl ?_
  refine AW.iconst (dc hd_G_overlap 7 rfl) (by decide) ?_
  obtain ⟨g_4, h⟩ := h
  obtain ⟨g_5, h⟩ := h
  refine AW.iald (dc hd_G_overlap 8 rfl) g_4 g_5 ?_
  refine AW.ra_n (dc hd_G_overlap 9 rfl) rfl rfl rfl ?_
  refine AW.iconst (dc hd_G_overlap 10 rfl) (by decide) ?_
  obtain ⟨g_6, h⟩ := h
  refine AW.iald (dc hd_G_overlap 11 rfl) g_4 g_6 ?_
  refine AW.callS (As := [(0, C v0.toNat 2), (0, C v0.toNat 3), (0, C v1.toNat 4), (0, C v1.toNat 5)]) (rest := []) (m_G_isAhead l E n C (C v0.toNat 2) (C v0.toNat 3) (C v1.toNat 4) (C v1.toNat 5) _ h) cb_10_130 sm_G_isAhead (dc hd_G_overlap 12 rfl) rfl rfl ⟨Nat.le_of_ble_eq_true rfl, Nat.le_of_ble_eq_true rfl⟩ ⟨(Nat.le_of_ble_eq_true rfl), (Nat.le_of_ble_eq_true rfl)⟩ (Nat.le_of_ble_eq_true rfl) (fun _ h => by cases h) (fun _ => rfl) (fun r_7 D_9 d_10 q_8 => ?_)
  obtain ⟨q_8a, q_8b, h⟩ := q_8
  subst D_9
  subst d_10
  show AW p l e _ s m args below meth c E M_G_overlap true _ n _ _ _ [(2, v0), (2, v1)] [(0, r_7)] C
  refine AW.if_eq (t := 40) (dc hd_G_overlap 13 rfl) (by decide) (fun c_11 => ?_) (fun c_11 => ?_)
  · have h := h.1 c_11
    refine AW.iconst (dc hd_G_overlap 30 rfl) (by decide) ?_
    exact AW.zret (dc hd_G_overlap 31 rfl) rfl rfl (Nat.le_of_ble_eq_true rfl) (Nat.le_of_ble_eq_true rfl) (by decide) ⟨rfl, rfl, h⟩
  · have h := h.2 c_11
    refine AW.ra_n (dc hd_G_overlap 14 rfl) rfl rfl rfl ?_
    refine AW.iconst (dc hd_G_overlap 15 rfl) (by decide) ?_
    obtain ⟨g_12, h⟩ := h
    refine AW.iald (dc hd_G_overlap 16 rfl) g_4 g_12 ?_
    refine AW.ra_n (dc hd_G_overlap 17 rfl) rfl rfl rfl ?_
    refine AW.iconst (dc hd_G_overlap 18 rfl) (by decide) ?_
    obtain ⟨g_13, h⟩ := h
    refine AW.iald (dc hd_G_overlap 19 rfl) g_4 g_13 ?_
    refine AW.ra_n (dc hd_G_overlap 20 rfl) rfl rfl rfl ?_
    refine AW.iconst (dc hd_G_overlap 21 rfl) (by decide) ?_
    obtain ⟨g_14, h⟩ := h
    refine AW.iald (dc hd_G_overlap 22 rfl) g_1 g_14 ?_
    refine AW.ra_n (dc hd_G_overlap 23 rfl) rfl rfl rfl ?_
    refine AW.iconst (dc hd_G_overlap 24 rfl) (by decide) ?_
    obtain ⟨g_15, h⟩ := h
    refine AW.iald (dc hd_G_overlap 25 rfl) g_1 g_15 ?_
    refine AW.callS (As := [(0, C v1.toNat 2), (0, C v1.toNat 3), (0, C v0.toNat 4), (0, C v0.toNat 5)]) (rest := []) (m_G_isAhead l E n C (C v1.toNat 2) (C v1.toNat 3) (C v0.toNat 4) (C v0.toNat 5) _ h) cb_10_130 sm_G_isAhead (dc hd_G_overlap 26 rfl) rfl rfl ⟨Nat.le_of_ble_eq_true rfl, Nat.le_of_ble_eq_true rfl⟩ ⟨(Nat.le_of_ble_eq_true rfl), (Nat.le_of_ble_eq_true rfl)⟩ (Nat.le_of_ble_eq_true rfl) (fun _ h => by cases h) (fun _ => rfl) (fun r_16 D_18 d_19 q_17 => ?_)
    obtain ⟨q_17a, q_17b, h⟩ := q_17
    subst D_18
    subst d_19
    show AW p l e _ s m args below meth c E M_G_overlap true _ n _ _ _ [(2, v0), (2, v1)] [(0, r_16)] C
    refine AW.if_eq (t := 40) (dc hd_G_overlap 27 rfl) (by decide) (fun c_20 => ?_) (fun c_20 => ?_)
    · simp only [if_pos c_20] at h
      refine AW.iconst (dc hd_G_overlap 30 rfl) (by decide) ?_
      refine AW.fgt [(9, 0), (9, 0)] ⟨.inr rfl, .inr rfl, trivial⟩ ?_
      exact aJ_G_overlap_41 n C _ Q h
    · simp only [if_neg c_20] at h
      refine AW.iconst (dc hd_G_overlap 28 rfl) (by decide) ?_
      refine AW.goto (t := 41) (dc hd_G_overlap 29 rfl) (by decide) ?_
      refine AW.fgt [(9, 0), (9, 0)] ⟨.inr rfl, .inr rfl, trivial⟩ ?_
      exact aJ_G_overlap_41 n C _ Q h
def J_G_rests_57 (n : Nat) (C : Cn) (s0 : Int) (Q : Int → Prop) : Prop :=
  (s0 = 0 ∨ s0 = 1) ∧ (Q s0)
theorem aJ_G_rests_57 (n : Nat) (C : Cn) (s0 : Int) (Q : Int → Prop) (h : J_G_rests_57 n C s0 Q) : AW p l e R s m args below meth c E M_G_rests true (fun r C2 n2 => C2 = C ∧ n2 = n ∧ Q r) n 0 0 57 [(9, 0), (9, 0)] [(0, s0)] C := by
  unfold J_G_rests_57 at h
  obtain ⟨g_22, h⟩ := h
  exact AW.zret (dc hd_G_rests 39 rfl) rfl rfl (Nat.le_of_ble_eq_true rfl) (Nat.le_of_ble_eq_true rfl) g_22 ⟨rfl, rfl, h⟩
def J_G_rests_26 (n : Nat) (C : Cn) (v0 v1 : Int) (Q : Int → Prop) : Prop :=
  okO n v0 12 ∧ (okI v0 4 ∧ (okI v0 5 ∧ (P_G_isOn n C v1 (C v0.toNat 4) (C v0.toNat 5) (fun (r_12 : Int) => (r_12 = 0 → (Q 0)) ∧ (¬ r_12 = 0 → (P_G_isEnd n C v1 (C v0.toNat 4) (C v0.toNat 5) (fun (r_17 : Int) => J_G_rests_57 n C (if r_17 = 0 then 1 else 0) Q)))))))
theorem aJ_G_rests_26 (n : Nat) (C : Cn) (v0 v1 : Int) (Q : Int → Prop) (h : J_G_rests_26 n C v0 v1 Q) : AW p l e R s m args below meth c E M_G_rests true (fun r C2 n2 => C2 = C ∧ n2 = n ∧ Q r) n 0 0 26 [(2, v0), (2, v1)] [] C := by
  unfold J_G_rests_26 at h
  refine AW.ra_n (dc hd_G_rests 18 rfl) rfl rfl rfl ?_
  refine AW.ra_n (dc hd_G_rests 19 rfl) rfl rfl rfl ?_
  refine AW.iconst (dc hd_G_rests 20 rfl) (by decide) ?_
  obtain ⟨g_9, h⟩ := h
  obtain ⟨g_10, h⟩ := h
  refine AW.iald (dc hd_G_rests 21 rfl) g_9 g_10 ?_
  refine AW.ra_n (dc hd_G_rests 22 rfl) rfl rfl rfl ?_
  refine AW.iconst (dc hd_G_rests 23 rfl) (by decide) ?_
  obtain ⟨g_11, h⟩ := h
  refine AW.iald (dc hd_G_rests 24 rfl) g_9 g_11 ?_
  refine AW.callS (As := [(2, v1), (0, C v0.toNat 4), (0, C v0.toNat 5)]) (rest := []) (m_G_isOn l E n C v1 (C v0.toNat 4) (C v0.toNat 5) _ h) cb_10_138 sm_G_isOn (dc hd_G_rests 25 rfl) rfl rfl ⟨Nat.le_of_ble_eq_true rfl, Nat.le_of_ble_eq_true rfl⟩ ⟨(Nat.le_of_ble_eq_true rfl), (Nat.le_of_ble_eq_true rfl)⟩ (Nat.le_of_ble_eq_true rfl) (fun _ h => by cases h) (fun _ => rfl) (fun r_12 D_14 d_15 q_13 => ?_)
  obtain ⟨q_13a, q_13b, h⟩ := q_13
  subst D_14
  subst d_15
  show AW p l e _ s m args below meth c E M_G_rests true _ n _ _ _ [(2, v0), (2, v1)] [(0, r_12)] C
  refine AW.if_eq (t := 56) (dc hd_G_rests 26 rfl) (by decide) (fun c_16 => ?_) (fun c_16 => ?_)
  · have h := h.1 c_16
    refine AW.iconst (dc hd_G_rests 38 rfl) (by decide) ?_
    exact AW.zret (dc hd_G_rests 39 rfl) rfl rfl (Nat.le_of_ble_eq_true rfl) (Nat.le_of_ble_eq_true rfl) (by decide) ⟨rfl, rfl, h⟩
  · have h := h.2 c_16
    refine AW.ra_n (dc hd_G_rests 27 rfl) rfl rfl rfl ?_
    refine AW.ra_n (dc hd_G_rests 28 rfl) rfl rfl rfl ?_
    refine AW.iconst (dc hd_G_rests 29 rfl) (by decide) ?_
    refine AW.iald (dc hd_G_rests 30 rfl) g_9 g_10 ?_
    refine AW.ra_n (dc hd_G_rests 31 rfl) rfl rfl rfl ?_
    refine AW.iconst (dc hd_G_rests 32 rfl) (by decide) ?_
    refine AW.iald (dc hd_G_rests 33 rfl) g_9 g_11 ?_
    refine AW.callS (As := [(2, v1), (0, C v0.toNat 4), (0, C v0.toNat 5)]) (rest := []) (m_G_isEnd l E n C v1 (C v0.toNat 4) (C v0.toNat 5) _ h) cb_10_142 sm_G_isEnd (dc hd_G_rests 34 rfl) rfl rfl ⟨Nat.le_of_ble_eq_true rfl, Nat.le_of_ble_eq_true rfl⟩ ⟨(Nat.le_of_ble_eq_true rfl), (Nat.le_of_ble_eq_true rfl)⟩ (Nat.le_of_ble_eq_true rfl) (fun _ h => by cases h) (fun _ => rfl) (fun r_17 D_19 d_20 q_18 => ?_)
    obtain ⟨q_18a, q_18b, h⟩ := q_18
    subst D_19
    subst d_20
    show AW p l e _ s m args below meth c E M_G_rests true _ n _ _ _ [(2, v0), (2, v1)] [(0, r_17)] C
    refine AW.if_ne (t := 56) (dc hd_G_rests 35 rfl) (by decide) (fun c_21 => ?_) (fun c_21 => ?_)
    · simp only [if_neg c_21] at h
      refine AW.iconst (dc hd_G_rests 38 rfl) (by decide) ?_
      refine AW.fgt [(9, 0), (9, 0)] ⟨.inr rfl, .inr rfl, trivial⟩ ?_
      exact aJ_G_rests_57 n C _ Q h
    · simp only [if_pos c_21] at h
      refine AW.iconst (dc hd_G_rests 36 rfl) (by decide) ?_
      refine AW.goto (t := 57) (dc hd_G_rests 37 rfl) (by decide) ?_
      refine AW.fgt [(9, 0), (9, 0)] ⟨.inr rfl, .inr rfl, trivial⟩ ?_
      exact aJ_G_rests_57 n C _ Q h
def P_G_rests (n : Nat) (C : Cn) (v0 v1 : Int) (Q : Int → Prop) : Prop :=
  okO n v0 12 ∧ (okI v0 2 ∧ (okI v0 3 ∧ (P_G_isOn n C v1 (C v0.toNat 2) (C v0.toNat 3) (fun (r_4 : Int) => (r_4 = 0 → (J_G_rests_26 n C v0 v1 Q)) ∧ (¬ r_4 = 0 → (P_G_isEnd n C v1 (C v0.toNat 2) (C v0.toNat 3) (fun (r_23 : Int) => (r_23 = 0 → (Q 1)) ∧ (¬ r_23 = 0 → (J_G_rests_26 n C v0 v1 Q)))))))))
theorem m_G_rests (l : Launch) (E : Ev) (n : Nat) (C : Cn) (v0 v1 : Int) (Q : Int → Prop) (h : P_G_rests n C v0 v1 Q) : MA l y_G_rests M_G_rests E true C n [(2, v0), (2, v1)] (fun r C2 n2 => C2 = C ∧ n2 = n ∧ Q r) := by
  refine MA.of (by decide) rfl rfl 0 rfl (fun p e s m args below meth c => ?_)
  show AW p l e _ s m args below meth c E M_G_rests true _ n 0 0 0 [(2, v0), (2, v1)] [] C
  unfold P_G_rests at h
  refine AW.ra_n (dc hd_G_rests 0 rfl) rfl rfl rfl ?_
  refine AW.ra_n (dc hd_G_rests 1 rfl) rfl rfl rfl ?_
  refine AW.iconst (dc hd_G_rests 2 rfl) (by decide) ?_
  obtain ⟨g_1, h⟩ := h
  obtain ⟨g_2, h⟩ := h
  refine AW.iald (dc hd_G_rests 3 rfl) g_1 g_2 ?_
  refine AW.ra_n (dc hd_G_rests 4 rfl) rfl rfl rfl ?_
  refine AW.iconst (dc hd_G_rests 5 rfl) (by decide) ?_
  obtain ⟨g_3, h⟩ := h
  refine AW.iald (dc hd_G_rests 6 rfl) g_1 g_3 ?_
  refine AW.callS (As := [(2, v1), (0, C v0.toNat 2), (0, C v0.toNat 3)]) (rest := []) (m_G_isOn l E n C v1 (C v0.toNat 2) (C v0.toNat 3) _ h) cb_10_138 sm_G_isOn (dc hd_G_rests 7 rfl) rfl rfl ⟨Nat.le_of_ble_eq_true rfl, Nat.le_of_ble_eq_true rfl⟩ ⟨(Nat.le_of_ble_eq_true rfl), (Nat.le_of_ble_eq_true rfl)⟩ (Nat.le_of_ble_eq_true rfl) (fun _ h => by cases h) (fun _ => rfl) (fun r_4 D_6 d_7 q_5 => ?_)
  obtain ⟨q_5a, q_5b, h⟩ := q_5
  subst D_6
  subst d_7
  show AW p l e _ s m args below meth c E M_G_rests true _ n _ _ _ [(2, v0), (2, v1)] [(0, r_4)] C
  refine AW.if_eq (t := 26) (dc hd_G_rests 8 rfl) (by decide) (fun c_8 => ?_) (fun c_8 => ?_)
  · have h := h.1 c_8
    exact aJ_G_rests_26 n C v0 v1 Q h
  · have h := h.2 c_8
    refine AW.ra_n (dc hd_G_rests 9 rfl) rfl rfl rfl ?_
    refine AW.ra_n (dc hd_G_rests 10 rfl) rfl rfl rfl ?_
    refine AW.iconst (dc hd_G_rests 11 rfl) (by decide) ?_
    refine AW.iald (dc hd_G_rests 12 rfl) g_1 g_2 ?_
    refine AW.ra_n (dc hd_G_rests 13 rfl) rfl rfl rfl ?_
    refine AW.iconst (dc hd_G_rests 14 rfl) (by decide) ?_
    refine AW.iald (dc hd_G_rests 15 rfl) g_1 g_3 ?_
    refine AW.callS (As := [(2, v1), (0, C v0.toNat 2), (0, C v0.toNat 3)]) (rest := []) (m_G_isEnd l E n C v1 (C v0.toNat 2) (C v0.toNat 3) _ h) cb_10_142 sm_G_isEnd (dc hd_G_rests 16 rfl) rfl rfl ⟨Nat.le_of_ble_eq_true rfl, Nat.le_of_ble_eq_true rfl⟩ ⟨(Nat.le_of_ble_eq_true rfl), (Nat.le_of_ble_eq_true rfl)⟩ (Nat.le_of_ble_eq_true rfl) (fun _ h => by cases h) (fun _ => rfl) (fun r_23 D_25 d_26 q_24 => ?_)
    obtain ⟨q_24a, q_24b, h⟩ := q_24
    subst D_25
    subst d_26
    show AW p l e _ s m args below meth c E M_G_rests true _ n _ _ _ [(2, v0), (2, v1)] [(0, r_23)] C
    refine AW.if_eq (t := 52) (dc hd_G_rests 17 rfl) (by decide) (fun c_27 => ?_) (fun c_27 => ?_)
    · have h := h.1 c_27
      refine AW.iconst (dc hd_G_rests 36 rfl) (by decide) ?_
      refine AW.goto (t := 57) (dc hd_G_rests 37 rfl) (by decide) ?_
      exact AW.zret (dc hd_G_rests 39 rfl) rfl rfl (Nat.le_of_ble_eq_true rfl) (Nat.le_of_ble_eq_true rfl) (by decide) ⟨rfl, rfl, h⟩
    · have h := h.2 c_27
      exact aJ_G_rests_26 n C v0 v1 Q h
def J_G_areApart_51 (n : Nat) (C : Cn) (s0 : Int) (Q : Int → Prop) : Prop :=
  (s0 = 0 ∨ s0 = 1) ∧ (Q s0)
theorem aJ_G_areApart_51 (n : Nat) (C : Cn) (s0 : Int) (Q : Int → Prop) (h : J_G_areApart_51 n C s0 Q) : AW p l e R s m args below meth c E M_G_areApart true (fun r C2 n2 => C2 = C ∧ n2 = n ∧ Q r) n 0 0 51 [(9, 0), (9, 0)] [(0, s0)] C := by
  unfold J_G_areApart_51 at h
  obtain ⟨g_21, h⟩ := h
  exact AW.zret (dc hd_G_areApart 27 rfl) rfl rfl (Nat.le_of_ble_eq_true rfl) (Nat.le_of_ble_eq_true rfl) g_21 ⟨rfl, rfl, h⟩
def J_G_areApart_21 (n : Nat) (C : Cn) (s0 : Int) (Q : Int → Prop) : Prop :=
  (s0 = 0 ∨ s0 = 1) ∧ (Q s0)
theorem aJ_G_areApart_21 (n : Nat) (C : Cn) (s0 : Int) (Q : Int → Prop) (h : J_G_areApart_21 n C s0 Q) : AW p l e R s m args below meth c E M_G_areApart true (fun r C2 n2 => C2 = C ∧ n2 = n ∧ Q r) n 0 0 21 [(9, 0), (9, 0)] [(0, s0)] C := by
  unfold J_G_areApart_21 at h
  obtain ⟨g_27, h⟩ := h
  exact AW.zret (dc hd_G_areApart 11 rfl) rfl rfl (Nat.le_of_ble_eq_true rfl) (Nat.le_of_ble_eq_true rfl) g_27 ⟨rfl, rfl, h⟩
def P_G_areApart (n : Nat) (C : Cn) (v0 v1 : Int) (Q : Int → Prop) : Prop :=
  P_G_areInLine n C v0 v1 (fun (r_1 : Int) => (r_1 = 0 → (P_G_doCross n C v0 v1 (fun (r_6 : Int) => (r_6 = 0 → (P_G_rests n C v0 v1 (fun (r_11 : Int) => (r_11 = 0 → (P_G_rests n C v1 v0 (fun (r_16 : Int) => J_G_areApart_51 n C (if r_16 = 0 then 1 else 0) Q))) ∧ (¬ r_11 = 0 → (Q 0))))) ∧ (¬ r_6 = 0 → (Q 0))))) ∧ (¬ r_1 = 0 → (P_G_overlap n C v0 v1 (fun (r_22 : Int) => J_G_areApart_21 n C (if r_22 = 0 then 1 else 0) Q))))
theorem m_G_areApart (l : Launch) (E : Ev) (n : Nat) (C : Cn) (v0 v1 : Int) (Q : Int → Prop) (h : P_G_areApart n C v0 v1 Q) : MA l y_G_areApart M_G_areApart E true C n [(2, v0), (2, v1)] (fun r C2 n2 => C2 = C ∧ n2 = n ∧ Q r) := by
  refine MA.of (by decide) rfl rfl 0 rfl (fun p e s m args below meth c => ?_)
  show AW p l e _ s m args below meth c E M_G_areApart true _ n 0 0 0 [(2, v0), (2, v1)] [] C
  unfold P_G_areApart at h
  refine AW.ra_n (dc hd_G_areApart 0 rfl) rfl rfl rfl ?_
  refine AW.ra_n (dc hd_G_areApart 1 rfl) rfl rfl rfl ?_
  refine AW.callS (As := [(2, v0), (2, v1)]) (rest := []) (m_G_areInLine l E n C v0 v1 _ h) cb_10_145 sm_G_areInLine (dc hd_G_areApart 2 rfl) rfl rfl ⟨Nat.le_of_ble_eq_true rfl, Nat.le_of_ble_eq_true rfl⟩ ⟨(Nat.le_of_ble_eq_true rfl), (Nat.le_of_ble_eq_true rfl)⟩ (Nat.le_of_ble_eq_true rfl) (fun _ h => by cases h) (fun _ => rfl) (fun r_1 D_3 d_4 q_2 => ?_)
  obtain ⟨q_2a, q_2b, h⟩ := q_2
  subst D_3
  subst d_4
  show AW p l e _ s m args below meth c E M_G_areApart true _ n _ _ _ [(2, v0), (2, v1)] [(0, r_1)] C
  refine AW.if_eq (t := 22) (dc hd_G_areApart 3 rfl) (by decide) (fun c_5 => ?_) (fun c_5 => ?_)
  · have h := h.1 c_5
    refine AW.ra_n (dc hd_G_areApart 12 rfl) rfl rfl rfl ?_
    refine AW.ra_n (dc hd_G_areApart 13 rfl) rfl rfl rfl ?_
    refine AW.callS (As := [(2, v0), (2, v1)]) (rest := []) (m_G_doCross l E n C v0 v1 _ h) cb_10_152 sm_G_doCross (dc hd_G_areApart 14 rfl) rfl rfl ⟨Nat.le_of_ble_eq_true rfl, Nat.le_of_ble_eq_true rfl⟩ ⟨(Nat.le_of_ble_eq_true rfl), (Nat.le_of_ble_eq_true rfl)⟩ (Nat.le_of_ble_eq_true rfl) (fun _ h => by cases h) (fun _ => rfl) (fun r_6 D_8 d_9 q_7 => ?_)
    obtain ⟨q_7a, q_7b, h⟩ := q_7
    subst D_8
    subst d_9
    show AW p l e _ s m args below meth c E M_G_areApart true _ n _ _ _ [(2, v0), (2, v1)] [(0, r_6)] C
    refine AW.if_ne (t := 50) (dc hd_G_areApart 15 rfl) (by decide) (fun c_10 => ?_) (fun c_10 => ?_)
    · have h := h.2 c_10
      refine AW.iconst (dc hd_G_areApart 26 rfl) (by decide) ?_
      exact AW.zret (dc hd_G_areApart 27 rfl) rfl rfl (Nat.le_of_ble_eq_true rfl) (Nat.le_of_ble_eq_true rfl) (by decide) ⟨rfl, rfl, h⟩
    · have h := h.1 c_10
      refine AW.ra_n (dc hd_G_areApart 16 rfl) rfl rfl rfl ?_
      refine AW.ra_n (dc hd_G_areApart 17 rfl) rfl rfl rfl ?_
      refine AW.callS (As := [(2, v0), (2, v1)]) (rest := []) (m_G_rests l E n C v0 v1 _ h) cb_10_155 sm_G_rests (dc hd_G_areApart 18 rfl) rfl rfl ⟨Nat.le_of_ble_eq_true rfl, Nat.le_of_ble_eq_true rfl⟩ ⟨(Nat.le_of_ble_eq_true rfl), (Nat.le_of_ble_eq_true rfl)⟩ (Nat.le_of_ble_eq_true rfl) (fun _ h => by cases h) (fun _ => rfl) (fun r_11 D_13 d_14 q_12 => ?_)
      obtain ⟨q_12a, q_12b, h⟩ := q_12
      subst D_13
      subst d_14
      show AW p l e _ s m args below meth c E M_G_areApart true _ n _ _ _ [(2, v0), (2, v1)] [(0, r_11)] C
      refine AW.if_ne (t := 50) (dc hd_G_areApart 19 rfl) (by decide) (fun c_15 => ?_) (fun c_15 => ?_)
      · have h := h.2 c_15
        refine AW.iconst (dc hd_G_areApart 26 rfl) (by decide) ?_
        exact AW.zret (dc hd_G_areApart 27 rfl) rfl rfl (Nat.le_of_ble_eq_true rfl) (Nat.le_of_ble_eq_true rfl) (by decide) ⟨rfl, rfl, h⟩
      · have h := h.1 c_15
        refine AW.ra_n (dc hd_G_areApart 20 rfl) rfl rfl rfl ?_
        refine AW.ra_n (dc hd_G_areApart 21 rfl) rfl rfl rfl ?_
        refine AW.callS (As := [(2, v1), (2, v0)]) (rest := []) (m_G_rests l E n C v1 v0 _ h) cb_10_155 sm_G_rests (dc hd_G_areApart 22 rfl) rfl rfl ⟨Nat.le_of_ble_eq_true rfl, Nat.le_of_ble_eq_true rfl⟩ ⟨(Nat.le_of_ble_eq_true rfl), (Nat.le_of_ble_eq_true rfl)⟩ (Nat.le_of_ble_eq_true rfl) (fun _ h => by cases h) (fun _ => rfl) (fun r_16 D_18 d_19 q_17 => ?_)
        obtain ⟨q_17a, q_17b, h⟩ := q_17
        subst D_18
        subst d_19
        show AW p l e _ s m args below meth c E M_G_areApart true _ n _ _ _ [(2, v0), (2, v1)] [(0, r_16)] C
        refine AW.if_ne (t := 50) (dc hd_G_areApart 23 rfl) (by decide) (fun c_20 => ?_) (fun c_20 => ?_)
        · simp only [if_neg c_20] at h
          refine AW.iconst (dc hd_G_areApart 26 rfl) (by decide) ?_
          refine AW.fgt [(9, 0), (9, 0)] ⟨.inr rfl, .inr rfl, trivial⟩ ?_
          exact aJ_G_areApart_51 n C _ Q h
        · simp only [if_pos c_20] at h
          refine AW.iconst (dc hd_G_areApart 24 rfl) (by decide) ?_
          refine AW.goto (t := 51) (dc hd_G_areApart 25 rfl) (by decide) ?_
          refine AW.fgt [(9, 0), (9, 0)] ⟨.inr rfl, .inr rfl, trivial⟩ ?_
          exact aJ_G_areApart_51 n C _ Q h
  · have h := h.2 c_5
    refine AW.ra_n (dc hd_G_areApart 4 rfl) rfl rfl rfl ?_
    refine AW.ra_n (dc hd_G_areApart 5 rfl) rfl rfl rfl ?_
    refine AW.callS (As := [(2, v0), (2, v1)]) (rest := []) (m_G_overlap l E n C v0 v1 _ h) cb_10_149 sm_G_overlap (dc hd_G_areApart 6 rfl) rfl rfl ⟨Nat.le_of_ble_eq_true rfl, Nat.le_of_ble_eq_true rfl⟩ ⟨(Nat.le_of_ble_eq_true rfl), (Nat.le_of_ble_eq_true rfl)⟩ (Nat.le_of_ble_eq_true rfl) (fun _ h => by cases h) (fun _ => rfl) (fun r_22 D_24 d_25 q_23 => ?_)
    obtain ⟨q_23a, q_23b, h⟩ := q_23
    subst D_24
    subst d_25
    show AW p l e _ s m args below meth c E M_G_areApart true _ n _ _ _ [(2, v0), (2, v1)] [(0, r_22)] C
    refine AW.if_ne (t := 20) (dc hd_G_areApart 7 rfl) (by decide) (fun c_26 => ?_) (fun c_26 => ?_)
    · simp only [if_neg c_26] at h
      refine AW.iconst (dc hd_G_areApart 10 rfl) (by decide) ?_
      refine AW.fgt [(9, 0), (9, 0)] ⟨.inr rfl, .inr rfl, trivial⟩ ?_
      exact aJ_G_areApart_21 n C _ Q h
    · simp only [if_pos c_26] at h
      refine AW.iconst (dc hd_G_areApart 8 rfl) (by decide) ?_
      refine AW.goto (t := 21) (dc hd_G_areApart 9 rfl) (by decide) ?_
      refine AW.fgt [(9, 0), (9, 0)] ⟨.inr rfl, .inr rfl, trivial⟩ ?_
      exact aJ_G_areApart_21 n C _ Q h
def J_G_lays_80 (n : Nat) (C : Cn) (s0 s1 s2 : Int) (Q : Int → Cn → Prop) : Prop :=
  okO n s0 12 ∧ (okI s0 s1 ∧ (∀ C_25 : Cn, C_25 = wr C s0.toNat s1.toNat s2 → (Q 0 C_25)))
theorem aJ_G_lays_80 (n : Nat) (C : Cn) (s0 s1 s2 : Int) (Q : Int → Cn → Prop) (h : J_G_lays_80 n C s0 s1 s2 Q) : AW p l e R s m args below meth c E M_G_lays true (fun r C2 n2 => n2 = n ∧ Q r C2) n 0 0 80 [(9, 0), (9, 0), (9, 0), (9, 0), (9, 0), (9, 0), (9, 0)] [(0, s2), (0, s1), (2, s0)] C := by
  unfold J_G_lays_80 at h
  obtain ⟨g_23, h⟩ := h
  obtain ⟨g_24, h⟩ := h
  refine AW.niast (dc hd_G_lays 49 rfl) g_23 g_24 (fun C_25 eC_25 => ?_)
  have h := h C_25 eC_25
  exact AW.vret (dc hd_G_lays 50 rfl) rfl rfl (Nat.le_of_ble_eq_true rfl) (Nat.le_of_ble_eq_true rfl) ⟨rfl, h⟩
def J_G_lays_66 (n : Nat) (C : Cn) (v0 v3 v5 v6 s0 s1 s2 : Int) (Q : Int → Cn → Prop) : Prop :=
  okO n s0 12 ∧ (okI s0 s1 ∧ (∀ C_21 : Cn, C_21 = wr C s0.toNat s1.toNat s2 → (J_G_lays_80 n C_21 v0 5 (if v6 = 0 then v3 else v5) Q)))
theorem aJ_G_lays_66 (n : Nat) (C : Cn) (v0 v3 v5 v6 s0 s1 s2 : Int) (Q : Int → Cn → Prop) (h : J_G_lays_66 n C v0 v3 v5 v6 s0 s1 s2 Q) : AW p l e R s m args below meth c E M_G_lays true (fun r C2 n2 => n2 = n ∧ Q r C2) n 0 0 66 [(2, v0), (9, 0), (9, 0), (0, v3), (9, 0), (0, v5), (0, v6)] [(0, s2), (0, s1), (2, s0)] C := by
  unfold J_G_lays_66 at h
  obtain ⟨g_19, h⟩ := h
  obtain ⟨g_20, h⟩ := h
  refine AW.niast (dc hd_G_lays 41 rfl) g_19 g_20 (fun C_21 eC_21 => ?_)
  have h := h C_21 eC_21
  refine AW.ra_n (dc hd_G_lays 42 rfl) rfl rfl rfl ?_
  refine AW.iconst (dc hd_G_lays 43 rfl) (by decide) ?_
  refine AW.iload (dc hd_G_lays 44 rfl) rfl ?_
  refine AW.if_eq (t := 79) (dc hd_G_lays 45 rfl) (by decide) (fun c_22 => ?_) (fun c_22 => ?_)
  · simp only [if_pos c_22] at h
    refine AW.iload_n (dc hd_G_lays 48 rfl) rfl ?_
    refine AW.fgt [(9, 0), (9, 0), (9, 0), (9, 0), (9, 0), (9, 0), (9, 0)] ⟨.inr rfl, .inl rfl, .inl rfl, .inr rfl, .inl rfl, .inr rfl, .inr rfl, trivial⟩ ?_
    exact aJ_G_lays_80 n C_21 _ _ _ Q h
  · simp only [if_neg c_22] at h
    refine AW.iload (dc hd_G_lays 46 rfl) rfl ?_
    refine AW.goto (t := 80) (dc hd_G_lays 47 rfl) (by decide) ?_
    refine AW.fgt [(9, 0), (9, 0), (9, 0), (9, 0), (9, 0), (9, 0), (9, 0)] ⟨.inr rfl, .inl rfl, .inl rfl, .inr rfl, .inl rfl, .inr rfl, .inr rfl, trivial⟩ ?_
    exact aJ_G_lays_80 n C_21 _ _ _ Q h
def J_G_lays_52 (n : Nat) (C : Cn) (v0 v2 v3 v4 v5 v6 s0 s1 s2 : Int) (Q : Int → Cn → Prop) : Prop :=
  okO n s0 12 ∧ (okI s0 s1 ∧ (∀ C_17 : Cn, C_17 = wr C s0.toNat s1.toNat s2 → (J_G_lays_66 n C_17 v0 v3 v5 v6 v0 4 (if v6 = 0 then v2 else v4) Q)))
theorem aJ_G_lays_52 (n : Nat) (C : Cn) (v0 v2 v3 v4 v5 v6 s0 s1 s2 : Int) (Q : Int → Cn → Prop) (h : J_G_lays_52 n C v0 v2 v3 v4 v5 v6 s0 s1 s2 Q) : AW p l e R s m args below meth c E M_G_lays true (fun r C2 n2 => n2 = n ∧ Q r C2) n 0 0 52 [(2, v0), (9, 0), (0, v2), (0, v3), (0, v4), (0, v5), (0, v6)] [(0, s2), (0, s1), (2, s0)] C := by
  unfold J_G_lays_52 at h
  obtain ⟨g_15, h⟩ := h
  obtain ⟨g_16, h⟩ := h
  refine AW.niast (dc hd_G_lays 33 rfl) g_15 g_16 (fun C_17 eC_17 => ?_)
  have h := h C_17 eC_17
  refine AW.ra_n (dc hd_G_lays 34 rfl) rfl rfl rfl ?_
  refine AW.iconst (dc hd_G_lays 35 rfl) (by decide) ?_
  refine AW.iload (dc hd_G_lays 36 rfl) rfl ?_
  refine AW.if_eq (t := 65) (dc hd_G_lays 37 rfl) (by decide) (fun c_18 => ?_) (fun c_18 => ?_)
  · simp only [if_pos c_18] at h
    refine AW.iload_n (dc hd_G_lays 40 rfl) rfl ?_
    refine AW.fgt [(2, v0), (9, 0), (9, 0), (0, v3), (9, 0), (0, v5), (0, v6)] ⟨.inl rfl, .inl rfl, .inr rfl, .inl rfl, .inr rfl, .inl rfl, .inl rfl, trivial⟩ ?_
    exact aJ_G_lays_66 n C_17 _ _ _ _ _ _ _ Q h
  · simp only [if_neg c_18] at h
    refine AW.iload (dc hd_G_lays 38 rfl) rfl ?_
    refine AW.goto (t := 66) (dc hd_G_lays 39 rfl) (by decide) ?_
    refine AW.fgt [(2, v0), (9, 0), (9, 0), (0, v3), (9, 0), (0, v5), (0, v6)] ⟨.inl rfl, .inl rfl, .inr rfl, .inl rfl, .inr rfl, .inl rfl, .inl rfl, trivial⟩ ?_
    exact aJ_G_lays_66 n C_17 _ _ _ _ _ _ _ Q h
def J_G_lays_38 (n : Nat) (C : Cn) (v0 v2 v3 v4 v5 v6 s0 s1 s2 : Int) (Q : Int → Cn → Prop) : Prop :=
  okO n s0 12 ∧ (okI s0 s1 ∧ (∀ C_13 : Cn, C_13 = wr C s0.toNat s1.toNat s2 → (J_G_lays_52 n C_13 v0 v2 v3 v4 v5 v6 v0 3 (if v6 = 0 then v5 else v3) Q)))
theorem aJ_G_lays_38 (n : Nat) (C : Cn) (v0 v2 v3 v4 v5 v6 s0 s1 s2 : Int) (Q : Int → Cn → Prop) (h : J_G_lays_38 n C v0 v2 v3 v4 v5 v6 s0 s1 s2 Q) : AW p l e R s m args below meth c E M_G_lays true (fun r C2 n2 => n2 = n ∧ Q r C2) n 0 0 38 [(2, v0), (9, 0), (0, v2), (0, v3), (0, v4), (0, v5), (0, v6)] [(0, s2), (0, s1), (2, s0)] C := by
  unfold J_G_lays_38 at h
  obtain ⟨g_11, h⟩ := h
  obtain ⟨g_12, h⟩ := h
  refine AW.niast (dc hd_G_lays 25 rfl) g_11 g_12 (fun C_13 eC_13 => ?_)
  have h := h C_13 eC_13
  refine AW.ra_n (dc hd_G_lays 26 rfl) rfl rfl rfl ?_
  refine AW.iconst (dc hd_G_lays 27 rfl) (by decide) ?_
  refine AW.iload (dc hd_G_lays 28 rfl) rfl ?_
  refine AW.if_eq (t := 50) (dc hd_G_lays 29 rfl) (by decide) (fun c_14 => ?_) (fun c_14 => ?_)
  · simp only [if_pos c_14] at h
    refine AW.iload (dc hd_G_lays 32 rfl) rfl ?_
    exact aJ_G_lays_52 n C_13 _ _ _ _ _ _ _ _ _ Q h
  · simp only [if_neg c_14] at h
    refine AW.iload_n (dc hd_G_lays 30 rfl) rfl ?_
    refine AW.goto (t := 52) (dc hd_G_lays 31 rfl) (by decide) ?_
    exact aJ_G_lays_52 n C_13 _ _ _ _ _ _ _ _ _ Q h
def P_G_lays (n : Nat) (C : Cn) (v0 v1 v2 v3 v4 v5 : Int) (Q : Int → Cn → Prop) : Prop :=
  P_G_isAhead n C v2 v3 v4 v5 (fun (r_1 : Int) => okO n v0 12 ∧ (okI v0 0 ∧ (∀ C_7 : Cn, C_7 = wr C v0.toNat 0 (w32 (Int.tdiv v1 10)) → (okI v0 1 ∧ (∀ C_9 : Cn, C_9 = wr C_7 v0.toNat 1 (w32 (Int.tmod v1 10)) → (J_G_lays_38 n C_9 v0 v2 v3 v4 v5 r_1 v0 2 (if r_1 = 0 then v4 else v2) Q))))))
theorem m_G_lays (l : Launch) (E : Ev) (n : Nat) (C : Cn) (v0 v1 v2 v3 v4 v5 : Int) (Q : Int → Cn → Prop) (h : P_G_lays n C v0 v1 v2 v3 v4 v5 Q) : MA l y_G_lays M_G_lays E true C n [(2, v0), (0, v1), (0, v2), (0, v3), (0, v4), (0, v5)] (fun r C2 n2 => n2 = n ∧ Q r C2) := by
  refine MA.of (by decide) rfl rfl 1 rfl (fun p e s m args below meth c => ?_)
  show AW p l e _ s m args below meth c E M_G_lays true _ n 0 0 0 [(2, v0), (0, v1), (0, v2), (0, v3), (0, v4), (0, v5), (9, 0)] [] C
  unfold P_G_lays at h
  refine AW.iload_n (dc hd_G_lays 0 rfl) rfl ?_
  refine AW.iload_n (dc hd_G_lays 1 rfl) rfl ?_
  refine AW.iload (dc hd_G_lays 2 rfl) rfl ?_
  refine AW.iload (dc hd_G_lays 3 rfl) rfl ?_
  refine AW.callS (As := [(0, v2), (0, v3), (0, v4), (0, v5)]) (rest := []) (m_G_isAhead l E n C v2 v3 v4 v5 _ h) cb_10_130 sm_G_isAhead (dc hd_G_lays 4 rfl) rfl rfl ⟨Nat.le_of_ble_eq_true rfl, Nat.le_of_ble_eq_true rfl⟩ ⟨(Nat.le_of_ble_eq_true rfl), (Nat.le_of_ble_eq_true rfl)⟩ (Nat.le_of_ble_eq_true rfl) (fun _ h => by cases h) (fun _ => rfl) (fun r_1 D_3 d_4 q_2 => ?_)
  obtain ⟨q_2a, q_2b, h⟩ := q_2
  subst D_3
  subst d_4
  show AW p l e _ s m args below meth c E M_G_lays true _ n _ _ _ [(2, v0), (0, v1), (0, v2), (0, v3), (0, v4), (0, v5), (9, 0)] [(0, r_1)] C
  refine AW.istore [(2, v0), (0, v1), (0, v2), (0, v3), (0, v4), (0, v5), (0, r_1)] (dc hd_G_lays 5 rfl) (Nat.le_of_ble_eq_true rfl) rfl rfl ?_
  refine AW.ra_n (dc hd_G_lays 6 rfl) rfl rfl rfl ?_
  refine AW.iconst (dc hd_G_lays 7 rfl) (by decide) ?_
  refine AW.iload_n (dc hd_G_lays 8 rfl) rfl ?_
  refine AW.bipush (dc hd_G_lays 9 rfl) (by decide) (by decide +kernel) ?_
  refine AW.idiv (dc hd_G_lays 10 rfl) (by decide) ?_
  obtain ⟨g_5, h⟩ := h
  obtain ⟨g_6, h⟩ := h
  refine AW.niast (dc hd_G_lays 11 rfl) g_5 g_6 (fun C_7 eC_7 => ?_)
  have h := h C_7 eC_7
  refine AW.ra_n (dc hd_G_lays 12 rfl) rfl rfl rfl ?_
  refine AW.iconst (dc hd_G_lays 13 rfl) (by decide) ?_
  refine AW.iload_n (dc hd_G_lays 14 rfl) rfl ?_
  refine AW.bipush (dc hd_G_lays 15 rfl) (by decide) (by decide +kernel) ?_
  refine AW.irem (dc hd_G_lays 16 rfl) (by decide) ?_
  obtain ⟨g_8, h⟩ := h
  refine AW.niast (dc hd_G_lays 17 rfl) g_5 g_8 (fun C_9 eC_9 => ?_)
  have h := h C_9 eC_9
  refine AW.ra_n (dc hd_G_lays 18 rfl) rfl rfl rfl ?_
  refine AW.iconst (dc hd_G_lays 19 rfl) (by decide) ?_
  refine AW.iload (dc hd_G_lays 20 rfl) rfl ?_
  refine AW.if_eq (t := 36) (dc hd_G_lays 21 rfl) (by decide) (fun c_10 => ?_) (fun c_10 => ?_)
  · simp only [if_pos c_10] at h
    refine AW.iload (dc hd_G_lays 24 rfl) rfl ?_
    refine AW.fgt [(2, v0), (9, 0), (0, v2), (0, v3), (0, v4), (0, v5), (0, r_1)] ⟨.inl rfl, .inr rfl, .inl rfl, .inl rfl, .inl rfl, .inl rfl, .inl rfl, trivial⟩ ?_
    exact aJ_G_lays_38 n C_9 _ _ _ _ _ _ _ _ _ Q h
  · simp only [if_neg c_10] at h
    refine AW.iload_n (dc hd_G_lays 22 rfl) rfl ?_
    refine AW.goto (t := 38) (dc hd_G_lays 23 rfl) (by decide) ?_
    refine AW.fgt [(2, v0), (9, 0), (0, v2), (0, v3), (0, v4), (0, v5), (0, r_1)] ⟨.inl rfl, .inr rfl, .inl rfl, .inl rfl, .inl rfl, .inl rfl, .inl rfl, trivial⟩ ?_
    exact aJ_G_lays_38 n C_9 _ _ _ _ _ _ _ _ _ Q h
def P_G_toll (n : Nat) (C : Cn) (v0 v1 : Int) (Q : Int → Prop) : Prop :=
  okO n v1 12 ∧ (okI v1 1 ∧ (okO n v0 10 ∧ (∀ v3_4 : Int, v3_4 = w32 ((C v1.toNat 1) * (w32 (C v0.toNat 2 + 1))) → (okI v1 0 ∧ ((C v1.toNat 0 = 1 → (Q (w32 (C v1.toNat 1 + 2)))) ∧ (C v1.toNat 0 = 2 → (Q v3_4)) ∧ (C v1.toNat 0 = 3 → (Q (w32 (2 * (w32 (C v1.toNat 1 + 2)))))) ∧ (C v1.toNat 0 = 4 → (Q (imax 0 (w32 (v3_4 - 3))))) ∧ (C v1.toNat 0 = 5 → (Q (w32 (Int.tdiv (C v1.toNat 1) 2)))) ∧ ((C v1.toNat 0 < 1 ∨ 5 < C v1.toNat 0) → (Q (C v1.toNat 1))))))))
theorem m_G_toll (l : Launch) (E : Ev) (n : Nat) (C : Cn) (v0 v1 : Int) (Q : Int → Prop) (h : P_G_toll n C v0 v1 Q) : MA l y_G_toll M_G_toll E true C n [(2, v0), (2, v1)] (fun r C2 n2 => C2 = C ∧ n2 = n ∧ Q r) := by
  refine MA.of (by decide) rfl rfl 2 rfl (fun p e s m args below meth c => ?_)
  show AW p l e _ s m args below meth c E M_G_toll true _ n 0 0 0 [(2, v0), (2, v1), (9, 0), (9, 0)] [] C
  unfold P_G_toll at h
  refine AW.ra_n (dc hd_G_toll 0 rfl) rfl rfl rfl ?_
  refine AW.iconst (dc hd_G_toll 1 rfl) (by decide) ?_
  obtain ⟨g_1, h⟩ := h
  obtain ⟨g_2, h⟩ := h
  refine AW.iald (dc hd_G_toll 2 rfl) g_1 g_2 ?_
  refine AW.istore_n [(2, v0), (2, v1), (0, C v1.toNat 1), (9, 0)] (dc hd_G_toll 3 rfl) (Nat.le_of_ble_eq_true rfl) rfl rfl ?_
  refine AW.iload_n (dc hd_G_toll 4 rfl) rfl ?_
  refine AW.ra_n (dc hd_G_toll 5 rfl) rfl rfl rfl ?_
  obtain ⟨g_3, h⟩ := h
  refine AW.getf fl_10_158 (dc hd_G_toll 6 rfl) g_3 ?_
  refine AW.iconst (dc hd_G_toll 7 rfl) (by decide) ?_
  refine AW.iadd (dc hd_G_toll 8 rfl) ?_
  refine AW.imul (dc hd_G_toll 9 rfl) ?_
  refine AW.nm (fun v3_4 ev3_4 => ?_)
  have h := h v3_4 ev3_4
  refine AW.istore_n [(2, v0), (2, v1), (0, C v1.toNat 1), (0, v3_4)] (dc hd_G_toll 10 rfl) (Nat.le_of_ble_eq_true rfl) rfl rfl ?_
  refine AW.ra_n (dc hd_G_toll 11 rfl) rfl rfl rfl ?_
  refine AW.iconst (dc hd_G_toll 12 rfl) (by decide) ?_
  obtain ⟨g_5, h⟩ := h
  refine AW.iald (dc hd_G_toll 13 rfl) g_1 g_5 ?_
  refine AW.tsw (dc hd_G_toll 14 rfl) [52, 56, 58, 64, 72] (by decide +kernel) (by decide) (by decide) (fun j t hj hx => ?_) (fun q_6 => ?_)
  · match j, hj with
    | 0, hj =>
      cases hj
      have h := h.1 (by rw [hx]; decide)
      refine AW.iload_n (dc hd_G_toll 15 rfl) rfl ?_
      refine AW.iconst (dc hd_G_toll 16 rfl) (by decide) ?_
      refine AW.iadd (dc hd_G_toll 17 rfl) ?_
      exact AW.iret (dc hd_G_toll 18 rfl) rfl rfl (Nat.le_of_ble_eq_true rfl) (Nat.le_of_ble_eq_true rfl) ⟨rfl, rfl, h⟩
    | 1, hj =>
      cases hj
      have h := h.2.1 (by rw [hx]; decide)
      refine AW.iload_n (dc hd_G_toll 19 rfl) rfl ?_
      exact AW.iret (dc hd_G_toll 20 rfl) rfl rfl (Nat.le_of_ble_eq_true rfl) (Nat.le_of_ble_eq_true rfl) ⟨rfl, rfl, h⟩
    | 2, hj =>
      cases hj
      have h := h.2.2.1 (by rw [hx]; decide)
      refine AW.iconst (dc hd_G_toll 21 rfl) (by decide) ?_
      refine AW.iload_n (dc hd_G_toll 22 rfl) rfl ?_
      refine AW.iconst (dc hd_G_toll 23 rfl) (by decide) ?_
      refine AW.iadd (dc hd_G_toll 24 rfl) ?_
      refine AW.imul (dc hd_G_toll 25 rfl) ?_
      exact AW.iret (dc hd_G_toll 26 rfl) rfl rfl (Nat.le_of_ble_eq_true rfl) (Nat.le_of_ble_eq_true rfl) ⟨rfl, rfl, h⟩
    | 3, hj =>
      cases hj
      have h := h.2.2.2.1 (by rw [hx]; decide)
      refine AW.iconst (dc hd_G_toll 27 rfl) (by decide) ?_
      refine AW.iload_n (dc hd_G_toll 28 rfl) rfl ?_
      refine AW.iconst (dc hd_G_toll 29 rfl) (by decide) ?_
      refine AW.isub (dc hd_G_toll 30 rfl) ?_
      refine AW.mmax (dc hd_G_toll 31 rfl) mt_10_161 (Nat.le_of_ble_eq_true rfl) (Nat.le_of_ble_eq_true rfl) (Nat.le_of_ble_eq_true rfl) (Nat.le_of_ble_eq_true rfl) (Nat.le_of_ble_eq_true rfl) ?_
      exact AW.iret (dc hd_G_toll 32 rfl) rfl rfl (Nat.le_of_ble_eq_true rfl) (Nat.le_of_ble_eq_true rfl) ⟨rfl, rfl, h⟩
    | 4, hj =>
      cases hj
      have h := h.2.2.2.2.1 (by rw [hx]; decide)
      refine AW.iload_n (dc hd_G_toll 33 rfl) rfl ?_
      refine AW.iconst (dc hd_G_toll 34 rfl) (by decide) ?_
      refine AW.idiv (dc hd_G_toll 35 rfl) (by decide) ?_
      exact AW.iret (dc hd_G_toll 36 rfl) rfl rfl (Nat.le_of_ble_eq_true rfl) (Nat.le_of_ble_eq_true rfl) ⟨rfl, rfl, h⟩
    | j + 5, hj => exact absurd hj (by simp)
  · have h := h.2.2.2.2.2 q_6
    refine AW.iload_n (dc hd_G_toll 37 rfl) rfl ?_
    exact AW.iret (dc hd_G_toll 38 rfl) rfl rfl (Nat.le_of_ble_eq_true rfl) (Nat.le_of_ble_eq_true rfl) ⟨rfl, rfl, h⟩
def J_G_stands_74 (n : Nat) (C : Cn) (s0 s1 : Int) (Q : Int → Cn → Prop) : Prop :=
  okO n s0 10 ∧ (∀ C_25 : Cn, C_25 = wr C s0.toNat 8 s1 → (Q 0 C_25))
theorem aJ_G_stands_74 (n : Nat) (C : Cn) (s0 s1 : Int) (Q : Int → Cn → Prop) (h : J_G_stands_74 n C s0 s1 Q) : AW p l e R s m args below meth c E M_G_stands true (fun r C2 n2 => n2 = n ∧ Q r C2) n 0 0 74 [(9, 0), (9, 0), (9, 0), (9, 0), (9, 0)] [(0, s1), (2, s0)] C := by
  unfold J_G_stands_74 at h
  obtain ⟨g_24, h⟩ := h
  refine AW.nputI fl_10_176 (dc hd_G_stands 38 rfl) g_24 (fun C_25 eC_25 => ?_)
  have h := h C_25 eC_25
  refine AW.iconst (dc hd_G_stands 39 rfl) (by decide) ?_
  exact AW.zret (dc hd_G_stands 40 rfl) rfl rfl (Nat.le_of_ble_eq_true rfl) (Nat.le_of_ble_eq_true rfl) (by decide) ⟨rfl, h⟩
def J_G_stands_55 (n : Nat) (C : Cn) (v0 v3 v4 s0 s1 : Int) (Q : Int → Cn → Prop) : Prop :=
  okO n s0 10 ∧ (∀ C_20 : Cn, C_20 = wr C s0.toNat 6 s1 → (okO n v0 10 ∧ (∀ C_22 : Cn, C_22 = wr C_20 v0.toNat 7 v4 → (J_G_stands_74 n C_22 v0 (if v3 = 0 then 0 else 1) Q))))
theorem aJ_G_stands_55 (n : Nat) (C : Cn) (v0 v3 v4 s0 s1 : Int) (Q : Int → Cn → Prop) (h : J_G_stands_55 n C v0 v3 v4 s0 s1 Q) : AW p l e R s m args below meth c E M_G_stands true (fun r C2 n2 => n2 = n ∧ Q r C2) n 0 0 55 [(2, v0), (9, 0), (9, 0), (0, v3), (0, v4)] [(0, s1), (2, s0)] C := by
  unfold J_G_stands_55 at h
  obtain ⟨g_19, h⟩ := h
  refine AW.nputI fl_10_173 (dc hd_G_stands 28 rfl) g_19 (fun C_20 eC_20 => ?_)
  have h := h C_20 eC_20
  refine AW.ra_n (dc hd_G_stands 29 rfl) rfl rfl rfl ?_
  refine AW.iload (dc hd_G_stands 30 rfl) rfl ?_
  obtain ⟨g_21, h⟩ := h
  refine AW.nputI fl_10_22 (dc hd_G_stands 31 rfl) g_21 (fun C_22 eC_22 => ?_)
  have h := h C_22 eC_22
  refine AW.ra_n (dc hd_G_stands 32 rfl) rfl rfl rfl ?_
  refine AW.iload_n (dc hd_G_stands 33 rfl) rfl ?_
  refine AW.if_eq (t := 73) (dc hd_G_stands 34 rfl) (by decide) (fun c_23 => ?_) (fun c_23 => ?_)
  · simp only [if_pos c_23] at h
    refine AW.iconst (dc hd_G_stands 37 rfl) (by decide) ?_
    refine AW.fgt [(9, 0), (9, 0), (9, 0), (9, 0), (9, 0)] ⟨.inr rfl, .inl rfl, .inl rfl, .inr rfl, .inr rfl, trivial⟩ ?_
    exact aJ_G_stands_74 n C_22 _ _ Q h
  · simp only [if_neg c_23] at h
    refine AW.iconst (dc hd_G_stands 35 rfl) (by decide) ?_
    refine AW.goto (t := 74) (dc hd_G_stands 36 rfl) (by decide) ?_
    refine AW.fgt [(9, 0), (9, 0), (9, 0), (9, 0), (9, 0)] ⟨.inr rfl, .inl rfl, .inl rfl, .inr rfl, .inr rfl, trivial⟩ ?_
    exact aJ_G_stands_74 n C_22 _ _ Q h
def J_G_stands_35 (n : Nat) (C : Cn) (v0 v1 v3 v4 : Int) (Q : Int → Cn → Prop) : Prop :=
  okO n v0 10 ∧ (okO n (PT v0.toNat 1) 17 ∧ (okI (PT v0.toNat 1) v4 ∧ (P_G_hasEndOn n C v1 (PT (PT v0.toNat 1).toNat v4.toNat) (fun (r_14 : Int) => J_G_stands_55 n C v0 v3 v4 v0 (if r_14 = 0 then 2 else 1) Q))))
theorem aJ_G_stands_35 (n : Nat) (C : Cn) (v0 v1 v3 v4 : Int) (Q : Int → Cn → Prop) (h : J_G_stands_35 n C v0 v1 v3 v4 Q) : AW p l e R s m args below meth c E M_G_stands true (fun r C2 n2 => n2 = n ∧ Q r C2) n 0 0 35 [(2, v0), (2, v1), (9, 0), (0, v3), (0, v4)] [] C := by
  unfold J_G_stands_35 at h
  refine AW.ra_n (dc hd_G_stands 17 rfl) rfl rfl rfl ?_
  refine AW.ra_n (dc hd_G_stands 18 rfl) rfl rfl rfl ?_
  refine AW.ra_n (dc hd_G_stands 19 rfl) rfl rfl rfl ?_
  obtain ⟨g_11, h⟩ := h
  refine AW.getp fl_10_11 (dc hd_G_stands 20 rfl) g_11 rfl ?_
  refine AW.iload (dc hd_G_stands 21 rfl) rfl ?_
  obtain ⟨g_12, h⟩ := h
  obtain ⟨g_13, h⟩ := h
  refine AW.aaldp (by decide) (dc hd_G_stands 22 rfl) g_12 g_13 rfl ?_
  refine AW.callS (As := [(2, v1), (2, PT (PT v0.toNat 1).toNat v4.toNat)]) (rest := [(2, v0)]) (m_G_hasEndOn l E n C v1 (PT (PT v0.toNat 1).toNat v4.toNat) _ h) cb_10_170 sm_G_hasEndOn (dc hd_G_stands 23 rfl) rfl rfl ⟨Nat.le_of_ble_eq_true rfl, Nat.le_of_ble_eq_true rfl⟩ ⟨(Nat.le_of_ble_eq_true rfl), (Nat.le_of_ble_eq_true rfl)⟩ (Nat.le_of_ble_eq_true rfl) (fun _ h => by cases h) (fun _ => rfl) (fun r_14 D_16 d_17 q_15 => ?_)
  obtain ⟨q_15a, q_15b, h⟩ := q_15
  subst D_16
  subst d_17
  show AW p l e _ s m args below meth c E M_G_stands true _ n _ _ _ [(2, v0), (2, v1), (9, 0), (0, v3), (0, v4)] [(0, r_14), (2, v0)] C
  refine AW.if_eq (t := 54) (dc hd_G_stands 24 rfl) (by decide) (fun c_18 => ?_) (fun c_18 => ?_)
  · simp only [if_pos c_18] at h
    refine AW.iconst (dc hd_G_stands 27 rfl) (by decide) ?_
    refine AW.fgt [(2, v0), (9, 0), (9, 0), (0, v3), (0, v4)] ⟨.inl rfl, .inr rfl, .inl rfl, .inl rfl, .inl rfl, trivial⟩ ?_
    exact aJ_G_stands_55 n C _ _ _ _ _ Q h
  · simp only [if_neg c_18] at h
    refine AW.iconst (dc hd_G_stands 25 rfl) (by decide) ?_
    refine AW.goto (t := 55) (dc hd_G_stands 26 rfl) (by decide) ?_
    refine AW.fgt [(2, v0), (9, 0), (9, 0), (0, v3), (0, v4)] ⟨.inl rfl, .inr rfl, .inl rfl, .inl rfl, .inl rfl, trivial⟩ ?_
    exact aJ_G_stands_55 n C _ _ _ _ _ Q h
def B_G_stands_3 (n : Nat) (C : Cn) (v0 v1 v2 v3 : Int) (Q : Int → Cn → Prop) (kz3 : Int → Prop) (v4 : Int) : Prop :=
  okO n v0 10 ∧ ((C v0.toNat 0 ≤ v4 → (Q 1 C)) ∧ (¬ C v0.toNat 0 ≤ v4 → ((v4 = v2 → (kz3 (w32 (v4 + 1)))) ∧ (¬ v4 = v2 → (okO n (PT v0.toNat 1) 17 ∧ (okI (PT v0.toNat 1) v4 ∧ (P_G_areApart n C v1 (PT (PT v0.toNat 1).toNat v4.toNat) (fun (r_6 : Int) => (r_6 = 0 → (J_G_stands_35 n C v0 v1 v3 v4 Q)) ∧ (¬ r_6 = 0 → (kz3 (w32 (v4 + 1))))))))))))
theorem bB_G_stands_3 (n : Nat) (C : Cn) (v0 v1 v2 v3 : Int) (Q : Int → Cn → Prop) (kz3 : Int → Prop) (hkz3 : ∀ (z4 : Int), kz3 z4 → AW p l e R s m args below meth c E M_G_stands true (fun r C2 n2 => n2 = n ∧ Q r C2) n 0 0 3 [(2, v0), (2, v1), (0, v2), (0, v3), (0, z4)] [] C) (v4 : Int) (h : B_G_stands_3 n C v0 v1 v2 v3 Q kz3 v4) : AW p l e R s m args below meth c E M_G_stands true (fun r C2 n2 => n2 = n ∧ Q r C2) n 0 0 3 [(2, v0), (2, v1), (0, v2), (0, v3), (0, v4)] [] C := by
  unfold B_G_stands_3 at h
  refine AW.iload (dc hd_G_stands 2 rfl) rfl ?_
  refine AW.ra_n (dc hd_G_stands 3 rfl) rfl rfl rfl ?_
  obtain ⟨g_1, h⟩ := h
  refine AW.getf fl_10_117 (dc hd_G_stands 4 rfl) g_1 ?_
  refine AW.icmp_ge (t := 85) (dc hd_G_stands 5 rfl) (by decide) (fun c_2 => ?_) (fun c_2 => ?_)
  · have h := h.1 c_2
    refine AW.iconst (dc hd_G_stands 43 rfl) (by decide) ?_
    exact AW.zret (dc hd_G_stands 44 rfl) rfl rfl (Nat.le_of_ble_eq_true rfl) (Nat.le_of_ble_eq_true rfl) (by decide) ⟨rfl, h⟩
  · have h := h.2 c_2
    refine AW.iload (dc hd_G_stands 6 rfl) rfl ?_
    refine AW.iload_n (dc hd_G_stands 7 rfl) rfl ?_
    refine AW.icmp_eq (t := 79) (dc hd_G_stands 8 rfl) (by decide) (fun c_3 => ?_) (fun c_3 => ?_)
    · have h := h.1 c_3
      refine AW.iinc [(2, v0), (2, v1), (0, v2), (0, v3), (0, w32 (v4 + 1))] (dc hd_G_stands 41 rfl) rfl (Nat.le_of_ble_eq_true rfl) rfl rfl ?_
      refine AW.goto (t := 3) (dc hd_G_stands 42 rfl) (by decide) ?_
      exact hkz3 (w32 (v4 + 1)) h
    · have h := h.2 c_3
      refine AW.ra_n (dc hd_G_stands 9 rfl) rfl rfl rfl ?_
      refine AW.ra_n (dc hd_G_stands 10 rfl) rfl rfl rfl ?_
      refine AW.getp fl_10_11 (dc hd_G_stands 11 rfl) g_1 rfl ?_
      refine AW.iload (dc hd_G_stands 12 rfl) rfl ?_
      obtain ⟨g_4, h⟩ := h
      obtain ⟨g_5, h⟩ := h
      refine AW.aaldp (by decide) (dc hd_G_stands 13 rfl) g_4 g_5 rfl ?_
      refine AW.callS (As := [(2, v1), (2, PT (PT v0.toNat 1).toNat v4.toNat)]) (rest := []) (m_G_areApart l E n C v1 (PT (PT v0.toNat 1).toNat v4.toNat) _ h) cb_10_167 sm_G_areApart (dc hd_G_stands 14 rfl) rfl rfl ⟨Nat.le_of_ble_eq_true rfl, Nat.le_of_ble_eq_true rfl⟩ ⟨(Nat.le_of_ble_eq_true rfl), (Nat.le_of_ble_eq_true rfl)⟩ (Nat.le_of_ble_eq_true rfl) (fun _ h => by cases h) (fun _ => rfl) (fun r_6 D_8 d_9 q_7 => ?_)
      obtain ⟨q_7a, q_7b, h⟩ := q_7
      subst D_8
      subst d_9
      show AW p l e _ s m args below meth c E M_G_stands true _ n _ _ _ [(2, v0), (2, v1), (0, v2), (0, v3), (0, v4)] [(0, r_6)] C
      refine AW.if_eq (t := 35) (dc hd_G_stands 15 rfl) (by decide) (fun c_10 => ?_) (fun c_10 => ?_)
      · have h := h.1 c_10
        refine AW.fgt [(2, v0), (2, v1), (9, 0), (0, v3), (0, v4)] ⟨.inl rfl, .inl rfl, .inr rfl, .inl rfl, .inl rfl, trivial⟩ ?_
        exact aJ_G_stands_35 n C v0 v1 v3 v4 Q h
      · have h := h.2 c_10
        refine AW.goto (t := 79) (dc hd_G_stands 16 rfl) (by decide) ?_
        refine AW.iinc [(2, v0), (2, v1), (0, v2), (0, v3), (0, w32 (v4 + 1))] (dc hd_G_stands 41 rfl) rfl (Nat.le_of_ble_eq_true rfl) rfl rfl ?_
        refine AW.goto (t := 3) (dc hd_G_stands 42 rfl) (by decide) ?_
        exact hkz3 (w32 (v4 + 1)) h
theorem aB_G_stands_3 (n : Nat) (C : Cn) (v0 v1 v2 v3 : Int) (Q : Int → Cn → Prop) : ∀ (f : Nat) (z : Int), lp (B_G_stands_3 n C v0 v1 v2 v3 Q) f z → AW p l e R s m args below meth c E M_G_stands true (fun r C2 n2 => n2 = n ∧ Q r C2) n 0 0 3 [(2, v0), (2, v1), (0, v2), (0, v3), (0, z)] [] C := by
  intro f
  induction f with
  | zero => intro z h; exact False.elim h
  | succ f ih => intro z h; exact bB_G_stands_3 n C v0 v1 v2 v3 Q (lp (B_G_stands_3 n C v0 v1 v2 v3 Q) f) (fun a0 h => ih a0 h) z h
def P_G_stands (n : Nat) (C : Cn) (v0 v1 v2 v3 : Int) (Q : Int → Cn → Prop) : Prop :=
  ∃ f_26 : Nat, lp (B_G_stands_3 n C v0 v1 v2 v3 Q) f_26 0
theorem m_G_stands (l : Launch) (E : Ev) (n : Nat) (C : Cn) (v0 v1 v2 v3 : Int) (Q : Int → Cn → Prop) (h : P_G_stands n C v0 v1 v2 v3 Q) : MA l y_G_stands M_G_stands E true C n [(2, v0), (2, v1), (0, v2), (0, v3)] (fun r C2 n2 => n2 = n ∧ Q r C2) := by
  refine MA.of (by decide) rfl rfl 1 rfl (fun p e s m args below meth c => ?_)
  show AW p l e _ s m args below meth c E M_G_stands true _ n 0 0 0 [(2, v0), (2, v1), (0, v2), (0, v3), (9, 0)] [] C
  unfold P_G_stands at h
  refine AW.iconst (dc hd_G_stands 0 rfl) (by decide) ?_
  refine AW.istore [(2, v0), (2, v1), (0, v2), (0, v3), (0, 0)] (dc hd_G_stands 1 rfl) (Nat.le_of_ble_eq_true rfl) rfl rfl ?_
  obtain ⟨f_26, h⟩ := h
  exact aB_G_stands_3 n C v0 v1 v2 v3 Q f_26 0 h
def B_G_copies_2 (n : Nat) (v0 v1 : Int) (Q : Int → Cn → Prop) (kz2 : Cn × Int → Prop) (z : Cn × Int) : Prop := match z with
  | (C, v2) => (6 ≤ v2 → (Q 0 C)) ∧ (¬ 6 ≤ v2 → (okO n v0 12 ∧ (okI v0 v2 ∧ (okO n v1 12 ∧ (okI v1 v2 ∧ (∀ C_6 : Cn, C_6 = wr C v1.toNat v2.toNat (C v0.toNat v2.toNat) → (kz2 (C_6, w32 (v2 + 1)))))))))
theorem bB_G_copies_2 (n : Nat) (v0 v1 : Int) (Q : Int → Cn → Prop) (kz2 : Cn × Int → Prop) (hkz2 : ∀ (Cz : Cn) (z2 : Int), kz2 (Cz, z2) → AW p l e R s m args below meth c E M_G_copies true (fun r C2 n2 => n2 = n ∧ Q r C2) n 0 0 2 [(2, v0), (2, v1), (0, z2)] [] Cz) (C : Cn) (v2 : Int) (h : B_G_copies_2 n v0 v1 Q kz2 (C, v2)) : AW p l e R s m args below meth c E M_G_copies true (fun r C2 n2 => n2 = n ∧ Q r C2) n 0 0 2 [(2, v0), (2, v1), (0, v2)] [] C := by
  unfold B_G_copies_2 at h
  dsimp only at h
  refine AW.iload_n (dc hd_G_copies 2 rfl) rfl ?_
  refine AW.bipush (dc hd_G_copies 3 rfl) (by decide) (by decide +kernel) ?_
  refine AW.icmp_ge (t := 20) (dc hd_G_copies 4 rfl) (by decide) (fun c_1 => ?_) (fun c_1 => ?_)
  · have h := h.1 c_1
    exact AW.vret (dc hd_G_copies 13 rfl) rfl rfl (Nat.le_of_ble_eq_true rfl) (Nat.le_of_ble_eq_true rfl) ⟨rfl, h⟩
  · have h := h.2 c_1
    refine AW.ra_n (dc hd_G_copies 5 rfl) rfl rfl rfl ?_
    refine AW.iload_n (dc hd_G_copies 6 rfl) rfl ?_
    refine AW.ra_n (dc hd_G_copies 7 rfl) rfl rfl rfl ?_
    refine AW.iload_n (dc hd_G_copies 8 rfl) rfl ?_
    obtain ⟨g_2, h⟩ := h
    obtain ⟨g_3, h⟩ := h
    refine AW.iald (dc hd_G_copies 9 rfl) g_2 g_3 ?_
    obtain ⟨g_4, h⟩ := h
    obtain ⟨g_5, h⟩ := h
    refine AW.niast (dc hd_G_copies 10 rfl) g_4 g_5 (fun C_6 eC_6 => ?_)
    have h := h C_6 eC_6
    refine AW.iinc [(2, v0), (2, v1), (0, w32 (v2 + 1))] (dc hd_G_copies 11 rfl) rfl (Nat.le_of_ble_eq_true rfl) rfl rfl ?_
    refine AW.goto (t := 2) (dc hd_G_copies 12 rfl) (by decide) ?_
    exact hkz2 C_6 (w32 (v2 + 1)) h
theorem aB_G_copies_2 (n : Nat) (v0 v1 : Int) (Q : Int → Cn → Prop) : ∀ (f : Nat) (z : Cn × Int), lp (B_G_copies_2 n v0 v1 Q) f z → AW p l e R s m args below meth c E M_G_copies true (fun r C2 n2 => n2 = n ∧ Q r C2) n 0 0 2 [(2, v0), (2, v1), (0, z.2)] [] (z.1) := by
  intro f
  induction f with
  | zero => intro z h; exact False.elim h
  | succ f ih => intro z h; exact bB_G_copies_2 n v0 v1 Q (lp (B_G_copies_2 n v0 v1 Q) f) (fun a0 a1 h => ih (a0, a1) h) z.1 z.2 h
def P_G_copies (n : Nat) (C : Cn) (v0 v1 : Int) (Q : Int → Cn → Prop) : Prop :=
  ∃ f_7 : Nat, lp (B_G_copies_2 n v0 v1 Q) f_7 (C, 0)
theorem m_G_copies (l : Launch) (E : Ev) (n : Nat) (C : Cn) (v0 v1 : Int) (Q : Int → Cn → Prop) (h : P_G_copies n C v0 v1 Q) : MA l y_G_copies M_G_copies E true C n [(2, v0), (2, v1)] (fun r C2 n2 => n2 = n ∧ Q r C2) := by
  refine MA.of (by decide) rfl rfl 1 rfl (fun p e s m args below meth c => ?_)
  show AW p l e _ s m args below meth c E M_G_copies true _ n 0 0 0 [(2, v0), (2, v1), (9, 0)] [] C
  unfold P_G_copies at h
  refine AW.iconst (dc hd_G_copies 0 rfl) (by decide) ?_
  refine AW.istore_n [(2, v0), (2, v1), (0, 0)] (dc hd_G_copies 1 rfl) (Nat.le_of_ble_eq_true rfl) rfl rfl ?_
  obtain ⟨f_7, h⟩ := h
  exact aB_G_copies_2 n v0 v1 Q f_7 (C, 0) h
def J_G_segment_43 (n : Nat) (C : Cn) (v0 v1 v2 v3 v4 v5 : Int) (Q : Int → Cn → Prop) : Prop :=
  okO n v0 10 ∧ ((C v0.toNat 0 = 6 → (P_G_finds n C v0 1 (fun (r_54 : Int) (C_55 : Cn) => Q r_54 C_55))) ∧ (¬ C v0.toNat 0 = 6 → (P_G_lays n C (PT v0.toNat 9) v1 v2 v3 v4 v5 (fun (_ : Int) (C_34 : Cn) => P_G_stands n C_34 v0 (PT v0.toNat 9) (-1) 0 (fun (r_38 : Int) (C_39 : Cn) => (r_38 = 0 → (P_G_finds n C_39 v0 4 (fun (r_50 : Int) (C_51 : Cn) => Q r_50 C_51))) ∧ (¬ r_38 = 0 → (okO n (PT v0.toNat 1) 17 ∧ (okI (PT v0.toNat 1) (C_39 v0.toNat 0) ∧ (P_G_copies n C_39 (PT v0.toNat 9) (PT (PT v0.toNat 1).toNat (C_39 v0.toNat 0).toNat) (fun (_ : Int) (C_45 : Cn) => ∀ C_49 : Cn, C_49 = wr C_45 v0.toNat 0 (w32 (C_45 v0.toNat 0 + 1)) → (Q (w32 (C_49 v0.toNat 0 - 1)) C_49)))))))))))
theorem aJ_G_segment_43 (n : Nat) (C : Cn) (v0 v1 v2 v3 v4 v5 : Int) (Q : Int → Cn → Prop) (h : J_G_segment_43 n C v0 v1 v2 v3 v4 v5 Q) : AW p l e R s m args below meth c E M_G_segment true (fun r C2 n2 => n2 = n ∧ Q r C2) n 0 0 43 [(2, v0), (0, v1), (0, v2), (0, v3), (0, v4), (0, v5)] [] C := by
  unfold J_G_segment_43 at h
  refine AW.ra_n (dc hd_G_segment 21 rfl) rfl rfl rfl ?_
  obtain ⟨g_32, h⟩ := h
  refine AW.getf fl_10_117 (dc hd_G_segment 22 rfl) g_32 ?_
  refine AW.bipush (dc hd_G_segment 23 rfl) (by decide) (by decide +kernel) ?_
  refine AW.icmp_ne (t := 58) (dc hd_G_segment 24 rfl) (by decide) (fun c_33 => ?_) (fun c_33 => ?_)
  · have h := h.2 c_33
    refine AW.ra_n (dc hd_G_segment 29 rfl) rfl rfl rfl ?_
    refine AW.getp fl_10_25 (dc hd_G_segment 30 rfl) g_32 rfl ?_
    refine AW.iload_n (dc hd_G_segment 31 rfl) rfl ?_
    refine AW.iload_n (dc hd_G_segment 32 rfl) rfl ?_
    refine AW.iload_n (dc hd_G_segment 33 rfl) rfl ?_
    refine AW.iload (dc hd_G_segment 34 rfl) rfl ?_
    refine AW.iload (dc hd_G_segment 35 rfl) rfl ?_
    refine AW.callS (As := [(2, PT v0.toNat 9), (0, v1), (0, v2), (0, v3), (0, v4), (0, v5)]) (rest := []) (m_G_lays l E n C (PT v0.toNat 9) v1 v2 v3 v4 v5 _ h) cb_10_190 sm_G_lays (dc hd_G_segment 36 rfl) rfl rfl ⟨Nat.le_of_ble_eq_true rfl, Nat.le_of_ble_eq_true rfl⟩ ⟨(Nat.le_of_ble_eq_true rfl), (Nat.le_of_ble_eq_true rfl)⟩ (Nat.le_of_ble_eq_true rfl) (fun _ h => by cases h) (fun _ => rfl) (fun u_36 C_34 d_37 q_35 => ?_)
    obtain ⟨q_35a, h⟩ := q_35
    subst d_37
    show AW p l e _ s m args below meth c E M_G_segment true _ n _ _ _ [(2, v0), (0, v1), (0, v2), (0, v3), (0, v4), (0, v5)] [] C_34
    refine AW.ra_n (dc hd_G_segment 37 rfl) rfl rfl rfl ?_
    refine AW.ra_n (dc hd_G_segment 38 rfl) rfl rfl rfl ?_
    refine AW.getp fl_10_25 (dc hd_G_segment 39 rfl) g_32 rfl ?_
    refine AW.iconst (dc hd_G_segment 40 rfl) (by decide) ?_
    refine AW.iconst (dc hd_G_segment 41 rfl) (by decide) ?_
    refine AW.callV (As := [(2, PT v0.toNat 9), (0, (-1)), (0, 0)]) (rest := []) (ci := 10) (m_G_stands l E n C_34 v0 (PT v0.toNat 9) (-1) 0 _ h) cb_10_194 im_G_stands se_G_stands ⟨_, _, rfl⟩ (by decide) (dc hd_G_segment 42 rfl) g_32 rfl rfl ⟨Nat.le_of_ble_eq_true rfl, Nat.le_of_ble_eq_true rfl⟩ ⟨(Nat.le_of_ble_eq_true rfl), (Nat.le_of_ble_eq_true rfl)⟩ (Nat.le_of_ble_eq_true rfl) (fun _ h => by cases h) (fun _ => rfl) (fun r_38 C_39 d_41 q_40 => ?_)
    obtain ⟨q_40a, h⟩ := q_40
    subst d_41
    show AW p l e _ s m args below meth c E M_G_segment true _ n _ _ _ [(2, v0), (0, v1), (0, v2), (0, v3), (0, v4), (0, v5)] [(0, r_38)] C_39
    refine AW.if_ne (t := 91) (dc hd_G_segment 43 rfl) (by decide) (fun c_42 => ?_) (fun c_42 => ?_)
    · have h := h.2 c_42
      refine AW.ra_n (dc hd_G_segment 48 rfl) rfl rfl rfl ?_
      refine AW.getp fl_10_25 (dc hd_G_segment 49 rfl) g_32 rfl ?_
      refine AW.ra_n (dc hd_G_segment 50 rfl) rfl rfl rfl ?_
      refine AW.getp fl_10_11 (dc hd_G_segment 51 rfl) g_32 rfl ?_
      refine AW.ra_n (dc hd_G_segment 52 rfl) rfl rfl rfl ?_
      refine AW.getf fl_10_117 (dc hd_G_segment 53 rfl) g_32 ?_
      obtain ⟨g_43, h⟩ := h
      obtain ⟨g_44, h⟩ := h
      refine AW.aaldp (by decide) (dc hd_G_segment 54 rfl) g_43 g_44 rfl ?_
      refine AW.callS (As := [(2, PT v0.toNat 9), (2, PT (PT v0.toNat 1).toNat (C_39 v0.toNat 0).toNat)]) (rest := []) (m_G_copies l E n C_39 (PT v0.toNat 9) (PT (PT v0.toNat 1).toNat (C_39 v0.toNat 0).toNat) _ h) cb_10_198 sm_G_copies (dc hd_G_segment 55 rfl) rfl rfl ⟨Nat.le_of_ble_eq_true rfl, Nat.le_of_ble_eq_true rfl⟩ ⟨(Nat.le_of_ble_eq_true rfl), (Nat.le_of_ble_eq_true rfl)⟩ (Nat.le_of_ble_eq_true rfl) (fun _ h => by cases h) (fun _ => rfl) (fun u_47 C_45 d_48 q_46 => ?_)
      obtain ⟨q_46a, h⟩ := q_46
      subst d_48
      show AW p l e _ s m args below meth c E M_G_segment true _ n _ _ _ [(2, v0), (0, v1), (0, v2), (0, v3), (0, v4), (0, v5)] [] C_45
      refine AW.ra_n (dc hd_G_segment 56 rfl) rfl rfl rfl ?_
      refine AW.rdup (dc hd_G_segment 57 rfl) rfl ?_
      refine AW.getf fl_10_117 (dc hd_G_segment 58 rfl) g_32 ?_
      refine AW.iconst (dc hd_G_segment 59 rfl) (by decide) ?_
      refine AW.iadd (dc hd_G_segment 60 rfl) ?_
      refine AW.nputI fl_10_117 (dc hd_G_segment 61 rfl) g_32 (fun C_49 eC_49 => ?_)
      have h := h C_49 eC_49
      refine AW.ra_n (dc hd_G_segment 62 rfl) rfl rfl rfl ?_
      refine AW.getf fl_10_117 (dc hd_G_segment 63 rfl) g_32 ?_
      refine AW.iconst (dc hd_G_segment 64 rfl) (by decide) ?_
      refine AW.isub (dc hd_G_segment 65 rfl) ?_
      exact AW.iret (dc hd_G_segment 66 rfl) rfl rfl (Nat.le_of_ble_eq_true rfl) (Nat.le_of_ble_eq_true rfl) ⟨rfl, h⟩
    · have h := h.1 c_42
      refine AW.ra_n (dc hd_G_segment 44 rfl) rfl rfl rfl ?_
      refine AW.iconst (dc hd_G_segment 45 rfl) (by decide) ?_
      refine AW.callV (As := [(0, 4)]) (rest := []) (ci := 10) (m_G_finds l E n C_39 v0 4 _ h) cb_10_186 im_G_finds se_G_finds ⟨_, _, rfl⟩ (by decide) (dc hd_G_segment 46 rfl) g_32 rfl rfl ⟨Nat.le_of_ble_eq_true rfl, Nat.le_of_ble_eq_true rfl⟩ ⟨(Nat.le_of_ble_eq_true rfl), (Nat.le_of_ble_eq_true rfl)⟩ (Nat.le_of_ble_eq_true rfl) (fun _ h => by cases h) (fun _ => rfl) (fun r_50 C_51 d_53 q_52 => ?_)
      obtain ⟨q_52a, h⟩ := q_52
      subst d_53
      show AW p l e _ s m args below meth c E M_G_segment true _ n _ _ _ [(2, v0), (0, v1), (0, v2), (0, v3), (0, v4), (0, v5)] [(0, r_50)] C_51
      exact AW.iret (dc hd_G_segment 47 rfl) rfl rfl (Nat.le_of_ble_eq_true rfl) (Nat.le_of_ble_eq_true rfl) ⟨rfl, h⟩
  · have h := h.1 c_33
    refine AW.ra_n (dc hd_G_segment 25 rfl) rfl rfl rfl ?_
    refine AW.iconst (dc hd_G_segment 26 rfl) (by decide) ?_
    refine AW.callV (As := [(0, 1)]) (rest := []) (ci := 10) (m_G_finds l E n C v0 1 _ h) cb_10_186 im_G_finds se_G_finds ⟨_, _, rfl⟩ (by decide) (dc hd_G_segment 27 rfl) g_32 rfl rfl ⟨Nat.le_of_ble_eq_true rfl, Nat.le_of_ble_eq_true rfl⟩ ⟨(Nat.le_of_ble_eq_true rfl), (Nat.le_of_ble_eq_true rfl)⟩ (Nat.le_of_ble_eq_true rfl) (fun _ h => by cases h) (fun _ => rfl) (fun r_54 C_55 d_57 q_56 => ?_)
    obtain ⟨q_56a, h⟩ := q_56
    subst d_57
    show AW p l e _ s m args below meth c E M_G_segment true _ n _ _ _ [(2, v0), (0, v1), (0, v2), (0, v3), (0, v4), (0, v5)] [(0, r_54)] C_55
    exact AW.iret (dc hd_G_segment 28 rfl) rfl rfl (Nat.le_of_ble_eq_true rfl) (Nat.le_of_ble_eq_true rfl) ⟨rfl, h⟩
def P_G_segment (n : Nat) (C : Cn) (v0 v1 v2 v3 v4 v5 : Int) (Q : Int → Cn → Prop) : Prop :=
  P_G_isKm n C v1 (fun (r_1 : Int) => (r_1 = 0 → (okO n v0 10 ∧ (P_G_finds n C v0 0 (fun (r_6 : Int) (C_8 : Cn) => Q r_6 C_8)))) ∧ (¬ r_1 = 0 → (P_G_isPoint n C v2 v3 (fun (r_11 : Int) => (r_11 = 0 → (okO n v0 10 ∧ (P_G_finds n C v0 0 (fun (r_16 : Int) (C_18 : Cn) => Q r_16 C_18)))) ∧ (¬ r_11 = 0 → (P_G_isPoint n C v4 v5 (fun (r_21 : Int) => (r_21 = 0 → (okO n v0 10 ∧ (P_G_finds n C v0 0 (fun (r_26 : Int) (C_28 : Cn) => Q r_26 C_28)))) ∧ (¬ r_21 = 0 → ((v2 = v4 → ((v3 = v5 → (okO n v0 10 ∧ (P_G_finds n C v0 0 (fun (r_59 : Int) (C_61 : Cn) => Q r_59 C_61)))) ∧ (¬ v3 = v5 → (J_G_segment_43 n C v0 v1 v2 v3 v4 v5 Q)))) ∧ (¬ v2 = v4 → (J_G_segment_43 n C v0 v1 v2 v3 v4 v5 Q)))))))))))
theorem m_G_segment (l : Launch) (E : Ev) (n : Nat) (C : Cn) (v0 v1 v2 v3 v4 v5 : Int) (Q : Int → Cn → Prop) (h : P_G_segment n C v0 v1 v2 v3 v4 v5 Q) : MA l y_G_segment M_G_segment E true C n [(2, v0), (0, v1), (0, v2), (0, v3), (0, v4), (0, v5)] (fun r C2 n2 => n2 = n ∧ Q r C2) := by
  refine MA.of (by decide) rfl rfl 0 rfl (fun p e s m args below meth c => ?_)
  show AW p l e _ s m args below meth c E M_G_segment true _ n 0 0 0 [(2, v0), (0, v1), (0, v2), (0, v3), (0, v4), (0, v5)] [] C
  unfold P_G_segment at h
  refine AW.iload_n (dc hd_G_segment 0 rfl) rfl ?_
  refine AW.callS (As := [(0, v1)]) (rest := []) (m_G_isKm l E n C v1 _ h) cb_10_179 sm_G_isKm (dc hd_G_segment 1 rfl) rfl rfl ⟨Nat.le_of_ble_eq_true rfl, Nat.le_of_ble_eq_true rfl⟩ ⟨(Nat.le_of_ble_eq_true rfl), (Nat.le_of_ble_eq_true rfl)⟩ (Nat.le_of_ble_eq_true rfl) (fun _ h => by cases h) (fun _ => rfl) (fun r_1 D_3 d_4 q_2 => ?_)
  obtain ⟨q_2a, q_2b, h⟩ := q_2
  subst D_3
  subst d_4
  show AW p l e _ s m args below meth c E M_G_segment true _ n _ _ _ [(2, v0), (0, v1), (0, v2), (0, v3), (0, v4), (0, v5)] [(0, r_1)] C
  refine AW.if_eq (t := 37) (dc hd_G_segment 2 rfl) (by decide) (fun c_5 => ?_) (fun c_5 => ?_)
  · have h := h.1 c_5
    refine AW.ra_n (dc hd_G_segment 17 rfl) rfl rfl rfl ?_
    refine AW.iconst (dc hd_G_segment 18 rfl) (by decide) ?_
    obtain ⟨g_7, h⟩ := h
    refine AW.callV (As := [(0, 0)]) (rest := []) (ci := 10) (m_G_finds l E n C v0 0 _ h) cb_10_186 im_G_finds se_G_finds ⟨_, _, rfl⟩ (by decide) (dc hd_G_segment 19 rfl) g_7 rfl rfl ⟨Nat.le_of_ble_eq_true rfl, Nat.le_of_ble_eq_true rfl⟩ ⟨(Nat.le_of_ble_eq_true rfl), (Nat.le_of_ble_eq_true rfl)⟩ (Nat.le_of_ble_eq_true rfl) (fun _ h => by cases h) (fun _ => rfl) (fun r_6 C_8 d_10 q_9 => ?_)
    obtain ⟨q_9a, h⟩ := q_9
    subst d_10
    show AW p l e _ s m args below meth c E M_G_segment true _ n _ _ _ [(2, v0), (0, v1), (0, v2), (0, v3), (0, v4), (0, v5)] [(0, r_6)] C_8
    exact AW.iret (dc hd_G_segment 20 rfl) rfl rfl (Nat.le_of_ble_eq_true rfl) (Nat.le_of_ble_eq_true rfl) ⟨rfl, h⟩
  · have h := h.2 c_5
    refine AW.iload_n (dc hd_G_segment 3 rfl) rfl ?_
    refine AW.iload_n (dc hd_G_segment 4 rfl) rfl ?_
    refine AW.callS (As := [(0, v2), (0, v3)]) (rest := []) (m_G_isPoint l E n C v2 v3 _ h) cb_10_183 sm_G_isPoint (dc hd_G_segment 5 rfl) rfl rfl ⟨Nat.le_of_ble_eq_true rfl, Nat.le_of_ble_eq_true rfl⟩ ⟨(Nat.le_of_ble_eq_true rfl), (Nat.le_of_ble_eq_true rfl)⟩ (Nat.le_of_ble_eq_true rfl) (fun _ h => by cases h) (fun _ => rfl) (fun r_11 D_13 d_14 q_12 => ?_)
    obtain ⟨q_12a, q_12b, h⟩ := q_12
    subst D_13
    subst d_14
    show AW p l e _ s m args below meth c E M_G_segment true _ n _ _ _ [(2, v0), (0, v1), (0, v2), (0, v3), (0, v4), (0, v5)] [(0, r_11)] C
    refine AW.if_eq (t := 37) (dc hd_G_segment 6 rfl) (by decide) (fun c_15 => ?_) (fun c_15 => ?_)
    · have h := h.1 c_15
      refine AW.ra_n (dc hd_G_segment 17 rfl) rfl rfl rfl ?_
      refine AW.iconst (dc hd_G_segment 18 rfl) (by decide) ?_
      obtain ⟨g_17, h⟩ := h
      refine AW.callV (As := [(0, 0)]) (rest := []) (ci := 10) (m_G_finds l E n C v0 0 _ h) cb_10_186 im_G_finds se_G_finds ⟨_, _, rfl⟩ (by decide) (dc hd_G_segment 19 rfl) g_17 rfl rfl ⟨Nat.le_of_ble_eq_true rfl, Nat.le_of_ble_eq_true rfl⟩ ⟨(Nat.le_of_ble_eq_true rfl), (Nat.le_of_ble_eq_true rfl)⟩ (Nat.le_of_ble_eq_true rfl) (fun _ h => by cases h) (fun _ => rfl) (fun r_16 C_18 d_20 q_19 => ?_)
      obtain ⟨q_19a, h⟩ := q_19
      subst d_20
      show AW p l e _ s m args below meth c E M_G_segment true _ n _ _ _ [(2, v0), (0, v1), (0, v2), (0, v3), (0, v4), (0, v5)] [(0, r_16)] C_18
      exact AW.iret (dc hd_G_segment 20 rfl) rfl rfl (Nat.le_of_ble_eq_true rfl) (Nat.le_of_ble_eq_true rfl) ⟨rfl, h⟩
    · have h := h.2 c_15
      refine AW.iload (dc hd_G_segment 7 rfl) rfl ?_
      refine AW.iload (dc hd_G_segment 8 rfl) rfl ?_
      refine AW.callS (As := [(0, v4), (0, v5)]) (rest := []) (m_G_isPoint l E n C v4 v5 _ h) cb_10_183 sm_G_isPoint (dc hd_G_segment 9 rfl) rfl rfl ⟨Nat.le_of_ble_eq_true rfl, Nat.le_of_ble_eq_true rfl⟩ ⟨(Nat.le_of_ble_eq_true rfl), (Nat.le_of_ble_eq_true rfl)⟩ (Nat.le_of_ble_eq_true rfl) (fun _ h => by cases h) (fun _ => rfl) (fun r_21 D_23 d_24 q_22 => ?_)
      obtain ⟨q_22a, q_22b, h⟩ := q_22
      subst D_23
      subst d_24
      show AW p l e _ s m args below meth c E M_G_segment true _ n _ _ _ [(2, v0), (0, v1), (0, v2), (0, v3), (0, v4), (0, v5)] [(0, r_21)] C
      refine AW.if_eq (t := 37) (dc hd_G_segment 10 rfl) (by decide) (fun c_25 => ?_) (fun c_25 => ?_)
      · have h := h.1 c_25
        refine AW.ra_n (dc hd_G_segment 17 rfl) rfl rfl rfl ?_
        refine AW.iconst (dc hd_G_segment 18 rfl) (by decide) ?_
        obtain ⟨g_27, h⟩ := h
        refine AW.callV (As := [(0, 0)]) (rest := []) (ci := 10) (m_G_finds l E n C v0 0 _ h) cb_10_186 im_G_finds se_G_finds ⟨_, _, rfl⟩ (by decide) (dc hd_G_segment 19 rfl) g_27 rfl rfl ⟨Nat.le_of_ble_eq_true rfl, Nat.le_of_ble_eq_true rfl⟩ ⟨(Nat.le_of_ble_eq_true rfl), (Nat.le_of_ble_eq_true rfl)⟩ (Nat.le_of_ble_eq_true rfl) (fun _ h => by cases h) (fun _ => rfl) (fun r_26 C_28 d_30 q_29 => ?_)
        obtain ⟨q_29a, h⟩ := q_29
        subst d_30
        show AW p l e _ s m args below meth c E M_G_segment true _ n _ _ _ [(2, v0), (0, v1), (0, v2), (0, v3), (0, v4), (0, v5)] [(0, r_26)] C_28
        exact AW.iret (dc hd_G_segment 20 rfl) rfl rfl (Nat.le_of_ble_eq_true rfl) (Nat.le_of_ble_eq_true rfl) ⟨rfl, h⟩
      · have h := h.2 c_25
        refine AW.iload_n (dc hd_G_segment 11 rfl) rfl ?_
        refine AW.iload (dc hd_G_segment 12 rfl) rfl ?_
        refine AW.icmp_ne (t := 43) (dc hd_G_segment 13 rfl) (by decide) (fun c_31 => ?_) (fun c_31 => ?_)
        · have h := h.2 c_31
          exact aJ_G_segment_43 n C v0 v1 v2 v3 v4 v5 Q h
        · have h := h.1 c_31
          refine AW.iload_n (dc hd_G_segment 14 rfl) rfl ?_
          refine AW.iload (dc hd_G_segment 15 rfl) rfl ?_
          refine AW.icmp_ne (t := 43) (dc hd_G_segment 16 rfl) (by decide) (fun c_58 => ?_) (fun c_58 => ?_)
          · have h := h.2 c_58
            exact aJ_G_segment_43 n C v0 v1 v2 v3 v4 v5 Q h
          · have h := h.1 c_58
            refine AW.ra_n (dc hd_G_segment 17 rfl) rfl rfl rfl ?_
            refine AW.iconst (dc hd_G_segment 18 rfl) (by decide) ?_
            obtain ⟨g_60, h⟩ := h
            refine AW.callV (As := [(0, 0)]) (rest := []) (ci := 10) (m_G_finds l E n C v0 0 _ h) cb_10_186 im_G_finds se_G_finds ⟨_, _, rfl⟩ (by decide) (dc hd_G_segment 19 rfl) g_60 rfl rfl ⟨Nat.le_of_ble_eq_true rfl, Nat.le_of_ble_eq_true rfl⟩ ⟨(Nat.le_of_ble_eq_true rfl), (Nat.le_of_ble_eq_true rfl)⟩ (Nat.le_of_ble_eq_true rfl) (fun _ h => by cases h) (fun _ => rfl) (fun r_59 C_61 d_63 q_62 => ?_)
            obtain ⟨q_62a, h⟩ := q_62
            subst d_63
            show AW p l e _ s m args below meth c E M_G_segment true _ n _ _ _ [(2, v0), (0, v1), (0, v2), (0, v3), (0, v4), (0, v5)] [(0, r_59)] C_61
            exact AW.iret (dc hd_G_segment 20 rfl) rfl rfl (Nat.le_of_ble_eq_true rfl) (Nat.le_of_ble_eq_true rfl) ⟨rfl, h⟩
def J_G_move_44 (n : Nat) (C : Cn) (v0 v1 v2 v3 v4 v5 : Int) (Q : Int → Cn → Prop) : Prop :=
  okO n v0 10 ∧ (okO n (PT v0.toNat 1) 17 ∧ (okI (PT v0.toNat 1) v1 ∧ (okO n (PT (PT v0.toNat 1).toNat v1.toNat) 12 ∧ (okI (PT (PT v0.toNat 1).toNat v1.toNat) 0 ∧ (okI (PT (PT v0.toNat 1).toNat v1.toNat) 1 ∧ (P_G_lays n C (PT v0.toNat 9) (w32 (w32 (10 * (C (PT (PT v0.toNat 1).toNat v1.toNat).toNat 0)) + C (PT (PT v0.toNat 1).toNat v1.toNat).toNat 1)) v2 v3 v4 v5 (fun (_ : Int) (C_36 : Cn) => P_G_stands n C_36 v0 (PT v0.toNat 9) v1 0 (fun (r_40 : Int) (C_41 : Cn) => (r_40 = 0 → (P_G_finds n C_41 v0 4 (fun (r_49 : Int) (C_50 : Cn) => Q r_49 C_50))) ∧ (¬ r_40 = 0 → (P_G_copies n C_41 (PT v0.toNat 9) (PT (PT v0.toNat 1).toNat v1.toNat) (fun (_ : Int) (C_45 : Cn) => Q 1 C_45)))))))))))
theorem aJ_G_move_44 (n : Nat) (C : Cn) (v0 v1 v2 v3 v4 v5 : Int) (Q : Int → Cn → Prop) (h : J_G_move_44 n C v0 v1 v2 v3 v4 v5 Q) : AW p l e R s m args below meth c E M_G_move true (fun r C2 n2 => n2 = n ∧ Q r C2) n 0 0 44 [(2, v0), (0, v1), (0, v2), (0, v3), (0, v4), (0, v5)] [] C := by
  unfold J_G_move_44 at h
  refine AW.ra_n (dc hd_G_move 22 rfl) rfl rfl rfl ?_
  obtain ⟨g_30, h⟩ := h
  refine AW.getp fl_10_25 (dc hd_G_move 23 rfl) g_30 rfl ?_
  refine AW.bipush (dc hd_G_move 24 rfl) (by decide) (by decide +kernel) ?_
  refine AW.ra_n (dc hd_G_move 25 rfl) rfl rfl rfl ?_
  refine AW.getp fl_10_11 (dc hd_G_move 26 rfl) g_30 rfl ?_
  refine AW.iload_n (dc hd_G_move 27 rfl) rfl ?_
  obtain ⟨g_31, h⟩ := h
  obtain ⟨g_32, h⟩ := h
  refine AW.aaldp (by decide) (dc hd_G_move 28 rfl) g_31 g_32 rfl ?_
  refine AW.iconst (dc hd_G_move 29 rfl) (by decide) ?_
  obtain ⟨g_33, h⟩ := h
  obtain ⟨g_34, h⟩ := h
  refine AW.iald (dc hd_G_move 30 rfl) g_33 g_34 ?_
  refine AW.imul (dc hd_G_move 31 rfl) ?_
  refine AW.ra_n (dc hd_G_move 32 rfl) rfl rfl rfl ?_
  refine AW.getp fl_10_11 (dc hd_G_move 33 rfl) g_30 rfl ?_
  refine AW.iload_n (dc hd_G_move 34 rfl) rfl ?_
  refine AW.aaldp (by decide) (dc hd_G_move 35 rfl) g_31 g_32 rfl ?_
  refine AW.iconst (dc hd_G_move 36 rfl) (by decide) ?_
  obtain ⟨g_35, h⟩ := h
  refine AW.iald (dc hd_G_move 37 rfl) g_33 g_35 ?_
  refine AW.iadd (dc hd_G_move 38 rfl) ?_
  refine AW.iload_n (dc hd_G_move 39 rfl) rfl ?_
  refine AW.iload_n (dc hd_G_move 40 rfl) rfl ?_
  refine AW.iload (dc hd_G_move 41 rfl) rfl ?_
  refine AW.iload (dc hd_G_move 42 rfl) rfl ?_
  refine AW.callS (As := [(2, PT v0.toNat 9), (0, w32 (w32 (10 * (C (PT (PT v0.toNat 1).toNat v1.toNat).toNat 0)) + C (PT (PT v0.toNat 1).toNat v1.toNat).toNat 1)), (0, v2), (0, v3), (0, v4), (0, v5)]) (rest := []) (m_G_lays l E n C (PT v0.toNat 9) (w32 (w32 (10 * (C (PT (PT v0.toNat 1).toNat v1.toNat).toNat 0)) + C (PT (PT v0.toNat 1).toNat v1.toNat).toNat 1)) v2 v3 v4 v5 _ h) cb_10_190 sm_G_lays (dc hd_G_move 43 rfl) rfl rfl ⟨Nat.le_of_ble_eq_true rfl, Nat.le_of_ble_eq_true rfl⟩ ⟨(Nat.le_of_ble_eq_true rfl), (Nat.le_of_ble_eq_true rfl)⟩ (Nat.le_of_ble_eq_true rfl) (fun _ h => by cases h) (fun _ => rfl) (fun u_38 C_36 d_39 q_37 => ?_)
  obtain ⟨q_37a, h⟩ := q_37
  subst d_39
  show AW p l e _ s m args below meth c E M_G_move true _ n _ _ _ [(2, v0), (0, v1), (0, v2), (0, v3), (0, v4), (0, v5)] [] C_36
  refine AW.ra_n (dc hd_G_move 44 rfl) rfl rfl rfl ?_
  refine AW.ra_n (dc hd_G_move 45 rfl) rfl rfl rfl ?_
  refine AW.getp fl_10_25 (dc hd_G_move 46 rfl) g_30 rfl ?_
  refine AW.iload_n (dc hd_G_move 47 rfl) rfl ?_
  refine AW.iconst (dc hd_G_move 48 rfl) (by decide) ?_
  refine AW.callV (As := [(2, PT v0.toNat 9), (0, v1), (0, 0)]) (rest := []) (ci := 10) (m_G_stands l E n C_36 v0 (PT v0.toNat 9) v1 0 _ h) cb_10_194 im_G_stands se_G_stands ⟨_, _, rfl⟩ (by decide) (dc hd_G_move 49 rfl) g_30 rfl rfl ⟨Nat.le_of_ble_eq_true rfl, Nat.le_of_ble_eq_true rfl⟩ ⟨(Nat.le_of_ble_eq_true rfl), (Nat.le_of_ble_eq_true rfl)⟩ (Nat.le_of_ble_eq_true rfl) (fun _ h => by cases h) (fun _ => rfl) (fun r_40 C_41 d_43 q_42 => ?_)
  obtain ⟨q_42a, h⟩ := q_42
  subst d_43
  show AW p l e _ s m args below meth c E M_G_move true _ n _ _ _ [(2, v0), (0, v1), (0, v2), (0, v3), (0, v4), (0, v5)] [(0, r_40)] C_41
  refine AW.if_ne (t := 96) (dc hd_G_move 50 rfl) (by decide) (fun c_44 => ?_) (fun c_44 => ?_)
  · have h := h.2 c_44
    refine AW.ra_n (dc hd_G_move 55 rfl) rfl rfl rfl ?_
    refine AW.getp fl_10_25 (dc hd_G_move 56 rfl) g_30 rfl ?_
    refine AW.ra_n (dc hd_G_move 57 rfl) rfl rfl rfl ?_
    refine AW.getp fl_10_11 (dc hd_G_move 58 rfl) g_30 rfl ?_
    refine AW.iload_n (dc hd_G_move 59 rfl) rfl ?_
    refine AW.aaldp (by decide) (dc hd_G_move 60 rfl) g_31 g_32 rfl ?_
    refine AW.callS (As := [(2, PT v0.toNat 9), (2, PT (PT v0.toNat 1).toNat v1.toNat)]) (rest := []) (m_G_copies l E n C_41 (PT v0.toNat 9) (PT (PT v0.toNat 1).toNat v1.toNat) _ h) cb_10_198 sm_G_copies (dc hd_G_move 61 rfl) rfl rfl ⟨Nat.le_of_ble_eq_true rfl, Nat.le_of_ble_eq_true rfl⟩ ⟨(Nat.le_of_ble_eq_true rfl), (Nat.le_of_ble_eq_true rfl)⟩ (Nat.le_of_ble_eq_true rfl) (fun _ h => by cases h) (fun _ => rfl) (fun u_47 C_45 d_48 q_46 => ?_)
    obtain ⟨q_46a, h⟩ := q_46
    subst d_48
    show AW p l e _ s m args below meth c E M_G_move true _ n _ _ _ [(2, v0), (0, v1), (0, v2), (0, v3), (0, v4), (0, v5)] [] C_45
    refine AW.iconst (dc hd_G_move 62 rfl) (by decide) ?_
    exact AW.iret (dc hd_G_move 63 rfl) rfl rfl (Nat.le_of_ble_eq_true rfl) (Nat.le_of_ble_eq_true rfl) ⟨rfl, h⟩
  · have h := h.1 c_44
    refine AW.ra_n (dc hd_G_move 51 rfl) rfl rfl rfl ?_
    refine AW.iconst (dc hd_G_move 52 rfl) (by decide) ?_
    refine AW.callV (As := [(0, 4)]) (rest := []) (ci := 10) (m_G_finds l E n C_41 v0 4 _ h) cb_10_186 im_G_finds se_G_finds ⟨_, _, rfl⟩ (by decide) (dc hd_G_move 53 rfl) g_30 rfl rfl ⟨Nat.le_of_ble_eq_true rfl, Nat.le_of_ble_eq_true rfl⟩ ⟨(Nat.le_of_ble_eq_true rfl), (Nat.le_of_ble_eq_true rfl)⟩ (Nat.le_of_ble_eq_true rfl) (fun _ h => by cases h) (fun _ => rfl) (fun r_49 C_50 d_52 q_51 => ?_)
    obtain ⟨q_51a, h⟩ := q_51
    subst d_52
    show AW p l e _ s m args below meth c E M_G_move true _ n _ _ _ [(2, v0), (0, v1), (0, v2), (0, v3), (0, v4), (0, v5)] [(0, r_49)] C_50
    exact AW.iret (dc hd_G_move 54 rfl) rfl rfl (Nat.le_of_ble_eq_true rfl) (Nat.le_of_ble_eq_true rfl) ⟨rfl, h⟩
def P_G_move (n : Nat) (C : Cn) (v0 v1 v2 v3 v4 v5 : Int) (Q : Int → Cn → Prop) : Prop :=
  okO n v0 10 ∧ (P_G_isSegment n C v0 v1 (fun (r_1 : Int) => (r_1 = 0 → (P_G_finds n C v0 0 (fun (r_7 : Int) (C_8 : Cn) => Q r_7 C_8))) ∧ (¬ r_1 = 0 → (P_G_isPoint n C v2 v3 (fun (r_11 : Int) => (r_11 = 0 → (P_G_finds n C v0 0 (fun (r_16 : Int) (C_17 : Cn) => Q r_16 C_17))) ∧ (¬ r_11 = 0 → (P_G_isPoint n C v4 v5 (fun (r_20 : Int) => (r_20 = 0 → (P_G_finds n C v0 0 (fun (r_25 : Int) (C_26 : Cn) => Q r_25 C_26))) ∧ (¬ r_20 = 0 → ((v2 = v4 → ((v3 = v5 → (P_G_finds n C v0 0 (fun (r_54 : Int) (C_55 : Cn) => Q r_54 C_55))) ∧ (¬ v3 = v5 → (J_G_move_44 n C v0 v1 v2 v3 v4 v5 Q)))) ∧ (¬ v2 = v4 → (J_G_move_44 n C v0 v1 v2 v3 v4 v5 Q))))))))))))
theorem m_G_move (l : Launch) (E : Ev) (n : Nat) (C : Cn) (v0 v1 v2 v3 v4 v5 : Int) (Q : Int → Cn → Prop) (h : P_G_move n C v0 v1 v2 v3 v4 v5 Q) : MA l y_G_move M_G_move E true C n [(2, v0), (0, v1), (0, v2), (0, v3), (0, v4), (0, v5)] (fun r C2 n2 => n2 = n ∧ Q r C2) := by
  refine MA.of (by decide) rfl rfl 0 rfl (fun p e s m args below meth c => ?_)
  show AW p l e _ s m args below meth c E M_G_move true _ n 0 0 0 [(2, v0), (0, v1), (0, v2), (0, v3), (0, v4), (0, v5)] [] C
  unfold P_G_move at h
  refine AW.ra_n (dc hd_G_move 0 rfl) rfl rfl rfl ?_
  refine AW.iload_n (dc hd_G_move 1 rfl) rfl ?_
  obtain ⟨g_2, h⟩ := h
  refine AW.callV (As := [(0, v1)]) (rest := []) (ci := 10) (m_G_isSegment l E n C v0 v1 _ h) cb_10_202 im_G_isSegment se_G_isSegment ⟨_, _, rfl⟩ (by decide) (dc hd_G_move 2 rfl) g_2 rfl rfl ⟨Nat.le_of_ble_eq_true rfl, Nat.le_of_ble_eq_true rfl⟩ ⟨(Nat.le_of_ble_eq_true rfl), (Nat.le_of_ble_eq_true rfl)⟩ (Nat.le_of_ble_eq_true rfl) (fun _ h => by cases h) (fun _ => rfl) (fun r_1 D_4 d_5 q_3 => ?_)
  obtain ⟨q_3a, q_3b, h⟩ := q_3
  subst D_4
  subst d_5
  show AW p l e _ s m args below meth c E M_G_move true _ n _ _ _ [(2, v0), (0, v1), (0, v2), (0, v3), (0, v4), (0, v5)] [(0, r_1)] C
  refine AW.if_eq (t := 38) (dc hd_G_move 3 rfl) (by decide) (fun c_6 => ?_) (fun c_6 => ?_)
  · have h := h.1 c_6
    refine AW.ra_n (dc hd_G_move 18 rfl) rfl rfl rfl ?_
    refine AW.iconst (dc hd_G_move 19 rfl) (by decide) ?_
    refine AW.callV (As := [(0, 0)]) (rest := []) (ci := 10) (m_G_finds l E n C v0 0 _ h) cb_10_186 im_G_finds se_G_finds ⟨_, _, rfl⟩ (by decide) (dc hd_G_move 20 rfl) g_2 rfl rfl ⟨Nat.le_of_ble_eq_true rfl, Nat.le_of_ble_eq_true rfl⟩ ⟨(Nat.le_of_ble_eq_true rfl), (Nat.le_of_ble_eq_true rfl)⟩ (Nat.le_of_ble_eq_true rfl) (fun _ h => by cases h) (fun _ => rfl) (fun r_7 C_8 d_10 q_9 => ?_)
    obtain ⟨q_9a, h⟩ := q_9
    subst d_10
    show AW p l e _ s m args below meth c E M_G_move true _ n _ _ _ [(2, v0), (0, v1), (0, v2), (0, v3), (0, v4), (0, v5)] [(0, r_7)] C_8
    exact AW.iret (dc hd_G_move 21 rfl) rfl rfl (Nat.le_of_ble_eq_true rfl) (Nat.le_of_ble_eq_true rfl) ⟨rfl, h⟩
  · have h := h.2 c_6
    refine AW.iload_n (dc hd_G_move 4 rfl) rfl ?_
    refine AW.iload_n (dc hd_G_move 5 rfl) rfl ?_
    refine AW.callS (As := [(0, v2), (0, v3)]) (rest := []) (m_G_isPoint l E n C v2 v3 _ h) cb_10_183 sm_G_isPoint (dc hd_G_move 6 rfl) rfl rfl ⟨Nat.le_of_ble_eq_true rfl, Nat.le_of_ble_eq_true rfl⟩ ⟨(Nat.le_of_ble_eq_true rfl), (Nat.le_of_ble_eq_true rfl)⟩ (Nat.le_of_ble_eq_true rfl) (fun _ h => by cases h) (fun _ => rfl) (fun r_11 D_13 d_14 q_12 => ?_)
    obtain ⟨q_12a, q_12b, h⟩ := q_12
    subst D_13
    subst d_14
    show AW p l e _ s m args below meth c E M_G_move true _ n _ _ _ [(2, v0), (0, v1), (0, v2), (0, v3), (0, v4), (0, v5)] [(0, r_11)] C
    refine AW.if_eq (t := 38) (dc hd_G_move 7 rfl) (by decide) (fun c_15 => ?_) (fun c_15 => ?_)
    · have h := h.1 c_15
      refine AW.ra_n (dc hd_G_move 18 rfl) rfl rfl rfl ?_
      refine AW.iconst (dc hd_G_move 19 rfl) (by decide) ?_
      refine AW.callV (As := [(0, 0)]) (rest := []) (ci := 10) (m_G_finds l E n C v0 0 _ h) cb_10_186 im_G_finds se_G_finds ⟨_, _, rfl⟩ (by decide) (dc hd_G_move 20 rfl) g_2 rfl rfl ⟨Nat.le_of_ble_eq_true rfl, Nat.le_of_ble_eq_true rfl⟩ ⟨(Nat.le_of_ble_eq_true rfl), (Nat.le_of_ble_eq_true rfl)⟩ (Nat.le_of_ble_eq_true rfl) (fun _ h => by cases h) (fun _ => rfl) (fun r_16 C_17 d_19 q_18 => ?_)
      obtain ⟨q_18a, h⟩ := q_18
      subst d_19
      show AW p l e _ s m args below meth c E M_G_move true _ n _ _ _ [(2, v0), (0, v1), (0, v2), (0, v3), (0, v4), (0, v5)] [(0, r_16)] C_17
      exact AW.iret (dc hd_G_move 21 rfl) rfl rfl (Nat.le_of_ble_eq_true rfl) (Nat.le_of_ble_eq_true rfl) ⟨rfl, h⟩
    · have h := h.2 c_15
      refine AW.iload (dc hd_G_move 8 rfl) rfl ?_
      refine AW.iload (dc hd_G_move 9 rfl) rfl ?_
      refine AW.callS (As := [(0, v4), (0, v5)]) (rest := []) (m_G_isPoint l E n C v4 v5 _ h) cb_10_183 sm_G_isPoint (dc hd_G_move 10 rfl) rfl rfl ⟨Nat.le_of_ble_eq_true rfl, Nat.le_of_ble_eq_true rfl⟩ ⟨(Nat.le_of_ble_eq_true rfl), (Nat.le_of_ble_eq_true rfl)⟩ (Nat.le_of_ble_eq_true rfl) (fun _ h => by cases h) (fun _ => rfl) (fun r_20 D_22 d_23 q_21 => ?_)
      obtain ⟨q_21a, q_21b, h⟩ := q_21
      subst D_22
      subst d_23
      show AW p l e _ s m args below meth c E M_G_move true _ n _ _ _ [(2, v0), (0, v1), (0, v2), (0, v3), (0, v4), (0, v5)] [(0, r_20)] C
      refine AW.if_eq (t := 38) (dc hd_G_move 11 rfl) (by decide) (fun c_24 => ?_) (fun c_24 => ?_)
      · have h := h.1 c_24
        refine AW.ra_n (dc hd_G_move 18 rfl) rfl rfl rfl ?_
        refine AW.iconst (dc hd_G_move 19 rfl) (by decide) ?_
        refine AW.callV (As := [(0, 0)]) (rest := []) (ci := 10) (m_G_finds l E n C v0 0 _ h) cb_10_186 im_G_finds se_G_finds ⟨_, _, rfl⟩ (by decide) (dc hd_G_move 20 rfl) g_2 rfl rfl ⟨Nat.le_of_ble_eq_true rfl, Nat.le_of_ble_eq_true rfl⟩ ⟨(Nat.le_of_ble_eq_true rfl), (Nat.le_of_ble_eq_true rfl)⟩ (Nat.le_of_ble_eq_true rfl) (fun _ h => by cases h) (fun _ => rfl) (fun r_25 C_26 d_28 q_27 => ?_)
        obtain ⟨q_27a, h⟩ := q_27
        subst d_28
        show AW p l e _ s m args below meth c E M_G_move true _ n _ _ _ [(2, v0), (0, v1), (0, v2), (0, v3), (0, v4), (0, v5)] [(0, r_25)] C_26
        exact AW.iret (dc hd_G_move 21 rfl) rfl rfl (Nat.le_of_ble_eq_true rfl) (Nat.le_of_ble_eq_true rfl) ⟨rfl, h⟩
      · have h := h.2 c_24
        refine AW.iload_n (dc hd_G_move 12 rfl) rfl ?_
        refine AW.iload (dc hd_G_move 13 rfl) rfl ?_
        refine AW.icmp_ne (t := 44) (dc hd_G_move 14 rfl) (by decide) (fun c_29 => ?_) (fun c_29 => ?_)
        · have h := h.2 c_29
          exact aJ_G_move_44 n C v0 v1 v2 v3 v4 v5 Q h
        · have h := h.1 c_29
          refine AW.iload_n (dc hd_G_move 15 rfl) rfl ?_
          refine AW.iload (dc hd_G_move 16 rfl) rfl ?_
          refine AW.icmp_ne (t := 44) (dc hd_G_move 17 rfl) (by decide) (fun c_53 => ?_) (fun c_53 => ?_)
          · have h := h.2 c_53
            exact aJ_G_move_44 n C v0 v1 v2 v3 v4 v5 Q h
          · have h := h.1 c_53
            refine AW.ra_n (dc hd_G_move 18 rfl) rfl rfl rfl ?_
            refine AW.iconst (dc hd_G_move 19 rfl) (by decide) ?_
            refine AW.callV (As := [(0, 0)]) (rest := []) (ci := 10) (m_G_finds l E n C v0 0 _ h) cb_10_186 im_G_finds se_G_finds ⟨_, _, rfl⟩ (by decide) (dc hd_G_move 20 rfl) g_2 rfl rfl ⟨Nat.le_of_ble_eq_true rfl, Nat.le_of_ble_eq_true rfl⟩ ⟨(Nat.le_of_ble_eq_true rfl), (Nat.le_of_ble_eq_true rfl)⟩ (Nat.le_of_ble_eq_true rfl) (fun _ h => by cases h) (fun _ => rfl) (fun r_54 C_55 d_57 q_56 => ?_)
            obtain ⟨q_56a, h⟩ := q_56
            subst d_57
            show AW p l e _ s m args below meth c E M_G_move true _ n _ _ _ [(2, v0), (0, v1), (0, v2), (0, v3), (0, v4), (0, v5)] [(0, r_54)] C_55
            exact AW.iret (dc hd_G_move 21 rfl) rfl rfl (Nat.le_of_ble_eq_true rfl) (Nat.le_of_ble_eq_true rfl) ⟨rfl, h⟩
end
