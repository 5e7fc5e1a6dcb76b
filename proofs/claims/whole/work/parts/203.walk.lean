section
variable {p : Program} {l : Launch} {e : Env} {R : Room} {s : State} {m : MethodId} {args : Array Value} {below : List Frame} {meth : Method} {c : Code} {E : Ev}
def J_Re_readV_26 (n : Nat) (C : Cn) (v0 v1 v2 : Int) (Q : Int → Cn → Prop) : Prop :=
  okO n v0 3 ∧ (P_Re_isNumber n C v0 99 (fun (r_8 : Int) => (r_8 = 0 → (P_Re_failsHere n C v0 (fun (r_22 : Int) (C_23 : Cn) => (r_22 = 0 ∨ r_22 = 1) ∧ (Q r_22 C_23)))) ∧ (¬ r_8 = 0 → ((v2 = 0 → (okO n (PT v0.toNat 8) 12 ∧ (okI (PT v0.toNat 8) v1 ∧ (∀ C_18 : Cn, C_18 = wr C (PT v0.toNat 8).toNat v1.toNat (C v0.toNat 5) → (Q 1 C_18))))) ∧ (¬ v2 = 0 → (okO n (PT v0.toNat 8) 12 ∧ (okI (PT v0.toNat 8) v1 ∧ (∀ C_21 : Cn, C_21 = wr C (PT v0.toNat 8).toNat v1.toNat (w32 (-(C v0.toNat 5))) → (Q 1 C_21)))))))))
theorem aJ_Re_readV_26 (n : Nat) (C : Cn) (v0 v1 v2 : Int) (Q : Int → Cn → Prop) (h : J_Re_readV_26 n C v0 v1 v2 Q) : AW p l e R s m args below meth c E M_Re_readV true (fun r C2 n2 => n2 = n ∧ Q r C2) n 0 0 26 [(2, v0), (0, v1), (0, v2)] [] C := by
  unfold J_Re_readV_26 at h
  refine AW.ra_n (dc hd_Re_readV 14 rfl) rfl rfl rfl ?_
  refine AW.bipush (dc hd_Re_readV 15 rfl) (by decide) (by decide +kernel) ?_
  obtain ⟨g_9, h⟩ := h
  refine AW.callV (As := [(0, 99)]) (rest := []) (ci := 3) (m_Re_isNumber l E n C v0 99 _ h) cb_3_86 im_Re_isNumber se_Re_isNumber ⟨_, _, rfl⟩ (by decide) (dc hd_Re_readV 16 rfl) g_9 rfl rfl ⟨Nat.le_of_ble_eq_true rfl, Nat.le_of_ble_eq_true rfl⟩ ⟨(Nat.le_of_ble_eq_true rfl), (Nat.le_of_ble_eq_true rfl)⟩ (Nat.le_of_ble_eq_true rfl) (fun _ h => by cases h) (fun _ => rfl) (fun r_8 D_11 d_12 q_10 => ?_)
  obtain ⟨q_10a, q_10b, h⟩ := q_10
  subst D_11
  subst d_12
  show AW p l e _ s m args below meth c E M_Re_readV true _ n _ _ _ [(2, v0), (0, v1), (0, v2)] [(0, r_8)] C
  refine AW.if_ne (t := 40) (dc hd_Re_readV 17 rfl) (by decide) (fun c_13 => ?_) (fun c_13 => ?_)
  · have h := h.2 c_13
    refine AW.ra_n (dc hd_Re_readV 21 rfl) rfl rfl rfl ?_
    refine AW.getp fl_3_22 (dc hd_Re_readV 22 rfl) g_9 rfl ?_
    refine AW.iload_n (dc hd_Re_readV 23 rfl) rfl ?_
    refine AW.iload_n (dc hd_Re_readV 24 rfl) rfl ?_
    refine AW.if_eq (t := 57) (dc hd_Re_readV 25 rfl) (by decide) (fun c_15 => ?_) (fun c_15 => ?_)
    · have h := h.1 c_15
      refine AW.ra_n (dc hd_Re_readV 30 rfl) rfl rfl rfl ?_
      refine AW.getf fl_3_89 (dc hd_Re_readV 31 rfl) g_9 ?_
      obtain ⟨g_16, h⟩ := h
      obtain ⟨g_17, h⟩ := h
      refine AW.niast (dc hd_Re_readV 32 rfl) g_16 g_17 (fun C_18 eC_18 => ?_)
      have h := h C_18 eC_18
      refine AW.iconst (dc hd_Re_readV 33 rfl) (by decide) ?_
      exact AW.zret (dc hd_Re_readV 34 rfl) rfl rfl (Nat.le_of_ble_eq_true rfl) (Nat.le_of_ble_eq_true rfl) (by decide) ⟨rfl, h⟩
    · have h := h.2 c_15
      refine AW.ra_n (dc hd_Re_readV 26 rfl) rfl rfl rfl ?_
      refine AW.getf fl_3_89 (dc hd_Re_readV 27 rfl) g_9 ?_
      refine AW.ineg (dc hd_Re_readV 28 rfl) ?_
      refine AW.goto (t := 61) (dc hd_Re_readV 29 rfl) (by decide) ?_
      obtain ⟨g_19, h⟩ := h
      obtain ⟨g_20, h⟩ := h
      refine AW.niast (dc hd_Re_readV 32 rfl) g_19 g_20 (fun C_21 eC_21 => ?_)
      have h := h C_21 eC_21
      refine AW.iconst (dc hd_Re_readV 33 rfl) (by decide) ?_
      exact AW.zret (dc hd_Re_readV 34 rfl) rfl rfl (Nat.le_of_ble_eq_true rfl) (Nat.le_of_ble_eq_true rfl) (by decide) ⟨rfl, h⟩
  · have h := h.1 c_13
    refine AW.ra_n (dc hd_Re_readV 18 rfl) rfl rfl rfl ?_
    refine AW.callV (As := []) (rest := []) (ci := 3) (m_Re_failsHere l E n C v0 _ h) cb_3_68 im_Re_failsHere se_Re_failsHere ⟨_, _, rfl⟩ (by decide) (dc hd_Re_readV 19 rfl) g_9 rfl rfl ⟨Nat.le_of_ble_eq_true rfl, Nat.le_of_ble_eq_true rfl⟩ ⟨(Nat.le_of_ble_eq_true rfl), (Nat.le_of_ble_eq_true rfl)⟩ (Nat.le_of_ble_eq_true rfl) (fun _ h => by cases h) (fun _ => rfl) (fun r_22 C_23 d_25 q_24 => ?_)
    obtain ⟨q_24a, h⟩ := q_24
    subst d_25
    show AW p l e _ s m args below meth c E M_Re_readV true _ n _ _ _ [(2, v0), (0, v1), (0, v2)] [(0, r_22)] C_23
    obtain ⟨g_26, h⟩ := h
    exact AW.zret (dc hd_Re_readV 20 rfl) rfl rfl (Nat.le_of_ble_eq_true rfl) (Nat.le_of_ble_eq_true rfl) g_26 ⟨rfl, h⟩
def J_Re_readV_17 (n : Nat) (C : Cn) (v0 v1 s0 : Int) (Q : Int → Cn → Prop) : Prop :=
  (s0 = 0 → (J_Re_readV_26 n C v0 v1 s0 Q)) ∧ (¬ s0 = 0 → (okO n v0 3 ∧ (P_Re_step n C v0 (fun (_ : Int) (C_28 : Cn) => J_Re_readV_26 n C_28 v0 v1 s0 Q))))
theorem aJ_Re_readV_17 (n : Nat) (C : Cn) (v0 v1 s0 : Int) (Q : Int → Cn → Prop) (h : J_Re_readV_17 n C v0 v1 s0 Q) : AW p l e R s m args below meth c E M_Re_readV true (fun r C2 n2 => n2 = n ∧ Q r C2) n 0 0 17 [(2, v0), (0, v1), (9, 0)] [(0, s0)] C := by
  unfold J_Re_readV_17 at h
  refine AW.istore_n [(2, v0), (0, v1), (0, s0)] (dc hd_Re_readV 9 rfl) (Nat.le_of_ble_eq_true rfl) rfl rfl ?_
  refine AW.iload_n (dc hd_Re_readV 10 rfl) rfl ?_
  refine AW.if_eq (t := 26) (dc hd_Re_readV 11 rfl) (by decide) (fun c_7 => ?_) (fun c_7 => ?_)
  · have h := h.1 c_7
    exact aJ_Re_readV_26 n C v0 v1 s0 Q h
  · have h := h.2 c_7
    refine AW.ra_n (dc hd_Re_readV 12 rfl) rfl rfl rfl ?_
    obtain ⟨g_27, h⟩ := h
    refine AW.callV (As := []) (rest := []) (ci := 3) (m_Re_step l E n C v0 _ h) cb_3_30 im_Re_step se_Re_step ⟨_, _, rfl⟩ (by decide) (dc hd_Re_readV 13 rfl) g_27 rfl rfl ⟨Nat.le_of_ble_eq_true rfl, Nat.le_of_ble_eq_true rfl⟩ ⟨(Nat.le_of_ble_eq_true rfl), (Nat.le_of_ble_eq_true rfl)⟩ (Nat.le_of_ble_eq_true rfl) (fun _ h => by cases h) (fun _ => rfl) (fun u_30 C_28 d_31 q_29 => ?_)
    obtain ⟨q_29a, h⟩ := q_29
    subst d_31
    show AW p l e _ s m args below meth c E M_Re_readV true _ n _ _ _ [(2, v0), (0, v1), (0, s0)] [] C_28
    exact aJ_Re_readV_26 n C_28 v0 v1 s0 Q h
def P_Re_readV (n : Nat) (C : Cn) (v0 v1 : Int) (Q : Int → Cn → Prop) : Prop :=
  okO n v0 3 ∧ (P_Re_step n C v0 (fun (_ : Int) (C_2 : Cn) => J_Re_readV_17 n C_2 v0 v1 (if C_2 v0.toNat 2 = 4 then 1 else 0) Q))
theorem m_Re_readV (l : Launch) (E : Ev) (n : Nat) (C : Cn) (v0 v1 : Int) (Q : Int → Cn → Prop) (h : P_Re_readV n C v0 v1 Q) : MA l y_Re_readV M_Re_readV E true C n [(2, v0), (0, v1)] (fun r C2 n2 => n2 = n ∧ Q r C2) := by
  refine MA.of (by decide) rfl rfl 1 rfl (fun p e s m args below meth c => ?_)
  show AW p l e _ s m args below meth c E M_Re_readV true _ n 0 0 0 [(2, v0), (0, v1), (9, 0)] [] C
  unfold P_Re_readV at h
  refine AW.ra_n (dc hd_Re_readV 0 rfl) rfl rfl rfl ?_
  obtain ⟨g_1, h⟩ := h
  refine AW.callV (As := []) (rest := []) (ci := 3) (m_Re_step l E n C v0 _ h) cb_3_30 im_Re_step se_Re_step ⟨_, _, rfl⟩ (by decide) (dc hd_Re_readV 1 rfl) g_1 rfl rfl ⟨Nat.le_of_ble_eq_true rfl, Nat.le_of_ble_eq_true rfl⟩ ⟨(Nat.le_of_ble_eq_true rfl), (Nat.le_of_ble_eq_true rfl)⟩ (Nat.le_of_ble_eq_true rfl) (fun _ h => by cases h) (fun _ => rfl) (fun u_4 C_2 d_5 q_3 => ?_)
  obtain ⟨q_3a, h⟩ := q_3
  subst d_5
  show AW p l e _ s m args below meth c E M_Re_readV true _ n _ _ _ [(2, v0), (0, v1), (9, 0)] [] C_2
  refine AW.ra_n (dc hd_Re_readV 2 rfl) rfl rfl rfl ?_
  refine AW.getf fl_3_40 (dc hd_Re_readV 3 rfl) g_1 ?_
  refine AW.iconst (dc hd_Re_readV 4 rfl) (by decide) ?_
  refine AW.icmp_ne (t := 16) (dc hd_Re_readV 5 rfl) (by decide) (fun c_6 => ?_) (fun c_6 => ?_)
  · simp only [if_neg (show ¬ (C_2 v0.toNat 2 = 4) from c_6)] at h
    refine AW.iconst (dc hd_Re_readV 8 rfl) (by decide) ?_
    exact aJ_Re_readV_17 n C_2 _ _ _ Q h
  · simp only [if_pos (show C_2 v0.toNat 2 = 4 from c_6)] at h
    refine AW.iconst (dc hd_Re_readV 6 rfl) (by decide) ?_
    refine AW.goto (t := 17) (dc hd_Re_readV 7 rfl) (by decide) ?_
    exact aJ_Re_readV_17 n C_2 _ _ _ Q h
def P_Wa_beOf (n : Nat) (C : Cn) (v0 v1 v2 : Int) (Q : Int → Cn → Prop) : Prop :=
  okO n v0 7 ∧ (∀ C_2 : Cn, C_2 = wr C v0.toNat 0 v1 → (∀ C_3 : Cn, C_3 = wr C_2 v0.toNat 1 v2 → (Q 0 C_3)))
theorem m_Wa_beOf (l : Launch) (E : Ev) (n : Nat) (C : Cn) (v0 v1 v2 : Int) (Q : Int → Cn → Prop) (h : P_Wa_beOf n C v0 v1 v2 Q) : MA l y_Wa_beOf M_Wa_beOf E true C n [(2, v0), (0, v1), (0, v2)] (fun r C2 n2 => n2 = n ∧ Q r C2) := by
  refine MA.of (by decide) rfl rfl 0 rfl (fun p e s m args below meth c => ?_)
  show AW p l e _ s m args below meth c E M_Wa_beOf true _ n 0 0 0 [(2, v0), (0, v1), (0, v2)] [] C
  unfold P_Wa_beOf at h
  refine AW.ra_n (dc hd_Wa_beOf 0 rfl) rfl rfl rfl ?_
  refine AW.iload_n (dc hd_Wa_beOf 1 rfl) rfl ?_
  obtain ⟨g_1, h⟩ := h
  refine AW.nputI fl_7_21 (dc hd_Wa_beOf 2 rfl) g_1 (fun C_2 eC_2 => ?_)
  have h := h C_2 eC_2
  refine AW.ra_n (dc hd_Wa_beOf 3 rfl) rfl rfl rfl ?_
  refine AW.iload_n (dc hd_Wa_beOf 4 rfl) rfl ?_
  refine AW.nputI fl_7_25 (dc hd_Wa_beOf 5 rfl) g_1 (fun C_3 eC_3 => ?_)
  have h := h C_3 eC_3
  exact AW.vret (dc hd_Wa_beOf 6 rfl) rfl rfl (Nat.le_of_ble_eq_true rfl) (Nat.le_of_ble_eq_true rfl) ⟨rfl, h⟩
def J_Wa_lay_65 (n : Nat) (C : Cn) (s0 s1 : Int) (Q : Int → Cn → Prop) : Prop :=
  okO n s0 7 ∧ (∀ C_16 : Cn, C_16 = wr C s0.toNat 5 s1 → (Q 0 C_16))
theorem aJ_Wa_lay_65 (n : Nat) (C : Cn) (s0 s1 : Int) (Q : Int → Cn → Prop) (h : J_Wa_lay_65 n C s0 s1 Q) : AW p l e R s m args below meth c E M_Wa_lay true (fun r C2 n2 => n2 = n ∧ Q r C2) n 0 0 65 [(9, 0), (9, 0), (9, 0), (9, 0), (9, 0), (9, 0)] [(0, s1), (2, s0)] C := by
  unfold J_Wa_lay_65 at h
  obtain ⟨g_15, h⟩ := h
  refine AW.nputI fl_7_41 (dc hd_Wa_lay 33 rfl) g_15 (fun C_16 eC_16 => ?_)
  have h := h C_16 eC_16
  exact AW.vret (dc hd_Wa_lay 34 rfl) rfl rfl (Nat.le_of_ble_eq_true rfl) (Nat.le_of_ble_eq_true rfl) ⟨rfl, h⟩
def J_Wa_lay_50 (n : Nat) (C : Cn) (v0 v2 v4 v5 s0 s1 : Int) (Q : Int → Cn → Prop) : Prop :=
  okO n s0 7 ∧ (∀ C_13 : Cn, C_13 = wr C s0.toNat 4 s1 → (J_Wa_lay_65 n C_13 v0 (if v5 = 0 then v2 else v4) Q))
theorem aJ_Wa_lay_50 (n : Nat) (C : Cn) (v0 v2 v4 v5 s0 s1 : Int) (Q : Int → Cn → Prop) (h : J_Wa_lay_50 n C v0 v2 v4 v5 s0 s1 Q) : AW p l e R s m args below meth c E M_Wa_lay true (fun r C2 n2 => n2 = n ∧ Q r C2) n 0 0 50 [(2, v0), (9, 0), (0, v2), (9, 0), (0, v4), (0, v5)] [(0, s1), (2, s0)] C := by
  unfold J_Wa_lay_50 at h
  obtain ⟨g_12, h⟩ := h
  refine AW.nputI fl_7_38 (dc hd_Wa_lay 26 rfl) g_12 (fun C_13 eC_13 => ?_)
  have h := h C_13 eC_13
  refine AW.ra_n (dc hd_Wa_lay 27 rfl) rfl rfl rfl ?_
  refine AW.iload (dc hd_Wa_lay 28 rfl) rfl ?_
  refine AW.if_eq (t := 64) (dc hd_Wa_lay 29 rfl) (by decide) (fun c_14 => ?_) (fun c_14 => ?_)
  · simp only [if_pos (show v5 = 0 from c_14)] at h
    refine AW.iload_n (dc hd_Wa_lay 32 rfl) rfl ?_
    refine AW.fgt [(9, 0), (9, 0), (9, 0), (9, 0), (9, 0), (9, 0)] ⟨.inr rfl, .inl rfl, .inr rfl, .inl rfl, .inr rfl, .inr rfl, trivial⟩ ?_
    exact aJ_Wa_lay_65 n C_13 _ _ Q h
  · simp only [if_neg (show ¬ (v5 = 0) from c_14)] at h
    refine AW.iload (dc hd_Wa_lay 30 rfl) rfl ?_
    refine AW.goto (t := 65) (dc hd_Wa_lay 31 rfl) (by decide) ?_
    refine AW.fgt [(9, 0), (9, 0), (9, 0), (9, 0), (9, 0), (9, 0)] ⟨.inr rfl, .inl rfl, .inr rfl, .inl rfl, .inr rfl, .inr rfl, trivial⟩ ?_
    exact aJ_Wa_lay_65 n C_13 _ _ Q h
def J_Wa_lay_36 (n : Nat) (C : Cn) (v0 v1 v2 v3 v4 v5 s0 s1 : Int) (Q : Int → Cn → Prop) : Prop :=
  okO n s0 7 ∧ (∀ C_10 : Cn, C_10 = wr C s0.toNat 3 s1 → (J_Wa_lay_50 n C_10 v0 v2 v4 v5 v0 (if v5 = 0 then v1 else v3) Q))
theorem aJ_Wa_lay_36 (n : Nat) (C : Cn) (v0 v1 v2 v3 v4 v5 s0 s1 : Int) (Q : Int → Cn → Prop) (h : J_Wa_lay_36 n C v0 v1 v2 v3 v4 v5 s0 s1 Q) : AW p l e R s m args below meth c E M_Wa_lay true (fun r C2 n2 => n2 = n ∧ Q r C2) n 0 0 36 [(2, v0), (0, v1), (0, v2), (0, v3), (0, v4), (0, v5)] [(0, s1), (2, s0)] C := by
  unfold J_Wa_lay_36 at h
  obtain ⟨g_9, h⟩ := h
  refine AW.nputI fl_7_35 (dc hd_Wa_lay 19 rfl) g_9 (fun C_10 eC_10 => ?_)
  have h := h C_10 eC_10
  refine AW.ra_n (dc hd_Wa_lay 20 rfl) rfl rfl rfl ?_
  refine AW.iload (dc hd_Wa_lay 21 rfl) rfl ?_
  refine AW.if_eq (t := 49) (dc hd_Wa_lay 22 rfl) (by decide) (fun c_11 => ?_) (fun c_11 => ?_)
  · simp only [if_pos (show v5 = 0 from c_11)] at h
    refine AW.iload_n (dc hd_Wa_lay 25 rfl) rfl ?_
    refine AW.fgt [(2, v0), (9, 0), (0, v2), (9, 0), (0, v4), (0, v5)] ⟨.inl rfl, .inr rfl, .inl rfl, .inr rfl, .inl rfl, .inl rfl, trivial⟩ ?_
    exact aJ_Wa_lay_50 n C_10 _ _ _ _ _ _ Q h
  · simp only [if_neg (show ¬ (v5 = 0) from c_11)] at h
    refine AW.iload_n (dc hd_Wa_lay 23 rfl) rfl ?_
    refine AW.goto (t := 50) (dc hd_Wa_lay 24 rfl) (by decide) ?_
    refine AW.fgt [(2, v0), (9, 0), (0, v2), (9, 0), (0, v4), (0, v5)] ⟨.inl rfl, .inr rfl, .inl rfl, .inr rfl, .inl rfl, .inl rfl, trivial⟩ ?_
    exact aJ_Wa_lay_50 n C_10 _ _ _ _ _ _ Q h
def J_Wa_lay_21 (n : Nat) (C : Cn) (v0 v1 v2 v3 v4 v5 s0 s1 : Int) (Q : Int → Cn → Prop) : Prop :=
  okO n s0 7 ∧ (∀ C_7 : Cn, C_7 = wr C s0.toNat 2 s1 → (J_Wa_lay_36 n C_7 v0 v1 v2 v3 v4 v5 v0 (if v5 = 0 then v4 else v2) Q))
theorem aJ_Wa_lay_21 (n : Nat) (C : Cn) (v0 v1 v2 v3 v4 v5 s0 s1 : Int) (Q : Int → Cn → Prop) (h : J_Wa_lay_21 n C v0 v1 v2 v3 v4 v5 s0 s1 Q) : AW p l e R s m args below meth c E M_Wa_lay true (fun r C2 n2 => n2 = n ∧ Q r C2) n 0 0 21 [(2, v0), (0, v1), (0, v2), (0, v3), (0, v4), (0, v5)] [(0, s1), (2, s0)] C := by
  unfold J_Wa_lay_21 at h
  obtain ⟨g_6, h⟩ := h
  refine AW.nputI fl_7_32 (dc hd_Wa_lay 12 rfl) g_6 (fun C_7 eC_7 => ?_)
  have h := h C_7 eC_7
  refine AW.ra_n (dc hd_Wa_lay 13 rfl) rfl rfl rfl ?_
  refine AW.iload (dc hd_Wa_lay 14 rfl) rfl ?_
  refine AW.if_eq (t := 34) (dc hd_Wa_lay 15 rfl) (by decide) (fun c_8 => ?_) (fun c_8 => ?_)
  · simp only [if_pos (show v5 = 0 from c_8)] at h
    refine AW.iload (dc hd_Wa_lay 18 rfl) rfl ?_
    exact aJ_Wa_lay_36 n C_7 _ _ _ _ _ _ _ _ Q h
  · simp only [if_neg (show ¬ (v5 = 0) from c_8)] at h
    refine AW.iload_n (dc hd_Wa_lay 16 rfl) rfl ?_
    refine AW.goto (t := 36) (dc hd_Wa_lay 17 rfl) (by decide) ?_
    exact aJ_Wa_lay_36 n C_7 _ _ _ _ _ _ _ _ Q h
def P_Wa_lay (n : Nat) (C : Cn) (v0 v1 v2 v3 v4 : Int) (Q : Int → Cn → Prop) : Prop :=
  P_Wa_isAhead n C v1 v2 v3 v4 (fun (r_1 : Int) => J_Wa_lay_21 n C v0 v1 v2 v3 v4 r_1 v0 (if r_1 = 0 then v3 else v1) Q)
theorem m_Wa_lay (l : Launch) (E : Ev) (n : Nat) (C : Cn) (v0 v1 v2 v3 v4 : Int) (Q : Int → Cn → Prop) (h : P_Wa_lay n C v0 v1 v2 v3 v4 Q) : MA l y_Wa_lay M_Wa_lay E true C n [(2, v0), (0, v1), (0, v2), (0, v3), (0, v4)] (fun r C2 n2 => n2 = n ∧ Q r C2) := by
  refine MA.of (by decide) rfl rfl 1 rfl (fun p e s m args below meth c => ?_)
  show AW p l e _ s m args below meth c E M_Wa_lay true _ n 0 0 0 [(2, v0), (0, v1), (0, v2), (0, v3), (0, v4), (9, 0)] [] C
  unfold P_Wa_lay at h
  refine AW.iload_n (dc hd_Wa_lay 0 rfl) rfl ?_
  refine AW.iload_n (dc hd_Wa_lay 1 rfl) rfl ?_
  refine AW.iload_n (dc hd_Wa_lay 2 rfl) rfl ?_
  refine AW.iload (dc hd_Wa_lay 3 rfl) rfl ?_
  refine AW.callS (As := [(0, v1), (0, v2), (0, v3), (0, v4)]) (rest := []) (m_Wa_isAhead l E n C v1 v2 v3 v4 _ h) cb_7_28 sm_Wa_isAhead (dc hd_Wa_lay 4 rfl) rfl rfl ⟨Nat.le_of_ble_eq_true rfl, Nat.le_of_ble_eq_true rfl⟩ ⟨(Nat.le_of_ble_eq_true rfl), (Nat.le_of_ble_eq_true rfl)⟩ (Nat.le_of_ble_eq_true rfl) (fun _ h => by cases h) (fun _ => rfl) (fun r_1 D_3 d_4 q_2 => ?_)
  obtain ⟨q_2a, q_2b, h⟩ := q_2
  subst D_3
  subst d_4
  show AW p l e _ s m args below meth c E M_Wa_lay true _ n _ _ _ [(2, v0), (0, v1), (0, v2), (0, v3), (0, v4), (9, 0)] [(0, r_1)] C
  refine AW.istore [(2, v0), (0, v1), (0, v2), (0, v3), (0, v4), (0, r_1)] (dc hd_Wa_lay 5 rfl) (Nat.le_of_ble_eq_true rfl) rfl rfl ?_
  refine AW.ra_n (dc hd_Wa_lay 6 rfl) rfl rfl rfl ?_
  refine AW.iload (dc hd_Wa_lay 7 rfl) rfl ?_
  refine AW.if_eq (t := 20) (dc hd_Wa_lay 8 rfl) (by decide) (fun c_5 => ?_) (fun c_5 => ?_)
  · simp only [if_pos (show r_1 = 0 from c_5)] at h
    refine AW.iload_n (dc hd_Wa_lay 11 rfl) rfl ?_
    exact aJ_Wa_lay_21 n C _ _ _ _ _ _ _ _ Q h
  · simp only [if_neg (show ¬ (r_1 = 0) from c_5)] at h
    refine AW.iload_n (dc hd_Wa_lay 9 rfl) rfl ?_
    refine AW.goto (t := 21) (dc hd_Wa_lay 10 rfl) (by decide) ?_
    exact aJ_Wa_lay_21 n C _ _ _ _ _ _ _ _ Q h
def B_Se_studyStrip_23 (n : Nat) (v0 v1 v2 v3 v4 : Int) (kz2 : Cn × Int → Prop) (Q : Int → Cn → Prop) (kz23 : Cn × Int → Prop) (z : Cn × Int) : Prop := match z with
  | (C, v5) => (v3 ≤ v5 → (kz2 (C, w32 (v3 + 1)))) ∧ (¬ v3 ≤ v5 → (okO n v0 4 ∧ (okO n (PT v0.toNat 0) 2 ∧ (okO n (PT (PT v0.toNat 0).toNat 6) 12 ∧ (okI (PT (PT v0.toNat 0).toNat 6) (w32 (v1 + v5)) ∧ (∀ v6_12 : Int, v6_12 = C (PT (PT v0.toNat 0).toNat 6).toNat (w32 (v1 + v5)).toNat → (okO n (PT v0.toNat 4) 12 ∧ (okI (PT v0.toNat 4) v6_12 ∧ (∀ C_15 : Cn, C_15 = wr C (PT v0.toNat 4).toNat v6_12.toNat (or32 (C (PT v0.toNat 4).toNat v6_12.toNat) (shl32 1 v4)) → (okO n (PT v0.toNat 5) 12 ∧ (okI (PT v0.toNat 5) v4 ∧ (∀ C_18 : Cn, C_18 = wr C_15 (PT v0.toNat 5).toNat v4.toNat (or32 (C_15 (PT v0.toNat 5).toNat v4.toNat) (shl32 1 v6_12)) → (kz23 (C_18, w32 (v5 + 1)))))))))))))))
theorem bB_Se_studyStrip_23 (n : Nat) (v0 v1 v2 v3 v4 : Int) (kz2 : Cn × Int → Prop) (Q : Int → Cn → Prop) (hkz2 : ∀ (Cz : Cn) (z3 : Int), kz2 (Cz, z3) → AW p l e R s m args below meth c E M_Se_studyStrip true (fun r C2 n2 => n2 = n ∧ Q r C2) n 0 0 2 [(2, v0), (0, v1), (0, v2), (0, z3), (9, 0), (9, 0), (9, 0)] [] Cz) (kz23 : Cn × Int → Prop) (hkz23 : ∀ (Cz : Cn) (z5 : Int), kz23 (Cz, z5) → AW p l e R s m args below meth c E M_Se_studyStrip true (fun r C2 n2 => n2 = n ∧ Q r C2) n 0 0 23 [(2, v0), (0, v1), (0, v2), (0, v3), (0, v4), (0, z5), (9, 0)] [] Cz) (C : Cn) (v5 : Int) (h : B_Se_studyStrip_23 n v0 v1 v2 v3 v4 kz2 Q kz23 (C, v5)) : AW p l e R s m args below meth c E M_Se_studyStrip true (fun r C2 n2 => n2 = n ∧ Q r C2) n 0 0 23 [(2, v0), (0, v1), (0, v2), (0, v3), (0, v4), (0, v5), (9, 0)] [] C := by
  unfold B_Se_studyStrip_23 at h
  dsimp only at h
  refine AW.iload (dc hd_Se_studyStrip 15 rfl) rfl ?_
  refine AW.iload_n (dc hd_Se_studyStrip 16 rfl) rfl ?_
  refine AW.icmp_ge (t := 77) (dc hd_Se_studyStrip 17 rfl) (by decide) (fun c_7 => ?_) (fun c_7 => ?_)
  · have h := h.1 c_7
    refine AW.iinc [(2, v0), (0, v1), (0, v2), (0, w32 (v3 + 1)), (0, v4), (0, v5), (9, 0)] (dc hd_Se_studyStrip 48 rfl) rfl (Nat.le_of_ble_eq_true rfl) rfl rfl ?_
    refine AW.goto (t := 2) (dc hd_Se_studyStrip 49 rfl) (by decide) ?_
    refine AW.fgt [(2, v0), (0, v1), (0, v2), (0, w32 (v3 + 1)), (9, 0), (9, 0), (9, 0)] ⟨.inl rfl, .inl rfl, .inl rfl, .inl rfl, .inr rfl, .inr rfl, .inl rfl, trivial⟩ ?_
    exact hkz2 C (w32 (v3 + 1)) h
  · have h := h.2 c_7
    refine AW.ra_n (dc hd_Se_studyStrip 18 rfl) rfl rfl rfl ?_
    obtain ⟨g_8, h⟩ := h
    refine AW.getp fl_4_40 (dc hd_Se_studyStrip 19 rfl) g_8 rfl ?_
    obtain ⟨g_9, h⟩ := h
    refine AW.getp fl_4_65 (dc hd_Se_studyStrip 20 rfl) g_9 rfl ?_
    refine AW.iload_n (dc hd_Se_studyStrip 21 rfl) rfl ?_
    refine AW.iload (dc hd_Se_studyStrip 22 rfl) rfl ?_
    refine AW.iadd (dc hd_Se_studyStrip 23 rfl) ?_
    obtain ⟨g_10, h⟩ := h
    obtain ⟨g_11, h⟩ := h
    refine AW.iald (dc hd_Se_studyStrip 24 rfl) g_10 g_11 ?_
    refine AW.nm (fun v6_12 ev6_12 => ?_)
    have h := h v6_12 ev6_12
    refine AW.istore [(2, v0), (0, v1), (0, v2), (0, v3), (0, v4), (0, v5), (0, v6_12)] (dc hd_Se_studyStrip 25 rfl) (Nat.le_of_ble_eq_true rfl) rfl rfl ?_
    refine AW.ra_n (dc hd_Se_studyStrip 26 rfl) rfl rfl rfl ?_
    refine AW.getp fl_4_15 (dc hd_Se_studyStrip 27 rfl) g_8 rfl ?_
    refine AW.iload (dc hd_Se_studyStrip 28 rfl) rfl ?_
    refine AW.rdup2 (dc hd_Se_studyStrip 29 rfl) rfl rfl ?_
    obtain ⟨g_13, h⟩ := h
    obtain ⟨g_14, h⟩ := h
    refine AW.iald (dc hd_Se_studyStrip 30 rfl) g_13 g_14 ?_
    refine AW.iconst (dc hd_Se_studyStrip 31 rfl) (by decide) ?_
    refine AW.iload (dc hd_Se_studyStrip 32 rfl) rfl ?_
    refine AW.ishl (dc hd_Se_studyStrip 33 rfl) ?_
    refine AW.ior (dc hd_Se_studyStrip 34 rfl) ?_
    refine AW.niast (dc hd_Se_studyStrip 35 rfl) g_13 g_14 (fun C_15 eC_15 => ?_)
    have h := h C_15 eC_15
    refine AW.ra_n (dc hd_Se_studyStrip 36 rfl) rfl rfl rfl ?_
    refine AW.getp fl_4_18 (dc hd_Se_studyStrip 37 rfl) g_8 rfl ?_
    refine AW.iload (dc hd_Se_studyStrip 38 rfl) rfl ?_
    refine AW.rdup2 (dc hd_Se_studyStrip 39 rfl) rfl rfl ?_
    obtain ⟨g_16, h⟩ := h
    obtain ⟨g_17, h⟩ := h
    refine AW.iald (dc hd_Se_studyStrip 40 rfl) g_16 g_17 ?_
    refine AW.iconst (dc hd_Se_studyStrip 41 rfl) (by decide) ?_
    refine AW.iload (dc hd_Se_studyStrip 42 rfl) rfl ?_
    refine AW.ishl (dc hd_Se_studyStrip 43 rfl) ?_
    refine AW.ior (dc hd_Se_studyStrip 44 rfl) ?_
    refine AW.niast (dc hd_Se_studyStrip 45 rfl) g_16 g_17 (fun C_18 eC_18 => ?_)
    have h := h C_18 eC_18
    refine AW.iinc [(2, v0), (0, v1), (0, v2), (0, v3), (0, v4), (0, w32 (v5 + 1)), (0, v6_12)] (dc hd_Se_studyStrip 46 rfl) rfl (Nat.le_of_ble_eq_true rfl) rfl rfl ?_
    refine AW.goto (t := 23) (dc hd_Se_studyStrip 47 rfl) (by decide) ?_
    refine AW.fgt [(2, v0), (0, v1), (0, v2), (0, v3), (0, v4), (0, w32 (v5 + 1)), (9, 0)] ⟨.inl rfl, .inl rfl, .inl rfl, .inl rfl, .inl rfl, .inl rfl, .inr rfl, trivial⟩ ?_
    exact hkz23 C_18 (w32 (v5 + 1)) h
theorem aB_Se_studyStrip_23 (n : Nat) (v0 v1 v2 v3 v4 : Int) (kz2 : Cn × Int → Prop) (Q : Int → Cn → Prop) (hkz2 : ∀ (Cz : Cn) (z3 : Int), kz2 (Cz, z3) → AW p l e R s m args below meth c E M_Se_studyStrip true (fun r C2 n2 => n2 = n ∧ Q r C2) n 0 0 2 [(2, v0), (0, v1), (0, v2), (0, z3), (9, 0), (9, 0), (9, 0)] [] Cz) : ∀ (f : Nat) (z : Cn × Int), lp (B_Se_studyStrip_23 n v0 v1 v2 v3 v4 kz2 Q) f z → AW p l e R s m args below meth c E M_Se_studyStrip true (fun r C2 n2 => n2 = n ∧ Q r C2) n 0 0 23 [(2, v0), (0, v1), (0, v2), (0, v3), (0, v4), (0, z.2), (9, 0)] [] (z.1) := by
  intro f
  induction f with
  | zero => intro z h; exact False.elim h
  | succ f ih => intro z h; exact bB_Se_studyStrip_23 n v0 v1 v2 v3 v4 kz2 Q hkz2 (lp (B_Se_studyStrip_23 n v0 v1 v2 v3 v4 kz2 Q) f) (fun a0 a1 h => ih (a0, a1) h) z.1 z.2 h
def B_Se_studyStrip_2 (n : Nat) (v0 v1 v2 : Int) (Q : Int → Cn → Prop) (kz2 : Cn × Int → Prop) (z : Cn × Int) : Prop := match z with
  | (C, v3) => (v2 ≤ v3 → (Q 0 C)) ∧ (¬ v2 ≤ v3 → (okO n v0 4 ∧ (okO n (PT v0.toNat 0) 2 ∧ (okO n (PT (PT v0.toNat 0).toNat 6) 12 ∧ (okI (PT (PT v0.toNat 0).toNat 6) (w32 (v1 + v3)) ∧ (∀ v4_6 : Int, v4_6 = C (PT (PT v0.toNat 0).toNat 6).toNat (w32 (v1 + v3)).toNat → (∃ f_19 : Nat, lp (B_Se_studyStrip_23 n v0 v1 v2 v3 v4_6 kz2 Q) f_19 (C, 0))))))))
theorem bB_Se_studyStrip_2 (n : Nat) (v0 v1 v2 : Int) (Q : Int → Cn → Prop) (kz2 : Cn × Int → Prop) (hkz2 : ∀ (Cz : Cn) (z3 : Int), kz2 (Cz, z3) → AW p l e R s m args below meth c E M_Se_studyStrip true (fun r C2 n2 => n2 = n ∧ Q r C2) n 0 0 2 [(2, v0), (0, v1), (0, v2), (0, z3), (9, 0), (9, 0), (9, 0)] [] Cz) (C : Cn) (v3 : Int) (h : B_Se_studyStrip_2 n v0 v1 v2 Q kz2 (C, v3)) : AW p l e R s m args below meth c E M_Se_studyStrip true (fun r C2 n2 => n2 = n ∧ Q r C2) n 0 0 2 [(2, v0), (0, v1), (0, v2), (0, v3), (9, 0), (9, 0), (9, 0)] [] C := by
  unfold B_Se_studyStrip_2 at h
  dsimp only at h
  refine AW.iload_n (dc hd_Se_studyStrip 2 rfl) rfl ?_
  refine AW.iload_n (dc hd_Se_studyStrip 3 rfl) rfl ?_
  refine AW.icmp_ge (t := 83) (dc hd_Se_studyStrip 4 rfl) (by decide) (fun c_1 => ?_) (fun c_1 => ?_)
  · have h := h.1 c_1
    exact AW.vret (dc hd_Se_studyStrip 50 rfl) rfl rfl (Nat.le_of_ble_eq_true rfl) (Nat.le_of_ble_eq_true rfl) ⟨rfl, h⟩
  · have h := h.2 c_1
    refine AW.ra_n (dc hd_Se_studyStrip 5 rfl) rfl rfl rfl ?_
    obtain ⟨g_2, h⟩ := h
    refine AW.getp fl_4_40 (dc hd_Se_studyStrip 6 rfl) g_2 rfl ?_
    obtain ⟨g_3, h⟩ := h
    refine AW.getp fl_4_65 (dc hd_Se_studyStrip 7 rfl) g_3 rfl ?_
    refine AW.iload_n (dc hd_Se_studyStrip 8 rfl) rfl ?_
    refine AW.iload_n (dc hd_Se_studyStrip 9 rfl) rfl ?_
    refine AW.iadd (dc hd_Se_studyStrip 10 rfl) ?_
    obtain ⟨g_4, h⟩ := h
    obtain ⟨g_5, h⟩ := h
    refine AW.iald (dc hd_Se_studyStrip 11 rfl) g_4 g_5 ?_
    refine AW.nm (fun v4_6 ev4_6 => ?_)
    have h := h v4_6 ev4_6
    refine AW.istore [(2, v0), (0, v1), (0, v2), (0, v3), (0, v4_6), (9, 0), (9, 0)] (dc hd_Se_studyStrip 12 rfl) (Nat.le_of_ble_eq_true rfl) rfl rfl ?_
    refine AW.iconst (dc hd_Se_studyStrip 13 rfl) (by decide) ?_
    refine AW.istore [(2, v0), (0, v1), (0, v2), (0, v3), (0, v4_6), (0, 0), (9, 0)] (dc hd_Se_studyStrip 14 rfl) (Nat.le_of_ble_eq_true rfl) rfl rfl ?_
    obtain ⟨f_19, h⟩ := h
    exact aB_Se_studyStrip_23 n v0 v1 v2 v3 v4_6 kz2 Q hkz2 f_19 (C, 0) h
theorem aB_Se_studyStrip_2 (n : Nat) (v0 v1 v2 : Int) (Q : Int → Cn → Prop) : ∀ (f : Nat) (z : Cn × Int), lp (B_Se_studyStrip_2 n v0 v1 v2 Q) f z → AW p l e R s m args below meth c E M_Se_studyStrip true (fun r C2 n2 => n2 = n ∧ Q r C2) n 0 0 2 [(2, v0), (0, v1), (0, v2), (0, z.2), (9, 0), (9, 0), (9, 0)] [] (z.1) := by
  intro f
  induction f with
  | zero => intro z h; exact False.elim h
  | succ f ih => intro z h; exact bB_Se_studyStrip_2 n v0 v1 v2 Q (lp (B_Se_studyStrip_2 n v0 v1 v2 Q) f) (fun a0 a1 h => ih (a0, a1) h) z.1 z.2 h
def P_Se_studyStrip (n : Nat) (C : Cn) (v0 v1 v2 : Int) (Q : Int → Cn → Prop) : Prop :=
  ∃ f_20 : Nat, lp (B_Se_studyStrip_2 n v0 v1 v2 Q) f_20 (C, 1)
theorem m_Se_studyStrip (l : Launch) (E : Ev) (n : Nat) (C : Cn) (v0 v1 v2 : Int) (Q : Int → Cn → Prop) (h : P_Se_studyStrip n C v0 v1 v2 Q) : MA l y_Se_studyStrip M_Se_studyStrip E true C n [(2, v0), (0, v1), (0, v2)] (fun r C2 n2 => n2 = n ∧ Q r C2) := by
  refine MA.of (by decide) rfl rfl 4 rfl (fun p e s m args below meth c => ?_)
  show AW p l e _ s m args below meth c E M_Se_studyStrip true _ n 0 0 0 [(2, v0), (0, v1), (0, v2), (9, 0), (9, 0), (9, 0), (9, 0)] [] C
  unfold P_Se_studyStrip at h
  refine AW.iconst (dc hd_Se_studyStrip 0 rfl) (by decide) ?_
  refine AW.istore_n [(2, v0), (0, v1), (0, v2), (0, 1), (9, 0), (9, 0), (9, 0)] (dc hd_Se_studyStrip 1 rfl) (Nat.le_of_ble_eq_true rfl) rfl rfl ?_
  obtain ⟨f_20, h⟩ := h
  exact aB_Se_studyStrip_2 n v0 v1 v2 Q f_20 (C, 1) h
def B_Se_study_113 (n : Nat) (v0 : Int) (Q : Int → Cn → Prop) (kz113 : Cn × Int → Prop) (z : Cn × Int) : Prop := match z with
  | (C, v1) => okO n v0 4 ∧ (okO n (PT v0.toNat 0) 2 ∧ ((C (PT v0.toNat 0).toNat 1 < v1 → (Q 0 C)) ∧ (¬ C (PT v0.toNat 0).toNat 1 < v1 → (okO n (PT (PT v0.toNat 0).toNat 7) 12 ∧ (okI (PT (PT v0.toNat 0).toNat 7) v1 ∧ (P_Se_studyStrip n C v0 (w32 (v1 * 6)) (C (PT (PT v0.toNat 0).toNat 7).toNat v1.toNat) (fun (_ : Int) (C_14 : Cn) => kz113 (C_14, w32 (v1 + 1)))))))))
theorem bB_Se_study_113 (n : Nat) (v0 : Int) (Q : Int → Cn → Prop) (kz113 : Cn × Int → Prop) (hkz113 : ∀ (Cz : Cn) (z1 : Int), kz113 (Cz, z1) → AW p l e R s m args below meth c E M_Se_study true (fun r C2 n2 => n2 = n ∧ Q r C2) n 0 0 113 [(2, v0), (0, z1)] [] Cz) (C : Cn) (v1 : Int) (h : B_Se_study_113 n v0 Q kz113 (C, v1)) : AW p l e R s m args below meth c E M_Se_study true (fun r C2 n2 => n2 = n ∧ Q r C2) n 0 0 113 [(2, v0), (0, v1)] [] C := by
  unfold B_Se_study_113 at h
  dsimp only at h
  refine AW.iload_n (dc hd_Se_study 71 rfl) rfl ?_
  refine AW.ra_n (dc hd_Se_study 72 rfl) rfl rfl rfl ?_
  obtain ⟨g_9, h⟩ := h
  refine AW.getp fl_4_40 (dc hd_Se_study 73 rfl) g_9 rfl ?_
  obtain ⟨g_10, h⟩ := h
  refine AW.getf fl_4_44 (dc hd_Se_study 74 rfl) g_10 ?_
  refine AW.icmp_gt (t := 147) (dc hd_Se_study 75 rfl) (by decide) (fun c_11 => ?_) (fun c_11 => ?_)
  · have h := h.1 c_11
    exact AW.vret (dc hd_Se_study 88 rfl) rfl rfl (Nat.le_of_ble_eq_true rfl) (Nat.le_of_ble_eq_true rfl) ⟨rfl, h⟩
  · have h := h.2 c_11
    refine AW.ra_n (dc hd_Se_study 76 rfl) rfl rfl rfl ?_
    refine AW.iload_n (dc hd_Se_study 77 rfl) rfl ?_
    refine AW.bipush (dc hd_Se_study 78 rfl) (by decide) (by decide +kernel) ?_
    refine AW.imul (dc hd_Se_study 79 rfl) ?_
    refine AW.ra_n (dc hd_Se_study 80 rfl) rfl rfl rfl ?_
    refine AW.getp fl_4_40 (dc hd_Se_study 81 rfl) g_9 rfl ?_
    refine AW.getp fl_4_58 (dc hd_Se_study 82 rfl) g_10 rfl ?_
    refine AW.iload_n (dc hd_Se_study 83 rfl) rfl ?_
    obtain ⟨g_12, h⟩ := h
    obtain ⟨g_13, h⟩ := h
    refine AW.iald (dc hd_Se_study 84 rfl) g_12 g_13 ?_
    refine AW.callV (As := [(0, w32 (v1 * 6)), (0, C (PT (PT v0.toNat 0).toNat 7).toNat v1.toNat)]) (rest := []) (ci := 4) (m_Se_studyStrip l E n C v0 (w32 (v1 * 6)) (C (PT (PT v0.toNat 0).toNat 7).toNat v1.toNat) _ h) cb_4_61 im_Se_studyStrip se_Se_studyStrip ⟨_, _, rfl⟩ (by decide) (dc hd_Se_study 85 rfl) g_9 rfl rfl ⟨Nat.le_of_ble_eq_true rfl, Nat.le_of_ble_eq_true rfl⟩ ⟨(Nat.le_of_ble_eq_true rfl), (Nat.le_of_ble_eq_true rfl)⟩ (Nat.le_of_ble_eq_true rfl) (fun _ h => by cases h) (fun _ => rfl) (fun u_16 C_14 d_17 q_15 => ?_)
    obtain ⟨q_15a, h⟩ := q_15
    subst d_17
    show AW p l e _ s m args below meth c E M_Se_study true _ n _ _ _ [(2, v0), (0, v1)] [] C_14
    refine AW.iinc [(2, v0), (0, w32 (v1 + 1))] (dc hd_Se_study 86 rfl) rfl (Nat.le_of_ble_eq_true rfl) rfl rfl ?_
    refine AW.goto (t := 113) (dc hd_Se_study 87 rfl) (by decide) ?_
    exact hkz113 C_14 (w32 (v1 + 1)) h
theorem aB_Se_study_113 (n : Nat) (v0 : Int) (Q : Int → Cn → Prop) : ∀ (f : Nat) (z : Cn × Int), lp (B_Se_study_113 n v0 Q) f z → AW p l e R s m args below meth c E M_Se_study true (fun r C2 n2 => n2 = n ∧ Q r C2) n 0 0 113 [(2, v0), (0, z.2)] [] (z.1) := by
  intro f
  induction f with
  | zero => intro z h; exact False.elim h
  | succ f ih => intro z h; exact bB_Se_study_113 n v0 Q (lp (B_Se_study_113 n v0 Q) f) (fun a0 a1 h => ih (a0, a1) h) z.1 z.2 h
def B_Se_study_40 (n : Nat) (v0 : Int) (Q : Int → Cn → Prop) (kz40 : Cn × Int → Prop) (z : Cn × Int) : Prop := match z with
  | (C, v1) => okO n v0 4 ∧ (okO n (PT v0.toNat 0) 2 ∧ ((C (PT v0.toNat 0).toNat 0 ≤ v1 → (∃ f_18 : Nat, lp (B_Se_study_113 n v0 Q) f_18 (C, 0))) ∧ (¬ C (PT v0.toNat 0).toNat 0 ≤ v1 → (okO n (PT v0.toNat 4) 12 ∧ (okI (PT v0.toNat 4) v1 ∧ (∀ C_21 : Cn, C_21 = wr C (PT v0.toNat 4).toNat v1.toNat 0 → (okO n (PT v0.toNat 5) 12 ∧ (okI (PT v0.toNat 5) v1 ∧ (∀ C_24 : Cn, C_24 = wr C_21 (PT v0.toNat 5).toNat v1.toNat 0 → (okO n (PT (PT v0.toNat 0).toNat 4) 12 ∧ (okI (PT (PT v0.toNat 0).toNat 4) v1 ∧ (okO n (PT v0.toNat 6) 12 ∧ (okI (PT v0.toNat 6) (C_24 (PT (PT v0.toNat 0).toNat 4).toNat v1.toNat) ∧ (∀ C_29 : Cn, C_29 = wr C_24 (PT v0.toNat 6).toNat (C_24 (PT (PT v0.toNat 0).toNat 4).toNat v1.toNat).toNat (or32 (C_24 (PT v0.toNat 6).toNat (C_24 (PT (PT v0.toNat 0).toNat 4).toNat v1.toNat).toNat) (shl32 1 v1)) → (okO n (PT (PT v0.toNat 0).toNat 5) 12 ∧ (okI (PT (PT v0.toNat 0).toNat 5) v1 ∧ (okO n (PT v0.toNat 7) 12 ∧ (okI (PT v0.toNat 7) (C_29 (PT (PT v0.toNat 0).toNat 5).toNat v1.toNat) ∧ (∀ C_34 : Cn, C_34 = wr C_29 (PT v0.toNat 7).toNat (C_29 (PT (PT v0.toNat 0).toNat 5).toNat v1.toNat).toNat (or32 (C_29 (PT v0.toNat 7).toNat (C_29 (PT (PT v0.toNat 0).toNat 5).toNat v1.toNat).toNat) (shl32 1 v1)) → (kz40 (C_34, w32 (v1 + 1))))))))))))))))))))))
theorem bB_Se_study_40 (n : Nat) (v0 : Int) (Q : Int → Cn → Prop) (kz40 : Cn × Int → Prop) (hkz40 : ∀ (Cz : Cn) (z1 : Int), kz40 (Cz, z1) → AW p l e R s m args below meth c E M_Se_study true (fun r C2 n2 => n2 = n ∧ Q r C2) n 0 0 40 [(2, v0), (0, z1)] [] Cz) (C : Cn) (v1 : Int) (h : B_Se_study_40 n v0 Q kz40 (C, v1)) : AW p l e R s m args below meth c E M_Se_study true (fun r C2 n2 => n2 = n ∧ Q r C2) n 0 0 40 [(2, v0), (0, v1)] [] C := by
  unfold B_Se_study_40 at h
  dsimp only at h
  refine AW.iload_n (dc hd_Se_study 24 rfl) rfl ?_
  refine AW.ra_n (dc hd_Se_study 25 rfl) rfl rfl rfl ?_
  obtain ⟨g_6, h⟩ := h
  refine AW.getp fl_4_40 (dc hd_Se_study 26 rfl) g_6 rfl ?_
  obtain ⟨g_7, h⟩ := h
  refine AW.getf fl_4_49 (dc hd_Se_study 27 rfl) g_7 ?_
  refine AW.icmp_ge (t := 111) (dc hd_Se_study 28 rfl) (by decide) (fun c_8 => ?_) (fun c_8 => ?_)
  · have h := h.1 c_8
    refine AW.iconst (dc hd_Se_study 69 rfl) (by decide) ?_
    refine AW.istore_n [(2, v0), (0, 0)] (dc hd_Se_study 70 rfl) (Nat.le_of_ble_eq_true rfl) rfl rfl ?_
    obtain ⟨f_18, h⟩ := h
    exact aB_Se_study_113 n v0 Q f_18 (C, 0) h
  · have h := h.2 c_8
    refine AW.ra_n (dc hd_Se_study 29 rfl) rfl rfl rfl ?_
    refine AW.getp fl_4_15 (dc hd_Se_study 30 rfl) g_6 rfl ?_
    refine AW.iload_n (dc hd_Se_study 31 rfl) rfl ?_
    refine AW.iconst (dc hd_Se_study 32 rfl) (by decide) ?_
    obtain ⟨g_19, h⟩ := h
    obtain ⟨g_20, h⟩ := h
    refine AW.niast (dc hd_Se_study 33 rfl) g_19 g_20 (fun C_21 eC_21 => ?_)
    have h := h C_21 eC_21
    refine AW.ra_n (dc hd_Se_study 34 rfl) rfl rfl rfl ?_
    refine AW.getp fl_4_18 (dc hd_Se_study 35 rfl) g_6 rfl ?_
    refine AW.iload_n (dc hd_Se_study 36 rfl) rfl ?_
    refine AW.iconst (dc hd_Se_study 37 rfl) (by decide) ?_
    obtain ⟨g_22, h⟩ := h
    obtain ⟨g_23, h⟩ := h
    refine AW.niast (dc hd_Se_study 38 rfl) g_22 g_23 (fun C_24 eC_24 => ?_)
    have h := h C_24 eC_24
    refine AW.ra_n (dc hd_Se_study 39 rfl) rfl rfl rfl ?_
    refine AW.getp fl_4_21 (dc hd_Se_study 40 rfl) g_6 rfl ?_
    refine AW.ra_n (dc hd_Se_study 41 rfl) rfl rfl rfl ?_
    refine AW.getp fl_4_40 (dc hd_Se_study 42 rfl) g_6 rfl ?_
    refine AW.getp fl_4_52 (dc hd_Se_study 43 rfl) g_7 rfl ?_
    refine AW.iload_n (dc hd_Se_study 44 rfl) rfl ?_
    obtain ⟨g_25, h⟩ := h
    obtain ⟨g_26, h⟩ := h
    refine AW.iald (dc hd_Se_study 45 rfl) g_25 g_26 ?_
    refine AW.rdup2 (dc hd_Se_study 46 rfl) rfl rfl ?_
    obtain ⟨g_27, h⟩ := h
    obtain ⟨g_28, h⟩ := h
    refine AW.iald (dc hd_Se_study 47 rfl) g_27 g_28 ?_
    refine AW.iconst (dc hd_Se_study 48 rfl) (by decide) ?_
    refine AW.iload_n (dc hd_Se_study 49 rfl) rfl ?_
    refine AW.ishl (dc hd_Se_study 50 rfl) ?_
    refine AW.ior (dc hd_Se_study 51 rfl) ?_
    refine AW.niast (dc hd_Se_study 52 rfl) g_27 g_28 (fun C_29 eC_29 => ?_)
    have h := h C_29 eC_29
    refine AW.ra_n (dc hd_Se_study 53 rfl) rfl rfl rfl ?_
    refine AW.getp fl_4_24 (dc hd_Se_study 54 rfl) g_6 rfl ?_
    refine AW.ra_n (dc hd_Se_study 55 rfl) rfl rfl rfl ?_
    refine AW.getp fl_4_40 (dc hd_Se_study 56 rfl) g_6 rfl ?_
    refine AW.getp fl_4_55 (dc hd_Se_study 57 rfl) g_7 rfl ?_
    refine AW.iload_n (dc hd_Se_study 58 rfl) rfl ?_
    obtain ⟨g_30, h⟩ := h
    obtain ⟨g_31, h⟩ := h
    refine AW.iald (dc hd_Se_study 59 rfl) g_30 g_31 ?_
    refine AW.rdup2 (dc hd_Se_study 60 rfl) rfl rfl ?_
    obtain ⟨g_32, h⟩ := h
    obtain ⟨g_33, h⟩ := h
    refine AW.iald (dc hd_Se_study 61 rfl) g_32 g_33 ?_
    refine AW.iconst (dc hd_Se_study 62 rfl) (by decide) ?_
    refine AW.iload_n (dc hd_Se_study 63 rfl) rfl ?_
    refine AW.ishl (dc hd_Se_study 64 rfl) ?_
    refine AW.ior (dc hd_Se_study 65 rfl) ?_
    refine AW.niast (dc hd_Se_study 66 rfl) g_32 g_33 (fun C_34 eC_34 => ?_)
    have h := h C_34 eC_34
    refine AW.iinc [(2, v0), (0, w32 (v1 + 1))] (dc hd_Se_study 67 rfl) rfl (Nat.le_of_ble_eq_true rfl) rfl rfl ?_
    refine AW.goto (t := 40) (dc hd_Se_study 68 rfl) (by decide) ?_
    exact hkz40 C_34 (w32 (v1 + 1)) h
theorem aB_Se_study_40 (n : Nat) (v0 : Int) (Q : Int → Cn → Prop) : ∀ (f : Nat) (z : Cn × Int), lp (B_Se_study_40 n v0 Q) f z → AW p l e R s m args below meth c E M_Se_study true (fun r C2 n2 => n2 = n ∧ Q r C2) n 0 0 40 [(2, v0), (0, z.2)] [] (z.1) := by
  intro f
  induction f with
  | zero => intro z h; exact False.elim h
  | succ f ih => intro z h; exact bB_Se_study_40 n v0 Q (lp (B_Se_study_40 n v0 Q) f) (fun a0 a1 h => ih (a0, a1) h) z.1 z.2 h
def B_Se_study_7 (n : Nat) (v0 : Int) (Q : Int → Cn → Prop) (kz7 : Cn × Int → Prop) (z : Cn × Int) : Prop := match z with
  | (C, v1) => okO n v0 4 ∧ (okO n (PT v0.toNat 0) 2 ∧ ((C (PT v0.toNat 0).toNat 1 ≤ v1 → (∃ f_35 : Nat, lp (B_Se_study_40 n v0 Q) f_35 (C, 0))) ∧ (¬ C (PT v0.toNat 0).toNat 1 ≤ v1 → (okO n (PT v0.toNat 6) 12 ∧ (okI (PT v0.toNat 6) v1 ∧ (∀ C_38 : Cn, C_38 = wr C (PT v0.toNat 6).toNat v1.toNat 0 → (okO n (PT v0.toNat 7) 12 ∧ (okI (PT v0.toNat 7) v1 ∧ (∀ C_41 : Cn, C_41 = wr C_38 (PT v0.toNat 7).toNat v1.toNat 0 → (kz7 (C_41, w32 (v1 + 1))))))))))))
theorem bB_Se_study_7 (n : Nat) (v0 : Int) (Q : Int → Cn → Prop) (kz7 : Cn × Int → Prop) (hkz7 : ∀ (Cz : Cn) (z1 : Int), kz7 (Cz, z1) → AW p l e R s m args below meth c E M_Se_study true (fun r C2 n2 => n2 = n ∧ Q r C2) n 0 0 7 [(2, v0), (0, z1)] [] Cz) (C : Cn) (v1 : Int) (h : B_Se_study_7 n v0 Q kz7 (C, v1)) : AW p l e R s m args below meth c E M_Se_study true (fun r C2 n2 => n2 = n ∧ Q r C2) n 0 0 7 [(2, v0), (0, v1)] [] C := by
  unfold B_Se_study_7 at h
  dsimp only at h
  refine AW.iload_n (dc hd_Se_study 5 rfl) rfl ?_
  refine AW.ra_n (dc hd_Se_study 6 rfl) rfl rfl rfl ?_
  obtain ⟨g_3, h⟩ := h
  refine AW.getp fl_4_40 (dc hd_Se_study 7 rfl) g_3 rfl ?_
  obtain ⟨g_4, h⟩ := h
  refine AW.getf fl_4_44 (dc hd_Se_study 8 rfl) g_4 ?_
  refine AW.icmp_ge (t := 38) (dc hd_Se_study 9 rfl) (by decide) (fun c_5 => ?_) (fun c_5 => ?_)
  · have h := h.1 c_5
    refine AW.iconst (dc hd_Se_study 22 rfl) (by decide) ?_
    refine AW.istore_n [(2, v0), (0, 0)] (dc hd_Se_study 23 rfl) (Nat.le_of_ble_eq_true rfl) rfl rfl ?_
    obtain ⟨f_35, h⟩ := h
    exact aB_Se_study_40 n v0 Q f_35 (C, 0) h
  · have h := h.2 c_5
    refine AW.ra_n (dc hd_Se_study 10 rfl) rfl rfl rfl ?_
    refine AW.getp fl_4_21 (dc hd_Se_study 11 rfl) g_3 rfl ?_
    refine AW.iload_n (dc hd_Se_study 12 rfl) rfl ?_
    refine AW.iconst (dc hd_Se_study 13 rfl) (by decide) ?_
    obtain ⟨g_36, h⟩ := h
    obtain ⟨g_37, h⟩ := h
    refine AW.niast (dc hd_Se_study 14 rfl) g_36 g_37 (fun C_38 eC_38 => ?_)
    have h := h C_38 eC_38
    refine AW.ra_n (dc hd_Se_study 15 rfl) rfl rfl rfl ?_
    refine AW.getp fl_4_24 (dc hd_Se_study 16 rfl) g_3 rfl ?_
    refine AW.iload_n (dc hd_Se_study 17 rfl) rfl ?_
    refine AW.iconst (dc hd_Se_study 18 rfl) (by decide) ?_
    obtain ⟨g_39, h⟩ := h
    obtain ⟨g_40, h⟩ := h
    refine AW.niast (dc hd_Se_study 19 rfl) g_39 g_40 (fun C_41 eC_41 => ?_)
    have h := h C_41 eC_41
    refine AW.iinc [(2, v0), (0, w32 (v1 + 1))] (dc hd_Se_study 20 rfl) rfl (Nat.le_of_ble_eq_true rfl) rfl rfl ?_
    refine AW.goto (t := 7) (dc hd_Se_study 21 rfl) (by decide) ?_
    exact hkz7 C_41 (w32 (v1 + 1)) h
theorem aB_Se_study_7 (n : Nat) (v0 : Int) (Q : Int → Cn → Prop) : ∀ (f : Nat) (z : Cn × Int), lp (B_Se_study_7 n v0 Q) f z → AW p l e R s m args below meth c E M_Se_study true (fun r C2 n2 => n2 = n ∧ Q r C2) n 0 0 7 [(2, v0), (0, z.2)] [] (z.1) := by
  intro f
  induction f with
  | zero => intro z h; exact False.elim h
  | succ f ih => intro z h; exact bB_Se_study_7 n v0 Q (lp (B_Se_study_7 n v0 Q) f) (fun a0 a1 h => ih (a0, a1) h) z.1 z.2 h
def P_Se_study (n : Nat) (C : Cn) (v0 : Int) (Q : Int → Cn → Prop) : Prop :=
  okO n v0 4 ∧ (∀ C_2 : Cn, C_2 = wr C v0.toNat 11 (-1) → (∃ f_42 : Nat, lp (B_Se_study_7 n v0 Q) f_42 (C_2, 0)))
theorem m_Se_study (l : Launch) (E : Ev) (n : Nat) (C : Cn) (v0 : Int) (Q : Int → Cn → Prop) (h : P_Se_study n C v0 Q) : MA l y_Se_study M_Se_study E true C n [(2, v0)] (fun r C2 n2 => n2 = n ∧ Q r C2) := by
  refine MA.of (by decide) rfl rfl 1 rfl (fun p e s m args below meth c => ?_)
  show AW p l e _ s m args below meth c E M_Se_study true _ n 0 0 0 [(2, v0), (9, 0)] [] C
  unfold P_Se_study at h
  refine AW.ra_n (dc hd_Se_study 0 rfl) rfl rfl rfl ?_
  refine AW.iconst (dc hd_Se_study 1 rfl) (by decide) ?_
  obtain ⟨g_1, h⟩ := h
  refine AW.nputI fl_4_27 (dc hd_Se_study 2 rfl) g_1 (fun C_2 eC_2 => ?_)
  have h := h C_2 eC_2
  refine AW.iconst (dc hd_Se_study 3 rfl) (by decide) ?_
  refine AW.istore_n [(2, v0), (0, 0)] (dc hd_Se_study 4 rfl) (Nat.le_of_ble_eq_true rfl) rfl rfl ?_
  obtain ⟨f_42, h⟩ := h
  exact aB_Se_study_7 n v0 Q f_42 (C_2, 0) h
def J_Se_isOrder_24 (n : Nat) (C : Cn) (s0 : Int) (Q : Int → Prop) : Prop :=
  (s0 = 0 ∨ s0 = 1) ∧ (Q s0)
theorem aJ_Se_isOrder_24 (n : Nat) (C : Cn) (s0 : Int) (Q : Int → Prop) (h : J_Se_isOrder_24 n C s0 Q) : AW p l e R s m args below meth c E M_Se_isOrder true (fun r C2 n2 => C2 = C ∧ n2 = n ∧ Q r) n 0 0 24 [(9, 0), (9, 0)] [(0, s0)] C := by
  unfold J_Se_isOrder_24 at h
  obtain ⟨g_7, h⟩ := h
  exact AW.zret (dc hd_Se_isOrder 12 rfl) rfl rfl (Nat.le_of_ble_eq_true rfl) (Nat.le_of_ble_eq_true rfl) g_7 ⟨rfl, rfl, h⟩
def P_Se_isOrder (n : Nat) (C : Cn) (v0 v1 : Int) (Q : Int → Prop) : Prop :=
  (v1 < 0 → (Q 0)) ∧ (¬ v1 < 0 → (okO n v0 4 ∧ (okO n (PT v0.toNat 0) 2 ∧ (0 ≤ C (PT v0.toNat 0).toNat 0 ∧ (C (PT v0.toNat 0).toNat 0 < SAL 0 ∧ (J_Se_isOrder_24 n C (if ((SAV 0).getD (C (PT v0.toNat 0).toNat 0).toNat 0).toInt ≤ v1 then 0 else 1) Q))))))
theorem m_Se_isOrder (l : Launch) (E : Ev) (n : Nat) (C : Cn) (v0 v1 : Int) (Q : Int → Prop) (h : P_Se_isOrder n C v0 v1 Q) : MA l y_Se_isOrder M_Se_isOrder E true C n [(2, v0), (0, v1)] (fun r C2 n2 => C2 = C ∧ n2 = n ∧ Q r) := by
  refine MA.of (by decide) rfl rfl 0 rfl (fun p e s m args below meth c => ?_)
  show AW p l e _ s m args below meth c E M_Se_isOrder true _ n 0 0 0 [(2, v0), (0, v1)] [] C
  unfold P_Se_isOrder at h
  refine AW.iload_n (dc hd_Se_isOrder 0 rfl) rfl ?_
  refine AW.if_lt (t := 23) (dc hd_Se_isOrder 1 rfl) (by decide) (fun c_1 => ?_) (fun c_1 => ?_)
  · have h := h.1 c_1
    refine AW.iconst (dc hd_Se_isOrder 11 rfl) (by decide) ?_
    exact AW.zret (dc hd_Se_isOrder 12 rfl) rfl rfl (Nat.le_of_ble_eq_true rfl) (Nat.le_of_ble_eq_true rfl) (by decide) ⟨rfl, rfl, h⟩
  · have h := h.2 c_1
    refine AW.iload_n (dc hd_Se_isOrder 2 rfl) rfl ?_
    refine AW.gets (t := 0) gs_4_68 (Or.inl ⟨rfl, rfl, rfl⟩) (dc hd_Se_isOrder 3 rfl) ?_
    refine AW.ra_n (dc hd_Se_isOrder 4 rfl) rfl rfl rfl ?_
    obtain ⟨g_2, h⟩ := h
    refine AW.getp fl_4_40 (dc hd_Se_isOrder 5 rfl) g_2 rfl ?_
    obtain ⟨g_3, h⟩ := h
    refine AW.getf fl_4_49 (dc hd_Se_isOrder 6 rfl) g_3 ?_
    obtain ⟨g_4, h⟩ := h
    obtain ⟨g_5, h⟩ := h
    refine AW.sald (t := 0) (by decide) (dc hd_Se_isOrder 7 rfl) g_4 g_5 ?_
    refine AW.icmp_ge (t := 23) (dc hd_Se_isOrder 8 rfl) (by decide) (fun c_6 => ?_) (fun c_6 => ?_)
    · simp only [if_pos (show ((SAV 0).getD (C (PT v0.toNat 0).toNat 0).toNat 0).toInt ≤ v1 from c_6)] at h
      refine AW.iconst (dc hd_Se_isOrder 11 rfl) (by decide) ?_
      refine AW.fgt [(9, 0), (9, 0)] ⟨.inr rfl, .inr rfl, trivial⟩ ?_
      exact aJ_Se_isOrder_24 n C _ Q h
    · simp only [if_neg (show ¬ (((SAV 0).getD (C (PT v0.toNat 0).toNat 0).toNat 0).toInt ≤ v1) from c_6)] at h
      refine AW.iconst (dc hd_Se_isOrder 9 rfl) (by decide) ?_
      refine AW.goto (t := 24) (dc hd_Se_isOrder 10 rfl) (by decide) ?_
      refine AW.fgt [(9, 0), (9, 0)] ⟨.inr rfl, .inr rfl, trivial⟩ ?_
      exact aJ_Se_isOrder_24 n C _ Q h
def B_Se_memberOf_5 (n : Nat) (C : Cn) (v0 v1 v2 : Int) (Q : Int → Prop) (kz5 : Int × Int → Prop) (z : Int × Int) : Prop := match z with
  | (v3, v4) => okO n v0 4 ∧ (okO n (PT v0.toNat 0) 2 ∧ ((C (PT v0.toNat 0).toNat 0 ≤ v4 → (Q 0)) ∧ (¬ C (PT v0.toNat 0).toNat 0 ≤ v4 → ((and32 (shr32 v1 v4) 1 = 1 → ((v3 = v2 → (Q v4)) ∧ (¬ v3 = v2 → (kz5 (w32 (v3 + 1), w32 (v4 + 1)))))) ∧ (¬ and32 (shr32 v1 v4) 1 = 1 → (kz5 (v3, w32 (v4 + 1))))))))
theorem bB_Se_memberOf_5 (n : Nat) (C : Cn) (v0 v1 v2 : Int) (Q : Int → Prop) (kz5 : Int × Int → Prop) (hkz5 : ∀ (z3 : Int) (z4 : Int), kz5 (z3, z4) → AW p l e R s m args below meth c E M_Se_memberOf true (fun r C2 n2 => C2 = C ∧ n2 = n ∧ Q r) n 0 0 5 [(2, v0), (0, v1), (0, v2), (0, z3), (0, z4)] [] C) (v3 : Int) (v4 : Int) (h : B_Se_memberOf_5 n C v0 v1 v2 Q kz5 (v3, v4)) : AW p l e R s m args below meth c E M_Se_memberOf true (fun r C2 n2 => C2 = C ∧ n2 = n ∧ Q r) n 0 0 5 [(2, v0), (0, v1), (0, v2), (0, v3), (0, v4)] [] C := by
  unfold B_Se_memberOf_5 at h
  dsimp only at h
  refine AW.iload (dc hd_Se_memberOf 4 rfl) rfl ?_
  refine AW.ra_n (dc hd_Se_memberOf 5 rfl) rfl rfl rfl ?_
  obtain ⟨g_1, h⟩ := h
  refine AW.getp fl_4_40 (dc hd_Se_memberOf 6 rfl) g_1 rfl ?_
  obtain ⟨g_2, h⟩ := h
  refine AW.getf fl_4_49 (dc hd_Se_memberOf 7 rfl) g_2 ?_
  refine AW.icmp_ge (t := 44) (dc hd_Se_memberOf 8 rfl) (by decide) (fun c_3 => ?_) (fun c_3 => ?_)
  · have h := h.1 c_3
    refine AW.iconst (dc hd_Se_memberOf 24 rfl) (by decide) ?_
    exact AW.iret (dc hd_Se_memberOf 25 rfl) rfl rfl (Nat.le_of_ble_eq_true rfl) (Nat.le_of_ble_eq_true rfl) ⟨rfl, rfl, h⟩
  · have h := h.2 c_3
    refine AW.iload_n (dc hd_Se_memberOf 9 rfl) rfl ?_
    refine AW.iload (dc hd_Se_memberOf 10 rfl) rfl ?_
    refine AW.ishr (dc hd_Se_memberOf 11 rfl) ?_
    refine AW.iconst (dc hd_Se_memberOf 12 rfl) (by decide) ?_
    refine AW.iand (dc hd_Se_memberOf 13 rfl) ?_
    refine AW.iconst (dc hd_Se_memberOf 14 rfl) (by decide) ?_
    refine AW.icmp_ne (t := 38) (dc hd_Se_memberOf 15 rfl) (by decide) (fun c_4 => ?_) (fun c_4 => ?_)
    · have h := h.2 c_4
      refine AW.iinc [(2, v0), (0, v1), (0, v2), (0, v3), (0, w32 (v4 + 1))] (dc hd_Se_memberOf 22 rfl) rfl (Nat.le_of_ble_eq_true rfl) rfl rfl ?_
      refine AW.goto (t := 5) (dc hd_Se_memberOf 23 rfl) (by decide) ?_
      exact hkz5 v3 (w32 (v4 + 1)) h
    · have h := h.1 c_4
      refine AW.iload_n (dc hd_Se_memberOf 16 rfl) rfl ?_
      refine AW.iload_n (dc hd_Se_memberOf 17 rfl) rfl ?_
      refine AW.icmp_ne (t := 35) (dc hd_Se_memberOf 18 rfl) (by decide) (fun c_5 => ?_) (fun c_5 => ?_)
      · have h := h.2 c_5
        refine AW.iinc [(2, v0), (0, v1), (0, v2), (0, w32 (v3 + 1)), (0, v4)] (dc hd_Se_memberOf 21 rfl) rfl (Nat.le_of_ble_eq_true rfl) rfl rfl ?_
        refine AW.iinc [(2, v0), (0, v1), (0, v2), (0, w32 (v3 + 1)), (0, w32 (v4 + 1))] (dc hd_Se_memberOf 22 rfl) rfl (Nat.le_of_ble_eq_true rfl) rfl rfl ?_
        refine AW.goto (t := 5) (dc hd_Se_memberOf 23 rfl) (by decide) ?_
        exact hkz5 (w32 (v3 + 1)) (w32 (v4 + 1)) h
      · have h := h.1 c_5
        refine AW.iload (dc hd_Se_memberOf 19 rfl) rfl ?_
        exact AW.iret (dc hd_Se_memberOf 20 rfl) rfl rfl (Nat.le_of_ble_eq_true rfl) (Nat.le_of_ble_eq_true rfl) ⟨rfl, rfl, h⟩
theorem aB_Se_memberOf_5 (n : Nat) (C : Cn) (v0 v1 v2 : Int) (Q : Int → Prop) : ∀ (f : Nat) (z : Int × Int), lp (B_Se_memberOf_5 n C v0 v1 v2 Q) f z → AW p l e R s m args below meth c E M_Se_memberOf true (fun r C2 n2 => C2 = C ∧ n2 = n ∧ Q r) n 0 0 5 [(2, v0), (0, v1), (0, v2), (0, z.1), (0, z.2)] [] C := by
  intro f
  induction f with
  | zero => intro z h; exact False.elim h
  | succ f ih => intro z h; exact bB_Se_memberOf_5 n C v0 v1 v2 Q (lp (B_Se_memberOf_5 n C v0 v1 v2 Q) f) (fun a0 a1 h => ih (a0, a1) h) z.1 z.2 h
def P_Se_memberOf (n : Nat) (C : Cn) (v0 v1 v2 : Int) (Q : Int → Prop) : Prop :=
  ∃ f_6 : Nat, lp (B_Se_memberOf_5 n C v0 v1 v2 Q) f_6 (0, 0)
theorem m_Se_memberOf (l : Launch) (E : Ev) (n : Nat) (C : Cn) (v0 v1 v2 : Int) (Q : Int → Prop) (h : P_Se_memberOf n C v0 v1 v2 Q) : MA l y_Se_memberOf M_Se_memberOf E true C n [(2, v0), (0, v1), (0, v2)] (fun r C2 n2 => C2 = C ∧ n2 = n ∧ Q r) := by
  refine MA.of (by decide) rfl rfl 2 rfl (fun p e s m args below meth c => ?_)
  show AW p l e _ s m args below meth c E M_Se_memberOf true _ n 0 0 0 [(2, v0), (0, v1), (0, v2), (9, 0), (9, 0)] [] C
  unfold P_Se_memberOf at h
  refine AW.iconst (dc hd_Se_memberOf 0 rfl) (by decide) ?_
  refine AW.istore_n [(2, v0), (0, v1), (0, v2), (0, 0), (9, 0)] (dc hd_Se_memberOf 1 rfl) (Nat.le_of_ble_eq_true rfl) rfl rfl ?_
  refine AW.iconst (dc hd_Se_memberOf 2 rfl) (by decide) ?_
  refine AW.istore [(2, v0), (0, v1), (0, v2), (0, 0), (0, 0)] (dc hd_Se_memberOf 3 rfl) (Nat.le_of_ble_eq_true rfl) rfl rfl ?_
  obtain ⟨f_6, h⟩ := h
  exact aB_Se_memberOf_5 n C v0 v1 v2 Q f_6 (0, 0) h
def B_Se_takeOrder_17 (n : Nat) (v0 v1 v2 : Int) (Q : Int → Cn → Prop) (kz17 : Cn × Int × Int → Prop) (z : Cn × Int × Int) : Prop := match z with
  | (C, v3, v4) => (v2 ≤ v4 → (Q 0 C)) ∧ (¬ v2 ≤ v4 → (0 ≤ w32 (w32 (v2 - 1) - v4) ∧ (w32 (w32 (v2 - 1) - v4) < SAL 0 ∧ (((SAV 0).getD (w32 (w32 (v2 - 1) - v4)).toNat 0).toInt ≠ 0 ∧ (w32 (v2 - v4) ≠ 0 ∧ (∀ v5_10 : Int, v5_10 = w32 (Int.tmod (w32 (Int.tdiv v1 (((SAV 0).getD (w32 (w32 (v2 - 1) - v4)).toNat 0).toInt))) (w32 (v2 - v4))) → (okO n v0 4 ∧ (P_Se_memberOf n C v0 v3 v5_10 (fun (r_11 : Int) => okO n (PT v0.toNat 1) 12 ∧ (okI (PT v0.toNat 1) v4 ∧ (∀ C_18 : Cn, C_18 = wr C (PT v0.toNat 1).toNat v4.toNat r_11 → (∀ v3_19 : Int, v3_19 = and32 v3 (xor32 (shl32 1 r_11) (-1)) → (kz17 (C_18, v3_19, w32 (v4 + 1)))))))))))))))
theorem bB_Se_takeOrder_17 (n : Nat) (v0 v1 v2 : Int) (Q : Int → Cn → Prop) (kz17 : Cn × Int × Int → Prop) (hkz17 : ∀ (Cz : Cn) (z3 : Int) (z4 : Int), kz17 (Cz, z3, z4) → AW p l e R s m args below meth c E M_Se_takeOrder true (fun r C2 n2 => n2 = n ∧ Q r C2) n 0 0 17 [(2, v0), (0, v1), (0, v2), (0, z3), (0, z4), (9, 0), (9, 0)] [] Cz) (C : Cn) (v3 : Int) (v4 : Int) (h : B_Se_takeOrder_17 n v0 v1 v2 Q kz17 (C, v3, v4)) : AW p l e R s m args below meth c E M_Se_takeOrder true (fun r C2 n2 => n2 = n ∧ Q r C2) n 0 0 17 [(2, v0), (0, v1), (0, v2), (0, v3), (0, v4), (9, 0), (9, 0)] [] C := by
  unfold B_Se_takeOrder_17 at h
  dsimp only at h
  refine AW.iload (dc hd_Se_takeOrder 12 rfl) rfl ?_
  refine AW.iload_n (dc hd_Se_takeOrder 13 rfl) rfl ?_
  refine AW.icmp_ge (t := 75) (dc hd_Se_takeOrder 14 rfl) (by decide) (fun c_5 => ?_) (fun c_5 => ?_)
  · have h := h.1 c_5
    exact AW.vret (dc hd_Se_takeOrder 49 rfl) rfl rfl (Nat.le_of_ble_eq_true rfl) (Nat.le_of_ble_eq_true rfl) ⟨rfl, h⟩
  · have h := h.2 c_5
    refine AW.iload_n (dc hd_Se_takeOrder 15 rfl) rfl ?_
    refine AW.gets (t := 0) gs_4_68 (Or.inl ⟨rfl, rfl, rfl⟩) (dc hd_Se_takeOrder 16 rfl) ?_
    refine AW.iload_n (dc hd_Se_takeOrder 17 rfl) rfl ?_
    refine AW.iconst (dc hd_Se_takeOrder 18 rfl) (by decide) ?_
    refine AW.isub (dc hd_Se_takeOrder 19 rfl) ?_
    refine AW.iload (dc hd_Se_takeOrder 20 rfl) rfl ?_
    refine AW.isub (dc hd_Se_takeOrder 21 rfl) ?_
    obtain ⟨g_6, h⟩ := h
    obtain ⟨g_7, h⟩ := h
    refine AW.sald (t := 0) (by decide) (dc hd_Se_takeOrder 22 rfl) g_6 g_7 ?_
    obtain ⟨g_8, h⟩ := h
    refine AW.idiv (dc hd_Se_takeOrder 23 rfl) g_8 ?_
    refine AW.iload_n (dc hd_Se_takeOrder 24 rfl) rfl ?_
    refine AW.iload (dc hd_Se_takeOrder 25 rfl) rfl ?_
    refine AW.isub (dc hd_Se_takeOrder 26 rfl) ?_
    obtain ⟨g_9, h⟩ := h
    refine AW.irem (dc hd_Se_takeOrder 27 rfl) g_9 ?_
    refine AW.nm (fun v5_10 ev5_10 => ?_)
    have h := h v5_10 ev5_10
    refine AW.istore [(2, v0), (0, v1), (0, v2), (0, v3), (0, v4), (0, v5_10), (9, 0)] (dc hd_Se_takeOrder 28 rfl) (Nat.le_of_ble_eq_true rfl) rfl rfl ?_
    refine AW.ra_n (dc hd_Se_takeOrder 29 rfl) rfl rfl rfl ?_
    refine AW.iload_n (dc hd_Se_takeOrder 30 rfl) rfl ?_
    refine AW.iload (dc hd_Se_takeOrder 31 rfl) rfl ?_
    obtain ⟨g_12, h⟩ := h
    refine AW.callV (As := [(0, v3), (0, v5_10)]) (rest := []) (ci := 4) (m_Se_memberOf l E n C v0 v3 v5_10 _ h) cb_4_71 im_Se_memberOf se_Se_memberOf ⟨_, _, rfl⟩ (by decide) (dc hd_Se_takeOrder 32 rfl) g_12 rfl rfl ⟨Nat.le_of_ble_eq_true rfl, Nat.le_of_ble_eq_true rfl⟩ ⟨(Nat.le_of_ble_eq_true rfl), (Nat.le_of_ble_eq_true rfl)⟩ (Nat.le_of_ble_eq_true rfl) (fun _ h => by cases h) (fun _ => rfl) (fun r_11 D_14 d_15 q_13 => ?_)
    obtain ⟨q_13a, q_13b, h⟩ := q_13
    subst D_14
    subst d_15
    show AW p l e _ s m args below meth c E M_Se_takeOrder true _ n _ _ _ [(2, v0), (0, v1), (0, v2), (0, v3), (0, v4), (0, v5_10), (9, 0)] [(0, r_11)] C
    refine AW.istore [(2, v0), (0, v1), (0, v2), (0, v3), (0, v4), (0, v5_10), (0, r_11)] (dc hd_Se_takeOrder 33 rfl) (Nat.le_of_ble_eq_true rfl) rfl rfl ?_
    refine AW.ra_n (dc hd_Se_takeOrder 34 rfl) rfl rfl rfl ?_
    refine AW.getp fl_4_9 (dc hd_Se_takeOrder 35 rfl) g_12 rfl ?_
    refine AW.iload (dc hd_Se_takeOrder 36 rfl) rfl ?_
    refine AW.iload (dc hd_Se_takeOrder 37 rfl) rfl ?_
    obtain ⟨g_16, h⟩ := h
    obtain ⟨g_17, h⟩ := h
    refine AW.niast (dc hd_Se_takeOrder 38 rfl) g_16 g_17 (fun C_18 eC_18 => ?_)
    have h := h C_18 eC_18
    refine AW.iload_n (dc hd_Se_takeOrder 39 rfl) rfl ?_
    refine AW.iconst (dc hd_Se_takeOrder 40 rfl) (by decide) ?_
    refine AW.iload (dc hd_Se_takeOrder 41 rfl) rfl ?_
    refine AW.ishl (dc hd_Se_takeOrder 42 rfl) ?_
    refine AW.iconst (dc hd_Se_takeOrder 43 rfl) (by decide) ?_
    refine AW.ixor (dc hd_Se_takeOrder 44 rfl) ?_
    refine AW.iand (dc hd_Se_takeOrder 45 rfl) ?_
    refine AW.nm (fun v3_19 ev3_19 => ?_)
    have h := h v3_19 ev3_19
    refine AW.istore_n [(2, v0), (0, v1), (0, v2), (0, v3_19), (0, v4), (0, v5_10), (0, r_11)] (dc hd_Se_takeOrder 46 rfl) (Nat.le_of_ble_eq_true rfl) rfl rfl ?_
    refine AW.iinc [(2, v0), (0, v1), (0, v2), (0, v3_19), (0, w32 (v4 + 1)), (0, v5_10), (0, r_11)] (dc hd_Se_takeOrder 47 rfl) rfl (Nat.le_of_ble_eq_true rfl) rfl rfl ?_
    refine AW.goto (t := 17) (dc hd_Se_takeOrder 48 rfl) (by decide) ?_
    refine AW.fgt [(2, v0), (0, v1), (0, v2), (0, v3_19), (0, w32 (v4 + 1)), (9, 0), (9, 0)] ⟨.inl rfl, .inl rfl, .inl rfl, .inl rfl, .inl rfl, .inr rfl, .inr rfl, trivial⟩ ?_
    exact hkz17 C_18 v3_19 (w32 (v4 + 1)) h
theorem aB_Se_takeOrder_17 (n : Nat) (v0 v1 v2 : Int) (Q : Int → Cn → Prop) : ∀ (f : Nat) (z : Cn × Int × Int), lp (B_Se_takeOrder_17 n v0 v1 v2 Q) f z → AW p l e R s m args below meth c E M_Se_takeOrder true (fun r C2 n2 => n2 = n ∧ Q r C2) n 0 0 17 [(2, v0), (0, v1), (0, v2), (0, z.2.1), (0, z.2.2), (9, 0), (9, 0)] [] (z.1) := by
  intro f
  induction f with
  | zero => intro z h; exact False.elim h
  | succ f ih => intro z h; exact bB_Se_takeOrder_17 n v0 v1 v2 Q (lp (B_Se_takeOrder_17 n v0 v1 v2 Q) f) (fun a0 a1 a2 h => ih (a0, a1, a2) h) z.1 z.2.1 z.2.2 h
def P_Se_takeOrder (n : Nat) (C : Cn) (v0 v1 : Int) (Q : Int → Cn → Prop) : Prop :=
  okO n v0 4 ∧ (okO n (PT v0.toNat 0) 2 ∧ (∀ v2_3 : Int, v2_3 = C (PT v0.toNat 0).toNat 0 → (∀ v3_4 : Int, v3_4 = w32 (shl32 1 v2_3 - 1) → (∃ f_20 : Nat, lp (B_Se_takeOrder_17 n v0 v1 v2_3 Q) f_20 (C, v3_4, 0)))))
theorem m_Se_takeOrder (l : Launch) (E : Ev) (n : Nat) (C : Cn) (v0 v1 : Int) (Q : Int → Cn → Prop) (h : P_Se_takeOrder n C v0 v1 Q) : MA l y_Se_takeOrder M_Se_takeOrder E true C n [(2, v0), (0, v1)] (fun r C2 n2 => n2 = n ∧ Q r C2) := by
  refine MA.of (by decide) rfl rfl 5 rfl (fun p e s m args below meth c => ?_)
  show AW p l e _ s m args below meth c E M_Se_takeOrder true _ n 0 0 0 [(2, v0), (0, v1), (9, 0), (9, 0), (9, 0), (9, 0), (9, 0)] [] C
  unfold P_Se_takeOrder at h
  refine AW.ra_n (dc hd_Se_takeOrder 0 rfl) rfl rfl rfl ?_
  obtain ⟨g_1, h⟩ := h
  refine AW.getp fl_4_40 (dc hd_Se_takeOrder 1 rfl) g_1 rfl ?_
  obtain ⟨g_2, h⟩ := h
  refine AW.getf fl_4_49 (dc hd_Se_takeOrder 2 rfl) g_2 ?_
  refine AW.nm (fun v2_3 ev2_3 => ?_)
  have h := h v2_3 ev2_3
  refine AW.istore_n [(2, v0), (0, v1), (0, v2_3), (9, 0), (9, 0), (9, 0), (9, 0)] (dc hd_Se_takeOrder 3 rfl) (Nat.le_of_ble_eq_true rfl) rfl rfl ?_
  refine AW.iconst (dc hd_Se_takeOrder 4 rfl) (by decide) ?_
  refine AW.iload_n (dc hd_Se_takeOrder 5 rfl) rfl ?_
  refine AW.ishl (dc hd_Se_takeOrder 6 rfl) ?_
  refine AW.iconst (dc hd_Se_takeOrder 7 rfl) (by decide) ?_
  refine AW.isub (dc hd_Se_takeOrder 8 rfl) ?_
  refine AW.nm (fun v3_4 ev3_4 => ?_)
  have h := h v3_4 ev3_4
  refine AW.istore_n [(2, v0), (0, v1), (0, v2_3), (0, v3_4), (9, 0), (9, 0), (9, 0)] (dc hd_Se_takeOrder 9 rfl) (Nat.le_of_ble_eq_true rfl) rfl rfl ?_
  refine AW.iconst (dc hd_Se_takeOrder 10 rfl) (by decide) ?_
  refine AW.istore [(2, v0), (0, v1), (0, v2_3), (0, v3_4), (0, 0), (9, 0), (9, 0)] (dc hd_Se_takeOrder 11 rfl) (Nat.le_of_ble_eq_true rfl) rfl rfl ?_
  obtain ⟨f_20, h⟩ := h
  exact aB_Se_takeOrder_17 n v0 v1 v2_3 Q f_20 (C, v3_4, 0) h
def J_Se_findGap_368 (n : Nat) (C : Cn) (Q : Int → Cn → Prop) : Prop :=
  Q 0 C
theorem aJ_Se_findGap_368 (n : Nat) (C : Cn) (Q : Int → Cn → Prop) (h : J_Se_findGap_368 n C Q) : AW p l e R s m args below meth c E M_Se_findGap true (fun r C2 n2 => n2 = n ∧ Q r C2) n 0 0 368 [(9, 0), (9, 0), (9, 0), (9, 0), (9, 0), (9, 0), (9, 0), (9, 0), (9, 0), (9, 0), (9, 0)] [] C := by
  unfold J_Se_findGap_368 at h
  exact AW.vret (dc hd_Se_findGap 197 rfl) rfl rfl (Nat.le_of_ble_eq_true rfl) (Nat.le_of_ble_eq_true rfl) ⟨rfl, h⟩
def B_Se_findGap_331 (n : Nat) (v0 v9 v10 : Int) (Q : Int → Cn → Prop) (kz331 : Cn → Prop) (C : Cn) : Prop :=
  okO n v0 4 ∧ ((v9 ≤ C v0.toNat 9 → (J_Se_findGap_368 n C Q)) ∧ (¬ v9 ≤ C v0.toNat 9 → (okO n (PT v0.toNat 6) 12 ∧ (okI (PT v0.toNat 6) (C v0.toNat 9) ∧ ((and32 (C (PT v0.toNat 6).toNat (C v0.toNat 9).toNat) v10 = 0 → (∀ C_34 : Cn, C_34 = wr C v0.toNat 9 (w32 (C v0.toNat 9 + 1)) → (kz331 C_34))) ∧ (¬ and32 (C (PT v0.toNat 6).toNat (C v0.toNat 9).toNat) v10 = 0 → (J_Se_findGap_368 n C Q)))))))
theorem bB_Se_findGap_331 (n : Nat) (v0 v9 v10 : Int) (Q : Int → Cn → Prop) (kz331 : Cn → Prop) (hkz331 : ∀ (Cz : Cn), kz331 Cz → AW p l e R s m args below meth c E M_Se_findGap true (fun r C2 n2 => n2 = n ∧ Q r C2) n 0 0 331 [(2, v0), (9, 0), (9, 0), (9, 0), (9, 0), (9, 0), (9, 0), (9, 0), (9, 0), (0, v9), (0, v10)] [] Cz) (C : Cn) (h : B_Se_findGap_331 n v0 v9 v10 Q kz331 C) : AW p l e R s m args below meth c E M_Se_findGap true (fun r C2 n2 => n2 = n ∧ Q r C2) n 0 0 331 [(2, v0), (9, 0), (9, 0), (9, 0), (9, 0), (9, 0), (9, 0), (9, 0), (9, 0), (0, v9), (0, v10)] [] C := by
  unfold B_Se_findGap_331 at h
  refine AW.ra_n (dc hd_Se_findGap 178 rfl) rfl rfl rfl ?_
  obtain ⟨g_29, h⟩ := h
  refine AW.getf fl_4_114 (dc hd_Se_findGap 179 rfl) g_29 ?_
  refine AW.iload (dc hd_Se_findGap 180 rfl) rfl ?_
  refine AW.icmp_ge (t := 368) (dc hd_Se_findGap 181 rfl) (by decide) (fun c_30 => ?_) (fun c_30 => ?_)
  · have h := h.1 c_30
    refine AW.fgt [(9, 0), (9, 0), (9, 0), (9, 0), (9, 0), (9, 0), (9, 0), (9, 0), (9, 0), (9, 0), (9, 0)] ⟨.inr rfl, .inl rfl, .inl rfl, .inl rfl, .inl rfl, .inl rfl, .inl rfl, .inl rfl, .inl rfl, .inr rfl, .inr rfl, trivial⟩ ?_
    exact aJ_Se_findGap_368 n C Q h
  · have h := h.2 c_30
    refine AW.ra_n (dc hd_Se_findGap 182 rfl) rfl rfl rfl ?_
    refine AW.getp fl_4_21 (dc hd_Se_findGap 183 rfl) g_29 rfl ?_
    refine AW.ra_n (dc hd_Se_findGap 184 rfl) rfl rfl rfl ?_
    refine AW.getf fl_4_114 (dc hd_Se_findGap 185 rfl) g_29 ?_
    obtain ⟨g_31, h⟩ := h
    obtain ⟨g_32, h⟩ := h
    refine AW.iald (dc hd_Se_findGap 186 rfl) g_31 g_32 ?_
    refine AW.iload (dc hd_Se_findGap 187 rfl) rfl ?_
    refine AW.iand (dc hd_Se_findGap 188 rfl) ?_
    refine AW.if_ne (t := 368) (dc hd_Se_findGap 189 rfl) (by decide) (fun c_33 => ?_) (fun c_33 => ?_)
    · have h := h.2 c_33
      refine AW.fgt [(9, 0), (9, 0), (9, 0), (9, 0), (9, 0), (9, 0), (9, 0), (9, 0), (9, 0), (9, 0), (9, 0)] ⟨.inr rfl, .inl rfl, .inl rfl, .inl rfl, .inl rfl, .inl rfl, .inl rfl, .inl rfl, .inl rfl, .inr rfl, .inr rfl, trivial⟩ ?_
      exact aJ_Se_findGap_368 n C Q h
    · have h := h.1 c_33
      refine AW.ra_n (dc hd_Se_findGap 190 rfl) rfl rfl rfl ?_
      refine AW.rdup (dc hd_Se_findGap 191 rfl) rfl ?_
      refine AW.getf fl_4_114 (dc hd_Se_findGap 192 rfl) g_29 ?_
      refine AW.iconst (dc hd_Se_findGap 193 rfl) (by decide) ?_
      refine AW.iadd (dc hd_Se_findGap 194 rfl) ?_
      refine AW.nputI fl_4_114 (dc hd_Se_findGap 195 rfl) g_29 (fun C_34 eC_34 => ?_)
      have h := h C_34 eC_34
      refine AW.goto (t := 331) (dc hd_Se_findGap 196 rfl) (by decide) ?_
      exact hkz331 C_34 h
theorem aB_Se_findGap_331 (n : Nat) (v0 v9 v10 : Int) (Q : Int → Cn → Prop) : ∀ (f : Nat) (z : Cn), lp (B_Se_findGap_331 n v0 v9 v10 Q) f z → AW p l e R s m args below meth c E M_Se_findGap true (fun r C2 n2 => n2 = n ∧ Q r C2) n 0 0 331 [(2, v0), (9, 0), (9, 0), (9, 0), (9, 0), (9, 0), (9, 0), (9, 0), (9, 0), (0, v9), (0, v10)] [] z := by
  intro f
  induction f with
  | zero => intro z h; exact False.elim h
  | succ f ih => intro z h; exact bB_Se_findGap_331 n v0 v9 v10 Q (lp (B_Se_findGap_331 n v0 v9 v10 Q) f) (fun a0 h => ih a0 h) z h
def J_Se_findGap_326 (n : Nat) (C : Cn) (v0 v3 v9 v10 : Int) (Q : Int → Cn → Prop) : Prop :=
  okO n v0 4 ∧ (∀ C_28 : Cn, C_28 = wr C v0.toNat 9 v3 → (∃ f_35 : Nat, lp (B_Se_findGap_331 n v0 v9 v10 Q) f_35 C_28))
theorem aJ_Se_findGap_326 (n : Nat) (C : Cn) (v0 v3 v9 v10 : Int) (Q : Int → Cn → Prop) (h : J_Se_findGap_326 n C v0 v3 v9 v10 Q) : AW p l e R s m args below meth c E M_Se_findGap true (fun r C2 n2 => n2 = n ∧ Q r C2) n 0 0 326 [(2, v0), (9, 0), (9, 0), (0, v3), (9, 0), (9, 0), (9, 0), (9, 0), (9, 0), (0, v9), (0, v10)] [] C := by
  unfold J_Se_findGap_326 at h
  refine AW.ra_n (dc hd_Se_findGap 175 rfl) rfl rfl rfl ?_
  refine AW.iload_n (dc hd_Se_findGap 176 rfl) rfl ?_
  obtain ⟨g_27, h⟩ := h
  refine AW.nputI fl_4_114 (dc hd_Se_findGap 177 rfl) g_27 (fun C_28 eC_28 => ?_)
  have h := h C_28 eC_28
  obtain ⟨f_35, h⟩ := h
  refine AW.fgt [(2, v0), (9, 0), (9, 0), (9, 0), (9, 0), (9, 0), (9, 0), (9, 0), (9, 0), (0, v9), (0, v10)] ⟨.inl rfl, .inl rfl, .inl rfl, .inr rfl, .inl rfl, .inl rfl, .inl rfl, .inl rfl, .inl rfl, .inl rfl, .inl rfl, trivial⟩ ?_
  exact aB_Se_findGap_331 n v0 v9 v10 Q f_35 C_28 h
def B_Se_findGap_287 (n : Nat) (v0 v3 v8 v9 v10 : Int) (Q : Int → Cn → Prop) (kz287 : Cn → Prop) (C : Cn) : Prop :=
  okO n v0 4 ∧ ((C v0.toNat 8 ≤ v8 → (J_Se_findGap_326 n C v0 v3 v9 v10 Q)) ∧ (¬ C v0.toNat 8 ≤ v8 → (okO n (PT v0.toNat 7) 12 ∧ (okI (PT v0.toNat 7) (w32 (C v0.toNat 8 - 1)) ∧ ((and32 (C (PT v0.toNat 7).toNat (w32 (C v0.toNat 8 - 1)).toNat) v10 = 0 → (∀ C_39 : Cn, C_39 = wr C v0.toNat 8 (w32 (C v0.toNat 8 - 1)) → (kz287 C_39))) ∧ (¬ and32 (C (PT v0.toNat 7).toNat (w32 (C v0.toNat 8 - 1)).toNat) v10 = 0 → (J_Se_findGap_326 n C v0 v3 v9 v10 Q)))))))
theorem bB_Se_findGap_287 (n : Nat) (v0 v3 v8 v9 v10 : Int) (Q : Int → Cn → Prop) (kz287 : Cn → Prop) (hkz287 : ∀ (Cz : Cn), kz287 Cz → AW p l e R s m args below meth c E M_Se_findGap true (fun r C2 n2 => n2 = n ∧ Q r C2) n 0 0 287 [(2, v0), (9, 0), (9, 0), (0, v3), (9, 0), (9, 0), (9, 0), (9, 0), (0, v8), (0, v9), (0, v10)] [] Cz) (C : Cn) (h : B_Se_findGap_287 n v0 v3 v8 v9 v10 Q kz287 C) : AW p l e R s m args below meth c E M_Se_findGap true (fun r C2 n2 => n2 = n ∧ Q r C2) n 0 0 287 [(2, v0), (9, 0), (9, 0), (0, v3), (9, 0), (9, 0), (9, 0), (9, 0), (0, v8), (0, v9), (0, v10)] [] C := by
  unfold B_Se_findGap_287 at h
  refine AW.ra_n (dc hd_Se_findGap 154 rfl) rfl rfl rfl ?_
  obtain ⟨g_25, h⟩ := h
  refine AW.getf fl_4_111 (dc hd_Se_findGap 155 rfl) g_25 ?_
  refine AW.iload (dc hd_Se_findGap 156 rfl) rfl ?_
  refine AW.icmp_le (t := 326) (dc hd_Se_findGap 157 rfl) (by decide) (fun c_26 => ?_) (fun c_26 => ?_)
  · have h := h.1 c_26
    refine AW.fgt [(2, v0), (9, 0), (9, 0), (0, v3), (9, 0), (9, 0), (9, 0), (9, 0), (9, 0), (0, v9), (0, v10)] ⟨.inl rfl, .inl rfl, .inl rfl, .inl rfl, .inl rfl, .inl rfl, .inl rfl, .inl rfl, .inr rfl, .inl rfl, .inl rfl, trivial⟩ ?_
    exact aJ_Se_findGap_326 n C v0 v3 v9 v10 Q h
  · have h := h.2 c_26
    refine AW.ra_n (dc hd_Se_findGap 158 rfl) rfl rfl rfl ?_
    refine AW.getp fl_4_24 (dc hd_Se_findGap 159 rfl) g_25 rfl ?_
    refine AW.ra_n (dc hd_Se_findGap 160 rfl) rfl rfl rfl ?_
    refine AW.getf fl_4_111 (dc hd_Se_findGap 161 rfl) g_25 ?_
    refine AW.iconst (dc hd_Se_findGap 162 rfl) (by decide) ?_
    refine AW.isub (dc hd_Se_findGap 163 rfl) ?_
    obtain ⟨g_36, h⟩ := h
    obtain ⟨g_37, h⟩ := h
    refine AW.iald (dc hd_Se_findGap 164 rfl) g_36 g_37 ?_
    refine AW.iload (dc hd_Se_findGap 165 rfl) rfl ?_
    refine AW.iand (dc hd_Se_findGap 166 rfl) ?_
    refine AW.if_ne (t := 326) (dc hd_Se_findGap 167 rfl) (by decide) (fun c_38 => ?_) (fun c_38 => ?_)
    · have h := h.2 c_38
      refine AW.fgt [(2, v0), (9, 0), (9, 0), (0, v3), (9, 0), (9, 0), (9, 0), (9, 0), (9, 0), (0, v9), (0, v10)] ⟨.inl rfl, .inl rfl, .inl rfl, .inl rfl, .inl rfl, .inl rfl, .inl rfl, .inl rfl, .inr rfl, .inl rfl, .inl rfl, trivial⟩ ?_
      exact aJ_Se_findGap_326 n C v0 v3 v9 v10 Q h
    · have h := h.1 c_38
      refine AW.ra_n (dc hd_Se_findGap 168 rfl) rfl rfl rfl ?_
      refine AW.rdup (dc hd_Se_findGap 169 rfl) rfl ?_
      refine AW.getf fl_4_111 (dc hd_Se_findGap 170 rfl) g_25 ?_
      refine AW.iconst (dc hd_Se_findGap 171 rfl) (by decide) ?_
      refine AW.isub (dc hd_Se_findGap 172 rfl) ?_
      refine AW.nputI fl_4_111 (dc hd_Se_findGap 173 rfl) g_25 (fun C_39 eC_39 => ?_)
      have h := h C_39 eC_39
      refine AW.goto (t := 287) (dc hd_Se_findGap 174 rfl) (by decide) ?_
      exact hkz287 C_39 h
theorem aB_Se_findGap_287 (n : Nat) (v0 v3 v8 v9 v10 : Int) (Q : Int → Cn → Prop) : ∀ (f : Nat) (z : Cn), lp (B_Se_findGap_287 n v0 v3 v8 v9 v10 Q) f z → AW p l e R s m args below meth c E M_Se_findGap true (fun r C2 n2 => n2 = n ∧ Q r C2) n 0 0 287 [(2, v0), (9, 0), (9, 0), (0, v3), (9, 0), (9, 0), (9, 0), (9, 0), (0, v8), (0, v9), (0, v10)] [] z := by
  intro f
  induction f with
  | zero => intro z h; exact False.elim h
  | succ f ih => intro z h; exact bB_Se_findGap_287 n v0 v3 v8 v9 v10 Q (lp (B_Se_findGap_287 n v0 v3 v8 v9 v10 Q) f) (fun a0 h => ih a0 h) z h
def J_Se_findGap_274 (n : Nat) (C : Cn) (v0 v1 v3 v8 v9 : Int) (Q : Int → Cn → Prop) : Prop :=
  okO n v0 4 ∧ (∀ v10_23 : Int, v10_23 = and32 (C v0.toNat 10) v1 → (∀ C_24 : Cn, C_24 = wr C v0.toNat 8 v3 → (∃ f_40 : Nat, lp (B_Se_findGap_287 n v0 v3 v8 v9 v10_23 Q) f_40 C_24)))
theorem aJ_Se_findGap_274 (n : Nat) (C : Cn) (v0 v1 v3 v8 v9 : Int) (Q : Int → Cn → Prop) (h : J_Se_findGap_274 n C v0 v1 v3 v8 v9 Q) : AW p l e R s m args below meth c E M_Se_findGap true (fun r C2 n2 => n2 = n ∧ Q r C2) n 0 0 274 [(2, v0), (0, v1), (9, 0), (0, v3), (9, 0), (9, 0), (9, 0), (9, 0), (0, v8), (0, v9), (9, 0)] [] C := by
  unfold J_Se_findGap_274 at h
  refine AW.ra_n (dc hd_Se_findGap 146 rfl) rfl rfl rfl ?_
  obtain ⟨g_22, h⟩ := h
  refine AW.getf fl_4_105 (dc hd_Se_findGap 147 rfl) g_22 ?_
  refine AW.iload_n (dc hd_Se_findGap 148 rfl) rfl ?_
  refine AW.iand (dc hd_Se_findGap 149 rfl) ?_
  refine AW.nm (fun v10_23 ev10_23 => ?_)
  have h := h v10_23 ev10_23
  refine AW.istore [(2, v0), (0, v1), (9, 0), (0, v3), (9, 0), (9, 0), (9, 0), (9, 0), (0, v8), (0, v9), (0, v10_23)] (dc hd_Se_findGap 150 rfl) (Nat.le_of_ble_eq_true rfl) rfl rfl ?_
  refine AW.ra_n (dc hd_Se_findGap 151 rfl) rfl rfl rfl ?_
  refine AW.iload_n (dc hd_Se_findGap 152 rfl) rfl ?_
  refine AW.nputI fl_4_111 (dc hd_Se_findGap 153 rfl) g_22 (fun C_24 eC_24 => ?_)
  have h := h C_24 eC_24
  obtain ⟨f_40, h⟩ := h
  refine AW.fgt [(2, v0), (9, 0), (9, 0), (0, v3), (9, 0), (9, 0), (9, 0), (9, 0), (0, v8), (0, v9), (0, v10_23)] ⟨.inl rfl, .inr rfl, .inl rfl, .inl rfl, .inl rfl, .inl rfl, .inl rfl, .inl rfl, .inl rfl, .inl rfl, .inl rfl, trivial⟩ ?_
  exact aB_Se_findGap_287 n v0 v3 v8 v9 v10_23 Q f_40 C_24 h
def J_Se_findGap_217 (n : Nat) (C : Cn) (v0 v1 v3 v7 v8 v9 : Int) (Q : Int → Cn → Prop) : Prop :=
  (v7 < 0 → (J_Se_findGap_274 n C v0 v1 v3 v8 v9 Q)) ∧ (¬ v7 < 0 → (okO n v0 4 ∧ (okO n (PT v0.toNat 5) 12 ∧ (okI (PT v0.toNat 5) v7 ∧ (∀ C_44 : Cn, C_44 = wr C v0.toNat 10 (and32 (C v0.toNat 10) (C (PT v0.toNat 5).toNat v7.toNat)) → (okO n (PT v0.toNat 0) 2 ∧ (okO n (PT (PT v0.toNat 0).toNat 4) 12 ∧ (okI (PT (PT v0.toNat 0).toNat 4) v7 ∧ (∀ v8_48 : Int, v8_48 = imax v8 (w32 (C_44 (PT (PT v0.toNat 0).toNat 4).toNat v7.toNat + 1)) → (okO n (PT (PT v0.toNat 0).toNat 5) 12 ∧ (okI (PT (PT v0.toNat 0).toNat 5) v7 ∧ (∀ v9_51 : Int, v9_51 = imin v9 (C_44 (PT (PT v0.toNat 0).toNat 5).toNat v7.toNat) → (J_Se_findGap_274 n C_44 v0 v1 v3 v8_48 v9_51 Q)))))))))))))
theorem aJ_Se_findGap_217 (n : Nat) (C : Cn) (v0 v1 v3 v7 v8 v9 : Int) (Q : Int → Cn → Prop) (h : J_Se_findGap_217 n C v0 v1 v3 v7 v8 v9 Q) : AW p l e R s m args below meth c E M_Se_findGap true (fun r C2 n2 => n2 = n ∧ Q r C2) n 0 0 217 [(2, v0), (0, v1), (9, 0), (0, v3), (9, 0), (9, 0), (9, 0), (0, v7), (0, v8), (0, v9), (9, 0)] [] C := by
  unfold J_Se_findGap_217 at h
  refine AW.iload (dc hd_Se_findGap 117 rfl) rfl ?_
  refine AW.if_lt (t := 274) (dc hd_Se_findGap 118 rfl) (by decide) (fun c_21 => ?_) (fun c_21 => ?_)
  · have h := h.1 c_21
    refine AW.fgt [(2, v0), (0, v1), (9, 0), (0, v3), (9, 0), (9, 0), (9, 0), (9, 0), (0, v8), (0, v9), (9, 0)] ⟨.inl rfl, .inl rfl, .inl rfl, .inl rfl, .inl rfl, .inl rfl, .inl rfl, .inr rfl, .inl rfl, .inl rfl, .inl rfl, trivial⟩ ?_
    exact aJ_Se_findGap_274 n C v0 v1 v3 v8 v9 Q h
  · have h := h.2 c_21
    refine AW.ra_n (dc hd_Se_findGap 119 rfl) rfl rfl rfl ?_
    refine AW.rdup (dc hd_Se_findGap 120 rfl) rfl ?_
    obtain ⟨g_41, h⟩ := h
    refine AW.getf fl_4_105 (dc hd_Se_findGap 121 rfl) g_41 ?_
    refine AW.ra_n (dc hd_Se_findGap 122 rfl) rfl rfl rfl ?_
    refine AW.getp fl_4_18 (dc hd_Se_findGap 123 rfl) g_41 rfl ?_
    refine AW.iload (dc hd_Se_findGap 124 rfl) rfl ?_
    obtain ⟨g_42, h⟩ := h
    obtain ⟨g_43, h⟩ := h
    refine AW.iald (dc hd_Se_findGap 125 rfl) g_42 g_43 ?_
    refine AW.iand (dc hd_Se_findGap 126 rfl) ?_
    refine AW.nputI fl_4_105 (dc hd_Se_findGap 127 rfl) g_41 (fun C_44 eC_44 => ?_)
    have h := h C_44 eC_44
    refine AW.iload (dc hd_Se_findGap 128 rfl) rfl ?_
    refine AW.ra_n (dc hd_Se_findGap 129 rfl) rfl rfl rfl ?_
    refine AW.getp fl_4_40 (dc hd_Se_findGap 130 rfl) g_41 rfl ?_
    obtain ⟨g_45, h⟩ := h
    refine AW.getp fl_4_52 (dc hd_Se_findGap 131 rfl) g_45 rfl ?_
    refine AW.iload (dc hd_Se_findGap 132 rfl) rfl ?_
    obtain ⟨g_46, h⟩ := h
    obtain ⟨g_47, h⟩ := h
    refine AW.iald (dc hd_Se_findGap 133 rfl) g_46 g_47 ?_
    refine AW.iconst (dc hd_Se_findGap 134 rfl) (by decide) ?_
    refine AW.iadd (dc hd_Se_findGap 135 rfl) ?_
    refine AW.mmax (dc hd_Se_findGap 136 rfl) mt_4_97 (Nat.le_of_ble_eq_true rfl) (Nat.le_of_ble_eq_true rfl) (Nat.le_of_ble_eq_true rfl) (Nat.le_of_ble_eq_true rfl) (Nat.le_of_ble_eq_true rfl) ?_
    refine AW.nm (fun v8_48 ev8_48 => ?_)
    have h := h v8_48 ev8_48
    refine AW.istore [(2, v0), (0, v1), (9, 0), (0, v3), (9, 0), (9, 0), (9, 0), (0, v7), (0, v8_48), (0, v9), (9, 0)] (dc hd_Se_findGap 137 rfl) (Nat.le_of_ble_eq_true rfl) rfl rfl ?_
    refine AW.iload (dc hd_Se_findGap 138 rfl) rfl ?_
    refine AW.ra_n (dc hd_Se_findGap 139 rfl) rfl rfl rfl ?_
    refine AW.getp fl_4_40 (dc hd_Se_findGap 140 rfl) g_41 rfl ?_
    refine AW.getp fl_4_55 (dc hd_Se_findGap 141 rfl) g_45 rfl ?_
    refine AW.iload (dc hd_Se_findGap 142 rfl) rfl ?_
    obtain ⟨g_49, h⟩ := h
    obtain ⟨g_50, h⟩ := h
    refine AW.iald (dc hd_Se_findGap 143 rfl) g_49 g_50 ?_
    refine AW.mmin (dc hd_Se_findGap 144 rfl) mt_4_108 (Nat.le_of_ble_eq_true rfl) (Nat.le_of_ble_eq_true rfl) (Nat.le_of_ble_eq_true rfl) (Nat.le_of_ble_eq_true rfl) (Nat.le_of_ble_eq_true rfl) ?_
    refine AW.nm (fun v9_51 ev9_51 => ?_)
    have h := h v9_51 ev9_51
    refine AW.istore [(2, v0), (0, v1), (9, 0), (0, v3), (9, 0), (9, 0), (9, 0), (0, v7), (0, v8_48), (0, v9_51), (9, 0)] (dc hd_Se_findGap 145 rfl) (Nat.le_of_ble_eq_true rfl) rfl rfl ?_
    refine AW.fgt [(2, v0), (0, v1), (9, 0), (0, v3), (9, 0), (9, 0), (9, 0), (9, 0), (0, v8_48), (0, v9_51), (9, 0)] ⟨.inl rfl, .inl rfl, .inl rfl, .inl rfl, .inl rfl, .inl rfl, .inl rfl, .inr rfl, .inl rfl, .inl rfl, .inl rfl, trivial⟩ ?_
    exact aJ_Se_findGap_274 n C_44 v0 v1 v3 v8_48 v9_51 Q h
def J_Se_findGap_152 (n : Nat) (C : Cn) (v0 v1 v3 v6 v7 : Int) (Q : Int → Cn → Prop) : Prop :=
  okO n v0 4 ∧ (∀ C_16 : Cn, C_16 = wr C v0.toNat 10 63 → (okO n (PT v0.toNat 0) 2 ∧ (∀ v9_18 : Int, v9_18 = C_16 (PT v0.toNat 0).toNat 1 → ((v6 < 0 → (J_Se_findGap_217 n C_16 v0 v1 v3 v7 0 v9_18 Q)) ∧ (¬ v6 < 0 → (okO n (PT v0.toNat 4) 12 ∧ (okI (PT v0.toNat 4) v6 ∧ (∀ C_54 : Cn, C_54 = wr C_16 v0.toNat 10 (and32 (C_16 v0.toNat 10) (C_16 (PT v0.toNat 4).toNat v6.toNat)) → (okO n (PT (PT v0.toNat 0).toNat 4) 12 ∧ (okI (PT (PT v0.toNat 0).toNat 4) v6 ∧ (∀ v8_57 : Int, v8_57 = w32 (C_54 (PT (PT v0.toNat 0).toNat 4).toNat v6.toNat + 1) → (okO n (PT (PT v0.toNat 0).toNat 5) 12 ∧ (okI (PT (PT v0.toNat 0).toNat 5) v6 ∧ (∀ v9_60 : Int, v9_60 = C_54 (PT (PT v0.toNat 0).toNat 5).toNat v6.toNat → (J_Se_findGap_217 n C_54 v0 v1 v3 v7 v8_57 v9_60 Q)))))))))))))))
theorem aJ_Se_findGap_152 (n : Nat) (C : Cn) (v0 v1 v3 v6 v7 : Int) (Q : Int → Cn → Prop) (h : J_Se_findGap_152 n C v0 v1 v3 v6 v7 Q) : AW p l e R s m args below meth c E M_Se_findGap true (fun r C2 n2 => n2 = n ∧ Q r C2) n 0 0 152 [(2, v0), (0, v1), (9, 0), (0, v3), (9, 0), (9, 0), (0, v6), (0, v7), (9, 0), (9, 0), (9, 0)] [] C := by
  unfold J_Se_findGap_152 at h
  refine AW.ra_n (dc hd_Se_findGap 83 rfl) rfl rfl rfl ?_
  refine AW.bipush (dc hd_Se_findGap 84 rfl) (by decide) (by decide +kernel) ?_
  obtain ⟨g_15, h⟩ := h
  refine AW.nputI fl_4_105 (dc hd_Se_findGap 85 rfl) g_15 (fun C_16 eC_16 => ?_)
  have h := h C_16 eC_16
  refine AW.iconst (dc hd_Se_findGap 86 rfl) (by decide) ?_
  refine AW.istore [(2, v0), (0, v1), (9, 0), (0, v3), (9, 0), (9, 0), (0, v6), (0, v7), (0, 0), (9, 0), (9, 0)] (dc hd_Se_findGap 87 rfl) (Nat.le_of_ble_eq_true rfl) rfl rfl ?_
  refine AW.ra_n (dc hd_Se_findGap 88 rfl) rfl rfl rfl ?_
  refine AW.getp fl_4_40 (dc hd_Se_findGap 89 rfl) g_15 rfl ?_
  obtain ⟨g_17, h⟩ := h
  refine AW.getf fl_4_44 (dc hd_Se_findGap 90 rfl) g_17 ?_
  refine AW.nm (fun v9_18 ev9_18 => ?_)
  have h := h v9_18 ev9_18
  refine AW.istore [(2, v0), (0, v1), (9, 0), (0, v3), (9, 0), (9, 0), (0, v6), (0, v7), (0, 0), (0, v9_18), (9, 0)] (dc hd_Se_findGap 91 rfl) (Nat.le_of_ble_eq_true rfl) rfl rfl ?_
  refine AW.iload (dc hd_Se_findGap 92 rfl) rfl ?_
  refine AW.if_lt (t := 217) (dc hd_Se_findGap 93 rfl) (by decide) (fun c_19 => ?_) (fun c_19 => ?_)
  · have h := h.1 c_19
    refine AW.fgt [(2, v0), (0, v1), (9, 0), (0, v3), (9, 0), (9, 0), (9, 0), (0, v7), (0, 0), (0, v9_18), (9, 0)] ⟨.inl rfl, .inl rfl, .inl rfl, .inl rfl, .inl rfl, .inl rfl, .inr rfl, .inl rfl, .inl rfl, .inl rfl, .inl rfl, trivial⟩ ?_
    exact aJ_Se_findGap_217 n C_16 v0 v1 v3 v7 0 v9_18 Q h
  · have h := h.2 c_19
    refine AW.ra_n (dc hd_Se_findGap 94 rfl) rfl rfl rfl ?_
    refine AW.rdup (dc hd_Se_findGap 95 rfl) rfl ?_
    refine AW.getf fl_4_105 (dc hd_Se_findGap 96 rfl) g_15 ?_
    refine AW.ra_n (dc hd_Se_findGap 97 rfl) rfl rfl rfl ?_
    refine AW.getp fl_4_15 (dc hd_Se_findGap 98 rfl) g_15 rfl ?_
    refine AW.iload (dc hd_Se_findGap 99 rfl) rfl ?_
    obtain ⟨g_52, h⟩ := h
    obtain ⟨g_53, h⟩ := h
    refine AW.iald (dc hd_Se_findGap 100 rfl) g_52 g_53 ?_
    refine AW.iand (dc hd_Se_findGap 101 rfl) ?_
    refine AW.nputI fl_4_105 (dc hd_Se_findGap 102 rfl) g_15 (fun C_54 eC_54 => ?_)
    have h := h C_54 eC_54
    refine AW.ra_n (dc hd_Se_findGap 103 rfl) rfl rfl rfl ?_
    refine AW.getp fl_4_40 (dc hd_Se_findGap 104 rfl) g_15 rfl ?_
    refine AW.getp fl_4_52 (dc hd_Se_findGap 105 rfl) g_17 rfl ?_
    refine AW.iload (dc hd_Se_findGap 106 rfl) rfl ?_
    obtain ⟨g_55, h⟩ := h
    obtain ⟨g_56, h⟩ := h
    refine AW.iald (dc hd_Se_findGap 107 rfl) g_55 g_56 ?_
    refine AW.iconst (dc hd_Se_findGap 108 rfl) (by decide) ?_
    refine AW.iadd (dc hd_Se_findGap 109 rfl) ?_
    refine AW.nm (fun v8_57 ev8_57 => ?_)
    have h := h v8_57 ev8_57
    refine AW.istore [(2, v0), (0, v1), (9, 0), (0, v3), (9, 0), (9, 0), (0, v6), (0, v7), (0, v8_57), (0, v9_18), (9, 0)] (dc hd_Se_findGap 110 rfl) (Nat.le_of_ble_eq_true rfl) rfl rfl ?_
    refine AW.ra_n (dc hd_Se_findGap 111 rfl) rfl rfl rfl ?_
    refine AW.getp fl_4_40 (dc hd_Se_findGap 112 rfl) g_15 rfl ?_
    refine AW.getp fl_4_55 (dc hd_Se_findGap 113 rfl) g_17 rfl ?_
    refine AW.iload (dc hd_Se_findGap 114 rfl) rfl ?_
    obtain ⟨g_58, h⟩ := h
    obtain ⟨g_59, h⟩ := h
    refine AW.iald (dc hd_Se_findGap 115 rfl) g_58 g_59 ?_
    refine AW.nm (fun v9_60 ev9_60 => ?_)
    have h := h v9_60 ev9_60
    refine AW.istore [(2, v0), (0, v1), (9, 0), (0, v3), (9, 0), (9, 0), (0, v6), (0, v7), (0, v8_57), (0, v9_60), (9, 0)] (dc hd_Se_findGap 116 rfl) (Nat.le_of_ble_eq_true rfl) rfl rfl ?_
    refine AW.fgt [(2, v0), (0, v1), (9, 0), (0, v3), (9, 0), (9, 0), (9, 0), (0, v7), (0, v8_57), (0, v9_60), (9, 0)] ⟨.inl rfl, .inl rfl, .inl rfl, .inl rfl, .inl rfl, .inl rfl, .inr rfl, .inl rfl, .inl rfl, .inl rfl, .inl rfl, trivial⟩ ?_
    exact aJ_Se_findGap_217 n C_54 v0 v1 v3 v7 v8_57 v9_60 Q h
def J_Se_findGap_144 (n : Nat) (C : Cn) (v0 v1 v3 v4 v6 v8 s0 : Int) (kz94 : Int × Int → Prop) (Q : Int → Cn → Prop) : Prop :=
  kz94 (s0, w32 (v8 + 1))
theorem aJ_Se_findGap_144 (n : Nat) (C : Cn) (v0 v1 v3 v4 v6 v8 s0 : Int) (kz94 : Int × Int → Prop) (Q : Int → Cn → Prop) (hkz94 : ∀ (z7 : Int) (z8 : Int), kz94 (z7, z8) → AW p l e R s m args below meth c E M_Se_findGap true (fun r C2 n2 => n2 = n ∧ Q r C2) n 0 0 94 [(2, v0), (0, v1), (9, 0), (0, v3), (0, v4), (9, 0), (0, v6), (0, z7), (0, z8), (9, 0), (9, 0)] [] C) (h : J_Se_findGap_144 n C v0 v1 v3 v4 v6 v8 s0 kz94 Q) : AW p l e R s m args below meth c E M_Se_findGap true (fun r C2 n2 => n2 = n ∧ Q r C2) n 0 0 144 [(2, v0), (0, v1), (9, 0), (0, v3), (0, v4), (9, 0), (0, v6), (9, 0), (0, v8), (9, 0), (9, 0)] [(0, s0)] C := by
  unfold J_Se_findGap_144 at h
  refine AW.istore [(2, v0), (0, v1), (9, 0), (0, v3), (0, v4), (9, 0), (0, v6), (0, s0), (0, v8), (9, 0), (9, 0)] (dc hd_Se_findGap 80 rfl) (Nat.le_of_ble_eq_true rfl) rfl rfl ?_
  refine AW.iinc [(2, v0), (0, v1), (9, 0), (0, v3), (0, v4), (9, 0), (0, v6), (0, s0), (0, w32 (v8 + 1)), (9, 0), (9, 0)] (dc hd_Se_findGap 81 rfl) rfl (Nat.le_of_ble_eq_true rfl) rfl rfl ?_
  refine AW.goto (t := 94) (dc hd_Se_findGap 82 rfl) (by decide) ?_
  exact hkz94 s0 (w32 (v8 + 1)) h
def B_Se_findGap_94 (n : Nat) (C : Cn) (v0 v1 v3 v4 v6 : Int) (Q : Int → Cn → Prop) (kz94 : Int × Int → Prop) (z : Int × Int) : Prop := match z with
  | (v7, v8) => okO n v0 4 ∧ (okO n (PT v0.toNat 0) 2 ∧ (okO n (PT (PT v0.toNat 0).toNat 7) 12 ∧ (okI (PT (PT v0.toNat 0).toNat 7) v3 ∧ ((C (PT (PT v0.toNat 0).toNat 7).toNat v3.toNat ≤ v8 → (J_Se_findGap_152 n C v0 v1 v3 v6 v7 Q)) ∧ (¬ C (PT (PT v0.toNat 0).toNat 7).toNat v3.toNat ≤ v8 → ((0 ≤ v7 → (J_Se_findGap_152 n C v0 v1 v3 v6 v7 Q)) ∧ (¬ 0 ≤ v7 → (okO n (PT (PT v0.toNat 0).toNat 6) 12 ∧ (okI (PT (PT v0.toNat 0).toNat 6) (w32 (v4 + v8)) ∧ (∀ v9_64 : Int, v9_64 = C (PT (PT v0.toNat 0).toNat 6).toNat (w32 (v4 + v8)).toNat → (J_Se_findGap_144 n C v0 v1 v3 v4 v6 v8 (if and32 (shr32 v1 v9_64) 1 = 1 then v9_64 else (-1)) kz94 Q)))))))))))
theorem bB_Se_findGap_94 (n : Nat) (C : Cn) (v0 v1 v3 v4 v6 : Int) (Q : Int → Cn → Prop) (kz94 : Int × Int → Prop) (hkz94 : ∀ (z7 : Int) (z8 : Int), kz94 (z7, z8) → AW p l e R s m args below meth c E M_Se_findGap true (fun r C2 n2 => n2 = n ∧ Q r C2) n 0 0 94 [(2, v0), (0, v1), (9, 0), (0, v3), (0, v4), (9, 0), (0, v6), (0, z7), (0, z8), (9, 0), (9, 0)] [] C) (v7 : Int) (v8 : Int) (h : B_Se_findGap_94 n C v0 v1 v3 v4 v6 Q kz94 (v7, v8)) : AW p l e R s m args below meth c E M_Se_findGap true (fun r C2 n2 => n2 = n ∧ Q r C2) n 0 0 94 [(2, v0), (0, v1), (9, 0), (0, v3), (0, v4), (9, 0), (0, v6), (0, v7), (0, v8), (9, 0), (9, 0)] [] C := by
  unfold B_Se_findGap_94 at h
  dsimp only at h
  refine AW.iload (dc hd_Se_findGap 53 rfl) rfl ?_
  refine AW.ra_n (dc hd_Se_findGap 54 rfl) rfl rfl rfl ?_
  obtain ⟨g_10, h⟩ := h
  refine AW.getp fl_4_40 (dc hd_Se_findGap 55 rfl) g_10 rfl ?_
  obtain ⟨g_11, h⟩ := h
  refine AW.getp fl_4_58 (dc hd_Se_findGap 56 rfl) g_11 rfl ?_
  refine AW.iload_n (dc hd_Se_findGap 57 rfl) rfl ?_
  obtain ⟨g_12, h⟩ := h
  obtain ⟨g_13, h⟩ := h
  refine AW.iald (dc hd_Se_findGap 58 rfl) g_12 g_13 ?_
  refine AW.icmp_ge (t := 152) (dc hd_Se_findGap 59 rfl) (by decide) (fun c_14 => ?_) (fun c_14 => ?_)
  · have h := h.1 c_14
    refine AW.fgt [(2, v0), (0, v1), (9, 0), (0, v3), (9, 0), (9, 0), (0, v6), (0, v7), (9, 0), (9, 0), (9, 0)] ⟨.inl rfl, .inl rfl, .inl rfl, .inl rfl, .inr rfl, .inl rfl, .inl rfl, .inl rfl, .inr rfl, .inl rfl, .inl rfl, trivial⟩ ?_
    exact aJ_Se_findGap_152 n C v0 v1 v3 v6 v7 Q h
  · have h := h.2 c_14
    refine AW.iload (dc hd_Se_findGap 60 rfl) rfl ?_
    refine AW.if_ge (t := 152) (dc hd_Se_findGap 61 rfl) (by decide) (fun c_61 => ?_) (fun c_61 => ?_)
    · have h := h.1 c_61
      refine AW.fgt [(2, v0), (0, v1), (9, 0), (0, v3), (9, 0), (9, 0), (0, v6), (0, v7), (9, 0), (9, 0), (9, 0)] ⟨.inl rfl, .inl rfl, .inl rfl, .inl rfl, .inr rfl, .inl rfl, .inl rfl, .inl rfl, .inr rfl, .inl rfl, .inl rfl, trivial⟩ ?_
      exact aJ_Se_findGap_152 n C v0 v1 v3 v6 v7 Q h
    · have h := h.2 c_61
      refine AW.ra_n (dc hd_Se_findGap 62 rfl) rfl rfl rfl ?_
      refine AW.getp fl_4_40 (dc hd_Se_findGap 63 rfl) g_10 rfl ?_
      refine AW.getp fl_4_65 (dc hd_Se_findGap 64 rfl) g_11 rfl ?_
      refine AW.iload (dc hd_Se_findGap 65 rfl) rfl ?_
      refine AW.iload (dc hd_Se_findGap 66 rfl) rfl ?_
      refine AW.iadd (dc hd_Se_findGap 67 rfl) ?_
      obtain ⟨g_62, h⟩ := h
      obtain ⟨g_63, h⟩ := h
      refine AW.iald (dc hd_Se_findGap 68 rfl) g_62 g_63 ?_
      refine AW.nm (fun v9_64 ev9_64 => ?_)
      have h := h v9_64 ev9_64
      refine AW.istore [(2, v0), (0, v1), (9, 0), (0, v3), (0, v4), (9, 0), (0, v6), (0, v7), (0, v8), (0, v9_64), (9, 0)] (dc hd_Se_findGap 69 rfl) (Nat.le_of_ble_eq_true rfl) rfl rfl ?_
      refine AW.iload_n (dc hd_Se_findGap 70 rfl) rfl ?_
      refine AW.iload (dc hd_Se_findGap 71 rfl) rfl ?_
      refine AW.ishr (dc hd_Se_findGap 72 rfl) ?_
      refine AW.iconst (dc hd_Se_findGap 73 rfl) (by decide) ?_
      refine AW.iand (dc hd_Se_findGap 74 rfl) ?_
      refine AW.iconst (dc hd_Se_findGap 75 rfl) (by decide) ?_
      refine AW.icmp_ne (t := 143) (dc hd_Se_findGap 76 rfl) (by decide) (fun c_65 => ?_) (fun c_65 => ?_)
      · simp only [if_neg (show ¬ (and32 (shr32 v1 v9_64) 1 = 1) from c_65)] at h
        refine AW.iconst (dc hd_Se_findGap 79 rfl) (by decide) ?_
        refine AW.fgt [(2, v0), (0, v1), (9, 0), (0, v3), (0, v4), (9, 0), (0, v6), (9, 0), (0, v8), (9, 0), (9, 0)] ⟨.inl rfl, .inl rfl, .inl rfl, .inl rfl, .inl rfl, .inl rfl, .inl rfl, .inr rfl, .inl rfl, .inr rfl, .inl rfl, trivial⟩ ?_
        exact aJ_Se_findGap_144 n C _ _ _ _ _ _ _ kz94 Q hkz94 h
      · simp only [if_pos (show and32 (shr32 v1 v9_64) 1 = 1 from c_65)] at h
        refine AW.iload (dc hd_Se_findGap 77 rfl) rfl ?_
        refine AW.goto (t := 144) (dc hd_Se_findGap 78 rfl) (by decide) ?_
        refine AW.fgt [(2, v0), (0, v1), (9, 0), (0, v3), (0, v4), (9, 0), (0, v6), (9, 0), (0, v8), (9, 0), (9, 0)] ⟨.inl rfl, .inl rfl, .inl rfl, .inl rfl, .inl rfl, .inl rfl, .inl rfl, .inr rfl, .inl rfl, .inr rfl, .inl rfl, trivial⟩ ?_
        exact aJ_Se_findGap_144 n C _ _ _ _ _ _ _ kz94 Q hkz94 h
theorem aB_Se_findGap_94 (n : Nat) (C : Cn) (v0 v1 v3 v4 v6 : Int) (Q : Int → Cn → Prop) : ∀ (f : Nat) (z : Int × Int), lp (B_Se_findGap_94 n C v0 v1 v3 v4 v6 Q) f z → AW p l e R s m args below meth c E M_Se_findGap true (fun r C2 n2 => n2 = n ∧ Q r C2) n 0 0 94 [(2, v0), (0, v1), (9, 0), (0, v3), (0, v4), (9, 0), (0, v6), (0, z.1), (0, z.2), (9, 0), (9, 0)] [] C := by
  intro f
  induction f with
  | zero => intro z h; exact False.elim h
  | succ f ih => intro z h; exact bB_Se_findGap_94 n C v0 v1 v3 v4 v6 Q (lp (B_Se_findGap_94 n C v0 v1 v3 v4 v6 Q) f) (fun a0 a1 h => ih (a0, a1) h) z.1 z.2 h
def J_Se_findGap_87 (n : Nat) (C : Cn) (v0 v1 v3 v4 v5 v6 : Int) (Q : Int → Cn → Prop) : Prop :=
  ∃ f_66 : Nat, lp (B_Se_findGap_94 n C v0 v1 v3 v4 v6 Q) f_66 ((-1), v5)
theorem aJ_Se_findGap_87 (n : Nat) (C : Cn) (v0 v1 v3 v4 v5 v6 : Int) (Q : Int → Cn → Prop) (h : J_Se_findGap_87 n C v0 v1 v3 v4 v5 v6 Q) : AW p l e R s m args below meth c E M_Se_findGap true (fun r C2 n2 => n2 = n ∧ Q r C2) n 0 0 87 [(2, v0), (0, v1), (9, 0), (0, v3), (0, v4), (0, v5), (0, v6), (9, 0), (9, 0), (9, 0), (9, 0)] [] C := by
  unfold J_Se_findGap_87 at h
  refine AW.iconst (dc hd_Se_findGap 49 rfl) (by decide) ?_
  refine AW.istore [(2, v0), (0, v1), (9, 0), (0, v3), (0, v4), (0, v5), (0, v6), (0, (-1)), (9, 0), (9, 0), (9, 0)] (dc hd_Se_findGap 50 rfl) (Nat.le_of_ble_eq_true rfl) rfl rfl ?_
  refine AW.iload (dc hd_Se_findGap 51 rfl) rfl ?_
  refine AW.istore [(2, v0), (0, v1), (9, 0), (0, v3), (0, v4), (0, v5), (0, v6), (0, (-1)), (0, v5), (9, 0), (9, 0)] (dc hd_Se_findGap 52 rfl) (Nat.le_of_ble_eq_true rfl) rfl rfl ?_
  obtain ⟨f_66, h⟩ := h
  refine AW.fgt [(2, v0), (0, v1), (9, 0), (0, v3), (0, v4), (9, 0), (0, v6), (0, (-1)), (0, v5), (9, 0), (9, 0)] ⟨.inl rfl, .inl rfl, .inl rfl, .inl rfl, .inl rfl, .inr rfl, .inl rfl, .inl rfl, .inl rfl, .inl rfl, .inl rfl, trivial⟩ ?_
  exact aB_Se_findGap_94 n C v0 v1 v3 v4 v6 Q f_66 ((-1), v5) h
def J_Se_findGap_79 (n : Nat) (C : Cn) (v0 v1 v3 v4 v5 v7 s0 : Int) (kz38 : Int × Int → Prop) (Q : Int → Cn → Prop) : Prop :=
  kz38 (s0, w32 (v7 + (-1)))
theorem aJ_Se_findGap_79 (n : Nat) (C : Cn) (v0 v1 v3 v4 v5 v7 s0 : Int) (kz38 : Int × Int → Prop) (Q : Int → Cn → Prop) (hkz38 : ∀ (z6 : Int) (z7 : Int), kz38 (z6, z7) → AW p l e R s m args below meth c E M_Se_findGap true (fun r C2 n2 => n2 = n ∧ Q r C2) n 0 0 38 [(2, v0), (0, v1), (9, 0), (0, v3), (0, v4), (0, v5), (0, z6), (0, z7), (9, 0), (9, 0), (9, 0)] [] C) (h : J_Se_findGap_79 n C v0 v1 v3 v4 v5 v7 s0 kz38 Q) : AW p l e R s m args below meth c E M_Se_findGap true (fun r C2 n2 => n2 = n ∧ Q r C2) n 0 0 79 [(2, v0), (0, v1), (9, 0), (0, v3), (0, v4), (0, v5), (9, 0), (0, v7), (9, 0), (9, 0), (9, 0)] [(0, s0)] C := by
  unfold J_Se_findGap_79 at h
  refine AW.istore [(2, v0), (0, v1), (9, 0), (0, v3), (0, v4), (0, v5), (0, s0), (0, v7), (9, 0), (9, 0), (9, 0)] (dc hd_Se_findGap 46 rfl) (Nat.le_of_ble_eq_true rfl) rfl rfl ?_
  refine AW.iinc [(2, v0), (0, v1), (9, 0), (0, v3), (0, v4), (0, v5), (0, s0), (0, w32 (v7 + (-1))), (9, 0), (9, 0), (9, 0)] (dc hd_Se_findGap 47 rfl) rfl (Nat.le_of_ble_eq_true rfl) rfl rfl ?_
  refine AW.goto (t := 38) (dc hd_Se_findGap 48 rfl) (by decide) ?_
  exact hkz38 s0 (w32 (v7 + (-1))) h
def B_Se_findGap_38 (n : Nat) (C : Cn) (v0 v1 v3 v4 v5 : Int) (Q : Int → Cn → Prop) (kz38 : Int × Int → Prop) (z : Int × Int) : Prop := match z with
  | (v6, v7) => (v7 < 0 → (J_Se_findGap_87 n C v0 v1 v3 v4 v5 v6 Q)) ∧ (¬ v7 < 0 → ((0 ≤ v6 → (J_Se_findGap_87 n C v0 v1 v3 v4 v5 v6 Q)) ∧ (¬ 0 ≤ v6 → (okO n v0 4 ∧ (okO n (PT v0.toNat 0) 2 ∧ (okO n (PT (PT v0.toNat 0).toNat 6) 12 ∧ (okI (PT (PT v0.toNat 0).toNat 6) (w32 (v4 + v7)) ∧ (∀ v8_72 : Int, v8_72 = C (PT (PT v0.toNat 0).toNat 6).toNat (w32 (v4 + v7)).toNat → (J_Se_findGap_79 n C v0 v1 v3 v4 v5 v7 (if and32 (shr32 v1 v8_72) 1 = 1 then v8_72 else (-1)) kz38 Q)))))))))
theorem bB_Se_findGap_38 (n : Nat) (C : Cn) (v0 v1 v3 v4 v5 : Int) (Q : Int → Cn → Prop) (kz38 : Int × Int → Prop) (hkz38 : ∀ (z6 : Int) (z7 : Int), kz38 (z6, z7) → AW p l e R s m args below meth c E M_Se_findGap true (fun r C2 n2 => n2 = n ∧ Q r C2) n 0 0 38 [(2, v0), (0, v1), (9, 0), (0, v3), (0, v4), (0, v5), (0, z6), (0, z7), (9, 0), (9, 0), (9, 0)] [] C) (v6 : Int) (v7 : Int) (h : B_Se_findGap_38 n C v0 v1 v3 v4 v5 Q kz38 (v6, v7)) : AW p l e R s m args below meth c E M_Se_findGap true (fun r C2 n2 => n2 = n ∧ Q r C2) n 0 0 38 [(2, v0), (0, v1), (9, 0), (0, v3), (0, v4), (0, v5), (0, v6), (0, v7), (9, 0), (9, 0), (9, 0)] [] C := by
  unfold B_Se_findGap_38 at h
  dsimp only at h
  refine AW.iload (dc hd_Se_findGap 24 rfl) rfl ?_
  refine AW.if_lt (t := 87) (dc hd_Se_findGap 25 rfl) (by decide) (fun c_9 => ?_) (fun c_9 => ?_)
  · have h := h.1 c_9
    refine AW.fgt [(2, v0), (0, v1), (9, 0), (0, v3), (0, v4), (0, v5), (0, v6), (9, 0), (9, 0), (9, 0), (9, 0)] ⟨.inl rfl, .inl rfl, .inl rfl, .inl rfl, .inl rfl, .inl rfl, .inl rfl, .inr rfl, .inl rfl, .inl rfl, .inl rfl, trivial⟩ ?_
    exact aJ_Se_findGap_87 n C v0 v1 v3 v4 v5 v6 Q h
  · have h := h.2 c_9
    refine AW.iload (dc hd_Se_findGap 26 rfl) rfl ?_
    refine AW.if_ge (t := 87) (dc hd_Se_findGap 27 rfl) (by decide) (fun c_67 => ?_) (fun c_67 => ?_)
    · have h := h.1 c_67
      refine AW.fgt [(2, v0), (0, v1), (9, 0), (0, v3), (0, v4), (0, v5), (0, v6), (9, 0), (9, 0), (9, 0), (9, 0)] ⟨.inl rfl, .inl rfl, .inl rfl, .inl rfl, .inl rfl, .inl rfl, .inl rfl, .inr rfl, .inl rfl, .inl rfl, .inl rfl, trivial⟩ ?_
      exact aJ_Se_findGap_87 n C v0 v1 v3 v4 v5 v6 Q h
    · have h := h.2 c_67
      refine AW.ra_n (dc hd_Se_findGap 28 rfl) rfl rfl rfl ?_
      obtain ⟨g_68, h⟩ := h
      refine AW.getp fl_4_40 (dc hd_Se_findGap 29 rfl) g_68 rfl ?_
      obtain ⟨g_69, h⟩ := h
      refine AW.getp fl_4_65 (dc hd_Se_findGap 30 rfl) g_69 rfl ?_
      refine AW.iload (dc hd_Se_findGap 31 rfl) rfl ?_
      refine AW.iload (dc hd_Se_findGap 32 rfl) rfl ?_
      refine AW.iadd (dc hd_Se_findGap 33 rfl) ?_
      obtain ⟨g_70, h⟩ := h
      obtain ⟨g_71, h⟩ := h
      refine AW.iald (dc hd_Se_findGap 34 rfl) g_70 g_71 ?_
      refine AW.nm (fun v8_72 ev8_72 => ?_)
      have h := h v8_72 ev8_72
      refine AW.istore [(2, v0), (0, v1), (9, 0), (0, v3), (0, v4), (0, v5), (0, v6), (0, v7), (0, v8_72), (9, 0), (9, 0)] (dc hd_Se_findGap 35 rfl) (Nat.le_of_ble_eq_true rfl) rfl rfl ?_
      refine AW.iload_n (dc hd_Se_findGap 36 rfl) rfl ?_
      refine AW.iload (dc hd_Se_findGap 37 rfl) rfl ?_
      refine AW.ishr (dc hd_Se_findGap 38 rfl) ?_
      refine AW.iconst (dc hd_Se_findGap 39 rfl) (by decide) ?_
      refine AW.iand (dc hd_Se_findGap 40 rfl) ?_
      refine AW.iconst (dc hd_Se_findGap 41 rfl) (by decide) ?_
      refine AW.icmp_ne (t := 78) (dc hd_Se_findGap 42 rfl) (by decide) (fun c_73 => ?_) (fun c_73 => ?_)
      · simp only [if_neg (show ¬ (and32 (shr32 v1 v8_72) 1 = 1) from c_73)] at h
        refine AW.iconst (dc hd_Se_findGap 45 rfl) (by decide) ?_
        refine AW.fgt [(2, v0), (0, v1), (9, 0), (0, v3), (0, v4), (0, v5), (9, 0), (0, v7), (9, 0), (9, 0), (9, 0)] ⟨.inl rfl, .inl rfl, .inl rfl, .inl rfl, .inl rfl, .inl rfl, .inr rfl, .inl rfl, .inr rfl, .inl rfl, .inl rfl, trivial⟩ ?_
        exact aJ_Se_findGap_79 n C _ _ _ _ _ _ _ kz38 Q hkz38 h
      · simp only [if_pos (show and32 (shr32 v1 v8_72) 1 = 1 from c_73)] at h
        refine AW.iload (dc hd_Se_findGap 43 rfl) rfl ?_
        refine AW.goto (t := 79) (dc hd_Se_findGap 44 rfl) (by decide) ?_
        refine AW.fgt [(2, v0), (0, v1), (9, 0), (0, v3), (0, v4), (0, v5), (9, 0), (0, v7), (9, 0), (9, 0), (9, 0)] ⟨.inl rfl, .inl rfl, .inl rfl, .inl rfl, .inl rfl, .inl rfl, .inr rfl, .inl rfl, .inr rfl, .inl rfl, .inl rfl, trivial⟩ ?_
        exact aJ_Se_findGap_79 n C _ _ _ _ _ _ _ kz38 Q hkz38 h
theorem aB_Se_findGap_38 (n : Nat) (C : Cn) (v0 v1 v3 v4 v5 : Int) (Q : Int → Cn → Prop) : ∀ (f : Nat) (z : Int × Int), lp (B_Se_findGap_38 n C v0 v1 v3 v4 v5 Q) f z → AW p l e R s m args below meth c E M_Se_findGap true (fun r C2 n2 => n2 = n ∧ Q r C2) n 0 0 38 [(2, v0), (0, v1), (9, 0), (0, v3), (0, v4), (0, v5), (0, z.1), (0, z.2), (9, 0), (9, 0), (9, 0)] [] C := by
  intro f
  induction f with
  | zero => intro z h; exact False.elim h
  | succ f ih => intro z h; exact bB_Se_findGap_38 n C v0 v1 v3 v4 v5 Q (lp (B_Se_findGap_38 n C v0 v1 v3 v4 v5 Q) f) (fun a0 a1 h => ih (a0, a1) h) z.1 z.2 h
def P_Se_findGap (n : Nat) (C : Cn) (v0 v1 v2 : Int) (Q : Int → Cn → Prop) : Prop :=
  okO n v0 4 ∧ (okO n (PT v0.toNat 0) 2 ∧ (okO n (PT (PT v0.toNat 0).toNat 10) 12 ∧ (okI (PT (PT v0.toNat 0).toNat 10) v2 ∧ (∀ v3_5 : Int, v3_5 = C (PT (PT v0.toNat 0).toNat 10).toNat v2.toNat → (okO n (PT (PT v0.toNat 0).toNat 9) 12 ∧ (okI (PT (PT v0.toNat 0).toNat 9) v3_5 ∧ (∀ v5_8 : Int, v5_8 = w32 (v2 - (C (PT (PT v0.toNat 0).toNat 9).toNat v3_5.toNat)) → (∃ f_74 : Nat, lp (B_Se_findGap_38 n C v0 v1 v3_5 (w32 (v3_5 * 6)) v5_8 Q) f_74 ((-1), w32 (v5_8 - 1))))))))))
theorem m_Se_findGap (l : Launch) (E : Ev) (n : Nat) (C : Cn) (v0 v1 v2 : Int) (Q : Int → Cn → Prop) (h : P_Se_findGap n C v0 v1 v2 Q) : MA l y_Se_findGap M_Se_findGap E true C n [(2, v0), (0, v1), (0, v2)] (fun r C2 n2 => n2 = n ∧ Q r C2) := by
  refine MA.of (by decide) rfl rfl 8 rfl (fun p e s m args below meth c => ?_)
  show AW p l e _ s m args below meth c E M_Se_findGap true _ n 0 0 0 [(2, v0), (0, v1), (0, v2), (9, 0), (9, 0), (9, 0), (9, 0), (9, 0), (9, 0), (9, 0), (9, 0)] [] C
  unfold P_Se_findGap at h
  refine AW.ra_n (dc hd_Se_findGap 0 rfl) rfl rfl rfl ?_
  obtain ⟨g_1, h⟩ := h
  refine AW.getp fl_4_40 (dc hd_Se_findGap 1 rfl) g_1 rfl ?_
  obtain ⟨g_2, h⟩ := h
  refine AW.getp fl_4_78 (dc hd_Se_findGap 2 rfl) g_2 rfl ?_
  refine AW.iload_n (dc hd_Se_findGap 3 rfl) rfl ?_
  obtain ⟨g_3, h⟩ := h
  obtain ⟨g_4, h⟩ := h
  refine AW.iald (dc hd_Se_findGap 4 rfl) g_3 g_4 ?_
  refine AW.nm (fun v3_5 ev3_5 => ?_)
  have h := h v3_5 ev3_5
  refine AW.istore_n [(2, v0), (0, v1), (0, v2), (0, v3_5), (9, 0), (9, 0), (9, 0), (9, 0), (9, 0), (9, 0), (9, 0)] (dc hd_Se_findGap 5 rfl) (Nat.le_of_ble_eq_true rfl) rfl rfl ?_
  refine AW.iload_n (dc hd_Se_findGap 6 rfl) rfl ?_
  refine AW.bipush (dc hd_Se_findGap 7 rfl) (by decide) (by decide +kernel) ?_
  refine AW.imul (dc hd_Se_findGap 8 rfl) ?_
  refine AW.istore [(2, v0), (0, v1), (0, v2), (0, v3_5), (0, w32 (v3_5 * 6)), (9, 0), (9, 0), (9, 0), (9, 0), (9, 0), (9, 0)] (dc hd_Se_findGap 9 rfl) (Nat.le_of_ble_eq_true rfl) rfl rfl ?_
  refine AW.iload_n (dc hd_Se_findGap 10 rfl) rfl ?_
  refine AW.ra_n (dc hd_Se_findGap 11 rfl) rfl rfl rfl ?_
  refine AW.getp fl_4_40 (dc hd_Se_findGap 12 rfl) g_1 rfl ?_
  refine AW.getp fl_4_102 (dc hd_Se_findGap 13 rfl) g_2 rfl ?_
  refine AW.iload_n (dc hd_Se_findGap 14 rfl) rfl ?_
  obtain ⟨g_6, h⟩ := h
  obtain ⟨g_7, h⟩ := h
  refine AW.iald (dc hd_Se_findGap 15 rfl) g_6 g_7 ?_
  refine AW.isub (dc hd_Se_findGap 16 rfl) ?_
  refine AW.nm (fun v5_8 ev5_8 => ?_)
  have h := h v5_8 ev5_8
  refine AW.istore [(2, v0), (0, v1), (0, v2), (0, v3_5), (0, w32 (v3_5 * 6)), (0, v5_8), (9, 0), (9, 0), (9, 0), (9, 0), (9, 0)] (dc hd_Se_findGap 17 rfl) (Nat.le_of_ble_eq_true rfl) rfl rfl ?_
  refine AW.iconst (dc hd_Se_findGap 18 rfl) (by decide) ?_
  refine AW.istore [(2, v0), (0, v1), (0, v2), (0, v3_5), (0, w32 (v3_5 * 6)), (0, v5_8), (0, (-1)), (9, 0), (9, 0), (9, 0), (9, 0)] (dc hd_Se_findGap 19 rfl) (Nat.le_of_ble_eq_true rfl) rfl rfl ?_
  refine AW.iload (dc hd_Se_findGap 20 rfl) rfl ?_
  refine AW.iconst (dc hd_Se_findGap 21 rfl) (by decide) ?_
  refine AW.isub (dc hd_Se_findGap 22 rfl) ?_
  refine AW.istore [(2, v0), (0, v1), (0, v2), (0, v3_5), (0, w32 (v3_5 * 6)), (0, v5_8), (0, (-1)), (0, w32 (v5_8 - 1)), (9, 0), (9, 0), (9, 0)] (dc hd_Se_findGap 23 rfl) (Nat.le_of_ble_eq_true rfl) rfl rfl ?_
  obtain ⟨f_74, h⟩ := h
  refine AW.fgt [(2, v0), (0, v1), (9, 0), (0, v3_5), (0, w32 (v3_5 * 6)), (0, v5_8), (0, (-1)), (0, w32 (v5_8 - 1)), (9, 0), (9, 0), (9, 0)] ⟨.inl rfl, .inl rfl, .inr rfl, .inl rfl, .inl rfl, .inl rfl, .inl rfl, .inl rfl, .inl rfl, .inl rfl, .inl rfl, trivial⟩ ?_
  exact aB_Se_findGap_38 n C v0 v1 v3_5 (w32 (v3_5 * 6)) v5_8 Q f_74 ((-1), w32 (v5_8 - 1)) h
end
