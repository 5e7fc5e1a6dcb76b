section
variable {p : Program} {l : Launch} {e : Env} {R : Room} {s : State} {m : MethodId} {args : Array Value} {below : List Frame} {meth : Method} {c : Code} {E : Ev}
def P_Wa_turnTo (n : Nat) (C : Cn) (v0 v1 v2 : Int) (Q : Int → Prop) : Prop :=
  okO n v0 7 ∧ (Q (w32 (w32 ((w32 (C v0.toNat 4 - (C v0.toNat 2))) * (w32 (v2 - (C v0.toNat 3)))) - (w32 ((w32 (C v0.toNat 5 - (C v0.toNat 3))) * (w32 (v1 - (C v0.toNat 2))))))))
theorem m_Wa_turnTo (l : Launch) (E : Ev) (n : Nat) (C : Cn) (v0 v1 v2 : Int) (Q : Int → Prop) (h : P_Wa_turnTo n C v0 v1 v2 Q) : MA l y_Wa_turnTo M_Wa_turnTo E true C n [(2, v0), (0, v1), (0, v2)] (fun r C2 n2 => C2 = C ∧ n2 = n ∧ Q r) := by
  refine MA.of (by decide) rfl rfl 0 rfl (fun p e s m args below meth c => ?_)
  show AW p l e _ s m args below meth c E M_Wa_turnTo true _ n 0 0 0 [(2, v0), (0, v1), (0, v2)] [] C
  unfold P_Wa_turnTo at h
  refine AW.ra_n (dc hd_Wa_turnTo 0 rfl) rfl rfl rfl ?_
  obtain ⟨g_1, h⟩ := h
  refine AW.getf fl_7_38 (dc hd_Wa_turnTo 1 rfl) g_1 ?_
  refine AW.ra_n (dc hd_Wa_turnTo 2 rfl) rfl rfl rfl ?_
  refine AW.getf fl_7_32 (dc hd_Wa_turnTo 3 rfl) g_1 ?_
  refine AW.isub (dc hd_Wa_turnTo 4 rfl) ?_
  refine AW.iload_n (dc hd_Wa_turnTo 5 rfl) rfl ?_
  refine AW.ra_n (dc hd_Wa_turnTo 6 rfl) rfl rfl rfl ?_
  refine AW.getf fl_7_35 (dc hd_Wa_turnTo 7 rfl) g_1 ?_
  refine AW.isub (dc hd_Wa_turnTo 8 rfl) ?_
  refine AW.imul (dc hd_Wa_turnTo 9 rfl) ?_
  refine AW.ra_n (dc hd_Wa_turnTo 10 rfl) rfl rfl rfl ?_
  refine AW.getf fl_7_41 (dc hd_Wa_turnTo 11 rfl) g_1 ?_
  refine AW.ra_n (dc hd_Wa_turnTo 12 rfl) rfl rfl rfl ?_
  refine AW.getf fl_7_35 (dc hd_Wa_turnTo 13 rfl) g_1 ?_
  refine AW.isub (dc hd_Wa_turnTo 14 rfl) ?_
  refine AW.iload_n (dc hd_Wa_turnTo 15 rfl) rfl ?_
  refine AW.ra_n (dc hd_Wa_turnTo 16 rfl) rfl rfl rfl ?_
  refine AW.getf fl_7_32 (dc hd_Wa_turnTo 17 rfl) g_1 ?_
  refine AW.isub (dc hd_Wa_turnTo 18 rfl) ?_
  refine AW.imul (dc hd_Wa_turnTo 19 rfl) ?_
  refine AW.isub (dc hd_Wa_turnTo 20 rfl) ?_
  exact AW.iret (dc hd_Wa_turnTo 21 rfl) rfl rfl (Nat.le_of_ble_eq_true rfl) (Nat.le_of_ble_eq_true rfl) ⟨rfl, rfl, h⟩
def J_Wa_areOpposite_21 (n : Nat) (C : Cn) (s0 : Int) (Q : Int → Prop) : Prop :=
  (s0 = 0 ∨ s0 = 1) ∧ (Q s0)
theorem aJ_Wa_areOpposite_21 (n : Nat) (C : Cn) (s0 : Int) (Q : Int → Prop) (h : J_Wa_areOpposite_21 n C s0 Q) : AW p l e R s m args below meth c E M_Wa_areOpposite true (fun r C2 n2 => C2 = C ∧ n2 = n ∧ Q r) n 0 0 21 [(9, 0), (9, 0)] [(0, s0)] C := by
  unfold J_Wa_areOpposite_21 at h
  obtain ⟨g_7, h⟩ := h
  exact AW.zret (dc hd_Wa_areOpposite 11 rfl) rfl rfl (Nat.le_of_ble_eq_true rfl) (Nat.le_of_ble_eq_true rfl) g_7 ⟨rfl, rfl, h⟩
def P_Wa_areOpposite (n : Nat) (C : Cn) (v0 v1 : Int) (Q : Int → Prop) : Prop :=
  J_Wa_areOpposite_21 n C (if 0 ≤ v0 then (if v0 ≤ 0 then 0 else (if 0 ≤ v1 then 0 else 1)) else (if 0 < v1 then 1 else (if v0 ≤ 0 then 0 else (if 0 ≤ v1 then 0 else 1)))) Q
theorem m_Wa_areOpposite (l : Launch) (E : Ev) (n : Nat) (C : Cn) (v0 v1 : Int) (Q : Int → Prop) (h : P_Wa_areOpposite n C v0 v1 Q) : MA l y_Wa_areOpposite M_Wa_areOpposite E true C n [(0, v0), (0, v1)] (fun r C2 n2 => C2 = C ∧ n2 = n ∧ Q r) := by
  refine MA.of (by decide) rfl rfl 0 rfl (fun p e s m args below meth c => ?_)
  show AW p l e _ s m args below meth c E M_Wa_areOpposite true _ n 0 0 0 [(0, v0), (0, v1)] [] C
  unfold P_Wa_areOpposite at h
  refine AW.iload_n (dc hd_Wa_areOpposite 0 rfl) rfl ?_
  refine AW.if_ge (t := 8) (dc hd_Wa_areOpposite 1 rfl) (by decide) (fun c_1 => ?_) (fun c_1 => ?_)
  · simp only [if_pos (show 0 ≤ v0 from c_1)] at h
    refine AW.iload_n (dc hd_Wa_areOpposite 4 rfl) rfl ?_
    refine AW.if_le (t := 20) (dc hd_Wa_areOpposite 5 rfl) (by decide) (fun c_2 => ?_) (fun c_2 => ?_)
    · simp only [if_pos (show v0 ≤ 0 from c_2)] at h
      refine AW.iconst (dc hd_Wa_areOpposite 10 rfl) (by decide) ?_
      refine AW.fgt [(9, 0), (9, 0)] ⟨.inr rfl, .inr rfl, trivial⟩ ?_
      exact aJ_Wa_areOpposite_21 n C _ Q h
    · simp only [if_neg (show ¬ (v0 ≤ 0) from c_2)] at h
      refine AW.iload_n (dc hd_Wa_areOpposite 6 rfl) rfl ?_
      refine AW.if_ge (t := 20) (dc hd_Wa_areOpposite 7 rfl) (by decide) (fun c_3 => ?_) (fun c_3 => ?_)
      · simp only [if_pos (show 0 ≤ v1 from c_3)] at h
        refine AW.iconst (dc hd_Wa_areOpposite 10 rfl) (by decide) ?_
        refine AW.fgt [(9, 0), (9, 0)] ⟨.inr rfl, .inr rfl, trivial⟩ ?_
        exact aJ_Wa_areOpposite_21 n C _ Q h
      · simp only [if_neg (show ¬ (0 ≤ v1) from c_3)] at h
        refine AW.iconst (dc hd_Wa_areOpposite 8 rfl) (by decide) ?_
        refine AW.goto (t := 21) (dc hd_Wa_areOpposite 9 rfl) (by decide) ?_
        refine AW.fgt [(9, 0), (9, 0)] ⟨.inr rfl, .inr rfl, trivial⟩ ?_
        exact aJ_Wa_areOpposite_21 n C _ Q h
  · simp only [if_neg (show ¬ (0 ≤ v0) from c_1)] at h
    refine AW.iload_n (dc hd_Wa_areOpposite 2 rfl) rfl ?_
    refine AW.if_gt (t := 16) (dc hd_Wa_areOpposite 3 rfl) (by decide) (fun c_4 => ?_) (fun c_4 => ?_)
    · simp only [if_pos (show 0 < v1 from c_4)] at h
      refine AW.iconst (dc hd_Wa_areOpposite 8 rfl) (by decide) ?_
      refine AW.goto (t := 21) (dc hd_Wa_areOpposite 9 rfl) (by decide) ?_
      refine AW.fgt [(9, 0), (9, 0)] ⟨.inr rfl, .inr rfl, trivial⟩ ?_
      exact aJ_Wa_areOpposite_21 n C _ Q h
    · simp only [if_neg (show ¬ (0 < v1) from c_4)] at h
      refine AW.iload_n (dc hd_Wa_areOpposite 4 rfl) rfl ?_
      refine AW.if_le (t := 20) (dc hd_Wa_areOpposite 5 rfl) (by decide) (fun c_5 => ?_) (fun c_5 => ?_)
      · simp only [if_pos (show v0 ≤ 0 from c_5)] at h
        refine AW.iconst (dc hd_Wa_areOpposite 10 rfl) (by decide) ?_
        refine AW.fgt [(9, 0), (9, 0)] ⟨.inr rfl, .inr rfl, trivial⟩ ?_
        exact aJ_Wa_areOpposite_21 n C _ Q h
      · simp only [if_neg (show ¬ (v0 ≤ 0) from c_5)] at h
        refine AW.iload_n (dc hd_Wa_areOpposite 6 rfl) rfl ?_
        refine AW.if_ge (t := 20) (dc hd_Wa_areOpposite 7 rfl) (by decide) (fun c_6 => ?_) (fun c_6 => ?_)
        · simp only [if_pos (show 0 ≤ v1 from c_6)] at h
          refine AW.iconst (dc hd_Wa_areOpposite 10 rfl) (by decide) ?_
          refine AW.fgt [(9, 0), (9, 0)] ⟨.inr rfl, .inr rfl, trivial⟩ ?_
          exact aJ_Wa_areOpposite_21 n C _ Q h
        · simp only [if_neg (show ¬ (0 ≤ v1) from c_6)] at h
          refine AW.iconst (dc hd_Wa_areOpposite 8 rfl) (by decide) ?_
          refine AW.goto (t := 21) (dc hd_Wa_areOpposite 9 rfl) (by decide) ?_
          refine AW.fgt [(9, 0), (9, 0)] ⟨.inr rfl, .inr rfl, trivial⟩ ?_
          exact aJ_Wa_areOpposite_21 n C _ Q h
def J_Wa_crosses_65 (n : Nat) (C : Cn) (s0 : Int) (Q : Int → Prop) : Prop :=
  (s0 = 0 ∨ s0 = 1) ∧ (Q s0)
theorem aJ_Wa_crosses_65 (n : Nat) (C : Cn) (s0 : Int) (Q : Int → Prop) (h : J_Wa_crosses_65 n C s0 Q) : AW p l e R s m args below meth c E M_Wa_crosses true (fun r C2 n2 => C2 = C ∧ n2 = n ∧ Q r) n 0 0 65 [(9, 0), (9, 0)] [(0, s0)] C := by
  unfold J_Wa_crosses_65 at h
  obtain ⟨g_29, h⟩ := h
  exact AW.zret (dc hd_Wa_crosses 31 rfl) rfl rfl (Nat.le_of_ble_eq_true rfl) (Nat.le_of_ble_eq_true rfl) g_29 ⟨rfl, rfl, h⟩
def P_Wa_crosses (n : Nat) (C : Cn) (v0 v1 : Int) (Q : Int → Prop) : Prop :=
  okO n v1 7 ∧ (okO n v0 7 ∧ (P_Wa_turnTo n C v0 (C v1.toNat 2) (C v1.toNat 3) (fun (r_2 : Int) => P_Wa_turnTo n C v0 (C v1.toNat 4) (C v1.toNat 5) (fun (r_7 : Int) => P_Wa_areOpposite n C r_2 r_7 (fun (r_11 : Int) => (r_11 = 0 → (Q 0)) ∧ (¬ r_11 = 0 → (P_Wa_turnTo n C v1 (C v0.toNat 2) (C v0.toNat 3) (fun (r_16 : Int) => P_Wa_turnTo n C v1 (C v0.toNat 4) (C v0.toNat 5) (fun (r_20 : Int) => P_Wa_areOpposite n C r_16 r_20 (fun (r_24 : Int) => J_Wa_crosses_65 n C (if r_24 = 0 then 0 else 1) Q))))))))))
theorem m_Wa_crosses (l : Launch) (E : Ev) (n : Nat) (C : Cn) (v0 v1 : Int) (Q : Int → Prop) (h : P_Wa_crosses n C v0 v1 Q) : MA l y_Wa_crosses M_Wa_crosses E true C n [(2, v0), (2, v1)] (fun r C2 n2 => C2 = C ∧ n2 = n ∧ Q r) := by
  refine MA.of (by decide) rfl rfl 0 rfl (fun p e s m args below meth c => ?_)
  show AW p l e _ s m args below meth c E M_Wa_crosses true _ n 0 0 0 [(2, v0), (2, v1)] [] C
  unfold P_Wa_crosses at h
  refine AW.ra_n (dc hd_Wa_crosses 0 rfl) rfl rfl rfl ?_
  refine AW.ra_n (dc hd_Wa_crosses 1 rfl) rfl rfl rfl ?_
  obtain ⟨g_1, h⟩ := h
  refine AW.getf fl_7_32 (dc hd_Wa_crosses 2 rfl) g_1 ?_
  refine AW.ra_n (dc hd_Wa_crosses 3 rfl) rfl rfl rfl ?_
  refine AW.getf fl_7_35 (dc hd_Wa_crosses 4 rfl) g_1 ?_
  obtain ⟨g_3, h⟩ := h
  refine AW.callV (As := [(0, C v1.toNat 2), (0, C v1.toNat 3)]) (rest := []) (ci := 7) (m_Wa_turnTo l E n C v0 (C v1.toNat 2) (C v1.toNat 3) _ h) cb_7_44 im_Wa_turnTo se_Wa_turnTo ⟨_, _, rfl⟩ (by decide) (dc hd_Wa_crosses 5 rfl) g_3 rfl rfl ⟨Nat.le_of_ble_eq_true rfl, Nat.le_of_ble_eq_true rfl⟩ ⟨(Nat.le_of_ble_eq_true rfl), (Nat.le_of_ble_eq_true rfl)⟩ (Nat.le_of_ble_eq_true rfl) (fun _ h => by cases h) (fun _ => rfl) (fun r_2 D_5 d_6 q_4 => ?_)
  obtain ⟨q_4a, q_4b, h⟩ := q_4
  subst D_5
  subst d_6
  show AW p l e _ s m args below meth c E M_Wa_crosses true _ n _ _ _ [(2, v0), (2, v1)] [(0, r_2)] C
  refine AW.ra_n (dc hd_Wa_crosses 6 rfl) rfl rfl rfl ?_
  refine AW.ra_n (dc hd_Wa_crosses 7 rfl) rfl rfl rfl ?_
  refine AW.getf fl_7_38 (dc hd_Wa_crosses 8 rfl) g_1 ?_
  refine AW.ra_n (dc hd_Wa_crosses 9 rfl) rfl rfl rfl ?_
  refine AW.getf fl_7_41 (dc hd_Wa_crosses 10 rfl) g_1 ?_
  refine AW.callV (As := [(0, C v1.toNat 4), (0, C v1.toNat 5)]) (rest := [(0, r_2)]) (ci := 7) (m_Wa_turnTo l E n C v0 (C v1.toNat 4) (C v1.toNat 5) _ h) cb_7_44 im_Wa_turnTo se_Wa_turnTo ⟨_, _, rfl⟩ (by decide) (dc hd_Wa_crosses 11 rfl) g_3 rfl rfl ⟨Nat.le_of_ble_eq_true rfl, Nat.le_of_ble_eq_true rfl⟩ ⟨(Nat.le_of_ble_eq_true rfl), (Nat.le_of_ble_eq_true rfl)⟩ (Nat.le_of_ble_eq_true rfl) (fun _ h => by cases h) (fun _ => rfl) (fun r_7 D_9 d_10 q_8 => ?_)
  obtain ⟨q_8a, q_8b, h⟩ := q_8
  subst D_9
  subst d_10
  show AW p l e _ s m args below meth c E M_Wa_crosses true _ n _ _ _ [(2, v0), (2, v1)] [(0, r_7), (0, r_2)] C
  refine AW.callS (As := [(0, r_2), (0, r_7)]) (rest := []) (m_Wa_areOpposite l E n C r_2 r_7 _ h) cb_7_51 sm_Wa_areOpposite (dc hd_Wa_crosses 12 rfl) rfl rfl ⟨Nat.le_of_ble_eq_true rfl, Nat.le_of_ble_eq_true rfl⟩ ⟨(Nat.le_of_ble_eq_true rfl), (Nat.le_of_ble_eq_true rfl)⟩ (Nat.le_of_ble_eq_true rfl) (fun _ h => by cases h) (fun _ => rfl) (fun r_11 D_13 d_14 q_12 => ?_)
  obtain ⟨q_12a, q_12b, h⟩ := q_12
  subst D_13
  subst d_14
  show AW p l e _ s m args below meth c E M_Wa_crosses true _ n _ _ _ [(2, v0), (2, v1)] [(0, r_11)] C
  refine AW.if_eq (t := 64) (dc hd_Wa_crosses 13 rfl) (by decide) (fun c_15 => ?_) (fun c_15 => ?_)
  · have h := h.1 c_15
    refine AW.iconst (dc hd_Wa_crosses 30 rfl) (by decide) ?_
    exact AW.zret (dc hd_Wa_crosses 31 rfl) rfl rfl (Nat.le_of_ble_eq_true rfl) (Nat.le_of_ble_eq_true rfl) (by decide) ⟨rfl, rfl, h⟩
  · have h := h.2 c_15
    refine AW.ra_n (dc hd_Wa_crosses 14 rfl) rfl rfl rfl ?_
    refine AW.ra_n (dc hd_Wa_crosses 15 rfl) rfl rfl rfl ?_
    refine AW.getf fl_7_32 (dc hd_Wa_crosses 16 rfl) g_3 ?_
    refine AW.ra_n (dc hd_Wa_crosses 17 rfl) rfl rfl rfl ?_
    refine AW.getf fl_7_35 (dc hd_Wa_crosses 18 rfl) g_3 ?_
    refine AW.callV (As := [(0, C v0.toNat 2), (0, C v0.toNat 3)]) (rest := []) (ci := 7) (m_Wa_turnTo l E n C v1 (C v0.toNat 2) (C v0.toNat 3) _ h) cb_7_44 im_Wa_turnTo se_Wa_turnTo ⟨_, _, rfl⟩ (by decide) (dc hd_Wa_crosses 19 rfl) g_1 rfl rfl ⟨Nat.le_of_ble_eq_true rfl, Nat.le_of_ble_eq_true rfl⟩ ⟨(Nat.le_of_ble_eq_true rfl), (Nat.le_of_ble_eq_true rfl)⟩ (Nat.le_of_ble_eq_true rfl) (fun _ h => by cases h) (fun _ => rfl) (fun r_16 D_18 d_19 q_17 => ?_)
    obtain ⟨q_17a, q_17b, h⟩ := q_17
    subst D_18
    subst d_19
    show AW p l e _ s m args below meth c E M_Wa_crosses true _ n _ _ _ [(2, v0), (2, v1)] [(0, r_16)] C
    refine AW.ra_n (dc hd_Wa_crosses 20 rfl) rfl rfl rfl ?_
    refine AW.ra_n (dc hd_Wa_crosses 21 rfl) rfl rfl rfl ?_
    refine AW.getf fl_7_38 (dc hd_Wa_crosses 22 rfl) g_3 ?_
    refine AW.ra_n (dc hd_Wa_crosses 23 rfl) rfl rfl rfl ?_
    refine AW.getf fl_7_41 (dc hd_Wa_crosses 24 rfl) g_3 ?_
    refine AW.callV (As := [(0, C v0.toNat 4), (0, C v0.toNat 5)]) (rest := [(0, r_16)]) (ci := 7) (m_Wa_turnTo l E n C v1 (C v0.toNat 4) (C v0.toNat 5) _ h) cb_7_44 im_Wa_turnTo se_Wa_turnTo ⟨_, _, rfl⟩ (by decide) (dc hd_Wa_crosses 25 rfl) g_1 rfl rfl ⟨Nat.le_of_ble_eq_true rfl, Nat.le_of_ble_eq_true rfl⟩ ⟨(Nat.le_of_ble_eq_true rfl), (Nat.le_of_ble_eq_true rfl)⟩ (Nat.le_of_ble_eq_true rfl) (fun _ h => by cases h) (fun _ => rfl) (fun r_20 D_22 d_23 q_21 => ?_)
    obtain ⟨q_21a, q_21b, h⟩ := q_21
    subst D_22
    subst d_23
    show AW p l e _ s m args below meth c E M_Wa_crosses true _ n _ _ _ [(2, v0), (2, v1)] [(0, r_20), (0, r_16)] C
    refine AW.callS (As := [(0, r_16), (0, r_20)]) (rest := []) (m_Wa_areOpposite l E n C r_16 r_20 _ h) cb_7_51 sm_Wa_areOpposite (dc hd_Wa_crosses 26 rfl) rfl rfl ⟨Nat.le_of_ble_eq_true rfl, Nat.le_of_ble_eq_true rfl⟩ ⟨(Nat.le_of_ble_eq_true rfl), (Nat.le_of_ble_eq_true rfl)⟩ (Nat.le_of_ble_eq_true rfl) (fun _ h => by cases h) (fun _ => rfl) (fun r_24 D_26 d_27 q_25 => ?_)
    obtain ⟨q_25a, q_25b, h⟩ := q_25
    subst D_26
    subst d_27
    show AW p l e _ s m args below meth c E M_Wa_crosses true _ n _ _ _ [(2, v0), (2, v1)] [(0, r_24)] C
    refine AW.if_eq (t := 64) (dc hd_Wa_crosses 27 rfl) (by decide) (fun c_28 => ?_) (fun c_28 => ?_)
    · simp only [if_pos (show r_24 = 0 from c_28)] at h
      refine AW.iconst (dc hd_Wa_crosses 30 rfl) (by decide) ?_
      refine AW.fgt [(9, 0), (9, 0)] ⟨.inr rfl, .inr rfl, trivial⟩ ?_
      exact aJ_Wa_crosses_65 n C _ Q h
    · simp only [if_neg (show ¬ (r_24 = 0) from c_28)] at h
      refine AW.iconst (dc hd_Wa_crosses 28 rfl) (by decide) ?_
      refine AW.goto (t := 65) (dc hd_Wa_crosses 29 rfl) (by decide) ?_
      refine AW.fgt [(9, 0), (9, 0)] ⟨.inr rfl, .inr rfl, trivial⟩ ?_
      exact aJ_Wa_crosses_65 n C _ Q h
def J_Wa_isEnd_37 (n : Nat) (C : Cn) (s0 : Int) (Q : Int → Prop) : Prop :=
  (s0 = 0 ∨ s0 = 1) ∧ (Q s0)
theorem aJ_Wa_isEnd_37 (n : Nat) (C : Cn) (s0 : Int) (Q : Int → Prop) (h : J_Wa_isEnd_37 n C s0 Q) : AW p l e R s m args below meth c E M_Wa_isEnd true (fun r C2 n2 => C2 = C ∧ n2 = n ∧ Q r) n 0 0 37 [(9, 0), (9, 0), (9, 0)] [(0, s0)] C := by
  unfold J_Wa_isEnd_37 at h
  obtain ⟨g_8, h⟩ := h
  exact AW.zret (dc hd_Wa_isEnd 19 rfl) rfl rfl (Nat.le_of_ble_eq_true rfl) (Nat.le_of_ble_eq_true rfl) g_8 ⟨rfl, rfl, h⟩
def P_Wa_isEnd (n : Nat) (C : Cn) (v0 v1 v2 : Int) (Q : Int → Prop) : Prop :=
  okO n v0 7 ∧ (J_Wa_isEnd_37 n C (if v1 = C v0.toNat 2 then (if v2 = C v0.toNat 3 then 1 else (if v1 = C v0.toNat 4 then (if v2 = C v0.toNat 5 then 1 else 0) else 0)) else (if v1 = C v0.toNat 4 then (if v2 = C v0.toNat 5 then 1 else 0) else 0)) Q)
theorem m_Wa_isEnd (l : Launch) (E : Ev) (n : Nat) (C : Cn) (v0 v1 v2 : Int) (Q : Int → Prop) (h : P_Wa_isEnd n C v0 v1 v2 Q) : MA l y_Wa_isEnd M_Wa_isEnd E true C n [(2, v0), (0, v1), (0, v2)] (fun r C2 n2 => C2 = C ∧ n2 = n ∧ Q r) := by
  refine MA.of (by decide) rfl rfl 0 rfl (fun p e s m args below meth c => ?_)
  show AW p l e _ s m args below meth c E M_Wa_isEnd true _ n 0 0 0 [(2, v0), (0, v1), (0, v2)] [] C
  unfold P_Wa_isEnd at h
  refine AW.iload_n (dc hd_Wa_isEnd 0 rfl) rfl ?_
  refine AW.ra_n (dc hd_Wa_isEnd 1 rfl) rfl rfl rfl ?_
  obtain ⟨g_1, h⟩ := h
  refine AW.getf fl_7_32 (dc hd_Wa_isEnd 2 rfl) g_1 ?_
  refine AW.icmp_ne (t := 16) (dc hd_Wa_isEnd 3 rfl) (by decide) (fun c_2 => ?_) (fun c_2 => ?_)
  · simp only [if_neg (show ¬ (v1 = C v0.toNat 2) from c_2)] at h
    refine AW.iload_n (dc hd_Wa_isEnd 8 rfl) rfl ?_
    refine AW.ra_n (dc hd_Wa_isEnd 9 rfl) rfl rfl rfl ?_
    refine AW.getf fl_7_38 (dc hd_Wa_isEnd 10 rfl) g_1 ?_
    refine AW.icmp_ne (t := 36) (dc hd_Wa_isEnd 11 rfl) (by decide) (fun c_3 => ?_) (fun c_3 => ?_)
    · simp only [if_neg (show ¬ (v1 = C v0.toNat 4) from c_3)] at h
      refine AW.iconst (dc hd_Wa_isEnd 18 rfl) (by decide) ?_
      refine AW.fgt [(9, 0), (9, 0), (9, 0)] ⟨.inr rfl, .inr rfl, .inr rfl, trivial⟩ ?_
      exact aJ_Wa_isEnd_37 n C _ Q h
    · simp only [if_pos (show v1 = C v0.toNat 4 from c_3)] at h
      refine AW.iload_n (dc hd_Wa_isEnd 12 rfl) rfl ?_
      refine AW.ra_n (dc hd_Wa_isEnd 13 rfl) rfl rfl rfl ?_
      refine AW.getf fl_7_41 (dc hd_Wa_isEnd 14 rfl) g_1 ?_
      refine AW.icmp_ne (t := 36) (dc hd_Wa_isEnd 15 rfl) (by decide) (fun c_4 => ?_) (fun c_4 => ?_)
      · simp only [if_neg (show ¬ (v2 = C v0.toNat 5) from c_4)] at h
        refine AW.iconst (dc hd_Wa_isEnd 18 rfl) (by decide) ?_
        refine AW.fgt [(9, 0), (9, 0), (9, 0)] ⟨.inr rfl, .inr rfl, .inr rfl, trivial⟩ ?_
        exact aJ_Wa_isEnd_37 n C _ Q h
      · simp only [if_pos (show v2 = C v0.toNat 5 from c_4)] at h
        refine AW.iconst (dc hd_Wa_isEnd 16 rfl) (by decide) ?_
        refine AW.goto (t := 37) (dc hd_Wa_isEnd 17 rfl) (by decide) ?_
        refine AW.fgt [(9, 0), (9, 0), (9, 0)] ⟨.inr rfl, .inr rfl, .inr rfl, trivial⟩ ?_
        exact aJ_Wa_isEnd_37 n C _ Q h
  · simp only [if_pos (show v1 = C v0.toNat 2 from c_2)] at h
    refine AW.iload_n (dc hd_Wa_isEnd 4 rfl) rfl ?_
    refine AW.ra_n (dc hd_Wa_isEnd 5 rfl) rfl rfl rfl ?_
    refine AW.getf fl_7_35 (dc hd_Wa_isEnd 6 rfl) g_1 ?_
    refine AW.icmp_eq (t := 32) (dc hd_Wa_isEnd 7 rfl) (by decide) (fun c_5 => ?_) (fun c_5 => ?_)
    · simp only [if_pos (show v2 = C v0.toNat 3 from c_5)] at h
      refine AW.iconst (dc hd_Wa_isEnd 16 rfl) (by decide) ?_
      refine AW.goto (t := 37) (dc hd_Wa_isEnd 17 rfl) (by decide) ?_
      refine AW.fgt [(9, 0), (9, 0), (9, 0)] ⟨.inr rfl, .inr rfl, .inr rfl, trivial⟩ ?_
      exact aJ_Wa_isEnd_37 n C _ Q h
    · simp only [if_neg (show ¬ (v2 = C v0.toNat 3) from c_5)] at h
      refine AW.iload_n (dc hd_Wa_isEnd 8 rfl) rfl ?_
      refine AW.ra_n (dc hd_Wa_isEnd 9 rfl) rfl rfl rfl ?_
      refine AW.getf fl_7_38 (dc hd_Wa_isEnd 10 rfl) g_1 ?_
      refine AW.icmp_ne (t := 36) (dc hd_Wa_isEnd 11 rfl) (by decide) (fun c_6 => ?_) (fun c_6 => ?_)
      · simp only [if_neg (show ¬ (v1 = C v0.toNat 4) from c_6)] at h
        refine AW.iconst (dc hd_Wa_isEnd 18 rfl) (by decide) ?_
        refine AW.fgt [(9, 0), (9, 0), (9, 0)] ⟨.inr rfl, .inr rfl, .inr rfl, trivial⟩ ?_
        exact aJ_Wa_isEnd_37 n C _ Q h
      · simp only [if_pos (show v1 = C v0.toNat 4 from c_6)] at h
        refine AW.iload_n (dc hd_Wa_isEnd 12 rfl) rfl ?_
        refine AW.ra_n (dc hd_Wa_isEnd 13 rfl) rfl rfl rfl ?_
        refine AW.getf fl_7_41 (dc hd_Wa_isEnd 14 rfl) g_1 ?_
        refine AW.icmp_ne (t := 36) (dc hd_Wa_isEnd 15 rfl) (by decide) (fun c_7 => ?_) (fun c_7 => ?_)
        · simp only [if_neg (show ¬ (v2 = C v0.toNat 5) from c_7)] at h
          refine AW.iconst (dc hd_Wa_isEnd 18 rfl) (by decide) ?_
          refine AW.fgt [(9, 0), (9, 0), (9, 0)] ⟨.inr rfl, .inr rfl, .inr rfl, trivial⟩ ?_
          exact aJ_Wa_isEnd_37 n C _ Q h
        · simp only [if_pos (show v2 = C v0.toNat 5 from c_7)] at h
          refine AW.iconst (dc hd_Wa_isEnd 16 rfl) (by decide) ?_
          refine AW.goto (t := 37) (dc hd_Wa_isEnd 17 rfl) (by decide) ?_
          refine AW.fgt [(9, 0), (9, 0), (9, 0)] ⟨.inr rfl, .inr rfl, .inr rfl, trivial⟩ ?_
          exact aJ_Wa_isEnd_37 n C _ Q h
def J_Wa_isAhead_20 (n : Nat) (C : Cn) (s0 : Int) (Q : Int → Prop) : Prop :=
  (s0 = 0 ∨ s0 = 1) ∧ (Q s0)
theorem aJ_Wa_isAhead_20 (n : Nat) (C : Cn) (s0 : Int) (Q : Int → Prop) (h : J_Wa_isAhead_20 n C s0 Q) : AW p l e R s m args below meth c E M_Wa_isAhead true (fun r C2 n2 => C2 = C ∧ n2 = n ∧ Q r) n 0 0 20 [(9, 0), (9, 0), (9, 0), (9, 0)] [(0, s0)] C := by
  unfold J_Wa_isAhead_20 at h
  obtain ⟨g_4, h⟩ := h
  exact AW.zret (dc hd_Wa_isAhead 12 rfl) rfl rfl (Nat.le_of_ble_eq_true rfl) (Nat.le_of_ble_eq_true rfl) g_4 ⟨rfl, rfl, h⟩
def P_Wa_isAhead (n : Nat) (C : Cn) (v0 v1 v2 v3 : Int) (Q : Int → Prop) : Prop :=
  J_Wa_isAhead_20 n C (if v0 < v2 then 1 else (if v0 = v2 then (if v3 ≤ v1 then 0 else 1) else 0)) Q
theorem m_Wa_isAhead (l : Launch) (E : Ev) (n : Nat) (C : Cn) (v0 v1 v2 v3 : Int) (Q : Int → Prop) (h : P_Wa_isAhead n C v0 v1 v2 v3 Q) : MA l y_Wa_isAhead M_Wa_isAhead E true C n [(0, v0), (0, v1), (0, v2), (0, v3)] (fun r C2 n2 => C2 = C ∧ n2 = n ∧ Q r) := by
  refine MA.of (by decide) rfl rfl 0 rfl (fun p e s m args below meth c => ?_)
  show AW p l e _ s m args below meth c E M_Wa_isAhead true _ n 0 0 0 [(0, v0), (0, v1), (0, v2), (0, v3)] [] C
  unfold P_Wa_isAhead at h
  refine AW.iload_n (dc hd_Wa_isAhead 0 rfl) rfl ?_
  refine AW.iload_n (dc hd_Wa_isAhead 1 rfl) rfl ?_
  refine AW.icmp_lt (t := 15) (dc hd_Wa_isAhead 2 rfl) (by decide) (fun c_1 => ?_) (fun c_1 => ?_)
  · simp only [if_pos (show v0 < v2 from c_1)] at h
    refine AW.iconst (dc hd_Wa_isAhead 9 rfl) (by decide) ?_
    refine AW.goto (t := 20) (dc hd_Wa_isAhead 10 rfl) (by decide) ?_
    refine AW.fgt [(9, 0), (9, 0), (9, 0), (9, 0)] ⟨.inr rfl, .inr rfl, .inr rfl, .inr rfl, trivial⟩ ?_
    exact aJ_Wa_isAhead_20 n C _ Q h
  · simp only [if_neg (show ¬ (v0 < v2) from c_1)] at h
    refine AW.iload_n (dc hd_Wa_isAhead 3 rfl) rfl ?_
    refine AW.iload_n (dc hd_Wa_isAhead 4 rfl) rfl ?_
    refine AW.icmp_ne (t := 19) (dc hd_Wa_isAhead 5 rfl) (by decide) (fun c_2 => ?_) (fun c_2 => ?_)
    · simp only [if_neg (show ¬ (v0 = v2) from c_2)] at h
      refine AW.iconst (dc hd_Wa_isAhead 11 rfl) (by decide) ?_
      refine AW.fgt [(9, 0), (9, 0), (9, 0), (9, 0)] ⟨.inr rfl, .inr rfl, .inr rfl, .inr rfl, trivial⟩ ?_
      exact aJ_Wa_isAhead_20 n C _ Q h
    · simp only [if_pos (show v0 = v2 from c_2)] at h
      refine AW.iload_n (dc hd_Wa_isAhead 6 rfl) rfl ?_
      refine AW.iload_n (dc hd_Wa_isAhead 7 rfl) rfl ?_
      refine AW.icmp_ge (t := 19) (dc hd_Wa_isAhead 8 rfl) (by decide) (fun c_3 => ?_) (fun c_3 => ?_)
      · simp only [if_pos (show v3 ≤ v1 from c_3)] at h
        refine AW.iconst (dc hd_Wa_isAhead 11 rfl) (by decide) ?_
        refine AW.fgt [(9, 0), (9, 0), (9, 0), (9, 0)] ⟨.inr rfl, .inr rfl, .inr rfl, .inr rfl, trivial⟩ ?_
        exact aJ_Wa_isAhead_20 n C _ Q h
      · simp only [if_neg (show ¬ (v3 ≤ v1) from c_3)] at h
        refine AW.iconst (dc hd_Wa_isAhead 9 rfl) (by decide) ?_
        refine AW.goto (t := 20) (dc hd_Wa_isAhead 10 rfl) (by decide) ?_
        refine AW.fgt [(9, 0), (9, 0), (9, 0), (9, 0)] ⟨.inr rfl, .inr rfl, .inr rfl, .inr rfl, trivial⟩ ?_
        exact aJ_Wa_isAhead_20 n C _ Q h
def J_Wa_carriesInside_46 (n : Nat) (C : Cn) (s0 : Int) (Q : Int → Prop) : Prop :=
  (s0 = 0 ∨ s0 = 1) ∧ (Q s0)
theorem aJ_Wa_carriesInside_46 (n : Nat) (C : Cn) (s0 : Int) (Q : Int → Prop) (h : J_Wa_carriesInside_46 n C s0 Q) : AW p l e R s m args below meth c E M_Wa_carriesInside true (fun r C2 n2 => C2 = C ∧ n2 = n ∧ Q r) n 0 0 46 [(9, 0), (9, 0), (9, 0)] [(0, s0)] C := by
  unfold J_Wa_carriesInside_46 at h
  obtain ⟨g_17, h⟩ := h
  exact AW.zret (dc hd_Wa_carriesInside 24 rfl) rfl rfl (Nat.le_of_ble_eq_true rfl) (Nat.le_of_ble_eq_true rfl) g_17 ⟨rfl, rfl, h⟩
def P_Wa_carriesInside (n : Nat) (C : Cn) (v0 v1 v2 : Int) (Q : Int → Prop) : Prop :=
  okO n v0 7 ∧ (P_Wa_turnTo n C v0 v1 v2 (fun (r_1 : Int) => (r_1 = 0 → (P_Wa_isAhead n C (C v0.toNat 2) (C v0.toNat 3) v1 v2 (fun (r_7 : Int) => (r_7 = 0 → (Q 0)) ∧ (¬ r_7 = 0 → (P_Wa_isAhead n C v1 v2 (C v0.toNat 4) (C v0.toNat 5) (fun (r_12 : Int) => J_Wa_carriesInside_46 n C (if r_12 = 0 then 0 else 1) Q)))))) ∧ (¬ r_1 = 0 → (Q 0))))
theorem m_Wa_carriesInside (l : Launch) (E : Ev) (n : Nat) (C : Cn) (v0 v1 v2 : Int) (Q : Int → Prop) (h : P_Wa_carriesInside n C v0 v1 v2 Q) : MA l y_Wa_carriesInside M_Wa_carriesInside E true C n [(2, v0), (0, v1), (0, v2)] (fun r C2 n2 => C2 = C ∧ n2 = n ∧ Q r) := by
  refine MA.of (by decide) rfl rfl 0 rfl (fun p e s m args below meth c => ?_)
  show AW p l e _ s m args below meth c E M_Wa_carriesInside true _ n 0 0 0 [(2, v0), (0, v1), (0, v2)] [] C
  unfold P_Wa_carriesInside at h
  refine AW.ra_n (dc hd_Wa_carriesInside 0 rfl) rfl rfl rfl ?_
  refine AW.iload_n (dc hd_Wa_carriesInside 1 rfl) rfl ?_
  refine AW.iload_n (dc hd_Wa_carriesInside 2 rfl) rfl ?_
  obtain ⟨g_2, h⟩ := h
  refine AW.callV (As := [(0, v1), (0, v2)]) (rest := []) (ci := 7) (m_Wa_turnTo l E n C v0 v1 v2 _ h) cb_7_44 im_Wa_turnTo se_Wa_turnTo ⟨_, _, rfl⟩ (by decide) (dc hd_Wa_carriesInside 3 rfl) g_2 rfl rfl ⟨Nat.le_of_ble_eq_true rfl, Nat.le_of_ble_eq_true rfl⟩ ⟨(Nat.le_of_ble_eq_true rfl), (Nat.le_of_ble_eq_true rfl)⟩ (Nat.le_of_ble_eq_true rfl) (fun _ h => by cases h) (fun _ => rfl) (fun r_1 D_4 d_5 q_3 => ?_)
  obtain ⟨q_3a, q_3b, h⟩ := q_3
  subst D_4
  subst d_5
  show AW p l e _ s m args below meth c E M_Wa_carriesInside true _ n _ _ _ [(2, v0), (0, v1), (0, v2)] [(0, r_1)] C
  refine AW.if_ne (t := 45) (dc hd_Wa_carriesInside 4 rfl) (by decide) (fun c_6 => ?_) (fun c_6 => ?_)
  · have h := h.2 c_6
    refine AW.iconst (dc hd_Wa_carriesInside 23 rfl) (by decide) ?_
    exact AW.zret (dc hd_Wa_carriesInside 24 rfl) rfl rfl (Nat.le_of_ble_eq_true rfl) (Nat.le_of_ble_eq_true rfl) (by decide) ⟨rfl, rfl, h⟩
  · have h := h.1 c_6
    refine AW.ra_n (dc hd_Wa_carriesInside 5 rfl) rfl rfl rfl ?_
    refine AW.getf fl_7_32 (dc hd_Wa_carriesInside 6 rfl) g_2 ?_
    refine AW.ra_n (dc hd_Wa_carriesInside 7 rfl) rfl rfl rfl ?_
    refine AW.getf fl_7_35 (dc hd_Wa_carriesInside 8 rfl) g_2 ?_
    refine AW.iload_n (dc hd_Wa_carriesInside 9 rfl) rfl ?_
    refine AW.iload_n (dc hd_Wa_carriesInside 10 rfl) rfl ?_
    refine AW.callS (As := [(0, C v0.toNat 2), (0, C v0.toNat 3), (0, v1), (0, v2)]) (rest := []) (m_Wa_isAhead l E n C (C v0.toNat 2) (C v0.toNat 3) v1 v2 _ h) cb_7_28 sm_Wa_isAhead (dc hd_Wa_carriesInside 11 rfl) rfl rfl ⟨Nat.le_of_ble_eq_true rfl, Nat.le_of_ble_eq_true rfl⟩ ⟨(Nat.le_of_ble_eq_true rfl), (Nat.le_of_ble_eq_true rfl)⟩ (Nat.le_of_ble_eq_true rfl) (fun _ h => by cases h) (fun _ => rfl) (fun r_7 D_9 d_10 q_8 => ?_)
    obtain ⟨q_8a, q_8b, h⟩ := q_8
    subst D_9
    subst d_10
    show AW p l e _ s m args below meth c E M_Wa_carriesInside true _ n _ _ _ [(2, v0), (0, v1), (0, v2)] [(0, r_7)] C
    refine AW.if_eq (t := 45) (dc hd_Wa_carriesInside 12 rfl) (by decide) (fun c_11 => ?_) (fun c_11 => ?_)
    · have h := h.1 c_11
      refine AW.iconst (dc hd_Wa_carriesInside 23 rfl) (by decide) ?_
      exact AW.zret (dc hd_Wa_carriesInside 24 rfl) rfl rfl (Nat.le_of_ble_eq_true rfl) (Nat.le_of_ble_eq_true rfl) (by decide) ⟨rfl, rfl, h⟩
    · have h := h.2 c_11
      refine AW.iload_n (dc hd_Wa_carriesInside 13 rfl) rfl ?_
      refine AW.iload_n (dc hd_Wa_carriesInside 14 rfl) rfl ?_
      refine AW.ra_n (dc hd_Wa_carriesInside 15 rfl) rfl rfl rfl ?_
      refine AW.getf fl_7_38 (dc hd_Wa_carriesInside 16 rfl) g_2 ?_
      refine AW.ra_n (dc hd_Wa_carriesInside 17 rfl) rfl rfl rfl ?_
      refine AW.getf fl_7_41 (dc hd_Wa_carriesInside 18 rfl) g_2 ?_
      refine AW.callS (As := [(0, v1), (0, v2), (0, C v0.toNat 4), (0, C v0.toNat 5)]) (rest := []) (m_Wa_isAhead l E n C v1 v2 (C v0.toNat 4) (C v0.toNat 5) _ h) cb_7_28 sm_Wa_isAhead (dc hd_Wa_carriesInside 19 rfl) rfl rfl ⟨Nat.le_of_ble_eq_true rfl, Nat.le_of_ble_eq_true rfl⟩ ⟨(Nat.le_of_ble_eq_true rfl), (Nat.le_of_ble_eq_true rfl)⟩ (Nat.le_of_ble_eq_true rfl) (fun _ h => by cases h) (fun _ => rfl) (fun r_12 D_14 d_15 q_13 => ?_)
      obtain ⟨q_13a, q_13b, h⟩ := q_13
      subst D_14
      subst d_15
      show AW p l e _ s m args below meth c E M_Wa_carriesInside true _ n _ _ _ [(2, v0), (0, v1), (0, v2)] [(0, r_12)] C
      refine AW.if_eq (t := 45) (dc hd_Wa_carriesInside 20 rfl) (by decide) (fun c_16 => ?_) (fun c_16 => ?_)
      · simp only [if_pos (show r_12 = 0 from c_16)] at h
        refine AW.iconst (dc hd_Wa_carriesInside 23 rfl) (by decide) ?_
        refine AW.fgt [(9, 0), (9, 0), (9, 0)] ⟨.inr rfl, .inr rfl, .inr rfl, trivial⟩ ?_
        exact aJ_Wa_carriesInside_46 n C _ Q h
      · simp only [if_neg (show ¬ (r_12 = 0) from c_16)] at h
        refine AW.iconst (dc hd_Wa_carriesInside 21 rfl) (by decide) ?_
        refine AW.goto (t := 46) (dc hd_Wa_carriesInside 22 rfl) (by decide) ?_
        refine AW.fgt [(9, 0), (9, 0), (9, 0)] ⟨.inr rfl, .inr rfl, .inr rfl, trivial⟩ ?_
        exact aJ_Wa_carriesInside_46 n C _ Q h
def J_Wa_isApartFrom_105 (n : Nat) (C : Cn) (s0 : Int) (Q : Int → Prop) : Prop :=
  (s0 = 0 ∨ s0 = 1) ∧ (Q s0)
theorem aJ_Wa_isApartFrom_105 (n : Nat) (C : Cn) (s0 : Int) (Q : Int → Prop) (h : J_Wa_isApartFrom_105 n C s0 Q) : AW p l e R s m args below meth c E M_Wa_isApartFrom true (fun r C2 n2 => C2 = C ∧ n2 = n ∧ Q r) n 0 0 105 [(9, 0), (9, 0)] [(0, s0)] C := by
  unfold J_Wa_isApartFrom_105 at h
  obtain ⟨g_35, h⟩ := h
  exact AW.zret (dc hd_Wa_isApartFrom 51 rfl) rfl rfl (Nat.le_of_ble_eq_true rfl) (Nat.le_of_ble_eq_true rfl) g_35 ⟨rfl, rfl, h⟩
def J_Wa_isApartFrom_40 (n : Nat) (C : Cn) (v0 v1 : Int) (Q : Int → Prop) : Prop :=
  okO n v1 7 ∧ (okO n v0 7 ∧ (P_Wa_carriesInside n C v0 (C v1.toNat 2) (C v1.toNat 3) (fun (r_14 : Int) => (r_14 = 0 → (P_Wa_carriesInside n C v0 (C v1.toNat 4) (C v1.toNat 5) (fun (r_20 : Int) => (r_20 = 0 → (P_Wa_carriesInside n C v1 (C v0.toNat 2) (C v0.toNat 3) (fun (r_25 : Int) => (r_25 = 0 → (P_Wa_carriesInside n C v1 (C v0.toNat 4) (C v0.toNat 5) (fun (r_30 : Int) => J_Wa_isApartFrom_105 n C (if r_30 = 0 then 1 else 0) Q))) ∧ (¬ r_25 = 0 → (Q 0))))) ∧ (¬ r_20 = 0 → (Q 0))))) ∧ (¬ r_14 = 0 → (Q 0)))))
theorem aJ_Wa_isApartFrom_40 (n : Nat) (C : Cn) (v0 v1 : Int) (Q : Int → Prop) (h : J_Wa_isApartFrom_40 n C v0 v1 Q) : AW p l e R s m args below meth c E M_Wa_isApartFrom true (fun r C2 n2 => C2 = C ∧ n2 = n ∧ Q r) n 0 0 40 [(2, v0), (2, v1)] [] C := by
  unfold J_Wa_isApartFrom_40 at h
  refine AW.ra_n (dc hd_Wa_isApartFrom 20 rfl) rfl rfl rfl ?_
  refine AW.ra_n (dc hd_Wa_isApartFrom 21 rfl) rfl rfl rfl ?_
  obtain ⟨g_13, h⟩ := h
  refine AW.getf fl_7_32 (dc hd_Wa_isApartFrom 22 rfl) g_13 ?_
  refine AW.ra_n (dc hd_Wa_isApartFrom 23 rfl) rfl rfl rfl ?_
  refine AW.getf fl_7_35 (dc hd_Wa_isApartFrom 24 rfl) g_13 ?_
  obtain ⟨g_15, h⟩ := h
  refine AW.callV (As := [(0, C v1.toNat 2), (0, C v1.toNat 3)]) (rest := []) (ci := 7) (m_Wa_carriesInside l E n C v0 (C v1.toNat 2) (C v1.toNat 3) _ h) cb_7_64 im_Wa_carriesInside se_Wa_carriesInside ⟨_, _, rfl⟩ (by decide) (dc hd_Wa_isApartFrom 25 rfl) g_15 rfl rfl ⟨Nat.le_of_ble_eq_true rfl, Nat.le_of_ble_eq_true rfl⟩ ⟨(Nat.le_of_ble_eq_true rfl), (Nat.le_of_ble_eq_true rfl)⟩ (Nat.le_of_ble_eq_true rfl) (fun _ h => by cases h) (fun _ => rfl) (fun r_14 D_17 d_18 q_16 => ?_)
  obtain ⟨q_16a, q_16b, h⟩ := q_16
  subst D_17
  subst d_18
  show AW p l e _ s m args below meth c E M_Wa_isApartFrom true _ n _ _ _ [(2, v0), (2, v1)] [(0, r_14)] C
  refine AW.if_ne (t := 104) (dc hd_Wa_isApartFrom 26 rfl) (by decide) (fun c_19 => ?_) (fun c_19 => ?_)
  · have h := h.2 c_19
    refine AW.iconst (dc hd_Wa_isApartFrom 50 rfl) (by decide) ?_
    exact AW.zret (dc hd_Wa_isApartFrom 51 rfl) rfl rfl (Nat.le_of_ble_eq_true rfl) (Nat.le_of_ble_eq_true rfl) (by decide) ⟨rfl, rfl, h⟩
  · have h := h.1 c_19
    refine AW.ra_n (dc hd_Wa_isApartFrom 27 rfl) rfl rfl rfl ?_
    refine AW.ra_n (dc hd_Wa_isApartFrom 28 rfl) rfl rfl rfl ?_
    refine AW.getf fl_7_38 (dc hd_Wa_isApartFrom 29 rfl) g_13 ?_
    refine AW.ra_n (dc hd_Wa_isApartFrom 30 rfl) rfl rfl rfl ?_
    refine AW.getf fl_7_41 (dc hd_Wa_isApartFrom 31 rfl) g_13 ?_
    refine AW.callV (As := [(0, C v1.toNat 4), (0, C v1.toNat 5)]) (rest := []) (ci := 7) (m_Wa_carriesInside l E n C v0 (C v1.toNat 4) (C v1.toNat 5) _ h) cb_7_64 im_Wa_carriesInside se_Wa_carriesInside ⟨_, _, rfl⟩ (by decide) (dc hd_Wa_isApartFrom 32 rfl) g_15 rfl rfl ⟨Nat.le_of_ble_eq_true rfl, Nat.le_of_ble_eq_true rfl⟩ ⟨(Nat.le_of_ble_eq_true rfl), (Nat.le_of_ble_eq_true rfl)⟩ (Nat.le_of_ble_eq_true rfl) (fun _ h => by cases h) (fun _ => rfl) (fun r_20 D_22 d_23 q_21 => ?_)
    obtain ⟨q_21a, q_21b, h⟩ := q_21
    subst D_22
    subst d_23
    show AW p l e _ s m args below meth c E M_Wa_isApartFrom true _ n _ _ _ [(2, v0), (2, v1)] [(0, r_20)] C
    refine AW.if_ne (t := 104) (dc hd_Wa_isApartFrom 33 rfl) (by decide) (fun c_24 => ?_) (fun c_24 => ?_)
    · have h := h.2 c_24
      refine AW.iconst (dc hd_Wa_isApartFrom 50 rfl) (by decide) ?_
      exact AW.zret (dc hd_Wa_isApartFrom 51 rfl) rfl rfl (Nat.le_of_ble_eq_true rfl) (Nat.le_of_ble_eq_true rfl) (by decide) ⟨rfl, rfl, h⟩
    · have h := h.1 c_24
      refine AW.ra_n (dc hd_Wa_isApartFrom 34 rfl) rfl rfl rfl ?_
      refine AW.ra_n (dc hd_Wa_isApartFrom 35 rfl) rfl rfl rfl ?_
      refine AW.getf fl_7_32 (dc hd_Wa_isApartFrom 36 rfl) g_15 ?_
      refine AW.ra_n (dc hd_Wa_isApartFrom 37 rfl) rfl rfl rfl ?_
      refine AW.getf fl_7_35 (dc hd_Wa_isApartFrom 38 rfl) g_15 ?_
      refine AW.callV (As := [(0, C v0.toNat 2), (0, C v0.toNat 3)]) (rest := []) (ci := 7) (m_Wa_carriesInside l E n C v1 (C v0.toNat 2) (C v0.toNat 3) _ h) cb_7_64 im_Wa_carriesInside se_Wa_carriesInside ⟨_, _, rfl⟩ (by decide) (dc hd_Wa_isApartFrom 39 rfl) g_13 rfl rfl ⟨Nat.le_of_ble_eq_true rfl, Nat.le_of_ble_eq_true rfl⟩ ⟨(Nat.le_of_ble_eq_true rfl), (Nat.le_of_ble_eq_true rfl)⟩ (Nat.le_of_ble_eq_true rfl) (fun _ h => by cases h) (fun _ => rfl) (fun r_25 D_27 d_28 q_26 => ?_)
      obtain ⟨q_26a, q_26b, h⟩ := q_26
      subst D_27
      subst d_28
      show AW p l e _ s m args below meth c E M_Wa_isApartFrom true _ n _ _ _ [(2, v0), (2, v1)] [(0, r_25)] C
      refine AW.if_ne (t := 104) (dc hd_Wa_isApartFrom 40 rfl) (by decide) (fun c_29 => ?_) (fun c_29 => ?_)
      · have h := h.2 c_29
        refine AW.iconst (dc hd_Wa_isApartFrom 50 rfl) (by decide) ?_
        exact AW.zret (dc hd_Wa_isApartFrom 51 rfl) rfl rfl (Nat.le_of_ble_eq_true rfl) (Nat.le_of_ble_eq_true rfl) (by decide) ⟨rfl, rfl, h⟩
      · have h := h.1 c_29
        refine AW.ra_n (dc hd_Wa_isApartFrom 41 rfl) rfl rfl rfl ?_
        refine AW.ra_n (dc hd_Wa_isApartFrom 42 rfl) rfl rfl rfl ?_
        refine AW.getf fl_7_38 (dc hd_Wa_isApartFrom 43 rfl) g_15 ?_
        refine AW.ra_n (dc hd_Wa_isApartFrom 44 rfl) rfl rfl rfl ?_
        refine AW.getf fl_7_41 (dc hd_Wa_isApartFrom 45 rfl) g_15 ?_
        refine AW.callV (As := [(0, C v0.toNat 4), (0, C v0.toNat 5)]) (rest := []) (ci := 7) (m_Wa_carriesInside l E n C v1 (C v0.toNat 4) (C v0.toNat 5) _ h) cb_7_64 im_Wa_carriesInside se_Wa_carriesInside ⟨_, _, rfl⟩ (by decide) (dc hd_Wa_isApartFrom 46 rfl) g_13 rfl rfl ⟨Nat.le_of_ble_eq_true rfl, Nat.le_of_ble_eq_true rfl⟩ ⟨(Nat.le_of_ble_eq_true rfl), (Nat.le_of_ble_eq_true rfl)⟩ (Nat.le_of_ble_eq_true rfl) (fun _ h => by cases h) (fun _ => rfl) (fun r_30 D_32 d_33 q_31 => ?_)
        obtain ⟨q_31a, q_31b, h⟩ := q_31
        subst D_32
        subst d_33
        show AW p l e _ s m args below meth c E M_Wa_isApartFrom true _ n _ _ _ [(2, v0), (2, v1)] [(0, r_30)] C
        refine AW.if_ne (t := 104) (dc hd_Wa_isApartFrom 47 rfl) (by decide) (fun c_34 => ?_) (fun c_34 => ?_)
        · simp only [if_neg (show ¬ (r_30 = 0) from c_34)] at h
          refine AW.iconst (dc hd_Wa_isApartFrom 50 rfl) (by decide) ?_
          refine AW.fgt [(9, 0), (9, 0)] ⟨.inr rfl, .inr rfl, trivial⟩ ?_
          exact aJ_Wa_isApartFrom_105 n C _ Q h
        · simp only [if_pos (show r_30 = 0 from c_34)] at h
          refine AW.iconst (dc hd_Wa_isApartFrom 48 rfl) (by decide) ?_
          refine AW.goto (t := 105) (dc hd_Wa_isApartFrom 49 rfl) (by decide) ?_
          refine AW.fgt [(9, 0), (9, 0)] ⟨.inr rfl, .inr rfl, trivial⟩ ?_
          exact aJ_Wa_isApartFrom_105 n C _ Q h
def P_Wa_isApartFrom (n : Nat) (C : Cn) (v0 v1 : Int) (Q : Int → Prop) : Prop :=
  okO n v0 7 ∧ (P_Wa_crosses n C v0 v1 (fun (r_1 : Int) => (r_1 = 0 → (okO n v1 7 ∧ (P_Wa_isEnd n C v0 (C v1.toNat 2) (C v1.toNat 3) (fun (r_8 : Int) => (r_8 = 0 → (J_Wa_isApartFrom_40 n C v0 v1 Q)) ∧ (¬ r_8 = 0 → (P_Wa_isEnd n C v0 (C v1.toNat 4) (C v1.toNat 5) (fun (r_36 : Int) => (r_36 = 0 → (J_Wa_isApartFrom_40 n C v0 v1 Q)) ∧ (¬ r_36 = 0 → (Q 0))))))))) ∧ (¬ r_1 = 0 → (Q 0))))
theorem m_Wa_isApartFrom (l : Launch) (E : Ev) (n : Nat) (C : Cn) (v0 v1 : Int) (Q : Int → Prop) (h : P_Wa_isApartFrom n C v0 v1 Q) : MA l y_Wa_isApartFrom M_Wa_isApartFrom E true C n [(2, v0), (2, v1)] (fun r C2 n2 => C2 = C ∧ n2 = n ∧ Q r) := by
  refine MA.of (by decide) rfl rfl 0 rfl (fun p e s m args below meth c => ?_)
  show AW p l e _ s m args below meth c E M_Wa_isApartFrom true _ n 0 0 0 [(2, v0), (2, v1)] [] C
  unfold P_Wa_isApartFrom at h
  refine AW.ra_n (dc hd_Wa_isApartFrom 0 rfl) rfl rfl rfl ?_
  refine AW.ra_n (dc hd_Wa_isApartFrom 1 rfl) rfl rfl rfl ?_
  obtain ⟨g_2, h⟩ := h
  refine AW.callV (As := [(2, v1)]) (rest := []) (ci := 7) (m_Wa_crosses l E n C v0 v1 _ h) cb_7_58 im_Wa_crosses se_Wa_crosses ⟨_, _, rfl⟩ (by decide) (dc hd_Wa_isApartFrom 2 rfl) g_2 rfl rfl ⟨Nat.le_of_ble_eq_true rfl, Nat.le_of_ble_eq_true rfl⟩ ⟨(Nat.le_of_ble_eq_true rfl), (Nat.le_of_ble_eq_true rfl)⟩ (Nat.le_of_ble_eq_true rfl) (fun _ h => by cases h) (fun _ => rfl) (fun r_1 D_4 d_5 q_3 => ?_)
  obtain ⟨q_3a, q_3b, h⟩ := q_3
  subst D_4
  subst d_5
  show AW p l e _ s m args below meth c E M_Wa_isApartFrom true _ n _ _ _ [(2, v0), (2, v1)] [(0, r_1)] C
  refine AW.if_ne (t := 38) (dc hd_Wa_isApartFrom 3 rfl) (by decide) (fun c_6 => ?_) (fun c_6 => ?_)
  · have h := h.2 c_6
    refine AW.iconst (dc hd_Wa_isApartFrom 18 rfl) (by decide) ?_
    exact AW.zret (dc hd_Wa_isApartFrom 19 rfl) rfl rfl (Nat.le_of_ble_eq_true rfl) (Nat.le_of_ble_eq_true rfl) (by decide) ⟨rfl, rfl, h⟩
  · have h := h.1 c_6
    refine AW.ra_n (dc hd_Wa_isApartFrom 4 rfl) rfl rfl rfl ?_
    refine AW.ra_n (dc hd_Wa_isApartFrom 5 rfl) rfl rfl rfl ?_
    obtain ⟨g_7, h⟩ := h
    refine AW.getf fl_7_32 (dc hd_Wa_isApartFrom 6 rfl) g_7 ?_
    refine AW.ra_n (dc hd_Wa_isApartFrom 7 rfl) rfl rfl rfl ?_
    refine AW.getf fl_7_35 (dc hd_Wa_isApartFrom 8 rfl) g_7 ?_
    refine AW.callV (As := [(0, C v1.toNat 2), (0, C v1.toNat 3)]) (rest := []) (ci := 7) (m_Wa_isEnd l E n C v0 (C v1.toNat 2) (C v1.toNat 3) _ h) cb_7_61 im_Wa_isEnd se_Wa_isEnd ⟨_, _, rfl⟩ (by decide) (dc hd_Wa_isApartFrom 9 rfl) g_2 rfl rfl ⟨Nat.le_of_ble_eq_true rfl, Nat.le_of_ble_eq_true rfl⟩ ⟨(Nat.le_of_ble_eq_true rfl), (Nat.le_of_ble_eq_true rfl)⟩ (Nat.le_of_ble_eq_true rfl) (fun _ h => by cases h) (fun _ => rfl) (fun r_8 D_10 d_11 q_9 => ?_)
    obtain ⟨q_9a, q_9b, h⟩ := q_9
    subst D_10
    subst d_11
    show AW p l e _ s m args below meth c E M_Wa_isApartFrom true _ n _ _ _ [(2, v0), (2, v1)] [(0, r_8)] C
    refine AW.if_eq (t := 40) (dc hd_Wa_isApartFrom 10 rfl) (by decide) (fun c_12 => ?_) (fun c_12 => ?_)
    · have h := h.1 c_12
      exact aJ_Wa_isApartFrom_40 n C v0 v1 Q h
    · have h := h.2 c_12
      refine AW.ra_n (dc hd_Wa_isApartFrom 11 rfl) rfl rfl rfl ?_
      refine AW.ra_n (dc hd_Wa_isApartFrom 12 rfl) rfl rfl rfl ?_
      refine AW.getf fl_7_38 (dc hd_Wa_isApartFrom 13 rfl) g_7 ?_
      refine AW.ra_n (dc hd_Wa_isApartFrom 14 rfl) rfl rfl rfl ?_
      refine AW.getf fl_7_41 (dc hd_Wa_isApartFrom 15 rfl) g_7 ?_
      refine AW.callV (As := [(0, C v1.toNat 4), (0, C v1.toNat 5)]) (rest := []) (ci := 7) (m_Wa_isEnd l E n C v0 (C v1.toNat 4) (C v1.toNat 5) _ h) cb_7_61 im_Wa_isEnd se_Wa_isEnd ⟨_, _, rfl⟩ (by decide) (dc hd_Wa_isApartFrom 16 rfl) g_2 rfl rfl ⟨Nat.le_of_ble_eq_true rfl, Nat.le_of_ble_eq_true rfl⟩ ⟨(Nat.le_of_ble_eq_true rfl), (Nat.le_of_ble_eq_true rfl)⟩ (Nat.le_of_ble_eq_true rfl) (fun _ h => by cases h) (fun _ => rfl) (fun r_36 D_38 d_39 q_37 => ?_)
      obtain ⟨q_37a, q_37b, h⟩ := q_37
      subst D_38
      subst d_39
      show AW p l e _ s m args below meth c E M_Wa_isApartFrom true _ n _ _ _ [(2, v0), (2, v1)] [(0, r_36)] C
      refine AW.if_eq (t := 40) (dc hd_Wa_isApartFrom 17 rfl) (by decide) (fun c_40 => ?_) (fun c_40 => ?_)
      · have h := h.1 c_40
        exact aJ_Wa_isApartFrom_40 n C v0 v1 Q h
      · have h := h.2 c_40
        refine AW.iconst (dc hd_Wa_isApartFrom 18 rfl) (by decide) ?_
        exact AW.zret (dc hd_Wa_isApartFrom 19 rfl) rfl rfl (Nat.le_of_ble_eq_true rfl) (Nat.le_of_ble_eq_true rfl) (by decide) ⟨rfl, rfl, h⟩
def J_Wa_carries_46 (n : Nat) (C : Cn) (s0 : Int) (Q : Int → Prop) : Prop :=
  (s0 = 0 ∨ s0 = 1) ∧ (Q s0)
theorem aJ_Wa_carries_46 (n : Nat) (C : Cn) (s0 : Int) (Q : Int → Prop) (h : J_Wa_carries_46 n C s0 Q) : AW p l e R s m args below meth c E M_Wa_carries true (fun r C2 n2 => C2 = C ∧ n2 = n ∧ Q r) n 0 0 46 [(9, 0), (9, 0), (9, 0)] [(0, s0)] C := by
  unfold J_Wa_carries_46 at h
  obtain ⟨g_17, h⟩ := h
  exact AW.zret (dc hd_Wa_carries 24 rfl) rfl rfl (Nat.le_of_ble_eq_true rfl) (Nat.le_of_ble_eq_true rfl) g_17 ⟨rfl, rfl, h⟩
def P_Wa_carries (n : Nat) (C : Cn) (v0 v1 v2 : Int) (Q : Int → Prop) : Prop :=
  okO n v0 7 ∧ (P_Wa_turnTo n C v0 v1 v2 (fun (r_1 : Int) => (r_1 = 0 → (P_Wa_isAhead n C v1 v2 (C v0.toNat 2) (C v0.toNat 3) (fun (r_7 : Int) => (r_7 = 0 → (P_Wa_isAhead n C (C v0.toNat 4) (C v0.toNat 5) v1 v2 (fun (r_12 : Int) => J_Wa_carries_46 n C (if r_12 = 0 then 1 else 0) Q))) ∧ (¬ r_7 = 0 → (Q 0))))) ∧ (¬ r_1 = 0 → (Q 0))))
theorem m_Wa_carries (l : Launch) (E : Ev) (n : Nat) (C : Cn) (v0 v1 v2 : Int) (Q : Int → Prop) (h : P_Wa_carries n C v0 v1 v2 Q) : MA l y_Wa_carries M_Wa_carries E true C n [(2, v0), (0, v1), (0, v2)] (fun r C2 n2 => C2 = C ∧ n2 = n ∧ Q r) := by
  refine MA.of (by decide) rfl rfl 0 rfl (fun p e s m args below meth c => ?_)
  show AW p l e _ s m args below meth c E M_Wa_carries true _ n 0 0 0 [(2, v0), (0, v1), (0, v2)] [] C
  unfold P_Wa_carries at h
  refine AW.ra_n (dc hd_Wa_carries 0 rfl) rfl rfl rfl ?_
  refine AW.iload_n (dc hd_Wa_carries 1 rfl) rfl ?_
  refine AW.iload_n (dc hd_Wa_carries 2 rfl) rfl ?_
  obtain ⟨g_2, h⟩ := h
  refine AW.callV (As := [(0, v1), (0, v2)]) (rest := []) (ci := 7) (m_Wa_turnTo l E n C v0 v1 v2 _ h) cb_7_44 im_Wa_turnTo se_Wa_turnTo ⟨_, _, rfl⟩ (by decide) (dc hd_Wa_carries 3 rfl) g_2 rfl rfl ⟨Nat.le_of_ble_eq_true rfl, Nat.le_of_ble_eq_true rfl⟩ ⟨(Nat.le_of_ble_eq_true rfl), (Nat.le_of_ble_eq_true rfl)⟩ (Nat.le_of_ble_eq_true rfl) (fun _ h => by cases h) (fun _ => rfl) (fun r_1 D_4 d_5 q_3 => ?_)
  obtain ⟨q_3a, q_3b, h⟩ := q_3
  subst D_4
  subst d_5
  show AW p l e _ s m args below meth c E M_Wa_carries true _ n _ _ _ [(2, v0), (0, v1), (0, v2)] [(0, r_1)] C
  refine AW.if_ne (t := 45) (dc hd_Wa_carries 4 rfl) (by decide) (fun c_6 => ?_) (fun c_6 => ?_)
  · have h := h.2 c_6
    refine AW.iconst (dc hd_Wa_carries 23 rfl) (by decide) ?_
    exact AW.zret (dc hd_Wa_carries 24 rfl) rfl rfl (Nat.le_of_ble_eq_true rfl) (Nat.le_of_ble_eq_true rfl) (by decide) ⟨rfl, rfl, h⟩
  · have h := h.1 c_6
    refine AW.iload_n (dc hd_Wa_carries 5 rfl) rfl ?_
    refine AW.iload_n (dc hd_Wa_carries 6 rfl) rfl ?_
    refine AW.ra_n (dc hd_Wa_carries 7 rfl) rfl rfl rfl ?_
    refine AW.getf fl_7_32 (dc hd_Wa_carries 8 rfl) g_2 ?_
    refine AW.ra_n (dc hd_Wa_carries 9 rfl) rfl rfl rfl ?_
    refine AW.getf fl_7_35 (dc hd_Wa_carries 10 rfl) g_2 ?_
    refine AW.callS (As := [(0, v1), (0, v2), (0, C v0.toNat 2), (0, C v0.toNat 3)]) (rest := []) (m_Wa_isAhead l E n C v1 v2 (C v0.toNat 2) (C v0.toNat 3) _ h) cb_7_28 sm_Wa_isAhead (dc hd_Wa_carries 11 rfl) rfl rfl ⟨Nat.le_of_ble_eq_true rfl, Nat.le_of_ble_eq_true rfl⟩ ⟨(Nat.le_of_ble_eq_true rfl), (Nat.le_of_ble_eq_true rfl)⟩ (Nat.le_of_ble_eq_true rfl) (fun _ h => by cases h) (fun _ => rfl) (fun r_7 D_9 d_10 q_8 => ?_)
    obtain ⟨q_8a, q_8b, h⟩ := q_8
    subst D_9
    subst d_10
    show AW p l e _ s m args below meth c E M_Wa_carries true _ n _ _ _ [(2, v0), (0, v1), (0, v2)] [(0, r_7)] C
    refine AW.if_ne (t := 45) (dc hd_Wa_carries 12 rfl) (by decide) (fun c_11 => ?_) (fun c_11 => ?_)
    · have h := h.2 c_11
      refine AW.iconst (dc hd_Wa_carries 23 rfl) (by decide) ?_
      exact AW.zret (dc hd_Wa_carries 24 rfl) rfl rfl (Nat.le_of_ble_eq_true rfl) (Nat.le_of_ble_eq_true rfl) (by decide) ⟨rfl, rfl, h⟩
    · have h := h.1 c_11
      refine AW.ra_n (dc hd_Wa_carries 13 rfl) rfl rfl rfl ?_
      refine AW.getf fl_7_38 (dc hd_Wa_carries 14 rfl) g_2 ?_
      refine AW.ra_n (dc hd_Wa_carries 15 rfl) rfl rfl rfl ?_
      refine AW.getf fl_7_41 (dc hd_Wa_carries 16 rfl) g_2 ?_
      refine AW.iload_n (dc hd_Wa_carries 17 rfl) rfl ?_
      refine AW.iload_n (dc hd_Wa_carries 18 rfl) rfl ?_
      refine AW.callS (As := [(0, C v0.toNat 4), (0, C v0.toNat 5), (0, v1), (0, v2)]) (rest := []) (m_Wa_isAhead l E n C (C v0.toNat 4) (C v0.toNat 5) v1 v2 _ h) cb_7_28 sm_Wa_isAhead (dc hd_Wa_carries 19 rfl) rfl rfl ⟨Nat.le_of_ble_eq_true rfl, Nat.le_of_ble_eq_true rfl⟩ ⟨(Nat.le_of_ble_eq_true rfl), (Nat.le_of_ble_eq_true rfl)⟩ (Nat.le_of_ble_eq_true rfl) (fun _ h => by cases h) (fun _ => rfl) (fun r_12 D_14 d_15 q_13 => ?_)
      obtain ⟨q_13a, q_13b, h⟩ := q_13
      subst D_14
      subst d_15
      show AW p l e _ s m args below meth c E M_Wa_carries true _ n _ _ _ [(2, v0), (0, v1), (0, v2)] [(0, r_12)] C
      refine AW.if_ne (t := 45) (dc hd_Wa_carries 20 rfl) (by decide) (fun c_16 => ?_) (fun c_16 => ?_)
      · simp only [if_neg (show ¬ (r_12 = 0) from c_16)] at h
        refine AW.iconst (dc hd_Wa_carries 23 rfl) (by decide) ?_
        refine AW.fgt [(9, 0), (9, 0), (9, 0)] ⟨.inr rfl, .inr rfl, .inr rfl, trivial⟩ ?_
        exact aJ_Wa_carries_46 n C _ Q h
      · simp only [if_pos (show r_12 = 0 from c_16)] at h
        refine AW.iconst (dc hd_Wa_carries 21 rfl) (by decide) ?_
        refine AW.goto (t := 46) (dc hd_Wa_carries 22 rfl) (by decide) ?_
        refine AW.fgt [(9, 0), (9, 0), (9, 0)] ⟨.inr rfl, .inr rfl, .inr rfl, trivial⟩ ?_
        exact aJ_Wa_carries_46 n C _ Q h
def J_Wa_touches_65 (n : Nat) (C : Cn) (s0 : Int) (Q : Int → Prop) : Prop :=
  (s0 = 0 ∨ s0 = 1) ∧ (Q s0)
theorem aJ_Wa_touches_65 (n : Nat) (C : Cn) (s0 : Int) (Q : Int → Prop) (h : J_Wa_touches_65 n C s0 Q) : AW p l e R s m args below meth c E M_Wa_touches true (fun r C2 n2 => C2 = C ∧ n2 = n ∧ Q r) n 0 0 65 [(9, 0), (9, 0)] [(0, s0)] C := by
  unfold J_Wa_touches_65 at h
  obtain ⟨g_23, h⟩ := h
  exact AW.zret (dc hd_Wa_touches 31 rfl) rfl rfl (Nat.le_of_ble_eq_true rfl) (Nat.le_of_ble_eq_true rfl) g_23 ⟨rfl, rfl, h⟩
def P_Wa_touches (n : Nat) (C : Cn) (v0 v1 : Int) (Q : Int → Prop) : Prop :=
  okO n v1 7 ∧ (okO n v0 7 ∧ (P_Wa_carries n C v0 (C v1.toNat 2) (C v1.toNat 3) (fun (r_2 : Int) => (r_2 = 0 → (P_Wa_carries n C v0 (C v1.toNat 4) (C v1.toNat 5) (fun (r_8 : Int) => (r_8 = 0 → (P_Wa_carries n C v1 (C v0.toNat 2) (C v0.toNat 3) (fun (r_13 : Int) => (r_13 = 0 → (P_Wa_carries n C v1 (C v0.toNat 4) (C v0.toNat 5) (fun (r_18 : Int) => J_Wa_touches_65 n C (if r_18 = 0 then 0 else 1) Q))) ∧ (¬ r_13 = 0 → (Q 1))))) ∧ (¬ r_8 = 0 → (Q 1))))) ∧ (¬ r_2 = 0 → (Q 1)))))
theorem m_Wa_touches (l : Launch) (E : Ev) (n : Nat) (C : Cn) (v0 v1 : Int) (Q : Int → Prop) (h : P_Wa_touches n C v0 v1 Q) : MA l y_Wa_touches M_Wa_touches E true C n [(2, v0), (2, v1)] (fun r C2 n2 => C2 = C ∧ n2 = n ∧ Q r) := by
  refine MA.of (by decide) rfl rfl 0 rfl (fun p e s m args below meth c => ?_)
  show AW p l e _ s m args below meth c E M_Wa_touches true _ n 0 0 0 [(2, v0), (2, v1)] [] C
  unfold P_Wa_touches at h
  refine AW.ra_n (dc hd_Wa_touches 0 rfl) rfl rfl rfl ?_
  refine AW.ra_n (dc hd_Wa_touches 1 rfl) rfl rfl rfl ?_
  obtain ⟨g_1, h⟩ := h
  refine AW.getf fl_7_32 (dc hd_Wa_touches 2 rfl) g_1 ?_
  refine AW.ra_n (dc hd_Wa_touches 3 rfl) rfl rfl rfl ?_
  refine AW.getf fl_7_35 (dc hd_Wa_touches 4 rfl) g_1 ?_
  obtain ⟨g_3, h⟩ := h
  refine AW.callV (As := [(0, C v1.toNat 2), (0, C v1.toNat 3)]) (rest := []) (ci := 7) (m_Wa_carries l E n C v0 (C v1.toNat 2) (C v1.toNat 3) _ h) cb_7_47 im_Wa_carries se_Wa_carries ⟨_, _, rfl⟩ (by decide) (dc hd_Wa_touches 5 rfl) g_3 rfl rfl ⟨Nat.le_of_ble_eq_true rfl, Nat.le_of_ble_eq_true rfl⟩ ⟨(Nat.le_of_ble_eq_true rfl), (Nat.le_of_ble_eq_true rfl)⟩ (Nat.le_of_ble_eq_true rfl) (fun _ h => by cases h) (fun _ => rfl) (fun r_2 D_5 d_6 q_4 => ?_)
  obtain ⟨q_4a, q_4b, h⟩ := q_4
  subst D_5
  subst d_6
  show AW p l e _ s m args below meth c E M_Wa_touches true _ n _ _ _ [(2, v0), (2, v1)] [(0, r_2)] C
  refine AW.if_ne (t := 60) (dc hd_Wa_touches 6 rfl) (by decide) (fun c_7 => ?_) (fun c_7 => ?_)
  · have h := h.2 c_7
    refine AW.iconst (dc hd_Wa_touches 28 rfl) (by decide) ?_
    refine AW.goto (t := 65) (dc hd_Wa_touches 29 rfl) (by decide) ?_
    exact AW.zret (dc hd_Wa_touches 31 rfl) rfl rfl (Nat.le_of_ble_eq_true rfl) (Nat.le_of_ble_eq_true rfl) (by decide) ⟨rfl, rfl, h⟩
  · have h := h.1 c_7
    refine AW.ra_n (dc hd_Wa_touches 7 rfl) rfl rfl rfl ?_
    refine AW.ra_n (dc hd_Wa_touches 8 rfl) rfl rfl rfl ?_
    refine AW.getf fl_7_38 (dc hd_Wa_touches 9 rfl) g_1 ?_
    refine AW.ra_n (dc hd_Wa_touches 10 rfl) rfl rfl rfl ?_
    refine AW.getf fl_7_41 (dc hd_Wa_touches 11 rfl) g_1 ?_
    refine AW.callV (As := [(0, C v1.toNat 4), (0, C v1.toNat 5)]) (rest := []) (ci := 7) (m_Wa_carries l E n C v0 (C v1.toNat 4) (C v1.toNat 5) _ h) cb_7_47 im_Wa_carries se_Wa_carries ⟨_, _, rfl⟩ (by decide) (dc hd_Wa_touches 12 rfl) g_3 rfl rfl ⟨Nat.le_of_ble_eq_true rfl, Nat.le_of_ble_eq_true rfl⟩ ⟨(Nat.le_of_ble_eq_true rfl), (Nat.le_of_ble_eq_true rfl)⟩ (Nat.le_of_ble_eq_true rfl) (fun _ h => by cases h) (fun _ => rfl) (fun r_8 D_10 d_11 q_9 => ?_)
    obtain ⟨q_9a, q_9b, h⟩ := q_9
    subst D_10
    subst d_11
    show AW p l e _ s m args below meth c E M_Wa_touches true _ n _ _ _ [(2, v0), (2, v1)] [(0, r_8)] C
    refine AW.if_ne (t := 60) (dc hd_Wa_touches 13 rfl) (by decide) (fun c_12 => ?_) (fun c_12 => ?_)
    · have h := h.2 c_12
      refine AW.iconst (dc hd_Wa_touches 28 rfl) (by decide) ?_
      refine AW.goto (t := 65) (dc hd_Wa_touches 29 rfl) (by decide) ?_
      exact AW.zret (dc hd_Wa_touches 31 rfl) rfl rfl (Nat.le_of_ble_eq_true rfl) (Nat.le_of_ble_eq_true rfl) (by decide) ⟨rfl, rfl, h⟩
    · have h := h.1 c_12
      refine AW.ra_n (dc hd_Wa_touches 14 rfl) rfl rfl rfl ?_
      refine AW.ra_n (dc hd_Wa_touches 15 rfl) rfl rfl rfl ?_
      refine AW.getf fl_7_32 (dc hd_Wa_touches 16 rfl) g_3 ?_
      refine AW.ra_n (dc hd_Wa_touches 17 rfl) rfl rfl rfl ?_
      refine AW.getf fl_7_35 (dc hd_Wa_touches 18 rfl) g_3 ?_
      refine AW.callV (As := [(0, C v0.toNat 2), (0, C v0.toNat 3)]) (rest := []) (ci := 7) (m_Wa_carries l E n C v1 (C v0.toNat 2) (C v0.toNat 3) _ h) cb_7_47 im_Wa_carries se_Wa_carries ⟨_, _, rfl⟩ (by decide) (dc hd_Wa_touches 19 rfl) g_1 rfl rfl ⟨Nat.le_of_ble_eq_true rfl, Nat.le_of_ble_eq_true rfl⟩ ⟨(Nat.le_of_ble_eq_true rfl), (Nat.le_of_ble_eq_true rfl)⟩ (Nat.le_of_ble_eq_true rfl) (fun _ h => by cases h) (fun _ => rfl) (fun r_13 D_15 d_16 q_14 => ?_)
      obtain ⟨q_14a, q_14b, h⟩ := q_14
      subst D_15
      subst d_16
      show AW p l e _ s m args below meth c E M_Wa_touches true _ n _ _ _ [(2, v0), (2, v1)] [(0, r_13)] C
      refine AW.if_ne (t := 60) (dc hd_Wa_touches 20 rfl) (by decide) (fun c_17 => ?_) (fun c_17 => ?_)
      · have h := h.2 c_17
        refine AW.iconst (dc hd_Wa_touches 28 rfl) (by decide) ?_
        refine AW.goto (t := 65) (dc hd_Wa_touches 29 rfl) (by decide) ?_
        exact AW.zret (dc hd_Wa_touches 31 rfl) rfl rfl (Nat.le_of_ble_eq_true rfl) (Nat.le_of_ble_eq_true rfl) (by decide) ⟨rfl, rfl, h⟩
      · have h := h.1 c_17
        refine AW.ra_n (dc hd_Wa_touches 21 rfl) rfl rfl rfl ?_
        refine AW.ra_n (dc hd_Wa_touches 22 rfl) rfl rfl rfl ?_
        refine AW.getf fl_7_38 (dc hd_Wa_touches 23 rfl) g_3 ?_
        refine AW.ra_n (dc hd_Wa_touches 24 rfl) rfl rfl rfl ?_
        refine AW.getf fl_7_41 (dc hd_Wa_touches 25 rfl) g_3 ?_
        refine AW.callV (As := [(0, C v0.toNat 4), (0, C v0.toNat 5)]) (rest := []) (ci := 7) (m_Wa_carries l E n C v1 (C v0.toNat 4) (C v0.toNat 5) _ h) cb_7_47 im_Wa_carries se_Wa_carries ⟨_, _, rfl⟩ (by decide) (dc hd_Wa_touches 26 rfl) g_1 rfl rfl ⟨Nat.le_of_ble_eq_true rfl, Nat.le_of_ble_eq_true rfl⟩ ⟨(Nat.le_of_ble_eq_true rfl), (Nat.le_of_ble_eq_true rfl)⟩ (Nat.le_of_ble_eq_true rfl) (fun _ h => by cases h) (fun _ => rfl) (fun r_18 D_20 d_21 q_19 => ?_)
        obtain ⟨q_19a, q_19b, h⟩ := q_19
        subst D_20
        subst d_21
        show AW p l e _ s m args below meth c E M_Wa_touches true _ n _ _ _ [(2, v0), (2, v1)] [(0, r_18)] C
        refine AW.if_eq (t := 64) (dc hd_Wa_touches 27 rfl) (by decide) (fun c_22 => ?_) (fun c_22 => ?_)
        · simp only [if_pos (show r_18 = 0 from c_22)] at h
          refine AW.iconst (dc hd_Wa_touches 30 rfl) (by decide) ?_
          refine AW.fgt [(9, 0), (9, 0)] ⟨.inr rfl, .inr rfl, trivial⟩ ?_
          exact aJ_Wa_touches_65 n C _ Q h
        · simp only [if_neg (show ¬ (r_18 = 0) from c_22)] at h
          refine AW.iconst (dc hd_Wa_touches 28 rfl) (by decide) ?_
          refine AW.goto (t := 65) (dc hd_Wa_touches 29 rfl) (by decide) ?_
          refine AW.fgt [(9, 0), (9, 0)] ⟨.inr rfl, .inr rfl, trivial⟩ ?_
          exact aJ_Wa_touches_65 n C _ Q h
def J_Bl_allows_52 (n : Nat) (C : Cn) (v0 v4 v5 s0 s1 : Int) (Q : Int → Cn → Prop) : Prop :=
  okO n s0 0 ∧ (∀ C_22 : Cn, C_22 = wr C s0.toNat 0 s1 → (okO n v0 0 ∧ (∀ C_24 : Cn, C_24 = wr C_22 v0.toNat 1 v5 → ((v4 = 0 ∨ v4 = 1) ∧ (∀ C_26 : Cn, C_26 = wr C_24 v0.toNat 2 v4 → (Q 0 C_26))))))
theorem aJ_Bl_allows_52 (n : Nat) (C : Cn) (v0 v4 v5 s0 s1 : Int) (Q : Int → Cn → Prop) (h : J_Bl_allows_52 n C v0 v4 v5 s0 s1 Q) : AW p l e R s m args below meth c E M_Bl_allows true (fun r C2 n2 => n2 = n ∧ Q r C2) n 0 0 52 [(2, v0), (9, 0), (9, 0), (9, 0), (0, v4), (0, v5)] [(0, s1), (2, s0)] C := by
  unfold J_Bl_allows_52 at h
  obtain ⟨g_21, h⟩ := h
  refine AW.nputI fl_0_31 (dc hd_Bl_allows 27 rfl) g_21 (fun C_22 eC_22 => ?_)
  have h := h C_22 eC_22
  refine AW.ra_n (dc hd_Bl_allows 28 rfl) rfl rfl rfl ?_
  refine AW.iload (dc hd_Bl_allows 29 rfl) rfl ?_
  obtain ⟨g_23, h⟩ := h
  refine AW.nputI fl_0_7 (dc hd_Bl_allows 30 rfl) g_23 (fun C_24 eC_24 => ?_)
  have h := h C_24 eC_24
  refine AW.ra_n (dc hd_Bl_allows 31 rfl) rfl rfl rfl ?_
  refine AW.iload (dc hd_Bl_allows 32 rfl) rfl ?_
  obtain ⟨g_25, h⟩ := h
  refine AW.nputZ fl_0_34 (dc hd_Bl_allows 33 rfl) g_23 g_25 (fun C_26 eC_26 => ?_)
  have h := h C_26 eC_26
  refine AW.iconst (dc hd_Bl_allows 34 rfl) (by decide) ?_
  exact AW.zret (dc hd_Bl_allows 35 rfl) rfl rfl (Nat.le_of_ble_eq_true rfl) (Nat.le_of_ble_eq_true rfl) (by decide) ⟨rfl, h⟩
def J_Bl_allows_32 (n : Nat) (C : Cn) (v0 v1 v3 v4 v5 : Int) (Q : Int → Cn → Prop) : Prop :=
  okO n v1 1 ∧ (okO n (PT v1.toNat 0) 16 ∧ (okI (PT v1.toNat 0) v5 ∧ (okO n (PT (PT v1.toNat 0).toNat v5.toNat) 7 ∧ (P_Wa_touches n C (PT (PT v1.toNat 0).toNat v5.toNat) v3 (fun (r_15 : Int) => J_Bl_allows_52 n C v0 v4 v5 v0 (if r_15 = 0 then 2 else 1) Q)))))
theorem aJ_Bl_allows_32 (n : Nat) (C : Cn) (v0 v1 v3 v4 v5 : Int) (Q : Int → Cn → Prop) (h : J_Bl_allows_32 n C v0 v1 v3 v4 v5 Q) : AW p l e R s m args below meth c E M_Bl_allows true (fun r C2 n2 => n2 = n ∧ Q r C2) n 0 0 32 [(2, v0), (2, v1), (9, 0), (2, v3), (0, v4), (0, v5)] [] C := by
  unfold J_Bl_allows_32 at h
  refine AW.ra_n (dc hd_Bl_allows 16 rfl) rfl rfl rfl ?_
  refine AW.ra_n (dc hd_Bl_allows 17 rfl) rfl rfl rfl ?_
  obtain ⟨g_12, h⟩ := h
  refine AW.getp fl_0_18 (dc hd_Bl_allows 18 rfl) g_12 rfl ?_
  refine AW.iload (dc hd_Bl_allows 19 rfl) rfl ?_
  obtain ⟨g_13, h⟩ := h
  obtain ⟨g_14, h⟩ := h
  refine AW.aaldp (by decide) (dc hd_Bl_allows 20 rfl) g_13 g_14 rfl ?_
  refine AW.ra_n (dc hd_Bl_allows 21 rfl) rfl rfl rfl ?_
  obtain ⟨g_16, h⟩ := h
  refine AW.callV (As := [(2, v3)]) (rest := [(2, v0)]) (ci := 7) (m_Wa_touches l E n C (PT (PT v1.toNat 0).toNat v5.toNat) v3 _ h) cb_0_28 im_Wa_touches se_Wa_touches ⟨_, _, rfl⟩ (by decide) (dc hd_Bl_allows 22 rfl) g_16 rfl rfl ⟨Nat.le_of_ble_eq_true rfl, Nat.le_of_ble_eq_true rfl⟩ ⟨(Nat.le_of_ble_eq_true rfl), (Nat.le_of_ble_eq_true rfl)⟩ (Nat.le_of_ble_eq_true rfl) (fun _ h => by cases h) (fun _ => rfl) (fun r_15 D_18 d_19 q_17 => ?_)
  obtain ⟨q_17a, q_17b, h⟩ := q_17
  subst D_18
  subst d_19
  show AW p l e _ s m args below meth c E M_Bl_allows true _ n _ _ _ [(2, v0), (2, v1), (9, 0), (2, v3), (0, v4), (0, v5)] [(0, r_15), (2, v0)] C
  refine AW.if_eq (t := 51) (dc hd_Bl_allows 23 rfl) (by decide) (fun c_20 => ?_) (fun c_20 => ?_)
  · simp only [if_pos (show r_15 = 0 from c_20)] at h
    refine AW.iconst (dc hd_Bl_allows 26 rfl) (by decide) ?_
    refine AW.fgt [(2, v0), (9, 0), (9, 0), (9, 0), (0, v4), (0, v5)] ⟨.inl rfl, .inr rfl, .inl rfl, .inr rfl, .inl rfl, .inl rfl, trivial⟩ ?_
    exact aJ_Bl_allows_52 n C _ _ _ _ _ Q h
  · simp only [if_neg (show ¬ (r_15 = 0) from c_20)] at h
    refine AW.iconst (dc hd_Bl_allows 24 rfl) (by decide) ?_
    refine AW.goto (t := 52) (dc hd_Bl_allows 25 rfl) (by decide) ?_
    refine AW.fgt [(2, v0), (9, 0), (9, 0), (9, 0), (0, v4), (0, v5)] ⟨.inl rfl, .inr rfl, .inl rfl, .inr rfl, .inl rfl, .inl rfl, trivial⟩ ?_
    exact aJ_Bl_allows_52 n C _ _ _ _ _ Q h
def B_Bl_allows_3 (n : Nat) (C : Cn) (v0 v1 v2 v3 v4 : Int) (Q : Int → Cn → Prop) (kz3 : Int → Prop) (v5 : Int) : Prop :=
  okO n v1 1 ∧ ((C v1.toNat 1 ≤ v5 → (Q 1 C)) ∧ (¬ C v1.toNat 1 ≤ v5 → ((v5 = v2 → (kz3 (w32 (v5 + 1)))) ∧ (¬ v5 = v2 → (okO n (PT v1.toNat 0) 16 ∧ (okI (PT v1.toNat 0) v5 ∧ (okO n (PT (PT v1.toNat 0).toNat v5.toNat) 7 ∧ (P_Wa_isApartFrom n C (PT (PT v1.toNat 0).toNat v5.toNat) v3 (fun (r_6 : Int) => (r_6 = 0 → (J_Bl_allows_32 n C v0 v1 v3 v4 v5 Q)) ∧ (¬ r_6 = 0 → (kz3 (w32 (v5 + 1)))))))))))))
theorem bB_Bl_allows_3 (n : Nat) (C : Cn) (v0 v1 v2 v3 v4 : Int) (Q : Int → Cn → Prop) (kz3 : Int → Prop) (hkz3 : ∀ (z5 : Int), kz3 z5 → AW p l e R s m args below meth c E M_Bl_allows true (fun r C2 n2 => n2 = n ∧ Q r C2) n 0 0 3 [(2, v0), (2, v1), (0, v2), (2, v3), (0, v4), (0, z5)] [] C) (v5 : Int) (h : B_Bl_allows_3 n C v0 v1 v2 v3 v4 Q kz3 v5) : AW p l e R s m args below meth c E M_Bl_allows true (fun r C2 n2 => n2 = n ∧ Q r C2) n 0 0 3 [(2, v0), (2, v1), (0, v2), (2, v3), (0, v4), (0, v5)] [] C := by
  unfold B_Bl_allows_3 at h
  refine AW.iload (dc hd_Bl_allows 2 rfl) rfl ?_
  refine AW.ra_n (dc hd_Bl_allows 3 rfl) rfl rfl rfl ?_
  obtain ⟨g_1, h⟩ := h
  refine AW.getf fl_0_13 (dc hd_Bl_allows 4 rfl) g_1 ?_
  refine AW.icmp_ge (t := 75) (dc hd_Bl_allows 5 rfl) (by decide) (fun c_2 => ?_) (fun c_2 => ?_)
  · have h := h.1 c_2
    refine AW.iconst (dc hd_Bl_allows 38 rfl) (by decide) ?_
    exact AW.zret (dc hd_Bl_allows 39 rfl) rfl rfl (Nat.le_of_ble_eq_true rfl) (Nat.le_of_ble_eq_true rfl) (by decide) ⟨rfl, h⟩
  · have h := h.2 c_2
    refine AW.iload (dc hd_Bl_allows 6 rfl) rfl ?_
    refine AW.iload_n (dc hd_Bl_allows 7 rfl) rfl ?_
    refine AW.icmp_eq (t := 69) (dc hd_Bl_allows 8 rfl) (by decide) (fun c_3 => ?_) (fun c_3 => ?_)
    · have h := h.1 c_3
      refine AW.iinc [(2, v0), (2, v1), (0, v2), (2, v3), (0, v4), (0, w32 (v5 + 1))] (dc hd_Bl_allows 36 rfl) rfl (Nat.le_of_ble_eq_true rfl) rfl rfl ?_
      refine AW.goto (t := 3) (dc hd_Bl_allows 37 rfl) (by decide) ?_
      exact hkz3 (w32 (v5 + 1)) h
    · have h := h.2 c_3
      refine AW.ra_n (dc hd_Bl_allows 9 rfl) rfl rfl rfl ?_
      refine AW.getp fl_0_18 (dc hd_Bl_allows 10 rfl) g_1 rfl ?_
      refine AW.iload (dc hd_Bl_allows 11 rfl) rfl ?_
      obtain ⟨g_4, h⟩ := h
      obtain ⟨g_5, h⟩ := h
      refine AW.aaldp (by decide) (dc hd_Bl_allows 12 rfl) g_4 g_5 rfl ?_
      refine AW.ra_n (dc hd_Bl_allows 13 rfl) rfl rfl rfl ?_
      obtain ⟨g_7, h⟩ := h
      refine AW.callV (As := [(2, v3)]) (rest := []) (ci := 7) (m_Wa_isApartFrom l E n C (PT (PT v1.toNat 0).toNat v5.toNat) v3 _ h) cb_0_22 im_Wa_isApartFrom se_Wa_isApartFrom ⟨_, _, rfl⟩ (by decide) (dc hd_Bl_allows 14 rfl) g_7 rfl rfl ⟨Nat.le_of_ble_eq_true rfl, Nat.le_of_ble_eq_true rfl⟩ ⟨(Nat.le_of_ble_eq_true rfl), (Nat.le_of_ble_eq_true rfl)⟩ (Nat.le_of_ble_eq_true rfl) (fun _ h => by cases h) (fun _ => rfl) (fun r_6 D_9 d_10 q_8 => ?_)
      obtain ⟨q_8a, q_8b, h⟩ := q_8
      subst D_9
      subst d_10
      show AW p l e _ s m args below meth c E M_Bl_allows true _ n _ _ _ [(2, v0), (2, v1), (0, v2), (2, v3), (0, v4), (0, v5)] [(0, r_6)] C
      refine AW.if_ne (t := 69) (dc hd_Bl_allows 15 rfl) (by decide) (fun c_11 => ?_) (fun c_11 => ?_)
      · have h := h.2 c_11
        refine AW.iinc [(2, v0), (2, v1), (0, v2), (2, v3), (0, v4), (0, w32 (v5 + 1))] (dc hd_Bl_allows 36 rfl) rfl (Nat.le_of_ble_eq_true rfl) rfl rfl ?_
        refine AW.goto (t := 3) (dc hd_Bl_allows 37 rfl) (by decide) ?_
        exact hkz3 (w32 (v5 + 1)) h
      · have h := h.1 c_11
        refine AW.fgt [(2, v0), (2, v1), (9, 0), (2, v3), (0, v4), (0, v5)] ⟨.inl rfl, .inl rfl, .inr rfl, .inl rfl, .inl rfl, .inl rfl, trivial⟩ ?_
        exact aJ_Bl_allows_32 n C v0 v1 v3 v4 v5 Q h
theorem aB_Bl_allows_3 (n : Nat) (C : Cn) (v0 v1 v2 v3 v4 : Int) (Q : Int → Cn → Prop) : ∀ (f : Nat) (z : Int), lp (B_Bl_allows_3 n C v0 v1 v2 v3 v4 Q) f z → AW p l e R s m args below meth c E M_Bl_allows true (fun r C2 n2 => n2 = n ∧ Q r C2) n 0 0 3 [(2, v0), (2, v1), (0, v2), (2, v3), (0, v4), (0, z)] [] C := by
  intro f
  induction f with
  | zero => intro z h; exact False.elim h
  | succ f ih => intro z h; exact bB_Bl_allows_3 n C v0 v1 v2 v3 v4 Q (lp (B_Bl_allows_3 n C v0 v1 v2 v3 v4 Q) f) (fun a0 h => ih a0 h) z h
def P_Bl_allows (n : Nat) (C : Cn) (v0 v1 v2 v3 v4 : Int) (Q : Int → Cn → Prop) : Prop :=
  ∃ f_27 : Nat, lp (B_Bl_allows_3 n C v0 v1 v2 v3 v4 Q) f_27 0
theorem m_Bl_allows (l : Launch) (E : Ev) (n : Nat) (C : Cn) (v0 v1 v2 v3 v4 : Int) (Q : Int → Cn → Prop) (h : P_Bl_allows n C v0 v1 v2 v3 v4 Q) : MA l y_Bl_allows M_Bl_allows E true C n [(2, v0), (2, v1), (0, v2), (2, v3), (0, v4)] (fun r C2 n2 => n2 = n ∧ Q r C2) := by
  refine MA.of (by decide) rfl rfl 1 rfl (fun p e s m args below meth c => ?_)
  show AW p l e _ s m args below meth c E M_Bl_allows true _ n 0 0 0 [(2, v0), (2, v1), (0, v2), (2, v3), (0, v4), (9, 0)] [] C
  unfold P_Bl_allows at h
  refine AW.iconst (dc hd_Bl_allows 0 rfl) (by decide) ?_
  refine AW.istore [(2, v0), (2, v1), (0, v2), (2, v3), (0, v4), (0, 0)] (dc hd_Bl_allows 1 rfl) (Nat.le_of_ble_eq_true rfl) rfl rfl ?_
  obtain ⟨f_27, h⟩ := h
  exact aB_Bl_allows_3 n C v0 v1 v2 v3 v4 Q f_27 0 h
def P_Wa_take (n : Nat) (C : Cn) (v0 v1 : Int) (Q : Int → Cn → Prop) : Prop :=
  okO n v1 7 ∧ (okO n v0 7 ∧ (∀ C_3 : Cn, C_3 = wr C v0.toNat 0 (C v1.toNat 0) → (∀ C_4 : Cn, C_4 = wr C_3 v0.toNat 1 (C_3 v1.toNat 1) → (∀ C_5 : Cn, C_5 = wr C_4 v0.toNat 2 (C_4 v1.toNat 2) → (∀ C_6 : Cn, C_6 = wr C_5 v0.toNat 3 (C_5 v1.toNat 3) → (∀ C_7 : Cn, C_7 = wr C_6 v0.toNat 4 (C_6 v1.toNat 4) → (∀ C_8 : Cn, C_8 = wr C_7 v0.toNat 5 (C_7 v1.toNat 5) → (Q 0 C_8))))))))
theorem m_Wa_take (l : Launch) (E : Ev) (n : Nat) (C : Cn) (v0 v1 : Int) (Q : Int → Cn → Prop) (h : P_Wa_take n C v0 v1 Q) : MA l y_Wa_take M_Wa_take E true C n [(2, v0), (2, v1)] (fun r C2 n2 => n2 = n ∧ Q r C2) := by
  refine MA.of (by decide) rfl rfl 0 rfl (fun p e s m args below meth c => ?_)
  show AW p l e _ s m args below meth c E M_Wa_take true _ n 0 0 0 [(2, v0), (2, v1)] [] C
  unfold P_Wa_take at h
  refine AW.ra_n (dc hd_Wa_take 0 rfl) rfl rfl rfl ?_
  refine AW.ra_n (dc hd_Wa_take 1 rfl) rfl rfl rfl ?_
  obtain ⟨g_1, h⟩ := h
  refine AW.getf fl_7_21 (dc hd_Wa_take 2 rfl) g_1 ?_
  obtain ⟨g_2, h⟩ := h
  refine AW.nputI fl_7_21 (dc hd_Wa_take 3 rfl) g_2 (fun C_3 eC_3 => ?_)
  have h := h C_3 eC_3
  refine AW.ra_n (dc hd_Wa_take 4 rfl) rfl rfl rfl ?_
  refine AW.ra_n (dc hd_Wa_take 5 rfl) rfl rfl rfl ?_
  refine AW.getf fl_7_25 (dc hd_Wa_take 6 rfl) g_1 ?_
  refine AW.nputI fl_7_25 (dc hd_Wa_take 7 rfl) g_2 (fun C_4 eC_4 => ?_)
  have h := h C_4 eC_4
  refine AW.ra_n (dc hd_Wa_take 8 rfl) rfl rfl rfl ?_
  refine AW.ra_n (dc hd_Wa_take 9 rfl) rfl rfl rfl ?_
  refine AW.getf fl_7_32 (dc hd_Wa_take 10 rfl) g_1 ?_
  refine AW.nputI fl_7_32 (dc hd_Wa_take 11 rfl) g_2 (fun C_5 eC_5 => ?_)
  have h := h C_5 eC_5
  refine AW.ra_n (dc hd_Wa_take 12 rfl) rfl rfl rfl ?_
  refine AW.ra_n (dc hd_Wa_take 13 rfl) rfl rfl rfl ?_
  refine AW.getf fl_7_35 (dc hd_Wa_take 14 rfl) g_1 ?_
  refine AW.nputI fl_7_35 (dc hd_Wa_take 15 rfl) g_2 (fun C_6 eC_6 => ?_)
  have h := h C_6 eC_6
  refine AW.ra_n (dc hd_Wa_take 16 rfl) rfl rfl rfl ?_
  refine AW.ra_n (dc hd_Wa_take 17 rfl) rfl rfl rfl ?_
  refine AW.getf fl_7_38 (dc hd_Wa_take 18 rfl) g_1 ?_
  refine AW.nputI fl_7_38 (dc hd_Wa_take 19 rfl) g_2 (fun C_7 eC_7 => ?_)
  have h := h C_7 eC_7
  refine AW.ra_n (dc hd_Wa_take 20 rfl) rfl rfl rfl ?_
  refine AW.ra_n (dc hd_Wa_take 21 rfl) rfl rfl rfl ?_
  refine AW.getf fl_7_41 (dc hd_Wa_take 22 rfl) g_1 ?_
  refine AW.nputI fl_7_41 (dc hd_Wa_take 23 rfl) g_2 (fun C_8 eC_8 => ?_)
  have h := h C_8 eC_8
  exact AW.vret (dc hd_Wa_take 24 rfl) rfl rfl (Nat.le_of_ble_eq_true rfl) (Nat.le_of_ble_eq_true rfl) ⟨rfl, h⟩
def P_Es_add (n : Nat) (C : Cn) (v0 v1 : Int) (Q : Int → Cn → Prop) : Prop :=
  okO n v0 1 ∧ ((6 ≤ C v0.toNat 1 → (Q 0 C)) ∧ (¬ 6 ≤ C v0.toNat 1 → (okO n (PT v0.toNat 0) 16 ∧ (okI (PT v0.toNat 0) (C v0.toNat 1) ∧ (okO n (PT (PT v0.toNat 0).toNat (C v0.toNat 1).toNat) 7 ∧ (P_Wa_take n C (PT (PT v0.toNat 0).toNat (C v0.toNat 1).toNat) v1 (fun (_ : Int) (C_6 : Cn) => ∀ C_10 : Cn, C_10 = wr C_6 v0.toNat 1 (w32 (C_6 v0.toNat 1 + 1)) → (Q 0 C_10))))))))
theorem m_Es_add (l : Launch) (E : Ev) (n : Nat) (C : Cn) (v0 v1 : Int) (Q : Int → Cn → Prop) (h : P_Es_add n C v0 v1 Q) : MA l y_Es_add M_Es_add E true C n [(2, v0), (2, v1)] (fun r C2 n2 => n2 = n ∧ Q r C2) := by
  refine MA.of (by decide) rfl rfl 0 rfl (fun p e s m args below meth c => ?_)
  show AW p l e _ s m args below meth c E M_Es_add true _ n 0 0 0 [(2, v0), (2, v1)] [] C
  unfold P_Es_add at h
  refine AW.ra_n (dc hd_Es_add 0 rfl) rfl rfl rfl ?_
  obtain ⟨g_1, h⟩ := h
  refine AW.getf fl_1_22 (dc hd_Es_add 1 rfl) g_1 ?_
  refine AW.bipush (dc hd_Es_add 2 rfl) (by decide) (by decide +kernel) ?_
  refine AW.icmp_ge (t := 32) (dc hd_Es_add 3 rfl) (by decide) (fun c_2 => ?_) (fun c_2 => ?_)
  · have h := h.1 c_2
    exact AW.vret (dc hd_Es_add 17 rfl) rfl rfl (Nat.le_of_ble_eq_true rfl) (Nat.le_of_ble_eq_true rfl) ⟨rfl, h⟩
  · have h := h.2 c_2
    refine AW.ra_n (dc hd_Es_add 4 rfl) rfl rfl rfl ?_
    refine AW.getp fl_1_11 (dc hd_Es_add 5 rfl) g_1 rfl ?_
    refine AW.ra_n (dc hd_Es_add 6 rfl) rfl rfl rfl ?_
    refine AW.getf fl_1_22 (dc hd_Es_add 7 rfl) g_1 ?_
    obtain ⟨g_3, h⟩ := h
    obtain ⟨g_4, h⟩ := h
    refine AW.aaldp (by decide) (dc hd_Es_add 8 rfl) g_3 g_4 rfl ?_
    refine AW.ra_n (dc hd_Es_add 9 rfl) rfl rfl rfl ?_
    obtain ⟨g_5, h⟩ := h
    refine AW.callV (As := [(2, v1)]) (rest := []) (ci := 7) (m_Wa_take l E n C (PT (PT v0.toNat 0).toNat (C v0.toNat 1).toNat) v1 _ h) cb_1_25 im_Wa_take se_Wa_take ⟨_, _, rfl⟩ (by decide) (dc hd_Es_add 10 rfl) g_5 rfl rfl ⟨Nat.le_of_ble_eq_true rfl, Nat.le_of_ble_eq_true rfl⟩ ⟨(Nat.le_of_ble_eq_true rfl), (Nat.le_of_ble_eq_true rfl)⟩ (Nat.le_of_ble_eq_true rfl) (fun _ h => by cases h) (fun _ => rfl) (fun u_8 C_6 d_9 q_7 => ?_)
    obtain ⟨q_7a, h⟩ := q_7
    subst d_9
    show AW p l e _ s m args below meth c E M_Es_add true _ n _ _ _ [(2, v0), (2, v1)] [] C_6
    refine AW.ra_n (dc hd_Es_add 11 rfl) rfl rfl rfl ?_
    refine AW.rdup (dc hd_Es_add 12 rfl) rfl ?_
    refine AW.getf fl_1_22 (dc hd_Es_add 13 rfl) g_1 ?_
    refine AW.iconst (dc hd_Es_add 14 rfl) (by decide) ?_
    refine AW.iadd (dc hd_Es_add 15 rfl) ?_
    refine AW.nputI fl_1_22 (dc hd_Es_add 16 rfl) g_1 (fun C_10 eC_10 => ?_)
    have h := h C_10 eC_10
    exact AW.vret (dc hd_Es_add 17 rfl) rfl rfl (Nat.le_of_ble_eq_true rfl) (Nat.le_of_ble_eq_true rfl) ⟨rfl, h⟩
def J_Es_takeWithout_36 (n : Nat) (C : Cn) (v0 v1 : Int) (Q : Int → Cn → Prop) : Prop :=
  okO n v1 1 ∧ (okO n v0 1 ∧ (∀ C_7 : Cn, C_7 = wr C v0.toNat 2 (C v1.toNat 2) → (∀ C_8 : Cn, C_8 = wr C_7 v0.toNat 3 (C_7 v1.toNat 3) → (∀ C_9 : Cn, C_9 = wr C_8 v0.toNat 4 (C_8 v1.toNat 4) → (Q 0 C_9)))))
theorem aJ_Es_takeWithout_36 (n : Nat) (C : Cn) (v0 v1 : Int) (Q : Int → Cn → Prop) (h : J_Es_takeWithout_36 n C v0 v1 Q) : AW p l e R s m args below meth c E M_Es_takeWithout true (fun r C2 n2 => n2 = n ∧ Q r C2) n 0 0 36 [(2, v0), (2, v1), (9, 0), (9, 0)] [] C := by
  unfold J_Es_takeWithout_36 at h
  refine AW.ra_n (dc hd_Es_takeWithout 20 rfl) rfl rfl rfl ?_
  refine AW.ra_n (dc hd_Es_takeWithout 21 rfl) rfl rfl rfl ?_
  obtain ⟨g_5, h⟩ := h
  refine AW.getf fl_1_36 (dc hd_Es_takeWithout 22 rfl) g_5 ?_
  obtain ⟨g_6, h⟩ := h
  refine AW.nputI fl_1_36 (dc hd_Es_takeWithout 23 rfl) g_6 (fun C_7 eC_7 => ?_)
  have h := h C_7 eC_7
  refine AW.ra_n (dc hd_Es_takeWithout 24 rfl) rfl rfl rfl ?_
  refine AW.ra_n (dc hd_Es_takeWithout 25 rfl) rfl rfl rfl ?_
  refine AW.getf fl_1_39 (dc hd_Es_takeWithout 26 rfl) g_5 ?_
  refine AW.nputJ fl_1_39 (dc hd_Es_takeWithout 27 rfl) g_6 (fun C_8 eC_8 => ?_)
  have h := h C_8 eC_8
  refine AW.ra_n (dc hd_Es_takeWithout 28 rfl) rfl rfl rfl ?_
  refine AW.ra_n (dc hd_Es_takeWithout 29 rfl) rfl rfl rfl ?_
  refine AW.getf fl_1_17 (dc hd_Es_takeWithout 30 rfl) g_5 ?_
  refine AW.nputI fl_1_17 (dc hd_Es_takeWithout 31 rfl) g_6 (fun C_9 eC_9 => ?_)
  have h := h C_9 eC_9
  exact AW.vret (dc hd_Es_takeWithout 32 rfl) rfl rfl (Nat.le_of_ble_eq_true rfl) (Nat.le_of_ble_eq_true rfl) ⟨rfl, h⟩
def B_Es_takeWithout_7 (n : Nat) (v0 v1 v2 : Int) (Q : Int → Cn → Prop) (kz7 : Cn × Int → Prop) (z : Cn × Int) : Prop := match z with
  | (C, v3) => okO n v1 1 ∧ ((C v1.toNat 1 ≤ v3 → (J_Es_takeWithout_36 n C v0 v1 Q)) ∧ (¬ C v1.toNat 1 ≤ v3 → ((v3 = v2 → (kz7 (C, w32 (v3 + 1)))) ∧ (¬ v3 = v2 → (okO n (PT v1.toNat 0) 16 ∧ (okI (PT v1.toNat 0) v3 ∧ (okO n v0 1 ∧ (P_Es_add n C v0 (PT (PT v1.toNat 0).toNat v3.toNat) (fun (_ : Int) (C_14 : Cn) => kz7 (C_14, w32 (v3 + 1)))))))))))
theorem bB_Es_takeWithout_7 (n : Nat) (v0 v1 v2 : Int) (Q : Int → Cn → Prop) (kz7 : Cn × Int → Prop) (hkz7 : ∀ (Cz : Cn) (z3 : Int), kz7 (Cz, z3) → AW p l e R s m args below meth c E M_Es_takeWithout true (fun r C2 n2 => n2 = n ∧ Q r C2) n 0 0 7 [(2, v0), (2, v1), (0, v2), (0, z3)] [] Cz) (C : Cn) (v3 : Int) (h : B_Es_takeWithout_7 n v0 v1 v2 Q kz7 (C, v3)) : AW p l e R s m args below meth c E M_Es_takeWithout true (fun r C2 n2 => n2 = n ∧ Q r C2) n 0 0 7 [(2, v0), (2, v1), (0, v2), (0, v3)] [] C := by
  unfold B_Es_takeWithout_7 at h
  dsimp only at h
  refine AW.iload_n (dc hd_Es_takeWithout 5 rfl) rfl ?_
  refine AW.ra_n (dc hd_Es_takeWithout 6 rfl) rfl rfl rfl ?_
  obtain ⟨g_3, h⟩ := h
  refine AW.getf fl_1_22 (dc hd_Es_takeWithout 7 rfl) g_3 ?_
  refine AW.icmp_ge (t := 36) (dc hd_Es_takeWithout 8 rfl) (by decide) (fun c_4 => ?_) (fun c_4 => ?_)
  · have h := h.1 c_4
    refine AW.fgt [(2, v0), (2, v1), (9, 0), (9, 0)] ⟨.inl rfl, .inl rfl, .inr rfl, .inr rfl, trivial⟩ ?_
    exact aJ_Es_takeWithout_36 n C v0 v1 Q h
  · have h := h.2 c_4
    refine AW.iload_n (dc hd_Es_takeWithout 9 rfl) rfl ?_
    refine AW.iload_n (dc hd_Es_takeWithout 10 rfl) rfl ?_
    refine AW.icmp_eq (t := 30) (dc hd_Es_takeWithout 11 rfl) (by decide) (fun c_10 => ?_) (fun c_10 => ?_)
    · have h := h.1 c_10
      refine AW.iinc [(2, v0), (2, v1), (0, v2), (0, w32 (v3 + 1))] (dc hd_Es_takeWithout 18 rfl) rfl (Nat.le_of_ble_eq_true rfl) rfl rfl ?_
      refine AW.goto (t := 7) (dc hd_Es_takeWithout 19 rfl) (by decide) ?_
      exact hkz7 C (w32 (v3 + 1)) h
    · have h := h.2 c_10
      refine AW.ra_n (dc hd_Es_takeWithout 12 rfl) rfl rfl rfl ?_
      refine AW.ra_n (dc hd_Es_takeWithout 13 rfl) rfl rfl rfl ?_
      refine AW.getp fl_1_11 (dc hd_Es_takeWithout 14 rfl) g_3 rfl ?_
      refine AW.iload_n (dc hd_Es_takeWithout 15 rfl) rfl ?_
      obtain ⟨g_11, h⟩ := h
      obtain ⟨g_12, h⟩ := h
      refine AW.aaldp (by decide) (dc hd_Es_takeWithout 16 rfl) g_11 g_12 rfl ?_
      obtain ⟨g_13, h⟩ := h
      refine AW.callV (As := [(2, PT (PT v1.toNat 0).toNat v3.toNat)]) (rest := []) (ci := 1) (m_Es_add l E n C v0 (PT (PT v1.toNat 0).toNat v3.toNat) _ h) cb_1_33 im_Es_add se_Es_add ⟨_, _, rfl⟩ (by decide) (dc hd_Es_takeWithout 17 rfl) g_13 rfl rfl ⟨Nat.le_of_ble_eq_true rfl, Nat.le_of_ble_eq_true rfl⟩ ⟨(Nat.le_of_ble_eq_true rfl), (Nat.le_of_ble_eq_true rfl)⟩ (Nat.le_of_ble_eq_true rfl) (fun _ h => by cases h) (fun _ => rfl) (fun u_16 C_14 d_17 q_15 => ?_)
      obtain ⟨q_15a, h⟩ := q_15
      subst d_17
      show AW p l e _ s m args below meth c E M_Es_takeWithout true _ n _ _ _ [(2, v0), (2, v1), (0, v2), (0, v3)] [] C_14
      refine AW.iinc [(2, v0), (2, v1), (0, v2), (0, w32 (v3 + 1))] (dc hd_Es_takeWithout 18 rfl) rfl (Nat.le_of_ble_eq_true rfl) rfl rfl ?_
      refine AW.goto (t := 7) (dc hd_Es_takeWithout 19 rfl) (by decide) ?_
      exact hkz7 C_14 (w32 (v3 + 1)) h
theorem aB_Es_takeWithout_7 (n : Nat) (v0 v1 v2 : Int) (Q : Int → Cn → Prop) : ∀ (f : Nat) (z : Cn × Int), lp (B_Es_takeWithout_7 n v0 v1 v2 Q) f z → AW p l e R s m args below meth c E M_Es_takeWithout true (fun r C2 n2 => n2 = n ∧ Q r C2) n 0 0 7 [(2, v0), (2, v1), (0, v2), (0, z.2)] [] (z.1) := by
  intro f
  induction f with
  | zero => intro z h; exact False.elim h
  | succ f ih => intro z h; exact bB_Es_takeWithout_7 n v0 v1 v2 Q (lp (B_Es_takeWithout_7 n v0 v1 v2 Q) f) (fun a0 a1 h => ih (a0, a1) h) z.1 z.2 h
def P_Es_takeWithout (n : Nat) (C : Cn) (v0 v1 v2 : Int) (Q : Int → Cn → Prop) : Prop :=
  okO n v0 1 ∧ (∀ C_2 : Cn, C_2 = wr C v0.toNat 1 0 → (∃ f_18 : Nat, lp (B_Es_takeWithout_7 n v0 v1 v2 Q) f_18 (C_2, 0)))
theorem m_Es_takeWithout (l : Launch) (E : Ev) (n : Nat) (C : Cn) (v0 v1 v2 : Int) (Q : Int → Cn → Prop) (h : P_Es_takeWithout n C v0 v1 v2 Q) : MA l y_Es_takeWithout M_Es_takeWithout E true C n [(2, v0), (2, v1), (0, v2)] (fun r C2 n2 => n2 = n ∧ Q r C2) := by
  refine MA.of (by decide) rfl rfl 1 rfl (fun p e s m args below meth c => ?_)
  show AW p l e _ s m args below meth c E M_Es_takeWithout true _ n 0 0 0 [(2, v0), (2, v1), (0, v2), (9, 0)] [] C
  unfold P_Es_takeWithout at h
  refine AW.ra_n (dc hd_Es_takeWithout 0 rfl) rfl rfl rfl ?_
  refine AW.iconst (dc hd_Es_takeWithout 1 rfl) (by decide) ?_
  obtain ⟨g_1, h⟩ := h
  refine AW.nputI fl_1_22 (dc hd_Es_takeWithout 2 rfl) g_1 (fun C_2 eC_2 => ?_)
  have h := h C_2 eC_2
  refine AW.iconst (dc hd_Es_takeWithout 3 rfl) (by decide) ?_
  refine AW.istore_n [(2, v0), (2, v1), (0, v2), (0, 0)] (dc hd_Es_takeWithout 4 rfl) (Nat.le_of_ble_eq_true rfl) rfl rfl ?_
  obtain ⟨f_18, h⟩ := h
  exact aB_Es_takeWithout_7 n v0 v1 v2 Q f_18 (C_2, 0) h
def P_Es_takeAll (n : Nat) (C : Cn) (v0 v1 : Int) (Q : Int → Cn → Prop) : Prop :=
  okO n v0 1 ∧ (P_Es_takeWithout n C v0 v1 (-1) (fun (_ : Int) (C_2 : Cn) => Q 0 C_2))
theorem m_Es_takeAll (l : Launch) (E : Ev) (n : Nat) (C : Cn) (v0 v1 : Int) (Q : Int → Cn → Prop) (h : P_Es_takeAll n C v0 v1 Q) : MA l y_Es_takeAll M_Es_takeAll E true C n [(2, v0), (2, v1)] (fun r C2 n2 => n2 = n ∧ Q r C2) := by
  refine MA.of (by decide) rfl rfl 0 rfl (fun p e s m args below meth c => ?_)
  show AW p l e _ s m args below meth c E M_Es_takeAll true _ n 0 0 0 [(2, v0), (2, v1)] [] C
  unfold P_Es_takeAll at h
  refine AW.ra_n (dc hd_Es_takeAll 0 rfl) rfl rfl rfl ?_
  refine AW.ra_n (dc hd_Es_takeAll 1 rfl) rfl rfl rfl ?_
  refine AW.iconst (dc hd_Es_takeAll 2 rfl) (by decide) ?_
  obtain ⟨g_1, h⟩ := h
  refine AW.callV (As := [(2, v1), (0, (-1))]) (rest := []) (ci := 1) (m_Es_takeWithout l E n C v0 v1 (-1) _ h) cb_1_29 im_Es_takeWithout se_Es_takeWithout ⟨_, _, rfl⟩ (by decide) (dc hd_Es_takeAll 3 rfl) g_1 rfl rfl ⟨Nat.le_of_ble_eq_true rfl, Nat.le_of_ble_eq_true rfl⟩ ⟨(Nat.le_of_ble_eq_true rfl), (Nat.le_of_ble_eq_true rfl)⟩ (Nat.le_of_ble_eq_true rfl) (fun _ h => by cases h) (fun _ => rfl) (fun u_4 C_2 d_5 q_3 => ?_)
  obtain ⟨q_3a, h⟩ := q_3
  subst d_5
  show AW p l e _ s m args below meth c E M_Es_takeAll true _ n _ _ _ [(2, v0), (2, v1)] [] C_2
  exact AW.vret (dc hd_Es_takeAll 4 rfl) rfl rfl (Nat.le_of_ble_eq_true rfl) (Nat.le_of_ble_eq_true rfl) ⟨rfl, h⟩
def J_La_endsAhead_36 (n : Nat) (C : Cn) (v3 : Int) (Q : Int → Prop) : Prop :=
  Q v3
theorem aJ_La_endsAhead_36 (n : Nat) (C : Cn) (v3 : Int) (Q : Int → Prop) (h : J_La_endsAhead_36 n C v3 Q) : AW p l e R s m args below meth c E M_La_endsAhead true (fun r C2 n2 => C2 = C ∧ n2 = n ∧ Q r) n 0 0 36 [(9, 0), (9, 0), (9, 0), (0, v3)] [] C := by
  unfold J_La_endsAhead_36 at h
  refine AW.iload_n (dc hd_La_endsAhead 20 rfl) rfl ?_
  exact AW.iret (dc hd_La_endsAhead 21 rfl) rfl rfl (Nat.le_of_ble_eq_true rfl) (Nat.le_of_ble_eq_true rfl) ⟨rfl, rfl, h⟩
def B_La_endsAhead_2 (n : Nat) (C : Cn) (v0 v1 v2 : Int) (Q : Int → Prop) (kz2 : Int → Prop) (v3 : Int) : Prop :=
  okO n v0 2 ∧ ((C v0.toNat 1 ≤ v3 → (J_La_endsAhead_36 n C v3 Q)) ∧ (¬ C v0.toNat 1 ≤ v3 → (okO n (PT v0.toNat 2) 12 ∧ (okI (PT v0.toNat 2) v3 ∧ (okO n (PT v0.toNat 3) 12 ∧ (okI (PT v0.toNat 3) v3 ∧ (P_Wa_isAhead n C (C (PT v0.toNat 2).toNat v3.toNat) (C (PT v0.toNat 3).toNat v3.toNat) v1 v2 (fun (r_7 : Int) => (r_7 = 0 → (J_La_endsAhead_36 n C v3 Q)) ∧ (¬ r_7 = 0 → (kz2 (w32 (v3 + 1))))))))))))
theorem bB_La_endsAhead_2 (n : Nat) (C : Cn) (v0 v1 v2 : Int) (Q : Int → Prop) (kz2 : Int → Prop) (hkz2 : ∀ (z3 : Int), kz2 z3 → AW p l e R s m args below meth c E M_La_endsAhead true (fun r C2 n2 => C2 = C ∧ n2 = n ∧ Q r) n 0 0 2 [(2, v0), (0, v1), (0, v2), (0, z3)] [] C) (v3 : Int) (h : B_La_endsAhead_2 n C v0 v1 v2 Q kz2 v3) : AW p l e R s m args below meth c E M_La_endsAhead true (fun r C2 n2 => C2 = C ∧ n2 = n ∧ Q r) n 0 0 2 [(2, v0), (0, v1), (0, v2), (0, v3)] [] C := by
  unfold B_La_endsAhead_2 at h
  refine AW.iload_n (dc hd_La_endsAhead 2 rfl) rfl ?_
  refine AW.ra_n (dc hd_La_endsAhead 3 rfl) rfl rfl rfl ?_
  obtain ⟨g_1, h⟩ := h
  refine AW.getf fl_2_73 (dc hd_La_endsAhead 4 rfl) g_1 ?_
  refine AW.icmp_ge (t := 36) (dc hd_La_endsAhead 5 rfl) (by decide) (fun c_2 => ?_) (fun c_2 => ?_)
  · have h := h.1 c_2
    refine AW.fgt [(9, 0), (9, 0), (9, 0), (0, v3)] ⟨.inr rfl, .inr rfl, .inr rfl, .inl rfl, trivial⟩ ?_
    exact aJ_La_endsAhead_36 n C v3 Q h
  · have h := h.2 c_2
    refine AW.ra_n (dc hd_La_endsAhead 6 rfl) rfl rfl rfl ?_
    refine AW.getp fl_2_9 (dc hd_La_endsAhead 7 rfl) g_1 rfl ?_
    refine AW.iload_n (dc hd_La_endsAhead 8 rfl) rfl ?_
    obtain ⟨g_3, h⟩ := h
    obtain ⟨g_4, h⟩ := h
    refine AW.iald (dc hd_La_endsAhead 9 rfl) g_3 g_4 ?_
    refine AW.ra_n (dc hd_La_endsAhead 10 rfl) rfl rfl rfl ?_
    refine AW.getp fl_2_15 (dc hd_La_endsAhead 11 rfl) g_1 rfl ?_
    refine AW.iload_n (dc hd_La_endsAhead 12 rfl) rfl ?_
    obtain ⟨g_5, h⟩ := h
    obtain ⟨g_6, h⟩ := h
    refine AW.iald (dc hd_La_endsAhead 13 rfl) g_5 g_6 ?_
    refine AW.iload_n (dc hd_La_endsAhead 14 rfl) rfl ?_
    refine AW.iload_n (dc hd_La_endsAhead 15 rfl) rfl ?_
    refine AW.callS (As := [(0, C (PT v0.toNat 2).toNat v3.toNat), (0, C (PT v0.toNat 3).toNat v3.toNat), (0, v1), (0, v2)]) (rest := []) (m_Wa_isAhead l E n C (C (PT v0.toNat 2).toNat v3.toNat) (C (PT v0.toNat 3).toNat v3.toNat) v1 v2 _ h) cb_2_116 sm_Wa_isAhead (dc hd_La_endsAhead 16 rfl) rfl rfl ⟨Nat.le_of_ble_eq_true rfl, Nat.le_of_ble_eq_true rfl⟩ ⟨(Nat.le_of_ble_eq_true rfl), (Nat.le_of_ble_eq_true rfl)⟩ (Nat.le_of_ble_eq_true rfl) (fun _ h => by cases h) (fun _ => rfl) (fun r_7 D_9 d_10 q_8 => ?_)
    obtain ⟨q_8a, q_8b, h⟩ := q_8
    subst D_9
    subst d_10
    show AW p l e _ s m args below meth c E M_La_endsAhead true _ n _ _ _ [(2, v0), (0, v1), (0, v2), (0, v3)] [(0, r_7)] C
    refine AW.if_eq (t := 36) (dc hd_La_endsAhead 17 rfl) (by decide) (fun c_11 => ?_) (fun c_11 => ?_)
    · have h := h.1 c_11
      refine AW.fgt [(9, 0), (9, 0), (9, 0), (0, v3)] ⟨.inr rfl, .inr rfl, .inr rfl, .inl rfl, trivial⟩ ?_
      exact aJ_La_endsAhead_36 n C v3 Q h
    · have h := h.2 c_11
      refine AW.iinc [(2, v0), (0, v1), (0, v2), (0, w32 (v3 + 1))] (dc hd_La_endsAhead 18 rfl) rfl (Nat.le_of_ble_eq_true rfl) rfl rfl ?_
      refine AW.goto (t := 2) (dc hd_La_endsAhead 19 rfl) (by decide) ?_
      exact hkz2 (w32 (v3 + 1)) h
theorem aB_La_endsAhead_2 (n : Nat) (C : Cn) (v0 v1 v2 : Int) (Q : Int → Prop) : ∀ (f : Nat) (z : Int), lp (B_La_endsAhead_2 n C v0 v1 v2 Q) f z → AW p l e R s m args below meth c E M_La_endsAhead true (fun r C2 n2 => C2 = C ∧ n2 = n ∧ Q r) n 0 0 2 [(2, v0), (0, v1), (0, v2), (0, z)] [] C := by
  intro f
  induction f with
  | zero => intro z h; exact False.elim h
  | succ f ih => intro z h; exact bB_La_endsAhead_2 n C v0 v1 v2 Q (lp (B_La_endsAhead_2 n C v0 v1 v2 Q) f) (fun a0 h => ih a0 h) z h
def P_La_endsAhead (n : Nat) (C : Cn) (v0 v1 v2 : Int) (Q : Int → Prop) : Prop :=
  ∃ f_12 : Nat, lp (B_La_endsAhead_2 n C v0 v1 v2 Q) f_12 0
theorem m_La_endsAhead (l : Launch) (E : Ev) (n : Nat) (C : Cn) (v0 v1 v2 : Int) (Q : Int → Prop) (h : P_La_endsAhead n C v0 v1 v2 Q) : MA l y_La_endsAhead M_La_endsAhead E true C n [(2, v0), (0, v1), (0, v2)] (fun r C2 n2 => C2 = C ∧ n2 = n ∧ Q r) := by
  refine MA.of (by decide) rfl rfl 1 rfl (fun p e s m args below meth c => ?_)
  show AW p l e _ s m args below meth c E M_La_endsAhead true _ n 0 0 0 [(2, v0), (0, v1), (0, v2), (9, 0)] [] C
  unfold P_La_endsAhead at h
  refine AW.iconst (dc hd_La_endsAhead 0 rfl) (by decide) ?_
  refine AW.istore_n [(2, v0), (0, v1), (0, v2), (0, 0)] (dc hd_La_endsAhead 1 rfl) (Nat.le_of_ble_eq_true rfl) rfl rfl ?_
  obtain ⟨f_12, h⟩ := h
  exact aB_La_endsAhead_2 n C v0 v1 v2 Q f_12 0 h
def J_La_isEndAt_33 (n : Nat) (C : Cn) (s0 : Int) (Q : Int → Prop) : Prop :=
  (s0 = 0 ∨ s0 = 1) ∧ (Q s0)
theorem aJ_La_isEndAt_33 (n : Nat) (C : Cn) (s0 : Int) (Q : Int → Prop) (h : J_La_isEndAt_33 n C s0 Q) : AW p l e R s m args below meth c E M_La_isEndAt true (fun r C2 n2 => C2 = C ∧ n2 = n ∧ Q r) n 0 0 33 [(9, 0), (9, 0), (9, 0), (9, 0)] [(0, s0)] C := by
  unfold J_La_isEndAt_33 at h
  obtain ⟨g_9, h⟩ := h
  exact AW.zret (dc hd_La_isEndAt 19 rfl) rfl rfl (Nat.le_of_ble_eq_true rfl) (Nat.le_of_ble_eq_true rfl) g_9 ⟨rfl, rfl, h⟩
def P_La_isEndAt (n : Nat) (C : Cn) (v0 v1 v2 v3 : Int) (Q : Int → Prop) : Prop :=
  okO n v0 2 ∧ ((C v0.toNat 1 ≤ v1 → (Q 0)) ∧ (¬ C v0.toNat 1 ≤ v1 → (okO n (PT v0.toNat 2) 12 ∧ (okI (PT v0.toNat 2) v1 ∧ ((C (PT v0.toNat 2).toNat v1.toNat = v2 → (okO n (PT v0.toNat 3) 12 ∧ (okI (PT v0.toNat 3) v1 ∧ (J_La_isEndAt_33 n C (if C (PT v0.toNat 3).toNat v1.toNat = v3 then 1 else 0) Q)))) ∧ (¬ C (PT v0.toNat 2).toNat v1.toNat = v2 → (Q 0)))))))
theorem m_La_isEndAt (l : Launch) (E : Ev) (n : Nat) (C : Cn) (v0 v1 v2 v3 : Int) (Q : Int → Prop) (h : P_La_isEndAt n C v0 v1 v2 v3 Q) : MA l y_La_isEndAt M_La_isEndAt E true C n [(2, v0), (0, v1), (0, v2), (0, v3)] (fun r C2 n2 => C2 = C ∧ n2 = n ∧ Q r) := by
  refine MA.of (by decide) rfl rfl 0 rfl (fun p e s m args below meth c => ?_)
  show AW p l e _ s m args below meth c E M_La_isEndAt true _ n 0 0 0 [(2, v0), (0, v1), (0, v2), (0, v3)] [] C
  unfold P_La_isEndAt at h
  refine AW.iload_n (dc hd_La_isEndAt 0 rfl) rfl ?_
  refine AW.ra_n (dc hd_La_isEndAt 1 rfl) rfl rfl rfl ?_
  obtain ⟨g_1, h⟩ := h
  refine AW.getf fl_2_73 (dc hd_La_isEndAt 2 rfl) g_1 ?_
  refine AW.icmp_ge (t := 32) (dc hd_La_isEndAt 3 rfl) (by decide) (fun c_2 => ?_) (fun c_2 => ?_)
  · have h := h.1 c_2
    refine AW.iconst (dc hd_La_isEndAt 18 rfl) (by decide) ?_
    exact AW.zret (dc hd_La_isEndAt 19 rfl) rfl rfl (Nat.le_of_ble_eq_true rfl) (Nat.le_of_ble_eq_true rfl) (by decide) ⟨rfl, rfl, h⟩
  · have h := h.2 c_2
    refine AW.ra_n (dc hd_La_isEndAt 4 rfl) rfl rfl rfl ?_
    refine AW.getp fl_2_9 (dc hd_La_isEndAt 5 rfl) g_1 rfl ?_
    refine AW.iload_n (dc hd_La_isEndAt 6 rfl) rfl ?_
    obtain ⟨g_3, h⟩ := h
    obtain ⟨g_4, h⟩ := h
    refine AW.iald (dc hd_La_isEndAt 7 rfl) g_3 g_4 ?_
    refine AW.iload_n (dc hd_La_isEndAt 8 rfl) rfl ?_
    refine AW.icmp_ne (t := 32) (dc hd_La_isEndAt 9 rfl) (by decide) (fun c_5 => ?_) (fun c_5 => ?_)
    · have h := h.2 c_5
      refine AW.iconst (dc hd_La_isEndAt 18 rfl) (by decide) ?_
      exact AW.zret (dc hd_La_isEndAt 19 rfl) rfl rfl (Nat.le_of_ble_eq_true rfl) (Nat.le_of_ble_eq_true rfl) (by decide) ⟨rfl, rfl, h⟩
    · have h := h.1 c_5
      refine AW.ra_n (dc hd_La_isEndAt 10 rfl) rfl rfl rfl ?_
      refine AW.getp fl_2_15 (dc hd_La_isEndAt 11 rfl) g_1 rfl ?_
      refine AW.iload_n (dc hd_La_isEndAt 12 rfl) rfl ?_
      obtain ⟨g_6, h⟩ := h
      obtain ⟨g_7, h⟩ := h
      refine AW.iald (dc hd_La_isEndAt 13 rfl) g_6 g_7 ?_
      refine AW.iload_n (dc hd_La_isEndAt 14 rfl) rfl ?_
      refine AW.icmp_ne (t := 32) (dc hd_La_isEndAt 15 rfl) (by decide) (fun c_8 => ?_) (fun c_8 => ?_)
      · simp only [if_neg (show ¬ (C (PT v0.toNat 3).toNat v1.toNat = v3) from c_8)] at h
        refine AW.iconst (dc hd_La_isEndAt 18 rfl) (by decide) ?_
        refine AW.fgt [(9, 0), (9, 0), (9, 0), (9, 0)] ⟨.inr rfl, .inr rfl, .inr rfl, .inr rfl, trivial⟩ ?_
        exact aJ_La_isEndAt_33 n C _ Q h
      · simp only [if_pos (show C (PT v0.toNat 3).toNat v1.toNat = v3 from c_8)] at h
        refine AW.iconst (dc hd_La_isEndAt 16 rfl) (by decide) ?_
        refine AW.goto (t := 33) (dc hd_La_isEndAt 17 rfl) (by decide) ?_
        refine AW.fgt [(9, 0), (9, 0), (9, 0), (9, 0)] ⟨.inr rfl, .inr rfl, .inr rfl, .inr rfl, trivial⟩ ?_
        exact aJ_La_isEndAt_33 n C _ Q h
def J_La_addEnd_77 (n : Nat) (C : Cn) (v0 v1 v2 v3 : Int) (Q : Int → Cn → Prop) : Prop :=
  okO n v0 2 ∧ (okO n (PT v0.toNat 2) 12 ∧ (okI (PT v0.toNat 2) v3 ∧ (∀ C_16 : Cn, C_16 = wr C (PT v0.toNat 2).toNat v3.toNat v1 → (okO n (PT v0.toNat 3) 12 ∧ (okI (PT v0.toNat 3) v3 ∧ (∀ C_19 : Cn, C_19 = wr C_16 (PT v0.toNat 3).toNat v3.toNat v2 → (∀ C_20 : Cn, C_20 = wr C_19 v0.toNat 1 (w32 (C_19 v0.toNat 1 + 1)) → (Q 0 C_20))))))))
theorem aJ_La_addEnd_77 (n : Nat) (C : Cn) (v0 v1 v2 v3 : Int) (Q : Int → Cn → Prop) (h : J_La_addEnd_77 n C v0 v1 v2 v3 Q) : AW p l e R s m args below meth c E M_La_addEnd true (fun r C2 n2 => n2 = n ∧ Q r C2) n 0 0 77 [(2, v0), (0, v1), (0, v2), (0, v3), (9, 0)] [] C := by
  unfold J_La_addEnd_77 at h
  refine AW.ra_n (dc hd_La_addEnd 44 rfl) rfl rfl rfl ?_
  obtain ⟨g_13, h⟩ := h
  refine AW.getp fl_2_9 (dc hd_La_addEnd 45 rfl) g_13 rfl ?_
  refine AW.iload_n (dc hd_La_addEnd 46 rfl) rfl ?_
  refine AW.iload_n (dc hd_La_addEnd 47 rfl) rfl ?_
  obtain ⟨g_14, h⟩ := h
  obtain ⟨g_15, h⟩ := h
  refine AW.niast (dc hd_La_addEnd 48 rfl) g_14 g_15 (fun C_16 eC_16 => ?_)
  have h := h C_16 eC_16
  refine AW.ra_n (dc hd_La_addEnd 49 rfl) rfl rfl rfl ?_
  refine AW.getp fl_2_15 (dc hd_La_addEnd 50 rfl) g_13 rfl ?_
  refine AW.iload_n (dc hd_La_addEnd 51 rfl) rfl ?_
  refine AW.iload_n (dc hd_La_addEnd 52 rfl) rfl ?_
  obtain ⟨g_17, h⟩ := h
  obtain ⟨g_18, h⟩ := h
  refine AW.niast (dc hd_La_addEnd 53 rfl) g_17 g_18 (fun C_19 eC_19 => ?_)
  have h := h C_19 eC_19
  refine AW.ra_n (dc hd_La_addEnd 54 rfl) rfl rfl rfl ?_
  refine AW.rdup (dc hd_La_addEnd 55 rfl) rfl ?_
  refine AW.getf fl_2_73 (dc hd_La_addEnd 56 rfl) g_13 ?_
  refine AW.iconst (dc hd_La_addEnd 57 rfl) (by decide) ?_
  refine AW.iadd (dc hd_La_addEnd 58 rfl) ?_
  refine AW.nputI fl_2_73 (dc hd_La_addEnd 59 rfl) g_13 (fun C_20 eC_20 => ?_)
  have h := h C_20 eC_20
  exact AW.vret (dc hd_La_addEnd 60 rfl) rfl rfl (Nat.le_of_ble_eq_true rfl) (Nat.le_of_ble_eq_true rfl) ⟨rfl, h⟩
def B_La_addEnd_33 (n : Nat) (v0 v1 v2 v3 : Int) (Q : Int → Cn → Prop) (kz33 : Cn × Int → Prop) (z : Cn × Int) : Prop := match z with
  | (C, v4) => (v4 ≤ v3 → (J_La_addEnd_77 n C v0 v1 v2 v3 Q)) ∧ (¬ v4 ≤ v3 → (okO n v0 2 ∧ (okO n (PT v0.toNat 2) 12 ∧ (okI (PT v0.toNat 2) (w32 (v4 - 1)) ∧ (okI (PT v0.toNat 2) v4 ∧ (∀ C_25 : Cn, C_25 = wr C (PT v0.toNat 2).toNat v4.toNat (C (PT v0.toNat 2).toNat (w32 (v4 - 1)).toNat) → (okO n (PT v0.toNat 3) 12 ∧ (okI (PT v0.toNat 3) (w32 (v4 - 1)) ∧ (okI (PT v0.toNat 3) v4 ∧ (∀ C_29 : Cn, C_29 = wr C_25 (PT v0.toNat 3).toNat v4.toNat (C_25 (PT v0.toNat 3).toNat (w32 (v4 - 1)).toNat) → (kz33 (C_29, w32 (v4 + (-1))))))))))))))
theorem bB_La_addEnd_33 (n : Nat) (v0 v1 v2 v3 : Int) (Q : Int → Cn → Prop) (kz33 : Cn × Int → Prop) (hkz33 : ∀ (Cz : Cn) (z4 : Int), kz33 (Cz, z4) → AW p l e R s m args below meth c E M_La_addEnd true (fun r C2 n2 => n2 = n ∧ Q r C2) n 0 0 33 [(2, v0), (0, v1), (0, v2), (0, v3), (0, z4)] [] Cz) (C : Cn) (v4 : Int) (h : B_La_addEnd_33 n v0 v1 v2 v3 Q kz33 (C, v4)) : AW p l e R s m args below meth c E M_La_addEnd true (fun r C2 n2 => n2 = n ∧ Q r C2) n 0 0 33 [(2, v0), (0, v1), (0, v2), (0, v3), (0, v4)] [] C := by
  unfold B_La_addEnd_33 at h
  dsimp only at h
  refine AW.iload (dc hd_La_addEnd 19 rfl) rfl ?_
  refine AW.iload_n (dc hd_La_addEnd 20 rfl) rfl ?_
  refine AW.icmp_le (t := 77) (dc hd_La_addEnd 21 rfl) (by decide) (fun c_12 => ?_) (fun c_12 => ?_)
  · have h := h.1 c_12
    refine AW.fgt [(2, v0), (0, v1), (0, v2), (0, v3), (9, 0)] ⟨.inl rfl, .inl rfl, .inl rfl, .inl rfl, .inr rfl, trivial⟩ ?_
    exact aJ_La_addEnd_77 n C v0 v1 v2 v3 Q h
  · have h := h.2 c_12
    refine AW.ra_n (dc hd_La_addEnd 22 rfl) rfl rfl rfl ?_
    obtain ⟨g_21, h⟩ := h
    refine AW.getp fl_2_9 (dc hd_La_addEnd 23 rfl) g_21 rfl ?_
    refine AW.iload (dc hd_La_addEnd 24 rfl) rfl ?_
    refine AW.ra_n (dc hd_La_addEnd 25 rfl) rfl rfl rfl ?_
    refine AW.getp fl_2_9 (dc hd_La_addEnd 26 rfl) g_21 rfl ?_
    refine AW.iload (dc hd_La_addEnd 27 rfl) rfl ?_
    refine AW.iconst (dc hd_La_addEnd 28 rfl) (by decide) ?_
    refine AW.isub (dc hd_La_addEnd 29 rfl) ?_
    obtain ⟨g_22, h⟩ := h
    obtain ⟨g_23, h⟩ := h
    refine AW.iald (dc hd_La_addEnd 30 rfl) g_22 g_23 ?_
    obtain ⟨g_24, h⟩ := h
    refine AW.niast (dc hd_La_addEnd 31 rfl) g_22 g_24 (fun C_25 eC_25 => ?_)
    have h := h C_25 eC_25
    refine AW.ra_n (dc hd_La_addEnd 32 rfl) rfl rfl rfl ?_
    refine AW.getp fl_2_15 (dc hd_La_addEnd 33 rfl) g_21 rfl ?_
    refine AW.iload (dc hd_La_addEnd 34 rfl) rfl ?_
    refine AW.ra_n (dc hd_La_addEnd 35 rfl) rfl rfl rfl ?_
    refine AW.getp fl_2_15 (dc hd_La_addEnd 36 rfl) g_21 rfl ?_
    refine AW.iload (dc hd_La_addEnd 37 rfl) rfl ?_
    refine AW.iconst (dc hd_La_addEnd 38 rfl) (by decide) ?_
    refine AW.isub (dc hd_La_addEnd 39 rfl) ?_
    obtain ⟨g_26, h⟩ := h
    obtain ⟨g_27, h⟩ := h
    refine AW.iald (dc hd_La_addEnd 40 rfl) g_26 g_27 ?_
    obtain ⟨g_28, h⟩ := h
    refine AW.niast (dc hd_La_addEnd 41 rfl) g_26 g_28 (fun C_29 eC_29 => ?_)
    have h := h C_29 eC_29
    refine AW.iinc [(2, v0), (0, v1), (0, v2), (0, v3), (0, w32 (v4 + (-1)))] (dc hd_La_addEnd 42 rfl) rfl (Nat.le_of_ble_eq_true rfl) rfl rfl ?_
    refine AW.goto (t := 33) (dc hd_La_addEnd 43 rfl) (by decide) ?_
    exact hkz33 C_29 (w32 (v4 + (-1))) h
theorem aB_La_addEnd_33 (n : Nat) (v0 v1 v2 v3 : Int) (Q : Int → Cn → Prop) : ∀ (f : Nat) (z : Cn × Int), lp (B_La_addEnd_33 n v0 v1 v2 v3 Q) f z → AW p l e R s m args below meth c E M_La_addEnd true (fun r C2 n2 => n2 = n ∧ Q r C2) n 0 0 33 [(2, v0), (0, v1), (0, v2), (0, v3), (0, z.2)] [] (z.1) := by
  intro f
  induction f with
  | zero => intro z h; exact False.elim h
  | succ f ih => intro z h; exact bB_La_addEnd_33 n v0 v1 v2 v3 Q (lp (B_La_addEnd_33 n v0 v1 v2 v3 Q) f) (fun a0 a1 h => ih (a0, a1) h) z.1 z.2 h
def P_La_addEnd (n : Nat) (C : Cn) (v0 v1 v2 : Int) (Q : Int → Cn → Prop) : Prop :=
  okO n v0 2 ∧ (P_La_endsAhead n C v0 v1 v2 (fun (r_1 : Int) => P_La_isEndAt n C v0 r_1 v1 v2 (fun (r_6 : Int) => (r_6 = 0 → ((C v0.toNat 1 < 12 → (∃ f_30 : Nat, lp (B_La_addEnd_33 n v0 v1 v2 r_1 Q) f_30 (C, C v0.toNat 1))) ∧ (¬ C v0.toNat 1 < 12 → (Q 0 C)))) ∧ (¬ r_6 = 0 → (Q 0 C)))))
theorem m_La_addEnd (l : Launch) (E : Ev) (n : Nat) (C : Cn) (v0 v1 v2 : Int) (Q : Int → Cn → Prop) (h : P_La_addEnd n C v0 v1 v2 Q) : MA l y_La_addEnd M_La_addEnd E true C n [(2, v0), (0, v1), (0, v2)] (fun r C2 n2 => n2 = n ∧ Q r C2) := by
  refine MA.of (by decide) rfl rfl 2 rfl (fun p e s m args below meth c => ?_)
  show AW p l e _ s m args below meth c E M_La_addEnd true _ n 0 0 0 [(2, v0), (0, v1), (0, v2), (9, 0), (9, 0)] [] C
  unfold P_La_addEnd at h
  refine AW.ra_n (dc hd_La_addEnd 0 rfl) rfl rfl rfl ?_
  refine AW.iload_n (dc hd_La_addEnd 1 rfl) rfl ?_
  refine AW.iload_n (dc hd_La_addEnd 2 rfl) rfl ?_
  obtain ⟨g_2, h⟩ := h
  refine AW.callV (As := [(0, v1), (0, v2)]) (rest := []) (ci := 2) (m_La_endsAhead l E n C v0 v1 v2 _ h) cb_2_112 im_La_endsAhead se_La_endsAhead ⟨_, _, rfl⟩ (by decide) (dc hd_La_addEnd 3 rfl) g_2 rfl rfl ⟨Nat.le_of_ble_eq_true rfl, Nat.le_of_ble_eq_true rfl⟩ ⟨(Nat.le_of_ble_eq_true rfl), (Nat.le_of_ble_eq_true rfl)⟩ (Nat.le_of_ble_eq_true rfl) (fun _ h => by cases h) (fun _ => rfl) (fun r_1 D_4 d_5 q_3 => ?_)
  obtain ⟨q_3a, q_3b, h⟩ := q_3
  subst D_4
  subst d_5
  show AW p l e _ s m args below meth c E M_La_addEnd true _ n _ _ _ [(2, v0), (0, v1), (0, v2), (9, 0), (9, 0)] [(0, r_1)] C
  refine AW.istore_n [(2, v0), (0, v1), (0, v2), (0, r_1), (9, 0)] (dc hd_La_addEnd 4 rfl) (Nat.le_of_ble_eq_true rfl) rfl rfl ?_
  refine AW.ra_n (dc hd_La_addEnd 5 rfl) rfl rfl rfl ?_
  refine AW.iload_n (dc hd_La_addEnd 6 rfl) rfl ?_
  refine AW.iload_n (dc hd_La_addEnd 7 rfl) rfl ?_
  refine AW.iload_n (dc hd_La_addEnd 8 rfl) rfl ?_
  refine AW.callV (As := [(0, r_1), (0, v1), (0, v2)]) (rest := []) (ci := 2) (m_La_isEndAt l E n C v0 r_1 v1 v2 _ h) cb_2_120 im_La_isEndAt se_La_isEndAt ⟨_, _, rfl⟩ (by decide) (dc hd_La_addEnd 9 rfl) g_2 rfl rfl ⟨Nat.le_of_ble_eq_true rfl, Nat.le_of_ble_eq_true rfl⟩ ⟨(Nat.le_of_ble_eq_true rfl), (Nat.le_of_ble_eq_true rfl)⟩ (Nat.le_of_ble_eq_true rfl) (fun _ h => by cases h) (fun _ => rfl) (fun r_6 D_8 d_9 q_7 => ?_)
  obtain ⟨q_7a, q_7b, h⟩ := q_7
  subst D_8
  subst d_9
  show AW p l e _ s m args below meth c E M_La_addEnd true _ n _ _ _ [(2, v0), (0, v1), (0, v2), (0, r_1), (9, 0)] [(0, r_6)] C
  refine AW.if_ne (t := 26) (dc hd_La_addEnd 10 rfl) (by decide) (fun c_10 => ?_) (fun c_10 => ?_)
  · have h := h.2 c_10
    exact AW.vret (dc hd_La_addEnd 15 rfl) rfl rfl (Nat.le_of_ble_eq_true rfl) (Nat.le_of_ble_eq_true rfl) ⟨rfl, h⟩
  · have h := h.1 c_10
    refine AW.ra_n (dc hd_La_addEnd 11 rfl) rfl rfl rfl ?_
    refine AW.getf fl_2_73 (dc hd_La_addEnd 12 rfl) g_2 ?_
    refine AW.bipush (dc hd_La_addEnd 13 rfl) (by decide) (by decide +kernel) ?_
    refine AW.icmp_lt (t := 27) (dc hd_La_addEnd 14 rfl) (by decide) (fun c_11 => ?_) (fun c_11 => ?_)
    · have h := h.1 c_11
      refine AW.ra_n (dc hd_La_addEnd 16 rfl) rfl rfl rfl ?_
      refine AW.getf fl_2_73 (dc hd_La_addEnd 17 rfl) g_2 ?_
      refine AW.istore [(2, v0), (0, v1), (0, v2), (0, r_1), (0, C v0.toNat 1)] (dc hd_La_addEnd 18 rfl) (Nat.le_of_ble_eq_true rfl) rfl rfl ?_
      obtain ⟨f_30, h⟩ := h
      exact aB_La_addEnd_33 n v0 v1 v2 r_1 Q f_30 (C, C v0.toNat 1) h
    · have h := h.2 c_11
      exact AW.vret (dc hd_La_addEnd 15 rfl) rfl rfl (Nat.le_of_ble_eq_true rfl) (Nat.le_of_ble_eq_true rfl) ⟨rfl, h⟩
end
