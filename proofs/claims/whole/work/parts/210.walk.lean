section
variable {p : Program} {l : Launch} {e : Env} {R : Room} {s : State} {m : MethodId} {args : Array Value} {below : List Frame} {meth : Method} {c : Code} {E : Ev}
def J_G_isAhead_20 (n : Nat) (C : Cn) (s0 : Int) (Q : Int → Prop) : Prop :=
  (s0 = 0 ∨ s0 = 1) ∧ (Q s0)
theorem aJ_G_isAhead_20 (n : Nat) (C : Cn) (s0 : Int) (Q : Int → Prop) (h : J_G_isAhead_20 n C s0 Q) : AW p l e R s m args below meth c E M_G_isAhead true (fun r C2 n2 => C2 = C ∧ n2 = n ∧ Q r) n 0 0 20 [(9, 0), (9, 0), (9, 0), (9, 0)] [(0, s0)] C := by
  unfold J_G_isAhead_20 at h
  obtain ⟨g_4, h⟩ := h
  exact AW.zret (dc hd_G_isAhead 12 rfl) rfl rfl (Nat.le_of_ble_eq_true rfl) (Nat.le_of_ble_eq_true rfl) g_4 ⟨rfl, rfl, h⟩
def P_G_isAhead (n : Nat) (C : Cn) (v0 v1 v2 v3 : Int) (Q : Int → Prop) : Prop :=
  J_G_isAhead_20 n C (if v0 < v2 then 1 else (if v0 = v2 then (if v3 ≤ v1 then 0 else 1) else 0)) Q
theorem m_G_isAhead (l : Launch) (E : Ev) (n : Nat) (C : Cn) (v0 v1 v2 v3 : Int) (Q : Int → Prop) (h : P_G_isAhead n C v0 v1 v2 v3 Q) : MA l y_G_isAhead M_G_isAhead E true C n [(0, v0), (0, v1), (0, v2), (0, v3)] (fun r C2 n2 => C2 = C ∧ n2 = n ∧ Q r) := by
  refine MA.of (by decide) rfl rfl 0 rfl (fun p e s m args below meth c => ?_)
  show AW p l e _ s m args below meth c E M_G_isAhead true _ n 0 0 0 [(0, v0), (0, v1), (0, v2), (0, v3)] [] C
  unfold P_G_isAhead at h
  refine AW.iload_n (dc hd_G_isAhead 0 rfl) rfl ?_
  refine AW.iload_n (dc hd_G_isAhead 1 rfl) rfl ?_
  refine AW.icmp_lt (t := 15) (dc hd_G_isAhead 2 rfl) (by decide) (fun c_1 => ?_) (fun c_1 => ?_)
  · simp only [if_pos (show v0 < v2 from c_1)] at h
    refine AW.iconst (dc hd_G_isAhead 9 rfl) (by decide) ?_
    refine AW.goto (t := 20) (dc hd_G_isAhead 10 rfl) (by decide) ?_
    refine AW.fgt [(9, 0), (9, 0), (9, 0), (9, 0)] ⟨.inr rfl, .inr rfl, .inr rfl, .inr rfl, trivial⟩ ?_
    exact aJ_G_isAhead_20 n C _ Q h
  · simp only [if_neg (show ¬ (v0 < v2) from c_1)] at h
    refine AW.iload_n (dc hd_G_isAhead 3 rfl) rfl ?_
    refine AW.iload_n (dc hd_G_isAhead 4 rfl) rfl ?_
    refine AW.icmp_ne (t := 19) (dc hd_G_isAhead 5 rfl) (by decide) (fun c_2 => ?_) (fun c_2 => ?_)
    · simp only [if_neg (show ¬ (v0 = v2) from c_2)] at h
      refine AW.iconst (dc hd_G_isAhead 11 rfl) (by decide) ?_
      refine AW.fgt [(9, 0), (9, 0), (9, 0), (9, 0)] ⟨.inr rfl, .inr rfl, .inr rfl, .inr rfl, trivial⟩ ?_
      exact aJ_G_isAhead_20 n C _ Q h
    · simp only [if_pos (show v0 = v2 from c_2)] at h
      refine AW.iload_n (dc hd_G_isAhead 6 rfl) rfl ?_
      refine AW.iload_n (dc hd_G_isAhead 7 rfl) rfl ?_
      refine AW.icmp_ge (t := 19) (dc hd_G_isAhead 8 rfl) (by decide) (fun c_3 => ?_) (fun c_3 => ?_)
      · simp only [if_pos (show v3 ≤ v1 from c_3)] at h
        refine AW.iconst (dc hd_G_isAhead 11 rfl) (by decide) ?_
        refine AW.fgt [(9, 0), (9, 0), (9, 0), (9, 0)] ⟨.inr rfl, .inr rfl, .inr rfl, .inr rfl, trivial⟩ ?_
        exact aJ_G_isAhead_20 n C _ Q h
      · simp only [if_neg (show ¬ (v3 ≤ v1) from c_3)] at h
        refine AW.iconst (dc hd_G_isAhead 9 rfl) (by decide) ?_
        refine AW.goto (t := 20) (dc hd_G_isAhead 10 rfl) (by decide) ?_
        refine AW.fgt [(9, 0), (9, 0), (9, 0), (9, 0)] ⟨.inr rfl, .inr rfl, .inr rfl, .inr rfl, trivial⟩ ?_
        exact aJ_G_isAhead_20 n C _ Q h
def P_G_turn (n : Nat) (C : Cn) (v0 v1 v2 v3 v4 v5 : Int) (Q : Int → Prop) : Prop :=
  Q (w32 (w32 ((w32 (v2 - v0)) * (w32 (v5 - v1))) - (w32 ((w32 (v3 - v1)) * (w32 (v4 - v0))))))
theorem m_G_turn (l : Launch) (E : Ev) (n : Nat) (C : Cn) (v0 v1 v2 v3 v4 v5 : Int) (Q : Int → Prop) (h : P_G_turn n C v0 v1 v2 v3 v4 v5 Q) : MA l y_G_turn M_G_turn E true C n [(0, v0), (0, v1), (0, v2), (0, v3), (0, v4), (0, v5)] (fun r C2 n2 => C2 = C ∧ n2 = n ∧ Q r) := by
  refine MA.of (by decide) rfl rfl 0 rfl (fun p e s m args below meth c => ?_)
  show AW p l e _ s m args below meth c E M_G_turn true _ n 0 0 0 [(0, v0), (0, v1), (0, v2), (0, v3), (0, v4), (0, v5)] [] C
  unfold P_G_turn at h
  refine AW.iload_n (dc hd_G_turn 0 rfl) rfl ?_
  refine AW.iload_n (dc hd_G_turn 1 rfl) rfl ?_
  refine AW.isub (dc hd_G_turn 2 rfl) ?_
  refine AW.iload (dc hd_G_turn 3 rfl) rfl ?_
  refine AW.iload_n (dc hd_G_turn 4 rfl) rfl ?_
  refine AW.isub (dc hd_G_turn 5 rfl) ?_
  refine AW.imul (dc hd_G_turn 6 rfl) ?_
  refine AW.iload_n (dc hd_G_turn 7 rfl) rfl ?_
  refine AW.iload_n (dc hd_G_turn 8 rfl) rfl ?_
  refine AW.isub (dc hd_G_turn 9 rfl) ?_
  refine AW.iload (dc hd_G_turn 10 rfl) rfl ?_
  refine AW.iload_n (dc hd_G_turn 11 rfl) rfl ?_
  refine AW.isub (dc hd_G_turn 12 rfl) ?_
  refine AW.imul (dc hd_G_turn 13 rfl) ?_
  refine AW.isub (dc hd_G_turn 14 rfl) ?_
  exact AW.iret (dc hd_G_turn 15 rfl) rfl rfl (Nat.le_of_ble_eq_true rfl) (Nat.le_of_ble_eq_true rfl) ⟨rfl, rfl, h⟩
def P_G_side (n : Nat) (C : Cn) (v0 v1 v2 : Int) (Q : Int → Prop) : Prop :=
  okO n v0 12 ∧ (okI v0 2 ∧ (okI v0 3 ∧ (okI v0 4 ∧ (okI v0 5 ∧ (P_G_turn n C (C v0.toNat 2) (C v0.toNat 3) (C v0.toNat 4) (C v0.toNat 5) v1 v2 (fun (r_6 : Int) => Q r_6))))))
theorem m_G_side (l : Launch) (E : Ev) (n : Nat) (C : Cn) (v0 v1 v2 : Int) (Q : Int → Prop) (h : P_G_side n C v0 v1 v2 Q) : MA l y_G_side M_G_side E true C n [(2, v0), (0, v1), (0, v2)] (fun r C2 n2 => C2 = C ∧ n2 = n ∧ Q r) := by
  refine MA.of (by decide) rfl rfl 0 rfl (fun p e s m args below meth c => ?_)
  show AW p l e _ s m args below meth c E M_G_side true _ n 0 0 0 [(2, v0), (0, v1), (0, v2)] [] C
  unfold P_G_side at h
  refine AW.ra_n (dc hd_G_side 0 rfl) rfl rfl rfl ?_
  refine AW.iconst (dc hd_G_side 1 rfl) (by decide) ?_
  obtain ⟨g_1, h⟩ := h
  obtain ⟨g_2, h⟩ := h
  refine AW.iald (dc hd_G_side 2 rfl) g_1 g_2 ?_
  refine AW.ra_n (dc hd_G_side 3 rfl) rfl rfl rfl ?_
  refine AW.iconst (dc hd_G_side 4 rfl) (by decide) ?_
  obtain ⟨g_3, h⟩ := h
  refine AW.iald (dc hd_G_side 5 rfl) g_1 g_3 ?_
  refine AW.ra_n (dc hd_G_side 6 rfl) rfl rfl rfl ?_
  refine AW.iconst (dc hd_G_side 7 rfl) (by decide) ?_
  obtain ⟨g_4, h⟩ := h
  refine AW.iald (dc hd_G_side 8 rfl) g_1 g_4 ?_
  refine AW.ra_n (dc hd_G_side 9 rfl) rfl rfl rfl ?_
  refine AW.iconst (dc hd_G_side 10 rfl) (by decide) ?_
  obtain ⟨g_5, h⟩ := h
  refine AW.iald (dc hd_G_side 11 rfl) g_1 g_5 ?_
  refine AW.iload_n (dc hd_G_side 12 rfl) rfl ?_
  refine AW.iload_n (dc hd_G_side 13 rfl) rfl ?_
  refine AW.callS (As := [(0, C v0.toNat 2), (0, C v0.toNat 3), (0, C v0.toNat 4), (0, C v0.toNat 5), (0, v1), (0, v2)]) (rest := []) (m_G_turn l E n C (C v0.toNat 2) (C v0.toNat 3) (C v0.toNat 4) (C v0.toNat 5) v1 v2 _ h) cb_10_122 sm_G_turn (dc hd_G_side 14 rfl) rfl rfl ⟨Nat.le_of_ble_eq_true rfl, Nat.le_of_ble_eq_true rfl⟩ ⟨(Nat.le_of_ble_eq_true rfl), (Nat.le_of_ble_eq_true rfl)⟩ (Nat.le_of_ble_eq_true rfl) (fun _ h => by cases h) (fun _ => rfl) (fun r_6 D_8 d_9 q_7 => ?_)
  obtain ⟨q_7a, q_7b, h⟩ := q_7
  subst D_8
  subst d_9
  show AW p l e _ s m args below meth c E M_G_side true _ n _ _ _ [(2, v0), (0, v1), (0, v2)] [(0, r_6)] C
  exact AW.iret (dc hd_G_side 15 rfl) rfl rfl (Nat.le_of_ble_eq_true rfl) (Nat.le_of_ble_eq_true rfl) ⟨rfl, rfl, h⟩
def J_G_isEnd_33 (n : Nat) (C : Cn) (s0 : Int) (Q : Int → Prop) : Prop :=
  (s0 = 0 ∨ s0 = 1) ∧ (Q s0)
theorem aJ_G_isEnd_33 (n : Nat) (C : Cn) (s0 : Int) (Q : Int → Prop) (h : J_G_isEnd_33 n C s0 Q) : AW p l e R s m args below meth c E M_G_isEnd true (fun r C2 n2 => C2 = C ∧ n2 = n ∧ Q r) n 0 0 33 [(9, 0), (9, 0), (9, 0)] [(0, s0)] C := by
  unfold J_G_isEnd_33 at h
  obtain ⟨g_9, h⟩ := h
  exact AW.zret (dc hd_G_isEnd 23 rfl) rfl rfl (Nat.le_of_ble_eq_true rfl) (Nat.le_of_ble_eq_true rfl) g_9 ⟨rfl, rfl, h⟩
def J_G_isEnd_14 (n : Nat) (C : Cn) (v0 v1 v2 : Int) (Q : Int → Prop) : Prop :=
  okO n v0 12 ∧ (okI v0 4 ∧ ((C v0.toNat 4 = v1 → (okI v0 5 ∧ (J_G_isEnd_33 n C (if C v0.toNat 5 = v2 then 1 else 0) Q))) ∧ (¬ C v0.toNat 4 = v1 → (Q 0))))
theorem aJ_G_isEnd_14 (n : Nat) (C : Cn) (v0 v1 v2 : Int) (Q : Int → Prop) (h : J_G_isEnd_14 n C v0 v1 v2 Q) : AW p l e R s m args below meth c E M_G_isEnd true (fun r C2 n2 => C2 = C ∧ n2 = n ∧ Q r) n 0 0 14 [(2, v0), (0, v1), (0, v2)] [] C := by
  unfold J_G_isEnd_14 at h
  refine AW.ra_n (dc hd_G_isEnd 10 rfl) rfl rfl rfl ?_
  refine AW.iconst (dc hd_G_isEnd 11 rfl) (by decide) ?_
  obtain ⟨g_4, h⟩ := h
  obtain ⟨g_5, h⟩ := h
  refine AW.iald (dc hd_G_isEnd 12 rfl) g_4 g_5 ?_
  refine AW.iload_n (dc hd_G_isEnd 13 rfl) rfl ?_
  refine AW.icmp_ne (t := 32) (dc hd_G_isEnd 14 rfl) (by decide) (fun c_6 => ?_) (fun c_6 => ?_)
  · have h := h.2 c_6
    refine AW.iconst (dc hd_G_isEnd 22 rfl) (by decide) ?_
    exact AW.zret (dc hd_G_isEnd 23 rfl) rfl rfl (Nat.le_of_ble_eq_true rfl) (Nat.le_of_ble_eq_true rfl) (by decide) ⟨rfl, rfl, h⟩
  · have h := h.1 c_6
    refine AW.ra_n (dc hd_G_isEnd 15 rfl) rfl rfl rfl ?_
    refine AW.iconst (dc hd_G_isEnd 16 rfl) (by decide) ?_
    obtain ⟨g_7, h⟩ := h
    refine AW.iald (dc hd_G_isEnd 17 rfl) g_4 g_7 ?_
    refine AW.iload_n (dc hd_G_isEnd 18 rfl) rfl ?_
    refine AW.icmp_ne (t := 32) (dc hd_G_isEnd 19 rfl) (by decide) (fun c_8 => ?_) (fun c_8 => ?_)
    · simp only [if_neg (show ¬ (C v0.toNat 5 = v2) from c_8)] at h
      refine AW.iconst (dc hd_G_isEnd 22 rfl) (by decide) ?_
      refine AW.fgt [(9, 0), (9, 0), (9, 0)] ⟨.inr rfl, .inr rfl, .inr rfl, trivial⟩ ?_
      exact aJ_G_isEnd_33 n C _ Q h
    · simp only [if_pos (show C v0.toNat 5 = v2 from c_8)] at h
      refine AW.iconst (dc hd_G_isEnd 20 rfl) (by decide) ?_
      refine AW.goto (t := 33) (dc hd_G_isEnd 21 rfl) (by decide) ?_
      refine AW.fgt [(9, 0), (9, 0), (9, 0)] ⟨.inr rfl, .inr rfl, .inr rfl, trivial⟩ ?_
      exact aJ_G_isEnd_33 n C _ Q h
def P_G_isEnd (n : Nat) (C : Cn) (v0 v1 v2 : Int) (Q : Int → Prop) : Prop :=
  okO n v0 12 ∧ (okI v0 2 ∧ ((C v0.toNat 2 = v1 → (okI v0 3 ∧ ((C v0.toNat 3 = v2 → (Q 1)) ∧ (¬ C v0.toNat 3 = v2 → (J_G_isEnd_14 n C v0 v1 v2 Q))))) ∧ (¬ C v0.toNat 2 = v1 → (J_G_isEnd_14 n C v0 v1 v2 Q))))
theorem m_G_isEnd (l : Launch) (E : Ev) (n : Nat) (C : Cn) (v0 v1 v2 : Int) (Q : Int → Prop) (h : P_G_isEnd n C v0 v1 v2 Q) : MA l y_G_isEnd M_G_isEnd E true C n [(2, v0), (0, v1), (0, v2)] (fun r C2 n2 => C2 = C ∧ n2 = n ∧ Q r) := by
  refine MA.of (by decide) rfl rfl 0 rfl (fun p e s m args below meth c => ?_)
  show AW p l e _ s m args below meth c E M_G_isEnd true _ n 0 0 0 [(2, v0), (0, v1), (0, v2)] [] C
  unfold P_G_isEnd at h
  refine AW.ra_n (dc hd_G_isEnd 0 rfl) rfl rfl rfl ?_
  refine AW.iconst (dc hd_G_isEnd 1 rfl) (by decide) ?_
  obtain ⟨g_1, h⟩ := h
  obtain ⟨g_2, h⟩ := h
  refine AW.iald (dc hd_G_isEnd 2 rfl) g_1 g_2 ?_
  refine AW.iload_n (dc hd_G_isEnd 3 rfl) rfl ?_
  refine AW.icmp_ne (t := 14) (dc hd_G_isEnd 4 rfl) (by decide) (fun c_3 => ?_) (fun c_3 => ?_)
  · have h := h.2 c_3
    exact aJ_G_isEnd_14 n C v0 v1 v2 Q h
  · have h := h.1 c_3
    refine AW.ra_n (dc hd_G_isEnd 5 rfl) rfl rfl rfl ?_
    refine AW.iconst (dc hd_G_isEnd 6 rfl) (by decide) ?_
    obtain ⟨g_10, h⟩ := h
    refine AW.iald (dc hd_G_isEnd 7 rfl) g_1 g_10 ?_
    refine AW.iload_n (dc hd_G_isEnd 8 rfl) rfl ?_
    refine AW.icmp_eq (t := 28) (dc hd_G_isEnd 9 rfl) (by decide) (fun c_11 => ?_) (fun c_11 => ?_)
    · have h := h.1 c_11
      refine AW.iconst (dc hd_G_isEnd 20 rfl) (by decide) ?_
      refine AW.goto (t := 33) (dc hd_G_isEnd 21 rfl) (by decide) ?_
      exact AW.zret (dc hd_G_isEnd 23 rfl) rfl rfl (Nat.le_of_ble_eq_true rfl) (Nat.le_of_ble_eq_true rfl) (by decide) ⟨rfl, rfl, h⟩
    · have h := h.2 c_11
      exact aJ_G_isEnd_14 n C v0 v1 v2 Q h
def J_G_isOn_42 (n : Nat) (C : Cn) (s0 : Int) (Q : Int → Prop) : Prop :=
  (s0 = 0 ∨ s0 = 1) ∧ (Q s0)
theorem aJ_G_isOn_42 (n : Nat) (C : Cn) (s0 : Int) (Q : Int → Prop) (h : J_G_isOn_42 n C s0 Q) : AW p l e R s m args below meth c E M_G_isOn true (fun r C2 n2 => C2 = C ∧ n2 = n ∧ Q r) n 0 0 42 [(9, 0), (9, 0), (9, 0)] [(0, s0)] C := by
  unfold J_G_isOn_42 at h
  obtain ⟨g_21, h⟩ := h
  exact AW.zret (dc hd_G_isOn 28 rfl) rfl rfl (Nat.le_of_ble_eq_true rfl) (Nat.le_of_ble_eq_true rfl) g_21 ⟨rfl, rfl, h⟩
def P_G_isOn (n : Nat) (C : Cn) (v0 v1 v2 : Int) (Q : Int → Prop) : Prop :=
  P_G_side n C v0 v1 v2 (fun (r_1 : Int) => (r_1 = 0 → (okO n v0 12 ∧ (okI v0 2 ∧ (okI v0 3 ∧ (P_G_isAhead n C v1 v2 (C v0.toNat 2) (C v0.toNat 3) (fun (r_9 : Int) => (r_9 = 0 → (okI v0 4 ∧ (okI v0 5 ∧ (P_G_isAhead n C (C v0.toNat 4) (C v0.toNat 5) v1 v2 (fun (r_16 : Int) => J_G_isOn_42 n C (if r_16 = 0 then 1 else 0) Q))))) ∧ (¬ r_9 = 0 → (Q 0)))))))) ∧ (¬ r_1 = 0 → (Q 0)))
theorem m_G_isOn (l : Launch) (E : Ev) (n : Nat) (C : Cn) (v0 v1 v2 : Int) (Q : Int → Prop) (h : P_G_isOn n C v0 v1 v2 Q) : MA l y_G_isOn M_G_isOn E true C n [(2, v0), (0, v1), (0, v2)] (fun r C2 n2 => C2 = C ∧ n2 = n ∧ Q r) := by
  refine MA.of (by decide) rfl rfl 0 rfl (fun p e s m args below meth c => ?_)
  show AW p l e _ s m args below meth c E M_G_isOn true _ n 0 0 0 [(2, v0), (0, v1), (0, v2)] [] C
  unfold P_G_isOn at h
  refine AW.ra_n (dc hd_G_isOn 0 rfl) rfl rfl rfl ?_
  refine AW.iload_n (dc hd_G_isOn 1 rfl) rfl ?_
  refine AW.iload_n (dc hd_G_isOn 2 rfl) rfl ?_
  refine AW.callS (As := [(2, v0), (0, v1), (0, v2)]) (rest := []) (m_G_side l E n C v0 v1 v2 _ h) cb_10_126 sm_G_side (dc hd_G_isOn 3 rfl) rfl rfl ⟨Nat.le_of_ble_eq_true rfl, Nat.le_of_ble_eq_true rfl⟩ ⟨(Nat.le_of_ble_eq_true rfl), (Nat.le_of_ble_eq_true rfl)⟩ (Nat.le_of_ble_eq_true rfl) (fun _ h => by cases h) (fun _ => rfl) (fun r_1 D_3 d_4 q_2 => ?_)
  obtain ⟨q_2a, q_2b, h⟩ := q_2
  subst D_3
  subst d_4
  show AW p l e _ s m args below meth c E M_G_isOn true _ n _ _ _ [(2, v0), (0, v1), (0, v2)] [(0, r_1)] C
  refine AW.if_ne (t := 41) (dc hd_G_isOn 4 rfl) (by decide) (fun c_5 => ?_) (fun c_5 => ?_)
  · have h := h.2 c_5
    refine AW.iconst (dc hd_G_isOn 27 rfl) (by decide) ?_
    exact AW.zret (dc hd_G_isOn 28 rfl) rfl rfl (Nat.le_of_ble_eq_true rfl) (Nat.le_of_ble_eq_true rfl) (by decide) ⟨rfl, rfl, h⟩
  · have h := h.1 c_5
    refine AW.iload_n (dc hd_G_isOn 5 rfl) rfl ?_
    refine AW.iload_n (dc hd_G_isOn 6 rfl) rfl ?_
    refine AW.ra_n (dc hd_G_isOn 7 rfl) rfl rfl rfl ?_
    refine AW.iconst (dc hd_G_isOn 8 rfl) (by decide) ?_
    obtain ⟨g_6, h⟩ := h
    obtain ⟨g_7, h⟩ := h
    refine AW.iald (dc hd_G_isOn 9 rfl) g_6 g_7 ?_
    refine AW.ra_n (dc hd_G_isOn 10 rfl) rfl rfl rfl ?_
    refine AW.iconst (dc hd_G_isOn 11 rfl) (by decide) ?_
    obtain ⟨g_8, h⟩ := h
    refine AW.iald (dc hd_G_isOn 12 rfl) g_6 g_8 ?_
    refine AW.callS (As := [(0, v1), (0, v2), (0, C v0.toNat 2), (0, C v0.toNat 3)]) (rest := []) (m_G_isAhead l E n C v1 v2 (C v0.toNat 2) (C v0.toNat 3) _ h) cb_10_130 sm_G_isAhead (dc hd_G_isOn 13 rfl) rfl rfl ⟨Nat.le_of_ble_eq_true rfl, Nat.le_of_ble_eq_true rfl⟩ ⟨(Nat.le_of_ble_eq_true rfl), (Nat.le_of_ble_eq_true rfl)⟩ (Nat.le_of_ble_eq_true rfl) (fun _ h => by cases h) (fun _ => rfl) (fun r_9 D_11 d_12 q_10 => ?_)
    obtain ⟨q_10a, q_10b, h⟩ := q_10
    subst D_11
    subst d_12
    show AW p l e _ s m args below meth c E M_G_isOn true _ n _ _ _ [(2, v0), (0, v1), (0, v2)] [(0, r_9)] C
    refine AW.if_ne (t := 41) (dc hd_G_isOn 14 rfl) (by decide) (fun c_13 => ?_) (fun c_13 => ?_)
    · have h := h.2 c_13
      refine AW.iconst (dc hd_G_isOn 27 rfl) (by decide) ?_
      exact AW.zret (dc hd_G_isOn 28 rfl) rfl rfl (Nat.le_of_ble_eq_true rfl) (Nat.le_of_ble_eq_true rfl) (by decide) ⟨rfl, rfl, h⟩
    · have h := h.1 c_13
      refine AW.ra_n (dc hd_G_isOn 15 rfl) rfl rfl rfl ?_
      refine AW.iconst (dc hd_G_isOn 16 rfl) (by decide) ?_
      obtain ⟨g_14, h⟩ := h
      refine AW.iald (dc hd_G_isOn 17 rfl) g_6 g_14 ?_
      refine AW.ra_n (dc hd_G_isOn 18 rfl) rfl rfl rfl ?_
      refine AW.iconst (dc hd_G_isOn 19 rfl) (by decide) ?_
      obtain ⟨g_15, h⟩ := h
      refine AW.iald (dc hd_G_isOn 20 rfl) g_6 g_15 ?_
      refine AW.iload_n (dc hd_G_isOn 21 rfl) rfl ?_
      refine AW.iload_n (dc hd_G_isOn 22 rfl) rfl ?_
      refine AW.callS (As := [(0, C v0.toNat 4), (0, C v0.toNat 5), (0, v1), (0, v2)]) (rest := []) (m_G_isAhead l E n C (C v0.toNat 4) (C v0.toNat 5) v1 v2 _ h) cb_10_130 sm_G_isAhead (dc hd_G_isOn 23 rfl) rfl rfl ⟨Nat.le_of_ble_eq_true rfl, Nat.le_of_ble_eq_true rfl⟩ ⟨(Nat.le_of_ble_eq_true rfl), (Nat.le_of_ble_eq_true rfl)⟩ (Nat.le_of_ble_eq_true rfl) (fun _ h => by cases h) (fun _ => rfl) (fun r_16 D_18 d_19 q_17 => ?_)
      obtain ⟨q_17a, q_17b, h⟩ := q_17
      subst D_18
      subst d_19
      show AW p l e _ s m args below meth c E M_G_isOn true _ n _ _ _ [(2, v0), (0, v1), (0, v2)] [(0, r_16)] C
      refine AW.if_ne (t := 41) (dc hd_G_isOn 24 rfl) (by decide) (fun c_20 => ?_) (fun c_20 => ?_)
      · simp only [if_neg (show ¬ (r_16 = 0) from c_20)] at h
        refine AW.iconst (dc hd_G_isOn 27 rfl) (by decide) ?_
        refine AW.fgt [(9, 0), (9, 0), (9, 0)] ⟨.inr rfl, .inr rfl, .inr rfl, trivial⟩ ?_
        exact aJ_G_isOn_42 n C _ Q h
      · simp only [if_pos (show r_16 = 0 from c_20)] at h
        refine AW.iconst (dc hd_G_isOn 25 rfl) (by decide) ?_
        refine AW.goto (t := 42) (dc hd_G_isOn 26 rfl) (by decide) ?_
        refine AW.fgt [(9, 0), (9, 0), (9, 0)] ⟨.inr rfl, .inr rfl, .inr rfl, trivial⟩ ?_
        exact aJ_G_isOn_42 n C _ Q h
def J_G_areApartSides_21 (n : Nat) (C : Cn) (s0 : Int) (Q : Int → Prop) : Prop :=
  (s0 = 0 ∨ s0 = 1) ∧ (Q s0)
theorem aJ_G_areApartSides_21 (n : Nat) (C : Cn) (s0 : Int) (Q : Int → Prop) (h : J_G_areApartSides_21 n C s0 Q) : AW p l e R s m args below meth c E M_G_areApartSides true (fun r C2 n2 => C2 = C ∧ n2 = n ∧ Q r) n 0 0 21 [(9, 0), (9, 0)] [(0, s0)] C := by
  unfold J_G_areApartSides_21 at h
  obtain ⟨g_7, h⟩ := h
  exact AW.zret (dc hd_G_areApartSides 11 rfl) rfl rfl (Nat.le_of_ble_eq_true rfl) (Nat.le_of_ble_eq_true rfl) g_7 ⟨rfl, rfl, h⟩
def P_G_areApartSides (n : Nat) (C : Cn) (v0 v1 : Int) (Q : Int → Prop) : Prop :=
  J_G_areApartSides_21 n C (if v0 ≤ 0 then (if 0 ≤ v0 then 0 else (if v1 ≤ 0 then 0 else 1)) else (if v1 < 0 then 1 else (if 0 ≤ v0 then 0 else (if v1 ≤ 0 then 0 else 1)))) Q
theorem m_G_areApartSides (l : Launch) (E : Ev) (n : Nat) (C : Cn) (v0 v1 : Int) (Q : Int → Prop) (h : P_G_areApartSides n C v0 v1 Q) : MA l y_G_areApartSides M_G_areApartSides E true C n [(0, v0), (0, v1)] (fun r C2 n2 => C2 = C ∧ n2 = n ∧ Q r) := by
  refine MA.of (by decide) rfl rfl 0 rfl (fun p e s m args below meth c => ?_)
  show AW p l e _ s m args below meth c E M_G_areApartSides true _ n 0 0 0 [(0, v0), (0, v1)] [] C
  unfold P_G_areApartSides at h
  refine AW.iload_n (dc hd_G_areApartSides 0 rfl) rfl ?_
  refine AW.if_le (t := 8) (dc hd_G_areApartSides 1 rfl) (by decide) (fun c_1 => ?_) (fun c_1 => ?_)
  · simp only [if_pos (show v0 ≤ 0 from c_1)] at h
    refine AW.iload_n (dc hd_G_areApartSides 4 rfl) rfl ?_
    refine AW.if_ge (t := 20) (dc hd_G_areApartSides 5 rfl) (by decide) (fun c_2 => ?_) (fun c_2 => ?_)
    · simp only [if_pos (show 0 ≤ v0 from c_2)] at h
      refine AW.iconst (dc hd_G_areApartSides 10 rfl) (by decide) ?_
      refine AW.fgt [(9, 0), (9, 0)] ⟨.inr rfl, .inr rfl, trivial⟩ ?_
      exact aJ_G_areApartSides_21 n C _ Q h
    · simp only [if_neg (show ¬ (0 ≤ v0) from c_2)] at h
      refine AW.iload_n (dc hd_G_areApartSides 6 rfl) rfl ?_
      refine AW.if_le (t := 20) (dc hd_G_areApartSides 7 rfl) (by decide) (fun c_3 => ?_) (fun c_3 => ?_)
      · simp only [if_pos (show v1 ≤ 0 from c_3)] at h
        refine AW.iconst (dc hd_G_areApartSides 10 rfl) (by decide) ?_
        refine AW.fgt [(9, 0), (9, 0)] ⟨.inr rfl, .inr rfl, trivial⟩ ?_
        exact aJ_G_areApartSides_21 n C _ Q h
      · simp only [if_neg (show ¬ (v1 ≤ 0) from c_3)] at h
        refine AW.iconst (dc hd_G_areApartSides 8 rfl) (by decide) ?_
        refine AW.goto (t := 21) (dc hd_G_areApartSides 9 rfl) (by decide) ?_
        refine AW.fgt [(9, 0), (9, 0)] ⟨.inr rfl, .inr rfl, trivial⟩ ?_
        exact aJ_G_areApartSides_21 n C _ Q h
  · simp only [if_neg (show ¬ (v0 ≤ 0) from c_1)] at h
    refine AW.iload_n (dc hd_G_areApartSides 2 rfl) rfl ?_
    refine AW.if_lt (t := 16) (dc hd_G_areApartSides 3 rfl) (by decide) (fun c_4 => ?_) (fun c_4 => ?_)
    · simp only [if_pos (show v1 < 0 from c_4)] at h
      refine AW.iconst (dc hd_G_areApartSides 8 rfl) (by decide) ?_
      refine AW.goto (t := 21) (dc hd_G_areApartSides 9 rfl) (by decide) ?_
      refine AW.fgt [(9, 0), (9, 0)] ⟨.inr rfl, .inr rfl, trivial⟩ ?_
      exact aJ_G_areApartSides_21 n C _ Q h
    · simp only [if_neg (show ¬ (v1 < 0) from c_4)] at h
      refine AW.iload_n (dc hd_G_areApartSides 4 rfl) rfl ?_
      refine AW.if_ge (t := 20) (dc hd_G_areApartSides 5 rfl) (by decide) (fun c_5 => ?_) (fun c_5 => ?_)
      · simp only [if_pos (show 0 ≤ v0 from c_5)] at h
        refine AW.iconst (dc hd_G_areApartSides 10 rfl) (by decide) ?_
        refine AW.fgt [(9, 0), (9, 0)] ⟨.inr rfl, .inr rfl, trivial⟩ ?_
        exact aJ_G_areApartSides_21 n C _ Q h
      · simp only [if_neg (show ¬ (0 ≤ v0) from c_5)] at h
        refine AW.iload_n (dc hd_G_areApartSides 6 rfl) rfl ?_
        refine AW.if_le (t := 20) (dc hd_G_areApartSides 7 rfl) (by decide) (fun c_6 => ?_) (fun c_6 => ?_)
        · simp only [if_pos (show v1 ≤ 0 from c_6)] at h
          refine AW.iconst (dc hd_G_areApartSides 10 rfl) (by decide) ?_
          refine AW.fgt [(9, 0), (9, 0)] ⟨.inr rfl, .inr rfl, trivial⟩ ?_
          exact aJ_G_areApartSides_21 n C _ Q h
        · simp only [if_neg (show ¬ (v1 ≤ 0) from c_6)] at h
          refine AW.iconst (dc hd_G_areApartSides 8 rfl) (by decide) ?_
          refine AW.goto (t := 21) (dc hd_G_areApartSides 9 rfl) (by decide) ?_
          refine AW.fgt [(9, 0), (9, 0)] ⟨.inr rfl, .inr rfl, trivial⟩ ?_
          exact aJ_G_areApartSides_21 n C _ Q h
def J_G_doCross_57 (n : Nat) (C : Cn) (s0 : Int) (Q : Int → Prop) : Prop :=
  (s0 = 0 ∨ s0 = 1) ∧ (Q s0)
theorem aJ_G_doCross_57 (n : Nat) (C : Cn) (s0 : Int) (Q : Int → Prop) (h : J_G_doCross_57 n C s0 Q) : AW p l e R s m args below meth c E M_G_doCross true (fun r C2 n2 => C2 = C ∧ n2 = n ∧ Q r) n 0 0 57 [(9, 0), (9, 0)] [(0, s0)] C := by
  unfold J_G_doCross_57 at h
  obtain ⟨g_37, h⟩ := h
  exact AW.zret (dc hd_G_doCross 39 rfl) rfl rfl (Nat.le_of_ble_eq_true rfl) (Nat.le_of_ble_eq_true rfl) g_37 ⟨rfl, rfl, h⟩
def P_G_doCross (n : Nat) (C : Cn) (v0 v1 : Int) (Q : Int → Prop) : Prop :=
  okO n v1 12 ∧ (okI v1 2 ∧ (okI v1 3 ∧ (P_G_side n C v0 (C v1.toNat 2) (C v1.toNat 3) (fun (r_4 : Int) => okI v1 4 ∧ (okI v1 5 ∧ (P_G_side n C v0 (C v1.toNat 4) (C v1.toNat 5) (fun (r_10 : Int) => P_G_areApartSides n C r_4 r_10 (fun (r_14 : Int) => (r_14 = 0 → (Q 0)) ∧ (¬ r_14 = 0 → (okO n v0 12 ∧ (okI v0 2 ∧ (okI v0 3 ∧ (P_G_side n C v1 (C v0.toNat 2) (C v0.toNat 3) (fun (r_22 : Int) => okI v0 4 ∧ (okI v0 5 ∧ (P_G_side n C v1 (C v0.toNat 4) (C v0.toNat 5) (fun (r_28 : Int) => P_G_areApartSides n C r_22 r_28 (fun (r_32 : Int) => J_G_doCross_57 n C (if r_32 = 0 then 0 else 1) Q))))))))))))))))))
theorem m_G_doCross (l : Launch) (E : Ev) (n : Nat) (C : Cn) (v0 v1 : Int) (Q : Int → Prop) (h : P_G_doCross n C v0 v1 Q) : MA l y_G_doCross M_G_doCross E true C n [(2, v0), (2, v1)] (fun r C2 n2 => C2 = C ∧ n2 = n ∧ Q r) := by
  refine MA.of (by decide) rfl rfl 0 rfl (fun p e s m args below meth c => ?_)
  show AW p l e _ s m args below meth c E M_G_doCross true _ n 0 0 0 [(2, v0), (2, v1)] [] C
  unfold P_G_doCross at h
  refine AW.ra_n (dc hd_G_doCross 0 rfl) rfl rfl rfl ?_
  refine AW.ra_n (dc hd_G_doCross 1 rfl) rfl rfl rfl ?_
  refine AW.iconst (dc hd_G_doCross 2 rfl) (by decide) ?_
  obtain ⟨g_1, h⟩ := h
  obtain ⟨g_2, h⟩ := h
  refine AW.iald (dc hd_G_doCross 3 rfl) g_1 g_2 ?_
  refine AW.ra_n (dc hd_G_doCross 4 rfl) rfl rfl rfl ?_
  refine AW.iconst (dc hd_G_doCross 5 rfl) (by decide) ?_
  obtain ⟨g_3, h⟩ := h
  refine AW.iald (dc hd_G_doCross 6 rfl) g_1 g_3 ?_
  refine AW.callS (As := [(2, v0), (0, C v1.toNat 2), (0, C v1.toNat 3)]) (rest := []) (m_G_side l E n C v0 (C v1.toNat 2) (C v1.toNat 3) _ h) cb_10_126 sm_G_side (dc hd_G_doCross 7 rfl) rfl rfl ⟨Nat.le_of_ble_eq_true rfl, Nat.le_of_ble_eq_true rfl⟩ ⟨(Nat.le_of_ble_eq_true rfl), (Nat.le_of_ble_eq_true rfl)⟩ (Nat.le_of_ble_eq_true rfl) (fun _ h => by cases h) (fun _ => rfl) (fun r_4 D_6 d_7 q_5 => ?_)
  obtain ⟨q_5a, q_5b, h⟩ := q_5
  subst D_6
  subst d_7
  show AW p l e _ s m args below meth c E M_G_doCross true _ n _ _ _ [(2, v0), (2, v1)] [(0, r_4)] C
  refine AW.ra_n (dc hd_G_doCross 8 rfl) rfl rfl rfl ?_
  refine AW.ra_n (dc hd_G_doCross 9 rfl) rfl rfl rfl ?_
  refine AW.iconst (dc hd_G_doCross 10 rfl) (by decide) ?_
  obtain ⟨g_8, h⟩ := h
  refine AW.iald (dc hd_G_doCross 11 rfl) g_1 g_8 ?_
  refine AW.ra_n (dc hd_G_doCross 12 rfl) rfl rfl rfl ?_
  refine AW.iconst (dc hd_G_doCross 13 rfl) (by decide) ?_
  obtain ⟨g_9, h⟩ := h
  refine AW.iald (dc hd_G_doCross 14 rfl) g_1 g_9 ?_
  refine AW.callS (As := [(2, v0), (0, C v1.toNat 4), (0, C v1.toNat 5)]) (rest := [(0, r_4)]) (m_G_side l E n C v0 (C v1.toNat 4) (C v1.toNat 5) _ h) cb_10_126 sm_G_side (dc hd_G_doCross 15 rfl) rfl rfl ⟨Nat.le_of_ble_eq_true rfl, Nat.le_of_ble_eq_true rfl⟩ ⟨(Nat.le_of_ble_eq_true rfl), (Nat.le_of_ble_eq_true rfl)⟩ (Nat.le_of_ble_eq_true rfl) (fun _ h => by cases h) (fun _ => rfl) (fun r_10 D_12 d_13 q_11 => ?_)
  obtain ⟨q_11a, q_11b, h⟩ := q_11
  subst D_12
  subst d_13
  show AW p l e _ s m args below meth c E M_G_doCross true _ n _ _ _ [(2, v0), (2, v1)] [(0, r_10), (0, r_4)] C
  refine AW.callS (As := [(0, r_4), (0, r_10)]) (rest := []) (m_G_areApartSides l E n C r_4 r_10 _ h) cb_10_134 sm_G_areApartSides (dc hd_G_doCross 16 rfl) rfl rfl ⟨Nat.le_of_ble_eq_true rfl, Nat.le_of_ble_eq_true rfl⟩ ⟨(Nat.le_of_ble_eq_true rfl), (Nat.le_of_ble_eq_true rfl)⟩ (Nat.le_of_ble_eq_true rfl) (fun _ h => by cases h) (fun _ => rfl) (fun r_14 D_16 d_17 q_15 => ?_)
  obtain ⟨q_15a, q_15b, h⟩ := q_15
  subst D_16
  subst d_17
  show AW p l e _ s m args below meth c E M_G_doCross true _ n _ _ _ [(2, v0), (2, v1)] [(0, r_14)] C
  refine AW.if_eq (t := 56) (dc hd_G_doCross 17 rfl) (by decide) (fun c_18 => ?_) (fun c_18 => ?_)
  · have h := h.1 c_18
    refine AW.iconst (dc hd_G_doCross 38 rfl) (by decide) ?_
    exact AW.zret (dc hd_G_doCross 39 rfl) rfl rfl (Nat.le_of_ble_eq_true rfl) (Nat.le_of_ble_eq_true rfl) (by decide) ⟨rfl, rfl, h⟩
  · have h := h.2 c_18
    refine AW.ra_n (dc hd_G_doCross 18 rfl) rfl rfl rfl ?_
    refine AW.ra_n (dc hd_G_doCross 19 rfl) rfl rfl rfl ?_
    refine AW.iconst (dc hd_G_doCross 20 rfl) (by decide) ?_
    obtain ⟨g_19, h⟩ := h
    obtain ⟨g_20, h⟩ := h
    refine AW.iald (dc hd_G_doCross 21 rfl) g_19 g_20 ?_
    refine AW.ra_n (dc hd_G_doCross 22 rfl) rfl rfl rfl ?_
    refine AW.iconst (dc hd_G_doCross 23 rfl) (by decide) ?_
    obtain ⟨g_21, h⟩ := h
    refine AW.iald (dc hd_G_doCross 24 rfl) g_19 g_21 ?_
    refine AW.callS (As := [(2, v1), (0, C v0.toNat 2), (0, C v0.toNat 3)]) (rest := []) (m_G_side l E n C v1 (C v0.toNat 2) (C v0.toNat 3) _ h) cb_10_126 sm_G_side (dc hd_G_doCross 25 rfl) rfl rfl ⟨Nat.le_of_ble_eq_true rfl, Nat.le_of_ble_eq_true rfl⟩ ⟨(Nat.le_of_ble_eq_true rfl), (Nat.le_of_ble_eq_true rfl)⟩ (Nat.le_of_ble_eq_true rfl) (fun _ h => by cases h) (fun _ => rfl) (fun r_22 D_24 d_25 q_23 => ?_)
    obtain ⟨q_23a, q_23b, h⟩ := q_23
    subst D_24
    subst d_25
    show AW p l e _ s m args below meth c E M_G_doCross true _ n _ _ _ [(2, v0), (2, v1)] [(0, r_22)] C
    refine AW.ra_n (dc hd_G_doCross 26 rfl) rfl rfl rfl ?_
    refine AW.ra_n (dc hd_G_doCross 27 rfl) rfl rfl rfl ?_
    refine AW.iconst (dc hd_G_doCross 28 rfl) (by decide) ?_
    obtain ⟨g_26, h⟩ := h
    refine AW.iald (dc hd_G_doCross 29 rfl) g_19 g_26 ?_
    refine AW.ra_n (dc hd_G_doCross 30 rfl) rfl rfl rfl ?_
    refine AW.iconst (dc hd_G_doCross 31 rfl) (by decide) ?_
    obtain ⟨g_27, h⟩ := h
    refine AW.iald (dc hd_G_doCross 32 rfl) g_19 g_27 ?_
    refine AW.callS (As := [(2, v1), (0, C v0.toNat 4), (0, C v0.toNat 5)]) (rest := [(0, r_22)]) (m_G_side l E n C v1 (C v0.toNat 4) (C v0.toNat 5) _ h) cb_10_126 sm_G_side (dc hd_G_doCross 33 rfl) rfl rfl ⟨Nat.le_of_ble_eq_true rfl, Nat.le_of_ble_eq_true rfl⟩ ⟨(Nat.le_of_ble_eq_true rfl), (Nat.le_of_ble_eq_true rfl)⟩ (Nat.le_of_ble_eq_true rfl) (fun _ h => by cases h) (fun _ => rfl) (fun r_28 D_30 d_31 q_29 => ?_)
    obtain ⟨q_29a, q_29b, h⟩ := q_29
    subst D_30
    subst d_31
    show AW p l e _ s m args below meth c E M_G_doCross true _ n _ _ _ [(2, v0), (2, v1)] [(0, r_28), (0, r_22)] C
    refine AW.callS (As := [(0, r_22), (0, r_28)]) (rest := []) (m_G_areApartSides l E n C r_22 r_28 _ h) cb_10_134 sm_G_areApartSides (dc hd_G_doCross 34 rfl) rfl rfl ⟨Nat.le_of_ble_eq_true rfl, Nat.le_of_ble_eq_true rfl⟩ ⟨(Nat.le_of_ble_eq_true rfl), (Nat.le_of_ble_eq_true rfl)⟩ (Nat.le_of_ble_eq_true rfl) (fun _ h => by cases h) (fun _ => rfl) (fun r_32 D_34 d_35 q_33 => ?_)
    obtain ⟨q_33a, q_33b, h⟩ := q_33
    subst D_34
    subst d_35
    show AW p l e _ s m args below meth c E M_G_doCross true _ n _ _ _ [(2, v0), (2, v1)] [(0, r_32)] C
    refine AW.if_eq (t := 56) (dc hd_G_doCross 35 rfl) (by decide) (fun c_36 => ?_) (fun c_36 => ?_)
    · simp only [if_pos (show r_32 = 0 from c_36)] at h
      refine AW.iconst (dc hd_G_doCross 38 rfl) (by decide) ?_
      refine AW.fgt [(9, 0), (9, 0)] ⟨.inr rfl, .inr rfl, trivial⟩ ?_
      exact aJ_G_doCross_57 n C _ Q h
    · simp only [if_neg (show ¬ (r_32 = 0) from c_36)] at h
      refine AW.iconst (dc hd_G_doCross 36 rfl) (by decide) ?_
      refine AW.goto (t := 57) (dc hd_G_doCross 37 rfl) (by decide) ?_
      refine AW.fgt [(9, 0), (9, 0)] ⟨.inr rfl, .inr rfl, trivial⟩ ?_
      exact aJ_G_doCross_57 n C _ Q h
def J_G_hasEndOn_57 (n : Nat) (C : Cn) (s0 : Int) (Q : Int → Prop) : Prop :=
  (s0 = 0 ∨ s0 = 1) ∧ (Q s0)
theorem aJ_G_hasEndOn_57 (n : Nat) (C : Cn) (s0 : Int) (Q : Int → Prop) (h : J_G_hasEndOn_57 n C s0 Q) : AW p l e R s m args below meth c E M_G_hasEndOn true (fun r C2 n2 => C2 = C ∧ n2 = n ∧ Q r) n 0 0 57 [(9, 0), (9, 0)] [(0, s0)] C := by
  unfold J_G_hasEndOn_57 at h
  obtain ⟨g_31, h⟩ := h
  exact AW.zret (dc hd_G_hasEndOn 39 rfl) rfl rfl (Nat.le_of_ble_eq_true rfl) (Nat.le_of_ble_eq_true rfl) g_31 ⟨rfl, rfl, h⟩
def P_G_hasEndOn (n : Nat) (C : Cn) (v0 v1 : Int) (Q : Int → Prop) : Prop :=
  okO n v0 12 ∧ (okI v0 2 ∧ (okI v0 3 ∧ (P_G_isOn n C v1 (C v0.toNat 2) (C v0.toNat 3) (fun (r_4 : Int) => (r_4 = 0 → (okI v0 4 ∧ (okI v0 5 ∧ (P_G_isOn n C v1 (C v0.toNat 4) (C v0.toNat 5) (fun (r_11 : Int) => (r_11 = 0 → (okO n v1 12 ∧ (okI v1 2 ∧ (okI v1 3 ∧ (P_G_isOn n C v0 (C v1.toNat 2) (C v1.toNat 3) (fun (r_19 : Int) => (r_19 = 0 → (okI v1 4 ∧ (okI v1 5 ∧ (P_G_isOn n C v0 (C v1.toNat 4) (C v1.toNat 5) (fun (r_26 : Int) => J_G_hasEndOn_57 n C (if r_26 = 0 then 0 else 1) Q))))) ∧ (¬ r_19 = 0 → (Q 1)))))))) ∧ (¬ r_11 = 0 → (Q 1))))))) ∧ (¬ r_4 = 0 → (Q 1))))))
theorem m_G_hasEndOn (l : Launch) (E : Ev) (n : Nat) (C : Cn) (v0 v1 : Int) (Q : Int → Prop) (h : P_G_hasEndOn n C v0 v1 Q) : MA l y_G_hasEndOn M_G_hasEndOn E true C n [(2, v0), (2, v1)] (fun r C2 n2 => C2 = C ∧ n2 = n ∧ Q r) := by
  refine MA.of (by decide) rfl rfl 0 rfl (fun p e s m args below meth c => ?_)
  show AW p l e _ s m args below meth c E M_G_hasEndOn true _ n 0 0 0 [(2, v0), (2, v1)] [] C
  unfold P_G_hasEndOn at h
  refine AW.ra_n (dc hd_G_hasEndOn 0 rfl) rfl rfl rfl ?_
  refine AW.ra_n (dc hd_G_hasEndOn 1 rfl) rfl rfl rfl ?_
  refine AW.iconst (dc hd_G_hasEndOn 2 rfl) (by decide) ?_
  obtain ⟨g_1, h⟩ := h
  obtain ⟨g_2, h⟩ := h
  refine AW.iald (dc hd_G_hasEndOn 3 rfl) g_1 g_2 ?_
  refine AW.ra_n (dc hd_G_hasEndOn 4 rfl) rfl rfl rfl ?_
  refine AW.iconst (dc hd_G_hasEndOn 5 rfl) (by decide) ?_
  obtain ⟨g_3, h⟩ := h
  refine AW.iald (dc hd_G_hasEndOn 6 rfl) g_1 g_3 ?_
  refine AW.callS (As := [(2, v1), (0, C v0.toNat 2), (0, C v0.toNat 3)]) (rest := []) (m_G_isOn l E n C v1 (C v0.toNat 2) (C v0.toNat 3) _ h) cb_10_138 sm_G_isOn (dc hd_G_hasEndOn 7 rfl) rfl rfl ⟨Nat.le_of_ble_eq_true rfl, Nat.le_of_ble_eq_true rfl⟩ ⟨(Nat.le_of_ble_eq_true rfl), (Nat.le_of_ble_eq_true rfl)⟩ (Nat.le_of_ble_eq_true rfl) (fun _ h => by cases h) (fun _ => rfl) (fun r_4 D_6 d_7 q_5 => ?_)
  obtain ⟨q_5a, q_5b, h⟩ := q_5
  subst D_6
  subst d_7
  show AW p l e _ s m args below meth c E M_G_hasEndOn true _ n _ _ _ [(2, v0), (2, v1)] [(0, r_4)] C
  refine AW.if_ne (t := 52) (dc hd_G_hasEndOn 8 rfl) (by decide) (fun c_8 => ?_) (fun c_8 => ?_)
  · have h := h.2 c_8
    refine AW.iconst (dc hd_G_hasEndOn 36 rfl) (by decide) ?_
    refine AW.goto (t := 57) (dc hd_G_hasEndOn 37 rfl) (by decide) ?_
    exact AW.zret (dc hd_G_hasEndOn 39 rfl) rfl rfl (Nat.le_of_ble_eq_true rfl) (Nat.le_of_ble_eq_true rfl) (by decide) ⟨rfl, rfl, h⟩
  · have h := h.1 c_8
    refine AW.ra_n (dc hd_G_hasEndOn 9 rfl) rfl rfl rfl ?_
    refine AW.ra_n (dc hd_G_hasEndOn 10 rfl) rfl rfl rfl ?_
    refine AW.iconst (dc hd_G_hasEndOn 11 rfl) (by decide) ?_
    obtain ⟨g_9, h⟩ := h
    refine AW.iald (dc hd_G_hasEndOn 12 rfl) g_1 g_9 ?_
    refine AW.ra_n (dc hd_G_hasEndOn 13 rfl) rfl rfl rfl ?_
    refine AW.iconst (dc hd_G_hasEndOn 14 rfl) (by decide) ?_
    obtain ⟨g_10, h⟩ := h
    refine AW.iald (dc hd_G_hasEndOn 15 rfl) g_1 g_10 ?_
    refine AW.callS (As := [(2, v1), (0, C v0.toNat 4), (0, C v0.toNat 5)]) (rest := []) (m_G_isOn l E n C v1 (C v0.toNat 4) (C v0.toNat 5) _ h) cb_10_138 sm_G_isOn (dc hd_G_hasEndOn 16 rfl) rfl rfl ⟨Nat.le_of_ble_eq_true rfl, Nat.le_of_ble_eq_true rfl⟩ ⟨(Nat.le_of_ble_eq_true rfl), (Nat.le_of_ble_eq_true rfl)⟩ (Nat.le_of_ble_eq_true rfl) (fun _ h => by cases h) (fun _ => rfl) (fun r_11 D_13 d_14 q_12 => ?_)
    obtain ⟨q_12a, q_12b, h⟩ := q_12
    subst D_13
    subst d_14
    show AW p l e _ s m args below meth c E M_G_hasEndOn true _ n _ _ _ [(2, v0), (2, v1)] [(0, r_11)] C
    refine AW.if_ne (t := 52) (dc hd_G_hasEndOn 17 rfl) (by decide) (fun c_15 => ?_) (fun c_15 => ?_)
    · have h := h.2 c_15
      refine AW.iconst (dc hd_G_hasEndOn 36 rfl) (by decide) ?_
      refine AW.goto (t := 57) (dc hd_G_hasEndOn 37 rfl) (by decide) ?_
      exact AW.zret (dc hd_G_hasEndOn 39 rfl) rfl rfl (Nat.le_of_ble_eq_true rfl) (Nat.le_of_ble_eq_true rfl) (by decide) ⟨rfl, rfl, h⟩
    · have h := h.1 c_15
      refine AW.ra_n (dc hd_G_hasEndOn 18 rfl) rfl rfl rfl ?_
      refine AW.ra_n (dc hd_G_hasEndOn 19 rfl) rfl rfl rfl ?_
      refine AW.iconst (dc hd_G_hasEndOn 20 rfl) (by decide) ?_
      obtain ⟨g_16, h⟩ := h
      obtain ⟨g_17, h⟩ := h
      refine AW.iald (dc hd_G_hasEndOn 21 rfl) g_16 g_17 ?_
      refine AW.ra_n (dc hd_G_hasEndOn 22 rfl) rfl rfl rfl ?_
      refine AW.iconst (dc hd_G_hasEndOn 23 rfl) (by decide) ?_
      obtain ⟨g_18, h⟩ := h
      refine AW.iald (dc hd_G_hasEndOn 24 rfl) g_16 g_18 ?_
      refine AW.callS (As := [(2, v0), (0, C v1.toNat 2), (0, C v1.toNat 3)]) (rest := []) (m_G_isOn l E n C v0 (C v1.toNat 2) (C v1.toNat 3) _ h) cb_10_138 sm_G_isOn (dc hd_G_hasEndOn 25 rfl) rfl rfl ⟨Nat.le_of_ble_eq_true rfl, Nat.le_of_ble_eq_true rfl⟩ ⟨(Nat.le_of_ble_eq_true rfl), (Nat.le_of_ble_eq_true rfl)⟩ (Nat.le_of_ble_eq_true rfl) (fun _ h => by cases h) (fun _ => rfl) (fun r_19 D_21 d_22 q_20 => ?_)
      obtain ⟨q_20a, q_20b, h⟩ := q_20
      subst D_21
      subst d_22
      show AW p l e _ s m args below meth c E M_G_hasEndOn true _ n _ _ _ [(2, v0), (2, v1)] [(0, r_19)] C
      refine AW.if_ne (t := 52) (dc hd_G_hasEndOn 26 rfl) (by decide) (fun c_23 => ?_) (fun c_23 => ?_)
      · have h := h.2 c_23
        refine AW.iconst (dc hd_G_hasEndOn 36 rfl) (by decide) ?_
        refine AW.goto (t := 57) (dc hd_G_hasEndOn 37 rfl) (by decide) ?_
        exact AW.zret (dc hd_G_hasEndOn 39 rfl) rfl rfl (Nat.le_of_ble_eq_true rfl) (Nat.le_of_ble_eq_true rfl) (by decide) ⟨rfl, rfl, h⟩
      · have h := h.1 c_23
        refine AW.ra_n (dc hd_G_hasEndOn 27 rfl) rfl rfl rfl ?_
        refine AW.ra_n (dc hd_G_hasEndOn 28 rfl) rfl rfl rfl ?_
        refine AW.iconst (dc hd_G_hasEndOn 29 rfl) (by decide) ?_
        obtain ⟨g_24, h⟩ := h
        refine AW.iald (dc hd_G_hasEndOn 30 rfl) g_16 g_24 ?_
        refine AW.ra_n (dc hd_G_hasEndOn 31 rfl) rfl rfl rfl ?_
        refine AW.iconst (dc hd_G_hasEndOn 32 rfl) (by decide) ?_
        obtain ⟨g_25, h⟩ := h
        refine AW.iald (dc hd_G_hasEndOn 33 rfl) g_16 g_25 ?_
        refine AW.callS (As := [(2, v0), (0, C v1.toNat 4), (0, C v1.toNat 5)]) (rest := []) (m_G_isOn l E n C v0 (C v1.toNat 4) (C v1.toNat 5) _ h) cb_10_138 sm_G_isOn (dc hd_G_hasEndOn 34 rfl) rfl rfl ⟨Nat.le_of_ble_eq_true rfl, Nat.le_of_ble_eq_true rfl⟩ ⟨(Nat.le_of_ble_eq_true rfl), (Nat.le_of_ble_eq_true rfl)⟩ (Nat.le_of_ble_eq_true rfl) (fun _ h => by cases h) (fun _ => rfl) (fun r_26 D_28 d_29 q_27 => ?_)
        obtain ⟨q_27a, q_27b, h⟩ := q_27
        subst D_28
        subst d_29
        show AW p l e _ s m args below meth c E M_G_hasEndOn true _ n _ _ _ [(2, v0), (2, v1)] [(0, r_26)] C
        refine AW.if_eq (t := 56) (dc hd_G_hasEndOn 35 rfl) (by decide) (fun c_30 => ?_) (fun c_30 => ?_)
        · simp only [if_pos (show r_26 = 0 from c_30)] at h
          refine AW.iconst (dc hd_G_hasEndOn 38 rfl) (by decide) ?_
          refine AW.fgt [(9, 0), (9, 0)] ⟨.inr rfl, .inr rfl, trivial⟩ ?_
          exact aJ_G_hasEndOn_57 n C _ Q h
        · simp only [if_neg (show ¬ (r_26 = 0) from c_30)] at h
          refine AW.iconst (dc hd_G_hasEndOn 36 rfl) (by decide) ?_
          refine AW.goto (t := 57) (dc hd_G_hasEndOn 37 rfl) (by decide) ?_
          refine AW.fgt [(9, 0), (9, 0)] ⟨.inr rfl, .inr rfl, trivial⟩ ?_
          exact aJ_G_hasEndOn_57 n C _ Q h
def J_G_areInLine_31 (n : Nat) (C : Cn) (s0 : Int) (Q : Int → Prop) : Prop :=
  (s0 = 0 ∨ s0 = 1) ∧ (Q s0)
theorem aJ_G_areInLine_31 (n : Nat) (C : Cn) (s0 : Int) (Q : Int → Prop) (h : J_G_areInLine_31 n C s0 Q) : AW p l e R s m args below meth c E M_G_areInLine true (fun r C2 n2 => C2 = C ∧ n2 = n ∧ Q r) n 0 0 31 [(9, 0), (9, 0)] [(0, s0)] C := by
  unfold J_G_areInLine_31 at h
  obtain ⟨g_16, h⟩ := h
  exact AW.zret (dc hd_G_areInLine 21 rfl) rfl rfl (Nat.le_of_ble_eq_true rfl) (Nat.le_of_ble_eq_true rfl) g_16 ⟨rfl, rfl, h⟩
def P_G_areInLine (n : Nat) (C : Cn) (v0 v1 : Int) (Q : Int → Prop) : Prop :=
  okO n v1 12 ∧ (okI v1 2 ∧ (okI v1 3 ∧ (P_G_side n C v0 (C v1.toNat 2) (C v1.toNat 3) (fun (r_4 : Int) => (r_4 = 0 → (okI v1 4 ∧ (okI v1 5 ∧ (P_G_side n C v0 (C v1.toNat 4) (C v1.toNat 5) (fun (r_11 : Int) => J_G_areInLine_31 n C (if r_11 = 0 then 1 else 0) Q))))) ∧ (¬ r_4 = 0 → (Q 0))))))
theorem m_G_areInLine (l : Launch) (E : Ev) (n : Nat) (C : Cn) (v0 v1 : Int) (Q : Int → Prop) (h : P_G_areInLine n C v0 v1 Q) : MA l y_G_areInLine M_G_areInLine E true C n [(2, v0), (2, v1)] (fun r C2 n2 => C2 = C ∧ n2 = n ∧ Q r) := by
  refine MA.of (by decide) rfl rfl 0 rfl (fun p e s m args below meth c => ?_)
  show AW p l e _ s m args below meth c E M_G_areInLine true _ n 0 0 0 [(2, v0), (2, v1)] [] C
  unfold P_G_areInLine at h
  refine AW.ra_n (dc hd_G_areInLine 0 rfl) rfl rfl rfl ?_
  refine AW.ra_n (dc hd_G_areInLine 1 rfl) rfl rfl rfl ?_
  refine AW.iconst (dc hd_G_areInLine 2 rfl) (by decide) ?_
  obtain ⟨g_1, h⟩ := h
  obtain ⟨g_2, h⟩ := h
  refine AW.iald (dc hd_G_areInLine 3 rfl) g_1 g_2 ?_
  refine AW.ra_n (dc hd_G_areInLine 4 rfl) rfl rfl rfl ?_
  refine AW.iconst (dc hd_G_areInLine 5 rfl) (by decide) ?_
  obtain ⟨g_3, h⟩ := h
  refine AW.iald (dc hd_G_areInLine 6 rfl) g_1 g_3 ?_
  refine AW.callS (As := [(2, v0), (0, C v1.toNat 2), (0, C v1.toNat 3)]) (rest := []) (m_G_side l E n C v0 (C v1.toNat 2) (C v1.toNat 3) _ h) cb_10_126 sm_G_side (dc hd_G_areInLine 7 rfl) rfl rfl ⟨Nat.le_of_ble_eq_true rfl, Nat.le_of_ble_eq_true rfl⟩ ⟨(Nat.le_of_ble_eq_true rfl), (Nat.le_of_ble_eq_true rfl)⟩ (Nat.le_of_ble_eq_true rfl) (fun _ h => by cases h) (fun _ => rfl) (fun r_4 D_6 d_7 q_5 => ?_)
  obtain ⟨q_5a, q_5b, h⟩ := q_5
  subst D_6
  subst d_7
  show AW p l e _ s m args below meth c E M_G_areInLine true _ n _ _ _ [(2, v0), (2, v1)] [(0, r_4)] C
  refine AW.if_ne (t := 30) (dc hd_G_areInLine 8 rfl) (by decide) (fun c_8 => ?_) (fun c_8 => ?_)
  · have h := h.2 c_8
    refine AW.iconst (dc hd_G_areInLine 20 rfl) (by decide) ?_
    exact AW.zret (dc hd_G_areInLine 21 rfl) rfl rfl (Nat.le_of_ble_eq_true rfl) (Nat.le_of_ble_eq_true rfl) (by decide) ⟨rfl, rfl, h⟩
  · have h := h.1 c_8
    refine AW.ra_n (dc hd_G_areInLine 9 rfl) rfl rfl rfl ?_
    refine AW.ra_n (dc hd_G_areInLine 10 rfl) rfl rfl rfl ?_
    refine AW.iconst (dc hd_G_areInLine 11 rfl) (by decide) ?_
    obtain ⟨g_9, h⟩ := h
    refine AW.iald (dc hd_G_areInLine 12 rfl) g_1 g_9 ?_
    refine AW.ra_n (dc hd_G_areInLine 13 rfl) rfl rfl rfl ?_
    refine AW.iconst (dc hd_G_areInLine 14 rfl) (by decide) ?_
    obtain ⟨g_10, h⟩ := h
    refine AW.iald (dc hd_G_areInLine 15 rfl) g_1 g_10 ?_
    refine AW.callS (As := [(2, v0), (0, C v1.toNat 4), (0, C v1.toNat 5)]) (rest := []) (m_G_side l E n C v0 (C v1.toNat 4) (C v1.toNat 5) _ h) cb_10_126 sm_G_side (dc hd_G_areInLine 16 rfl) rfl rfl ⟨Nat.le_of_ble_eq_true rfl, Nat.le_of_ble_eq_true rfl⟩ ⟨(Nat.le_of_ble_eq_true rfl), (Nat.le_of_ble_eq_true rfl)⟩ (Nat.le_of_ble_eq_true rfl) (fun _ h => by cases h) (fun _ => rfl) (fun r_11 D_13 d_14 q_12 => ?_)
    obtain ⟨q_12a, q_12b, h⟩ := q_12
    subst D_13
    subst d_14
    show AW p l e _ s m args below meth c E M_G_areInLine true _ n _ _ _ [(2, v0), (2, v1)] [(0, r_11)] C
    refine AW.if_ne (t := 30) (dc hd_G_areInLine 17 rfl) (by decide) (fun c_15 => ?_) (fun c_15 => ?_)
    · simp only [if_neg (show ¬ (r_11 = 0) from c_15)] at h
      refine AW.iconst (dc hd_G_areInLine 20 rfl) (by decide) ?_
      refine AW.fgt [(9, 0), (9, 0)] ⟨.inr rfl, .inr rfl, trivial⟩ ?_
      exact aJ_G_areInLine_31 n C _ Q h
    · simp only [if_pos (show r_11 = 0 from c_15)] at h
      refine AW.iconst (dc hd_G_areInLine 18 rfl) (by decide) ?_
      refine AW.goto (t := 31) (dc hd_G_areInLine 19 rfl) (by decide) ?_
      refine AW.fgt [(9, 0), (9, 0)] ⟨.inr rfl, .inr rfl, trivial⟩ ?_
      exact aJ_G_areInLine_31 n C _ Q h
def J_G_overlap_41 (n : Nat) (C : Cn) (s0 : Int) (Q : Int → Prop) : Prop :=
  (s0 = 0 ∨ s0 = 1) ∧ (Q s0)
theorem aJ_G_overlap_41 (n : Nat) (C : Cn) (s0 : Int) (Q : Int → Prop) (h : J_G_overlap_41 n C s0 Q) : AW p l e R s m args below meth c E M_G_overlap true (fun r C2 n2 => C2 = C ∧ n2 = n ∧ Q r) n 0 0 41 [(9, 0), (9, 0)] [(0, s0)] C := by
  unfold J_G_overlap_41 at h
  obtain ⟨g_21, h⟩ := h
  exact AW.zret (dc hd_G_overlap 31 rfl) rfl rfl (Nat.le_of_ble_eq_true rfl) (Nat.le_of_ble_eq_true rfl) g_21 ⟨rfl, rfl, h⟩
def P_G_overlap (n : Nat) (C : Cn) (v0 v1 : Int) (Q : Int → Prop) : Prop :=
  okO n v0 12 ∧ (okI v0 2 ∧ (okI v0 3 ∧ (okO n v1 12 ∧ (okI v1 4 ∧ (okI v1 5 ∧ (P_G_isAhead n C (C v0.toNat 2) (C v0.toNat 3) (C v1.toNat 4) (C v1.toNat 5) (fun (r_7 : Int) => (r_7 = 0 → (Q 0)) ∧ (¬ r_7 = 0 → (okI v1 2 ∧ (okI v1 3 ∧ (okI v0 4 ∧ (okI v0 5 ∧ (P_G_isAhead n C (C v1.toNat 2) (C v1.toNat 3) (C v0.toNat 4) (C v0.toNat 5) (fun (r_16 : Int) => J_G_overlap_41 n C (if r_16 = 0 then 0 else 1) Q))))))))))))))
theorem m_G_overlap (l : Launch) (E : Ev) (n : Nat) (C : Cn) (v0 v1 : Int) (Q : Int → Prop) (h : P_G_overlap n C v0 v1 Q) : MA l y_G_overlap M_G_overlap E true C n [(2, v0), (2, v1)] (fun r C2 n2 => C2 = C ∧ n2 = n ∧ Q r) := by
  refine MA.of (by decide) rfl rfl 0 rfl (fun p e s m args below meth c => ?_)
  show AW p l e _ s m args below meth c E M_G_overlap true _ n 0 0 0 [(2, v0), (2, v1)] [] C
  unfold P_G_overlap at h
  refine AW.ra_n (dc hd_G_overlap 0 rfl) rfl rfl rfl ?_
  refine AW.iconst (dc hd_G_overlap 1 rfl) (by decide) ?_
  obtain ⟨g_1, h⟩ := h
  obtain ⟨g_2, h⟩ := h
  refine AW.iald (dc hd_G_overlap 2 rfl) g_1 g_2 ?_
  refine AW.ra_n (dc hd_G_overlap 3 rfl) rfl rfl rfl ?_
  refine AW.iconst (dc hd_G_overlap 4 rfl) (by decide) ?_
  obtain ⟨g_3, h⟩ := h
  refine AW.iald (dc hd_G_overlap 5 rfl) g_1 g_3 ?_
  refine AW.ra_n (dc hd_G_overlap 6 rfl) rfl rfl rfl ?_
  refine AW.iconst (dc hd_G_overlap 7 rfl) (by decide) ?_
  obtain ⟨g_4, h⟩ := h
  obtain ⟨g_5, h⟩ := h
  refine AW.iald (dc hd_G_overlap 8 rfl) g_4 g_5 ?_
  refine AW.ra_n (dc hd_G_overlap 9 rfl) rfl rfl rfl ?_
  refine AW.iconst (dc hd_G_overlap 10 rfl) (by decide) ?_
  obtain ⟨g_6, h⟩ := h
  refine AW.iald (dc hd_G_overlap 11 rfl) g_4 g_6 ?_
  refine AW.callS (As := [(0, C v0.toNat 2), (0, C v0.toNat 3), (0, C v1.toNat 4), (0, C v1.toNat 5)]) (rest := []) (m_G_isAhead l E n C (C v0.toNat 2) (C v0.toNat 3) (C v1.toNat 4) (C v1.toNat 5) _ h) cb_10_130 sm_G_isAhead (dc hd_G_overlap 12 rfl) rfl rfl ⟨Nat.le_of_ble_eq_true rfl, Nat.le_of_ble_eq_true rfl⟩ ⟨(Nat.le_of_ble_eq_true rfl), (Nat.le_of_ble_eq_true rfl)⟩ (Nat.le_of_ble_eq_true rfl) (fun _ h => by cases h) (fun _ => rfl) (fun r_7 D_9 d_10 q_8 => ?_)
  obtain ⟨q_8a, q_8b, h⟩ := q_8
  subst D_9
  subst d_10
  show AW p l e _ s m args below meth c E M_G_overlap true _ n _ _ _ [(2, v0), (2, v1)] [(0, r_7)] C
  refine AW.if_eq (t := 40) (dc hd_G_overlap 13 rfl) (by decide) (fun c_11 => ?_) (fun c_11 => ?_)
  · have h := h.1 c_11
    refine AW.iconst (dc hd_G_overlap 30 rfl) (by decide) ?_
    exact AW.zret (dc hd_G_overlap 31 rfl) rfl rfl (Nat.le_of_ble_eq_true rfl) (Nat.le_of_ble_eq_true rfl) (by decide) ⟨rfl, rfl, h⟩
  · have h := h.2 c_11
    refine AW.ra_n (dc hd_G_overlap 14 rfl) rfl rfl rfl ?_
    refine AW.iconst (dc hd_G_overlap 15 rfl) (by decide) ?_
    obtain ⟨g_12, h⟩ := h
    refine AW.iald (dc hd_G_overlap 16 rfl) g_4 g_12 ?_
    refine AW.ra_n (dc hd_G_overlap 17 rfl) rfl rfl rfl ?_
    refine AW.iconst (dc hd_G_overlap 18 rfl) (by decide) ?_
    obtain ⟨g_13, h⟩ := h
    refine AW.iald (dc hd_G_overlap 19 rfl) g_4 g_13 ?_
    refine AW.ra_n (dc hd_G_overlap 20 rfl) rfl rfl rfl ?_
    refine AW.iconst (dc hd_G_overlap 21 rfl) (by decide) ?_
    obtain ⟨g_14, h⟩ := h
    refine AW.iald (dc hd_G_overlap 22 rfl) g_1 g_14 ?_
    refine AW.ra_n (dc hd_G_overlap 23 rfl) rfl rfl rfl ?_
    refine AW.iconst (dc hd_G_overlap 24 rfl) (by decide) ?_
    obtain ⟨g_15, h⟩ := h
    refine AW.iald (dc hd_G_overlap 25 rfl) g_1 g_15 ?_
    refine AW.callS (As := [(0, C v1.toNat 2), (0, C v1.toNat 3), (0, C v0.toNat 4), (0, C v0.toNat 5)]) (rest := []) (m_G_isAhead l E n C (C v1.toNat 2) (C v1.toNat 3) (C v0.toNat 4) (C v0.toNat 5) _ h) cb_10_130 sm_G_isAhead (dc hd_G_overlap 26 rfl) rfl rfl ⟨Nat.le_of_ble_eq_true rfl, Nat.le_of_ble_eq_true rfl⟩ ⟨(Nat.le_of_ble_eq_true rfl), (Nat.le_of_ble_eq_true rfl)⟩ (Nat.le_of_ble_eq_true rfl) (fun _ h => by cases h) (fun _ => rfl) (fun r_16 D_18 d_19 q_17 => ?_)
    obtain ⟨q_17a, q_17b, h⟩ := q_17
    subst D_18
    subst d_19
    show AW p l e _ s m args below meth c E M_G_overlap true _ n _ _ _ [(2, v0), (2, v1)] [(0, r_16)] C
    refine AW.if_eq (t := 40) (dc hd_G_overlap 27 rfl) (by decide) (fun c_20 => ?_) (fun c_20 => ?_)
    · simp only [if_pos (show r_16 = 0 from c_20)] at h
      refine AW.iconst (dc hd_G_overlap 30 rfl) (by decide) ?_
      refine AW.fgt [(9, 0), (9, 0)] ⟨.inr rfl, .inr rfl, trivial⟩ ?_
      exact aJ_G_overlap_41 n C _ Q h
    · simp only [if_neg (show ¬ (r_16 = 0) from c_20)] at h
      refine AW.iconst (dc hd_G_overlap 28 rfl) (by decide) ?_
      refine AW.goto (t := 41) (dc hd_G_overlap 29 rfl) (by decide) ?_
      refine AW.fgt [(9, 0), (9, 0)] ⟨.inr rfl, .inr rfl, trivial⟩ ?_
      exact aJ_G_overlap_41 n C _ Q h
def J_G_rests_57 (n : Nat) (C : Cn) (s0 : Int) (Q : Int → Prop) : Prop :=
  (s0 = 0 ∨ s0 = 1) ∧ (Q s0)
theorem aJ_G_rests_57 (n : Nat) (C : Cn) (s0 : Int) (Q : Int → Prop) (h : J_G_rests_57 n C s0 Q) : AW p l e R s m args below meth c E M_G_rests true (fun r C2 n2 => C2 = C ∧ n2 = n ∧ Q r) n 0 0 57 [(9, 0), (9, 0)] [(0, s0)] C := by
  unfold J_G_rests_57 at h
  obtain ⟨g_22, h⟩ := h
  exact AW.zret (dc hd_G_rests 39 rfl) rfl rfl (Nat.le_of_ble_eq_true rfl) (Nat.le_of_ble_eq_true rfl) g_22 ⟨rfl, rfl, h⟩
def J_G_rests_26 (n : Nat) (C : Cn) (v0 v1 : Int) (Q : Int → Prop) : Prop :=
  okO n v0 12 ∧ (okI v0 4 ∧ (okI v0 5 ∧ (P_G_isOn n C v1 (C v0.toNat 4) (C v0.toNat 5) (fun (r_12 : Int) => (r_12 = 0 → (Q 0)) ∧ (¬ r_12 = 0 → (P_G_isEnd n C v1 (C v0.toNat 4) (C v0.toNat 5) (fun (r_17 : Int) => J_G_rests_57 n C (if r_17 = 0 then 1 else 0) Q)))))))
theorem aJ_G_rests_26 (n : Nat) (C : Cn) (v0 v1 : Int) (Q : Int → Prop) (h : J_G_rests_26 n C v0 v1 Q) : AW p l e R s m args below meth c E M_G_rests true (fun r C2 n2 => C2 = C ∧ n2 = n ∧ Q r) n 0 0 26 [(2, v0), (2, v1)] [] C := by
  unfold J_G_rests_26 at h
  refine AW.ra_n (dc hd_G_rests 18 rfl) rfl rfl rfl ?_
  refine AW.ra_n (dc hd_G_rests 19 rfl) rfl rfl rfl ?_
  refine AW.iconst (dc hd_G_rests 20 rfl) (by decide) ?_
  obtain ⟨g_9, h⟩ := h
  obtain ⟨g_10, h⟩ := h
  refine AW.iald (dc hd_G_rests 21 rfl) g_9 g_10 ?_
  refine AW.ra_n (dc hd_G_rests 22 rfl) rfl rfl rfl ?_
  refine AW.iconst (dc hd_G_rests 23 rfl) (by decide) ?_
  obtain ⟨g_11, h⟩ := h
  refine AW.iald (dc hd_G_rests 24 rfl) g_9 g_11 ?_
  refine AW.callS (As := [(2, v1), (0, C v0.toNat 4), (0, C v0.toNat 5)]) (rest := []) (m_G_isOn l E n C v1 (C v0.toNat 4) (C v0.toNat 5) _ h) cb_10_138 sm_G_isOn (dc hd_G_rests 25 rfl) rfl rfl ⟨Nat.le_of_ble_eq_true rfl, Nat.le_of_ble_eq_true rfl⟩ ⟨(Nat.le_of_ble_eq_true rfl), (Nat.le_of_ble_eq_true rfl)⟩ (Nat.le_of_ble_eq_true rfl) (fun _ h => by cases h) (fun _ => rfl) (fun r_12 D_14 d_15 q_13 => ?_)
  obtain ⟨q_13a, q_13b, h⟩ := q_13
  subst D_14
  subst d_15
  show AW p l e _ s m args below meth c E M_G_rests true _ n _ _ _ [(2, v0), (2, v1)] [(0, r_12)] C
  refine AW.if_eq (t := 56) (dc hd_G_rests 26 rfl) (by decide) (fun c_16 => ?_) (fun c_16 => ?_)
  · have h := h.1 c_16
    refine AW.iconst (dc hd_G_rests 38 rfl) (by decide) ?_
    exact AW.zret (dc hd_G_rests 39 rfl) rfl rfl (Nat.le_of_ble_eq_true rfl) (Nat.le_of_ble_eq_true rfl) (by decide) ⟨rfl, rfl, h⟩
  · have h := h.2 c_16
    refine AW.ra_n (dc hd_G_rests 27 rfl) rfl rfl rfl ?_
    refine AW.ra_n (dc hd_G_rests 28 rfl) rfl rfl rfl ?_
    refine AW.iconst (dc hd_G_rests 29 rfl) (by decide) ?_
    refine AW.iald (dc hd_G_rests 30 rfl) g_9 g_10 ?_
    refine AW.ra_n (dc hd_G_rests 31 rfl) rfl rfl rfl ?_
    refine AW.iconst (dc hd_G_rests 32 rfl) (by decide) ?_
    refine AW.iald (dc hd_G_rests 33 rfl) g_9 g_11 ?_
    refine AW.callS (As := [(2, v1), (0, C v0.toNat 4), (0, C v0.toNat 5)]) (rest := []) (m_G_isEnd l E n C v1 (C v0.toNat 4) (C v0.toNat 5) _ h) cb_10_142 sm_G_isEnd (dc hd_G_rests 34 rfl) rfl rfl ⟨Nat.le_of_ble_eq_true rfl, Nat.le_of_ble_eq_true rfl⟩ ⟨(Nat.le_of_ble_eq_true rfl), (Nat.le_of_ble_eq_true rfl)⟩ (Nat.le_of_ble_eq_true rfl) (fun _ h => by cases h) (fun _ => rfl) (fun r_17 D_19 d_20 q_18 => ?_)
    obtain ⟨q_18a, q_18b, h⟩ := q_18
    subst D_19
    subst d_20
    show AW p l e _ s m args below meth c E M_G_rests true _ n _ _ _ [(2, v0), (2, v1)] [(0, r_17)] C
    refine AW.if_ne (t := 56) (dc hd_G_rests 35 rfl) (by decide) (fun c_21 => ?_) (fun c_21 => ?_)
    · simp only [if_neg (show ¬ (r_17 = 0) from c_21)] at h
      refine AW.iconst (dc hd_G_rests 38 rfl) (by decide) ?_
      refine AW.fgt [(9, 0), (9, 0)] ⟨.inr rfl, .inr rfl, trivial⟩ ?_
      exact aJ_G_rests_57 n C _ Q h
    · simp only [if_pos (show r_17 = 0 from c_21)] at h
      refine AW.iconst (dc hd_G_rests 36 rfl) (by decide) ?_
      refine AW.goto (t := 57) (dc hd_G_rests 37 rfl) (by decide) ?_
      refine AW.fgt [(9, 0), (9, 0)] ⟨.inr rfl, .inr rfl, trivial⟩ ?_
      exact aJ_G_rests_57 n C _ Q h
def P_G_rests (n : Nat) (C : Cn) (v0 v1 : Int) (Q : Int → Prop) : Prop :=
  okO n v0 12 ∧ (okI v0 2 ∧ (okI v0 3 ∧ (P_G_isOn n C v1 (C v0.toNat 2) (C v0.toNat 3) (fun (r_4 : Int) => (r_4 = 0 → (J_G_rests_26 n C v0 v1 Q)) ∧ (¬ r_4 = 0 → (P_G_isEnd n C v1 (C v0.toNat 2) (C v0.toNat 3) (fun (r_23 : Int) => (r_23 = 0 → (Q 1)) ∧ (¬ r_23 = 0 → (J_G_rests_26 n C v0 v1 Q)))))))))
theorem m_G_rests (l : Launch) (E : Ev) (n : Nat) (C : Cn) (v0 v1 : Int) (Q : Int → Prop) (h : P_G_rests n C v0 v1 Q) : MA l y_G_rests M_G_rests E true C n [(2, v0), (2, v1)] (fun r C2 n2 => C2 = C ∧ n2 = n ∧ Q r) := by
  refine MA.of (by decide) rfl rfl 0 rfl (fun p e s m args below meth c => ?_)
  show AW p l e _ s m args below meth c E M_G_rests true _ n 0 0 0 [(2, v0), (2, v1)] [] C
  unfold P_G_rests at h
  refine AW.ra_n (dc hd_G_rests 0 rfl) rfl rfl rfl ?_
  refine AW.ra_n (dc hd_G_rests 1 rfl) rfl rfl rfl ?_
  refine AW.iconst (dc hd_G_rests 2 rfl) (by decide) ?_
  obtain ⟨g_1, h⟩ := h
  obtain ⟨g_2, h⟩ := h
  refine AW.iald (dc hd_G_rests 3 rfl) g_1 g_2 ?_
  refine AW.ra_n (dc hd_G_rests 4 rfl) rfl rfl rfl ?_
  refine AW.iconst (dc hd_G_rests 5 rfl) (by decide) ?_
  obtain ⟨g_3, h⟩ := h
  refine AW.iald (dc hd_G_rests 6 rfl) g_1 g_3 ?_
  refine AW.callS (As := [(2, v1), (0, C v0.toNat 2), (0, C v0.toNat 3)]) (rest := []) (m_G_isOn l E n C v1 (C v0.toNat 2) (C v0.toNat 3) _ h) cb_10_138 sm_G_isOn (dc hd_G_rests 7 rfl) rfl rfl ⟨Nat.le_of_ble_eq_true rfl, Nat.le_of_ble_eq_true rfl⟩ ⟨(Nat.le_of_ble_eq_true rfl), (Nat.le_of_ble_eq_true rfl)⟩ (Nat.le_of_ble_eq_true rfl) (fun _ h => by cases h) (fun _ => rfl) (fun r_4 D_6 d_7 q_5 => ?_)
  obtain ⟨q_5a, q_5b, h⟩ := q_5
  subst D_6
  subst d_7
  show AW p l e _ s m args below meth c E M_G_rests true _ n _ _ _ [(2, v0), (2, v1)] [(0, r_4)] C
  refine AW.if_eq (t := 26) (dc hd_G_rests 8 rfl) (by decide) (fun c_8 => ?_) (fun c_8 => ?_)
  · have h := h.1 c_8
    exact aJ_G_rests_26 n C v0 v1 Q h
  · have h := h.2 c_8
    refine AW.ra_n (dc hd_G_rests 9 rfl) rfl rfl rfl ?_
    refine AW.ra_n (dc hd_G_rests 10 rfl) rfl rfl rfl ?_
    refine AW.iconst (dc hd_G_rests 11 rfl) (by decide) ?_
    refine AW.iald (dc hd_G_rests 12 rfl) g_1 g_2 ?_
    refine AW.ra_n (dc hd_G_rests 13 rfl) rfl rfl rfl ?_
    refine AW.iconst (dc hd_G_rests 14 rfl) (by decide) ?_
    refine AW.iald (dc hd_G_rests 15 rfl) g_1 g_3 ?_
    refine AW.callS (As := [(2, v1), (0, C v0.toNat 2), (0, C v0.toNat 3)]) (rest := []) (m_G_isEnd l E n C v1 (C v0.toNat 2) (C v0.toNat 3) _ h) cb_10_142 sm_G_isEnd (dc hd_G_rests 16 rfl) rfl rfl ⟨Nat.le_of_ble_eq_true rfl, Nat.le_of_ble_eq_true rfl⟩ ⟨(Nat.le_of_ble_eq_true rfl), (Nat.le_of_ble_eq_true rfl)⟩ (Nat.le_of_ble_eq_true rfl) (fun _ h => by cases h) (fun _ => rfl) (fun r_23 D_25 d_26 q_24 => ?_)
    obtain ⟨q_24a, q_24b, h⟩ := q_24
    subst D_25
    subst d_26
    show AW p l e _ s m args below meth c E M_G_rests true _ n _ _ _ [(2, v0), (2, v1)] [(0, r_23)] C
    refine AW.if_eq (t := 52) (dc hd_G_rests 17 rfl) (by decide) (fun c_27 => ?_) (fun c_27 => ?_)
    · have h := h.1 c_27
      refine AW.iconst (dc hd_G_rests 36 rfl) (by decide) ?_
      refine AW.goto (t := 57) (dc hd_G_rests 37 rfl) (by decide) ?_
      exact AW.zret (dc hd_G_rests 39 rfl) rfl rfl (Nat.le_of_ble_eq_true rfl) (Nat.le_of_ble_eq_true rfl) (by decide) ⟨rfl, rfl, h⟩
    · have h := h.2 c_27
      exact aJ_G_rests_26 n C v0 v1 Q h
def J_G_areApart_51 (n : Nat) (C : Cn) (s0 : Int) (Q : Int → Prop) : Prop :=
  (s0 = 0 ∨ s0 = 1) ∧ (Q s0)
theorem aJ_G_areApart_51 (n : Nat) (C : Cn) (s0 : Int) (Q : Int → Prop) (h : J_G_areApart_51 n C s0 Q) : AW p l e R s m args below meth c E M_G_areApart true (fun r C2 n2 => C2 = C ∧ n2 = n ∧ Q r) n 0 0 51 [(9, 0), (9, 0)] [(0, s0)] C := by
  unfold J_G_areApart_51 at h
  obtain ⟨g_21, h⟩ := h
  exact AW.zret (dc hd_G_areApart 27 rfl) rfl rfl (Nat.le_of_ble_eq_true rfl) (Nat.le_of_ble_eq_true rfl) g_21 ⟨rfl, rfl, h⟩
def J_G_areApart_21 (n : Nat) (C : Cn) (s0 : Int) (Q : Int → Prop) : Prop :=
  (s0 = 0 ∨ s0 = 1) ∧ (Q s0)
theorem aJ_G_areApart_21 (n : Nat) (C : Cn) (s0 : Int) (Q : Int → Prop) (h : J_G_areApart_21 n C s0 Q) : AW p l e R s m args below meth c E M_G_areApart true (fun r C2 n2 => C2 = C ∧ n2 = n ∧ Q r) n 0 0 21 [(9, 0), (9, 0)] [(0, s0)] C := by
  unfold J_G_areApart_21 at h
  obtain ⟨g_27, h⟩ := h
  exact AW.zret (dc hd_G_areApart 11 rfl) rfl rfl (Nat.le_of_ble_eq_true rfl) (Nat.le_of_ble_eq_true rfl) g_27 ⟨rfl, rfl, h⟩
def P_G_areApart (n : Nat) (C : Cn) (v0 v1 : Int) (Q : Int → Prop) : Prop :=
  P_G_areInLine n C v0 v1 (fun (r_1 : Int) => (r_1 = 0 → (P_G_doCross n C v0 v1 (fun (r_6 : Int) => (r_6 = 0 → (P_G_rests n C v0 v1 (fun (r_11 : Int) => (r_11 = 0 → (P_G_rests n C v1 v0 (fun (r_16 : Int) => J_G_areApart_51 n C (if r_16 = 0 then 1 else 0) Q))) ∧ (¬ r_11 = 0 → (Q 0))))) ∧ (¬ r_6 = 0 → (Q 0))))) ∧ (¬ r_1 = 0 → (P_G_overlap n C v0 v1 (fun (r_22 : Int) => J_G_areApart_21 n C (if r_22 = 0 then 1 else 0) Q))))
theorem m_G_areApart (l : Launch) (E : Ev) (n : Nat) (C : Cn) (v0 v1 : Int) (Q : Int → Prop) (h : P_G_areApart n C v0 v1 Q) : MA l y_G_areApart M_G_areApart E true C n [(2, v0), (2, v1)] (fun r C2 n2 => C2 = C ∧ n2 = n ∧ Q r) := by
  refine MA.of (by decide) rfl rfl 0 rfl (fun p e s m args below meth c => ?_)
  show AW p l e _ s m args below meth c E M_G_areApart true _ n 0 0 0 [(2, v0), (2, v1)] [] C
  unfold P_G_areApart at h
  refine AW.ra_n (dc hd_G_areApart 0 rfl) rfl rfl rfl ?_
  refine AW.ra_n (dc hd_G_areApart 1 rfl) rfl rfl rfl ?_
  refine AW.callS (As := [(2, v0), (2, v1)]) (rest := []) (m_G_areInLine l E n C v0 v1 _ h) cb_10_145 sm_G_areInLine (dc hd_G_areApart 2 rfl) rfl rfl ⟨Nat.le_of_ble_eq_true rfl, Nat.le_of_ble_eq_true rfl⟩ ⟨(Nat.le_of_ble_eq_true rfl), (Nat.le_of_ble_eq_true rfl)⟩ (Nat.le_of_ble_eq_true rfl) (fun _ h => by cases h) (fun _ => rfl) (fun r_1 D_3 d_4 q_2 => ?_)
  obtain ⟨q_2a, q_2b, h⟩ := q_2
  subst D_3
  subst d_4
  show AW p l e _ s m args below meth c E M_G_areApart true _ n _ _ _ [(2, v0), (2, v1)] [(0, r_1)] C
  refine AW.if_eq (t := 22) (dc hd_G_areApart 3 rfl) (by decide) (fun c_5 => ?_) (fun c_5 => ?_)
  · have h := h.1 c_5
    refine AW.ra_n (dc hd_G_areApart 12 rfl) rfl rfl rfl ?_
    refine AW.ra_n (dc hd_G_areApart 13 rfl) rfl rfl rfl ?_
    refine AW.callS (As := [(2, v0), (2, v1)]) (rest := []) (m_G_doCross l E n C v0 v1 _ h) cb_10_152 sm_G_doCross (dc hd_G_areApart 14 rfl) rfl rfl ⟨Nat.le_of_ble_eq_true rfl, Nat.le_of_ble_eq_true rfl⟩ ⟨(Nat.le_of_ble_eq_true rfl), (Nat.le_of_ble_eq_true rfl)⟩ (Nat.le_of_ble_eq_true rfl) (fun _ h => by cases h) (fun _ => rfl) (fun r_6 D_8 d_9 q_7 => ?_)
    obtain ⟨q_7a, q_7b, h⟩ := q_7
    subst D_8
    subst d_9
    show AW p l e _ s m args below meth c E M_G_areApart true _ n _ _ _ [(2, v0), (2, v1)] [(0, r_6)] C
    refine AW.if_ne (t := 50) (dc hd_G_areApart 15 rfl) (by decide) (fun c_10 => ?_) (fun c_10 => ?_)
    · have h := h.2 c_10
      refine AW.iconst (dc hd_G_areApart 26 rfl) (by decide) ?_
      exact AW.zret (dc hd_G_areApart 27 rfl) rfl rfl (Nat.le_of_ble_eq_true rfl) (Nat.le_of_ble_eq_true rfl) (by decide) ⟨rfl, rfl, h⟩
    · have h := h.1 c_10
      refine AW.ra_n (dc hd_G_areApart 16 rfl) rfl rfl rfl ?_
      refine AW.ra_n (dc hd_G_areApart 17 rfl) rfl rfl rfl ?_
      refine AW.callS (As := [(2, v0), (2, v1)]) (rest := []) (m_G_rests l E n C v0 v1 _ h) cb_10_155 sm_G_rests (dc hd_G_areApart 18 rfl) rfl rfl ⟨Nat.le_of_ble_eq_true rfl, Nat.le_of_ble_eq_true rfl⟩ ⟨(Nat.le_of_ble_eq_true rfl), (Nat.le_of_ble_eq_true rfl)⟩ (Nat.le_of_ble_eq_true rfl) (fun _ h => by cases h) (fun _ => rfl) (fun r_11 D_13 d_14 q_12 => ?_)
      obtain ⟨q_12a, q_12b, h⟩ := q_12
      subst D_13
      subst d_14
      show AW p l e _ s m args below meth c E M_G_areApart true _ n _ _ _ [(2, v0), (2, v1)] [(0, r_11)] C
      refine AW.if_ne (t := 50) (dc hd_G_areApart 19 rfl) (by decide) (fun c_15 => ?_) (fun c_15 => ?_)
      · have h := h.2 c_15
        refine AW.iconst (dc hd_G_areApart 26 rfl) (by decide) ?_
        exact AW.zret (dc hd_G_areApart 27 rfl) rfl rfl (Nat.le_of_ble_eq_true rfl) (Nat.le_of_ble_eq_true rfl) (by decide) ⟨rfl, rfl, h⟩
      · have h := h.1 c_15
        refine AW.ra_n (dc hd_G_areApart 20 rfl) rfl rfl rfl ?_
        refine AW.ra_n (dc hd_G_areApart 21 rfl) rfl rfl rfl ?_
        refine AW.callS (As := [(2, v1), (2, v0)]) (rest := []) (m_G_rests l E n C v1 v0 _ h) cb_10_155 sm_G_rests (dc hd_G_areApart 22 rfl) rfl rfl ⟨Nat.le_of_ble_eq_true rfl, Nat.le_of_ble_eq_true rfl⟩ ⟨(Nat.le_of_ble_eq_true rfl), (Nat.le_of_ble_eq_true rfl)⟩ (Nat.le_of_ble_eq_true rfl) (fun _ h => by cases h) (fun _ => rfl) (fun r_16 D_18 d_19 q_17 => ?_)
        obtain ⟨q_17a, q_17b, h⟩ := q_17
        subst D_18
        subst d_19
        show AW p l e _ s m args below meth c E M_G_areApart true _ n _ _ _ [(2, v0), (2, v1)] [(0, r_16)] C
        refine AW.if_ne (t := 50) (dc hd_G_areApart 23 rfl) (by decide) (fun c_20 => ?_) (fun c_20 => ?_)
        · simp only [if_neg (show ¬ (r_16 = 0) from c_20)] at h
          refine AW.iconst (dc hd_G_areApart 26 rfl) (by decide) ?_
          refine AW.fgt [(9, 0), (9, 0)] ⟨.inr rfl, .inr rfl, trivial⟩ ?_
          exact aJ_G_areApart_51 n C _ Q h
        · simp only [if_pos (show r_16 = 0 from c_20)] at h
          refine AW.iconst (dc hd_G_areApart 24 rfl) (by decide) ?_
          refine AW.goto (t := 51) (dc hd_G_areApart 25 rfl) (by decide) ?_
          refine AW.fgt [(9, 0), (9, 0)] ⟨.inr rfl, .inr rfl, trivial⟩ ?_
          exact aJ_G_areApart_51 n C _ Q h
  · have h := h.2 c_5
    refine AW.ra_n (dc hd_G_areApart 4 rfl) rfl rfl rfl ?_
    refine AW.ra_n (dc hd_G_areApart 5 rfl) rfl rfl rfl ?_
    refine AW.callS (As := [(2, v0), (2, v1)]) (rest := []) (m_G_overlap l E n C v0 v1 _ h) cb_10_149 sm_G_overlap (dc hd_G_areApart 6 rfl) rfl rfl ⟨Nat.le_of_ble_eq_true rfl, Nat.le_of_ble_eq_true rfl⟩ ⟨(Nat.le_of_ble_eq_true rfl), (Nat.le_of_ble_eq_true rfl)⟩ (Nat.le_of_ble_eq_true rfl) (fun _ h => by cases h) (fun _ => rfl) (fun r_22 D_24 d_25 q_23 => ?_)
    obtain ⟨q_23a, q_23b, h⟩ := q_23
    subst D_24
    subst d_25
    show AW p l e _ s m args below meth c E M_G_areApart true _ n _ _ _ [(2, v0), (2, v1)] [(0, r_22)] C
    refine AW.if_ne (t := 20) (dc hd_G_areApart 7 rfl) (by decide) (fun c_26 => ?_) (fun c_26 => ?_)
    · simp only [if_neg (show ¬ (r_22 = 0) from c_26)] at h
      refine AW.iconst (dc hd_G_areApart 10 rfl) (by decide) ?_
      refine AW.fgt [(9, 0), (9, 0)] ⟨.inr rfl, .inr rfl, trivial⟩ ?_
      exact aJ_G_areApart_21 n C _ Q h
    · simp only [if_pos (show r_22 = 0 from c_26)] at h
      refine AW.iconst (dc hd_G_areApart 8 rfl) (by decide) ?_
      refine AW.goto (t := 21) (dc hd_G_areApart 9 rfl) (by decide) ?_
      refine AW.fgt [(9, 0), (9, 0)] ⟨.inr rfl, .inr rfl, trivial⟩ ?_
      exact aJ_G_areApart_21 n C _ Q h
def J_G_lays_80 (n : Nat) (C : Cn) (s0 s1 s2 : Int) (Q : Int → Cn → Prop) : Prop :=
  okO n s0 12 ∧ (okI s0 s1 ∧ (∀ C_25 : Cn, C_25 = wr C s0.toNat s1.toNat s2 → (Q 0 C_25)))
theorem aJ_G_lays_80 (n : Nat) (C : Cn) (s0 s1 s2 : Int) (Q : Int → Cn → Prop) (h : J_G_lays_80 n C s0 s1 s2 Q) : AW p l e R s m args below meth c E M_G_lays true (fun r C2 n2 => n2 = n ∧ Q r C2) n 0 0 80 [(9, 0), (9, 0), (9, 0), (9, 0), (9, 0), (9, 0), (9, 0)] [(0, s2), (0, s1), (2, s0)] C := by
  unfold J_G_lays_80 at h
  obtain ⟨g_23, h⟩ := h
  obtain ⟨g_24, h⟩ := h
  refine AW.niast (dc hd_G_lays 49 rfl) g_23 g_24 (fun C_25 eC_25 => ?_)
  have h := h C_25 eC_25
  exact AW.vret (dc hd_G_lays 50 rfl) rfl rfl (Nat.le_of_ble_eq_true rfl) (Nat.le_of_ble_eq_true rfl) ⟨rfl, h⟩
def J_G_lays_66 (n : Nat) (C : Cn) (v0 v3 v5 v6 s0 s1 s2 : Int) (Q : Int → Cn → Prop) : Prop :=
  okO n s0 12 ∧ (okI s0 s1 ∧ (∀ C_21 : Cn, C_21 = wr C s0.toNat s1.toNat s2 → (J_G_lays_80 n C_21 v0 5 (if v6 = 0 then v3 else v5) Q)))
theorem aJ_G_lays_66 (n : Nat) (C : Cn) (v0 v3 v5 v6 s0 s1 s2 : Int) (Q : Int → Cn → Prop) (h : J_G_lays_66 n C v0 v3 v5 v6 s0 s1 s2 Q) : AW p l e R s m args below meth c E M_G_lays true (fun r C2 n2 => n2 = n ∧ Q r C2) n 0 0 66 [(2, v0), (9, 0), (9, 0), (0, v3), (9, 0), (0, v5), (0, v6)] [(0, s2), (0, s1), (2, s0)] C := by
  unfold J_G_lays_66 at h
  obtain ⟨g_19, h⟩ := h
  obtain ⟨g_20, h⟩ := h
  refine AW.niast (dc hd_G_lays 41 rfl) g_19 g_20 (fun C_21 eC_21 => ?_)
  have h := h C_21 eC_21
  refine AW.ra_n (dc hd_G_lays 42 rfl) rfl rfl rfl ?_
  refine AW.iconst (dc hd_G_lays 43 rfl) (by decide) ?_
  refine AW.iload (dc hd_G_lays 44 rfl) rfl ?_
  refine AW.if_eq (t := 79) (dc hd_G_lays 45 rfl) (by decide) (fun c_22 => ?_) (fun c_22 => ?_)
  · simp only [if_pos (show v6 = 0 from c_22)] at h
    refine AW.iload_n (dc hd_G_lays 48 rfl) rfl ?_
    refine AW.fgt [(9, 0), (9, 0), (9, 0), (9, 0), (9, 0), (9, 0), (9, 0)] ⟨.inr rfl, .inl rfl, .inl rfl, .inr rfl, .inl rfl, .inr rfl, .inr rfl, trivial⟩ ?_
    exact aJ_G_lays_80 n C_21 _ _ _ Q h
  · simp only [if_neg (show ¬ (v6 = 0) from c_22)] at h
    refine AW.iload (dc hd_G_lays 46 rfl) rfl ?_
    refine AW.goto (t := 80) (dc hd_G_lays 47 rfl) (by decide) ?_
    refine AW.fgt [(9, 0), (9, 0), (9, 0), (9, 0), (9, 0), (9, 0), (9, 0)] ⟨.inr rfl, .inl rfl, .inl rfl, .inr rfl, .inl rfl, .inr rfl, .inr rfl, trivial⟩ ?_
    exact aJ_G_lays_80 n C_21 _ _ _ Q h
def J_G_lays_52 (n : Nat) (C : Cn) (v0 v2 v3 v4 v5 v6 s0 s1 s2 : Int) (Q : Int → Cn → Prop) : Prop :=
  okO n s0 12 ∧ (okI s0 s1 ∧ (∀ C_17 : Cn, C_17 = wr C s0.toNat s1.toNat s2 → (J_G_lays_66 n C_17 v0 v3 v5 v6 v0 4 (if v6 = 0 then v2 else v4) Q)))
theorem aJ_G_lays_52 (n : Nat) (C : Cn) (v0 v2 v3 v4 v5 v6 s0 s1 s2 : Int) (Q : Int → Cn → Prop) (h : J_G_lays_52 n C v0 v2 v3 v4 v5 v6 s0 s1 s2 Q) : AW p l e R s m args below meth c E M_G_lays true (fun r C2 n2 => n2 = n ∧ Q r C2) n 0 0 52 [(2, v0), (9, 0), (0, v2), (0, v3), (0, v4), (0, v5), (0, v6)] [(0, s2), (0, s1), (2, s0)] C := by
  unfold J_G_lays_52 at h
  obtain ⟨g_15, h⟩ := h
  obtain ⟨g_16, h⟩ := h
  refine AW.niast (dc hd_G_lays 33 rfl) g_15 g_16 (fun C_17 eC_17 => ?_)
  have h := h C_17 eC_17
  refine AW.ra_n (dc hd_G_lays 34 rfl) rfl rfl rfl ?_
  refine AW.iconst (dc hd_G_lays 35 rfl) (by decide) ?_
  refine AW.iload (dc hd_G_lays 36 rfl) rfl ?_
  refine AW.if_eq (t := 65) (dc hd_G_lays 37 rfl) (by decide) (fun c_18 => ?_) (fun c_18 => ?_)
  · simp only [if_pos (show v6 = 0 from c_18)] at h
    refine AW.iload_n (dc hd_G_lays 40 rfl) rfl ?_
    refine AW.fgt [(2, v0), (9, 0), (9, 0), (0, v3), (9, 0), (0, v5), (0, v6)] ⟨.inl rfl, .inl rfl, .inr rfl, .inl rfl, .inr rfl, .inl rfl, .inl rfl, trivial⟩ ?_
    exact aJ_G_lays_66 n C_17 _ _ _ _ _ _ _ Q h
  · simp only [if_neg (show ¬ (v6 = 0) from c_18)] at h
    refine AW.iload (dc hd_G_lays 38 rfl) rfl ?_
    refine AW.goto (t := 66) (dc hd_G_lays 39 rfl) (by decide) ?_
    refine AW.fgt [(2, v0), (9, 0), (9, 0), (0, v3), (9, 0), (0, v5), (0, v6)] ⟨.inl rfl, .inl rfl, .inr rfl, .inl rfl, .inr rfl, .inl rfl, .inl rfl, trivial⟩ ?_
    exact aJ_G_lays_66 n C_17 _ _ _ _ _ _ _ Q h
def J_G_lays_38 (n : Nat) (C : Cn) (v0 v2 v3 v4 v5 v6 s0 s1 s2 : Int) (Q : Int → Cn → Prop) : Prop :=
  okO n s0 12 ∧ (okI s0 s1 ∧ (∀ C_13 : Cn, C_13 = wr C s0.toNat s1.toNat s2 → (J_G_lays_52 n C_13 v0 v2 v3 v4 v5 v6 v0 3 (if v6 = 0 then v5 else v3) Q)))
theorem aJ_G_lays_38 (n : Nat) (C : Cn) (v0 v2 v3 v4 v5 v6 s0 s1 s2 : Int) (Q : Int → Cn → Prop) (h : J_G_lays_38 n C v0 v2 v3 v4 v5 v6 s0 s1 s2 Q) : AW p l e R s m args below meth c E M_G_lays true (fun r C2 n2 => n2 = n ∧ Q r C2) n 0 0 38 [(2, v0), (9, 0), (0, v2), (0, v3), (0, v4), (0, v5), (0, v6)] [(0, s2), (0, s1), (2, s0)] C := by
  unfold J_G_lays_38 at h
  obtain ⟨g_11, h⟩ := h
  obtain ⟨g_12, h⟩ := h
  refine AW.niast (dc hd_G_lays 25 rfl) g_11 g_12 (fun C_13 eC_13 => ?_)
  have h := h C_13 eC_13
  refine AW.ra_n (dc hd_G_lays 26 rfl) rfl rfl rfl ?_
  refine AW.iconst (dc hd_G_lays 27 rfl) (by decide) ?_
  refine AW.iload (dc hd_G_lays 28 rfl) rfl ?_
  refine AW.if_eq (t := 50) (dc hd_G_lays 29 rfl) (by decide) (fun c_14 => ?_) (fun c_14 => ?_)
  · simp only [if_pos (show v6 = 0 from c_14)] at h
    refine AW.iload (dc hd_G_lays 32 rfl) rfl ?_
    exact aJ_G_lays_52 n C_13 _ _ _ _ _ _ _ _ _ Q h
  · simp only [if_neg (show ¬ (v6 = 0) from c_14)] at h
    refine AW.iload_n (dc hd_G_lays 30 rfl) rfl ?_
    refine AW.goto (t := 52) (dc hd_G_lays 31 rfl) (by decide) ?_
    exact aJ_G_lays_52 n C_13 _ _ _ _ _ _ _ _ _ Q h
def P_G_lays (n : Nat) (C : Cn) (v0 v1 v2 v3 v4 v5 : Int) (Q : Int → Cn → Prop) : Prop :=
  P_G_isAhead n C v2 v3 v4 v5 (fun (r_1 : Int) => okO n v0 12 ∧ (okI v0 0 ∧ (∀ C_7 : Cn, C_7 = wr C v0.toNat 0 (w32 (Int.tdiv v1 10)) → (okI v0 1 ∧ (∀ C_9 : Cn, C_9 = wr C_7 v0.toNat 1 (w32 (Int.tmod v1 10)) → (J_G_lays_38 n C_9 v0 v2 v3 v4 v5 r_1 v0 2 (if r_1 = 0 then v4 else v2) Q))))))
theorem m_G_lays (l : Launch) (E : Ev) (n : Nat) (C : Cn) (v0 v1 v2 v3 v4 v5 : Int) (Q : Int → Cn → Prop) (h : P_G_lays n C v0 v1 v2 v3 v4 v5 Q) : MA l y_G_lays M_G_lays E true C n [(2, v0), (0, v1), (0, v2), (0, v3), (0, v4), (0, v5)] (fun r C2 n2 => n2 = n ∧ Q r C2) := by
  refine MA.of (by decide) rfl rfl 1 rfl (fun p e s m args below meth c => ?_)
  show AW p l e _ s m args below meth c E M_G_lays true _ n 0 0 0 [(2, v0), (0, v1), (0, v2), (0, v3), (0, v4), (0, v5), (9, 0)] [] C
  unfold P_G_lays at h
  refine AW.iload_n (dc hd_G_lays 0 rfl) rfl ?_
  refine AW.iload_n (dc hd_G_lays 1 rfl) rfl ?_
  refine AW.iload (dc hd_G_lays 2 rfl) rfl ?_
  refine AW.iload (dc hd_G_lays 3 rfl) rfl ?_
  refine AW.callS (As := [(0, v2), (0, v3), (0, v4), (0, v5)]) (rest := []) (m_G_isAhead l E n C v2 v3 v4 v5 _ h) cb_10_130 sm_G_isAhead (dc hd_G_lays 4 rfl) rfl rfl ⟨Nat.le_of_ble_eq_true rfl, Nat.le_of_ble_eq_true rfl⟩ ⟨(Nat.le_of_ble_eq_true rfl), (Nat.le_of_ble_eq_true rfl)⟩ (Nat.le_of_ble_eq_true rfl) (fun _ h => by cases h) (fun _ => rfl) (fun r_1 D_3 d_4 q_2 => ?_)
  obtain ⟨q_2a, q_2b, h⟩ := q_2
  subst D_3
  subst d_4
  show AW p l e _ s m args below meth c E M_G_lays true _ n _ _ _ [(2, v0), (0, v1), (0, v2), (0, v3), (0, v4), (0, v5), (9, 0)] [(0, r_1)] C
  refine AW.istore [(2, v0), (0, v1), (0, v2), (0, v3), (0, v4), (0, v5), (0, r_1)] (dc hd_G_lays 5 rfl) (Nat.le_of_ble_eq_true rfl) rfl rfl ?_
  refine AW.ra_n (dc hd_G_lays 6 rfl) rfl rfl rfl ?_
  refine AW.iconst (dc hd_G_lays 7 rfl) (by decide) ?_
  refine AW.iload_n (dc hd_G_lays 8 rfl) rfl ?_
  refine AW.bipush (dc hd_G_lays 9 rfl) (by decide) (by decide +kernel) ?_
  refine AW.idiv (dc hd_G_lays 10 rfl) (by decide) ?_
  obtain ⟨g_5, h⟩ := h
  obtain ⟨g_6, h⟩ := h
  refine AW.niast (dc hd_G_lays 11 rfl) g_5 g_6 (fun C_7 eC_7 => ?_)
  have h := h C_7 eC_7
  refine AW.ra_n (dc hd_G_lays 12 rfl) rfl rfl rfl ?_
  refine AW.iconst (dc hd_G_lays 13 rfl) (by decide) ?_
  refine AW.iload_n (dc hd_G_lays 14 rfl) rfl ?_
  refine AW.bipush (dc hd_G_lays 15 rfl) (by decide) (by decide +kernel) ?_
  refine AW.irem (dc hd_G_lays 16 rfl) (by decide) ?_
  obtain ⟨g_8, h⟩ := h
  refine AW.niast (dc hd_G_lays 17 rfl) g_5 g_8 (fun C_9 eC_9 => ?_)
  have h := h C_9 eC_9
  refine AW.ra_n (dc hd_G_lays 18 rfl) rfl rfl rfl ?_
  refine AW.iconst (dc hd_G_lays 19 rfl) (by decide) ?_
  refine AW.iload (dc hd_G_lays 20 rfl) rfl ?_
  refine AW.if_eq (t := 36) (dc hd_G_lays 21 rfl) (by decide) (fun c_10 => ?_) (fun c_10 => ?_)
  · simp only [if_pos (show r_1 = 0 from c_10)] at h
    refine AW.iload (dc hd_G_lays 24 rfl) rfl ?_
    refine AW.fgt [(2, v0), (9, 0), (0, v2), (0, v3), (0, v4), (0, v5), (0, r_1)] ⟨.inl rfl, .inr rfl, .inl rfl, .inl rfl, .inl rfl, .inl rfl, .inl rfl, trivial⟩ ?_
    exact aJ_G_lays_38 n C_9 _ _ _ _ _ _ _ _ _ Q h
  · simp only [if_neg (show ¬ (r_1 = 0) from c_10)] at h
    refine AW.iload_n (dc hd_G_lays 22 rfl) rfl ?_
    refine AW.goto (t := 38) (dc hd_G_lays 23 rfl) (by decide) ?_
    refine AW.fgt [(2, v0), (9, 0), (0, v2), (0, v3), (0, v4), (0, v5), (0, r_1)] ⟨.inl rfl, .inr rfl, .inl rfl, .inl rfl, .inl rfl, .inl rfl, .inl rfl, trivial⟩ ?_
    exact aJ_G_lays_38 n C_9 _ _ _ _ _ _ _ _ _ Q h
def P_G_toll (n : Nat) (C : Cn) (v0 v1 : Int) (Q : Int → Prop) : Prop :=
  okO n v1 12 ∧ (okI v1 1 ∧ (okO n v0 10 ∧ (∀ v3_4 : Int, v3_4 = w32 ((C v1.toNat 1) * (w32 (C v0.toNat 2 + 1))) → (okI v1 0 ∧ ((C v1.toNat 0 = 1 → (Q (w32 (C v1.toNat 1 + 2)))) ∧ (C v1.toNat 0 = 2 → (Q v3_4)) ∧ (C v1.toNat 0 = 3 → (Q (w32 (2 * (w32 (C v1.toNat 1 + 2)))))) ∧ (C v1.toNat 0 = 4 → (Q (imax 0 (w32 (v3_4 - 3))))) ∧ (C v1.toNat 0 = 5 → (Q (w32 (Int.tdiv (C v1.toNat 1) 2)))) ∧ ((C v1.toNat 0 < 1 ∨ 5 < C v1.toNat 0) → (Q (C v1.toNat 1))))))))
theorem m_G_toll (l : Launch) (E : Ev) (n : Nat) (C : Cn) (v0 v1 : Int) (Q : Int → Prop) (h : P_G_toll n C v0 v1 Q) : MA l y_G_toll M_G_toll E true C n [(2, v0), (2, v1)] (fun r C2 n2 => C2 = C ∧ n2 = n ∧ Q r) := by
  refine MA.of (by decide) rfl rfl 2 rfl (fun p e s m args below meth c => ?_)
  show AW p l e _ s m args below meth c E M_G_toll true _ n 0 0 0 [(2, v0), (2, v1), (9, 0), (9, 0)] [] C
  unfold P_G_toll at h
  refine AW.ra_n (dc hd_G_toll 0 rfl) rfl rfl rfl ?_
  refine AW.iconst (dc hd_G_toll 1 rfl) (by decide) ?_
  obtain ⟨g_1, h⟩ := h
  obtain ⟨g_2, h⟩ := h
  refine AW.iald (dc hd_G_toll 2 rfl) g_1 g_2 ?_
  refine AW.istore_n [(2, v0), (2, v1), (0, C v1.toNat 1), (9, 0)] (dc hd_G_toll 3 rfl) (Nat.le_of_ble_eq_true rfl) rfl rfl ?_
  refine AW.iload_n (dc hd_G_toll 4 rfl) rfl ?_
  refine AW.ra_n (dc hd_G_toll 5 rfl) rfl rfl rfl ?_
  obtain ⟨g_3, h⟩ := h
  refine AW.getf fl_10_158 (dc hd_G_toll 6 rfl) g_3 ?_
  refine AW.iconst (dc hd_G_toll 7 rfl) (by decide) ?_
  refine AW.iadd (dc hd_G_toll 8 rfl) ?_
  refine AW.imul (dc hd_G_toll 9 rfl) ?_
  refine AW.nm (fun v3_4 ev3_4 => ?_)
  have h := h v3_4 ev3_4
  refine AW.istore_n [(2, v0), (2, v1), (0, C v1.toNat 1), (0, v3_4)] (dc hd_G_toll 10 rfl) (Nat.le_of_ble_eq_true rfl) rfl rfl ?_
  refine AW.ra_n (dc hd_G_toll 11 rfl) rfl rfl rfl ?_
  refine AW.iconst (dc hd_G_toll 12 rfl) (by decide) ?_
  obtain ⟨g_5, h⟩ := h
  refine AW.iald (dc hd_G_toll 13 rfl) g_1 g_5 ?_
  refine AW.tsw (td := 76) (dc hd_G_toll 14 rfl) [52, 56, 58, 64, 72] (by decide +kernel) (by decide) (by decide) (fun j t hj hx => ?_) (fun q_6 => ?_)
  · match j, hj with
    | 0, hj =>
      cases hj
      have h := h.1 (hx.trans (by decide))
      refine AW.iload_n (dc hd_G_toll 15 rfl) rfl ?_
      refine AW.iconst (dc hd_G_toll 16 rfl) (by decide) ?_
      refine AW.iadd (dc hd_G_toll 17 rfl) ?_
      exact AW.iret (dc hd_G_toll 18 rfl) rfl rfl (Nat.le_of_ble_eq_true rfl) (Nat.le_of_ble_eq_true rfl) ⟨rfl, rfl, h⟩
    | 1, hj =>
      cases hj
      have h := h.2.1 (hx.trans (by decide))
      refine AW.iload_n (dc hd_G_toll 19 rfl) rfl ?_
      exact AW.iret (dc hd_G_toll 20 rfl) rfl rfl (Nat.le_of_ble_eq_true rfl) (Nat.le_of_ble_eq_true rfl) ⟨rfl, rfl, h⟩
    | 2, hj =>
      cases hj
      have h := h.2.2.1 (hx.trans (by decide))
      refine AW.iconst (dc hd_G_toll 21 rfl) (by decide) ?_
      refine AW.iload_n (dc hd_G_toll 22 rfl) rfl ?_
      refine AW.iconst (dc hd_G_toll 23 rfl) (by decide) ?_
      refine AW.iadd (dc hd_G_toll 24 rfl) ?_
      refine AW.imul (dc hd_G_toll 25 rfl) ?_
      exact AW.iret (dc hd_G_toll 26 rfl) rfl rfl (Nat.le_of_ble_eq_true rfl) (Nat.le_of_ble_eq_true rfl) ⟨rfl, rfl, h⟩
    | 3, hj =>
      cases hj
      have h := h.2.2.2.1 (hx.trans (by decide))
      refine AW.iconst (dc hd_G_toll 27 rfl) (by decide) ?_
      refine AW.iload_n (dc hd_G_toll 28 rfl) rfl ?_
      refine AW.iconst (dc hd_G_toll 29 rfl) (by decide) ?_
      refine AW.isub (dc hd_G_toll 30 rfl) ?_
      refine AW.mmax (dc hd_G_toll 31 rfl) mt_10_161 (Nat.le_of_ble_eq_true rfl) (Nat.le_of_ble_eq_true rfl) (Nat.le_of_ble_eq_true rfl) (Nat.le_of_ble_eq_true rfl) (Nat.le_of_ble_eq_true rfl) ?_
      exact AW.iret (dc hd_G_toll 32 rfl) rfl rfl (Nat.le_of_ble_eq_true rfl) (Nat.le_of_ble_eq_true rfl) ⟨rfl, rfl, h⟩
    | 4, hj =>
      cases hj
      have h := h.2.2.2.2.1 (hx.trans (by decide))
      refine AW.iload_n (dc hd_G_toll 33 rfl) rfl ?_
      refine AW.iconst (dc hd_G_toll 34 rfl) (by decide) ?_
      refine AW.idiv (dc hd_G_toll 35 rfl) (by decide) ?_
      exact AW.iret (dc hd_G_toll 36 rfl) rfl rfl (Nat.le_of_ble_eq_true rfl) (Nat.le_of_ble_eq_true rfl) ⟨rfl, rfl, h⟩
    | j + 5, hj => exact absurd hj (by simp)
  · have h := h.2.2.2.2.2 q_6
    refine AW.iload_n (dc hd_G_toll 37 rfl) rfl ?_
    exact AW.iret (dc hd_G_toll 38 rfl) rfl rfl (Nat.le_of_ble_eq_true rfl) (Nat.le_of_ble_eq_true rfl) ⟨rfl, rfl, h⟩
def J_G_stands_74 (n : Nat) (C : Cn) (s0 s1 : Int) (Q : Int → Cn → Prop) : Prop :=
  okO n s0 10 ∧ (∀ C_25 : Cn, C_25 = wr C s0.toNat 8 s1 → (Q 0 C_25))
theorem aJ_G_stands_74 (n : Nat) (C : Cn) (s0 s1 : Int) (Q : Int → Cn → Prop) (h : J_G_stands_74 n C s0 s1 Q) : AW p l e R s m args below meth c E M_G_stands true (fun r C2 n2 => n2 = n ∧ Q r C2) n 0 0 74 [(9, 0), (9, 0), (9, 0), (9, 0), (9, 0)] [(0, s1), (2, s0)] C := by
  unfold J_G_stands_74 at h
  obtain ⟨g_24, h⟩ := h
  refine AW.nputI fl_10_176 (dc hd_G_stands 38 rfl) g_24 (fun C_25 eC_25 => ?_)
  have h := h C_25 eC_25
  refine AW.iconst (dc hd_G_stands 39 rfl) (by decide) ?_
  exact AW.zret (dc hd_G_stands 40 rfl) rfl rfl (Nat.le_of_ble_eq_true rfl) (Nat.le_of_ble_eq_true rfl) (by decide) ⟨rfl, h⟩
def J_G_stands_55 (n : Nat) (C : Cn) (v0 v3 v4 s0 s1 : Int) (Q : Int → Cn → Prop) : Prop :=
  okO n s0 10 ∧ (∀ C_20 : Cn, C_20 = wr C s0.toNat 6 s1 → (okO n v0 10 ∧ (∀ C_22 : Cn, C_22 = wr C_20 v0.toNat 7 v4 → (J_G_stands_74 n C_22 v0 (if v3 = 0 then 0 else 1) Q))))
theorem aJ_G_stands_55 (n : Nat) (C : Cn) (v0 v3 v4 s0 s1 : Int) (Q : Int → Cn → Prop) (h : J_G_stands_55 n C v0 v3 v4 s0 s1 Q) : AW p l e R s m args below meth c E M_G_stands true (fun r C2 n2 => n2 = n ∧ Q r C2) n 0 0 55 [(2, v0), (9, 0), (9, 0), (0, v3), (0, v4)] [(0, s1), (2, s0)] C := by
  unfold J_G_stands_55 at h
  obtain ⟨g_19, h⟩ := h
  refine AW.nputI fl_10_173 (dc hd_G_stands 28 rfl) g_19 (fun C_20 eC_20 => ?_)
  have h := h C_20 eC_20
  refine AW.ra_n (dc hd_G_stands 29 rfl) rfl rfl rfl ?_
  refine AW.iload (dc hd_G_stands 30 rfl) rfl ?_
  obtain ⟨g_21, h⟩ := h
  refine AW.nputI fl_10_22 (dc hd_G_stands 31 rfl) g_21 (fun C_22 eC_22 => ?_)
  have h := h C_22 eC_22
  refine AW.ra_n (dc hd_G_stands 32 rfl) rfl rfl rfl ?_
  refine AW.iload_n (dc hd_G_stands 33 rfl) rfl ?_
  refine AW.if_eq (t := 73) (dc hd_G_stands 34 rfl) (by decide) (fun c_23 => ?_) (fun c_23 => ?_)
  · simp only [if_pos (show v3 = 0 from c_23)] at h
    refine AW.iconst (dc hd_G_stands 37 rfl) (by decide) ?_
    refine AW.fgt [(9, 0), (9, 0), (9, 0), (9, 0), (9, 0)] ⟨.inr rfl, .inl rfl, .inl rfl, .inr rfl, .inr rfl, trivial⟩ ?_
    exact aJ_G_stands_74 n C_22 _ _ Q h
  · simp only [if_neg (show ¬ (v3 = 0) from c_23)] at h
    refine AW.iconst (dc hd_G_stands 35 rfl) (by decide) ?_
    refine AW.goto (t := 74) (dc hd_G_stands 36 rfl) (by decide) ?_
    refine AW.fgt [(9, 0), (9, 0), (9, 0), (9, 0), (9, 0)] ⟨.inr rfl, .inl rfl, .inl rfl, .inr rfl, .inr rfl, trivial⟩ ?_
    exact aJ_G_stands_74 n C_22 _ _ Q h
def J_G_stands_35 (n : Nat) (C : Cn) (v0 v1 v3 v4 : Int) (Q : Int → Cn → Prop) : Prop :=
  okO n v0 10 ∧ (okO n (PT v0.toNat 1) 17 ∧ (okI (PT v0.toNat 1) v4 ∧ (P_G_hasEndOn n C v1 (PT (PT v0.toNat 1).toNat v4.toNat) (fun (r_14 : Int) => J_G_stands_55 n C v0 v3 v4 v0 (if r_14 = 0 then 2 else 1) Q))))
theorem aJ_G_stands_35 (n : Nat) (C : Cn) (v0 v1 v3 v4 : Int) (Q : Int → Cn → Prop) (h : J_G_stands_35 n C v0 v1 v3 v4 Q) : AW p l e R s m args below meth c E M_G_stands true (fun r C2 n2 => n2 = n ∧ Q r C2) n 0 0 35 [(2, v0), (2, v1), (9, 0), (0, v3), (0, v4)] [] C := by
  unfold J_G_stands_35 at h
  refine AW.ra_n (dc hd_G_stands 17 rfl) rfl rfl rfl ?_
  refine AW.ra_n (dc hd_G_stands 18 rfl) rfl rfl rfl ?_
  refine AW.ra_n (dc hd_G_stands 19 rfl) rfl rfl rfl ?_
  obtain ⟨g_11, h⟩ := h
  refine AW.getp fl_10_11 (dc hd_G_stands 20 rfl) g_11 rfl ?_
  refine AW.iload (dc hd_G_stands 21 rfl) rfl ?_
  obtain ⟨g_12, h⟩ := h
  obtain ⟨g_13, h⟩ := h
  refine AW.aaldp (by decide) (dc hd_G_stands 22 rfl) g_12 g_13 rfl ?_
  refine AW.callS (As := [(2, v1), (2, PT (PT v0.toNat 1).toNat v4.toNat)]) (rest := [(2, v0)]) (m_G_hasEndOn l E n C v1 (PT (PT v0.toNat 1).toNat v4.toNat) _ h) cb_10_170 sm_G_hasEndOn (dc hd_G_stands 23 rfl) rfl rfl ⟨Nat.le_of_ble_eq_true rfl, Nat.le_of_ble_eq_true rfl⟩ ⟨(Nat.le_of_ble_eq_true rfl), (Nat.le_of_ble_eq_true rfl)⟩ (Nat.le_of_ble_eq_true rfl) (fun _ h => by cases h) (fun _ => rfl) (fun r_14 D_16 d_17 q_15 => ?_)
  obtain ⟨q_15a, q_15b, h⟩ := q_15
  subst D_16
  subst d_17
  show AW p l e _ s m args below meth c E M_G_stands true _ n _ _ _ [(2, v0), (2, v1), (9, 0), (0, v3), (0, v4)] [(0, r_14), (2, v0)] C
  refine AW.if_eq (t := 54) (dc hd_G_stands 24 rfl) (by decide) (fun c_18 => ?_) (fun c_18 => ?_)
  · simp only [if_pos (show r_14 = 0 from c_18)] at h
    refine AW.iconst (dc hd_G_stands 27 rfl) (by decide) ?_
    refine AW.fgt [(2, v0), (9, 0), (9, 0), (0, v3), (0, v4)] ⟨.inl rfl, .inr rfl, .inl rfl, .inl rfl, .inl rfl, trivial⟩ ?_
    exact aJ_G_stands_55 n C _ _ _ _ _ Q h
  · simp only [if_neg (show ¬ (r_14 = 0) from c_18)] at h
    refine AW.iconst (dc hd_G_stands 25 rfl) (by decide) ?_
    refine AW.goto (t := 55) (dc hd_G_stands 26 rfl) (by decide) ?_
    refine AW.fgt [(2, v0), (9, 0), (9, 0), (0, v3), (0, v4)] ⟨.inl rfl, .inr rfl, .inl rfl, .inl rfl, .inl rfl, trivial⟩ ?_
    exact aJ_G_stands_55 n C _ _ _ _ _ Q h
def B_G_stands_3 (n : Nat) (C : Cn) (v0 v1 v2 v3 : Int) (Q : Int → Cn → Prop) (kz3 : Int → Prop) (v4 : Int) : Prop :=
  okO n v0 10 ∧ ((C v0.toNat 0 ≤ v4 → (Q 1 C)) ∧ (¬ C v0.toNat 0 ≤ v4 → ((v4 = v2 → (kz3 (w32 (v4 + 1)))) ∧ (¬ v4 = v2 → (okO n (PT v0.toNat 1) 17 ∧ (okI (PT v0.toNat 1) v4 ∧ (P_G_areApart n C v1 (PT (PT v0.toNat 1).toNat v4.toNat) (fun (r_6 : Int) => (r_6 = 0 → (J_G_stands_35 n C v0 v1 v3 v4 Q)) ∧ (¬ r_6 = 0 → (kz3 (w32 (v4 + 1))))))))))))
theorem bB_G_stands_3 (n : Nat) (C : Cn) (v0 v1 v2 v3 : Int) (Q : Int → Cn → Prop) (kz3 : Int → Prop) (hkz3 : ∀ (z4 : Int), kz3 z4 → AW p l e R s m args below meth c E M_G_stands true (fun r C2 n2 => n2 = n ∧ Q r C2) n 0 0 3 [(2, v0), (2, v1), (0, v2), (0, v3), (0, z4)] [] C) (v4 : Int) (h : B_G_stands_3 n C v0 v1 v2 v3 Q kz3 v4) : AW p l e R s m args below meth c E M_G_stands true (fun r C2 n2 => n2 = n ∧ Q r C2) n 0 0 3 [(2, v0), (2, v1), (0, v2), (0, v3), (0, v4)] [] C := by
  unfold B_G_stands_3 at h
  refine AW.iload (dc hd_G_stands 2 rfl) rfl ?_
  refine AW.ra_n (dc hd_G_stands 3 rfl) rfl rfl rfl ?_
  obtain ⟨g_1, h⟩ := h
  refine AW.getf fl_10_117 (dc hd_G_stands 4 rfl) g_1 ?_
  refine AW.icmp_ge (t := 85) (dc hd_G_stands 5 rfl) (by decide) (fun c_2 => ?_) (fun c_2 => ?_)
  · have h := h.1 c_2
    refine AW.iconst (dc hd_G_stands 43 rfl) (by decide) ?_
    exact AW.zret (dc hd_G_stands 44 rfl) rfl rfl (Nat.le_of_ble_eq_true rfl) (Nat.le_of_ble_eq_true rfl) (by decide) ⟨rfl, h⟩
  · have h := h.2 c_2
    refine AW.iload (dc hd_G_stands 6 rfl) rfl ?_
    refine AW.iload_n (dc hd_G_stands 7 rfl) rfl ?_
    refine AW.icmp_eq (t := 79) (dc hd_G_stands 8 rfl) (by decide) (fun c_3 => ?_) (fun c_3 => ?_)
    · have h := h.1 c_3
      refine AW.iinc [(2, v0), (2, v1), (0, v2), (0, v3), (0, w32 (v4 + 1))] (dc hd_G_stands 41 rfl) rfl (Nat.le_of_ble_eq_true rfl) rfl rfl ?_
      refine AW.goto (t := 3) (dc hd_G_stands 42 rfl) (by decide) ?_
      exact hkz3 (w32 (v4 + 1)) h
    · have h := h.2 c_3
      refine AW.ra_n (dc hd_G_stands 9 rfl) rfl rfl rfl ?_
      refine AW.ra_n (dc hd_G_stands 10 rfl) rfl rfl rfl ?_
      refine AW.getp fl_10_11 (dc hd_G_stands 11 rfl) g_1 rfl ?_
      refine AW.iload (dc hd_G_stands 12 rfl) rfl ?_
      obtain ⟨g_4, h⟩ := h
      obtain ⟨g_5, h⟩ := h
      refine AW.aaldp (by decide) (dc hd_G_stands 13 rfl) g_4 g_5 rfl ?_
      refine AW.callS (As := [(2, v1), (2, PT (PT v0.toNat 1).toNat v4.toNat)]) (rest := []) (m_G_areApart l E n C v1 (PT (PT v0.toNat 1).toNat v4.toNat) _ h) cb_10_167 sm_G_areApart (dc hd_G_stands 14 rfl) rfl rfl ⟨Nat.le_of_ble_eq_true rfl, Nat.le_of_ble_eq_true rfl⟩ ⟨(Nat.le_of_ble_eq_true rfl), (Nat.le_of_ble_eq_true rfl)⟩ (Nat.le_of_ble_eq_true rfl) (fun _ h => by cases h) (fun _ => rfl) (fun r_6 D_8 d_9 q_7 => ?_)
      obtain ⟨q_7a, q_7b, h⟩ := q_7
      subst D_8
      subst d_9
      show AW p l e _ s m args below meth c E M_G_stands true _ n _ _ _ [(2, v0), (2, v1), (0, v2), (0, v3), (0, v4)] [(0, r_6)] C
      refine AW.if_eq (t := 35) (dc hd_G_stands 15 rfl) (by decide) (fun c_10 => ?_) (fun c_10 => ?_)
      · have h := h.1 c_10
        refine AW.fgt [(2, v0), (2, v1), (9, 0), (0, v3), (0, v4)] ⟨.inl rfl, .inl rfl, .inr rfl, .inl rfl, .inl rfl, trivial⟩ ?_
        exact aJ_G_stands_35 n C v0 v1 v3 v4 Q h
      · have h := h.2 c_10
        refine AW.goto (t := 79) (dc hd_G_stands 16 rfl) (by decide) ?_
        refine AW.iinc [(2, v0), (2, v1), (0, v2), (0, v3), (0, w32 (v4 + 1))] (dc hd_G_stands 41 rfl) rfl (Nat.le_of_ble_eq_true rfl) rfl rfl ?_
        refine AW.goto (t := 3) (dc hd_G_stands 42 rfl) (by decide) ?_
        exact hkz3 (w32 (v4 + 1)) h
theorem aB_G_stands_3 (n : Nat) (C : Cn) (v0 v1 v2 v3 : Int) (Q : Int → Cn → Prop) : ∀ (f : Nat) (z : Int), lp (B_G_stands_3 n C v0 v1 v2 v3 Q) f z → AW p l e R s m args below meth c E M_G_stands true (fun r C2 n2 => n2 = n ∧ Q r C2) n 0 0 3 [(2, v0), (2, v1), (0, v2), (0, v3), (0, z)] [] C := by
  intro f
  induction f with
  | zero => intro z h; exact False.elim h
  | succ f ih => intro z h; exact bB_G_stands_3 n C v0 v1 v2 v3 Q (lp (B_G_stands_3 n C v0 v1 v2 v3 Q) f) (fun a0 h => ih a0 h) z h
def P_G_stands (n : Nat) (C : Cn) (v0 v1 v2 v3 : Int) (Q : Int → Cn → Prop) : Prop :=
  ∃ f_26 : Nat, lp (B_G_stands_3 n C v0 v1 v2 v3 Q) f_26 0
theorem m_G_stands (l : Launch) (E : Ev) (n : Nat) (C : Cn) (v0 v1 v2 v3 : Int) (Q : Int → Cn → Prop) (h : P_G_stands n C v0 v1 v2 v3 Q) : MA l y_G_stands M_G_stands E true C n [(2, v0), (2, v1), (0, v2), (0, v3)] (fun r C2 n2 => n2 = n ∧ Q r C2) := by
  refine MA.of (by decide) rfl rfl 1 rfl (fun p e s m args below meth c => ?_)
  show AW p l e _ s m args below meth c E M_G_stands true _ n 0 0 0 [(2, v0), (2, v1), (0, v2), (0, v3), (9, 0)] [] C
  unfold P_G_stands at h
  refine AW.iconst (dc hd_G_stands 0 rfl) (by decide) ?_
  refine AW.istore [(2, v0), (2, v1), (0, v2), (0, v3), (0, 0)] (dc hd_G_stands 1 rfl) (Nat.le_of_ble_eq_true rfl) rfl rfl ?_
  obtain ⟨f_26, h⟩ := h
  exact aB_G_stands_3 n C v0 v1 v2 v3 Q f_26 0 h
def B_G_copies_2 (n : Nat) (v0 v1 : Int) (Q : Int → Cn → Prop) (kz2 : Cn × Int → Prop) (z : Cn × Int) : Prop := match z with
  | (C, v2) => (6 ≤ v2 → (Q 0 C)) ∧ (¬ 6 ≤ v2 → (okO n v0 12 ∧ (okI v0 v2 ∧ (okO n v1 12 ∧ (okI v1 v2 ∧ (∀ C_6 : Cn, C_6 = wr C v1.toNat v2.toNat (C v0.toNat v2.toNat) → (kz2 (C_6, w32 (v2 + 1)))))))))
theorem bB_G_copies_2 (n : Nat) (v0 v1 : Int) (Q : Int → Cn → Prop) (kz2 : Cn × Int → Prop) (hkz2 : ∀ (Cz : Cn) (z2 : Int), kz2 (Cz, z2) → AW p l e R s m args below meth c E M_G_copies true (fun r C2 n2 => n2 = n ∧ Q r C2) n 0 0 2 [(2, v0), (2, v1), (0, z2)] [] Cz) (C : Cn) (v2 : Int) (h : B_G_copies_2 n v0 v1 Q kz2 (C, v2)) : AW p l e R s m args below meth c E M_G_copies true (fun r C2 n2 => n2 = n ∧ Q r C2) n 0 0 2 [(2, v0), (2, v1), (0, v2)] [] C := by
  unfold B_G_copies_2 at h
  dsimp only at h
  refine AW.iload_n (dc hd_G_copies 2 rfl) rfl ?_
  refine AW.bipush (dc hd_G_copies 3 rfl) (by decide) (by decide +kernel) ?_
  refine AW.icmp_ge (t := 20) (dc hd_G_copies 4 rfl) (by decide) (fun c_1 => ?_) (fun c_1 => ?_)
  · have h := h.1 c_1
    exact AW.vret (dc hd_G_copies 13 rfl) rfl rfl (Nat.le_of_ble_eq_true rfl) (Nat.le_of_ble_eq_true rfl) ⟨rfl, h⟩
  · have h := h.2 c_1
    refine AW.ra_n (dc hd_G_copies 5 rfl) rfl rfl rfl ?_
    refine AW.iload_n (dc hd_G_copies 6 rfl) rfl ?_
    refine AW.ra_n (dc hd_G_copies 7 rfl) rfl rfl rfl ?_
    refine AW.iload_n (dc hd_G_copies 8 rfl) rfl ?_
    obtain ⟨g_2, h⟩ := h
    obtain ⟨g_3, h⟩ := h
    refine AW.iald (dc hd_G_copies 9 rfl) g_2 g_3 ?_
    obtain ⟨g_4, h⟩ := h
    obtain ⟨g_5, h⟩ := h
    refine AW.niast (dc hd_G_copies 10 rfl) g_4 g_5 (fun C_6 eC_6 => ?_)
    have h := h C_6 eC_6
    refine AW.iinc [(2, v0), (2, v1), (0, w32 (v2 + 1))] (dc hd_G_copies 11 rfl) rfl (Nat.le_of_ble_eq_true rfl) rfl rfl ?_
    refine AW.goto (t := 2) (dc hd_G_copies 12 rfl) (by decide) ?_
    exact hkz2 C_6 (w32 (v2 + 1)) h
theorem aB_G_copies_2 (n : Nat) (v0 v1 : Int) (Q : Int → Cn → Prop) : ∀ (f : Nat) (z : Cn × Int), lp (B_G_copies_2 n v0 v1 Q) f z → AW p l e R s m args below meth c E M_G_copies true (fun r C2 n2 => n2 = n ∧ Q r C2) n 0 0 2 [(2, v0), (2, v1), (0, z.2)] [] (z.1) := by
  intro f
  induction f with
  | zero => intro z h; exact False.elim h
  | succ f ih => intro z h; exact bB_G_copies_2 n v0 v1 Q (lp (B_G_copies_2 n v0 v1 Q) f) (fun a0 a1 h => ih (a0, a1) h) z.1 z.2 h
def P_G_copies (n : Nat) (C : Cn) (v0 v1 : Int) (Q : Int → Cn → Prop) : Prop :=
  ∃ f_7 : Nat, lp (B_G_copies_2 n v0 v1 Q) f_7 (C, 0)
theorem m_G_copies (l : Launch) (E : Ev) (n : Nat) (C : Cn) (v0 v1 : Int) (Q : Int → Cn → Prop) (h : P_G_copies n C v0 v1 Q) : MA l y_G_copies M_G_copies E true C n [(2, v0), (2, v1)] (fun r C2 n2 => n2 = n ∧ Q r C2) := by
  refine MA.of (by decide) rfl rfl 1 rfl (fun p e s m args below meth c => ?_)
  show AW p l e _ s m args below meth c E M_G_copies true _ n 0 0 0 [(2, v0), (2, v1), (9, 0)] [] C
  unfold P_G_copies at h
  refine AW.iconst (dc hd_G_copies 0 rfl) (by decide) ?_
  refine AW.istore_n [(2, v0), (2, v1), (0, 0)] (dc hd_G_copies 1 rfl) (Nat.le_of_ble_eq_true rfl) rfl rfl ?_
  obtain ⟨f_7, h⟩ := h
  exact aB_G_copies_2 n v0 v1 Q f_7 (C, 0) h
end
