section
variable {p : Program} {l : Launch} {e : Env} {R : Room} {s : State} {m : MethodId} {args : Array Value} {below : List Frame} {meth : Method} {c : Code} {E : Ev}
def J_Se_stepsAt_85 (n : Nat) (C : Cn) (v0 v2 v4 v6 : Int) (Q : Int → Prop) : Prop :=
  okO n v0 4 ∧ ((C v0.toNat 9 ≤ v4 → (Q (w32 (v6 + 1)))) ∧ (¬ C v0.toNat 9 ≤ v4 → ((v2 ≤ v4 → (Q (w32 (w32 (v6 + 1) + 1)))) ∧ (¬ v2 ≤ v4 → (Q (w32 (v6 + 1)))))))
theorem aJ_Se_stepsAt_85 (n : Nat) (C : Cn) (v0 v2 v4 v6 : Int) (Q : Int → Prop) (h : J_Se_stepsAt_85 n C v0 v2 v4 v6 Q) : AW p l e R s m args below meth c E M_Se_stepsAt true (fun r C2 n2 => C2 = C ∧ n2 = n ∧ Q r) n 0 0 85 [(2, v0), (9, 0), (0, v2), (9, 0), (0, v4), (9, 0), (0, v6)] [] C := by
  unfold J_Se_stepsAt_85 at h
  refine AW.iload (dc hd_Se_stepsAt 47 rfl) rfl ?_
  refine AW.ra_n (dc hd_Se_stepsAt 48 rfl) rfl rfl rfl ?_
  obtain ⟨g_16, h⟩ := h
  refine AW.getf fl_4_114 (dc hd_Se_stepsAt 49 rfl) g_16 ?_
  refine AW.icmp_ge (t := 106) (dc hd_Se_stepsAt 50 rfl) (by decide) (fun c_17 => ?_) (fun c_17 => ?_)
  · have h := h.1 c_17
    refine AW.iload (dc hd_Se_stepsAt 57 rfl) rfl ?_
    refine AW.iconst (dc hd_Se_stepsAt 58 rfl) (by decide) ?_
    refine AW.iadd (dc hd_Se_stepsAt 59 rfl) ?_
    exact AW.iret (dc hd_Se_stepsAt 60 rfl) rfl rfl (Nat.le_of_ble_eq_true rfl) (Nat.le_of_ble_eq_true rfl) ⟨rfl, rfl, h⟩
  · have h := h.2 c_17
    refine AW.iinc [(2, v0), (9, 0), (0, v2), (9, 0), (0, v4), (9, 0), (0, w32 (v6 + 1))] (dc hd_Se_stepsAt 51 rfl) rfl (Nat.le_of_ble_eq_true rfl) rfl rfl ?_
    refine AW.iload_n (dc hd_Se_stepsAt 52 rfl) rfl ?_
    refine AW.iload (dc hd_Se_stepsAt 53 rfl) rfl ?_
    refine AW.icmp_le (t := 106) (dc hd_Se_stepsAt 54 rfl) (by decide) (fun c_18 => ?_) (fun c_18 => ?_)
    · have h := h.1 c_18
      refine AW.iload (dc hd_Se_stepsAt 57 rfl) rfl ?_
      refine AW.iconst (dc hd_Se_stepsAt 58 rfl) (by decide) ?_
      refine AW.iadd (dc hd_Se_stepsAt 59 rfl) ?_
      exact AW.iret (dc hd_Se_stepsAt 60 rfl) rfl rfl (Nat.le_of_ble_eq_true rfl) (Nat.le_of_ble_eq_true rfl) ⟨rfl, rfl, h⟩
    · have h := h.2 c_18
      refine AW.iload (dc hd_Se_stepsAt 55 rfl) rfl ?_
      exact AW.iret (dc hd_Se_stepsAt 56 rfl) rfl rfl (Nat.le_of_ble_eq_true rfl) (Nat.le_of_ble_eq_true rfl) ⟨rfl, rfl, h⟩
def J_Se_stepsAt_43 (n : Nat) (C : Cn) (v0 v1 v2 v3 v4 s0 : Int) (Q : Int → Prop) : Prop :=
  (s0 = 0 → (okO n v0 4 ∧ ((and32 (shr32 (C v0.toNat 10) v1) 1 = 0 → (Q 0)) ∧ (¬ and32 (shr32 (C v0.toNat 10) v1) 1 = 0 → ((v3 < C v0.toNat 8 → (J_Se_stepsAt_85 n C v0 v2 v4 0 Q)) ∧ (¬ v3 < C v0.toNat 8 → ((v3 < v2 → (J_Se_stepsAt_85 n C v0 v2 v4 (w32 (0 + 1)) Q)) ∧ (¬ v3 < v2 → (Q (w32 (0 + 1))))))))))) ∧ (¬ s0 = 0 → (Q 0))
theorem aJ_Se_stepsAt_43 (n : Nat) (C : Cn) (v0 v1 v2 v3 v4 s0 : Int) (Q : Int → Prop) (h : J_Se_stepsAt_43 n C v0 v1 v2 v3 v4 s0 Q) : AW p l e R s m args below meth c E M_Se_stepsAt true (fun r C2 n2 => C2 = C ∧ n2 = n ∧ Q r) n 0 0 43 [(2, v0), (0, v1), (0, v2), (0, v3), (0, v4), (9, 0), (9, 0)] [(0, s0)] C := by
  unfold J_Se_stepsAt_43 at h
  refine AW.istore [(2, v0), (0, v1), (0, v2), (0, v3), (0, v4), (0, s0), (9, 0)] (dc hd_Se_stepsAt 23 rfl) (Nat.le_of_ble_eq_true rfl) rfl rfl ?_
  refine AW.iload (dc hd_Se_stepsAt 24 rfl) rfl ?_
  refine AW.if_ne (t := 61) (dc hd_Se_stepsAt 25 rfl) (by decide) (fun c_11 => ?_) (fun c_11 => ?_)
  · have h := h.2 c_11
    refine AW.iconst (dc hd_Se_stepsAt 33 rfl) (by decide) ?_
    exact AW.iret (dc hd_Se_stepsAt 34 rfl) rfl rfl (Nat.le_of_ble_eq_true rfl) (Nat.le_of_ble_eq_true rfl) ⟨rfl, rfl, h⟩
  · have h := h.1 c_11
    refine AW.ra_n (dc hd_Se_stepsAt 26 rfl) rfl rfl rfl ?_
    obtain ⟨g_12, h⟩ := h
    refine AW.getf fl_4_105 (dc hd_Se_stepsAt 27 rfl) g_12 ?_
    refine AW.iload_n (dc hd_Se_stepsAt 28 rfl) rfl ?_
    refine AW.ishr (dc hd_Se_stepsAt 29 rfl) ?_
    refine AW.iconst (dc hd_Se_stepsAt 30 rfl) (by decide) ?_
    refine AW.iand (dc hd_Se_stepsAt 31 rfl) ?_
    refine AW.if_ne (t := 63) (dc hd_Se_stepsAt 32 rfl) (by decide) (fun c_13 => ?_) (fun c_13 => ?_)
    · have h := h.2 c_13
      refine AW.iconst (dc hd_Se_stepsAt 35 rfl) (by decide) ?_
      refine AW.istore [(2, v0), (0, v1), (0, v2), (0, v3), (0, v4), (0, s0), (0, 0)] (dc hd_Se_stepsAt 36 rfl) (Nat.le_of_ble_eq_true rfl) rfl rfl ?_
      refine AW.iload_n (dc hd_Se_stepsAt 37 rfl) rfl ?_
      refine AW.ra_n (dc hd_Se_stepsAt 38 rfl) rfl rfl rfl ?_
      refine AW.getf fl_4_111 (dc hd_Se_stepsAt 39 rfl) g_12 ?_
      refine AW.icmp_lt (t := 85) (dc hd_Se_stepsAt 40 rfl) (by decide) (fun c_14 => ?_) (fun c_14 => ?_)
      · have h := h.1 c_14
        refine AW.fgt [(2, v0), (9, 0), (0, v2), (9, 0), (0, v4), (9, 0), (0, 0)] ⟨.inl rfl, .inr rfl, .inl rfl, .inr rfl, .inl rfl, .inr rfl, .inl rfl, trivial⟩ ?_
        exact aJ_Se_stepsAt_85 n C v0 v2 v4 0 Q h
      · have h := h.2 c_14
        refine AW.iinc [(2, v0), (0, v1), (0, v2), (0, v3), (0, v4), (0, s0), (0, w32 (0 + 1))] (dc hd_Se_stepsAt 41 rfl) rfl (Nat.le_of_ble_eq_true rfl) rfl rfl ?_
        refine AW.iload_n (dc hd_Se_stepsAt 42 rfl) rfl ?_
        refine AW.iload_n (dc hd_Se_stepsAt 43 rfl) rfl ?_
        refine AW.icmp_gt (t := 85) (dc hd_Se_stepsAt 44 rfl) (by decide) (fun c_19 => ?_) (fun c_19 => ?_)
        · have h := h.1 c_19
          refine AW.fgt [(2, v0), (9, 0), (0, v2), (9, 0), (0, v4), (9, 0), (0, w32 (0 + 1))] ⟨.inl rfl, .inr rfl, .inl rfl, .inr rfl, .inl rfl, .inr rfl, .inl rfl, trivial⟩ ?_
          exact aJ_Se_stepsAt_85 n C v0 v2 v4 (w32 (0 + 1)) Q h
        · have h := h.2 c_19
          refine AW.iload (dc hd_Se_stepsAt 45 rfl) rfl ?_
          exact AW.iret (dc hd_Se_stepsAt 46 rfl) rfl rfl (Nat.le_of_ble_eq_true rfl) (Nat.le_of_ble_eq_true rfl) ⟨rfl, rfl, h⟩
    · have h := h.1 c_13
      refine AW.iconst (dc hd_Se_stepsAt 33 rfl) (by decide) ?_
      exact AW.iret (dc hd_Se_stepsAt 34 rfl) rfl rfl (Nat.le_of_ble_eq_true rfl) (Nat.le_of_ble_eq_true rfl) ⟨rfl, rfl, h⟩
def P_Se_stepsAt (n : Nat) (C : Cn) (v0 v1 v2 : Int) (Q : Int → Prop) : Prop :=
  okO n v0 4 ∧ (okO n (PT v0.toNat 0) 2 ∧ (okO n (PT (PT v0.toNat 0).toNat 4) 12 ∧ (okI (PT (PT v0.toNat 0).toNat 4) v1 ∧ (∀ v3_5 : Int, v3_5 = C (PT (PT v0.toNat 0).toNat 4).toNat v1.toNat → (okO n (PT (PT v0.toNat 0).toNat 5) 12 ∧ (okI (PT (PT v0.toNat 0).toNat 5) v1 ∧ (∀ v4_8 : Int, v4_8 = C (PT (PT v0.toNat 0).toNat 5).toNat v1.toNat → (J_Se_stepsAt_43 n C v0 v1 v2 v3_5 v4_8 (if v4_8 < C v0.toNat 8 then 1 else (if v3_5 < C v0.toNat 9 then 0 else 1)) Q))))))))
theorem m_Se_stepsAt (l : Launch) (E : Ev) (n : Nat) (C : Cn) (v0 v1 v2 : Int) (Q : Int → Prop) (h : P_Se_stepsAt n C v0 v1 v2 Q) : MA l y_Se_stepsAt M_Se_stepsAt E true C n [(2, v0), (0, v1), (0, v2)] (fun r C2 n2 => C2 = C ∧ n2 = n ∧ Q r) := by
  refine MA.of (by decide) rfl rfl 4 rfl (fun p e s m args below meth c => ?_)
  show AW p l e _ s m args below meth c E M_Se_stepsAt true _ n 0 0 0 [(2, v0), (0, v1), (0, v2), (9, 0), (9, 0), (9, 0), (9, 0)] [] C
  unfold P_Se_stepsAt at h
  refine AW.ra_n (dc hd_Se_stepsAt 0 rfl) rfl rfl rfl ?_
  obtain ⟨g_1, h⟩ := h
  refine AW.getp fl_4_40 (dc hd_Se_stepsAt 1 rfl) g_1 rfl ?_
  obtain ⟨g_2, h⟩ := h
  refine AW.getp fl_4_52 (dc hd_Se_stepsAt 2 rfl) g_2 rfl ?_
  refine AW.iload_n (dc hd_Se_stepsAt 3 rfl) rfl ?_
  obtain ⟨g_3, h⟩ := h
  obtain ⟨g_4, h⟩ := h
  refine AW.iald (dc hd_Se_stepsAt 4 rfl) g_3 g_4 ?_
  refine AW.nm (fun v3_5 ev3_5 => ?_)
  have h := h v3_5 ev3_5
  refine AW.istore_n [(2, v0), (0, v1), (0, v2), (0, v3_5), (9, 0), (9, 0), (9, 0)] (dc hd_Se_stepsAt 5 rfl) (Nat.le_of_ble_eq_true rfl) rfl rfl ?_
  refine AW.ra_n (dc hd_Se_stepsAt 6 rfl) rfl rfl rfl ?_
  refine AW.getp fl_4_40 (dc hd_Se_stepsAt 7 rfl) g_1 rfl ?_
  refine AW.getp fl_4_55 (dc hd_Se_stepsAt 8 rfl) g_2 rfl ?_
  refine AW.iload_n (dc hd_Se_stepsAt 9 rfl) rfl ?_
  obtain ⟨g_6, h⟩ := h
  obtain ⟨g_7, h⟩ := h
  refine AW.iald (dc hd_Se_stepsAt 10 rfl) g_6 g_7 ?_
  refine AW.nm (fun v4_8 ev4_8 => ?_)
  have h := h v4_8 ev4_8
  refine AW.istore [(2, v0), (0, v1), (0, v2), (0, v3_5), (0, v4_8), (9, 0), (9, 0)] (dc hd_Se_stepsAt 11 rfl) (Nat.le_of_ble_eq_true rfl) rfl rfl ?_
  refine AW.iload (dc hd_Se_stepsAt 12 rfl) rfl ?_
  refine AW.ra_n (dc hd_Se_stepsAt 13 rfl) rfl rfl rfl ?_
  refine AW.getf fl_4_111 (dc hd_Se_stepsAt 14 rfl) g_1 ?_
  refine AW.icmp_lt (t := 38) (dc hd_Se_stepsAt 15 rfl) (by decide) (fun c_9 => ?_) (fun c_9 => ?_)
  · simp only [if_pos (show v4_8 < C v0.toNat 8 from c_9)] at h
    refine AW.iconst (dc hd_Se_stepsAt 20 rfl) (by decide) ?_
    refine AW.goto (t := 43) (dc hd_Se_stepsAt 21 rfl) (by decide) ?_
    exact aJ_Se_stepsAt_43 n C _ _ _ _ _ _ Q h
  · simp only [if_neg (show ¬ (v4_8 < C v0.toNat 8) from c_9)] at h
    refine AW.iload_n (dc hd_Se_stepsAt 16 rfl) rfl ?_
    refine AW.ra_n (dc hd_Se_stepsAt 17 rfl) rfl rfl rfl ?_
    refine AW.getf fl_4_114 (dc hd_Se_stepsAt 18 rfl) g_1 ?_
    refine AW.icmp_lt (t := 42) (dc hd_Se_stepsAt 19 rfl) (by decide) (fun c_10 => ?_) (fun c_10 => ?_)
    · simp only [if_pos (show v3_5 < C v0.toNat 9 from c_10)] at h
      refine AW.iconst (dc hd_Se_stepsAt 22 rfl) (by decide) ?_
      exact aJ_Se_stepsAt_43 n C _ _ _ _ _ _ Q h
    · simp only [if_neg (show ¬ (v3_5 < C v0.toNat 9) from c_10)] at h
      refine AW.iconst (dc hd_Se_stepsAt 20 rfl) (by decide) ?_
      refine AW.goto (t := 43) (dc hd_Se_stepsAt 21 rfl) (by decide) ?_
      exact aJ_Se_stepsAt_43 n C _ _ _ _ _ _ Q h
def B_Se_stepsOf_7 (n : Nat) (v0 v1 : Int) (Q : Int → Cn → Prop) (kz7 : Cn × Int × Int × Int → Prop) (z : Cn × Int × Int × Int) : Prop := match z with
  | (C, v2, v3, v4) => okO n v0 4 ∧ (okO n (PT v0.toNat 0) 2 ∧ ((C (PT v0.toNat 0).toNat 0 ≤ v4 → (Q v2 C)) ∧ (¬ C (PT v0.toNat 0).toNat 0 ≤ v4 → (P_Se_findGap n C v0 v3 v1 (fun (_ : Int) (C_4 : Cn) => okO n (PT v0.toNat 1) 12 ∧ (okI (PT v0.toNat 1) v4 ∧ (okO n (PT (PT v0.toNat 0).toNat 10) 12 ∧ (okI (PT (PT v0.toNat 0).toNat 10) v1 ∧ (P_Se_stepsAt n C_4 v0 (C_4 (PT v0.toNat 1).toNat v4.toNat) (C_4 (PT (PT v0.toNat 0).toNat 10).toNat v1.toNat) (fun (r_12 : Int) => ∀ v2_16 : Int, v2_16 = w32 (v2 + r_12) → (∀ v3_17 : Int, v3_17 = or32 v3 (shl32 1 (C_4 (PT v0.toNat 1).toNat v4.toNat)) → (kz7 (C_4, v2_16, v3_17, w32 (v4 + 1))))))))))))))
theorem bB_Se_stepsOf_7 (n : Nat) (v0 v1 : Int) (Q : Int → Cn → Prop) (kz7 : Cn × Int × Int × Int → Prop) (hkz7 : ∀ (Cz : Cn) (z2 : Int) (z3 : Int) (z4 : Int), kz7 (Cz, z2, z3, z4) → AW p l e R s m args below meth c E M_Se_stepsOf true (fun r C2 n2 => n2 = n ∧ Q r C2) n 0 0 7 [(2, v0), (0, v1), (0, z2), (0, z3), (0, z4)] [] Cz) (C : Cn) (v2 : Int) (v3 : Int) (v4 : Int) (h : B_Se_stepsOf_7 n v0 v1 Q kz7 (C, v2, v3, v4)) : AW p l e R s m args below meth c E M_Se_stepsOf true (fun r C2 n2 => n2 = n ∧ Q r C2) n 0 0 7 [(2, v0), (0, v1), (0, v2), (0, v3), (0, v4)] [] C := by
  unfold B_Se_stepsOf_7 at h
  dsimp only at h
  refine AW.iload (dc hd_Se_stepsOf 6 rfl) rfl ?_
  refine AW.ra_n (dc hd_Se_stepsOf 7 rfl) rfl rfl rfl ?_
  obtain ⟨g_1, h⟩ := h
  refine AW.getp fl_4_40 (dc hd_Se_stepsOf 8 rfl) g_1 rfl ?_
  obtain ⟨g_2, h⟩ := h
  refine AW.getf fl_4_49 (dc hd_Se_stepsOf 9 rfl) g_2 ?_
  refine AW.icmp_ge (t := 66) (dc hd_Se_stepsOf 10 rfl) (by decide) (fun c_3 => ?_) (fun c_3 => ?_)
  · have h := h.1 c_3
    refine AW.iload_n (dc hd_Se_stepsOf 40 rfl) rfl ?_
    exact AW.iret (dc hd_Se_stepsOf 41 rfl) rfl rfl (Nat.le_of_ble_eq_true rfl) (Nat.le_of_ble_eq_true rfl) ⟨rfl, h⟩
  · have h := h.2 c_3
    refine AW.ra_n (dc hd_Se_stepsOf 11 rfl) rfl rfl rfl ?_
    refine AW.iload_n (dc hd_Se_stepsOf 12 rfl) rfl ?_
    refine AW.iload_n (dc hd_Se_stepsOf 13 rfl) rfl ?_
    refine AW.callV (As := [(0, v3), (0, v1)]) (rest := []) (ci := 4) (m_Se_findGap l E n C v0 v3 v1 _ h) cb_4_75 im_Se_findGap se_Se_findGap ⟨_, _, rfl⟩ (by decide) (dc hd_Se_stepsOf 14 rfl) g_1 rfl rfl ⟨Nat.le_of_ble_eq_true rfl, Nat.le_of_ble_eq_true rfl⟩ ⟨(Nat.le_of_ble_eq_true rfl), (Nat.le_of_ble_eq_true rfl)⟩ (Nat.le_of_ble_eq_true rfl) (fun _ h => by cases h) (fun _ => rfl) (fun u_6 C_4 d_7 q_5 => ?_)
    obtain ⟨q_5a, h⟩ := q_5
    subst d_7
    show AW p l e _ s m args below meth c E M_Se_stepsOf true _ n _ _ _ [(2, v0), (0, v1), (0, v2), (0, v3), (0, v4)] [] C_4
    refine AW.iload_n (dc hd_Se_stepsOf 15 rfl) rfl ?_
    refine AW.ra_n (dc hd_Se_stepsOf 16 rfl) rfl rfl rfl ?_
    refine AW.ra_n (dc hd_Se_stepsOf 17 rfl) rfl rfl rfl ?_
    refine AW.getp fl_4_9 (dc hd_Se_stepsOf 18 rfl) g_1 rfl ?_
    refine AW.iload (dc hd_Se_stepsOf 19 rfl) rfl ?_
    obtain ⟨g_8, h⟩ := h
    obtain ⟨g_9, h⟩ := h
    refine AW.iald (dc hd_Se_stepsOf 20 rfl) g_8 g_9 ?_
    refine AW.ra_n (dc hd_Se_stepsOf 21 rfl) rfl rfl rfl ?_
    refine AW.getp fl_4_40 (dc hd_Se_stepsOf 22 rfl) g_1 rfl ?_
    refine AW.getp fl_4_78 (dc hd_Se_stepsOf 23 rfl) g_2 rfl ?_
    refine AW.iload_n (dc hd_Se_stepsOf 24 rfl) rfl ?_
    obtain ⟨g_10, h⟩ := h
    obtain ⟨g_11, h⟩ := h
    refine AW.iald (dc hd_Se_stepsOf 25 rfl) g_10 g_11 ?_
    refine AW.callV (As := [(0, C_4 (PT v0.toNat 1).toNat v4.toNat), (0, C_4 (PT (PT v0.toNat 0).toNat 10).toNat v1.toNat)]) (rest := [(0, v2)]) (ci := 4) (m_Se_stepsAt l E n C_4 v0 (C_4 (PT v0.toNat 1).toNat v4.toNat) (C_4 (PT (PT v0.toNat 0).toNat 10).toNat v1.toNat) _ h) cb_4_81 im_Se_stepsAt se_Se_stepsAt ⟨_, _, rfl⟩ (by decide) (dc hd_Se_stepsOf 26 rfl) g_1 rfl rfl ⟨Nat.le_of_ble_eq_true rfl, Nat.le_of_ble_eq_true rfl⟩ ⟨(Nat.le_of_ble_eq_true rfl), (Nat.le_of_ble_eq_true rfl)⟩ (Nat.le_of_ble_eq_true rfl) (fun _ h => by cases h) (fun _ => rfl) (fun r_12 D_14 d_15 q_13 => ?_)
    obtain ⟨q_13a, q_13b, h⟩ := q_13
    subst D_14
    subst d_15
    show AW p l e _ s m args below meth c E M_Se_stepsOf true _ n _ _ _ [(2, v0), (0, v1), (0, v2), (0, v3), (0, v4)] [(0, r_12), (0, v2)] C_4
    refine AW.iadd (dc hd_Se_stepsOf 27 rfl) ?_
    refine AW.nm (fun v2_16 ev2_16 => ?_)
    have h := h v2_16 ev2_16
    refine AW.istore_n [(2, v0), (0, v1), (0, v2_16), (0, v3), (0, v4)] (dc hd_Se_stepsOf 28 rfl) (Nat.le_of_ble_eq_true rfl) rfl rfl ?_
    refine AW.iload_n (dc hd_Se_stepsOf 29 rfl) rfl ?_
    refine AW.iconst (dc hd_Se_stepsOf 30 rfl) (by decide) ?_
    refine AW.ra_n (dc hd_Se_stepsOf 31 rfl) rfl rfl rfl ?_
    refine AW.getp fl_4_9 (dc hd_Se_stepsOf 32 rfl) g_1 rfl ?_
    refine AW.iload (dc hd_Se_stepsOf 33 rfl) rfl ?_
    refine AW.iald (dc hd_Se_stepsOf 34 rfl) g_8 g_9 ?_
    refine AW.ishl (dc hd_Se_stepsOf 35 rfl) ?_
    refine AW.ior (dc hd_Se_stepsOf 36 rfl) ?_
    refine AW.nm (fun v3_17 ev3_17 => ?_)
    have h := h v3_17 ev3_17
    refine AW.istore_n [(2, v0), (0, v1), (0, v2_16), (0, v3_17), (0, v4)] (dc hd_Se_stepsOf 37 rfl) (Nat.le_of_ble_eq_true rfl) rfl rfl ?_
    refine AW.iinc [(2, v0), (0, v1), (0, v2_16), (0, v3_17), (0, w32 (v4 + 1))] (dc hd_Se_stepsOf 38 rfl) rfl (Nat.le_of_ble_eq_true rfl) rfl rfl ?_
    refine AW.goto (t := 7) (dc hd_Se_stepsOf 39 rfl) (by decide) ?_
    exact hkz7 C_4 v2_16 v3_17 (w32 (v4 + 1)) h
theorem aB_Se_stepsOf_7 (n : Nat) (v0 v1 : Int) (Q : Int → Cn → Prop) : ∀ (f : Nat) (z : Cn × Int × Int × Int), lp (B_Se_stepsOf_7 n v0 v1 Q) f z → AW p l e R s m args below meth c E M_Se_stepsOf true (fun r C2 n2 => n2 = n ∧ Q r C2) n 0 0 7 [(2, v0), (0, v1), (0, z.2.1), (0, z.2.2.1), (0, z.2.2.2)] [] (z.1) := by
  intro f
  induction f with
  | zero => intro z h; exact False.elim h
  | succ f ih => intro z h; exact bB_Se_stepsOf_7 n v0 v1 Q (lp (B_Se_stepsOf_7 n v0 v1 Q) f) (fun a0 a1 a2 a3 h => ih (a0, a1, a2, a3) h) z.1 z.2.1 z.2.2.1 z.2.2.2 h
def P_Se_stepsOf (n : Nat) (C : Cn) (v0 v1 : Int) (Q : Int → Cn → Prop) : Prop :=
  ∃ f_18 : Nat, lp (B_Se_stepsOf_7 n v0 v1 Q) f_18 (C, 0, 0, 0)
theorem m_Se_stepsOf (l : Launch) (E : Ev) (n : Nat) (C : Cn) (v0 v1 : Int) (Q : Int → Cn → Prop) (h : P_Se_stepsOf n C v0 v1 Q) : MA l y_Se_stepsOf M_Se_stepsOf E true C n [(2, v0), (0, v1)] (fun r C2 n2 => n2 = n ∧ Q r C2) := by
  refine MA.of (by decide) rfl rfl 3 rfl (fun p e s m args below meth c => ?_)
  show AW p l e _ s m args below meth c E M_Se_stepsOf true _ n 0 0 0 [(2, v0), (0, v1), (9, 0), (9, 0), (9, 0)] [] C
  unfold P_Se_stepsOf at h
  refine AW.iconst (dc hd_Se_stepsOf 0 rfl) (by decide) ?_
  refine AW.istore_n [(2, v0), (0, v1), (0, 0), (9, 0), (9, 0)] (dc hd_Se_stepsOf 1 rfl) (Nat.le_of_ble_eq_true rfl) rfl rfl ?_
  refine AW.iconst (dc hd_Se_stepsOf 2 rfl) (by decide) ?_
  refine AW.istore_n [(2, v0), (0, v1), (0, 0), (0, 0), (9, 0)] (dc hd_Se_stepsOf 3 rfl) (Nat.le_of_ble_eq_true rfl) rfl rfl ?_
  refine AW.iconst (dc hd_Se_stepsOf 4 rfl) (by decide) ?_
  refine AW.istore [(2, v0), (0, v1), (0, 0), (0, 0), (0, 0)] (dc hd_Se_stepsOf 5 rfl) (Nat.le_of_ble_eq_true rfl) rfl rfl ?_
  obtain ⟨f_18, h⟩ := h
  exact aB_Se_stepsOf_7 n v0 v1 Q f_18 (C, 0, 0, 0) h
def B_Se_measure_12 (n : Nat) (v0 : Int) (Q : Int → Cn → Prop) (kz12 : Cn × Int → Prop) (z : Cn × Int) : Prop := match z with
  | (C, v1) => okO n v0 4 ∧ (okO n (PT v0.toNat 0) 2 ∧ ((C (PT v0.toNat 0).toNat 8 ≤ v1 → (Q 0 C)) ∧ (¬ C (PT v0.toNat 0).toNat 8 ≤ v1 → (P_Se_stepsOf n C v0 v1 (fun (r_7 : Int) (C_8 : Cn) => ∀ C_11 : Cn, C_11 = wr C_8 v0.toNat 2 (imax (C_8 v0.toNat 2) r_7) → (∀ C_12 : Cn, C_12 = wr C_11 v0.toNat 3 (w32 (C_11 v0.toNat 3 + r_7)) → (kz12 (C_12, w32 (v1 + 1)))))))))
theorem bB_Se_measure_12 (n : Nat) (v0 : Int) (Q : Int → Cn → Prop) (kz12 : Cn × Int → Prop) (hkz12 : ∀ (Cz : Cn) (z1 : Int), kz12 (Cz, z1) → AW p l e R s m args below meth c E M_Se_measure true (fun r C2 n2 => n2 = n ∧ Q r C2) n 0 0 12 [(2, v0), (0, z1), (9, 0)] [] Cz) (C : Cn) (v1 : Int) (h : B_Se_measure_12 n v0 Q kz12 (C, v1)) : AW p l e R s m args below meth c E M_Se_measure true (fun r C2 n2 => n2 = n ∧ Q r C2) n 0 0 12 [(2, v0), (0, v1), (9, 0)] [] C := by
  unfold B_Se_measure_12 at h
  dsimp only at h
  refine AW.iload_n (dc hd_Se_measure 8 rfl) rfl ?_
  refine AW.ra_n (dc hd_Se_measure 9 rfl) rfl rfl rfl ?_
  obtain ⟨g_4, h⟩ := h
  refine AW.getp fl_4_40 (dc hd_Se_measure 10 rfl) g_4 rfl ?_
  obtain ⟨g_5, h⟩ := h
  refine AW.getf fl_4_90 (dc hd_Se_measure 11 rfl) g_5 ?_
  refine AW.icmp_ge (t := 57) (dc hd_Se_measure 12 rfl) (by decide) (fun c_6 => ?_) (fun c_6 => ?_)
  · have h := h.1 c_6
    exact AW.vret (dc hd_Se_measure 31 rfl) rfl rfl (Nat.le_of_ble_eq_true rfl) (Nat.le_of_ble_eq_true rfl) ⟨rfl, h⟩
  · have h := h.2 c_6
    refine AW.ra_n (dc hd_Se_measure 13 rfl) rfl rfl rfl ?_
    refine AW.iload_n (dc hd_Se_measure 14 rfl) rfl ?_
    refine AW.callV (As := [(0, v1)]) (rest := []) (ci := 4) (m_Se_stepsOf l E n C v0 v1 _ h) cb_4_93 im_Se_stepsOf se_Se_stepsOf ⟨_, _, rfl⟩ (by decide) (dc hd_Se_measure 15 rfl) g_4 rfl rfl ⟨Nat.le_of_ble_eq_true rfl, Nat.le_of_ble_eq_true rfl⟩ ⟨(Nat.le_of_ble_eq_true rfl), (Nat.le_of_ble_eq_true rfl)⟩ (Nat.le_of_ble_eq_true rfl) (fun _ h => by cases h) (fun _ => rfl) (fun r_7 C_8 d_10 q_9 => ?_)
    obtain ⟨q_9a, h⟩ := q_9
    subst d_10
    show AW p l e _ s m args below meth c E M_Se_measure true _ n _ _ _ [(2, v0), (0, v1), (9, 0)] [(0, r_7)] C_8
    refine AW.istore_n [(2, v0), (0, v1), (0, r_7)] (dc hd_Se_measure 16 rfl) (Nat.le_of_ble_eq_true rfl) rfl rfl ?_
    refine AW.ra_n (dc hd_Se_measure 17 rfl) rfl rfl rfl ?_
    refine AW.ra_n (dc hd_Se_measure 18 rfl) rfl rfl rfl ?_
    refine AW.getf fl_4_84 (dc hd_Se_measure 19 rfl) g_4 ?_
    refine AW.iload_n (dc hd_Se_measure 20 rfl) rfl ?_
    refine AW.mmax (dc hd_Se_measure 21 rfl) mt_4_97 (Nat.le_of_ble_eq_true rfl) (Nat.le_of_ble_eq_true rfl) (Nat.le_of_ble_eq_true rfl) (Nat.le_of_ble_eq_true rfl) (Nat.le_of_ble_eq_true rfl) ?_
    refine AW.nputI fl_4_84 (dc hd_Se_measure 22 rfl) g_4 (fun C_11 eC_11 => ?_)
    have h := h C_11 eC_11
    refine AW.ra_n (dc hd_Se_measure 23 rfl) rfl rfl rfl ?_
    refine AW.rdup (dc hd_Se_measure 24 rfl) rfl ?_
    refine AW.getf fl_4_87 (dc hd_Se_measure 25 rfl) g_4 ?_
    refine AW.iload_n (dc hd_Se_measure 26 rfl) rfl ?_
    refine AW.iadd (dc hd_Se_measure 27 rfl) ?_
    refine AW.nputI fl_4_87 (dc hd_Se_measure 28 rfl) g_4 (fun C_12 eC_12 => ?_)
    have h := h C_12 eC_12
    refine AW.iinc [(2, v0), (0, w32 (v1 + 1)), (0, r_7)] (dc hd_Se_measure 29 rfl) rfl (Nat.le_of_ble_eq_true rfl) rfl rfl ?_
    refine AW.goto (t := 12) (dc hd_Se_measure 30 rfl) (by decide) ?_
    refine AW.fgt [(2, v0), (0, w32 (v1 + 1)), (9, 0)] ⟨.inl rfl, .inl rfl, .inr rfl, trivial⟩ ?_
    exact hkz12 C_12 (w32 (v1 + 1)) h
theorem aB_Se_measure_12 (n : Nat) (v0 : Int) (Q : Int → Cn → Prop) : ∀ (f : Nat) (z : Cn × Int), lp (B_Se_measure_12 n v0 Q) f z → AW p l e R s m args below meth c E M_Se_measure true (fun r C2 n2 => n2 = n ∧ Q r C2) n 0 0 12 [(2, v0), (0, z.2), (9, 0)] [] (z.1) := by
  intro f
  induction f with
  | zero => intro z h; exact False.elim h
  | succ f ih => intro z h; exact bB_Se_measure_12 n v0 Q (lp (B_Se_measure_12 n v0 Q) f) (fun a0 a1 h => ih (a0, a1) h) z.1 z.2 h
def P_Se_measure (n : Nat) (C : Cn) (v0 : Int) (Q : Int → Cn → Prop) : Prop :=
  okO n v0 4 ∧ (∀ C_2 : Cn, C_2 = wr C v0.toNat 2 0 → (∀ C_3 : Cn, C_3 = wr C_2 v0.toNat 3 0 → (∃ f_13 : Nat, lp (B_Se_measure_12 n v0 Q) f_13 (C_3, 0))))
theorem m_Se_measure (l : Launch) (E : Ev) (n : Nat) (C : Cn) (v0 : Int) (Q : Int → Cn → Prop) (h : P_Se_measure n C v0 Q) : MA l y_Se_measure M_Se_measure E true C n [(2, v0)] (fun r C2 n2 => n2 = n ∧ Q r C2) := by
  refine MA.of (by decide) rfl rfl 2 rfl (fun p e s m args below meth c => ?_)
  show AW p l e _ s m args below meth c E M_Se_measure true _ n 0 0 0 [(2, v0), (9, 0), (9, 0)] [] C
  unfold P_Se_measure at h
  refine AW.ra_n (dc hd_Se_measure 0 rfl) rfl rfl rfl ?_
  refine AW.iconst (dc hd_Se_measure 1 rfl) (by decide) ?_
  obtain ⟨g_1, h⟩ := h
  refine AW.nputI fl_4_84 (dc hd_Se_measure 2 rfl) g_1 (fun C_2 eC_2 => ?_)
  have h := h C_2 eC_2
  refine AW.ra_n (dc hd_Se_measure 3 rfl) rfl rfl rfl ?_
  refine AW.iconst (dc hd_Se_measure 4 rfl) (by decide) ?_
  refine AW.nputI fl_4_87 (dc hd_Se_measure 5 rfl) g_1 (fun C_3 eC_3 => ?_)
  have h := h C_3 eC_3
  refine AW.iconst (dc hd_Se_measure 6 rfl) (by decide) ?_
  refine AW.istore_n [(2, v0), (0, 0), (9, 0)] (dc hd_Se_measure 7 rfl) (Nat.le_of_ble_eq_true rfl) rfl rfl ?_
  obtain ⟨f_13, h⟩ := h
  exact aB_Se_measure_12 n v0 Q f_13 (C_3, 0) h
def J_Se_learnSteps_94 (n : Nat) (C : Cn) (v0 v1 v2 v3 v4 : Int) (kz12 : Cn × Int → Prop) (kz19 : Cn × Int → Prop) (Q : Int → Cn → Prop) : Prop :=
  okO n v0 4 ∧ (okO n (PT v0.toNat 14) 12 ∧ (okI (PT v0.toNat 14) (w32 (w32 (v2 * 49) + v3)) ∧ (∀ C_18 : Cn, C_18 = wr C (PT v0.toNat 14).toNat (w32 (w32 (v2 * 49) + v3)).toNat v4 → (kz19 (C_18, w32 (v3 + 1))))))
theorem aJ_Se_learnSteps_94 (n : Nat) (C : Cn) (v0 v1 v2 v3 v4 : Int) (kz12 : Cn × Int → Prop) (kz19 : Cn × Int → Prop) (Q : Int → Cn → Prop) (hkz12 : ∀ (Cz : Cn) (z2 : Int), kz12 (Cz, z2) → AW p l e R s m args below meth c E M_Se_learnSteps true (fun r C2 n2 => n2 = n ∧ Q r C2) n 0 0 12 [(2, v0), (0, v1), (0, z2), (9, 0), (9, 0), (9, 0)] [] Cz) (hkz19 : ∀ (Cz : Cn) (z3 : Int), kz19 (Cz, z3) → AW p l e R s m args below meth c E M_Se_learnSteps true (fun r C2 n2 => n2 = n ∧ Q r C2) n 0 0 19 [(2, v0), (0, v1), (0, v2), (0, z3), (9, 0), (9, 0)] [] Cz) (h : J_Se_learnSteps_94 n C v0 v1 v2 v3 v4 kz12 kz19 Q) : AW p l e R s m args below meth c E M_Se_learnSteps true (fun r C2 n2 => n2 = n ∧ Q r C2) n 0 0 94 [(2, v0), (0, v1), (0, v2), (0, v3), (0, v4), (9, 0)] [] C := by
  unfold J_Se_learnSteps_94 at h
  refine AW.ra_n (dc hd_Se_learnSteps 54 rfl) rfl rfl rfl ?_
  obtain ⟨g_15, h⟩ := h
  refine AW.getp fl_4_31 (dc hd_Se_learnSteps 55 rfl) g_15 rfl ?_
  refine AW.iload_n (dc hd_Se_learnSteps 56 rfl) rfl ?_
  refine AW.bipush (dc hd_Se_learnSteps 57 rfl) (by decide) (by decide +kernel) ?_
  refine AW.imul (dc hd_Se_learnSteps 58 rfl) ?_
  refine AW.iload_n (dc hd_Se_learnSteps 59 rfl) rfl ?_
  refine AW.iadd (dc hd_Se_learnSteps 60 rfl) ?_
  refine AW.iload (dc hd_Se_learnSteps 61 rfl) rfl ?_
  obtain ⟨g_16, h⟩ := h
  obtain ⟨g_17, h⟩ := h
  refine AW.niast (dc hd_Se_learnSteps 62 rfl) g_16 g_17 (fun C_18 eC_18 => ?_)
  have h := h C_18 eC_18
  refine AW.iinc [(2, v0), (0, v1), (0, v2), (0, w32 (v3 + 1)), (0, v4), (9, 0)] (dc hd_Se_learnSteps 63 rfl) rfl (Nat.le_of_ble_eq_true rfl) rfl rfl ?_
  refine AW.goto (t := 19) (dc hd_Se_learnSteps 64 rfl) (by decide) ?_
  refine AW.fgt [(2, v0), (0, v1), (0, v2), (0, w32 (v3 + 1)), (9, 0), (9, 0)] ⟨.inl rfl, .inl rfl, .inl rfl, .inl rfl, .inr rfl, .inl rfl, trivial⟩ ?_
  exact hkz19 C_18 (w32 (v3 + 1)) h
def B_Se_learnSteps_42 (n : Nat) (C : Cn) (v0 v1 v2 v3 : Int) (kz12 : Cn × Int → Prop) (kz19 : Cn × Int → Prop) (Q : Int → Cn → Prop) (kz42 : Int × Int → Prop) (z : Int × Int) : Prop := match z with
  | (v4, v5) => okO n v0 4 ∧ (okO n (PT v0.toNat 0) 2 ∧ ((C (PT v0.toNat 0).toNat 0 ≤ v5 → (J_Se_learnSteps_94 n C v0 v1 v2 v3 v4 kz12 kz19 Q)) ∧ (¬ C (PT v0.toNat 0).toNat 0 ≤ v5 → ((and32 (shr32 v2 v5) 1 = 0 → (okO n (PT (PT v0.toNat 0).toNat 10) 12 ∧ (okI (PT (PT v0.toNat 0).toNat 10) v3 ∧ (P_Se_stepsAt n C v0 v5 (C (PT (PT v0.toNat 0).toNat 10).toNat v3.toNat) (fun (r_22 : Int) => ∀ v4_26 : Int, v4_26 = or32 v4 (shl32 r_22 (w32 (2 * v5))) → (kz42 (v4_26, w32 (v5 + 1)))))))) ∧ (¬ and32 (shr32 v2 v5) 1 = 0 → (kz42 (v4, w32 (v5 + 1))))))))
theorem bB_Se_learnSteps_42 (n : Nat) (C : Cn) (v0 v1 v2 v3 : Int) (kz12 : Cn × Int → Prop) (kz19 : Cn × Int → Prop) (Q : Int → Cn → Prop) (hkz12 : ∀ (Cz : Cn) (z2 : Int), kz12 (Cz, z2) → AW p l e R s m args below meth c E M_Se_learnSteps true (fun r C2 n2 => n2 = n ∧ Q r C2) n 0 0 12 [(2, v0), (0, v1), (0, z2), (9, 0), (9, 0), (9, 0)] [] Cz) (hkz19 : ∀ (Cz : Cn) (z3 : Int), kz19 (Cz, z3) → AW p l e R s m args below meth c E M_Se_learnSteps true (fun r C2 n2 => n2 = n ∧ Q r C2) n 0 0 19 [(2, v0), (0, v1), (0, v2), (0, z3), (9, 0), (9, 0)] [] Cz) (kz42 : Int × Int → Prop) (hkz42 : ∀ (z4 : Int) (z5 : Int), kz42 (z4, z5) → AW p l e R s m args below meth c E M_Se_learnSteps true (fun r C2 n2 => n2 = n ∧ Q r C2) n 0 0 42 [(2, v0), (0, v1), (0, v2), (0, v3), (0, z4), (0, z5)] [] C) (v4 : Int) (v5 : Int) (h : B_Se_learnSteps_42 n C v0 v1 v2 v3 kz12 kz19 Q kz42 (v4, v5)) : AW p l e R s m args below meth c E M_Se_learnSteps true (fun r C2 n2 => n2 = n ∧ Q r C2) n 0 0 42 [(2, v0), (0, v1), (0, v2), (0, v3), (0, v4), (0, v5)] [] C := by
  unfold B_Se_learnSteps_42 at h
  dsimp only at h
  refine AW.iload (dc hd_Se_learnSteps 26 rfl) rfl ?_
  refine AW.ra_n (dc hd_Se_learnSteps 27 rfl) rfl rfl rfl ?_
  obtain ⟨g_12, h⟩ := h
  refine AW.getp fl_4_40 (dc hd_Se_learnSteps 28 rfl) g_12 rfl ?_
  obtain ⟨g_13, h⟩ := h
  refine AW.getf fl_4_49 (dc hd_Se_learnSteps 29 rfl) g_13 ?_
  refine AW.icmp_ge (t := 94) (dc hd_Se_learnSteps 30 rfl) (by decide) (fun c_14 => ?_) (fun c_14 => ?_)
  · have h := h.1 c_14
    refine AW.fgt [(2, v0), (0, v1), (0, v2), (0, v3), (0, v4), (9, 0)] ⟨.inl rfl, .inl rfl, .inl rfl, .inl rfl, .inl rfl, .inr rfl, trivial⟩ ?_
    exact aJ_Se_learnSteps_94 n C v0 v1 v2 v3 v4 kz12 kz19 Q hkz12 hkz19 h
  · have h := h.2 c_14
    refine AW.iload_n (dc hd_Se_learnSteps 31 rfl) rfl ?_
    refine AW.iload (dc hd_Se_learnSteps 32 rfl) rfl ?_
    refine AW.ishr (dc hd_Se_learnSteps 33 rfl) ?_
    refine AW.iconst (dc hd_Se_learnSteps 34 rfl) (by decide) ?_
    refine AW.iand (dc hd_Se_learnSteps 35 rfl) ?_
    refine AW.if_ne (t := 88) (dc hd_Se_learnSteps 36 rfl) (by decide) (fun c_19 => ?_) (fun c_19 => ?_)
    · have h := h.2 c_19
      refine AW.iinc [(2, v0), (0, v1), (0, v2), (0, v3), (0, v4), (0, w32 (v5 + 1))] (dc hd_Se_learnSteps 52 rfl) rfl (Nat.le_of_ble_eq_true rfl) rfl rfl ?_
      refine AW.goto (t := 42) (dc hd_Se_learnSteps 53 rfl) (by decide) ?_
      exact hkz42 v4 (w32 (v5 + 1)) h
    · have h := h.1 c_19
      refine AW.iload (dc hd_Se_learnSteps 37 rfl) rfl ?_
      refine AW.ra_n (dc hd_Se_learnSteps 38 rfl) rfl rfl rfl ?_
      refine AW.iload (dc hd_Se_learnSteps 39 rfl) rfl ?_
      refine AW.ra_n (dc hd_Se_learnSteps 40 rfl) rfl rfl rfl ?_
      refine AW.getp fl_4_40 (dc hd_Se_learnSteps 41 rfl) g_12 rfl ?_
      refine AW.getp fl_4_78 (dc hd_Se_learnSteps 42 rfl) g_13 rfl ?_
      refine AW.iload_n (dc hd_Se_learnSteps 43 rfl) rfl ?_
      obtain ⟨g_20, h⟩ := h
      obtain ⟨g_21, h⟩ := h
      refine AW.iald (dc hd_Se_learnSteps 44 rfl) g_20 g_21 ?_
      refine AW.callV (As := [(0, v5), (0, C (PT (PT v0.toNat 0).toNat 10).toNat v3.toNat)]) (rest := [(0, v4)]) (ci := 4) (m_Se_stepsAt l E n C v0 v5 (C (PT (PT v0.toNat 0).toNat 10).toNat v3.toNat) _ h) cb_4_81 im_Se_stepsAt se_Se_stepsAt ⟨_, _, rfl⟩ (by decide) (dc hd_Se_learnSteps 45 rfl) g_12 rfl rfl ⟨Nat.le_of_ble_eq_true rfl, Nat.le_of_ble_eq_true rfl⟩ ⟨(Nat.le_of_ble_eq_true rfl), (Nat.le_of_ble_eq_true rfl)⟩ (Nat.le_of_ble_eq_true rfl) (fun _ h => by cases h) (fun _ => rfl) (fun r_22 D_24 d_25 q_23 => ?_)
      obtain ⟨q_23a, q_23b, h⟩ := q_23
      subst D_24
      subst d_25
      show AW p l e _ s m args below meth c E M_Se_learnSteps true _ n _ _ _ [(2, v0), (0, v1), (0, v2), (0, v3), (0, v4), (0, v5)] [(0, r_22), (0, v4)] C
      refine AW.iconst (dc hd_Se_learnSteps 46 rfl) (by decide) ?_
      refine AW.iload (dc hd_Se_learnSteps 47 rfl) rfl ?_
      refine AW.imul (dc hd_Se_learnSteps 48 rfl) ?_
      refine AW.ishl (dc hd_Se_learnSteps 49 rfl) ?_
      refine AW.ior (dc hd_Se_learnSteps 50 rfl) ?_
      refine AW.nm (fun v4_26 ev4_26 => ?_)
      have h := h v4_26 ev4_26
      refine AW.istore [(2, v0), (0, v1), (0, v2), (0, v3), (0, v4_26), (0, v5)] (dc hd_Se_learnSteps 51 rfl) (Nat.le_of_ble_eq_true rfl) rfl rfl ?_
      refine AW.iinc [(2, v0), (0, v1), (0, v2), (0, v3), (0, v4_26), (0, w32 (v5 + 1))] (dc hd_Se_learnSteps 52 rfl) rfl (Nat.le_of_ble_eq_true rfl) rfl rfl ?_
      refine AW.goto (t := 42) (dc hd_Se_learnSteps 53 rfl) (by decide) ?_
      exact hkz42 v4_26 (w32 (v5 + 1)) h
theorem aB_Se_learnSteps_42 (n : Nat) (C : Cn) (v0 v1 v2 v3 : Int) (kz12 : Cn × Int → Prop) (kz19 : Cn × Int → Prop) (Q : Int → Cn → Prop) (hkz12 : ∀ (Cz : Cn) (z2 : Int), kz12 (Cz, z2) → AW p l e R s m args below meth c E M_Se_learnSteps true (fun r C2 n2 => n2 = n ∧ Q r C2) n 0 0 12 [(2, v0), (0, v1), (0, z2), (9, 0), (9, 0), (9, 0)] [] Cz) (hkz19 : ∀ (Cz : Cn) (z3 : Int), kz19 (Cz, z3) → AW p l e R s m args below meth c E M_Se_learnSteps true (fun r C2 n2 => n2 = n ∧ Q r C2) n 0 0 19 [(2, v0), (0, v1), (0, v2), (0, z3), (9, 0), (9, 0)] [] Cz) : ∀ (f : Nat) (z : Int × Int), lp (B_Se_learnSteps_42 n C v0 v1 v2 v3 kz12 kz19 Q) f z → AW p l e R s m args below meth c E M_Se_learnSteps true (fun r C2 n2 => n2 = n ∧ Q r C2) n 0 0 42 [(2, v0), (0, v1), (0, v2), (0, v3), (0, z.1), (0, z.2)] [] C := by
  intro f
  induction f with
  | zero => intro z h; exact False.elim h
  | succ f ih => intro z h; exact bB_Se_learnSteps_42 n C v0 v1 v2 v3 kz12 kz19 Q hkz12 hkz19 (lp (B_Se_learnSteps_42 n C v0 v1 v2 v3 kz12 kz19 Q) f) (fun a0 a1 h => ih (a0, a1) h) z.1 z.2 h
def B_Se_learnSteps_19 (n : Nat) (v0 v1 v2 : Int) (kz12 : Cn × Int → Prop) (Q : Int → Cn → Prop) (kz19 : Cn × Int → Prop) (z : Cn × Int) : Prop := match z with
  | (C, v3) => okO n v0 4 ∧ (okO n (PT v0.toNat 0) 2 ∧ ((C (PT v0.toNat 0).toNat 8 ≤ v3 → (kz12 (C, w32 (v2 + 1)))) ∧ (¬ C (PT v0.toNat 0).toNat 8 ≤ v3 → (P_Se_findGap n C v0 v2 v3 (fun (_ : Int) (C_8 : Cn) => ∃ f_27 : Nat, lp (B_Se_learnSteps_42 n C_8 v0 v1 v2 v3 kz12 kz19 Q) f_27 (0, 0))))))
theorem bB_Se_learnSteps_19 (n : Nat) (v0 v1 v2 : Int) (kz12 : Cn × Int → Prop) (Q : Int → Cn → Prop) (hkz12 : ∀ (Cz : Cn) (z2 : Int), kz12 (Cz, z2) → AW p l e R s m args below meth c E M_Se_learnSteps true (fun r C2 n2 => n2 = n ∧ Q r C2) n 0 0 12 [(2, v0), (0, v1), (0, z2), (9, 0), (9, 0), (9, 0)] [] Cz) (kz19 : Cn × Int → Prop) (hkz19 : ∀ (Cz : Cn) (z3 : Int), kz19 (Cz, z3) → AW p l e R s m args below meth c E M_Se_learnSteps true (fun r C2 n2 => n2 = n ∧ Q r C2) n 0 0 19 [(2, v0), (0, v1), (0, v2), (0, z3), (9, 0), (9, 0)] [] Cz) (C : Cn) (v3 : Int) (h : B_Se_learnSteps_19 n v0 v1 v2 kz12 Q kz19 (C, v3)) : AW p l e R s m args below meth c E M_Se_learnSteps true (fun r C2 n2 => n2 = n ∧ Q r C2) n 0 0 19 [(2, v0), (0, v1), (0, v2), (0, v3), (9, 0), (9, 0)] [] C := by
  unfold B_Se_learnSteps_19 at h
  dsimp only at h
  refine AW.iload_n (dc hd_Se_learnSteps 13 rfl) rfl ?_
  refine AW.ra_n (dc hd_Se_learnSteps 14 rfl) rfl rfl rfl ?_
  obtain ⟨g_5, h⟩ := h
  refine AW.getp fl_4_40 (dc hd_Se_learnSteps 15 rfl) g_5 rfl ?_
  obtain ⟨g_6, h⟩ := h
  refine AW.getf fl_4_90 (dc hd_Se_learnSteps 16 rfl) g_6 ?_
  refine AW.icmp_ge (t := 113) (dc hd_Se_learnSteps 17 rfl) (by decide) (fun c_7 => ?_) (fun c_7 => ?_)
  · have h := h.1 c_7
    refine AW.iinc [(2, v0), (0, v1), (0, w32 (v2 + 1)), (0, v3), (9, 0), (9, 0)] (dc hd_Se_learnSteps 65 rfl) rfl (Nat.le_of_ble_eq_true rfl) rfl rfl ?_
    refine AW.goto (t := 12) (dc hd_Se_learnSteps 66 rfl) (by decide) ?_
    refine AW.fgt [(2, v0), (0, v1), (0, w32 (v2 + 1)), (9, 0), (9, 0), (9, 0)] ⟨.inl rfl, .inl rfl, .inl rfl, .inr rfl, .inl rfl, .inl rfl, trivial⟩ ?_
    exact hkz12 C (w32 (v2 + 1)) h
  · have h := h.2 c_7
    refine AW.ra_n (dc hd_Se_learnSteps 18 rfl) rfl rfl rfl ?_
    refine AW.iload_n (dc hd_Se_learnSteps 19 rfl) rfl ?_
    refine AW.iload_n (dc hd_Se_learnSteps 20 rfl) rfl ?_
    refine AW.callV (As := [(0, v2), (0, v3)]) (rest := []) (ci := 4) (m_Se_findGap l E n C v0 v2 v3 _ h) cb_4_75 im_Se_findGap se_Se_findGap ⟨_, _, rfl⟩ (by decide) (dc hd_Se_learnSteps 21 rfl) g_5 rfl rfl ⟨Nat.le_of_ble_eq_true rfl, Nat.le_of_ble_eq_true rfl⟩ ⟨(Nat.le_of_ble_eq_true rfl), (Nat.le_of_ble_eq_true rfl)⟩ (Nat.le_of_ble_eq_true rfl) (fun _ h => by cases h) (fun _ => rfl) (fun u_10 C_8 d_11 q_9 => ?_)
    obtain ⟨q_9a, h⟩ := q_9
    subst d_11
    show AW p l e _ s m args below meth c E M_Se_learnSteps true _ n _ _ _ [(2, v0), (0, v1), (0, v2), (0, v3), (9, 0), (9, 0)] [] C_8
    refine AW.iconst (dc hd_Se_learnSteps 22 rfl) (by decide) ?_
    refine AW.istore [(2, v0), (0, v1), (0, v2), (0, v3), (0, 0), (9, 0)] (dc hd_Se_learnSteps 23 rfl) (Nat.le_of_ble_eq_true rfl) rfl rfl ?_
    refine AW.iconst (dc hd_Se_learnSteps 24 rfl) (by decide) ?_
    refine AW.istore [(2, v0), (0, v1), (0, v2), (0, v3), (0, 0), (0, 0)] (dc hd_Se_learnSteps 25 rfl) (Nat.le_of_ble_eq_true rfl) rfl rfl ?_
    obtain ⟨f_27, h⟩ := h
    exact aB_Se_learnSteps_42 n C_8 v0 v1 v2 v3 kz12 kz19 Q hkz12 hkz19 f_27 (0, 0) h
theorem aB_Se_learnSteps_19 (n : Nat) (v0 v1 v2 : Int) (kz12 : Cn × Int → Prop) (Q : Int → Cn → Prop) (hkz12 : ∀ (Cz : Cn) (z2 : Int), kz12 (Cz, z2) → AW p l e R s m args below meth c E M_Se_learnSteps true (fun r C2 n2 => n2 = n ∧ Q r C2) n 0 0 12 [(2, v0), (0, v1), (0, z2), (9, 0), (9, 0), (9, 0)] [] Cz) : ∀ (f : Nat) (z : Cn × Int), lp (B_Se_learnSteps_19 n v0 v1 v2 kz12 Q) f z → AW p l e R s m args below meth c E M_Se_learnSteps true (fun r C2 n2 => n2 = n ∧ Q r C2) n 0 0 19 [(2, v0), (0, v1), (0, v2), (0, z.2), (9, 0), (9, 0)] [] (z.1) := by
  intro f
  induction f with
  | zero => intro z h; exact False.elim h
  | succ f ih => intro z h; exact bB_Se_learnSteps_19 n v0 v1 v2 kz12 Q hkz12 (lp (B_Se_learnSteps_19 n v0 v1 v2 kz12 Q) f) (fun a0 a1 h => ih (a0, a1) h) z.1 z.2 h
def B_Se_learnSteps_12 (n : Nat) (v0 v1 : Int) (Q : Int → Cn → Prop) (kz12 : Cn × Int → Prop) (z : Cn × Int) : Prop := match z with
  | (C, v2) => (v1 ≤ v2 → (Q 0 C)) ∧ (¬ v1 ≤ v2 → (∃ f_28 : Nat, lp (B_Se_learnSteps_19 n v0 v1 v2 kz12 Q) f_28 (C, 0)))
theorem bB_Se_learnSteps_12 (n : Nat) (v0 v1 : Int) (Q : Int → Cn → Prop) (kz12 : Cn × Int → Prop) (hkz12 : ∀ (Cz : Cn) (z2 : Int), kz12 (Cz, z2) → AW p l e R s m args below meth c E M_Se_learnSteps true (fun r C2 n2 => n2 = n ∧ Q r C2) n 0 0 12 [(2, v0), (0, v1), (0, z2), (9, 0), (9, 0), (9, 0)] [] Cz) (C : Cn) (v2 : Int) (h : B_Se_learnSteps_12 n v0 v1 Q kz12 (C, v2)) : AW p l e R s m args below meth c E M_Se_learnSteps true (fun r C2 n2 => n2 = n ∧ Q r C2) n 0 0 12 [(2, v0), (0, v1), (0, v2), (9, 0), (9, 0), (9, 0)] [] C := by
  unfold B_Se_learnSteps_12 at h
  dsimp only at h
  refine AW.iload_n (dc hd_Se_learnSteps 8 rfl) rfl ?_
  refine AW.iload_n (dc hd_Se_learnSteps 9 rfl) rfl ?_
  refine AW.icmp_ge (t := 119) (dc hd_Se_learnSteps 10 rfl) (by decide) (fun c_4 => ?_) (fun c_4 => ?_)
  · have h := h.1 c_4
    exact AW.vret (dc hd_Se_learnSteps 67 rfl) rfl rfl (Nat.le_of_ble_eq_true rfl) (Nat.le_of_ble_eq_true rfl) ⟨rfl, h⟩
  · have h := h.2 c_4
    refine AW.iconst (dc hd_Se_learnSteps 11 rfl) (by decide) ?_
    refine AW.istore_n [(2, v0), (0, v1), (0, v2), (0, 0), (9, 0), (9, 0)] (dc hd_Se_learnSteps 12 rfl) (Nat.le_of_ble_eq_true rfl) rfl rfl ?_
    obtain ⟨f_28, h⟩ := h
    exact aB_Se_learnSteps_19 n v0 v1 v2 kz12 Q hkz12 f_28 (C, 0) h
theorem aB_Se_learnSteps_12 (n : Nat) (v0 v1 : Int) (Q : Int → Cn → Prop) : ∀ (f : Nat) (z : Cn × Int), lp (B_Se_learnSteps_12 n v0 v1 Q) f z → AW p l e R s m args below meth c E M_Se_learnSteps true (fun r C2 n2 => n2 = n ∧ Q r C2) n 0 0 12 [(2, v0), (0, v1), (0, z.2), (9, 0), (9, 0), (9, 0)] [] (z.1) := by
  intro f
  induction f with
  | zero => intro z h; exact False.elim h
  | succ f ih => intro z h; exact bB_Se_learnSteps_12 n v0 v1 Q (lp (B_Se_learnSteps_12 n v0 v1 Q) f) (fun a0 a1 h => ih (a0, a1) h) z.1 z.2 h
def P_Se_learnSteps (n : Nat) (C : Cn) (v0 : Int) (Q : Int → Cn → Prop) : Prop :=
  okO n v0 4 ∧ (okO n (PT v0.toNat 0) 2 ∧ (∀ v1_3 : Int, v1_3 = shl32 1 (C (PT v0.toNat 0).toNat 0) → (∃ f_29 : Nat, lp (B_Se_learnSteps_12 n v0 v1_3 Q) f_29 (C, 0))))
theorem m_Se_learnSteps (l : Launch) (E : Ev) (n : Nat) (C : Cn) (v0 : Int) (Q : Int → Cn → Prop) (h : P_Se_learnSteps n C v0 Q) : MA l y_Se_learnSteps M_Se_learnSteps E true C n [(2, v0)] (fun r C2 n2 => n2 = n ∧ Q r C2) := by
  refine MA.of (by decide) rfl rfl 5 rfl (fun p e s m args below meth c => ?_)
  show AW p l e _ s m args below meth c E M_Se_learnSteps true _ n 0 0 0 [(2, v0), (9, 0), (9, 0), (9, 0), (9, 0), (9, 0)] [] C
  unfold P_Se_learnSteps at h
  refine AW.iconst (dc hd_Se_learnSteps 0 rfl) (by decide) ?_
  refine AW.ra_n (dc hd_Se_learnSteps 1 rfl) rfl rfl rfl ?_
  obtain ⟨g_1, h⟩ := h
  refine AW.getp fl_4_40 (dc hd_Se_learnSteps 2 rfl) g_1 rfl ?_
  obtain ⟨g_2, h⟩ := h
  refine AW.getf fl_4_49 (dc hd_Se_learnSteps 3 rfl) g_2 ?_
  refine AW.ishl (dc hd_Se_learnSteps 4 rfl) ?_
  refine AW.nm (fun v1_3 ev1_3 => ?_)
  have h := h v1_3 ev1_3
  refine AW.istore_n [(2, v0), (0, v1_3), (9, 0), (9, 0), (9, 0), (9, 0)] (dc hd_Se_learnSteps 5 rfl) (Nat.le_of_ble_eq_true rfl) rfl rfl ?_
  refine AW.iconst (dc hd_Se_learnSteps 6 rfl) (by decide) ?_
  refine AW.istore_n [(2, v0), (0, v1_3), (0, 0), (9, 0), (9, 0), (9, 0)] (dc hd_Se_learnSteps 7 rfl) (Nat.le_of_ble_eq_true rfl) rfl rfl ?_
  obtain ⟨f_29, h⟩ := h
  exact aB_Se_learnSteps_12 n v0 v1_3 Q f_29 (C, 0) h
def J_Se_levelsTriedAlready_31 (n : Nat) (C : Cn) (v1 : Int) (Q : Int → Prop) : Prop :=
  Q v1
theorem aJ_Se_levelsTriedAlready_31 (n : Nat) (C : Cn) (v1 : Int) (Q : Int → Prop) (h : J_Se_levelsTriedAlready_31 n C v1 Q) : AW p l e R s m args below meth c E M_Se_levelsTriedAlready true (fun r C2 n2 => C2 = C ∧ n2 = n ∧ Q r) n 0 0 31 [(9, 0), (0, v1)] [] C := by
  unfold J_Se_levelsTriedAlready_31 at h
  refine AW.iload_n (dc hd_Se_levelsTriedAlready 17 rfl) rfl ?_
  exact AW.iret (dc hd_Se_levelsTriedAlready 18 rfl) rfl rfl (Nat.le_of_ble_eq_true rfl) (Nat.le_of_ble_eq_true rfl) ⟨rfl, rfl, h⟩
def B_Se_levelsTriedAlready_2 (n : Nat) (C : Cn) (v0 : Int) (Q : Int → Prop) (kz2 : Int → Prop) (v1 : Int) : Prop :=
  okO n v0 4 ∧ ((C v0.toNat 16 ≤ v1 → (J_Se_levelsTriedAlready_31 n C v1 Q)) ∧ (¬ C v0.toNat 16 ≤ v1 → (okO n (PT v0.toNat 15) 12 ∧ (okI (PT v0.toNat 15) v1 ∧ (okO n (PT v0.toNat 1) 12 ∧ (okI (PT v0.toNat 1) v1 ∧ ((C (PT v0.toNat 15).toNat v1.toNat = C (PT v0.toNat 1).toNat v1.toNat → (kz2 (w32 (v1 + 1)))) ∧ (¬ C (PT v0.toNat 15).toNat v1.toNat = C (PT v0.toNat 1).toNat v1.toNat → (J_Se_levelsTriedAlready_31 n C v1 Q)))))))))
theorem bB_Se_levelsTriedAlready_2 (n : Nat) (C : Cn) (v0 : Int) (Q : Int → Prop) (kz2 : Int → Prop) (hkz2 : ∀ (z1 : Int), kz2 z1 → AW p l e R s m args below meth c E M_Se_levelsTriedAlready true (fun r C2 n2 => C2 = C ∧ n2 = n ∧ Q r) n 0 0 2 [(2, v0), (0, z1)] [] C) (v1 : Int) (h : B_Se_levelsTriedAlready_2 n C v0 Q kz2 v1) : AW p l e R s m args below meth c E M_Se_levelsTriedAlready true (fun r C2 n2 => C2 = C ∧ n2 = n ∧ Q r) n 0 0 2 [(2, v0), (0, v1)] [] C := by
  unfold B_Se_levelsTriedAlready_2 at h
  refine AW.iload_n (dc hd_Se_levelsTriedAlready 2 rfl) rfl ?_
  refine AW.ra_n (dc hd_Se_levelsTriedAlready 3 rfl) rfl rfl rfl ?_
  obtain ⟨g_1, h⟩ := h
  refine AW.getf fl_4_124 (dc hd_Se_levelsTriedAlready 4 rfl) g_1 ?_
  refine AW.icmp_ge (t := 31) (dc hd_Se_levelsTriedAlready 5 rfl) (by decide) (fun c_2 => ?_) (fun c_2 => ?_)
  · have h := h.1 c_2
    refine AW.fgt [(9, 0), (0, v1)] ⟨.inr rfl, .inl rfl, trivial⟩ ?_
    exact aJ_Se_levelsTriedAlready_31 n C v1 Q h
  · have h := h.2 c_2
    refine AW.ra_n (dc hd_Se_levelsTriedAlready 6 rfl) rfl rfl rfl ?_
    refine AW.getp fl_4_34 (dc hd_Se_levelsTriedAlready 7 rfl) g_1 rfl ?_
    refine AW.iload_n (dc hd_Se_levelsTriedAlready 8 rfl) rfl ?_
    obtain ⟨g_3, h⟩ := h
    obtain ⟨g_4, h⟩ := h
    refine AW.iald (dc hd_Se_levelsTriedAlready 9 rfl) g_3 g_4 ?_
    refine AW.ra_n (dc hd_Se_levelsTriedAlready 10 rfl) rfl rfl rfl ?_
    refine AW.getp fl_4_9 (dc hd_Se_levelsTriedAlready 11 rfl) g_1 rfl ?_
    refine AW.iload_n (dc hd_Se_levelsTriedAlready 12 rfl) rfl ?_
    obtain ⟨g_5, h⟩ := h
    obtain ⟨g_6, h⟩ := h
    refine AW.iald (dc hd_Se_levelsTriedAlready 13 rfl) g_5 g_6 ?_
    refine AW.icmp_ne (t := 31) (dc hd_Se_levelsTriedAlready 14 rfl) (by decide) (fun c_7 => ?_) (fun c_7 => ?_)
    · have h := h.2 c_7
      refine AW.fgt [(9, 0), (0, v1)] ⟨.inr rfl, .inl rfl, trivial⟩ ?_
      exact aJ_Se_levelsTriedAlready_31 n C v1 Q h
    · have h := h.1 c_7
      refine AW.iinc [(2, v0), (0, w32 (v1 + 1))] (dc hd_Se_levelsTriedAlready 15 rfl) rfl (Nat.le_of_ble_eq_true rfl) rfl rfl ?_
      refine AW.goto (t := 2) (dc hd_Se_levelsTriedAlready 16 rfl) (by decide) ?_
      exact hkz2 (w32 (v1 + 1)) h
theorem aB_Se_levelsTriedAlready_2 (n : Nat) (C : Cn) (v0 : Int) (Q : Int → Prop) : ∀ (f : Nat) (z : Int), lp (B_Se_levelsTriedAlready_2 n C v0 Q) f z → AW p l e R s m args below meth c E M_Se_levelsTriedAlready true (fun r C2 n2 => C2 = C ∧ n2 = n ∧ Q r) n 0 0 2 [(2, v0), (0, z)] [] C := by
  intro f
  induction f with
  | zero => intro z h; exact False.elim h
  | succ f ih => intro z h; exact bB_Se_levelsTriedAlready_2 n C v0 Q (lp (B_Se_levelsTriedAlready_2 n C v0 Q) f) (fun a0 h => ih a0 h) z h
def P_Se_levelsTriedAlready (n : Nat) (C : Cn) (v0 : Int) (Q : Int → Prop) : Prop :=
  ∃ f_8 : Nat, lp (B_Se_levelsTriedAlready_2 n C v0 Q) f_8 0
theorem m_Se_levelsTriedAlready (l : Launch) (E : Ev) (n : Nat) (C : Cn) (v0 : Int) (Q : Int → Prop) (h : P_Se_levelsTriedAlready n C v0 Q) : MA l y_Se_levelsTriedAlready M_Se_levelsTriedAlready E true C n [(2, v0)] (fun r C2 n2 => C2 = C ∧ n2 = n ∧ Q r) := by
  refine MA.of (by decide) rfl rfl 1 rfl (fun p e s m args below meth c => ?_)
  show AW p l e _ s m args below meth c E M_Se_levelsTriedAlready true _ n 0 0 0 [(2, v0), (9, 0)] [] C
  unfold P_Se_levelsTriedAlready at h
  refine AW.iconst (dc hd_Se_levelsTriedAlready 0 rfl) (by decide) ?_
  refine AW.istore_n [(2, v0), (0, 0)] (dc hd_Se_levelsTriedAlready 1 rfl) (Nat.le_of_ble_eq_true rfl) rfl rfl ?_
  obtain ⟨f_8, h⟩ := h
  exact aB_Se_levelsTriedAlready_2 n C v0 Q f_8 0 h
def B_Se_addLevel_41 (n : Nat) (v0 v1 v2 v3 : Int) (Q : Int → Cn → Prop) (kz41 : Cn × Int × Int → Prop) (z : Cn × Int × Int) : Prop := match z with
  | (C, v4, v5) => okO n v0 4 ∧ (okO n (PT v0.toNat 0) 2 ∧ ((C (PT v0.toNat 0).toNat 8 ≤ v5 → (Q v4 C)) ∧ (¬ C (PT v0.toNat 0).toNat 8 ≤ v5 → (okO n (PT v0.toNat 14) 12 ∧ (okI (PT v0.toNat 14) (w32 (w32 (v2 * 49) + v5)) ∧ (∀ v6_11 : Int, v6_11 = and32 (shr32 (C (PT v0.toNat 14).toNat (w32 (w32 (v2 * 49) + v5)).toNat) v3) 3 → (okO n (PT v0.toNat 17) 12 ∧ (okI (PT v0.toNat 17) (w32 (w32 (v1 * 49) + v5)) ∧ (∀ v7_14 : Int, v7_14 = w32 (C (PT v0.toNat 17).toNat (w32 (w32 (v1 * 49) + v5)).toNat + v6_11) → (okI (PT v0.toNat 17) (w32 (w32 ((w32 (v1 + 1)) * 49) + v5)) ∧ (∀ C_16 : Cn, C_16 = wr C (PT v0.toNat 17).toNat (w32 (w32 ((w32 (v1 + 1)) * 49) + v5)).toNat v7_14 → ((v7_14 ≤ v4 → (kz41 (C_16, v4, w32 (v5 + 1)))) ∧ (¬ v7_14 ≤ v4 → (kz41 (C_16, v7_14, w32 (v5 + 1))))))))))))))))
theorem bB_Se_addLevel_41 (n : Nat) (v0 v1 v2 v3 : Int) (Q : Int → Cn → Prop) (kz41 : Cn × Int × Int → Prop) (hkz41 : ∀ (Cz : Cn) (z4 : Int) (z5 : Int), kz41 (Cz, z4, z5) → AW p l e R s m args below meth c E M_Se_addLevel true (fun r C2 n2 => n2 = n ∧ Q r C2) n 0 0 41 [(2, v0), (0, v1), (0, v2), (0, v3), (0, z4), (0, z5), (9, 0), (9, 0)] [] Cz) (C : Cn) (v4 : Int) (v5 : Int) (h : B_Se_addLevel_41 n v0 v1 v2 v3 Q kz41 (C, v4, v5)) : AW p l e R s m args below meth c E M_Se_addLevel true (fun r C2 n2 => n2 = n ∧ Q r C2) n 0 0 41 [(2, v0), (0, v1), (0, v2), (0, v3), (0, v4), (0, v5), (9, 0), (9, 0)] [] C := by
  unfold B_Se_addLevel_41 at h
  dsimp only at h
  refine AW.iload (dc hd_Se_addLevel 29 rfl) rfl ?_
  refine AW.ra_n (dc hd_Se_addLevel 30 rfl) rfl rfl rfl ?_
  obtain ⟨g_6, h⟩ := h
  refine AW.getp fl_4_40 (dc hd_Se_addLevel 31 rfl) g_6 rfl ?_
  obtain ⟨g_7, h⟩ := h
  refine AW.getf fl_4_90 (dc hd_Se_addLevel 32 rfl) g_7 ?_
  refine AW.icmp_ge (t := 121) (dc hd_Se_addLevel 33 rfl) (by decide) (fun c_8 => ?_) (fun c_8 => ?_)
  · have h := h.1 c_8
    refine AW.iload (dc hd_Se_addLevel 76 rfl) rfl ?_
    exact AW.iret (dc hd_Se_addLevel 77 rfl) rfl rfl (Nat.le_of_ble_eq_true rfl) (Nat.le_of_ble_eq_true rfl) ⟨rfl, h⟩
  · have h := h.2 c_8
    refine AW.ra_n (dc hd_Se_addLevel 34 rfl) rfl rfl rfl ?_
    refine AW.getp fl_4_31 (dc hd_Se_addLevel 35 rfl) g_6 rfl ?_
    refine AW.iload_n (dc hd_Se_addLevel 36 rfl) rfl ?_
    refine AW.bipush (dc hd_Se_addLevel 37 rfl) (by decide) (by decide +kernel) ?_
    refine AW.imul (dc hd_Se_addLevel 38 rfl) ?_
    refine AW.iload (dc hd_Se_addLevel 39 rfl) rfl ?_
    refine AW.iadd (dc hd_Se_addLevel 40 rfl) ?_
    obtain ⟨g_9, h⟩ := h
    obtain ⟨g_10, h⟩ := h
    refine AW.iald (dc hd_Se_addLevel 41 rfl) g_9 g_10 ?_
    refine AW.iload_n (dc hd_Se_addLevel 42 rfl) rfl ?_
    refine AW.ishr (dc hd_Se_addLevel 43 rfl) ?_
    refine AW.iconst (dc hd_Se_addLevel 44 rfl) (by decide) ?_
    refine AW.iand (dc hd_Se_addLevel 45 rfl) ?_
    refine AW.nm (fun v6_11 ev6_11 => ?_)
    have h := h v6_11 ev6_11
    refine AW.istore [(2, v0), (0, v1), (0, v2), (0, v3), (0, v4), (0, v5), (0, v6_11), (9, 0)] (dc hd_Se_addLevel 46 rfl) (Nat.le_of_ble_eq_true rfl) rfl rfl ?_
    refine AW.ra_n (dc hd_Se_addLevel 47 rfl) rfl rfl rfl ?_
    refine AW.getp fl_4_37 (dc hd_Se_addLevel 48 rfl) g_6 rfl ?_
    refine AW.iload_n (dc hd_Se_addLevel 49 rfl) rfl ?_
    refine AW.bipush (dc hd_Se_addLevel 50 rfl) (by decide) (by decide +kernel) ?_
    refine AW.imul (dc hd_Se_addLevel 51 rfl) ?_
    refine AW.iload (dc hd_Se_addLevel 52 rfl) rfl ?_
    refine AW.iadd (dc hd_Se_addLevel 53 rfl) ?_
    obtain ⟨g_12, h⟩ := h
    obtain ⟨g_13, h⟩ := h
    refine AW.iald (dc hd_Se_addLevel 54 rfl) g_12 g_13 ?_
    refine AW.iload (dc hd_Se_addLevel 55 rfl) rfl ?_
    refine AW.iadd (dc hd_Se_addLevel 56 rfl) ?_
    refine AW.nm (fun v7_14 ev7_14 => ?_)
    have h := h v7_14 ev7_14
    refine AW.istore [(2, v0), (0, v1), (0, v2), (0, v3), (0, v4), (0, v5), (0, v6_11), (0, v7_14)] (dc hd_Se_addLevel 57 rfl) (Nat.le_of_ble_eq_true rfl) rfl rfl ?_
    refine AW.ra_n (dc hd_Se_addLevel 58 rfl) rfl rfl rfl ?_
    refine AW.getp fl_4_37 (dc hd_Se_addLevel 59 rfl) g_6 rfl ?_
    refine AW.iload_n (dc hd_Se_addLevel 60 rfl) rfl ?_
    refine AW.iconst (dc hd_Se_addLevel 61 rfl) (by decide) ?_
    refine AW.iadd (dc hd_Se_addLevel 62 rfl) ?_
    refine AW.bipush (dc hd_Se_addLevel 63 rfl) (by decide) (by decide +kernel) ?_
    refine AW.imul (dc hd_Se_addLevel 64 rfl) ?_
    refine AW.iload (dc hd_Se_addLevel 65 rfl) rfl ?_
    refine AW.iadd (dc hd_Se_addLevel 66 rfl) ?_
    refine AW.iload (dc hd_Se_addLevel 67 rfl) rfl ?_
    obtain ⟨g_15, h⟩ := h
    refine AW.niast (dc hd_Se_addLevel 68 rfl) g_12 g_15 (fun C_16 eC_16 => ?_)
    have h := h C_16 eC_16
    refine AW.iload (dc hd_Se_addLevel 69 rfl) rfl ?_
    refine AW.iload (dc hd_Se_addLevel 70 rfl) rfl ?_
    refine AW.icmp_le (t := 115) (dc hd_Se_addLevel 71 rfl) (by decide) (fun c_17 => ?_) (fun c_17 => ?_)
    · have h := h.1 c_17
      refine AW.iinc [(2, v0), (0, v1), (0, v2), (0, v3), (0, v4), (0, w32 (v5 + 1)), (0, v6_11), (0, v7_14)] (dc hd_Se_addLevel 74 rfl) rfl (Nat.le_of_ble_eq_true rfl) rfl rfl ?_
      refine AW.goto (t := 41) (dc hd_Se_addLevel 75 rfl) (by decide) ?_
      refine AW.fgt [(2, v0), (0, v1), (0, v2), (0, v3), (0, v4), (0, w32 (v5 + 1)), (9, 0), (9, 0)] ⟨.inl rfl, .inl rfl, .inl rfl, .inl rfl, .inl rfl, .inl rfl, .inr rfl, .inr rfl, trivial⟩ ?_
      exact hkz41 C_16 v4 (w32 (v5 + 1)) h
    · have h := h.2 c_17
      refine AW.iload (dc hd_Se_addLevel 72 rfl) rfl ?_
      refine AW.istore [(2, v0), (0, v1), (0, v2), (0, v3), (0, v7_14), (0, v5), (0, v6_11), (0, v7_14)] (dc hd_Se_addLevel 73 rfl) (Nat.le_of_ble_eq_true rfl) rfl rfl ?_
      refine AW.iinc [(2, v0), (0, v1), (0, v2), (0, v3), (0, v7_14), (0, w32 (v5 + 1)), (0, v6_11), (0, v7_14)] (dc hd_Se_addLevel 74 rfl) rfl (Nat.le_of_ble_eq_true rfl) rfl rfl ?_
      refine AW.goto (t := 41) (dc hd_Se_addLevel 75 rfl) (by decide) ?_
      refine AW.fgt [(2, v0), (0, v1), (0, v2), (0, v3), (0, v7_14), (0, w32 (v5 + 1)), (9, 0), (9, 0)] ⟨.inl rfl, .inl rfl, .inl rfl, .inl rfl, .inl rfl, .inl rfl, .inr rfl, .inr rfl, trivial⟩ ?_
      exact hkz41 C_16 v7_14 (w32 (v5 + 1)) h
theorem aB_Se_addLevel_41 (n : Nat) (v0 v1 v2 v3 : Int) (Q : Int → Cn → Prop) : ∀ (f : Nat) (z : Cn × Int × Int), lp (B_Se_addLevel_41 n v0 v1 v2 v3 Q) f z → AW p l e R s m args below meth c E M_Se_addLevel true (fun r C2 n2 => n2 = n ∧ Q r C2) n 0 0 41 [(2, v0), (0, v1), (0, v2), (0, v3), (0, z.2.1), (0, z.2.2), (9, 0), (9, 0)] [] (z.1) := by
  intro f
  induction f with
  | zero => intro z h; exact False.elim h
  | succ f ih => intro z h; exact bB_Se_addLevel_41 n v0 v1 v2 v3 Q (lp (B_Se_addLevel_41 n v0 v1 v2 v3 Q) f) (fun a0 a1 a2 h => ih (a0, a1, a2) h) z.1 z.2.1 z.2.2 h
def J_Se_addLevel_26 (n : Nat) (C : Cn) (v0 v1 v2 : Int) (Q : Int → Cn → Prop) : Prop :=
  okO n v0 4 ∧ (okO n (PT v0.toNat 1) 12 ∧ (okI (PT v0.toNat 1) v1 ∧ (∀ v3_5 : Int, v3_5 = w32 (2 * (C (PT v0.toNat 1).toNat v1.toNat)) → (∃ f_18 : Nat, lp (B_Se_addLevel_41 n v0 v1 v2 v3_5 Q) f_18 (C, 0, 0)))))
theorem aJ_Se_addLevel_26 (n : Nat) (C : Cn) (v0 v1 v2 : Int) (Q : Int → Cn → Prop) (h : J_Se_addLevel_26 n C v0 v1 v2 Q) : AW p l e R s m args below meth c E M_Se_addLevel true (fun r C2 n2 => n2 = n ∧ Q r C2) n 0 0 26 [(2, v0), (0, v1), (0, v2), (9, 0), (9, 0), (9, 0), (9, 0), (9, 0)] [] C := by
  unfold J_Se_addLevel_26 at h
  refine AW.iconst (dc hd_Se_addLevel 18 rfl) (by decide) ?_
  refine AW.ra_n (dc hd_Se_addLevel 19 rfl) rfl rfl rfl ?_
  obtain ⟨g_2, h⟩ := h
  refine AW.getp fl_4_9 (dc hd_Se_addLevel 20 rfl) g_2 rfl ?_
  refine AW.iload_n (dc hd_Se_addLevel 21 rfl) rfl ?_
  obtain ⟨g_3, h⟩ := h
  obtain ⟨g_4, h⟩ := h
  refine AW.iald (dc hd_Se_addLevel 22 rfl) g_3 g_4 ?_
  refine AW.imul (dc hd_Se_addLevel 23 rfl) ?_
  refine AW.nm (fun v3_5 ev3_5 => ?_)
  have h := h v3_5 ev3_5
  refine AW.istore_n [(2, v0), (0, v1), (0, v2), (0, v3_5), (9, 0), (9, 0), (9, 0), (9, 0)] (dc hd_Se_addLevel 24 rfl) (Nat.le_of_ble_eq_true rfl) rfl rfl ?_
  refine AW.iconst (dc hd_Se_addLevel 25 rfl) (by decide) ?_
  refine AW.istore [(2, v0), (0, v1), (0, v2), (0, v3_5), (0, 0), (9, 0), (9, 0), (9, 0)] (dc hd_Se_addLevel 26 rfl) (Nat.le_of_ble_eq_true rfl) rfl rfl ?_
  refine AW.iconst (dc hd_Se_addLevel 27 rfl) (by decide) ?_
  refine AW.istore [(2, v0), (0, v1), (0, v2), (0, v3_5), (0, 0), (0, 0), (9, 0), (9, 0)] (dc hd_Se_addLevel 28 rfl) (Nat.le_of_ble_eq_true rfl) rfl rfl ?_
  obtain ⟨f_18, h⟩ := h
  exact aB_Se_addLevel_41 n v0 v1 v2 v3_5 Q f_18 (C, 0, 0) h
def B_Se_addLevel_4 (n : Nat) (C : Cn) (v0 v1 : Int) (Q : Int → Cn → Prop) (kz4 : Int × Int → Prop) (z : Int × Int) : Prop := match z with
  | (v2, v3) => (v1 ≤ v3 → (J_Se_addLevel_26 n C v0 v1 v2 Q)) ∧ (¬ v1 ≤ v3 → (okO n v0 4 ∧ (okO n (PT v0.toNat 1) 12 ∧ (okI (PT v0.toNat 1) v3 ∧ (∀ v2_22 : Int, v2_22 = or32 v2 (shl32 1 (C (PT v0.toNat 1).toNat v3.toNat)) → (kz4 (v2_22, w32 (v3 + 1))))))))
theorem bB_Se_addLevel_4 (n : Nat) (C : Cn) (v0 v1 : Int) (Q : Int → Cn → Prop) (kz4 : Int × Int → Prop) (hkz4 : ∀ (z2 : Int) (z3 : Int), kz4 (z2, z3) → AW p l e R s m args below meth c E M_Se_addLevel true (fun r C2 n2 => n2 = n ∧ Q r C2) n 0 0 4 [(2, v0), (0, v1), (0, z2), (0, z3), (9, 0), (9, 0), (9, 0), (9, 0)] [] C) (v2 : Int) (v3 : Int) (h : B_Se_addLevel_4 n C v0 v1 Q kz4 (v2, v3)) : AW p l e R s m args below meth c E M_Se_addLevel true (fun r C2 n2 => n2 = n ∧ Q r C2) n 0 0 4 [(2, v0), (0, v1), (0, v2), (0, v3), (9, 0), (9, 0), (9, 0), (9, 0)] [] C := by
  unfold B_Se_addLevel_4 at h
  dsimp only at h
  refine AW.iload_n (dc hd_Se_addLevel 4 rfl) rfl ?_
  refine AW.iload_n (dc hd_Se_addLevel 5 rfl) rfl ?_
  refine AW.icmp_ge (t := 26) (dc hd_Se_addLevel 6 rfl) (by decide) (fun c_1 => ?_) (fun c_1 => ?_)
  · have h := h.1 c_1
    refine AW.fgt [(2, v0), (0, v1), (0, v2), (9, 0), (9, 0), (9, 0), (9, 0), (9, 0)] ⟨.inl rfl, .inl rfl, .inl rfl, .inr rfl, .inl rfl, .inl rfl, .inl rfl, .inl rfl, trivial⟩ ?_
    exact aJ_Se_addLevel_26 n C v0 v1 v2 Q h
  · have h := h.2 c_1
    refine AW.iload_n (dc hd_Se_addLevel 7 rfl) rfl ?_
    refine AW.iconst (dc hd_Se_addLevel 8 rfl) (by decide) ?_
    refine AW.ra_n (dc hd_Se_addLevel 9 rfl) rfl rfl rfl ?_
    obtain ⟨g_19, h⟩ := h
    refine AW.getp fl_4_9 (dc hd_Se_addLevel 10 rfl) g_19 rfl ?_
    refine AW.iload_n (dc hd_Se_addLevel 11 rfl) rfl ?_
    obtain ⟨g_20, h⟩ := h
    obtain ⟨g_21, h⟩ := h
    refine AW.iald (dc hd_Se_addLevel 12 rfl) g_20 g_21 ?_
    refine AW.ishl (dc hd_Se_addLevel 13 rfl) ?_
    refine AW.ior (dc hd_Se_addLevel 14 rfl) ?_
    refine AW.nm (fun v2_22 ev2_22 => ?_)
    have h := h v2_22 ev2_22
    refine AW.istore_n [(2, v0), (0, v1), (0, v2_22), (0, v3), (9, 0), (9, 0), (9, 0), (9, 0)] (dc hd_Se_addLevel 15 rfl) (Nat.le_of_ble_eq_true rfl) rfl rfl ?_
    refine AW.iinc [(2, v0), (0, v1), (0, v2_22), (0, w32 (v3 + 1)), (9, 0), (9, 0), (9, 0), (9, 0)] (dc hd_Se_addLevel 16 rfl) rfl (Nat.le_of_ble_eq_true rfl) rfl rfl ?_
    refine AW.goto (t := 4) (dc hd_Se_addLevel 17 rfl) (by decide) ?_
    exact hkz4 v2_22 (w32 (v3 + 1)) h
theorem aB_Se_addLevel_4 (n : Nat) (C : Cn) (v0 v1 : Int) (Q : Int → Cn → Prop) : ∀ (f : Nat) (z : Int × Int), lp (B_Se_addLevel_4 n C v0 v1 Q) f z → AW p l e R s m args below meth c E M_Se_addLevel true (fun r C2 n2 => n2 = n ∧ Q r C2) n 0 0 4 [(2, v0), (0, v1), (0, z.1), (0, z.2), (9, 0), (9, 0), (9, 0), (9, 0)] [] C := by
  intro f
  induction f with
  | zero => intro z h; exact False.elim h
  | succ f ih => intro z h; exact bB_Se_addLevel_4 n C v0 v1 Q (lp (B_Se_addLevel_4 n C v0 v1 Q) f) (fun a0 a1 h => ih (a0, a1) h) z.1 z.2 h
def P_Se_addLevel (n : Nat) (C : Cn) (v0 v1 : Int) (Q : Int → Cn → Prop) : Prop :=
  ∃ f_23 : Nat, lp (B_Se_addLevel_4 n C v0 v1 Q) f_23 (0, 0)
theorem m_Se_addLevel (l : Launch) (E : Ev) (n : Nat) (C : Cn) (v0 v1 : Int) (Q : Int → Cn → Prop) (h : P_Se_addLevel n C v0 v1 Q) : MA l y_Se_addLevel M_Se_addLevel E true C n [(2, v0), (0, v1)] (fun r C2 n2 => n2 = n ∧ Q r C2) := by
  refine MA.of (by decide) rfl rfl 6 rfl (fun p e s m args below meth c => ?_)
  show AW p l e _ s m args below meth c E M_Se_addLevel true _ n 0 0 0 [(2, v0), (0, v1), (9, 0), (9, 0), (9, 0), (9, 0), (9, 0), (9, 0)] [] C
  unfold P_Se_addLevel at h
  refine AW.iconst (dc hd_Se_addLevel 0 rfl) (by decide) ?_
  refine AW.istore_n [(2, v0), (0, v1), (0, 0), (9, 0), (9, 0), (9, 0), (9, 0), (9, 0)] (dc hd_Se_addLevel 1 rfl) (Nat.le_of_ble_eq_true rfl) rfl rfl ?_
  refine AW.iconst (dc hd_Se_addLevel 2 rfl) (by decide) ?_
  refine AW.istore_n [(2, v0), (0, v1), (0, 0), (0, 0), (9, 0), (9, 0), (9, 0), (9, 0)] (dc hd_Se_addLevel 3 rfl) (Nat.le_of_ble_eq_true rfl) rfl rfl ?_
  obtain ⟨f_23, h⟩ := h
  exact aB_Se_addLevel_4 n C v0 v1 Q f_23 (0, 0) h
def B_Se_sumOfLevel_4 (n : Nat) (C : Cn) (v0 v1 : Int) (Q : Int → Prop) (kz4 : Int × Int → Prop) (z : Int × Int) : Prop := match z with
  | (v2, v3) => okO n v0 4 ∧ (okO n (PT v0.toNat 0) 2 ∧ ((C (PT v0.toNat 0).toNat 8 ≤ v3 → (Q v2)) ∧ (¬ C (PT v0.toNat 0).toNat 8 ≤ v3 → (okO n (PT v0.toNat 17) 12 ∧ (okI (PT v0.toNat 17) (w32 (w32 (v1 * 49) + v3)) ∧ (∀ v2_6 : Int, v2_6 = w32 (v2 + C (PT v0.toNat 17).toNat (w32 (w32 (v1 * 49) + v3)).toNat) → (kz4 (v2_6, w32 (v3 + 1)))))))))
theorem bB_Se_sumOfLevel_4 (n : Nat) (C : Cn) (v0 v1 : Int) (Q : Int → Prop) (kz4 : Int × Int → Prop) (hkz4 : ∀ (z2 : Int) (z3 : Int), kz4 (z2, z3) → AW p l e R s m args below meth c E M_Se_sumOfLevel true (fun r C2 n2 => C2 = C ∧ n2 = n ∧ Q r) n 0 0 4 [(2, v0), (0, v1), (0, z2), (0, z3)] [] C) (v2 : Int) (v3 : Int) (h : B_Se_sumOfLevel_4 n C v0 v1 Q kz4 (v2, v3)) : AW p l e R s m args below meth c E M_Se_sumOfLevel true (fun r C2 n2 => C2 = C ∧ n2 = n ∧ Q r) n 0 0 4 [(2, v0), (0, v1), (0, v2), (0, v3)] [] C := by
  unfold B_Se_sumOfLevel_4 at h
  dsimp only at h
  refine AW.iload_n (dc hd_Se_sumOfLevel 4 rfl) rfl ?_
  refine AW.ra_n (dc hd_Se_sumOfLevel 5 rfl) rfl rfl rfl ?_
  obtain ⟨g_1, h⟩ := h
  refine AW.getp fl_4_40 (dc hd_Se_sumOfLevel 6 rfl) g_1 rfl ?_
  obtain ⟨g_2, h⟩ := h
  refine AW.getf fl_4_90 (dc hd_Se_sumOfLevel 7 rfl) g_2 ?_
  refine AW.icmp_ge (t := 35) (dc hd_Se_sumOfLevel 8 rfl) (by decide) (fun c_3 => ?_) (fun c_3 => ?_)
  · have h := h.1 c_3
    refine AW.iload_n (dc hd_Se_sumOfLevel 22 rfl) rfl ?_
    exact AW.iret (dc hd_Se_sumOfLevel 23 rfl) rfl rfl (Nat.le_of_ble_eq_true rfl) (Nat.le_of_ble_eq_true rfl) ⟨rfl, rfl, h⟩
  · have h := h.2 c_3
    refine AW.iload_n (dc hd_Se_sumOfLevel 9 rfl) rfl ?_
    refine AW.ra_n (dc hd_Se_sumOfLevel 10 rfl) rfl rfl rfl ?_
    refine AW.getp fl_4_37 (dc hd_Se_sumOfLevel 11 rfl) g_1 rfl ?_
    refine AW.iload_n (dc hd_Se_sumOfLevel 12 rfl) rfl ?_
    refine AW.bipush (dc hd_Se_sumOfLevel 13 rfl) (by decide) (by decide +kernel) ?_
    refine AW.imul (dc hd_Se_sumOfLevel 14 rfl) ?_
    refine AW.iload_n (dc hd_Se_sumOfLevel 15 rfl) rfl ?_
    refine AW.iadd (dc hd_Se_sumOfLevel 16 rfl) ?_
    obtain ⟨g_4, h⟩ := h
    obtain ⟨g_5, h⟩ := h
    refine AW.iald (dc hd_Se_sumOfLevel 17 rfl) g_4 g_5 ?_
    refine AW.iadd (dc hd_Se_sumOfLevel 18 rfl) ?_
    refine AW.nm (fun v2_6 ev2_6 => ?_)
    have h := h v2_6 ev2_6
    refine AW.istore_n [(2, v0), (0, v1), (0, v2_6), (0, v3)] (dc hd_Se_sumOfLevel 19 rfl) (Nat.le_of_ble_eq_true rfl) rfl rfl ?_
    refine AW.iinc [(2, v0), (0, v1), (0, v2_6), (0, w32 (v3 + 1))] (dc hd_Se_sumOfLevel 20 rfl) rfl (Nat.le_of_ble_eq_true rfl) rfl rfl ?_
    refine AW.goto (t := 4) (dc hd_Se_sumOfLevel 21 rfl) (by decide) ?_
    exact hkz4 v2_6 (w32 (v3 + 1)) h
theorem aB_Se_sumOfLevel_4 (n : Nat) (C : Cn) (v0 v1 : Int) (Q : Int → Prop) : ∀ (f : Nat) (z : Int × Int), lp (B_Se_sumOfLevel_4 n C v0 v1 Q) f z → AW p l e R s m args below meth c E M_Se_sumOfLevel true (fun r C2 n2 => C2 = C ∧ n2 = n ∧ Q r) n 0 0 4 [(2, v0), (0, v1), (0, z.1), (0, z.2)] [] C := by
  intro f
  induction f with
  | zero => intro z h; exact False.elim h
  | succ f ih => intro z h; exact bB_Se_sumOfLevel_4 n C v0 v1 Q (lp (B_Se_sumOfLevel_4 n C v0 v1 Q) f) (fun a0 a1 h => ih (a0, a1) h) z.1 z.2 h
def P_Se_sumOfLevel (n : Nat) (C : Cn) (v0 v1 : Int) (Q : Int → Prop) : Prop :=
  ∃ f_7 : Nat, lp (B_Se_sumOfLevel_4 n C v0 v1 Q) f_7 (0, 0)
theorem m_Se_sumOfLevel (l : Launch) (E : Ev) (n : Nat) (C : Cn) (v0 v1 : Int) (Q : Int → Prop) (h : P_Se_sumOfLevel n C v0 v1 Q) : MA l y_Se_sumOfLevel M_Se_sumOfLevel E true C n [(2, v0), (0, v1)] (fun r C2 n2 => C2 = C ∧ n2 = n ∧ Q r) := by
  refine MA.of (by decide) rfl rfl 2 rfl (fun p e s m args below meth c => ?_)
  show AW p l e _ s m args below meth c E M_Se_sumOfLevel true _ n 0 0 0 [(2, v0), (0, v1), (9, 0), (9, 0)] [] C
  unfold P_Se_sumOfLevel at h
  refine AW.iconst (dc hd_Se_sumOfLevel 0 rfl) (by decide) ?_
  refine AW.istore_n [(2, v0), (0, v1), (0, 0), (9, 0)] (dc hd_Se_sumOfLevel 1 rfl) (Nat.le_of_ble_eq_true rfl) rfl rfl ?_
  refine AW.iconst (dc hd_Se_sumOfLevel 2 rfl) (by decide) ?_
  refine AW.istore_n [(2, v0), (0, v1), (0, 0), (0, 0)] (dc hd_Se_sumOfLevel 3 rfl) (Nat.le_of_ble_eq_true rfl) rfl rfl ?_
  obtain ⟨f_7, h⟩ := h
  exact aB_Se_sumOfLevel_4 n C v0 v1 Q f_7 (0, 0) h
def J_Se_tryOrder_104 (n : Nat) (C : Cn) (v0 v1 v4 v5 : Int) (Q : Int → Cn → Prop) : Prop :=
  okO n v0 4 ∧ (∀ C_20 : Cn, C_20 = wr C v0.toNat 11 v1 → (∀ C_21 : Cn, C_21 = wr C_20 v0.toNat 12 v4 → (∀ C_22 : Cn, C_22 = wr C_21 v0.toNat 13 v5 → (Q 1 C_22))))
theorem aJ_Se_tryOrder_104 (n : Nat) (C : Cn) (v0 v1 v4 v5 : Int) (Q : Int → Cn → Prop) (h : J_Se_tryOrder_104 n C v0 v1 v4 v5 Q) : AW p l e R s m args below meth c E M_Se_tryOrder true (fun r C2 n2 => n2 = n ∧ Q r C2) n 0 0 104 [(2, v0), (0, v1), (9, 0), (9, 0), (0, v4), (0, v5)] [] C := by
  unfold J_Se_tryOrder_104 at h
  refine AW.ra_n (dc hd_Se_tryOrder 59 rfl) rfl rfl rfl ?_
  refine AW.iload_n (dc hd_Se_tryOrder 60 rfl) rfl ?_
  obtain ⟨g_19, h⟩ := h
  refine AW.nputI fl_4_27 (dc hd_Se_tryOrder 61 rfl) g_19 (fun C_20 eC_20 => ?_)
  have h := h C_20 eC_20
  refine AW.ra_n (dc hd_Se_tryOrder 62 rfl) rfl rfl rfl ?_
  refine AW.iload (dc hd_Se_tryOrder 63 rfl) rfl ?_
  refine AW.nputI fl_4_118 (dc hd_Se_tryOrder 64 rfl) g_19 (fun C_21 eC_21 => ?_)
  have h := h C_21 eC_21
  refine AW.ra_n (dc hd_Se_tryOrder 65 rfl) rfl rfl rfl ?_
  refine AW.iload (dc hd_Se_tryOrder 66 rfl) rfl ?_
  refine AW.nputI fl_4_121 (dc hd_Se_tryOrder 67 rfl) g_19 (fun C_22 eC_22 => ?_)
  have h := h C_22 eC_22
  refine AW.iconst (dc hd_Se_tryOrder 68 rfl) (by decide) ?_
  exact AW.iret (dc hd_Se_tryOrder 69 rfl) rfl rfl (Nat.le_of_ble_eq_true rfl) (Nat.le_of_ble_eq_true rfl) ⟨rfl, h⟩
def J_Se_tryOrder_79 (n : Nat) (C : Cn) (v0 v1 v2 v4 : Int) (Q : Int → Cn → Prop) : Prop :=
  okO n v0 4 ∧ (P_Se_sumOfLevel n C v0 v2 (fun (r_13 : Int) => (v4 < C v0.toNat 12 → (J_Se_tryOrder_104 n C v0 v1 v4 r_13 Q)) ∧ (¬ v4 < C v0.toNat 12 → ((C v0.toNat 13 ≤ r_13 → (Q 1 C)) ∧ (¬ C v0.toNat 13 ≤ r_13 → (J_Se_tryOrder_104 n C v0 v1 v4 r_13 Q))))))
theorem aJ_Se_tryOrder_79 (n : Nat) (C : Cn) (v0 v1 v2 v4 : Int) (Q : Int → Cn → Prop) (h : J_Se_tryOrder_79 n C v0 v1 v2 v4 Q) : AW p l e R s m args below meth c E M_Se_tryOrder true (fun r C2 n2 => n2 = n ∧ Q r C2) n 0 0 79 [(2, v0), (0, v1), (0, v2), (9, 0), (0, v4), (9, 0)] [] C := by
  unfold J_Se_tryOrder_79 at h
  refine AW.ra_n (dc hd_Se_tryOrder 47 rfl) rfl rfl rfl ?_
  refine AW.iload_n (dc hd_Se_tryOrder 48 rfl) rfl ?_
  obtain ⟨g_14, h⟩ := h
  refine AW.callV (As := [(0, v2)]) (rest := []) (ci := 4) (m_Se_sumOfLevel l E n C v0 v2 _ h) cb_4_144 im_Se_sumOfLevel se_Se_sumOfLevel ⟨_, _, rfl⟩ (by decide) (dc hd_Se_tryOrder 49 rfl) g_14 rfl rfl ⟨Nat.le_of_ble_eq_true rfl, Nat.le_of_ble_eq_true rfl⟩ ⟨(Nat.le_of_ble_eq_true rfl), (Nat.le_of_ble_eq_true rfl)⟩ (Nat.le_of_ble_eq_true rfl) (fun _ h => by cases h) (fun _ => rfl) (fun r_13 D_16 d_17 q_15 => ?_)
  obtain ⟨q_15a, q_15b, h⟩ := q_15
  subst D_16
  subst d_17
  show AW p l e _ s m args below meth c E M_Se_tryOrder true _ n _ _ _ [(2, v0), (0, v1), (0, v2), (9, 0), (0, v4), (9, 0)] [(0, r_13)] C
  refine AW.istore [(2, v0), (0, v1), (0, v2), (9, 0), (0, v4), (0, r_13)] (dc hd_Se_tryOrder 50 rfl) (Nat.le_of_ble_eq_true rfl) rfl rfl ?_
  refine AW.iload (dc hd_Se_tryOrder 51 rfl) rfl ?_
  refine AW.ra_n (dc hd_Se_tryOrder 52 rfl) rfl rfl rfl ?_
  refine AW.getf fl_4_118 (dc hd_Se_tryOrder 53 rfl) g_14 ?_
  refine AW.icmp_lt (t := 104) (dc hd_Se_tryOrder 54 rfl) (by decide) (fun c_18 => ?_) (fun c_18 => ?_)
  · have h := h.1 c_18
    refine AW.fgt [(2, v0), (0, v1), (9, 0), (9, 0), (0, v4), (0, r_13)] ⟨.inl rfl, .inl rfl, .inr rfl, .inl rfl, .inl rfl, .inl rfl, trivial⟩ ?_
    exact aJ_Se_tryOrder_104 n C v0 v1 v4 r_13 Q h
  · have h := h.2 c_18
    refine AW.iload (dc hd_Se_tryOrder 55 rfl) rfl ?_
    refine AW.ra_n (dc hd_Se_tryOrder 56 rfl) rfl rfl rfl ?_
    refine AW.getf fl_4_121 (dc hd_Se_tryOrder 57 rfl) g_14 ?_
    refine AW.icmp_ge (t := 121) (dc hd_Se_tryOrder 58 rfl) (by decide) (fun c_23 => ?_) (fun c_23 => ?_)
    · have h := h.1 c_23
      refine AW.iconst (dc hd_Se_tryOrder 68 rfl) (by decide) ?_
      exact AW.iret (dc hd_Se_tryOrder 69 rfl) rfl rfl (Nat.le_of_ble_eq_true rfl) (Nat.le_of_ble_eq_true rfl) ⟨rfl, h⟩
    · have h := h.2 c_23
      refine AW.fgt [(2, v0), (0, v1), (9, 0), (9, 0), (0, v4), (0, r_13)] ⟨.inl rfl, .inl rfl, .inr rfl, .inl rfl, .inl rfl, .inl rfl, trivial⟩ ?_
      exact aJ_Se_tryOrder_104 n C v0 v1 v4 r_13 Q h
def J_Se_tryOrder_62 (n : Nat) (C : Cn) (v1 v2 v3 : Int) (Q : Int → Cn → Prop) : Prop :=
  0 ≤ w32 (v2 - v3) ∧ (w32 (v2 - v3) < SAL 0 ∧ (∀ v5_38 : Int, v5_38 = ((SAV 0).getD (w32 (v2 - v3)).toNat 0).toInt → (v5_38 ≠ 0 ∧ (Q (w32 (v5_38 - (w32 (Int.tmod v1 v5_38)))) C))))
theorem aJ_Se_tryOrder_62 (n : Nat) (C : Cn) (v1 v2 v3 : Int) (Q : Int → Cn → Prop) (h : J_Se_tryOrder_62 n C v1 v2 v3 Q) : AW p l e R s m args below meth c E M_Se_tryOrder true (fun r C2 n2 => n2 = n ∧ Q r C2) n 0 0 62 [(9, 0), (0, v1), (0, v2), (0, v3), (9, 0), (9, 0)] [] C := by
  unfold J_Se_tryOrder_62 at h
  refine AW.gets (t := 0) gs_4_68 (Or.inl ⟨rfl, rfl, rfl⟩) (dc hd_Se_tryOrder 35 rfl) ?_
  refine AW.iload_n (dc hd_Se_tryOrder 36 rfl) rfl ?_
  refine AW.iload_n (dc hd_Se_tryOrder 37 rfl) rfl ?_
  refine AW.isub (dc hd_Se_tryOrder 38 rfl) ?_
  obtain ⟨g_36, h⟩ := h
  obtain ⟨g_37, h⟩ := h
  refine AW.sald (t := 0) (by decide) (dc hd_Se_tryOrder 39 rfl) g_36 g_37 ?_
  refine AW.nm (fun v5_38 ev5_38 => ?_)
  have h := h v5_38 ev5_38
  refine AW.istore [(9, 0), (0, v1), (0, v2), (0, v3), (9, 0), (0, v5_38)] (dc hd_Se_tryOrder 40 rfl) (Nat.le_of_ble_eq_true rfl) rfl rfl ?_
  refine AW.iload (dc hd_Se_tryOrder 41 rfl) rfl ?_
  refine AW.iload_n (dc hd_Se_tryOrder 42 rfl) rfl ?_
  refine AW.iload (dc hd_Se_tryOrder 43 rfl) rfl ?_
  obtain ⟨g_39, h⟩ := h
  refine AW.irem (dc hd_Se_tryOrder 44 rfl) g_39 ?_
  refine AW.isub (dc hd_Se_tryOrder 45 rfl) ?_
  exact AW.iret (dc hd_Se_tryOrder 46 rfl) rfl rfl (Nat.le_of_ble_eq_true rfl) (Nat.le_of_ble_eq_true rfl) ⟨rfl, h⟩
def B_Se_tryOrder_21 (n : Nat) (v0 v1 v2 : Int) (Q : Int → Cn → Prop) (kz21 : Cn × Int × Int → Prop) (z : Cn × Int × Int) : Prop := match z with
  | (C, v3, v4) => (v2 ≤ v3 → (J_Se_tryOrder_79 n C v0 v1 v2 v4 Q)) ∧ (¬ v2 ≤ v3 → (okO n v0 4 ∧ (okO n (PT v0.toNat 1) 12 ∧ (okI (PT v0.toNat 1) v3 ∧ (okO n (PT v0.toNat 15) 12 ∧ (okI (PT v0.toNat 15) v3 ∧ (∀ C_29 : Cn, C_29 = wr C (PT v0.toNat 15).toNat v3.toNat (C (PT v0.toNat 1).toNat v3.toNat) → (P_Se_addLevel n C_29 v0 v3 (fun (r_30 : Int) (C_31 : Cn) => ∀ C_34 : Cn, C_34 = wr C_31 v0.toNat 16 (w32 (v3 + 1)) → ((r_30 ≤ C_34 v0.toNat 12 → (kz21 (C_34, w32 (v3 + 1), r_30))) ∧ (¬ r_30 ≤ C_34 v0.toNat 12 → (J_Se_tryOrder_62 n C_34 v1 v2 (w32 (v3 + 1)) Q))))))))))))
theorem bB_Se_tryOrder_21 (n : Nat) (v0 v1 v2 : Int) (Q : Int → Cn → Prop) (kz21 : Cn × Int × Int → Prop) (hkz21 : ∀ (Cz : Cn) (z3 : Int) (z4 : Int), kz21 (Cz, z3, z4) → AW p l e R s m args below meth c E M_Se_tryOrder true (fun r C2 n2 => n2 = n ∧ Q r C2) n 0 0 21 [(2, v0), (0, v1), (0, v2), (0, z3), (0, z4), (9, 0)] [] Cz) (C : Cn) (v3 : Int) (v4 : Int) (h : B_Se_tryOrder_21 n v0 v1 v2 Q kz21 (C, v3, v4)) : AW p l e R s m args below meth c E M_Se_tryOrder true (fun r C2 n2 => n2 = n ∧ Q r C2) n 0 0 21 [(2, v0), (0, v1), (0, v2), (0, v3), (0, v4), (9, 0)] [] C := by
  unfold B_Se_tryOrder_21 at h
  dsimp only at h
  refine AW.iload_n (dc hd_Se_tryOrder 12 rfl) rfl ?_
  refine AW.iload_n (dc hd_Se_tryOrder 13 rfl) rfl ?_
  refine AW.icmp_ge (t := 79) (dc hd_Se_tryOrder 14 rfl) (by decide) (fun c_12 => ?_) (fun c_12 => ?_)
  · have h := h.1 c_12
    refine AW.fgt [(2, v0), (0, v1), (0, v2), (9, 0), (0, v4), (9, 0)] ⟨.inl rfl, .inl rfl, .inl rfl, .inr rfl, .inl rfl, .inl rfl, trivial⟩ ?_
    exact aJ_Se_tryOrder_79 n C v0 v1 v2 v4 Q h
  · have h := h.2 c_12
    refine AW.ra_n (dc hd_Se_tryOrder 15 rfl) rfl rfl rfl ?_
    obtain ⟨g_24, h⟩ := h
    refine AW.getp fl_4_34 (dc hd_Se_tryOrder 16 rfl) g_24 rfl ?_
    refine AW.iload_n (dc hd_Se_tryOrder 17 rfl) rfl ?_
    refine AW.ra_n (dc hd_Se_tryOrder 18 rfl) rfl rfl rfl ?_
    refine AW.getp fl_4_9 (dc hd_Se_tryOrder 19 rfl) g_24 rfl ?_
    refine AW.iload_n (dc hd_Se_tryOrder 20 rfl) rfl ?_
    obtain ⟨g_25, h⟩ := h
    obtain ⟨g_26, h⟩ := h
    refine AW.iald (dc hd_Se_tryOrder 21 rfl) g_25 g_26 ?_
    obtain ⟨g_27, h⟩ := h
    obtain ⟨g_28, h⟩ := h
    refine AW.niast (dc hd_Se_tryOrder 22 rfl) g_27 g_28 (fun C_29 eC_29 => ?_)
    have h := h C_29 eC_29
    refine AW.ra_n (dc hd_Se_tryOrder 23 rfl) rfl rfl rfl ?_
    refine AW.iload_n (dc hd_Se_tryOrder 24 rfl) rfl ?_
    refine AW.callV (As := [(0, v3)]) (rest := []) (ci := 4) (m_Se_addLevel l E n C_29 v0 v3 _ h) cb_4_141 im_Se_addLevel se_Se_addLevel ⟨_, _, rfl⟩ (by decide) (dc hd_Se_tryOrder 25 rfl) g_24 rfl rfl ⟨Nat.le_of_ble_eq_true rfl, Nat.le_of_ble_eq_true rfl⟩ ⟨(Nat.le_of_ble_eq_true rfl), (Nat.le_of_ble_eq_true rfl)⟩ (Nat.le_of_ble_eq_true rfl) (fun _ h => by cases h) (fun _ => rfl) (fun r_30 C_31 d_33 q_32 => ?_)
    obtain ⟨q_32a, h⟩ := q_32
    subst d_33
    show AW p l e _ s m args below meth c E M_Se_tryOrder true _ n _ _ _ [(2, v0), (0, v1), (0, v2), (0, v3), (0, v4), (9, 0)] [(0, r_30)] C_31
    refine AW.istore [(2, v0), (0, v1), (0, v2), (0, v3), (0, r_30), (9, 0)] (dc hd_Se_tryOrder 26 rfl) (Nat.le_of_ble_eq_true rfl) rfl rfl ?_
    refine AW.iinc [(2, v0), (0, v1), (0, v2), (0, w32 (v3 + 1)), (0, r_30), (9, 0)] (dc hd_Se_tryOrder 27 rfl) rfl (Nat.le_of_ble_eq_true rfl) rfl rfl ?_
    refine AW.ra_n (dc hd_Se_tryOrder 28 rfl) rfl rfl rfl ?_
    refine AW.iload_n (dc hd_Se_tryOrder 29 rfl) rfl ?_
    refine AW.nputI fl_4_124 (dc hd_Se_tryOrder 30 rfl) g_24 (fun C_34 eC_34 => ?_)
    have h := h C_34 eC_34
    refine AW.iload (dc hd_Se_tryOrder 31 rfl) rfl ?_
    refine AW.ra_n (dc hd_Se_tryOrder 32 rfl) rfl rfl rfl ?_
    refine AW.getf fl_4_118 (dc hd_Se_tryOrder 33 rfl) g_24 ?_
    refine AW.icmp_le (t := 21) (dc hd_Se_tryOrder 34 rfl) (by decide) (fun c_35 => ?_) (fun c_35 => ?_)
    · have h := h.1 c_35
      exact hkz21 C_34 (w32 (v3 + 1)) r_30 h
    · have h := h.2 c_35
      refine AW.fgt [(9, 0), (0, v1), (0, v2), (0, w32 (v3 + 1)), (9, 0), (9, 0)] ⟨.inr rfl, .inl rfl, .inl rfl, .inl rfl, .inr rfl, .inl rfl, trivial⟩ ?_
      exact aJ_Se_tryOrder_62 n C_34 v1 v2 (w32 (v3 + 1)) Q h
theorem aB_Se_tryOrder_21 (n : Nat) (v0 v1 v2 : Int) (Q : Int → Cn → Prop) : ∀ (f : Nat) (z : Cn × Int × Int), lp (B_Se_tryOrder_21 n v0 v1 v2 Q) f z → AW p l e R s m args below meth c E M_Se_tryOrder true (fun r C2 n2 => n2 = n ∧ Q r C2) n 0 0 21 [(2, v0), (0, v1), (0, v2), (0, z.2.1), (0, z.2.2), (9, 0)] [] (z.1) := by
  intro f
  induction f with
  | zero => intro z h; exact False.elim h
  | succ f ih => intro z h; exact bB_Se_tryOrder_21 n v0 v1 v2 Q (lp (B_Se_tryOrder_21 n v0 v1 v2 Q) f) (fun a0 a1 a2 h => ih (a0, a1, a2) h) z.1 z.2.1 z.2.2 h
def P_Se_tryOrder (n : Nat) (C : Cn) (v0 v1 : Int) (Q : Int → Cn → Prop) : Prop :=
  okO n v0 4 ∧ (okO n (PT v0.toNat 0) 2 ∧ (∀ v2_3 : Int, v2_3 = C (PT v0.toNat 0).toNat 0 → (P_Se_takeOrder n C v0 v1 (fun (_ : Int) (C_4 : Cn) => P_Se_levelsTriedAlready n C_4 v0 (fun (r_8 : Int) => ∃ f_40 : Nat, lp (B_Se_tryOrder_21 n v0 v1 v2_3 Q) f_40 (C_4, r_8, 0))))))
theorem m_Se_tryOrder (l : Launch) (E : Ev) (n : Nat) (C : Cn) (v0 v1 : Int) (Q : Int → Cn → Prop) (h : P_Se_tryOrder n C v0 v1 Q) : MA l y_Se_tryOrder M_Se_tryOrder E true C n [(2, v0), (0, v1)] (fun r C2 n2 => n2 = n ∧ Q r C2) := by
  refine MA.of (by decide) rfl rfl 4 rfl (fun p e s m args below meth c => ?_)
  show AW p l e _ s m args below meth c E M_Se_tryOrder true _ n 0 0 0 [(2, v0), (0, v1), (9, 0), (9, 0), (9, 0), (9, 0)] [] C
  unfold P_Se_tryOrder at h
  refine AW.ra_n (dc hd_Se_tryOrder 0 rfl) rfl rfl rfl ?_
  obtain ⟨g_1, h⟩ := h
  refine AW.getp fl_4_40 (dc hd_Se_tryOrder 1 rfl) g_1 rfl ?_
  obtain ⟨g_2, h⟩ := h
  refine AW.getf fl_4_49 (dc hd_Se_tryOrder 2 rfl) g_2 ?_
  refine AW.nm (fun v2_3 ev2_3 => ?_)
  have h := h v2_3 ev2_3
  refine AW.istore_n [(2, v0), (0, v1), (0, v2_3), (9, 0), (9, 0), (9, 0)] (dc hd_Se_tryOrder 3 rfl) (Nat.le_of_ble_eq_true rfl) rfl rfl ?_
  refine AW.ra_n (dc hd_Se_tryOrder 4 rfl) rfl rfl rfl ?_
  refine AW.iload_n (dc hd_Se_tryOrder 5 rfl) rfl ?_
  refine AW.callV (As := [(0, v1)]) (rest := []) (ci := 4) (m_Se_takeOrder l E n C v0 v1 _ h) cb_4_133 im_Se_takeOrder se_Se_takeOrder ⟨_, _, rfl⟩ (by decide) (dc hd_Se_tryOrder 6 rfl) g_1 rfl rfl ⟨Nat.le_of_ble_eq_true rfl, Nat.le_of_ble_eq_true rfl⟩ ⟨(Nat.le_of_ble_eq_true rfl), (Nat.le_of_ble_eq_true rfl)⟩ (Nat.le_of_ble_eq_true rfl) (fun _ h => by cases h) (fun _ => rfl) (fun u_6 C_4 d_7 q_5 => ?_)
  obtain ⟨q_5a, h⟩ := q_5
  subst d_7
  show AW p l e _ s m args below meth c E M_Se_tryOrder true _ n _ _ _ [(2, v0), (0, v1), (0, v2_3), (9, 0), (9, 0), (9, 0)] [] C_4
  refine AW.ra_n (dc hd_Se_tryOrder 7 rfl) rfl rfl rfl ?_
  refine AW.callV (As := []) (rest := []) (ci := 4) (m_Se_levelsTriedAlready l E n C_4 v0 _ h) cb_4_137 im_Se_levelsTriedAlready se_Se_levelsTriedAlready ⟨_, _, rfl⟩ (by decide) (dc hd_Se_tryOrder 8 rfl) g_1 rfl rfl ⟨Nat.le_of_ble_eq_true rfl, Nat.le_of_ble_eq_true rfl⟩ ⟨(Nat.le_of_ble_eq_true rfl), (Nat.le_of_ble_eq_true rfl)⟩ (Nat.le_of_ble_eq_true rfl) (fun _ h => by cases h) (fun _ => rfl) (fun r_8 D_10 d_11 q_9 => ?_)
  obtain ⟨q_9a, q_9b, h⟩ := q_9
  subst D_10
  subst d_11
  show AW p l e _ s m args below meth c E M_Se_tryOrder true _ n _ _ _ [(2, v0), (0, v1), (0, v2_3), (9, 0), (9, 0), (9, 0)] [(0, r_8)] C_4
  refine AW.istore_n [(2, v0), (0, v1), (0, v2_3), (0, r_8), (9, 0), (9, 0)] (dc hd_Se_tryOrder 9 rfl) (Nat.le_of_ble_eq_true rfl) rfl rfl ?_
  refine AW.iconst (dc hd_Se_tryOrder 10 rfl) (by decide) ?_
  refine AW.istore [(2, v0), (0, v1), (0, v2_3), (0, r_8), (0, 0), (9, 0)] (dc hd_Se_tryOrder 11 rfl) (Nat.le_of_ble_eq_true rfl) rfl rfl ?_
  obtain ⟨f_40, h⟩ := h
  exact aB_Se_tryOrder_21 n v0 v1 v2_3 Q f_40 (C_4, r_8, 0) h
def B_Se_bestOrder_53 (n : Nat) (v0 v1 : Int) (Q : Int → Cn → Prop) (kz53 : Cn × Int → Prop) (z : Cn × Int) : Prop := match z with
  | (C, v2) => (v1 ≤ v2 → (okO n v0 4 ∧ (Q (C v0.toNat 11) C))) ∧ (¬ v1 ≤ v2 → (okO n v0 4 ∧ (P_Se_tryOrder n C v0 v2 (fun (r_17 : Int) (C_19 : Cn) => ∀ v2_22 : Int, v2_22 = w32 (v2 + imax 1 r_17) → (kz53 (C_19, v2_22))))))
theorem bB_Se_bestOrder_53 (n : Nat) (v0 v1 : Int) (Q : Int → Cn → Prop) (kz53 : Cn × Int → Prop) (hkz53 : ∀ (Cz : Cn) (z2 : Int), kz53 (Cz, z2) → AW p l e R s m args below meth c E M_Se_bestOrder true (fun r C2 n2 => n2 = n ∧ Q r C2) n 0 0 53 [(2, v0), (0, v1), (0, z2)] [] Cz) (C : Cn) (v2 : Int) (h : B_Se_bestOrder_53 n v0 v1 Q kz53 (C, v2)) : AW p l e R s m args below meth c E M_Se_bestOrder true (fun r C2 n2 => n2 = n ∧ Q r C2) n 0 0 53 [(2, v0), (0, v1), (0, v2)] [] C := by
  unfold B_Se_bestOrder_53 at h
  dsimp only at h
  refine AW.iload_n (dc hd_Se_bestOrder 29 rfl) rfl ?_
  refine AW.iload_n (dc hd_Se_bestOrder 30 rfl) rfl ?_
  refine AW.icmp_ge (t := 73) (dc hd_Se_bestOrder 31 rfl) (by decide) (fun c_15 => ?_) (fun c_15 => ?_)
  · have h := h.1 c_15
    refine AW.ra_n (dc hd_Se_bestOrder 41 rfl) rfl rfl rfl ?_
    obtain ⟨g_16, h⟩ := h
    refine AW.getf fl_4_27 (dc hd_Se_bestOrder 42 rfl) g_16 ?_
    exact AW.iret (dc hd_Se_bestOrder 43 rfl) rfl rfl (Nat.le_of_ble_eq_true rfl) (Nat.le_of_ble_eq_true rfl) ⟨rfl, h⟩
  · have h := h.2 c_15
    refine AW.iload_n (dc hd_Se_bestOrder 32 rfl) rfl ?_
    refine AW.iconst (dc hd_Se_bestOrder 33 rfl) (by decide) ?_
    refine AW.ra_n (dc hd_Se_bestOrder 34 rfl) rfl rfl rfl ?_
    refine AW.iload_n (dc hd_Se_bestOrder 35 rfl) rfl ?_
    obtain ⟨g_18, h⟩ := h
    refine AW.callV (As := [(0, v2)]) (rest := [(0, 1), (0, v2)]) (ci := 4) (m_Se_tryOrder l E n C v0 v2 _ h) cb_4_130 im_Se_tryOrder se_Se_tryOrder ⟨_, _, rfl⟩ (by decide) (dc hd_Se_bestOrder 36 rfl) g_18 rfl rfl ⟨Nat.le_of_ble_eq_true rfl, Nat.le_of_ble_eq_true rfl⟩ ⟨(Nat.le_of_ble_eq_true rfl), (Nat.le_of_ble_eq_true rfl)⟩ (Nat.le_of_ble_eq_true rfl) (fun _ h => by cases h) (fun _ => rfl) (fun r_17 C_19 d_21 q_20 => ?_)
    obtain ⟨q_20a, h⟩ := q_20
    subst d_21
    show AW p l e _ s m args below meth c E M_Se_bestOrder true _ n _ _ _ [(2, v0), (0, v1), (0, v2)] [(0, r_17), (0, 1), (0, v2)] C_19
    refine AW.mmax (dc hd_Se_bestOrder 37 rfl) mt_4_97 (Nat.le_of_ble_eq_true rfl) (Nat.le_of_ble_eq_true rfl) (Nat.le_of_ble_eq_true rfl) (Nat.le_of_ble_eq_true rfl) (Nat.le_of_ble_eq_true rfl) ?_
    refine AW.iadd (dc hd_Se_bestOrder 38 rfl) ?_
    refine AW.nm (fun v2_22 ev2_22 => ?_)
    have h := h v2_22 ev2_22
    refine AW.istore_n [(2, v0), (0, v1), (0, v2_22)] (dc hd_Se_bestOrder 39 rfl) (Nat.le_of_ble_eq_true rfl) rfl rfl ?_
    refine AW.goto (t := 53) (dc hd_Se_bestOrder 40 rfl) (by decide) ?_
    exact hkz53 C_19 v2_22 h
theorem aB_Se_bestOrder_53 (n : Nat) (v0 v1 : Int) (Q : Int → Cn → Prop) : ∀ (f : Nat) (z : Cn × Int), lp (B_Se_bestOrder_53 n v0 v1 Q) f z → AW p l e R s m args below meth c E M_Se_bestOrder true (fun r C2 n2 => n2 = n ∧ Q r C2) n 0 0 53 [(2, v0), (0, v1), (0, z.2)] [] (z.1) := by
  intro f
  induction f with
  | zero => intro z h; exact False.elim h
  | succ f ih => intro z h; exact bB_Se_bestOrder_53 n v0 v1 Q (lp (B_Se_bestOrder_53 n v0 v1 Q) f) (fun a0 a1 h => ih (a0, a1) h) z.1 z.2 h
def P_Se_bestOrder (n : Nat) (C : Cn) (v0 : Int) (Q : Int → Cn → Prop) : Prop :=
  okO n v0 4 ∧ ((C v0.toNat 11 = (-1) → (∀ C_3 : Cn, C_3 = wr C v0.toNat 11 0 → (∀ C_4 : Cn, C_4 = wr C_3 v0.toNat 12 2147483647 → (∀ C_5 : Cn, C_5 = wr C_4 v0.toNat 13 2147483647 → (∀ C_6 : Cn, C_6 = wr C_5 v0.toNat 16 0 → (P_Se_learnSteps n C_6 v0 (fun (_ : Int) (C_7 : Cn) => okO n (PT v0.toNat 0) 2 ∧ (0 ≤ C_7 (PT v0.toNat 0).toNat 0 ∧ (C_7 (PT v0.toNat 0).toNat 0 < SAL 0 ∧ (∀ v1_14 : Int, v1_14 = ((SAV 0).getD (C_7 (PT v0.toNat 0).toNat 0).toNat 0).toInt → (∃ f_23 : Nat, lp (B_Se_bestOrder_53 n v0 v1_14 Q) f_23 (C_7, 0)))))))))))) ∧ (¬ C v0.toNat 11 = (-1) → (Q (C v0.toNat 11) C)))
theorem m_Se_bestOrder (l : Launch) (E : Ev) (n : Nat) (C : Cn) (v0 : Int) (Q : Int → Cn → Prop) (h : P_Se_bestOrder n C v0 Q) : MA l y_Se_bestOrder M_Se_bestOrder E true C n [(2, v0)] (fun r C2 n2 => n2 = n ∧ Q r C2) := by
  refine MA.of (by decide) rfl rfl 2 rfl (fun p e s m args below meth c => ?_)
  show AW p l e _ s m args below meth c E M_Se_bestOrder true _ n 0 0 0 [(2, v0), (9, 0), (9, 0)] [] C
  unfold P_Se_bestOrder at h
  refine AW.ra_n (dc hd_Se_bestOrder 0 rfl) rfl rfl rfl ?_
  obtain ⟨g_1, h⟩ := h
  refine AW.getf fl_4_27 (dc hd_Se_bestOrder 1 rfl) g_1 ?_
  refine AW.iconst (dc hd_Se_bestOrder 2 rfl) (by decide) ?_
  refine AW.icmp_eq (t := 13) (dc hd_Se_bestOrder 3 rfl) (by decide) (fun c_2 => ?_) (fun c_2 => ?_)
  · have h := h.1 c_2
    refine AW.ra_n (dc hd_Se_bestOrder 7 rfl) rfl rfl rfl ?_
    refine AW.iconst (dc hd_Se_bestOrder 8 rfl) (by decide) ?_
    refine AW.nputI fl_4_27 (dc hd_Se_bestOrder 9 rfl) g_1 (fun C_3 eC_3 => ?_)
    have h := h C_3 eC_3
    refine AW.ra_n (dc hd_Se_bestOrder 10 rfl) rfl rfl rfl ?_
    refine AW.ldc (v := 2147483647) (dc hd_Se_bestOrder 11 rfl) ck_4_117 (by decide) rfl ?_
    refine AW.nputI fl_4_118 (dc hd_Se_bestOrder 12 rfl) g_1 (fun C_4 eC_4 => ?_)
    have h := h C_4 eC_4
    refine AW.ra_n (dc hd_Se_bestOrder 13 rfl) rfl rfl rfl ?_
    refine AW.ldc (v := 2147483647) (dc hd_Se_bestOrder 14 rfl) ck_4_117 (by decide) rfl ?_
    refine AW.nputI fl_4_121 (dc hd_Se_bestOrder 15 rfl) g_1 (fun C_5 eC_5 => ?_)
    have h := h C_5 eC_5
    refine AW.ra_n (dc hd_Se_bestOrder 16 rfl) rfl rfl rfl ?_
    refine AW.iconst (dc hd_Se_bestOrder 17 rfl) (by decide) ?_
    refine AW.nputI fl_4_124 (dc hd_Se_bestOrder 18 rfl) g_1 (fun C_6 eC_6 => ?_)
    have h := h C_6 eC_6
    refine AW.ra_n (dc hd_Se_bestOrder 19 rfl) rfl rfl rfl ?_
    refine AW.callV (As := []) (rest := []) (ci := 4) (m_Se_learnSteps l E n C_6 v0 _ h) cb_4_127 im_Se_learnSteps se_Se_learnSteps ⟨_, _, rfl⟩ (by decide) (dc hd_Se_bestOrder 20 rfl) g_1 rfl rfl ⟨Nat.le_of_ble_eq_true rfl, Nat.le_of_ble_eq_true rfl⟩ ⟨(Nat.le_of_ble_eq_true rfl), (Nat.le_of_ble_eq_true rfl)⟩ (Nat.le_of_ble_eq_true rfl) (fun _ h => by cases h) (fun _ => rfl) (fun u_9 C_7 d_10 q_8 => ?_)
    obtain ⟨q_8a, h⟩ := q_8
    subst d_10
    show AW p l e _ s m args below meth c E M_Se_bestOrder true _ n _ _ _ [(2, v0), (9, 0), (9, 0)] [] C_7
    refine AW.gets (t := 0) gs_4_68 (Or.inl ⟨rfl, rfl, rfl⟩) (dc hd_Se_bestOrder 21 rfl) ?_
    refine AW.ra_n (dc hd_Se_bestOrder 22 rfl) rfl rfl rfl ?_
    refine AW.getp fl_4_40 (dc hd_Se_bestOrder 23 rfl) g_1 rfl ?_
    obtain ⟨g_11, h⟩ := h
    refine AW.getf fl_4_49 (dc hd_Se_bestOrder 24 rfl) g_11 ?_
    obtain ⟨g_12, h⟩ := h
    obtain ⟨g_13, h⟩ := h
    refine AW.sald (t := 0) (by decide) (dc hd_Se_bestOrder 25 rfl) g_12 g_13 ?_
    refine AW.nm (fun v1_14 ev1_14 => ?_)
    have h := h v1_14 ev1_14
    refine AW.istore_n [(2, v0), (0, v1_14), (9, 0)] (dc hd_Se_bestOrder 26 rfl) (Nat.le_of_ble_eq_true rfl) rfl rfl ?_
    refine AW.iconst (dc hd_Se_bestOrder 27 rfl) (by decide) ?_
    refine AW.istore_n [(2, v0), (0, v1_14), (0, 0)] (dc hd_Se_bestOrder 28 rfl) (Nat.le_of_ble_eq_true rfl) rfl rfl ?_
    obtain ⟨f_23, h⟩ := h
    exact aB_Se_bestOrder_53 n v0 v1_14 Q f_23 (C_7, 0) h
  · have h := h.2 c_2
    refine AW.ra_n (dc hd_Se_bestOrder 4 rfl) rfl rfl rfl ?_
    refine AW.getf fl_4_27 (dc hd_Se_bestOrder 5 rfl) g_1 ?_
    exact AW.iret (dc hd_Se_bestOrder 6 rfl) rfl rfl (Nat.le_of_ble_eq_true rfl) (Nat.le_of_ble_eq_true rfl) ⟨rfl, h⟩
def J_Sh_isMissing_12 (n : Nat) (C : Cn) (s0 : Int) (Q : Int → Prop) : Prop :=
  (s0 = 0 ∨ s0 = 1) ∧ (Q s0)
theorem aJ_Sh_isMissing_12 (n : Nat) (C : Cn) (s0 : Int) (Q : Int → Prop) (h : J_Sh_isMissing_12 n C s0 Q) : AW p l e R s m args below meth c E M_Sh_isMissing true (fun r C2 n2 => C2 = C ∧ n2 = n ∧ Q r) n 0 0 12 [(9, 0)] [(0, s0)] C := by
  unfold J_Sh_isMissing_12 at h
  obtain ⟨g_3, h⟩ := h
  exact AW.zret (dc hd_Sh_isMissing 6 rfl) rfl rfl (Nat.le_of_ble_eq_true rfl) (Nat.le_of_ble_eq_true rfl) g_3 ⟨rfl, rfl, h⟩
def P_Sh_isMissing (n : Nat) (C : Cn) (v0 : Int) (Q : Int → Prop) : Prop :=
  okO n v0 5 ∧ (J_Sh_isMissing_12 n C (if 0 ≤ C v0.toNat 0 then 0 else 1) Q)
theorem m_Sh_isMissing (l : Launch) (E : Ev) (n : Nat) (C : Cn) (v0 : Int) (Q : Int → Prop) (h : P_Sh_isMissing n C v0 Q) : MA l y_Sh_isMissing M_Sh_isMissing E true C n [(2, v0)] (fun r C2 n2 => C2 = C ∧ n2 = n ∧ Q r) := by
  refine MA.of (by decide) rfl rfl 0 rfl (fun p e s m args below meth c => ?_)
  show AW p l e _ s m args below meth c E M_Sh_isMissing true _ n 0 0 0 [(2, v0)] [] C
  unfold P_Sh_isMissing at h
  refine AW.ra_n (dc hd_Sh_isMissing 0 rfl) rfl rfl rfl ?_
  obtain ⟨g_1, h⟩ := h
  refine AW.getf fl_5_9 (dc hd_Sh_isMissing 1 rfl) g_1 ?_
  refine AW.if_ge (t := 11) (dc hd_Sh_isMissing 2 rfl) (by decide) (fun c_2 => ?_) (fun c_2 => ?_)
  · simp only [if_pos (show 0 ≤ C v0.toNat 0 from c_2)] at h
    refine AW.iconst (dc hd_Sh_isMissing 5 rfl) (by decide) ?_
    refine AW.fgt [(9, 0)] ⟨.inr rfl, trivial⟩ ?_
    exact aJ_Sh_isMissing_12 n C _ Q h
  · simp only [if_neg (show ¬ (0 ≤ C v0.toNat 0) from c_2)] at h
    refine AW.iconst (dc hd_Sh_isMissing 3 rfl) (by decide) ?_
    refine AW.goto (t := 12) (dc hd_Sh_isMissing 4 rfl) (by decide) ?_
    refine AW.fgt [(9, 0)] ⟨.inr rfl, trivial⟩ ?_
    exact aJ_Sh_isMissing_12 n C _ Q h
def B_Sh_begin_12 (n : Nat) (v0 : Int) (Q : Int → Cn → Prop) (kz12 : Cn × Int → Prop) (z : Cn × Int) : Prop := match z with
  | (C, v3) => (40 ≤ v3 → (Q 0 C)) ∧ (¬ 40 ≤ v3 → (okO n v0 5 ∧ (okO n (PT v0.toNat 2) 13 ∧ (okI (PT v0.toNat 2) v3 ∧ (∀ C_8 : Cn, C_8 = wr C (PT v0.toNat 2).toNat v3.toNat 0 → (kz12 (C_8, w32 (v3 + 1))))))))
theorem bB_Sh_begin_12 (n : Nat) (v0 : Int) (Q : Int → Cn → Prop) (kz12 : Cn × Int → Prop) (hkz12 : ∀ (Cz : Cn) (z3 : Int), kz12 (Cz, z3) → AW p l e R s m args below meth c E M_Sh_begin true (fun r C2 n2 => n2 = n ∧ Q r C2) n 0 0 12 [(2, v0), (9, 0), (9, 0), (0, z3)] [] Cz) (C : Cn) (v3 : Int) (h : B_Sh_begin_12 n v0 Q kz12 (C, v3)) : AW p l e R s m args below meth c E M_Sh_begin true (fun r C2 n2 => n2 = n ∧ Q r C2) n 0 0 12 [(2, v0), (9, 0), (9, 0), (0, v3)] [] C := by
  unfold B_Sh_begin_12 at h
  dsimp only at h
  refine AW.iload_n (dc hd_Sh_begin 8 rfl) rfl ?_
  refine AW.bipush (dc hd_Sh_begin 9 rfl) (by decide) (by decide +kernel) ?_
  refine AW.icmp_ge (t := 31) (dc hd_Sh_begin 10 rfl) (by decide) (fun c_4 => ?_) (fun c_4 => ?_)
  · have h := h.1 c_4
    exact AW.vret (dc hd_Sh_begin 18 rfl) rfl rfl (Nat.le_of_ble_eq_true rfl) (Nat.le_of_ble_eq_true rfl) ⟨rfl, h⟩
  · have h := h.2 c_4
    refine AW.ra_n (dc hd_Sh_begin 11 rfl) rfl rfl rfl ?_
    obtain ⟨g_5, h⟩ := h
    refine AW.getp fl_5_15 (dc hd_Sh_begin 12 rfl) g_5 rfl ?_
    refine AW.iload_n (dc hd_Sh_begin 13 rfl) rfl ?_
    refine AW.lconst (v := 0) (dc hd_Sh_begin 14 rfl) (by decide) (by decide +kernel) ?_
    obtain ⟨g_6, h⟩ := h
    obtain ⟨g_7, h⟩ := h
    refine AW.nlast (dc hd_Sh_begin 15 rfl) g_6 g_7 (fun C_8 eC_8 => ?_)
    have h := h C_8 eC_8
    refine AW.iinc [(2, v0), (9, 0), (9, 0), (0, w32 (v3 + 1))] (dc hd_Sh_begin 16 rfl) rfl (Nat.le_of_ble_eq_true rfl) rfl rfl ?_
    refine AW.goto (t := 12) (dc hd_Sh_begin 17 rfl) (by decide) ?_
    exact hkz12 C_8 (w32 (v3 + 1)) h
theorem aB_Sh_begin_12 (n : Nat) (v0 : Int) (Q : Int → Cn → Prop) : ∀ (f : Nat) (z : Cn × Int), lp (B_Sh_begin_12 n v0 Q) f z → AW p l e R s m args below meth c E M_Sh_begin true (fun r C2 n2 => n2 = n ∧ Q r C2) n 0 0 12 [(2, v0), (9, 0), (9, 0), (0, z.2)] [] (z.1) := by
  intro f
  induction f with
  | zero => intro z h; exact False.elim h
  | succ f ih => intro z h; exact bB_Sh_begin_12 n v0 Q (lp (B_Sh_begin_12 n v0 Q) f) (fun a0 a1 h => ih (a0, a1) h) z.1 z.2 h
def P_Sh_begin (n : Nat) (C : Cn) (v0 v1 v2 : Int) (Q : Int → Cn → Prop) : Prop :=
  okO n v0 5 ∧ (∀ C_2 : Cn, C_2 = wr C v0.toNat 0 v1 → (∀ C_3 : Cn, C_3 = wr C_2 v0.toNat 1 v2 → (∃ f_9 : Nat, lp (B_Sh_begin_12 n v0 Q) f_9 (C_3, 0))))
theorem m_Sh_begin (l : Launch) (E : Ev) (n : Nat) (C : Cn) (v0 v1 v2 : Int) (Q : Int → Cn → Prop) (h : P_Sh_begin n C v0 v1 v2 Q) : MA l y_Sh_begin M_Sh_begin E true C n [(2, v0), (0, v1), (0, v2)] (fun r C2 n2 => n2 = n ∧ Q r C2) := by
  refine MA.of (by decide) rfl rfl 1 rfl (fun p e s m args below meth c => ?_)
  show AW p l e _ s m args below meth c E M_Sh_begin true _ n 0 0 0 [(2, v0), (0, v1), (0, v2), (9, 0)] [] C
  unfold P_Sh_begin at h
  refine AW.ra_n (dc hd_Sh_begin 0 rfl) rfl rfl rfl ?_
  refine AW.iload_n (dc hd_Sh_begin 1 rfl) rfl ?_
  obtain ⟨g_1, h⟩ := h
  refine AW.nputI fl_5_9 (dc hd_Sh_begin 2 rfl) g_1 (fun C_2 eC_2 => ?_)
  have h := h C_2 eC_2
  refine AW.ra_n (dc hd_Sh_begin 3 rfl) rfl rfl rfl ?_
  refine AW.iload_n (dc hd_Sh_begin 4 rfl) rfl ?_
  refine AW.nputI fl_5_19 (dc hd_Sh_begin 5 rfl) g_1 (fun C_3 eC_3 => ?_)
  have h := h C_3 eC_3
  refine AW.iconst (dc hd_Sh_begin 6 rfl) (by decide) ?_
  refine AW.istore_n [(2, v0), (0, v1), (0, v2), (0, 0)] (dc hd_Sh_begin 7 rfl) (Nat.le_of_ble_eq_true rfl) rfl rfl ?_
  obtain ⟨f_9, h⟩ := h
  refine AW.fgt [(2, v0), (9, 0), (9, 0), (0, 0)] ⟨.inl rfl, .inr rfl, .inr rfl, .inl rfl, trivial⟩ ?_
  exact aB_Sh_begin_12 n v0 Q f_9 (C_3, 0) h
def J_Sh_has_31 (n : Nat) (C : Cn) (s0 : Int) (Q : Int → Prop) : Prop :=
  (s0 = 0 ∨ s0 = 1) ∧ (Q s0)
theorem aJ_Sh_has_31 (n : Nat) (C : Cn) (s0 : Int) (Q : Int → Prop) (h : J_Sh_has_31 n C s0 Q) : AW p l e R s m args below meth c E M_Sh_has true (fun r C2 n2 => C2 = C ∧ n2 = n ∧ Q r) n 0 0 31 [(9, 0), (9, 0), (9, 0)] [(0, s0)] C := by
  unfold J_Sh_has_31 at h
  obtain ⟨g_7, h⟩ := h
  exact AW.zret (dc hd_Sh_has 17 rfl) rfl rfl (Nat.le_of_ble_eq_true rfl) (Nat.le_of_ble_eq_true rfl) g_7 ⟨rfl, rfl, h⟩
def P_Sh_has (n : Nat) (C : Cn) (v0 v1 v2 : Int) (Q : Int → Prop) : Prop :=
  (v1 < 0 → (Q 0)) ∧ (¬ v1 < 0 → ((v2 < 0 → (Q 0)) ∧ (¬ v2 < 0 → (okO n v0 5 ∧ (J_Sh_has_31 n C (if C v0.toNat 1 < v1 then 0 else (if w32 (C v0.toNat 1 - v1) < v2 then 0 else 1)) Q)))))
theorem m_Sh_has (l : Launch) (E : Ev) (n : Nat) (C : Cn) (v0 v1 v2 : Int) (Q : Int → Prop) (h : P_Sh_has n C v0 v1 v2 Q) : MA l y_Sh_has M_Sh_has E true C n [(2, v0), (0, v1), (0, v2)] (fun r C2 n2 => C2 = C ∧ n2 = n ∧ Q r) := by
  refine MA.of (by decide) rfl rfl 0 rfl (fun p e s m args below meth c => ?_)
  show AW p l e _ s m args below meth c E M_Sh_has true _ n 0 0 0 [(2, v0), (0, v1), (0, v2)] [] C
  unfold P_Sh_has at h
  refine AW.iload_n (dc hd_Sh_has 0 rfl) rfl ?_
  refine AW.if_lt (t := 30) (dc hd_Sh_has 1 rfl) (by decide) (fun c_1 => ?_) (fun c_1 => ?_)
  · have h := h.1 c_1
    refine AW.iconst (dc hd_Sh_has 16 rfl) (by decide) ?_
    exact AW.zret (dc hd_Sh_has 17 rfl) rfl rfl (Nat.le_of_ble_eq_true rfl) (Nat.le_of_ble_eq_true rfl) (by decide) ⟨rfl, rfl, h⟩
  · have h := h.2 c_1
    refine AW.iload_n (dc hd_Sh_has 2 rfl) rfl ?_
    refine AW.if_lt (t := 30) (dc hd_Sh_has 3 rfl) (by decide) (fun c_3 => ?_) (fun c_3 => ?_)
    · have h := h.1 c_3
      refine AW.iconst (dc hd_Sh_has 16 rfl) (by decide) ?_
      exact AW.zret (dc hd_Sh_has 17 rfl) rfl rfl (Nat.le_of_ble_eq_true rfl) (Nat.le_of_ble_eq_true rfl) (by decide) ⟨rfl, rfl, h⟩
    · have h := h.2 c_3
      refine AW.iload_n (dc hd_Sh_has 4 rfl) rfl ?_
      refine AW.ra_n (dc hd_Sh_has 5 rfl) rfl rfl rfl ?_
      obtain ⟨g_4, h⟩ := h
      refine AW.getf fl_5_19 (dc hd_Sh_has 6 rfl) g_4 ?_
      refine AW.icmp_gt (t := 30) (dc hd_Sh_has 7 rfl) (by decide) (fun c_5 => ?_) (fun c_5 => ?_)
      · simp only [if_pos (show C v0.toNat 1 < v1 from c_5)] at h
        refine AW.iconst (dc hd_Sh_has 16 rfl) (by decide) ?_
        refine AW.fgt [(9, 0), (9, 0), (9, 0)] ⟨.inr rfl, .inr rfl, .inr rfl, trivial⟩ ?_
        exact aJ_Sh_has_31 n C _ Q h
      · simp only [if_neg (show ¬ (C v0.toNat 1 < v1) from c_5)] at h
        refine AW.iload_n (dc hd_Sh_has 8 rfl) rfl ?_
        refine AW.ra_n (dc hd_Sh_has 9 rfl) rfl rfl rfl ?_
        refine AW.getf fl_5_19 (dc hd_Sh_has 10 rfl) g_4 ?_
        refine AW.iload_n (dc hd_Sh_has 11 rfl) rfl ?_
        refine AW.isub (dc hd_Sh_has 12 rfl) ?_
        refine AW.icmp_gt (t := 30) (dc hd_Sh_has 13 rfl) (by decide) (fun c_6 => ?_) (fun c_6 => ?_)
        · simp only [if_pos (show w32 (C v0.toNat 1 - v1) < v2 from c_6)] at h
          refine AW.iconst (dc hd_Sh_has 16 rfl) (by decide) ?_
          refine AW.fgt [(9, 0), (9, 0), (9, 0)] ⟨.inr rfl, .inr rfl, .inr rfl, trivial⟩ ?_
          exact aJ_Sh_has_31 n C _ Q h
        · simp only [if_neg (show ¬ (w32 (C v0.toNat 1 - v1) < v2) from c_6)] at h
          refine AW.iconst (dc hd_Sh_has 14 rfl) (by decide) ?_
          refine AW.goto (t := 31) (dc hd_Sh_has 15 rfl) (by decide) ?_
          refine AW.fgt [(9, 0), (9, 0), (9, 0)] ⟨.inr rfl, .inr rfl, .inr rfl, trivial⟩ ?_
          exact aJ_Sh_has_31 n C _ Q h
def J_Sh_put_34 (n : Nat) (C : Cn) (s0 s1 s2 : Int) (Q : Int → Cn → Prop) : Prop :=
  okO n s0 13 ∧ (okI s0 s1 ∧ (∀ C_6 : Cn, C_6 = wr C s0.toNat s1.toNat s2 → (Q 0 C_6)))
theorem aJ_Sh_put_34 (n : Nat) (C : Cn) (s0 s1 s2 : Int) (Q : Int → Cn → Prop) (h : J_Sh_put_34 n C s0 s1 s2 Q) : AW p l e R s m args below meth c E M_Sh_put true (fun r C2 n2 => n2 = n ∧ Q r C2) n 0 0 34 [(9, 0), (9, 0), (9, 0), (9, 0)] [(1, s2), (0, s1), (2, s0)] C := by
  unfold J_Sh_put_34 at h
  obtain ⟨g_4, h⟩ := h
  obtain ⟨g_5, h⟩ := h
  refine AW.nlast (dc hd_Sh_put 20 rfl) g_4 g_5 (fun C_6 eC_6 => ?_)
  have h := h C_6 eC_6
  exact AW.vret (dc hd_Sh_put 21 rfl) rfl rfl (Nat.le_of_ble_eq_true rfl) (Nat.le_of_ble_eq_true rfl) ⟨rfl, h⟩
def P_Sh_put (n : Nat) (C : Cn) (v0 v1 v2 : Int) (Q : Int → Cn → Prop) : Prop :=
  okO n v0 5 ∧ (J_Sh_put_34 n C (PT v0.toNat 2) v1 (if C v0.toNat 0 = 0 then w8 (w32 v2) else (if C v0.toNat 0 = 1 then w32 v2 else v2)) Q)
theorem m_Sh_put (l : Launch) (E : Ev) (n : Nat) (C : Cn) (v0 v1 v2 : Int) (Q : Int → Cn → Prop) (h : P_Sh_put n C v0 v1 v2 Q) : MA l y_Sh_put M_Sh_put E true C n [(2, v0), (0, v1), (1, v2)] (fun r C2 n2 => n2 = n ∧ Q r C2) := by
  refine MA.of (by decide) rfl rfl 0 rfl (fun p e s m args below meth c => ?_)
  show AW p l e _ s m args below meth c E M_Sh_put true _ n 0 0 0 [(2, v0), (0, v1), (1, v2), (9, 0)] [] C
  unfold P_Sh_put at h
  refine AW.ra_n (dc hd_Sh_put 0 rfl) rfl rfl rfl ?_
  obtain ⟨g_1, h⟩ := h
  refine AW.getp fl_5_15 (dc hd_Sh_put 1 rfl) g_1 rfl ?_
  refine AW.iload_n (dc hd_Sh_put 2 rfl) rfl ?_
  refine AW.ra_n (dc hd_Sh_put 3 rfl) rfl rfl rfl ?_
  refine AW.getf fl_5_9 (dc hd_Sh_put 4 rfl) g_1 ?_
  refine AW.if_ne (t := 19) (dc hd_Sh_put 5 rfl) (by decide) (fun c_2 => ?_) (fun c_2 => ?_)
  · simp only [if_neg (show ¬ (C v0.toNat 0 = 0) from c_2)] at h
    refine AW.ra_n (dc hd_Sh_put 11 rfl) rfl rfl rfl ?_
    refine AW.getf fl_5_9 (dc hd_Sh_put 12 rfl) g_1 ?_
    refine AW.iconst (dc hd_Sh_put 13 rfl) (by decide) ?_
    refine AW.icmp_ne (t := 33) (dc hd_Sh_put 14 rfl) (by decide) (fun c_3 => ?_) (fun c_3 => ?_)
    · simp only [if_neg (show ¬ (C v0.toNat 0 = 1) from c_3)] at h
      refine AW.lload_n (dc hd_Sh_put 19 rfl) rfl ?_
      refine AW.fgt [(9, 0), (9, 0), (9, 0), (9, 0)] ⟨.inr rfl, .inr rfl, .inr rfl, .inl rfl, trivial⟩ ?_
      exact aJ_Sh_put_34 n C _ _ _ Q h
    · simp only [if_pos (show C v0.toNat 0 = 1 from c_3)] at h
      refine AW.lload_n (dc hd_Sh_put 15 rfl) rfl ?_
      refine AW.l2i (dc hd_Sh_put 16 rfl) ?_
      refine AW.i2l (dc hd_Sh_put 17 rfl) ?_
      refine AW.goto (t := 34) (dc hd_Sh_put 18 rfl) (by decide) ?_
      refine AW.fgt [(9, 0), (9, 0), (9, 0), (9, 0)] ⟨.inr rfl, .inr rfl, .inr rfl, .inl rfl, trivial⟩ ?_
      exact aJ_Sh_put_34 n C _ _ _ Q h
  · simp only [if_pos (show C v0.toNat 0 = 0 from c_2)] at h
    refine AW.lload_n (dc hd_Sh_put 6 rfl) rfl ?_
    refine AW.l2i (dc hd_Sh_put 7 rfl) ?_
    refine AW.i2b (dc hd_Sh_put 8 rfl) ?_
    refine AW.i2l (dc hd_Sh_put 9 rfl) ?_
    refine AW.goto (t := 34) (dc hd_Sh_put 10 rfl) (by decide) ?_
    refine AW.fgt [(9, 0), (9, 0), (9, 0), (9, 0)] ⟨.inr rfl, .inr rfl, .inr rfl, .inl rfl, trivial⟩ ?_
    exact aJ_Sh_put_34 n C _ _ _ Q h
def P_Sp_fill (n : Nat) (C : Cn) (v0 v1 v2 v3 : Int) (Q : Int → Cn → Prop) : Prop :=
  okO n v0 6 ∧ (okO n (PT v0.toNat 0) 12 ∧ (okI (PT v0.toNat 0) v1 ∧ (∀ C_4 : Cn, C_4 = wr C (PT v0.toNat 0).toNat v1.toNat v2 → (okO n (PT v0.toNat 1) 12 ∧ (okI (PT v0.toNat 1) v1 ∧ (∀ C_7 : Cn, C_7 = wr C_4 (PT v0.toNat 1).toNat v1.toNat v3 → (Q 0 C_7)))))))
theorem m_Sp_fill (l : Launch) (E : Ev) (n : Nat) (C : Cn) (v0 v1 v2 v3 : Int) (Q : Int → Cn → Prop) (h : P_Sp_fill n C v0 v1 v2 v3 Q) : MA l y_Sp_fill M_Sp_fill E true C n [(2, v0), (0, v1), (0, v2), (0, v3)] (fun r C2 n2 => n2 = n ∧ Q r C2) := by
  refine MA.of (by decide) rfl rfl 0 rfl (fun p e s m args below meth c => ?_)
  show AW p l e _ s m args below meth c E M_Sp_fill true _ n 0 0 0 [(2, v0), (0, v1), (0, v2), (0, v3)] [] C
  unfold P_Sp_fill at h
  refine AW.ra_n (dc hd_Sp_fill 0 rfl) rfl rfl rfl ?_
  obtain ⟨g_1, h⟩ := h
  refine AW.getp fl_6_9 (dc hd_Sp_fill 1 rfl) g_1 rfl ?_
  refine AW.iload_n (dc hd_Sp_fill 2 rfl) rfl ?_
  refine AW.iload_n (dc hd_Sp_fill 3 rfl) rfl ?_
  obtain ⟨g_2, h⟩ := h
  obtain ⟨g_3, h⟩ := h
  refine AW.niast (dc hd_Sp_fill 4 rfl) g_2 g_3 (fun C_4 eC_4 => ?_)
  have h := h C_4 eC_4
  refine AW.ra_n (dc hd_Sp_fill 5 rfl) rfl rfl rfl ?_
  refine AW.getp fl_6_15 (dc hd_Sp_fill 6 rfl) g_1 rfl ?_
  refine AW.iload_n (dc hd_Sp_fill 7 rfl) rfl ?_
  refine AW.iload_n (dc hd_Sp_fill 8 rfl) rfl ?_
  obtain ⟨g_5, h⟩ := h
  obtain ⟨g_6, h⟩ := h
  refine AW.niast (dc hd_Sp_fill 9 rfl) g_5 g_6 (fun C_7 eC_7 => ?_)
  have h := h C_7 eC_7
  exact AW.vret (dc hd_Sp_fill 10 rfl) rfl rfl (Nat.le_of_ble_eq_true rfl) (Nat.le_of_ble_eq_true rfl) ⟨rfl, h⟩
def J_Sp_isFull_42 (n : Nat) (C : Cn) (s0 : Int) (Q : Int → Prop) : Prop :=
  (s0 = 0 ∨ s0 = 1) ∧ (Q s0)
theorem aJ_Sp_isFull_42 (n : Nat) (C : Cn) (s0 : Int) (Q : Int → Prop) (h : J_Sp_isFull_42 n C s0 Q) : AW p l e R s m args below meth c E M_Sp_isFull true (fun r C2 n2 => C2 = C ∧ n2 = n ∧ Q r) n 0 0 42 [(9, 0), (9, 0), (9, 0)] [(0, s0)] C := by
  unfold J_Sp_isFull_42 at h
  obtain ⟨g_6, h⟩ := h
  exact AW.zret (dc hd_Sp_isFull 24 rfl) rfl rfl (Nat.le_of_ble_eq_true rfl) (Nat.le_of_ble_eq_true rfl) g_6 ⟨rfl, rfl, h⟩
def P_Sp_isFull (n : Nat) (C : Cn) (v0 v1 v2 : Int) (Q : Int → Prop) : Prop :=
  okO n v0 6 ∧ (okO n (PT v0.toNat 0) 12 ∧ (okI (PT v0.toNat 0) v1 ∧ ((C (PT v0.toNat 0).toNat v1.toNat = 3 → (okO n (PT v0.toNat 1) 12 ∧ (okI (PT v0.toNat 1) v1 ∧ (J_Sp_isFull_42 n C (if v2 ≤ C (PT v0.toNat 1).toNat v1.toNat then 0 else 1) Q)))) ∧ (¬ C (PT v0.toNat 0).toNat v1.toNat = 3 → (J_Sp_isFull_42 n C (if C (PT v0.toNat 0).toNat v1.toNat = 0 then 0 else 1) Q)))))
theorem m_Sp_isFull (l : Launch) (E : Ev) (n : Nat) (C : Cn) (v0 v1 v2 : Int) (Q : Int → Prop) (h : P_Sp_isFull n C v0 v1 v2 Q) : MA l y_Sp_isFull M_Sp_isFull E true C n [(2, v0), (0, v1), (0, v2)] (fun r C2 n2 => C2 = C ∧ n2 = n ∧ Q r) := by
  refine MA.of (by decide) rfl rfl 0 rfl (fun p e s m args below meth c => ?_)
  show AW p l e _ s m args below meth c E M_Sp_isFull true _ n 0 0 0 [(2, v0), (0, v1), (0, v2)] [] C
  unfold P_Sp_isFull at h
  refine AW.ra_n (dc hd_Sp_isFull 0 rfl) rfl rfl rfl ?_
  obtain ⟨g_1, h⟩ := h
  refine AW.getp fl_6_9 (dc hd_Sp_isFull 1 rfl) g_1 rfl ?_
  refine AW.iload_n (dc hd_Sp_isFull 2 rfl) rfl ?_
  obtain ⟨g_2, h⟩ := h
  obtain ⟨g_3, h⟩ := h
  refine AW.iald (dc hd_Sp_isFull 3 rfl) g_2 g_3 ?_
  refine AW.iconst (dc hd_Sp_isFull 4 rfl) (by decide) ?_
  refine AW.icmp_ne (t := 28) (dc hd_Sp_isFull 5 rfl) (by decide) (fun c_4 => ?_) (fun c_4 => ?_)
  · have h := h.2 c_4
    refine AW.ra_n (dc hd_Sp_isFull 16 rfl) rfl rfl rfl ?_
    refine AW.getp fl_6_9 (dc hd_Sp_isFull 17 rfl) g_1 rfl ?_
    refine AW.iload_n (dc hd_Sp_isFull 18 rfl) rfl ?_
    refine AW.iald (dc hd_Sp_isFull 19 rfl) g_2 g_3 ?_
    refine AW.if_eq (t := 41) (dc hd_Sp_isFull 20 rfl) (by decide) (fun c_5 => ?_) (fun c_5 => ?_)
    · simp only [if_pos (show C (PT v0.toNat 0).toNat v1.toNat = 0 from c_5)] at h
      refine AW.iconst (dc hd_Sp_isFull 23 rfl) (by decide) ?_
      refine AW.fgt [(9, 0), (9, 0), (9, 0)] ⟨.inr rfl, .inr rfl, .inr rfl, trivial⟩ ?_
      exact aJ_Sp_isFull_42 n C _ Q h
    · simp only [if_neg (show ¬ (C (PT v0.toNat 0).toNat v1.toNat = 0) from c_5)] at h
      refine AW.iconst (dc hd_Sp_isFull 21 rfl) (by decide) ?_
      refine AW.goto (t := 42) (dc hd_Sp_isFull 22 rfl) (by decide) ?_
      refine AW.fgt [(9, 0), (9, 0), (9, 0)] ⟨.inr rfl, .inr rfl, .inr rfl, trivial⟩ ?_
      exact aJ_Sp_isFull_42 n C _ Q h
  · have h := h.1 c_4
    refine AW.ra_n (dc hd_Sp_isFull 6 rfl) rfl rfl rfl ?_
    refine AW.getp fl_6_15 (dc hd_Sp_isFull 7 rfl) g_1 rfl ?_
    refine AW.iload_n (dc hd_Sp_isFull 8 rfl) rfl ?_
    obtain ⟨g_7, h⟩ := h
    obtain ⟨g_8, h⟩ := h
    refine AW.iald (dc hd_Sp_isFull 9 rfl) g_7 g_8 ?_
    refine AW.iload_n (dc hd_Sp_isFull 10 rfl) rfl ?_
    refine AW.icmp_ge (t := 24) (dc hd_Sp_isFull 11 rfl) (by decide) (fun c_9 => ?_) (fun c_9 => ?_)
    · simp only [if_pos (show v2 ≤ C (PT v0.toNat 1).toNat v1.toNat from c_9)] at h
      refine AW.iconst (dc hd_Sp_isFull 14 rfl) (by decide) ?_
      refine AW.goto (t := 42) (dc hd_Sp_isFull 15 rfl) (by decide) ?_
      refine AW.fgt [(9, 0), (9, 0), (9, 0)] ⟨.inr rfl, .inr rfl, .inr rfl, trivial⟩ ?_
      exact aJ_Sp_isFull_42 n C _ Q h
    · simp only [if_neg (show ¬ (v2 ≤ C (PT v0.toNat 1).toNat v1.toNat) from c_9)] at h
      refine AW.iconst (dc hd_Sp_isFull 12 rfl) (by decide) ?_
      refine AW.goto (t := 42) (dc hd_Sp_isFull 13 rfl) (by decide) ?_
      refine AW.fgt [(9, 0), (9, 0), (9, 0)] ⟨.inr rfl, .inr rfl, .inr rfl, trivial⟩ ?_
      exact aJ_Sp_isFull_42 n C _ Q h
end
