section
variable {p : Program} {l : Launch} {e : Env} {R : Room} {s : State} {m : MethodId} {args : Array Value} {below : List Frame} {meth : Method} {c : Code} {E : Ev}
def B_F_feed_39 (n : Nat) (v0 v1 : Int) (Q : Int → Cn → Prop) (kz39 : Cn × Int → Prop) (z : Cn × Int) : Prop := match z with
  | (C, v3) => (v3 < 0 → (okO n v0 9 ∧ (okO n (PT v0.toNat 8) 3 ∧ (Q (C (PT v0.toNat 8).toNat 1) C)))) ∧ (¬ v3 < 0 → (okO n v0 9 ∧ (okO n (PT v0.toNat 8) 3 ∧ (okO n (PT (PT v0.toNat 8).toNat 0) 11 ∧ (okI (PT (PT v0.toNat 8).toNat 0) (C (PT v0.toNat 8).toNat 1) ∧ (∀ C_16 : Cn, C_16 = wr C (PT (PT v0.toNat 8).toNat 0).toNat (C (PT v0.toNat 8).toNat 1).toNat (w8 (w8 (shr32 v1 (w32 (8 * v3))))) → (∀ C_17 : Cn, C_17 = wr C_16 (PT v0.toNat 8).toNat 1 (w32 (C_16 (PT v0.toNat 8).toNat 1 + 1)) → (kz39 (C_17, w32 (v3 + (-1)))))))))))
theorem bB_F_feed_39 (n : Nat) (v0 v1 : Int) (Q : Int → Cn → Prop) (kz39 : Cn × Int → Prop) (hkz39 : ∀ (Cz : Cn) (z3 : Int), kz39 (Cz, z3) → AW p l e R s m args below meth c E M_F_feed true (fun r C2 n2 => n2 = n ∧ Q r C2) n 0 0 39 [(2, v0), (0, v1), (9, 0), (0, z3)] [] Cz) (C : Cn) (v3 : Int) (h : B_F_feed_39 n v0 v1 Q kz39 (C, v3)) : AW p l e R s m args below meth c E M_F_feed true (fun r C2 n2 => n2 = n ∧ Q r C2) n 0 0 39 [(2, v0), (0, v1), (9, 0), (0, v3)] [] C := by
  unfold B_F_feed_39 at h
  dsimp only at h
  refine AW.iload_n (dc hd_F_feed 24 rfl) rfl ?_
  refine AW.if_lt (t := 84) (dc hd_F_feed 25 rfl) (by decide) (fun c_9 => ?_) (fun c_9 => ?_)
  · have h := h.1 c_9
    refine AW.ra_n (dc hd_F_feed 48 rfl) rfl rfl rfl ?_
    obtain ⟨g_10, h⟩ := h
    refine AW.getp fl_9_58 (dc hd_F_feed 49 rfl) g_10 rfl ?_
    obtain ⟨g_11, h⟩ := h
    refine AW.getf fl_9_372 (dc hd_F_feed 50 rfl) g_11 ?_
    exact AW.iret (dc hd_F_feed 51 rfl) rfl rfl (Nat.le_of_ble_eq_true rfl) (Nat.le_of_ble_eq_true rfl) ⟨rfl, h⟩
  · have h := h.2 c_9
    refine AW.ra_n (dc hd_F_feed 26 rfl) rfl rfl rfl ?_
    obtain ⟨g_12, h⟩ := h
    refine AW.getp fl_9_58 (dc hd_F_feed 27 rfl) g_12 rfl ?_
    obtain ⟨g_13, h⟩ := h
    refine AW.getp fl_9_373 (dc hd_F_feed 28 rfl) g_13 rfl ?_
    refine AW.ra_n (dc hd_F_feed 29 rfl) rfl rfl rfl ?_
    refine AW.getp fl_9_58 (dc hd_F_feed 30 rfl) g_12 rfl ?_
    refine AW.getf fl_9_372 (dc hd_F_feed 31 rfl) g_13 ?_
    refine AW.iload_n (dc hd_F_feed 32 rfl) rfl ?_
    refine AW.bipush (dc hd_F_feed 33 rfl) (by decide) (by decide +kernel) ?_
    refine AW.iload_n (dc hd_F_feed 34 rfl) rfl ?_
    refine AW.imul (dc hd_F_feed 35 rfl) ?_
    refine AW.ishr (dc hd_F_feed 36 rfl) ?_
    refine AW.i2b (dc hd_F_feed 37 rfl) ?_
    obtain ⟨g_14, h⟩ := h
    obtain ⟨g_15, h⟩ := h
    refine AW.nbast (dc hd_F_feed 38 rfl) g_14 g_15 (fun C_16 eC_16 => ?_)
    have h := h C_16 eC_16
    refine AW.ra_n (dc hd_F_feed 39 rfl) rfl rfl rfl ?_
    refine AW.getp fl_9_58 (dc hd_F_feed 40 rfl) g_12 rfl ?_
    refine AW.rdup (dc hd_F_feed 41 rfl) rfl ?_
    refine AW.getf fl_9_372 (dc hd_F_feed 42 rfl) g_13 ?_
    refine AW.iconst (dc hd_F_feed 43 rfl) (by decide) ?_
    refine AW.iadd (dc hd_F_feed 44 rfl) ?_
    refine AW.nputI fl_9_372 (dc hd_F_feed 45 rfl) g_13 (fun C_17 eC_17 => ?_)
    have h := h C_17 eC_17
    refine AW.iinc [(2, v0), (0, v1), (9, 0), (0, w32 (v3 + (-1)))] (dc hd_F_feed 46 rfl) rfl (Nat.le_of_ble_eq_true rfl) rfl rfl ?_
    refine AW.goto (t := 39) (dc hd_F_feed 47 rfl) (by decide) ?_
    exact hkz39 C_17 (w32 (v3 + (-1))) h
theorem aB_F_feed_39 (n : Nat) (v0 v1 : Int) (Q : Int → Cn → Prop) : ∀ (f : Nat) (z : Cn × Int), lp (B_F_feed_39 n v0 v1 Q) f z → AW p l e R s m args below meth c E M_F_feed true (fun r C2 n2 => n2 = n ∧ Q r C2) n 0 0 39 [(2, v0), (0, v1), (9, 0), (0, z.2)] [] (z.1) := by
  intro f
  induction f with
  | zero => intro z h; exact False.elim h
  | succ f ih => intro z h; exact bB_F_feed_39 n v0 v1 Q (lp (B_F_feed_39 n v0 v1 Q) f) (fun a0 a1 h => ih (a0, a1) h) z.1 z.2 h
def P_F_feed (n : Nat) (C : Cn) (v0 v1 v2 : Int) (Q : Int → Cn → Prop) : Prop :=
  P_F_isIn n C v2 1 4 (fun (r_1 : Int) => (r_1 = 0 → (okO n v0 9 ∧ (P_F_tell n C v0 0 (fun (r_23 : Int) (C_25 : Cn) => Q r_23 C_25)))) ∧ (¬ r_1 = 0 → (okO n v0 9 ∧ (okO n (PT v0.toNat 8) 3 ∧ ((C (PT v0.toNat 8).toNat 1 ≤ w32 (120 - v2) → (∃ f_18 : Nat, lp (B_F_feed_39 n v0 v1 Q) f_18 (C, w32 (v2 - 1)))) ∧ (¬ C (PT v0.toNat 8).toNat 1 ≤ w32 (120 - v2) → (P_F_tell n C v0 1 (fun (r_19 : Int) (C_20 : Cn) => Q r_19 C_20))))))))
theorem m_F_feed (l : Launch) (E : Ev) (n : Nat) (C : Cn) (v0 v1 v2 : Int) (Q : Int → Cn → Prop) (h : P_F_feed n C v0 v1 v2 Q) : MA l y_F_feed M_F_feed E true C n [(2, v0), (0, v1), (0, v2)] (fun r C2 n2 => n2 = n ∧ Q r C2) := by
  refine MA.of (by decide) rfl rfl 1 rfl (fun p e s m args below meth c => ?_)
  show AW p l e _ s m args below meth c E M_F_feed true _ n 0 0 0 [(2, v0), (0, v1), (0, v2), (9, 0)] [] C
  unfold P_F_feed at h
  refine AW.iload_n (dc hd_F_feed 0 rfl) rfl ?_
  refine AW.iconst (dc hd_F_feed 1 rfl) (by decide) ?_
  refine AW.iconst (dc hd_F_feed 2 rfl) (by decide) ?_
  refine AW.callS (As := [(0, v2), (0, 1), (0, 4)]) (rest := []) (m_F_isIn l E n C v2 1 4 _ h) cb_9_167 sm_F_isIn (dc hd_F_feed 3 rfl) rfl rfl ⟨Nat.le_of_ble_eq_true rfl, Nat.le_of_ble_eq_true rfl⟩ ⟨(Nat.le_of_ble_eq_true rfl), (Nat.le_of_ble_eq_true rfl)⟩ (Nat.le_of_ble_eq_true rfl) (fun _ h => by cases h) (fun _ => rfl) (fun r_1 D_3 d_4 q_2 => ?_)
  obtain ⟨q_2a, q_2b, h⟩ := q_2
  subst D_3
  subst d_4
  show AW p l e _ s m args below meth c E M_F_feed true _ n _ _ _ [(2, v0), (0, v1), (0, v2), (9, 0)] [(0, r_1)] C
  refine AW.if_ne (t := 15) (dc hd_F_feed 4 rfl) (by decide) (fun c_5 => ?_) (fun c_5 => ?_)
  · have h := h.2 c_5
    refine AW.ra_n (dc hd_F_feed 9 rfl) rfl rfl rfl ?_
    obtain ⟨g_6, h⟩ := h
    refine AW.getp fl_9_58 (dc hd_F_feed 10 rfl) g_6 rfl ?_
    obtain ⟨g_7, h⟩ := h
    refine AW.getf fl_9_372 (dc hd_F_feed 11 rfl) g_7 ?_
    refine AW.bipush (dc hd_F_feed 12 rfl) (by decide) (by decide +kernel) ?_
    refine AW.iload_n (dc hd_F_feed 13 rfl) rfl ?_
    refine AW.isub (dc hd_F_feed 14 rfl) ?_
    refine AW.icmp_le (t := 35) (dc hd_F_feed 15 rfl) (by decide) (fun c_8 => ?_) (fun c_8 => ?_)
    · have h := h.1 c_8
      refine AW.iload_n (dc hd_F_feed 20 rfl) rfl ?_
      refine AW.iconst (dc hd_F_feed 21 rfl) (by decide) ?_
      refine AW.isub (dc hd_F_feed 22 rfl) ?_
      refine AW.istore_n [(2, v0), (0, v1), (0, v2), (0, w32 (v2 - 1))] (dc hd_F_feed 23 rfl) (Nat.le_of_ble_eq_true rfl) rfl rfl ?_
      obtain ⟨f_18, h⟩ := h
      refine AW.fgt [(2, v0), (0, v1), (9, 0), (0, w32 (v2 - 1))] ⟨.inl rfl, .inl rfl, .inr rfl, .inl rfl, trivial⟩ ?_
      exact aB_F_feed_39 n v0 v1 Q f_18 (C, w32 (v2 - 1)) h
    · have h := h.2 c_8
      refine AW.ra_n (dc hd_F_feed 16 rfl) rfl rfl rfl ?_
      refine AW.iconst (dc hd_F_feed 17 rfl) (by decide) ?_
      refine AW.callV (As := [(0, 1)]) (rest := []) (ci := 9) (m_F_tell l E n C v0 1 _ h) cb_9_101 im_F_tell se_F_tell ⟨_, _, rfl⟩ (by decide) (dc hd_F_feed 18 rfl) g_6 rfl rfl ⟨Nat.le_of_ble_eq_true rfl, Nat.le_of_ble_eq_true rfl⟩ ⟨(Nat.le_of_ble_eq_true rfl), (Nat.le_of_ble_eq_true rfl)⟩ (Nat.le_of_ble_eq_true rfl) (fun _ h => by cases h) (fun _ => rfl) (fun r_19 C_20 d_22 q_21 => ?_)
      obtain ⟨q_21a, h⟩ := q_21
      subst d_22
      show AW p l e _ s m args below meth c E M_F_feed true _ n _ _ _ [(2, v0), (0, v1), (0, v2), (9, 0)] [(0, r_19)] C_20
      exact AW.iret (dc hd_F_feed 19 rfl) rfl rfl (Nat.le_of_ble_eq_true rfl) (Nat.le_of_ble_eq_true rfl) ⟨rfl, h⟩
  · have h := h.1 c_5
    refine AW.ra_n (dc hd_F_feed 5 rfl) rfl rfl rfl ?_
    refine AW.iconst (dc hd_F_feed 6 rfl) (by decide) ?_
    obtain ⟨g_24, h⟩ := h
    refine AW.callV (As := [(0, 0)]) (rest := []) (ci := 9) (m_F_tell l E n C v0 0 _ h) cb_9_101 im_F_tell se_F_tell ⟨_, _, rfl⟩ (by decide) (dc hd_F_feed 7 rfl) g_24 rfl rfl ⟨Nat.le_of_ble_eq_true rfl, Nat.le_of_ble_eq_true rfl⟩ ⟨(Nat.le_of_ble_eq_true rfl), (Nat.le_of_ble_eq_true rfl)⟩ (Nat.le_of_ble_eq_true rfl) (fun _ h => by cases h) (fun _ => rfl) (fun r_23 C_25 d_27 q_26 => ?_)
    obtain ⟨q_26a, h⟩ := q_26
    subst d_27
    show AW p l e _ s m args below meth c E M_F_feed true _ n _ _ _ [(2, v0), (0, v1), (0, v2), (9, 0)] [(0, r_23)] C_25
    exact AW.iret (dc hd_F_feed 8 rfl) rfl rfl (Nat.le_of_ble_eq_true rfl) (Nat.le_of_ble_eq_true rfl) ⟨rfl, h⟩
def P_F_wipe (n : Nat) (C : Cn) (v0 : Int) (Q : Int → Cn → Prop) : Prop :=
  okO n v0 9 ∧ (okO n (PT v0.toNat 8) 3 ∧ (∀ v1_3 : Int, v1_3 = C (PT v0.toNat 8).toNat 1 → (∀ C_4 : Cn, C_4 = wr C (PT v0.toNat 8).toNat 1 0 → (Q v1_3 C_4))))
theorem m_F_wipe (l : Launch) (E : Ev) (n : Nat) (C : Cn) (v0 : Int) (Q : Int → Cn → Prop) (h : P_F_wipe n C v0 Q) : MA l y_F_wipe M_F_wipe E true C n [(2, v0)] (fun r C2 n2 => n2 = n ∧ Q r C2) := by
  refine MA.of (by decide) rfl rfl 1 rfl (fun p e s m args below meth c => ?_)
  show AW p l e _ s m args below meth c E M_F_wipe true _ n 0 0 0 [(2, v0), (9, 0)] [] C
  unfold P_F_wipe at h
  refine AW.ra_n (dc hd_F_wipe 0 rfl) rfl rfl rfl ?_
  obtain ⟨g_1, h⟩ := h
  refine AW.getp fl_9_58 (dc hd_F_wipe 1 rfl) g_1 rfl ?_
  obtain ⟨g_2, h⟩ := h
  refine AW.getf fl_9_372 (dc hd_F_wipe 2 rfl) g_2 ?_
  refine AW.nm (fun v1_3 ev1_3 => ?_)
  have h := h v1_3 ev1_3
  refine AW.istore_n [(2, v0), (0, v1_3)] (dc hd_F_wipe 3 rfl) (Nat.le_of_ble_eq_true rfl) rfl rfl ?_
  refine AW.ra_n (dc hd_F_wipe 4 rfl) rfl rfl rfl ?_
  refine AW.getp fl_9_58 (dc hd_F_wipe 5 rfl) g_1 rfl ?_
  refine AW.iconst (dc hd_F_wipe 6 rfl) (by decide) ?_
  refine AW.nputI fl_9_372 (dc hd_F_wipe 7 rfl) g_2 (fun C_4 eC_4 => ?_)
  have h := h C_4 eC_4
  refine AW.iload_n (dc hd_F_wipe 8 rfl) rfl ?_
  exact AW.iret (dc hd_F_wipe 9 rfl) rfl rfl (Nat.le_of_ble_eq_true rfl) (Nat.le_of_ble_eq_true rfl) ⟨rfl, h⟩
def P_F_sheet (n : Nat) (C : Cn) (v0 v1 v2 v3 : Int) (Q : Int → Cn → Prop) : Prop :=
  P_F_isSheet n C v1 (fun (r_1 : Int) => (r_1 = 0 → (okO n v0 9 ∧ (P_F_tell n C v0 0 (fun (r_6 : Int) (C_8 : Cn) => Q r_6 C_8)))) ∧ (¬ r_1 = 0 → (P_F_isIn n C v2 (-1) 2 (fun (r_11 : Int) => (r_11 = 0 → (okO n v0 9 ∧ (P_F_tell n C v0 0 (fun (r_51 : Int) (C_53 : Cn) => Q r_51 C_53)))) ∧ (¬ r_11 = 0 → ((v2 = (-1) → (okO n v0 9 ∧ (okO n (PT v0.toNat 10) 15 ∧ (okI (PT v0.toNat 10) v1 ∧ (okO n (PT (PT v0.toNat 10).toNat v1.toNat) 5 ∧ (P_Sh_begin n C (PT (PT v0.toNat 10).toNat v1.toNat) v2 0 (fun (_ : Int) (C_47 : Cn) => Q 0 C_47))))))) ∧ (¬ v2 = (-1) → ((0 ≤ v3 → ((v3 ≤ 40 → (okO n v0 9 ∧ (okO n (PT v0.toNat 10) 15 ∧ (okI (PT v0.toNat 10) v1 ∧ (okO n (PT (PT v0.toNat 10).toNat v1.toNat) 5 ∧ (P_Sh_begin n C (PT (PT v0.toNat 10).toNat v1.toNat) v2 v3 (fun (_ : Int) (C_29 : Cn) => Q v3 C_29))))))) ∧ (¬ v3 ≤ 40 → (okO n v0 9 ∧ (P_F_tell n C v0 0 (fun (r_33 : Int) (C_35 : Cn) => Q r_33 C_35)))))) ∧ (¬ 0 ≤ v3 → (okO n v0 9 ∧ (P_F_tell n C v0 6 (fun (r_38 : Int) (C_40 : Cn) => Q r_38 C_40))))))))))))
theorem m_F_sheet (l : Launch) (E : Ev) (n : Nat) (C : Cn) (v0 v1 v2 v3 : Int) (Q : Int → Cn → Prop) (h : P_F_sheet n C v0 v1 v2 v3 Q) : MA l y_F_sheet M_F_sheet E true C n [(2, v0), (0, v1), (0, v2), (0, v3)] (fun r C2 n2 => n2 = n ∧ Q r C2) := by
  refine MA.of (by decide) rfl rfl 0 rfl (fun p e s m args below meth c => ?_)
  show AW p l e _ s m args below meth c E M_F_sheet true _ n 0 0 0 [(2, v0), (0, v1), (0, v2), (0, v3)] [] C
  unfold P_F_sheet at h
  refine AW.iload_n (dc hd_F_sheet 0 rfl) rfl ?_
  refine AW.callS (As := [(0, v1)]) (rest := []) (m_F_isSheet l E n C v1 _ h) cb_9_310 sm_F_isSheet (dc hd_F_sheet 1 rfl) rfl rfl ⟨Nat.le_of_ble_eq_true rfl, Nat.le_of_ble_eq_true rfl⟩ ⟨(Nat.le_of_ble_eq_true rfl), (Nat.le_of_ble_eq_true rfl)⟩ (Nat.le_of_ble_eq_true rfl) (fun _ h => by cases h) (fun _ => rfl) (fun r_1 D_3 d_4 q_2 => ?_)
  obtain ⟨q_2a, q_2b, h⟩ := q_2
  subst D_3
  subst d_4
  show AW p l e _ s m args below meth c E M_F_sheet true _ n _ _ _ [(2, v0), (0, v1), (0, v2), (0, v3)] [(0, r_1)] C
  refine AW.if_eq (t := 16) (dc hd_F_sheet 2 rfl) (by decide) (fun c_5 => ?_) (fun c_5 => ?_)
  · have h := h.1 c_5
    refine AW.ra_n (dc hd_F_sheet 8 rfl) rfl rfl rfl ?_
    refine AW.iconst (dc hd_F_sheet 9 rfl) (by decide) ?_
    obtain ⟨g_7, h⟩ := h
    refine AW.callV (As := [(0, 0)]) (rest := []) (ci := 9) (m_F_tell l E n C v0 0 _ h) cb_9_101 im_F_tell se_F_tell ⟨_, _, rfl⟩ (by decide) (dc hd_F_sheet 10 rfl) g_7 rfl rfl ⟨Nat.le_of_ble_eq_true rfl, Nat.le_of_ble_eq_true rfl⟩ ⟨(Nat.le_of_ble_eq_true rfl), (Nat.le_of_ble_eq_true rfl)⟩ (Nat.le_of_ble_eq_true rfl) (fun _ h => by cases h) (fun _ => rfl) (fun r_6 C_8 d_10 q_9 => ?_)
    obtain ⟨q_9a, h⟩ := q_9
    subst d_10
    show AW p l e _ s m args below meth c E M_F_sheet true _ n _ _ _ [(2, v0), (0, v1), (0, v2), (0, v3)] [(0, r_6)] C_8
    exact AW.iret (dc hd_F_sheet 11 rfl) rfl rfl (Nat.le_of_ble_eq_true rfl) (Nat.le_of_ble_eq_true rfl) ⟨rfl, h⟩
  · have h := h.2 c_5
    refine AW.iload_n (dc hd_F_sheet 3 rfl) rfl ?_
    refine AW.iconst (dc hd_F_sheet 4 rfl) (by decide) ?_
    refine AW.iconst (dc hd_F_sheet 5 rfl) (by decide) ?_
    refine AW.callS (As := [(0, v2), (0, (-1)), (0, 2)]) (rest := []) (m_F_isIn l E n C v2 (-1) 2 _ h) cb_9_167 sm_F_isIn (dc hd_F_sheet 6 rfl) rfl rfl ⟨Nat.le_of_ble_eq_true rfl, Nat.le_of_ble_eq_true rfl⟩ ⟨(Nat.le_of_ble_eq_true rfl), (Nat.le_of_ble_eq_true rfl)⟩ (Nat.le_of_ble_eq_true rfl) (fun _ h => by cases h) (fun _ => rfl) (fun r_11 D_13 d_14 q_12 => ?_)
    obtain ⟨q_12a, q_12b, h⟩ := q_12
    subst D_13
    subst d_14
    show AW p l e _ s m args below meth c E M_F_sheet true _ n _ _ _ [(2, v0), (0, v1), (0, v2), (0, v3)] [(0, r_11)] C
    refine AW.if_ne (t := 22) (dc hd_F_sheet 7 rfl) (by decide) (fun c_15 => ?_) (fun c_15 => ?_)
    · have h := h.2 c_15
      refine AW.iload_n (dc hd_F_sheet 12 rfl) rfl ?_
      refine AW.iconst (dc hd_F_sheet 13 rfl) (by decide) ?_
      refine AW.icmp_ne (t := 40) (dc hd_F_sheet 14 rfl) (by decide) (fun c_19 => ?_) (fun c_19 => ?_)
      · have h := h.2 c_19
        refine AW.iload_n (dc hd_F_sheet 24 rfl) rfl ?_
        refine AW.if_ge (t := 51) (dc hd_F_sheet 25 rfl) (by decide) (fun c_22 => ?_) (fun c_22 => ?_)
        · have h := h.1 c_22
          refine AW.iload_n (dc hd_F_sheet 30 rfl) rfl ?_
          refine AW.bipush (dc hd_F_sheet 31 rfl) (by decide) (by decide +kernel) ?_
          refine AW.icmp_le (t := 63) (dc hd_F_sheet 32 rfl) (by decide) (fun c_24 => ?_) (fun c_24 => ?_)
          · have h := h.1 c_24
            refine AW.ra_n (dc hd_F_sheet 37 rfl) rfl rfl rfl ?_
            obtain ⟨g_25, h⟩ := h
            refine AW.getp fl_9_71 (dc hd_F_sheet 38 rfl) g_25 rfl ?_
            refine AW.iload_n (dc hd_F_sheet 39 rfl) rfl ?_
            obtain ⟨g_26, h⟩ := h
            obtain ⟨g_27, h⟩ := h
            refine AW.aaldp (by decide) (dc hd_F_sheet 40 rfl) g_26 g_27 rfl ?_
            refine AW.iload_n (dc hd_F_sheet 41 rfl) rfl ?_
            refine AW.iload_n (dc hd_F_sheet 42 rfl) rfl ?_
            obtain ⟨g_28, h⟩ := h
            refine AW.callV (As := [(0, v2), (0, v3)]) (rest := []) (ci := 5) (m_Sh_begin l E n C (PT (PT v0.toNat 10).toNat v1.toNat) v2 v3 _ h) cb_9_381 im_Sh_begin se_Sh_begin ⟨_, _, rfl⟩ (by decide) (dc hd_F_sheet 43 rfl) g_28 rfl rfl ⟨Nat.le_of_ble_eq_true rfl, Nat.le_of_ble_eq_true rfl⟩ ⟨(Nat.le_of_ble_eq_true rfl), (Nat.le_of_ble_eq_true rfl)⟩ (Nat.le_of_ble_eq_true rfl) (fun _ h => by cases h) (fun _ => rfl) (fun u_31 C_29 d_32 q_30 => ?_)
            obtain ⟨q_30a, h⟩ := q_30
            subst d_32
            show AW p l e _ s m args below meth c E M_F_sheet true _ n _ _ _ [(2, v0), (0, v1), (0, v2), (0, v3)] [] C_29
            refine AW.iload_n (dc hd_F_sheet 44 rfl) rfl ?_
            exact AW.iret (dc hd_F_sheet 45 rfl) rfl rfl (Nat.le_of_ble_eq_true rfl) (Nat.le_of_ble_eq_true rfl) ⟨rfl, h⟩
          · have h := h.2 c_24
            refine AW.ra_n (dc hd_F_sheet 33 rfl) rfl rfl rfl ?_
            refine AW.iconst (dc hd_F_sheet 34 rfl) (by decide) ?_
            obtain ⟨g_34, h⟩ := h
            refine AW.callV (As := [(0, 0)]) (rest := []) (ci := 9) (m_F_tell l E n C v0 0 _ h) cb_9_101 im_F_tell se_F_tell ⟨_, _, rfl⟩ (by decide) (dc hd_F_sheet 35 rfl) g_34 rfl rfl ⟨Nat.le_of_ble_eq_true rfl, Nat.le_of_ble_eq_true rfl⟩ ⟨(Nat.le_of_ble_eq_true rfl), (Nat.le_of_ble_eq_true rfl)⟩ (Nat.le_of_ble_eq_true rfl) (fun _ h => by cases h) (fun _ => rfl) (fun r_33 C_35 d_37 q_36 => ?_)
            obtain ⟨q_36a, h⟩ := q_36
            subst d_37
            show AW p l e _ s m args below meth c E M_F_sheet true _ n _ _ _ [(2, v0), (0, v1), (0, v2), (0, v3)] [(0, r_33)] C_35
            exact AW.iret (dc hd_F_sheet 36 rfl) rfl rfl (Nat.le_of_ble_eq_true rfl) (Nat.le_of_ble_eq_true rfl) ⟨rfl, h⟩
        · have h := h.2 c_22
          refine AW.ra_n (dc hd_F_sheet 26 rfl) rfl rfl rfl ?_
          refine AW.bipush (dc hd_F_sheet 27 rfl) (by decide) (by decide +kernel) ?_
          obtain ⟨g_39, h⟩ := h
          refine AW.callV (As := [(0, 6)]) (rest := []) (ci := 9) (m_F_tell l E n C v0 6 _ h) cb_9_101 im_F_tell se_F_tell ⟨_, _, rfl⟩ (by decide) (dc hd_F_sheet 28 rfl) g_39 rfl rfl ⟨Nat.le_of_ble_eq_true rfl, Nat.le_of_ble_eq_true rfl⟩ ⟨(Nat.le_of_ble_eq_true rfl), (Nat.le_of_ble_eq_true rfl)⟩ (Nat.le_of_ble_eq_true rfl) (fun _ h => by cases h) (fun _ => rfl) (fun r_38 C_40 d_42 q_41 => ?_)
          obtain ⟨q_41a, h⟩ := q_41
          subst d_42
          show AW p l e _ s m args below meth c E M_F_sheet true _ n _ _ _ [(2, v0), (0, v1), (0, v2), (0, v3)] [(0, r_38)] C_40
          exact AW.iret (dc hd_F_sheet 29 rfl) rfl rfl (Nat.le_of_ble_eq_true rfl) (Nat.le_of_ble_eq_true rfl) ⟨rfl, h⟩
      · have h := h.1 c_19
        refine AW.ra_n (dc hd_F_sheet 15 rfl) rfl rfl rfl ?_
        obtain ⟨g_43, h⟩ := h
        refine AW.getp fl_9_71 (dc hd_F_sheet 16 rfl) g_43 rfl ?_
        refine AW.iload_n (dc hd_F_sheet 17 rfl) rfl ?_
        obtain ⟨g_44, h⟩ := h
        obtain ⟨g_45, h⟩ := h
        refine AW.aaldp (by decide) (dc hd_F_sheet 18 rfl) g_44 g_45 rfl ?_
        refine AW.iload_n (dc hd_F_sheet 19 rfl) rfl ?_
        refine AW.iconst (dc hd_F_sheet 20 rfl) (by decide) ?_
        obtain ⟨g_46, h⟩ := h
        refine AW.callV (As := [(0, v2), (0, 0)]) (rest := []) (ci := 5) (m_Sh_begin l E n C (PT (PT v0.toNat 10).toNat v1.toNat) v2 0 _ h) cb_9_381 im_Sh_begin se_Sh_begin ⟨_, _, rfl⟩ (by decide) (dc hd_F_sheet 21 rfl) g_46 rfl rfl ⟨Nat.le_of_ble_eq_true rfl, Nat.le_of_ble_eq_true rfl⟩ ⟨(Nat.le_of_ble_eq_true rfl), (Nat.le_of_ble_eq_true rfl)⟩ (Nat.le_of_ble_eq_true rfl) (fun _ h => by cases h) (fun _ => rfl) (fun u_49 C_47 d_50 q_48 => ?_)
        obtain ⟨q_48a, h⟩ := q_48
        subst d_50
        show AW p l e _ s m args below meth c E M_F_sheet true _ n _ _ _ [(2, v0), (0, v1), (0, v2), (0, v3)] [] C_47
        refine AW.iconst (dc hd_F_sheet 22 rfl) (by decide) ?_
        exact AW.iret (dc hd_F_sheet 23 rfl) rfl rfl (Nat.le_of_ble_eq_true rfl) (Nat.le_of_ble_eq_true rfl) ⟨rfl, h⟩
    · have h := h.1 c_15
      refine AW.ra_n (dc hd_F_sheet 8 rfl) rfl rfl rfl ?_
      refine AW.iconst (dc hd_F_sheet 9 rfl) (by decide) ?_
      obtain ⟨g_52, h⟩ := h
      refine AW.callV (As := [(0, 0)]) (rest := []) (ci := 9) (m_F_tell l E n C v0 0 _ h) cb_9_101 im_F_tell se_F_tell ⟨_, _, rfl⟩ (by decide) (dc hd_F_sheet 10 rfl) g_52 rfl rfl ⟨Nat.le_of_ble_eq_true rfl, Nat.le_of_ble_eq_true rfl⟩ ⟨(Nat.le_of_ble_eq_true rfl), (Nat.le_of_ble_eq_true rfl)⟩ (Nat.le_of_ble_eq_true rfl) (fun _ h => by cases h) (fun _ => rfl) (fun r_51 C_53 d_55 q_54 => ?_)
      obtain ⟨q_54a, h⟩ := q_54
      subst d_55
      show AW p l e _ s m args below meth c E M_F_sheet true _ n _ _ _ [(2, v0), (0, v1), (0, v2), (0, v3)] [(0, r_51)] C_53
      exact AW.iret (dc hd_F_sheet 11 rfl) rfl rfl (Nat.le_of_ble_eq_true rfl) (Nat.le_of_ble_eq_true rfl) ⟨rfl, h⟩
def P_F_write (n : Nat) (C : Cn) (v0 v1 v2 v3 : Int) (Q : Int → Cn → Prop) : Prop :=
  P_F_isSheet n C v1 (fun (r_1 : Int) => (r_1 = 0 → (okO n v0 9 ∧ (P_F_tell n C v0 0 (fun (r_32 : Int) (C_34 : Cn) => Q r_32 C_34)))) ∧ (¬ r_1 = 0 → (okO n v0 9 ∧ (okO n (PT v0.toNat 10) 15 ∧ (okI (PT v0.toNat 10) v1 ∧ (okO n (PT (PT v0.toNat 10).toNat v1.toNat) 5 ∧ (P_Sh_isMissing n C (PT (PT v0.toNat 10).toNat v1.toNat) (fun (r_9 : Int) => (r_9 = 0 → (P_Sh_has n C (PT (PT v0.toNat 10).toNat v1.toNat) v2 1 (fun (r_15 : Int) => (r_15 = 0 → (P_F_tell n C v0 0 (fun (r_24 : Int) (C_25 : Cn) => Q r_24 C_25))) ∧ (¬ r_15 = 0 → (P_Sh_put n C (PT (PT v0.toNat 10).toNat v1.toNat) v2 v3 (fun (_ : Int) (C_20 : Cn) => Q 1 C_20)))))) ∧ (¬ r_9 = 0 → (P_F_tell n C v0 5 (fun (r_28 : Int) (C_29 : Cn) => Q r_28 C_29)))))))))))
theorem m_F_write (l : Launch) (E : Ev) (n : Nat) (C : Cn) (v0 v1 v2 v3 : Int) (Q : Int → Cn → Prop) (h : P_F_write n C v0 v1 v2 v3 Q) : MA l y_F_write M_F_write E true C n [(2, v0), (0, v1), (0, v2), (1, v3)] (fun r C2 n2 => n2 = n ∧ Q r C2) := by
  refine MA.of (by decide) rfl rfl 0 rfl (fun p e s m args below meth c => ?_)
  show AW p l e _ s m args below meth c E M_F_write true _ n 0 0 0 [(2, v0), (0, v1), (0, v2), (1, v3), (9, 0)] [] C
  unfold P_F_write at h
  refine AW.iload_n (dc hd_F_write 0 rfl) rfl ?_
  refine AW.callS (As := [(0, v1)]) (rest := []) (m_F_isSheet l E n C v1 _ h) cb_9_310 sm_F_isSheet (dc hd_F_write 1 rfl) rfl rfl ⟨Nat.le_of_ble_eq_true rfl, Nat.le_of_ble_eq_true rfl⟩ ⟨(Nat.le_of_ble_eq_true rfl), (Nat.le_of_ble_eq_true rfl)⟩ (Nat.le_of_ble_eq_true rfl) (fun _ h => by cases h) (fun _ => rfl) (fun r_1 D_3 d_4 q_2 => ?_)
  obtain ⟨q_2a, q_2b, h⟩ := q_2
  subst D_3
  subst d_4
  show AW p l e _ s m args below meth c E M_F_write true _ n _ _ _ [(2, v0), (0, v1), (0, v2), (1, v3), (9, 0)] [(0, r_1)] C
  refine AW.if_ne (t := 13) (dc hd_F_write 2 rfl) (by decide) (fun c_5 => ?_) (fun c_5 => ?_)
  · have h := h.2 c_5
    refine AW.ra_n (dc hd_F_write 7 rfl) rfl rfl rfl ?_
    obtain ⟨g_6, h⟩ := h
    refine AW.getp fl_9_71 (dc hd_F_write 8 rfl) g_6 rfl ?_
    refine AW.iload_n (dc hd_F_write 9 rfl) rfl ?_
    obtain ⟨g_7, h⟩ := h
    obtain ⟨g_8, h⟩ := h
    refine AW.aaldp (by decide) (dc hd_F_write 10 rfl) g_7 g_8 rfl ?_
    obtain ⟨g_10, h⟩ := h
    refine AW.callV (As := []) (rest := []) (ci := 5) (m_Sh_isMissing l E n C (PT (PT v0.toNat 10).toNat v1.toNat) _ h) cb_9_313 im_Sh_isMissing se_Sh_isMissing ⟨_, _, rfl⟩ (by decide) (dc hd_F_write 11 rfl) g_10 rfl rfl ⟨Nat.le_of_ble_eq_true rfl, Nat.le_of_ble_eq_true rfl⟩ ⟨(Nat.le_of_ble_eq_true rfl), (Nat.le_of_ble_eq_true rfl)⟩ (Nat.le_of_ble_eq_true rfl) (fun _ h => by cases h) (fun _ => rfl) (fun r_9 D_12 d_13 q_11 => ?_)
    obtain ⟨q_11a, q_11b, h⟩ := q_11
    subst D_12
    subst d_13
    show AW p l e _ s m args below meth c E M_F_write true _ n _ _ _ [(2, v0), (0, v1), (0, v2), (1, v3), (9, 0)] [(0, r_9)] C
    refine AW.if_eq (t := 31) (dc hd_F_write 12 rfl) (by decide) (fun c_14 => ?_) (fun c_14 => ?_)
    · have h := h.1 c_14
      refine AW.ra_n (dc hd_F_write 17 rfl) rfl rfl rfl ?_
      refine AW.getp fl_9_71 (dc hd_F_write 18 rfl) g_6 rfl ?_
      refine AW.iload_n (dc hd_F_write 19 rfl) rfl ?_
      refine AW.aaldp (by decide) (dc hd_F_write 20 rfl) g_7 g_8 rfl ?_
      refine AW.iload_n (dc hd_F_write 21 rfl) rfl ?_
      refine AW.iconst (dc hd_F_write 22 rfl) (by decide) ?_
      refine AW.callV (As := [(0, v2), (0, 1)]) (rest := []) (ci := 5) (m_Sh_has l E n C (PT (PT v0.toNat 10).toNat v1.toNat) v2 1 _ h) cb_9_384 im_Sh_has se_Sh_has ⟨_, _, rfl⟩ (by decide) (dc hd_F_write 23 rfl) g_10 rfl rfl ⟨Nat.le_of_ble_eq_true rfl, Nat.le_of_ble_eq_true rfl⟩ ⟨(Nat.le_of_ble_eq_true rfl), (Nat.le_of_ble_eq_true rfl)⟩ (Nat.le_of_ble_eq_true rfl) (fun _ h => by cases h) (fun _ => rfl) (fun r_15 D_17 d_18 q_16 => ?_)
      obtain ⟨q_16a, q_16b, h⟩ := q_16
      subst D_17
      subst d_18
      show AW p l e _ s m args below meth c E M_F_write true _ n _ _ _ [(2, v0), (0, v1), (0, v2), (1, v3), (9, 0)] [(0, r_15)] C
      refine AW.if_ne (t := 51) (dc hd_F_write 24 rfl) (by decide) (fun c_19 => ?_) (fun c_19 => ?_)
      · have h := h.2 c_19
        refine AW.ra_n (dc hd_F_write 29 rfl) rfl rfl rfl ?_
        refine AW.getp fl_9_71 (dc hd_F_write 30 rfl) g_6 rfl ?_
        refine AW.iload_n (dc hd_F_write 31 rfl) rfl ?_
        refine AW.aaldp (by decide) (dc hd_F_write 32 rfl) g_7 g_8 rfl ?_
        refine AW.iload_n (dc hd_F_write 33 rfl) rfl ?_
        refine AW.lload_n (dc hd_F_write 34 rfl) rfl ?_
        refine AW.callV (As := [(0, v2), (1, v3)]) (rest := []) (ci := 5) (m_Sh_put l E n C (PT (PT v0.toNat 10).toNat v1.toNat) v2 v3 _ h) cb_9_328 im_Sh_put se_Sh_put ⟨_, _, rfl⟩ (by decide) (dc hd_F_write 35 rfl) g_10 rfl rfl ⟨Nat.le_of_ble_eq_true rfl, Nat.le_of_ble_eq_true rfl⟩ ⟨(Nat.le_of_ble_eq_true rfl), (Nat.le_of_ble_eq_true rfl)⟩ (Nat.le_of_ble_eq_true rfl) (fun _ h => by cases h) (fun _ => rfl) (fun u_22 C_20 d_23 q_21 => ?_)
        obtain ⟨q_21a, h⟩ := q_21
        subst d_23
        show AW p l e _ s m args below meth c E M_F_write true _ n _ _ _ [(2, v0), (0, v1), (0, v2), (1, v3), (9, 0)] [] C_20
        refine AW.iconst (dc hd_F_write 36 rfl) (by decide) ?_
        exact AW.iret (dc hd_F_write 37 rfl) rfl rfl (Nat.le_of_ble_eq_true rfl) (Nat.le_of_ble_eq_true rfl) ⟨rfl, h⟩
      · have h := h.1 c_19
        refine AW.ra_n (dc hd_F_write 25 rfl) rfl rfl rfl ?_
        refine AW.iconst (dc hd_F_write 26 rfl) (by decide) ?_
        refine AW.callV (As := [(0, 0)]) (rest := []) (ci := 9) (m_F_tell l E n C v0 0 _ h) cb_9_101 im_F_tell se_F_tell ⟨_, _, rfl⟩ (by decide) (dc hd_F_write 27 rfl) g_6 rfl rfl ⟨Nat.le_of_ble_eq_true rfl, Nat.le_of_ble_eq_true rfl⟩ ⟨(Nat.le_of_ble_eq_true rfl), (Nat.le_of_ble_eq_true rfl)⟩ (Nat.le_of_ble_eq_true rfl) (fun _ h => by cases h) (fun _ => rfl) (fun r_24 C_25 d_27 q_26 => ?_)
        obtain ⟨q_26a, h⟩ := q_26
        subst d_27
        show AW p l e _ s m args below meth c E M_F_write true _ n _ _ _ [(2, v0), (0, v1), (0, v2), (1, v3), (9, 0)] [(0, r_24)] C_25
        exact AW.iret (dc hd_F_write 28 rfl) rfl rfl (Nat.le_of_ble_eq_true rfl) (Nat.le_of_ble_eq_true rfl) ⟨rfl, h⟩
    · have h := h.2 c_14
      refine AW.ra_n (dc hd_F_write 13 rfl) rfl rfl rfl ?_
      refine AW.iconst (dc hd_F_write 14 rfl) (by decide) ?_
      refine AW.callV (As := [(0, 5)]) (rest := []) (ci := 9) (m_F_tell l E n C v0 5 _ h) cb_9_101 im_F_tell se_F_tell ⟨_, _, rfl⟩ (by decide) (dc hd_F_write 15 rfl) g_6 rfl rfl ⟨Nat.le_of_ble_eq_true rfl, Nat.le_of_ble_eq_true rfl⟩ ⟨(Nat.le_of_ble_eq_true rfl), (Nat.le_of_ble_eq_true rfl)⟩ (Nat.le_of_ble_eq_true rfl) (fun _ h => by cases h) (fun _ => rfl) (fun r_28 C_29 d_31 q_30 => ?_)
      obtain ⟨q_30a, h⟩ := q_30
      subst d_31
      show AW p l e _ s m args below meth c E M_F_write true _ n _ _ _ [(2, v0), (0, v1), (0, v2), (1, v3), (9, 0)] [(0, r_28)] C_29
      exact AW.iret (dc hd_F_write 16 rfl) rfl rfl (Nat.le_of_ble_eq_true rfl) (Nat.le_of_ble_eq_true rfl) ⟨rfl, h⟩
  · have h := h.1 c_5
    refine AW.ra_n (dc hd_F_write 3 rfl) rfl rfl rfl ?_
    refine AW.iconst (dc hd_F_write 4 rfl) (by decide) ?_
    obtain ⟨g_33, h⟩ := h
    refine AW.callV (As := [(0, 0)]) (rest := []) (ci := 9) (m_F_tell l E n C v0 0 _ h) cb_9_101 im_F_tell se_F_tell ⟨_, _, rfl⟩ (by decide) (dc hd_F_write 5 rfl) g_33 rfl rfl ⟨Nat.le_of_ble_eq_true rfl, Nat.le_of_ble_eq_true rfl⟩ ⟨(Nat.le_of_ble_eq_true rfl), (Nat.le_of_ble_eq_true rfl)⟩ (Nat.le_of_ble_eq_true rfl) (fun _ h => by cases h) (fun _ => rfl) (fun r_32 C_34 d_36 q_35 => ?_)
    obtain ⟨q_35a, h⟩ := q_35
    subst d_36
    show AW p l e _ s m args below meth c E M_F_write true _ n _ _ _ [(2, v0), (0, v1), (0, v2), (1, v3), (9, 0)] [(0, r_32)] C_34
    exact AW.iret (dc hd_F_write 6 rfl) rfl rfl (Nat.le_of_ble_eq_true rfl) (Nat.le_of_ble_eq_true rfl) ⟨rfl, h⟩
def P_F_item (n : Nat) (C : Cn) (v0 v1 v2 : Int) (Q : Int → Cn → Prop) : Prop :=
  P_F_isSheet n C v1 (fun (r_1 : Int) => (r_1 = 0 → (okO n v0 9 ∧ (P_F_tellLong n C v0 0 (fun (r_30 : Int) (C_32 : Cn) => Q r_30 C_32)))) ∧ (¬ r_1 = 0 → (okO n v0 9 ∧ (okO n (PT v0.toNat 10) 15 ∧ (okI (PT v0.toNat 10) v1 ∧ (okO n (PT (PT v0.toNat 10).toNat v1.toNat) 5 ∧ (P_Sh_isMissing n C (PT (PT v0.toNat 10).toNat v1.toNat) (fun (r_9 : Int) => (r_9 = 0 → (P_Sh_has n C (PT (PT v0.toNat 10).toNat v1.toNat) v2 1 (fun (r_15 : Int) => (r_15 = 0 → (P_F_tellLong n C v0 0 (fun (r_22 : Int) (C_23 : Cn) => Q r_22 C_23))) ∧ (¬ r_15 = 0 → (okO n (PT (PT (PT v0.toNat 10).toNat v1.toNat).toNat 2) 13 ∧ (okI (PT (PT (PT v0.toNat 10).toNat v1.toNat).toNat 2) v2 ∧ (Q (C (PT (PT (PT v0.toNat 10).toNat v1.toNat).toNat 2).toNat v2.toNat) C))))))) ∧ (¬ r_9 = 0 → (P_F_tellLong n C v0 5 (fun (r_26 : Int) (C_27 : Cn) => Q r_26 C_27)))))))))))
theorem m_F_item (l : Launch) (E : Ev) (n : Nat) (C : Cn) (v0 v1 v2 : Int) (Q : Int → Cn → Prop) (h : P_F_item n C v0 v1 v2 Q) : MA l y_F_item M_F_item E true C n [(2, v0), (0, v1), (0, v2)] (fun r C2 n2 => n2 = n ∧ Q r C2) := by
  refine MA.of (by decide) rfl rfl 0 rfl (fun p e s m args below meth c => ?_)
  show AW p l e _ s m args below meth c E M_F_item true _ n 0 0 0 [(2, v0), (0, v1), (0, v2)] [] C
  unfold P_F_item at h
  refine AW.iload_n (dc hd_F_item 0 rfl) rfl ?_
  refine AW.callS (As := [(0, v1)]) (rest := []) (m_F_isSheet l E n C v1 _ h) cb_9_310 sm_F_isSheet (dc hd_F_item 1 rfl) rfl rfl ⟨Nat.le_of_ble_eq_true rfl, Nat.le_of_ble_eq_true rfl⟩ ⟨(Nat.le_of_ble_eq_true rfl), (Nat.le_of_ble_eq_true rfl)⟩ (Nat.le_of_ble_eq_true rfl) (fun _ h => by cases h) (fun _ => rfl) (fun r_1 D_3 d_4 q_2 => ?_)
  obtain ⟨q_2a, q_2b, h⟩ := q_2
  subst D_3
  subst d_4
  show AW p l e _ s m args below meth c E M_F_item true _ n _ _ _ [(2, v0), (0, v1), (0, v2)] [(0, r_1)] C
  refine AW.if_ne (t := 13) (dc hd_F_item 2 rfl) (by decide) (fun c_5 => ?_) (fun c_5 => ?_)
  · have h := h.2 c_5
    refine AW.ra_n (dc hd_F_item 7 rfl) rfl rfl rfl ?_
    obtain ⟨g_6, h⟩ := h
    refine AW.getp fl_9_71 (dc hd_F_item 8 rfl) g_6 rfl ?_
    refine AW.iload_n (dc hd_F_item 9 rfl) rfl ?_
    obtain ⟨g_7, h⟩ := h
    obtain ⟨g_8, h⟩ := h
    refine AW.aaldp (by decide) (dc hd_F_item 10 rfl) g_7 g_8 rfl ?_
    obtain ⟨g_10, h⟩ := h
    refine AW.callV (As := []) (rest := []) (ci := 5) (m_Sh_isMissing l E n C (PT (PT v0.toNat 10).toNat v1.toNat) _ h) cb_9_313 im_Sh_isMissing se_Sh_isMissing ⟨_, _, rfl⟩ (by decide) (dc hd_F_item 11 rfl) g_10 rfl rfl ⟨Nat.le_of_ble_eq_true rfl, Nat.le_of_ble_eq_true rfl⟩ ⟨(Nat.le_of_ble_eq_true rfl), (Nat.le_of_ble_eq_true rfl)⟩ (Nat.le_of_ble_eq_true rfl) (fun _ h => by cases h) (fun _ => rfl) (fun r_9 D_12 d_13 q_11 => ?_)
    obtain ⟨q_11a, q_11b, h⟩ := q_11
    subst D_12
    subst d_13
    show AW p l e _ s m args below meth c E M_F_item true _ n _ _ _ [(2, v0), (0, v1), (0, v2)] [(0, r_9)] C
    refine AW.if_eq (t := 31) (dc hd_F_item 12 rfl) (by decide) (fun c_14 => ?_) (fun c_14 => ?_)
    · have h := h.1 c_14
      refine AW.ra_n (dc hd_F_item 17 rfl) rfl rfl rfl ?_
      refine AW.getp fl_9_71 (dc hd_F_item 18 rfl) g_6 rfl ?_
      refine AW.iload_n (dc hd_F_item 19 rfl) rfl ?_
      refine AW.aaldp (by decide) (dc hd_F_item 20 rfl) g_7 g_8 rfl ?_
      refine AW.iload_n (dc hd_F_item 21 rfl) rfl ?_
      refine AW.iconst (dc hd_F_item 22 rfl) (by decide) ?_
      refine AW.callV (As := [(0, v2), (0, 1)]) (rest := []) (ci := 5) (m_Sh_has l E n C (PT (PT v0.toNat 10).toNat v1.toNat) v2 1 _ h) cb_9_384 im_Sh_has se_Sh_has ⟨_, _, rfl⟩ (by decide) (dc hd_F_item 23 rfl) g_10 rfl rfl ⟨Nat.le_of_ble_eq_true rfl, Nat.le_of_ble_eq_true rfl⟩ ⟨(Nat.le_of_ble_eq_true rfl), (Nat.le_of_ble_eq_true rfl)⟩ (Nat.le_of_ble_eq_true rfl) (fun _ h => by cases h) (fun _ => rfl) (fun r_15 D_17 d_18 q_16 => ?_)
      obtain ⟨q_16a, q_16b, h⟩ := q_16
      subst D_17
      subst d_18
      show AW p l e _ s m args below meth c E M_F_item true _ n _ _ _ [(2, v0), (0, v1), (0, v2)] [(0, r_15)] C
      refine AW.if_ne (t := 51) (dc hd_F_item 24 rfl) (by decide) (fun c_19 => ?_) (fun c_19 => ?_)
      · have h := h.2 c_19
        refine AW.ra_n (dc hd_F_item 29 rfl) rfl rfl rfl ?_
        refine AW.getp fl_9_71 (dc hd_F_item 30 rfl) g_6 rfl ?_
        refine AW.iload_n (dc hd_F_item 31 rfl) rfl ?_
        refine AW.aaldp (by decide) (dc hd_F_item 32 rfl) g_7 g_8 rfl ?_
        refine AW.getp fl_9_320 (dc hd_F_item 33 rfl) g_10 rfl ?_
        refine AW.iload_n (dc hd_F_item 34 rfl) rfl ?_
        obtain ⟨g_20, h⟩ := h
        obtain ⟨g_21, h⟩ := h
        refine AW.lald (dc hd_F_item 35 rfl) g_20 g_21 ?_
        exact AW.lret (dc hd_F_item 36 rfl) rfl rfl (Nat.le_of_ble_eq_true rfl) (Nat.le_of_ble_eq_true rfl) ⟨rfl, h⟩
      · have h := h.1 c_19
        refine AW.ra_n (dc hd_F_item 25 rfl) rfl rfl rfl ?_
        refine AW.iconst (dc hd_F_item 26 rfl) (by decide) ?_
        refine AW.callV (As := [(0, 0)]) (rest := []) (ci := 9) (m_F_tellLong l E n C v0 0 _ h) cb_9_347 im_F_tellLong se_F_tellLong ⟨_, _, rfl⟩ (by decide) (dc hd_F_item 27 rfl) g_6 rfl rfl ⟨Nat.le_of_ble_eq_true rfl, Nat.le_of_ble_eq_true rfl⟩ ⟨(Nat.le_of_ble_eq_true rfl), (Nat.le_of_ble_eq_true rfl)⟩ (Nat.le_of_ble_eq_true rfl) (fun _ h => by cases h) (fun _ => rfl) (fun r_22 C_23 d_25 q_24 => ?_)
        obtain ⟨q_24a, h⟩ := q_24
        subst d_25
        show AW p l e _ s m args below meth c E M_F_item true _ n _ _ _ [(2, v0), (0, v1), (0, v2)] [(1, r_22)] C_23
        exact AW.lret (dc hd_F_item 28 rfl) rfl rfl (Nat.le_of_ble_eq_true rfl) (Nat.le_of_ble_eq_true rfl) ⟨rfl, h⟩
    · have h := h.2 c_14
      refine AW.ra_n (dc hd_F_item 13 rfl) rfl rfl rfl ?_
      refine AW.iconst (dc hd_F_item 14 rfl) (by decide) ?_
      refine AW.callV (As := [(0, 5)]) (rest := []) (ci := 9) (m_F_tellLong l E n C v0 5 _ h) cb_9_347 im_F_tellLong se_F_tellLong ⟨_, _, rfl⟩ (by decide) (dc hd_F_item 15 rfl) g_6 rfl rfl ⟨Nat.le_of_ble_eq_true rfl, Nat.le_of_ble_eq_true rfl⟩ ⟨(Nat.le_of_ble_eq_true rfl), (Nat.le_of_ble_eq_true rfl)⟩ (Nat.le_of_ble_eq_true rfl) (fun _ h => by cases h) (fun _ => rfl) (fun r_26 C_27 d_29 q_28 => ?_)
      obtain ⟨q_28a, h⟩ := q_28
      subst d_29
      show AW p l e _ s m args below meth c E M_F_item true _ n _ _ _ [(2, v0), (0, v1), (0, v2)] [(1, r_26)] C_27
      exact AW.lret (dc hd_F_item 16 rfl) rfl rfl (Nat.le_of_ble_eq_true rfl) (Nat.le_of_ble_eq_true rfl) ⟨rfl, h⟩
  · have h := h.1 c_5
    refine AW.ra_n (dc hd_F_item 3 rfl) rfl rfl rfl ?_
    refine AW.iconst (dc hd_F_item 4 rfl) (by decide) ?_
    obtain ⟨g_31, h⟩ := h
    refine AW.callV (As := [(0, 0)]) (rest := []) (ci := 9) (m_F_tellLong l E n C v0 0 _ h) cb_9_347 im_F_tellLong se_F_tellLong ⟨_, _, rfl⟩ (by decide) (dc hd_F_item 5 rfl) g_31 rfl rfl ⟨Nat.le_of_ble_eq_true rfl, Nat.le_of_ble_eq_true rfl⟩ ⟨(Nat.le_of_ble_eq_true rfl), (Nat.le_of_ble_eq_true rfl)⟩ (Nat.le_of_ble_eq_true rfl) (fun _ h => by cases h) (fun _ => rfl) (fun r_30 C_32 d_34 q_33 => ?_)
    obtain ⟨q_33a, h⟩ := q_33
    subst d_34
    show AW p l e _ s m args below meth c E M_F_item true _ n _ _ _ [(2, v0), (0, v1), (0, v2)] [(1, r_30)] C_32
    exact AW.lret (dc hd_F_item 6 rfl) rfl rfl (Nat.le_of_ble_eq_true rfl) (Nat.le_of_ble_eq_true rfl) ⟨rfl, h⟩
def P_F_hold (n : Nat) (C : Cn) (v0 v1 v2 v3 : Int) (Q : Int → Cn → Prop) : Prop :=
  P_F_isIn n C v1 0 9 (fun (r_1 : Int) => (r_1 = 0 → (okO n v0 9 ∧ (P_F_tell n C v0 0 (fun (r_6 : Int) (C_8 : Cn) => Q r_6 C_8)))) ∧ (¬ r_1 = 0 → (P_F_isPoint n C v2 v3 (fun (r_11 : Int) => (r_11 = 0 → (okO n v0 9 ∧ (P_F_tell n C v0 0 (fun (r_42 : Int) (C_44 : Cn) => Q r_42 C_44)))) ∧ (¬ r_11 = 0 → (okO n v0 9 ∧ (okO n (PT v0.toNat 3) 2 ∧ (P_La_thingAt n C (PT v0.toNat 3) (PT v0.toNat 0) v2 v3 (fun (r_17 : Int) => (r_17 < 200 → ((r_17 < 100 → (okO n (PT (PT v0.toNat 3).toNat 13) 12 ∧ (okI (PT (PT v0.toNat 3).toNat 13) r_17 ∧ (okO n (PT v0.toNat 11) 6 ∧ (P_Sp_fill n C (PT v0.toNat 11) v1 1 (C (PT (PT v0.toNat 3).toNat 13).toNat r_17.toNat) (fun (_ : Int) (C_28 : Cn) => Q 1 C_28)))))) ∧ (¬ r_17 < 100 → (okO n (PT v0.toNat 11) 6 ∧ (P_Sp_fill n C (PT v0.toNat 11) v1 2 (w32 (w32 (1000 * v2) + v3)) (fun (_ : Int) (C_33 : Cn) => Q 1 C_33)))))) ∧ (¬ r_17 < 200 → (okO n (PT v0.toNat 11) 6 ∧ (P_Sp_fill n C (PT v0.toNat 11) v1 3 (w32 (r_17 - 200)) (fun (_ : Int) (C_38 : Cn) => Q 1 C_38)))))))))))))
theorem m_F_hold (l : Launch) (E : Ev) (n : Nat) (C : Cn) (v0 v1 v2 v3 : Int) (Q : Int → Cn → Prop) (h : P_F_hold n C v0 v1 v2 v3 Q) : MA l y_F_hold M_F_hold E true C n [(2, v0), (0, v1), (0, v2), (0, v3)] (fun r C2 n2 => n2 = n ∧ Q r C2) := by
  refine MA.of (by decide) rfl rfl 1 rfl (fun p e s m args below meth c => ?_)
  show AW p l e _ s m args below meth c E M_F_hold true _ n 0 0 0 [(2, v0), (0, v1), (0, v2), (0, v3), (9, 0)] [] C
  unfold P_F_hold at h
  refine AW.iload_n (dc hd_F_hold 0 rfl) rfl ?_
  refine AW.iconst (dc hd_F_hold 1 rfl) (by decide) ?_
  refine AW.bipush (dc hd_F_hold 2 rfl) (by decide) (by decide +kernel) ?_
  refine AW.callS (As := [(0, v1), (0, 0), (0, 9)]) (rest := []) (m_F_isIn l E n C v1 0 9 _ h) cb_9_167 sm_F_isIn (dc hd_F_hold 3 rfl) rfl rfl ⟨Nat.le_of_ble_eq_true rfl, Nat.le_of_ble_eq_true rfl⟩ ⟨(Nat.le_of_ble_eq_true rfl), (Nat.le_of_ble_eq_true rfl)⟩ (Nat.le_of_ble_eq_true rfl) (fun _ h => by cases h) (fun _ => rfl) (fun r_1 D_3 d_4 q_2 => ?_)
  obtain ⟨q_2a, q_2b, h⟩ := q_2
  subst D_3
  subst d_4
  show AW p l e _ s m args below meth c E M_F_hold true _ n _ _ _ [(2, v0), (0, v1), (0, v2), (0, v3), (9, 0)] [(0, r_1)] C
  refine AW.if_eq (t := 18) (dc hd_F_hold 4 rfl) (by decide) (fun c_5 => ?_) (fun c_5 => ?_)
  · have h := h.1 c_5
    refine AW.ra_n (dc hd_F_hold 9 rfl) rfl rfl rfl ?_
    refine AW.iconst (dc hd_F_hold 10 rfl) (by decide) ?_
    obtain ⟨g_7, h⟩ := h
    refine AW.callV (As := [(0, 0)]) (rest := []) (ci := 9) (m_F_tell l E n C v0 0 _ h) cb_9_101 im_F_tell se_F_tell ⟨_, _, rfl⟩ (by decide) (dc hd_F_hold 11 rfl) g_7 rfl rfl ⟨Nat.le_of_ble_eq_true rfl, Nat.le_of_ble_eq_true rfl⟩ ⟨(Nat.le_of_ble_eq_true rfl), (Nat.le_of_ble_eq_true rfl)⟩ (Nat.le_of_ble_eq_true rfl) (fun _ h => by cases h) (fun _ => rfl) (fun r_6 C_8 d_10 q_9 => ?_)
    obtain ⟨q_9a, h⟩ := q_9
    subst d_10
    show AW p l e _ s m args below meth c E M_F_hold true _ n _ _ _ [(2, v0), (0, v1), (0, v2), (0, v3), (9, 0)] [(0, r_6)] C_8
    exact AW.iret (dc hd_F_hold 12 rfl) rfl rfl (Nat.le_of_ble_eq_true rfl) (Nat.le_of_ble_eq_true rfl) ⟨rfl, h⟩
  · have h := h.2 c_5
    refine AW.iload_n (dc hd_F_hold 5 rfl) rfl ?_
    refine AW.iload_n (dc hd_F_hold 6 rfl) rfl ?_
    refine AW.callS (As := [(0, v2), (0, v3)]) (rest := []) (m_F_isPoint l E n C v2 v3 _ h) cb_9_222 sm_F_isPoint (dc hd_F_hold 7 rfl) rfl rfl ⟨Nat.le_of_ble_eq_true rfl, Nat.le_of_ble_eq_true rfl⟩ ⟨(Nat.le_of_ble_eq_true rfl), (Nat.le_of_ble_eq_true rfl)⟩ (Nat.le_of_ble_eq_true rfl) (fun _ h => by cases h) (fun _ => rfl) (fun r_11 D_13 d_14 q_12 => ?_)
    obtain ⟨q_12a, q_12b, h⟩ := q_12
    subst D_13
    subst d_14
    show AW p l e _ s m args below meth c E M_F_hold true _ n _ _ _ [(2, v0), (0, v1), (0, v2), (0, v3), (9, 0)] [(0, r_11)] C
    refine AW.if_ne (t := 24) (dc hd_F_hold 8 rfl) (by decide) (fun c_15 => ?_) (fun c_15 => ?_)
    · have h := h.2 c_15
      refine AW.ra_n (dc hd_F_hold 13 rfl) rfl rfl rfl ?_
      obtain ⟨g_16, h⟩ := h
      refine AW.getp fl_9_25 (dc hd_F_hold 14 rfl) g_16 rfl ?_
      refine AW.ra_n (dc hd_F_hold 15 rfl) rfl rfl rfl ?_
      refine AW.getp fl_9_12 (dc hd_F_hold 16 rfl) g_16 rfl ?_
      refine AW.iload_n (dc hd_F_hold 17 rfl) rfl ?_
      refine AW.iload_n (dc hd_F_hold 18 rfl) rfl ?_
      obtain ⟨g_18, h⟩ := h
      refine AW.callV (As := [(2, PT v0.toNat 0), (0, v2), (0, v3)]) (rest := []) (ci := 2) (m_La_thingAt l E n C (PT v0.toNat 3) (PT v0.toNat 0) v2 v3 _ h) cb_9_229 im_La_thingAt se_La_thingAt ⟨_, _, rfl⟩ (by decide) (dc hd_F_hold 19 rfl) g_18 rfl rfl ⟨Nat.le_of_ble_eq_true rfl, Nat.le_of_ble_eq_true rfl⟩ ⟨(Nat.le_of_ble_eq_true rfl), (Nat.le_of_ble_eq_true rfl)⟩ (Nat.le_of_ble_eq_true rfl) (fun _ h => by cases h) (fun _ => rfl) (fun r_17 D_20 d_21 q_19 => ?_)
      obtain ⟨q_19a, q_19b, h⟩ := q_19
      subst D_20
      subst d_21
      show AW p l e _ s m args below meth c E M_F_hold true _ n _ _ _ [(2, v0), (0, v1), (0, v2), (0, v3), (9, 0)] [(0, r_17)] C
      refine AW.istore [(2, v0), (0, v1), (0, v2), (0, v3), (0, r_17)] (dc hd_F_hold 20 rfl) (Nat.le_of_ble_eq_true rfl) rfl rfl ?_
      refine AW.iload (dc hd_F_hold 21 rfl) rfl ?_
      refine AW.sipush (dc hd_F_hold 22 rfl) (by decide) (by decide +kernel) ?_
      refine AW.icmp_lt (t := 65) (dc hd_F_hold 23 rfl) (by decide) (fun c_22 => ?_) (fun c_22 => ?_)
      · have h := h.1 c_22
        refine AW.iload (dc hd_F_hold 33 rfl) rfl ?_
        refine AW.bipush (dc hd_F_hold 34 rfl) (by decide) (by decide +kernel) ?_
        refine AW.icmp_lt (t := 91) (dc hd_F_hold 35 rfl) (by decide) (fun c_24 => ?_) (fun c_24 => ?_)
        · have h := h.1 c_24
          refine AW.ra_n (dc hd_F_hold 47 rfl) rfl rfl rfl ?_
          refine AW.getp fl_9_78 (dc hd_F_hold 48 rfl) g_16 rfl ?_
          refine AW.iload_n (dc hd_F_hold 49 rfl) rfl ?_
          refine AW.iconst (dc hd_F_hold 50 rfl) (by decide) ?_
          refine AW.ra_n (dc hd_F_hold 51 rfl) rfl rfl rfl ?_
          refine AW.getp fl_9_25 (dc hd_F_hold 52 rfl) g_16 rfl ?_
          refine AW.getp fl_9_400 (dc hd_F_hold 53 rfl) g_18 rfl ?_
          refine AW.iload (dc hd_F_hold 54 rfl) rfl ?_
          obtain ⟨g_25, h⟩ := h
          obtain ⟨g_26, h⟩ := h
          refine AW.iald (dc hd_F_hold 55 rfl) g_25 g_26 ?_
          obtain ⟨g_27, h⟩ := h
          refine AW.callV (As := [(0, v1), (0, 1), (0, C (PT (PT v0.toNat 3).toNat 13).toNat r_17.toNat)]) (rest := []) (ci := 6) (m_Sp_fill l E n C (PT v0.toNat 11) v1 1 (C (PT (PT v0.toNat 3).toNat 13).toNat r_17.toNat) _ h) cb_9_396 im_Sp_fill se_Sp_fill ⟨_, _, rfl⟩ (by decide) (dc hd_F_hold 56 rfl) g_27 rfl rfl ⟨Nat.le_of_ble_eq_true rfl, Nat.le_of_ble_eq_true rfl⟩ ⟨(Nat.le_of_ble_eq_true rfl), (Nat.le_of_ble_eq_true rfl)⟩ (Nat.le_of_ble_eq_true rfl) (fun _ h => by cases h) (fun _ => rfl) (fun u_30 C_28 d_31 q_29 => ?_)
          obtain ⟨q_29a, h⟩ := q_29
          subst d_31
          show AW p l e _ s m args below meth c E M_F_hold true _ n _ _ _ [(2, v0), (0, v1), (0, v2), (0, v3), (0, r_17)] [] C_28
          refine AW.iconst (dc hd_F_hold 57 rfl) (by decide) ?_
          exact AW.iret (dc hd_F_hold 58 rfl) rfl rfl (Nat.le_of_ble_eq_true rfl) (Nat.le_of_ble_eq_true rfl) ⟨rfl, h⟩
        · have h := h.2 c_24
          refine AW.ra_n (dc hd_F_hold 36 rfl) rfl rfl rfl ?_
          refine AW.getp fl_9_78 (dc hd_F_hold 37 rfl) g_16 rfl ?_
          refine AW.iload_n (dc hd_F_hold 38 rfl) rfl ?_
          refine AW.iconst (dc hd_F_hold 39 rfl) (by decide) ?_
          refine AW.sipush (dc hd_F_hold 40 rfl) (by decide) (by decide +kernel) ?_
          refine AW.iload_n (dc hd_F_hold 41 rfl) rfl ?_
          refine AW.imul (dc hd_F_hold 42 rfl) ?_
          refine AW.iload_n (dc hd_F_hold 43 rfl) rfl ?_
          refine AW.iadd (dc hd_F_hold 44 rfl) ?_
          obtain ⟨g_32, h⟩ := h
          refine AW.callV (As := [(0, v1), (0, 2), (0, w32 (w32 (1000 * v2) + v3))]) (rest := []) (ci := 6) (m_Sp_fill l E n C (PT v0.toNat 11) v1 2 (w32 (w32 (1000 * v2) + v3)) _ h) cb_9_396 im_Sp_fill se_Sp_fill ⟨_, _, rfl⟩ (by decide) (dc hd_F_hold 45 rfl) g_32 rfl rfl ⟨Nat.le_of_ble_eq_true rfl, Nat.le_of_ble_eq_true rfl⟩ ⟨(Nat.le_of_ble_eq_true rfl), (Nat.le_of_ble_eq_true rfl)⟩ (Nat.le_of_ble_eq_true rfl) (fun _ h => by cases h) (fun _ => rfl) (fun u_35 C_33 d_36 q_34 => ?_)
          obtain ⟨q_34a, h⟩ := q_34
          subst d_36
          show AW p l e _ s m args below meth c E M_F_hold true _ n _ _ _ [(2, v0), (0, v1), (0, v2), (0, v3), (0, r_17)] [] C_33
          refine AW.goto (t := 110) (dc hd_F_hold 46 rfl) (by decide) ?_
          refine AW.iconst (dc hd_F_hold 57 rfl) (by decide) ?_
          exact AW.iret (dc hd_F_hold 58 rfl) rfl rfl (Nat.le_of_ble_eq_true rfl) (Nat.le_of_ble_eq_true rfl) ⟨rfl, h⟩
      · have h := h.2 c_22
        refine AW.ra_n (dc hd_F_hold 24 rfl) rfl rfl rfl ?_
        refine AW.getp fl_9_78 (dc hd_F_hold 25 rfl) g_16 rfl ?_
        refine AW.iload_n (dc hd_F_hold 26 rfl) rfl ?_
        refine AW.iconst (dc hd_F_hold 27 rfl) (by decide) ?_
        refine AW.iload (dc hd_F_hold 28 rfl) rfl ?_
        refine AW.sipush (dc hd_F_hold 29 rfl) (by decide) (by decide +kernel) ?_
        refine AW.isub (dc hd_F_hold 30 rfl) ?_
        obtain ⟨g_37, h⟩ := h
        refine AW.callV (As := [(0, v1), (0, 3), (0, w32 (r_17 - 200))]) (rest := []) (ci := 6) (m_Sp_fill l E n C (PT v0.toNat 11) v1 3 (w32 (r_17 - 200)) _ h) cb_9_396 im_Sp_fill se_Sp_fill ⟨_, _, rfl⟩ (by decide) (dc hd_F_hold 31 rfl) g_37 rfl rfl ⟨Nat.le_of_ble_eq_true rfl, Nat.le_of_ble_eq_true rfl⟩ ⟨(Nat.le_of_ble_eq_true rfl), (Nat.le_of_ble_eq_true rfl)⟩ (Nat.le_of_ble_eq_true rfl) (fun _ h => by cases h) (fun _ => rfl) (fun u_40 C_38 d_41 q_39 => ?_)
        obtain ⟨q_39a, h⟩ := q_39
        subst d_41
        show AW p l e _ s m args below meth c E M_F_hold true _ n _ _ _ [(2, v0), (0, v1), (0, v2), (0, v3), (0, r_17)] [] C_38
        refine AW.goto (t := 110) (dc hd_F_hold 32 rfl) (by decide) ?_
        refine AW.iconst (dc hd_F_hold 57 rfl) (by decide) ?_
        exact AW.iret (dc hd_F_hold 58 rfl) rfl rfl (Nat.le_of_ble_eq_true rfl) (Nat.le_of_ble_eq_true rfl) ⟨rfl, h⟩
    · have h := h.1 c_15
      refine AW.ra_n (dc hd_F_hold 9 rfl) rfl rfl rfl ?_
      refine AW.iconst (dc hd_F_hold 10 rfl) (by decide) ?_
      obtain ⟨g_43, h⟩ := h
      refine AW.callV (As := [(0, 0)]) (rest := []) (ci := 9) (m_F_tell l E n C v0 0 _ h) cb_9_101 im_F_tell se_F_tell ⟨_, _, rfl⟩ (by decide) (dc hd_F_hold 11 rfl) g_43 rfl rfl ⟨Nat.le_of_ble_eq_true rfl, Nat.le_of_ble_eq_true rfl⟩ ⟨(Nat.le_of_ble_eq_true rfl), (Nat.le_of_ble_eq_true rfl)⟩ (Nat.le_of_ble_eq_true rfl) (fun _ h => by cases h) (fun _ => rfl) (fun r_42 C_44 d_46 q_45 => ?_)
      obtain ⟨q_45a, h⟩ := q_45
      subst d_46
      show AW p l e _ s m args below meth c E M_F_hold true _ n _ _ _ [(2, v0), (0, v1), (0, v2), (0, v3), (9, 0)] [(0, r_42)] C_44
      exact AW.iret (dc hd_F_hold 12 rfl) rfl rfl (Nat.le_of_ble_eq_true rfl) (Nat.le_of_ble_eq_true rfl) ⟨rfl, h⟩
def J_F_isOfKind_81 (n : Nat) (C : Cn) (s0 : Int) (Q : Int → Prop) : Prop :=
  (s0 = 0 ∨ s0 = 1) ∧ (Q s0)
theorem aJ_F_isOfKind_81 (n : Nat) (C : Cn) (s0 : Int) (Q : Int → Prop) (h : J_F_isOfKind_81 n C s0 Q) : AW p l e R s m args below meth c E M_F_isOfKind true (fun r C2 n2 => C2 = C ∧ n2 = n ∧ Q r) n 0 0 81 [(9, 0), (9, 0), (9, 0), (9, 0)] [(0, s0)] C := by
  unfold J_F_isOfKind_81 at h
  obtain ⟨g_23, h⟩ := h
  exact AW.zret (dc hd_F_isOfKind 45 rfl) rfl rfl (Nat.le_of_ble_eq_true rfl) (Nat.le_of_ble_eq_true rfl) g_23 ⟨rfl, rfl, h⟩
def J_F_isOfKind_43 (n : Nat) (C : Cn) (s0 : Int) (Q : Int → Prop) : Prop :=
  (s0 = 0 ∨ s0 = 1) ∧ (Q s0)
theorem aJ_F_isOfKind_43 (n : Nat) (C : Cn) (s0 : Int) (Q : Int → Prop) (h : J_F_isOfKind_43 n C s0 Q) : AW p l e R s m args below meth c E M_F_isOfKind true (fun r C2 n2 => C2 = C ∧ n2 = n ∧ Q r) n 0 0 43 [(9, 0), (9, 0), (9, 0), (9, 0)] [(0, s0)] C := by
  unfold J_F_isOfKind_43 at h
  obtain ⟨g_25, h⟩ := h
  exact AW.zret (dc hd_F_isOfKind 25 rfl) rfl rfl (Nat.le_of_ble_eq_true rfl) (Nat.le_of_ble_eq_true rfl) g_25 ⟨rfl, rfl, h⟩
def J_F_isOfKind_26 (n : Nat) (C : Cn) (s0 : Int) (Q : Int → Prop) : Prop :=
  (s0 = 0 ∨ s0 = 1) ∧ (Q s0)
theorem aJ_F_isOfKind_26 (n : Nat) (C : Cn) (s0 : Int) (Q : Int → Prop) (h : J_F_isOfKind_26 n C s0 Q) : AW p l e R s m args below meth c E M_F_isOfKind true (fun r C2 n2 => C2 = C ∧ n2 = n ∧ Q r) n 0 0 26 [(9, 0), (9, 0), (9, 0), (9, 0)] [(0, s0)] C := by
  unfold J_F_isOfKind_26 at h
  obtain ⟨g_27, h⟩ := h
  exact AW.zret (dc hd_F_isOfKind 15 rfl) rfl rfl (Nat.le_of_ble_eq_true rfl) (Nat.le_of_ble_eq_true rfl) g_27 ⟨rfl, rfl, h⟩
def P_F_isOfKind (n : Nat) (C : Cn) (v0 v1 v2 : Int) (Q : Int → Prop) : Prop :=
  okO n v0 9 ∧ (okO n (PT v0.toNat 11) 6 ∧ (okO n (PT (PT v0.toNat 11).toNat 0) 12 ∧ (okI (PT (PT v0.toNat 11).toNat 0) v1 ∧ (∀ v3_5 : Int, v3_5 = C (PT (PT v0.toNat 11).toNat 0).toNat v1.toNat → ((v2 = 6 → (J_F_isOfKind_26 n C (if v3_5 = 1 then 1 else 0) Q)) ∧ (¬ v2 = 6 → ((v2 = 7 → (J_F_isOfKind_43 n C (if v3_5 = 2 then 1 else 0) Q)) ∧ (¬ v2 = 7 → ((v3_5 = 3 → (okO n (PT v0.toNat 0) 1 ∧ (okO n (PT (PT v0.toNat 11).toNat 1) 12 ∧ (okI (PT (PT v0.toNat 11).toNat 1) v1 ∧ (okO n (PT (PT v0.toNat 0).toNat 0) 16 ∧ (okI (PT (PT v0.toNat 0).toNat 0) (C (PT (PT v0.toNat 11).toNat 1).toNat v1.toNat) ∧ (okO n (PT (PT (PT v0.toNat 0).toNat 0).toNat (C (PT (PT v0.toNat 11).toNat 1).toNat v1.toNat).toNat) 7 ∧ (P_Wa_isUnder n C (C (PT (PT (PT v0.toNat 0).toNat 0).toNat (C (PT (PT v0.toNat 11).toNat 1).toNat v1.toNat).toNat).toNat 0) v2 (fun (r_18 : Int) => J_F_isOfKind_81 n C (if r_18 = 0 then 0 else 1) Q))))))))) ∧ (¬ v3_5 = 3 → (Q 0)))))))))))
theorem m_F_isOfKind (l : Launch) (E : Ev) (n : Nat) (C : Cn) (v0 v1 v2 : Int) (Q : Int → Prop) (h : P_F_isOfKind n C v0 v1 v2 Q) : MA l y_F_isOfKind M_F_isOfKind E true C n [(2, v0), (0, v1), (0, v2)] (fun r C2 n2 => C2 = C ∧ n2 = n ∧ Q r) := by
  refine MA.of (by decide) rfl rfl 1 rfl (fun p e s m args below meth c => ?_)
  show AW p l e _ s m args below meth c E M_F_isOfKind true _ n 0 0 0 [(2, v0), (0, v1), (0, v2), (9, 0)] [] C
  unfold P_F_isOfKind at h
  refine AW.ra_n (dc hd_F_isOfKind 0 rfl) rfl rfl rfl ?_
  obtain ⟨g_1, h⟩ := h
  refine AW.getp fl_9_78 (dc hd_F_isOfKind 1 rfl) g_1 rfl ?_
  obtain ⟨g_2, h⟩ := h
  refine AW.getp fl_9_439 (dc hd_F_isOfKind 2 rfl) g_2 rfl ?_
  refine AW.iload_n (dc hd_F_isOfKind 3 rfl) rfl ?_
  obtain ⟨g_3, h⟩ := h
  obtain ⟨g_4, h⟩ := h
  refine AW.iald (dc hd_F_isOfKind 4 rfl) g_3 g_4 ?_
  refine AW.nm (fun v3_5 ev3_5 => ?_)
  have h := h v3_5 ev3_5
  refine AW.istore_n [(2, v0), (0, v1), (0, v2), (0, v3_5)] (dc hd_F_isOfKind 5 rfl) (Nat.le_of_ble_eq_true rfl) rfl rfl ?_
  refine AW.iload_n (dc hd_F_isOfKind 6 rfl) rfl ?_
  refine AW.bipush (dc hd_F_isOfKind 7 rfl) (by decide) (by decide +kernel) ?_
  refine AW.icmp_ne (t := 27) (dc hd_F_isOfKind 8 rfl) (by decide) (fun c_6 => ?_) (fun c_6 => ?_)
  · have h := h.2 c_6
    refine AW.iload_n (dc hd_F_isOfKind 16 rfl) rfl ?_
    refine AW.bipush (dc hd_F_isOfKind 17 rfl) (by decide) (by decide +kernel) ?_
    refine AW.icmp_ne (t := 44) (dc hd_F_isOfKind 18 rfl) (by decide) (fun c_9 => ?_) (fun c_9 => ?_)
    · have h := h.2 c_9
      refine AW.iload_n (dc hd_F_isOfKind 26 rfl) rfl ?_
      refine AW.iconst (dc hd_F_isOfKind 27 rfl) (by decide) ?_
      refine AW.icmp_ne (t := 80) (dc hd_F_isOfKind 28 rfl) (by decide) (fun c_11 => ?_) (fun c_11 => ?_)
      · have h := h.2 c_11
        refine AW.iconst (dc hd_F_isOfKind 44 rfl) (by decide) ?_
        exact AW.zret (dc hd_F_isOfKind 45 rfl) rfl rfl (Nat.le_of_ble_eq_true rfl) (Nat.le_of_ble_eq_true rfl) (by decide) ⟨rfl, rfl, h⟩
      · have h := h.1 c_11
        refine AW.ra_n (dc hd_F_isOfKind 29 rfl) rfl rfl rfl ?_
        refine AW.getp fl_9_12 (dc hd_F_isOfKind 30 rfl) g_1 rfl ?_
        obtain ⟨g_12, h⟩ := h
        refine AW.getp fl_9_128 (dc hd_F_isOfKind 31 rfl) g_12 rfl ?_
        refine AW.ra_n (dc hd_F_isOfKind 32 rfl) rfl rfl rfl ?_
        refine AW.getp fl_9_78 (dc hd_F_isOfKind 33 rfl) g_1 rfl ?_
        refine AW.getp fl_9_409 (dc hd_F_isOfKind 34 rfl) g_2 rfl ?_
        refine AW.iload_n (dc hd_F_isOfKind 35 rfl) rfl ?_
        obtain ⟨g_13, h⟩ := h
        obtain ⟨g_14, h⟩ := h
        refine AW.iald (dc hd_F_isOfKind 36 rfl) g_13 g_14 ?_
        obtain ⟨g_15, h⟩ := h
        obtain ⟨g_16, h⟩ := h
        refine AW.aaldp (by decide) (dc hd_F_isOfKind 37 rfl) g_15 g_16 rfl ?_
        obtain ⟨g_17, h⟩ := h
        refine AW.getf fl_9_132 (dc hd_F_isOfKind 38 rfl) g_17 ?_
        refine AW.iload_n (dc hd_F_isOfKind 39 rfl) rfl ?_
        refine AW.callS (As := [(0, C (PT (PT (PT v0.toNat 0).toNat 0).toNat (C (PT (PT v0.toNat 11).toNat 1).toNat v1.toNat).toNat).toNat 0), (0, v2)]) (rest := []) (m_Wa_isUnder l E n C (C (PT (PT (PT v0.toNat 0).toNat 0).toNat (C (PT (PT v0.toNat 11).toNat 1).toNat v1.toNat).toNat).toNat 0) v2 _ h) cb_9_442 sm_Wa_isUnder (dc hd_F_isOfKind 40 rfl) rfl rfl ⟨Nat.le_of_ble_eq_true rfl, Nat.le_of_ble_eq_true rfl⟩ ⟨(Nat.le_of_ble_eq_true rfl), (Nat.le_of_ble_eq_true rfl)⟩ (Nat.le_of_ble_eq_true rfl) (fun _ h => by cases h) (fun _ => rfl) (fun r_18 D_20 d_21 q_19 => ?_)
        obtain ⟨q_19a, q_19b, h⟩ := q_19
        subst D_20
        subst d_21
        show AW p l e _ s m args below meth c E M_F_isOfKind true _ n _ _ _ [(2, v0), (0, v1), (0, v2), (0, v3_5)] [(0, r_18)] C
        refine AW.if_eq (t := 80) (dc hd_F_isOfKind 41 rfl) (by decide) (fun c_22 => ?_) (fun c_22 => ?_)
        · simp only [if_pos (show r_18 = 0 from c_22)] at h
          refine AW.iconst (dc hd_F_isOfKind 44 rfl) (by decide) ?_
          refine AW.fgt [(9, 0), (9, 0), (9, 0), (9, 0)] ⟨.inr rfl, .inr rfl, .inr rfl, .inr rfl, trivial⟩ ?_
          exact aJ_F_isOfKind_81 n C _ Q h
        · simp only [if_neg (show ¬ (r_18 = 0) from c_22)] at h
          refine AW.iconst (dc hd_F_isOfKind 42 rfl) (by decide) ?_
          refine AW.goto (t := 81) (dc hd_F_isOfKind 43 rfl) (by decide) ?_
          refine AW.fgt [(9, 0), (9, 0), (9, 0), (9, 0)] ⟨.inr rfl, .inr rfl, .inr rfl, .inr rfl, trivial⟩ ?_
          exact aJ_F_isOfKind_81 n C _ Q h
    · have h := h.1 c_9
      refine AW.iload_n (dc hd_F_isOfKind 19 rfl) rfl ?_
      refine AW.iconst (dc hd_F_isOfKind 20 rfl) (by decide) ?_
      refine AW.icmp_ne (t := 42) (dc hd_F_isOfKind 21 rfl) (by decide) (fun c_24 => ?_) (fun c_24 => ?_)
      · simp only [if_neg (show ¬ (v3_5 = 2) from c_24)] at h
        refine AW.iconst (dc hd_F_isOfKind 24 rfl) (by decide) ?_
        refine AW.fgt [(9, 0), (9, 0), (9, 0), (9, 0)] ⟨.inr rfl, .inr rfl, .inr rfl, .inr rfl, trivial⟩ ?_
        exact aJ_F_isOfKind_43 n C _ Q h
      · simp only [if_pos (show v3_5 = 2 from c_24)] at h
        refine AW.iconst (dc hd_F_isOfKind 22 rfl) (by decide) ?_
        refine AW.goto (t := 43) (dc hd_F_isOfKind 23 rfl) (by decide) ?_
        refine AW.fgt [(9, 0), (9, 0), (9, 0), (9, 0)] ⟨.inr rfl, .inr rfl, .inr rfl, .inr rfl, trivial⟩ ?_
        exact aJ_F_isOfKind_43 n C _ Q h
  · have h := h.1 c_6
    refine AW.iload_n (dc hd_F_isOfKind 9 rfl) rfl ?_
    refine AW.iconst (dc hd_F_isOfKind 10 rfl) (by decide) ?_
    refine AW.icmp_ne (t := 25) (dc hd_F_isOfKind 11 rfl) (by decide) (fun c_26 => ?_) (fun c_26 => ?_)
    · simp only [if_neg (show ¬ (v3_5 = 1) from c_26)] at h
      refine AW.iconst (dc hd_F_isOfKind 14 rfl) (by decide) ?_
      refine AW.fgt [(9, 0), (9, 0), (9, 0), (9, 0)] ⟨.inr rfl, .inr rfl, .inr rfl, .inr rfl, trivial⟩ ?_
      exact aJ_F_isOfKind_26 n C _ Q h
    · simp only [if_pos (show v3_5 = 1 from c_26)] at h
      refine AW.iconst (dc hd_F_isOfKind 12 rfl) (by decide) ?_
      refine AW.goto (t := 26) (dc hd_F_isOfKind 13 rfl) (by decide) ?_
      refine AW.fgt [(9, 0), (9, 0), (9, 0), (9, 0)] ⟨.inr rfl, .inr rfl, .inr rfl, .inr rfl, trivial⟩ ?_
      exact aJ_F_isOfKind_26 n C _ Q h
def P_F_taken (n : Nat) (C : Cn) (v0 v1 v2 : Int) (Q : Int → Cn → Prop) : Prop :=
  P_F_isIn n C v1 0 9 (fun (r_1 : Int) => (r_1 = 0 → (okO n v0 9 ∧ (P_F_tell n C v0 0 (fun (r_6 : Int) (C_8 : Cn) => Q r_6 C_8)))) ∧ (¬ r_1 = 0 → (P_F_isIn n C v2 0 7 (fun (r_11 : Int) => (r_11 = 0 → (okO n v0 9 ∧ (P_F_tell n C v0 0 (fun (r_39 : Int) (C_41 : Cn) => Q r_39 C_41)))) ∧ (¬ r_11 = 0 → (okO n v0 9 ∧ (okO n (PT v0.toNat 0) 1 ∧ (okO n (PT v0.toNat 11) 6 ∧ (P_Sp_isFull n C (PT v0.toNat 11) v1 (C (PT v0.toNat 0).toNat 1) (fun (r_18 : Int) => (r_18 = 0 → (P_F_tell n C v0 5 (fun (r_35 : Int) (C_36 : Cn) => Q r_35 C_36))) ∧ (¬ r_18 = 0 → (P_F_isOfKind n C v0 v1 v2 (fun (r_24 : Int) => (r_24 = 0 → (P_F_tell n C v0 2 (fun (r_31 : Int) (C_32 : Cn) => Q r_31 C_32))) ∧ (¬ r_24 = 0 → (okO n (PT (PT v0.toNat 11).toNat 1) 12 ∧ (okI (PT (PT v0.toNat 11).toNat 1) v1 ∧ (Q (C (PT (PT v0.toNat 11).toNat 1).toNat v1.toNat) C)))))))))))))))))
theorem m_F_taken (l : Launch) (E : Ev) (n : Nat) (C : Cn) (v0 v1 v2 : Int) (Q : Int → Cn → Prop) (h : P_F_taken n C v0 v1 v2 Q) : MA l y_F_taken M_F_taken E true C n [(2, v0), (0, v1), (0, v2)] (fun r C2 n2 => n2 = n ∧ Q r C2) := by
  refine MA.of (by decide) rfl rfl 0 rfl (fun p e s m args below meth c => ?_)
  show AW p l e _ s m args below meth c E M_F_taken true _ n 0 0 0 [(2, v0), (0, v1), (0, v2)] [] C
  unfold P_F_taken at h
  refine AW.iload_n (dc hd_F_taken 0 rfl) rfl ?_
  refine AW.iconst (dc hd_F_taken 1 rfl) (by decide) ?_
  refine AW.bipush (dc hd_F_taken 2 rfl) (by decide) (by decide +kernel) ?_
  refine AW.callS (As := [(0, v1), (0, 0), (0, 9)]) (rest := []) (m_F_isIn l E n C v1 0 9 _ h) cb_9_167 sm_F_isIn (dc hd_F_taken 3 rfl) rfl rfl ⟨Nat.le_of_ble_eq_true rfl, Nat.le_of_ble_eq_true rfl⟩ ⟨(Nat.le_of_ble_eq_true rfl), (Nat.le_of_ble_eq_true rfl)⟩ (Nat.le_of_ble_eq_true rfl) (fun _ h => by cases h) (fun _ => rfl) (fun r_1 D_3 d_4 q_2 => ?_)
  obtain ⟨q_2a, q_2b, h⟩ := q_2
  subst D_3
  subst d_4
  show AW p l e _ s m args below meth c E M_F_taken true _ n _ _ _ [(2, v0), (0, v1), (0, v2)] [(0, r_1)] C
  refine AW.if_eq (t := 20) (dc hd_F_taken 4 rfl) (by decide) (fun c_5 => ?_) (fun c_5 => ?_)
  · have h := h.1 c_5
    refine AW.ra_n (dc hd_F_taken 10 rfl) rfl rfl rfl ?_
    refine AW.iconst (dc hd_F_taken 11 rfl) (by decide) ?_
    obtain ⟨g_7, h⟩ := h
    refine AW.callV (As := [(0, 0)]) (rest := []) (ci := 9) (m_F_tell l E n C v0 0 _ h) cb_9_101 im_F_tell se_F_tell ⟨_, _, rfl⟩ (by decide) (dc hd_F_taken 12 rfl) g_7 rfl rfl ⟨Nat.le_of_ble_eq_true rfl, Nat.le_of_ble_eq_true rfl⟩ ⟨(Nat.le_of_ble_eq_true rfl), (Nat.le_of_ble_eq_true rfl)⟩ (Nat.le_of_ble_eq_true rfl) (fun _ h => by cases h) (fun _ => rfl) (fun r_6 C_8 d_10 q_9 => ?_)
    obtain ⟨q_9a, h⟩ := q_9
    subst d_10
    show AW p l e _ s m args below meth c E M_F_taken true _ n _ _ _ [(2, v0), (0, v1), (0, v2)] [(0, r_6)] C_8
    exact AW.iret (dc hd_F_taken 13 rfl) rfl rfl (Nat.le_of_ble_eq_true rfl) (Nat.le_of_ble_eq_true rfl) ⟨rfl, h⟩
  · have h := h.2 c_5
    refine AW.iload_n (dc hd_F_taken 5 rfl) rfl ?_
    refine AW.iconst (dc hd_F_taken 6 rfl) (by decide) ?_
    refine AW.bipush (dc hd_F_taken 7 rfl) (by decide) (by decide +kernel) ?_
    refine AW.callS (As := [(0, v2), (0, 0), (0, 7)]) (rest := []) (m_F_isIn l E n C v2 0 7 _ h) cb_9_167 sm_F_isIn (dc hd_F_taken 8 rfl) rfl rfl ⟨Nat.le_of_ble_eq_true rfl, Nat.le_of_ble_eq_true rfl⟩ ⟨(Nat.le_of_ble_eq_true rfl), (Nat.le_of_ble_eq_true rfl)⟩ (Nat.le_of_ble_eq_true rfl) (fun _ h => by cases h) (fun _ => rfl) (fun r_11 D_13 d_14 q_12 => ?_)
    obtain ⟨q_12a, q_12b, h⟩ := q_12
    subst D_13
    subst d_14
    show AW p l e _ s m args below meth c E M_F_taken true _ n _ _ _ [(2, v0), (0, v1), (0, v2)] [(0, r_11)] C
    refine AW.if_ne (t := 26) (dc hd_F_taken 9 rfl) (by decide) (fun c_15 => ?_) (fun c_15 => ?_)
    · have h := h.2 c_15
      refine AW.ra_n (dc hd_F_taken 14 rfl) rfl rfl rfl ?_
      obtain ⟨g_16, h⟩ := h
      refine AW.getp fl_9_78 (dc hd_F_taken 15 rfl) g_16 rfl ?_
      refine AW.iload_n (dc hd_F_taken 16 rfl) rfl ?_
      refine AW.ra_n (dc hd_F_taken 17 rfl) rfl rfl rfl ?_
      refine AW.getp fl_9_12 (dc hd_F_taken 18 rfl) g_16 rfl ?_
      obtain ⟨g_17, h⟩ := h
      refine AW.getf fl_9_105 (dc hd_F_taken 19 rfl) g_17 ?_
      obtain ⟨g_19, h⟩ := h
      refine AW.callV (As := [(0, v1), (0, C (PT v0.toNat 0).toNat 1)]) (rest := []) (ci := 6) (m_Sp_isFull l E n C (PT v0.toNat 11) v1 (C (PT v0.toNat 0).toNat 1) _ h) cb_9_403 im_Sp_isFull se_Sp_isFull ⟨_, _, rfl⟩ (by decide) (dc hd_F_taken 20 rfl) g_19 rfl rfl ⟨Nat.le_of_ble_eq_true rfl, Nat.le_of_ble_eq_true rfl⟩ ⟨(Nat.le_of_ble_eq_true rfl), (Nat.le_of_ble_eq_true rfl)⟩ (Nat.le_of_ble_eq_true rfl) (fun _ h => by cases h) (fun _ => rfl) (fun r_18 D_21 d_22 q_20 => ?_)
      obtain ⟨q_20a, q_20b, h⟩ := q_20
      subst D_21
      subst d_22
      show AW p l e _ s m args below meth c E M_F_taken true _ n _ _ _ [(2, v0), (0, v1), (0, v2)] [(0, r_18)] C
      refine AW.if_ne (t := 50) (dc hd_F_taken 21 rfl) (by decide) (fun c_23 => ?_) (fun c_23 => ?_)
      · have h := h.2 c_23
        refine AW.ra_n (dc hd_F_taken 26 rfl) rfl rfl rfl ?_
        refine AW.iload_n (dc hd_F_taken 27 rfl) rfl ?_
        refine AW.iload_n (dc hd_F_taken 28 rfl) rfl ?_
        refine AW.callV (As := [(0, v1), (0, v2)]) (rest := []) (ci := 9) (m_F_isOfKind l E n C v0 v1 v2 _ h) cb_9_406 im_F_isOfKind se_F_isOfKind ⟨_, _, rfl⟩ (by decide) (dc hd_F_taken 29 rfl) g_16 rfl rfl ⟨Nat.le_of_ble_eq_true rfl, Nat.le_of_ble_eq_true rfl⟩ ⟨(Nat.le_of_ble_eq_true rfl), (Nat.le_of_ble_eq_true rfl)⟩ (Nat.le_of_ble_eq_true rfl) (fun _ h => by cases h) (fun _ => rfl) (fun r_24 D_26 d_27 q_25 => ?_)
        obtain ⟨q_25a, q_25b, h⟩ := q_25
        subst D_26
        subst d_27
        show AW p l e _ s m args below meth c E M_F_taken true _ n _ _ _ [(2, v0), (0, v1), (0, v2)] [(0, r_24)] C
        refine AW.if_ne (t := 65) (dc hd_F_taken 30 rfl) (by decide) (fun c_28 => ?_) (fun c_28 => ?_)
        · have h := h.2 c_28
          refine AW.ra_n (dc hd_F_taken 35 rfl) rfl rfl rfl ?_
          refine AW.getp fl_9_78 (dc hd_F_taken 36 rfl) g_16 rfl ?_
          refine AW.getp fl_9_409 (dc hd_F_taken 37 rfl) g_19 rfl ?_
          refine AW.iload_n (dc hd_F_taken 38 rfl) rfl ?_
          obtain ⟨g_29, h⟩ := h
          obtain ⟨g_30, h⟩ := h
          refine AW.iald (dc hd_F_taken 39 rfl) g_29 g_30 ?_
          exact AW.iret (dc hd_F_taken 40 rfl) rfl rfl (Nat.le_of_ble_eq_true rfl) (Nat.le_of_ble_eq_true rfl) ⟨rfl, h⟩
        · have h := h.1 c_28
          refine AW.ra_n (dc hd_F_taken 31 rfl) rfl rfl rfl ?_
          refine AW.iconst (dc hd_F_taken 32 rfl) (by decide) ?_
          refine AW.callV (As := [(0, 2)]) (rest := []) (ci := 9) (m_F_tell l E n C v0 2 _ h) cb_9_101 im_F_tell se_F_tell ⟨_, _, rfl⟩ (by decide) (dc hd_F_taken 33 rfl) g_16 rfl rfl ⟨Nat.le_of_ble_eq_true rfl, Nat.le_of_ble_eq_true rfl⟩ ⟨(Nat.le_of_ble_eq_true rfl), (Nat.le_of_ble_eq_true rfl)⟩ (Nat.le_of_ble_eq_true rfl) (fun _ h => by cases h) (fun _ => rfl) (fun r_31 C_32 d_34 q_33 => ?_)
          obtain ⟨q_33a, h⟩ := q_33
          subst d_34
          show AW p l e _ s m args below meth c E M_F_taken true _ n _ _ _ [(2, v0), (0, v1), (0, v2)] [(0, r_31)] C_32
          exact AW.iret (dc hd_F_taken 34 rfl) rfl rfl (Nat.le_of_ble_eq_true rfl) (Nat.le_of_ble_eq_true rfl) ⟨rfl, h⟩
      · have h := h.1 c_23
        refine AW.ra_n (dc hd_F_taken 22 rfl) rfl rfl rfl ?_
        refine AW.iconst (dc hd_F_taken 23 rfl) (by decide) ?_
        refine AW.callV (As := [(0, 5)]) (rest := []) (ci := 9) (m_F_tell l E n C v0 5 _ h) cb_9_101 im_F_tell se_F_tell ⟨_, _, rfl⟩ (by decide) (dc hd_F_taken 24 rfl) g_16 rfl rfl ⟨Nat.le_of_ble_eq_true rfl, Nat.le_of_ble_eq_true rfl⟩ ⟨(Nat.le_of_ble_eq_true rfl), (Nat.le_of_ble_eq_true rfl)⟩ (Nat.le_of_ble_eq_true rfl) (fun _ h => by cases h) (fun _ => rfl) (fun r_35 C_36 d_38 q_37 => ?_)
        obtain ⟨q_37a, h⟩ := q_37
        subst d_38
        show AW p l e _ s m args below meth c E M_F_taken true _ n _ _ _ [(2, v0), (0, v1), (0, v2)] [(0, r_35)] C_36
        exact AW.iret (dc hd_F_taken 25 rfl) rfl rfl (Nat.le_of_ble_eq_true rfl) (Nat.le_of_ble_eq_true rfl) ⟨rfl, h⟩
    · have h := h.1 c_15
      refine AW.ra_n (dc hd_F_taken 10 rfl) rfl rfl rfl ?_
      refine AW.iconst (dc hd_F_taken 11 rfl) (by decide) ?_
      obtain ⟨g_40, h⟩ := h
      refine AW.callV (As := [(0, 0)]) (rest := []) (ci := 9) (m_F_tell l E n C v0 0 _ h) cb_9_101 im_F_tell se_F_tell ⟨_, _, rfl⟩ (by decide) (dc hd_F_taken 12 rfl) g_40 rfl rfl ⟨Nat.le_of_ble_eq_true rfl, Nat.le_of_ble_eq_true rfl⟩ ⟨(Nat.le_of_ble_eq_true rfl), (Nat.le_of_ble_eq_true rfl)⟩ (Nat.le_of_ble_eq_true rfl) (fun _ h => by cases h) (fun _ => rfl) (fun r_39 C_41 d_43 q_42 => ?_)
      obtain ⟨q_42a, h⟩ := q_42
      subst d_43
      show AW p l e _ s m args below meth c E M_F_taken true _ n _ _ _ [(2, v0), (0, v1), (0, v2)] [(0, r_39)] C_41
      exact AW.iret (dc hd_F_taken 13 rfl) rfl rfl (Nat.le_of_ble_eq_true rfl) (Nat.le_of_ble_eq_true rfl) ⟨rfl, h⟩
def P_F_image (n : Nat) (C : Cn) (v0 : Int) (Q : Int → Cn → Prop) : Prop :=
  okO n v0 9 ∧ (okO n (PT v0.toNat 1) 1 ∧ (P_Es_takeAll n C (PT v0.toNat 1) (PT v0.toNat 0) (fun (_ : Int) (C_3 : Cn) => ∀ C_7 : Cn, C_7 = wr C_3 v0.toNat 15 1 → (Q 1 C_7))))
theorem m_F_image (l : Launch) (E : Ev) (n : Nat) (C : Cn) (v0 : Int) (Q : Int → Cn → Prop) (h : P_F_image n C v0 Q) : MA l y_F_image M_F_image E true C n [(2, v0)] (fun r C2 n2 => n2 = n ∧ Q r C2) := by
  refine MA.of (by decide) rfl rfl 0 rfl (fun p e s m args below meth c => ?_)
  show AW p l e _ s m args below meth c E M_F_image true _ n 0 0 0 [(2, v0)] [] C
  unfold P_F_image at h
  refine AW.ra_n (dc hd_F_image 0 rfl) rfl rfl rfl ?_
  obtain ⟨g_1, h⟩ := h
  refine AW.getp fl_9_16 (dc hd_F_image 1 rfl) g_1 rfl ?_
  refine AW.ra_n (dc hd_F_image 2 rfl) rfl rfl rfl ?_
  refine AW.getp fl_9_12 (dc hd_F_image 3 rfl) g_1 rfl ?_
  obtain ⟨g_2, h⟩ := h
  refine AW.callV (As := [(2, PT v0.toNat 0)]) (rest := []) (ci := 1) (m_Es_takeAll l E n C (PT v0.toNat 1) (PT v0.toNat 0) _ h) cb_9_268 im_Es_takeAll se_Es_takeAll ⟨_, _, rfl⟩ (by decide) (dc hd_F_image 4 rfl) g_2 rfl rfl ⟨Nat.le_of_ble_eq_true rfl, Nat.le_of_ble_eq_true rfl⟩ ⟨(Nat.le_of_ble_eq_true rfl), (Nat.le_of_ble_eq_true rfl)⟩ (Nat.le_of_ble_eq_true rfl) (fun _ h => by cases h) (fun _ => rfl) (fun u_5 C_3 d_6 q_4 => ?_)
  obtain ⟨q_4a, h⟩ := q_4
  subst d_6
  show AW p l e _ s m args below meth c E M_F_image true _ n _ _ _ [(2, v0)] [] C_3
  refine AW.ra_n (dc hd_F_image 5 rfl) rfl rfl rfl ?_
  refine AW.iconst (dc hd_F_image 6 rfl) (by decide) ?_
  refine AW.nputZ fl_9_412 (dc hd_F_image 7 rfl) g_1 (by decide) (fun C_7 eC_7 => ?_)
  have h := h C_7 eC_7
  refine AW.iconst (dc hd_F_image 8 rfl) (by decide) ?_
  exact AW.iret (dc hd_F_image 9 rfl) rfl rfl (Nat.le_of_ble_eq_true rfl) (Nat.le_of_ble_eq_true rfl) ⟨rfl, h⟩
def P_F_back (n : Nat) (C : Cn) (v0 : Int) (Q : Int → Cn → Prop) : Prop :=
  okO n v0 9 ∧ ((C v0.toNat 15 = 0 → (P_F_tell n C v0 3 (fun (r_12 : Int) (C_13 : Cn) => Q r_12 C_13))) ∧ (¬ C v0.toNat 15 = 0 → (okO n (PT v0.toNat 0) 1 ∧ (P_Es_takeAll n C (PT v0.toNat 0) (PT v0.toNat 1) (fun (_ : Int) (C_4 : Cn) => P_F_settle n C_4 v0 (fun (_ : Int) (C_8 : Cn) => Q (C_8 (PT v0.toNat 0).toNat 1) C_8))))))
theorem m_F_back (l : Launch) (E : Ev) (n : Nat) (C : Cn) (v0 : Int) (Q : Int → Cn → Prop) (h : P_F_back n C v0 Q) : MA l y_F_back M_F_back E true C n [(2, v0)] (fun r C2 n2 => n2 = n ∧ Q r C2) := by
  refine MA.of (by decide) rfl rfl 0 rfl (fun p e s m args below meth c => ?_)
  show AW p l e _ s m args below meth c E M_F_back true _ n 0 0 0 [(2, v0)] [] C
  unfold P_F_back at h
  refine AW.ra_n (dc hd_F_back 0 rfl) rfl rfl rfl ?_
  obtain ⟨g_1, h⟩ := h
  refine AW.getf fl_9_412 (dc hd_F_back 1 rfl) g_1 ?_
  refine AW.if_ne (t := 13) (dc hd_F_back 2 rfl) (by decide) (fun c_2 => ?_) (fun c_2 => ?_)
  · have h := h.2 c_2
    refine AW.ra_n (dc hd_F_back 7 rfl) rfl rfl rfl ?_
    refine AW.getp fl_9_12 (dc hd_F_back 8 rfl) g_1 rfl ?_
    refine AW.ra_n (dc hd_F_back 9 rfl) rfl rfl rfl ?_
    refine AW.getp fl_9_16 (dc hd_F_back 10 rfl) g_1 rfl ?_
    obtain ⟨g_3, h⟩ := h
    refine AW.callV (As := [(2, PT v0.toNat 1)]) (rest := []) (ci := 1) (m_Es_takeAll l E n C (PT v0.toNat 0) (PT v0.toNat 1) _ h) cb_9_268 im_Es_takeAll se_Es_takeAll ⟨_, _, rfl⟩ (by decide) (dc hd_F_back 11 rfl) g_3 rfl rfl ⟨Nat.le_of_ble_eq_true rfl, Nat.le_of_ble_eq_true rfl⟩ ⟨(Nat.le_of_ble_eq_true rfl), (Nat.le_of_ble_eq_true rfl)⟩ (Nat.le_of_ble_eq_true rfl) (fun _ h => by cases h) (fun _ => rfl) (fun u_6 C_4 d_7 q_5 => ?_)
    obtain ⟨q_5a, h⟩ := q_5
    subst d_7
    show AW p l e _ s m args below meth c E M_F_back true _ n _ _ _ [(2, v0)] [] C_4
    refine AW.ra_n (dc hd_F_back 12 rfl) rfl rfl rfl ?_
    refine AW.callV (As := []) (rest := []) (ci := 9) (m_F_settle l E n C_4 v0 _ h) cb_9_90 im_F_settle se_F_settle ⟨_, _, rfl⟩ (by decide) (dc hd_F_back 13 rfl) g_1 rfl rfl ⟨Nat.le_of_ble_eq_true rfl, Nat.le_of_ble_eq_true rfl⟩ ⟨(Nat.le_of_ble_eq_true rfl), (Nat.le_of_ble_eq_true rfl)⟩ (Nat.le_of_ble_eq_true rfl) (fun _ h => by cases h) (fun _ => rfl) (fun u_10 C_8 d_11 q_9 => ?_)
    obtain ⟨q_9a, h⟩ := q_9
    subst d_11
    show AW p l e _ s m args below meth c E M_F_back true _ n _ _ _ [(2, v0)] [] C_8
    refine AW.ra_n (dc hd_F_back 14 rfl) rfl rfl rfl ?_
    refine AW.getp fl_9_12 (dc hd_F_back 15 rfl) g_1 rfl ?_
    refine AW.getf fl_9_105 (dc hd_F_back 16 rfl) g_3 ?_
    exact AW.iret (dc hd_F_back 17 rfl) rfl rfl (Nat.le_of_ble_eq_true rfl) (Nat.le_of_ble_eq_true rfl) ⟨rfl, h⟩
  · have h := h.1 c_2
    refine AW.ra_n (dc hd_F_back 3 rfl) rfl rfl rfl ?_
    refine AW.iconst (dc hd_F_back 4 rfl) (by decide) ?_
    refine AW.callV (As := [(0, 3)]) (rest := []) (ci := 9) (m_F_tell l E n C v0 3 _ h) cb_9_101 im_F_tell se_F_tell ⟨_, _, rfl⟩ (by decide) (dc hd_F_back 5 rfl) g_1 rfl rfl ⟨Nat.le_of_ble_eq_true rfl, Nat.le_of_ble_eq_true rfl⟩ ⟨(Nat.le_of_ble_eq_true rfl), (Nat.le_of_ble_eq_true rfl)⟩ (Nat.le_of_ble_eq_true rfl) (fun _ h => by cases h) (fun _ => rfl) (fun r_12 C_13 d_15 q_14 => ?_)
    obtain ⟨q_14a, h⟩ := q_14
    subst d_15
    show AW p l e _ s m args below meth c E M_F_back true _ n _ _ _ [(2, v0)] [(0, r_12)] C_13
    exact AW.iret (dc hd_F_back 6 rfl) rfl rfl (Nat.le_of_ble_eq_true rfl) (Nat.le_of_ble_eq_true rfl) ⟨rfl, h⟩
def P_F_ledgerAsInt (n : Nat) (C : Cn) (v0 : Int) (Q : Int → Cn → Prop) : Prop :=
  okO n v0 9 ∧ (okO n (PT v0.toNat 0) 1 ∧ ((C (PT v0.toNat 0).toNat 3 < (-2147483648) → (P_F_tell n C v0 7 (fun (r_4 : Int) (C_5 : Cn) => Q r_4 C_5))) ∧ (¬ C (PT v0.toNat 0).toNat 3 < (-2147483648) → ((C (PT v0.toNat 0).toNat 3 ≤ 2147483647 → (Q (w32 (C (PT v0.toNat 0).toNat 3)) C)) ∧ (¬ C (PT v0.toNat 0).toNat 3 ≤ 2147483647 → (P_F_tell n C v0 7 (fun (r_9 : Int) (C_10 : Cn) => Q r_9 C_10)))))))
theorem m_F_ledgerAsInt (l : Launch) (E : Ev) (n : Nat) (C : Cn) (v0 : Int) (Q : Int → Cn → Prop) (h : P_F_ledgerAsInt n C v0 Q) : MA l y_F_ledgerAsInt M_F_ledgerAsInt E true C n [(2, v0)] (fun r C2 n2 => n2 = n ∧ Q r C2) := by
  refine MA.of (by decide) rfl rfl 0 rfl (fun p e s m args below meth c => ?_)
  show AW p l e _ s m args below meth c E M_F_ledgerAsInt true _ n 0 0 0 [(2, v0)] [] C
  unfold P_F_ledgerAsInt at h
  refine AW.ra_n (dc hd_F_ledgerAsInt 0 rfl) rfl rfl rfl ?_
  obtain ⟨g_1, h⟩ := h
  refine AW.getp fl_9_12 (dc hd_F_ledgerAsInt 1 rfl) g_1 rfl ?_
  obtain ⟨g_2, h⟩ := h
  refine AW.getf fl_9_335 (dc hd_F_ledgerAsInt 2 rfl) g_2 ?_
  refine AW.ldc2 (v := -2147483648) (dc hd_F_ledgerAsInt 3 rfl) ck_9_445 (by decide) rfl ?_
  refine AW.lc (dc hd_F_ledgerAsInt 4 rfl) ?_
  refine AW.if_lt (t := 28) (dc hd_F_ledgerAsInt 5 rfl) (by decide) (fun c_3 => ?_) (fun c_3 => ?_)
  · replace c_3 := (lc_lt _ _).mp c_3
    have h := h.1 c_3
    refine AW.ra_n (dc hd_F_ledgerAsInt 12 rfl) rfl rfl rfl ?_
    refine AW.bipush (dc hd_F_ledgerAsInt 13 rfl) (by decide) (by decide +kernel) ?_
    refine AW.callV (As := [(0, 7)]) (rest := []) (ci := 9) (m_F_tell l E n C v0 7 _ h) cb_9_101 im_F_tell se_F_tell ⟨_, _, rfl⟩ (by decide) (dc hd_F_ledgerAsInt 14 rfl) g_1 rfl rfl ⟨Nat.le_of_ble_eq_true rfl, Nat.le_of_ble_eq_true rfl⟩ ⟨(Nat.le_of_ble_eq_true rfl), (Nat.le_of_ble_eq_true rfl)⟩ (Nat.le_of_ble_eq_true rfl) (fun _ h => by cases h) (fun _ => rfl) (fun r_4 C_5 d_7 q_6 => ?_)
    obtain ⟨q_6a, h⟩ := q_6
    subst d_7
    show AW p l e _ s m args below meth c E M_F_ledgerAsInt true _ n _ _ _ [(2, v0)] [(0, r_4)] C_5
    exact AW.iret (dc hd_F_ledgerAsInt 15 rfl) rfl rfl (Nat.le_of_ble_eq_true rfl) (Nat.le_of_ble_eq_true rfl) ⟨rfl, h⟩
  · replace c_3 : ¬ C (PT v0.toNat 0).toNat 3 < (-2147483648) := fun q => c_3 ((lc_lt _ _).mpr q)
    have h := h.2 c_3
    refine AW.ra_n (dc hd_F_ledgerAsInt 6 rfl) rfl rfl rfl ?_
    refine AW.getp fl_9_12 (dc hd_F_ledgerAsInt 7 rfl) g_1 rfl ?_
    refine AW.getf fl_9_335 (dc hd_F_ledgerAsInt 8 rfl) g_2 ?_
    refine AW.ldc2 (v := 2147483647) (dc hd_F_ledgerAsInt 9 rfl) ck_9_447 (by decide) rfl ?_
    refine AW.lc (dc hd_F_ledgerAsInt 10 rfl) ?_
    refine AW.if_le (t := 35) (dc hd_F_ledgerAsInt 11 rfl) (by decide) (fun c_8 => ?_) (fun c_8 => ?_)
    · replace c_8 := (lc_le _ _).mp c_8
      have h := h.1 c_8
      refine AW.ra_n (dc hd_F_ledgerAsInt 16 rfl) rfl rfl rfl ?_
      refine AW.getp fl_9_12 (dc hd_F_ledgerAsInt 17 rfl) g_1 rfl ?_
      refine AW.getf fl_9_335 (dc hd_F_ledgerAsInt 18 rfl) g_2 ?_
      refine AW.l2i (dc hd_F_ledgerAsInt 19 rfl) ?_
      exact AW.iret (dc hd_F_ledgerAsInt 20 rfl) rfl rfl (Nat.le_of_ble_eq_true rfl) (Nat.le_of_ble_eq_true rfl) ⟨rfl, h⟩
    · replace c_8 : ¬ C (PT v0.toNat 0).toNat 3 ≤ 2147483647 := fun q => c_8 ((lc_le _ _).mpr q)
      have h := h.2 c_8
      refine AW.ra_n (dc hd_F_ledgerAsInt 12 rfl) rfl rfl rfl ?_
      refine AW.bipush (dc hd_F_ledgerAsInt 13 rfl) (by decide) (by decide +kernel) ?_
      refine AW.callV (As := [(0, 7)]) (rest := []) (ci := 9) (m_F_tell l E n C v0 7 _ h) cb_9_101 im_F_tell se_F_tell ⟨_, _, rfl⟩ (by decide) (dc hd_F_ledgerAsInt 14 rfl) g_1 rfl rfl ⟨Nat.le_of_ble_eq_true rfl, Nat.le_of_ble_eq_true rfl⟩ ⟨(Nat.le_of_ble_eq_true rfl), (Nat.le_of_ble_eq_true rfl)⟩ (Nat.le_of_ble_eq_true rfl) (fun _ h => by cases h) (fun _ => rfl) (fun r_9 C_10 d_12 q_11 => ?_)
      obtain ⟨q_11a, h⟩ := q_11
      subst d_12
      show AW p l e _ s m args below meth c E M_F_ledgerAsInt true _ n _ _ _ [(2, v0)] [(0, r_9)] C_10
      exact AW.iret (dc hd_F_ledgerAsInt 15 rfl) rfl rfl (Nat.le_of_ble_eq_true rfl) (Nat.le_of_ble_eq_true rfl) ⟨rfl, h⟩
def P_F_count (n : Nat) (C : Cn) (v0 v1 : Int) (Q : Int → Cn → Prop) : Prop :=
  (v1 = 0 → (okO n v0 9 ∧ (okO n (PT v0.toNat 0) 1 ∧ (Q (C (PT v0.toNat 0).toNat 1) C)))) ∧ (v1 = 1 → (okO n v0 9 ∧ (okO n (PT v0.toNat 0) 1 ∧ (Q (C (PT v0.toNat 0).toNat 2) C)))) ∧ (v1 = 2 → (okO n v0 9 ∧ (okO n (PT v0.toNat 0) 1 ∧ (Q (C (PT v0.toNat 0).toNat 4) C)))) ∧ (v1 = 3 → (okO n v0 9 ∧ (Q (C v0.toNat 14) C))) ∧ (v1 = 4 → (okO n v0 9 ∧ (okO n (PT v0.toNat 0) 1 ∧ (okO n (PT v0.toNat 11) 6 ∧ (P_Sp_manyFull n C (PT v0.toNat 11) (C (PT v0.toNat 0).toNat 1) (fun (r_11 : Int) => Q r_11 C)))))) ∧ (v1 = 5 → (okO n v0 9 ∧ (okO n (PT v0.toNat 8) 3 ∧ (Q (C (PT v0.toNat 8).toNat 1) C)))) ∧ (v1 = 6 → (okO n v0 9 ∧ (P_F_ledgerAsInt n C v0 (fun (r_18 : Int) (C_20 : Cn) => Q r_18 C_20)))) ∧ ((v1 < 0 ∨ 6 < v1) → (okO n v0 9 ∧ (P_F_tell n C v0 0 (fun (r_23 : Int) (C_25 : Cn) => Q r_23 C_25))))
theorem m_F_count (l : Launch) (E : Ev) (n : Nat) (C : Cn) (v0 v1 : Int) (Q : Int → Cn → Prop) (h : P_F_count n C v0 v1 Q) : MA l y_F_count M_F_count E true C n [(2, v0), (0, v1)] (fun r C2 n2 => n2 = n ∧ Q r C2) := by
  refine MA.of (by decide) rfl rfl 0 rfl (fun p e s m args below meth c => ?_)
  show AW p l e _ s m args below meth c E M_F_count true _ n 0 0 0 [(2, v0), (0, v1)] [] C
  unfold P_F_count at h
  refine AW.iload_n (dc hd_F_count 0 rfl) rfl ?_
  refine AW.tsw (td := 101) (dc hd_F_count 1 rfl) [44, 52, 60, 68, 73, 88, 96] (by decide +kernel) (by decide) (by decide) (fun j t hj hx => ?_) (fun q_1 => ?_)
  · match j, hj with
    | 0, hj =>
      cases hj
      have h := h.1 (hx.trans (by decide))
      refine AW.ra_n (dc hd_F_count 2 rfl) rfl rfl rfl ?_
      obtain ⟨g_2, h⟩ := h
      refine AW.getp fl_9_12 (dc hd_F_count 3 rfl) g_2 rfl ?_
      obtain ⟨g_3, h⟩ := h
      refine AW.getf fl_9_105 (dc hd_F_count 4 rfl) g_3 ?_
      exact AW.iret (dc hd_F_count 5 rfl) rfl rfl (Nat.le_of_ble_eq_true rfl) (Nat.le_of_ble_eq_true rfl) ⟨rfl, h⟩
    | 1, hj =>
      cases hj
      have h := h.2.1 (hx.trans (by decide))
      refine AW.ra_n (dc hd_F_count 6 rfl) rfl rfl rfl ?_
      obtain ⟨g_4, h⟩ := h
      refine AW.getp fl_9_12 (dc hd_F_count 7 rfl) g_4 rfl ?_
      obtain ⟨g_5, h⟩ := h
      refine AW.getf fl_9_150 (dc hd_F_count 8 rfl) g_5 ?_
      exact AW.iret (dc hd_F_count 9 rfl) rfl rfl (Nat.le_of_ble_eq_true rfl) (Nat.le_of_ble_eq_true rfl) ⟨rfl, h⟩
    | 2, hj =>
      cases hj
      have h := h.2.2.1 (hx.trans (by decide))
      refine AW.ra_n (dc hd_F_count 10 rfl) rfl rfl rfl ?_
      obtain ⟨g_6, h⟩ := h
      refine AW.getp fl_9_12 (dc hd_F_count 11 rfl) g_6 rfl ?_
      obtain ⟨g_7, h⟩ := h
      refine AW.getf fl_9_332 (dc hd_F_count 12 rfl) g_7 ?_
      exact AW.iret (dc hd_F_count 13 rfl) rfl rfl (Nat.le_of_ble_eq_true rfl) (Nat.le_of_ble_eq_true rfl) ⟨rfl, h⟩
    | 3, hj =>
      cases hj
      have h := h.2.2.2.1 (hx.trans (by decide))
      refine AW.ra_n (dc hd_F_count 14 rfl) rfl rfl rfl ?_
      obtain ⟨g_8, h⟩ := h
      refine AW.getf fl_9_358 (dc hd_F_count 15 rfl) g_8 ?_
      exact AW.iret (dc hd_F_count 16 rfl) rfl rfl (Nat.le_of_ble_eq_true rfl) (Nat.le_of_ble_eq_true rfl) ⟨rfl, h⟩
    | 4, hj =>
      cases hj
      have h := h.2.2.2.2.1 (hx.trans (by decide))
      refine AW.ra_n (dc hd_F_count 17 rfl) rfl rfl rfl ?_
      obtain ⟨g_9, h⟩ := h
      refine AW.getp fl_9_78 (dc hd_F_count 18 rfl) g_9 rfl ?_
      refine AW.ra_n (dc hd_F_count 19 rfl) rfl rfl rfl ?_
      refine AW.getp fl_9_12 (dc hd_F_count 20 rfl) g_9 rfl ?_
      obtain ⟨g_10, h⟩ := h
      refine AW.getf fl_9_105 (dc hd_F_count 21 rfl) g_10 ?_
      obtain ⟨g_12, h⟩ := h
      refine AW.callV (As := [(0, C (PT v0.toNat 0).toNat 1)]) (rest := []) (ci := 6) (m_Sp_manyFull l E n C (PT v0.toNat 11) (C (PT v0.toNat 0).toNat 1) _ h) cb_9_415 im_Sp_manyFull se_Sp_manyFull ⟨_, _, rfl⟩ (by decide) (dc hd_F_count 22 rfl) g_12 rfl rfl ⟨Nat.le_of_ble_eq_true rfl, Nat.le_of_ble_eq_true rfl⟩ ⟨(Nat.le_of_ble_eq_true rfl), (Nat.le_of_ble_eq_true rfl)⟩ (Nat.le_of_ble_eq_true rfl) (fun _ h => by cases h) (fun _ => rfl) (fun r_11 D_14 d_15 q_13 => ?_)
      obtain ⟨q_13a, q_13b, h⟩ := q_13
      subst D_14
      subst d_15
      show AW p l e _ s m args below meth c E M_F_count true _ n _ _ _ [(2, v0), (0, v1)] [(0, r_11)] C
      exact AW.iret (dc hd_F_count 23 rfl) rfl rfl (Nat.le_of_ble_eq_true rfl) (Nat.le_of_ble_eq_true rfl) ⟨rfl, h⟩
    | 5, hj =>
      cases hj
      have h := h.2.2.2.2.2.1 (hx.trans (by decide))
      refine AW.ra_n (dc hd_F_count 24 rfl) rfl rfl rfl ?_
      obtain ⟨g_16, h⟩ := h
      refine AW.getp fl_9_58 (dc hd_F_count 25 rfl) g_16 rfl ?_
      obtain ⟨g_17, h⟩ := h
      refine AW.getf fl_9_372 (dc hd_F_count 26 rfl) g_17 ?_
      exact AW.iret (dc hd_F_count 27 rfl) rfl rfl (Nat.le_of_ble_eq_true rfl) (Nat.le_of_ble_eq_true rfl) ⟨rfl, h⟩
    | 6, hj =>
      cases hj
      have h := h.2.2.2.2.2.2.1 (hx.trans (by decide))
      refine AW.ra_n (dc hd_F_count 28 rfl) rfl rfl rfl ?_
      obtain ⟨g_19, h⟩ := h
      refine AW.callV (As := []) (rest := []) (ci := 9) (m_F_ledgerAsInt l E n C v0 _ h) cb_9_418 im_F_ledgerAsInt se_F_ledgerAsInt ⟨_, _, rfl⟩ (by decide) (dc hd_F_count 29 rfl) g_19 rfl rfl ⟨Nat.le_of_ble_eq_true rfl, Nat.le_of_ble_eq_true rfl⟩ ⟨(Nat.le_of_ble_eq_true rfl), (Nat.le_of_ble_eq_true rfl)⟩ (Nat.le_of_ble_eq_true rfl) (fun _ h => by cases h) (fun _ => rfl) (fun r_18 C_20 d_22 q_21 => ?_)
      obtain ⟨q_21a, h⟩ := q_21
      subst d_22
      show AW p l e _ s m args below meth c E M_F_count true _ n _ _ _ [(2, v0), (0, v1)] [(0, r_18)] C_20
      exact AW.iret (dc hd_F_count 30 rfl) rfl rfl (Nat.le_of_ble_eq_true rfl) (Nat.le_of_ble_eq_true rfl) ⟨rfl, h⟩
    | j + 7, hj => exact absurd hj (by simp)
  · have h := h.2.2.2.2.2.2.2 q_1
    refine AW.ra_n (dc hd_F_count 31 rfl) rfl rfl rfl ?_
    refine AW.iconst (dc hd_F_count 32 rfl) (by decide) ?_
    obtain ⟨g_24, h⟩ := h
    refine AW.callV (As := [(0, 0)]) (rest := []) (ci := 9) (m_F_tell l E n C v0 0 _ h) cb_9_101 im_F_tell se_F_tell ⟨_, _, rfl⟩ (by decide) (dc hd_F_count 33 rfl) g_24 rfl rfl ⟨Nat.le_of_ble_eq_true rfl, Nat.le_of_ble_eq_true rfl⟩ ⟨(Nat.le_of_ble_eq_true rfl), (Nat.le_of_ble_eq_true rfl)⟩ (Nat.le_of_ble_eq_true rfl) (fun _ h => by cases h) (fun _ => rfl) (fun r_23 C_25 d_27 q_26 => ?_)
    obtain ⟨q_26a, h⟩ := q_26
    subst d_27
    show AW p l e _ s m args below meth c E M_F_count true _ n _ _ _ [(2, v0), (0, v1)] [(0, r_23)] C_25
    exact AW.iret (dc hd_F_count 34 rfl) rfl rfl (Nat.le_of_ble_eq_true rfl) (Nat.le_of_ble_eq_true rfl) ⟨rfl, h⟩
def B_F_status_32 (n : Nat) (C : Cn) (v0 : Int) (Q : Int → Cn → Prop) (kz32 : Int × Int → Prop) (z : Int × Int) : Prop := match z with
  | (v2, v3) => (8 ≤ v3 → (Q v2 C)) ∧ (¬ 8 ≤ v3 → (okO n v0 9 ∧ (okO n (PT v0.toNat 13) 12 ∧ (okI (PT v0.toNat 13) v3 ∧ (∀ v2_12 : Int, v2_12 = w32 (v2 + C (PT v0.toNat 13).toNat v3.toNat) → (kz32 (v2_12, w32 (v3 + 1))))))))
theorem bB_F_status_32 (n : Nat) (C : Cn) (v0 : Int) (Q : Int → Cn → Prop) (kz32 : Int × Int → Prop) (hkz32 : ∀ (z2 : Int) (z3 : Int), kz32 (z2, z3) → AW p l e R s m args below meth c E M_F_status true (fun r C2 n2 => n2 = n ∧ Q r C2) n 0 0 32 [(2, v0), (9, 0), (0, z2), (0, z3)] [] C) (v2 : Int) (v3 : Int) (h : B_F_status_32 n C v0 Q kz32 (v2, v3)) : AW p l e R s m args below meth c E M_F_status true (fun r C2 n2 => n2 = n ∧ Q r C2) n 0 0 32 [(2, v0), (9, 0), (0, v2), (0, v3)] [] C := by
  unfold B_F_status_32 at h
  dsimp only at h
  refine AW.iload_n (dc hd_F_status 21 rfl) rfl ?_
  refine AW.bipush (dc hd_F_status 22 rfl) (by decide) (by decide +kernel) ?_
  refine AW.icmp_ge (t := 53) (dc hd_F_status 23 rfl) (by decide) (fun c_8 => ?_) (fun c_8 => ?_)
  · have h := h.1 c_8
    refine AW.iload_n (dc hd_F_status 33 rfl) rfl ?_
    exact AW.iret (dc hd_F_status 34 rfl) rfl rfl (Nat.le_of_ble_eq_true rfl) (Nat.le_of_ble_eq_true rfl) ⟨rfl, h⟩
  · have h := h.2 c_8
    refine AW.iload_n (dc hd_F_status 24 rfl) rfl ?_
    refine AW.ra_n (dc hd_F_status 25 rfl) rfl rfl rfl ?_
    obtain ⟨g_9, h⟩ := h
    refine AW.getp fl_9_86 (dc hd_F_status 26 rfl) g_9 rfl ?_
    refine AW.iload_n (dc hd_F_status 27 rfl) rfl ?_
    obtain ⟨g_10, h⟩ := h
    obtain ⟨g_11, h⟩ := h
    refine AW.iald (dc hd_F_status 28 rfl) g_10 g_11 ?_
    refine AW.iadd (dc hd_F_status 29 rfl) ?_
    refine AW.nm (fun v2_12 ev2_12 => ?_)
    have h := h v2_12 ev2_12
    refine AW.istore_n [(2, v0), (9, 0), (0, v2_12), (0, v3)] (dc hd_F_status 30 rfl) (Nat.le_of_ble_eq_true rfl) rfl rfl ?_
    refine AW.iinc [(2, v0), (9, 0), (0, v2_12), (0, w32 (v3 + 1))] (dc hd_F_status 31 rfl) rfl (Nat.le_of_ble_eq_true rfl) rfl rfl ?_
    refine AW.goto (t := 32) (dc hd_F_status 32 rfl) (by decide) ?_
    exact hkz32 v2_12 (w32 (v3 + 1)) h
theorem aB_F_status_32 (n : Nat) (C : Cn) (v0 : Int) (Q : Int → Cn → Prop) : ∀ (f : Nat) (z : Int × Int), lp (B_F_status_32 n C v0 Q) f z → AW p l e R s m args below meth c E M_F_status true (fun r C2 n2 => n2 = n ∧ Q r C2) n 0 0 32 [(2, v0), (9, 0), (0, z.1), (0, z.2)] [] C := by
  intro f
  induction f with
  | zero => intro z h; exact False.elim h
  | succ f ih => intro z h; exact bB_F_status_32 n C v0 Q (lp (B_F_status_32 n C v0 Q) f) (fun a0 a1 h => ih (a0, a1) h) z.1 z.2 h
def P_F_status (n : Nat) (C : Cn) (v0 v1 : Int) (Q : Int → Cn → Prop) : Prop :=
  P_F_isIn n C v1 0 7 (fun (r_1 : Int) => (r_1 = 0 → ((v1 = (-1) → (∃ f_13 : Nat, lp (B_F_status_32 n C v0 Q) f_13 (0, 0))) ∧ (¬ v1 = (-1) → (okO n v0 9 ∧ (P_F_tell n C v0 0 (fun (r_14 : Int) (C_16 : Cn) => Q r_14 C_16)))))) ∧ (¬ r_1 = 0 → (okO n v0 9 ∧ (okO n (PT v0.toNat 13) 12 ∧ (okI (PT v0.toNat 13) v1 ∧ (Q (C (PT v0.toNat 13).toNat v1.toNat) C))))))
theorem m_F_status (l : Launch) (E : Ev) (n : Nat) (C : Cn) (v0 v1 : Int) (Q : Int → Cn → Prop) (h : P_F_status n C v0 v1 Q) : MA l y_F_status M_F_status E true C n [(2, v0), (0, v1)] (fun r C2 n2 => n2 = n ∧ Q r C2) := by
  refine MA.of (by decide) rfl rfl 2 rfl (fun p e s m args below meth c => ?_)
  show AW p l e _ s m args below meth c E M_F_status true _ n 0 0 0 [(2, v0), (0, v1), (9, 0), (9, 0)] [] C
  unfold P_F_status at h
  refine AW.iload_n (dc hd_F_status 0 rfl) rfl ?_
  refine AW.iconst (dc hd_F_status 1 rfl) (by decide) ?_
  refine AW.bipush (dc hd_F_status 2 rfl) (by decide) (by decide +kernel) ?_
  refine AW.callS (As := [(0, v1), (0, 0), (0, 7)]) (rest := []) (m_F_isIn l E n C v1 0 7 _ h) cb_9_167 sm_F_isIn (dc hd_F_status 3 rfl) rfl rfl ⟨Nat.le_of_ble_eq_true rfl, Nat.le_of_ble_eq_true rfl⟩ ⟨(Nat.le_of_ble_eq_true rfl), (Nat.le_of_ble_eq_true rfl)⟩ (Nat.le_of_ble_eq_true rfl) (fun _ h => by cases h) (fun _ => rfl) (fun r_1 D_3 d_4 q_2 => ?_)
  obtain ⟨q_2a, q_2b, h⟩ := q_2
  subst D_3
  subst d_4
  show AW p l e _ s m args below meth c E M_F_status true _ n _ _ _ [(2, v0), (0, v1), (9, 0), (9, 0)] [(0, r_1)] C
  refine AW.if_eq (t := 17) (dc hd_F_status 4 rfl) (by decide) (fun c_5 => ?_) (fun c_5 => ?_)
  · have h := h.1 c_5
    refine AW.iload_n (dc hd_F_status 10 rfl) rfl ?_
    refine AW.iconst (dc hd_F_status 11 rfl) (by decide) ?_
    refine AW.icmp_eq (t := 28) (dc hd_F_status 12 rfl) (by decide) (fun c_7 => ?_) (fun c_7 => ?_)
    · have h := h.1 c_7
      refine AW.iconst (dc hd_F_status 17 rfl) (by decide) ?_
      refine AW.istore_n [(2, v0), (0, v1), (0, 0), (9, 0)] (dc hd_F_status 18 rfl) (Nat.le_of_ble_eq_true rfl) rfl rfl ?_
      refine AW.iconst (dc hd_F_status 19 rfl) (by decide) ?_
      refine AW.istore_n [(2, v0), (0, v1), (0, 0), (0, 0)] (dc hd_F_status 20 rfl) (Nat.le_of_ble_eq_true rfl) rfl rfl ?_
      obtain ⟨f_13, h⟩ := h
      refine AW.fgt [(2, v0), (9, 0), (0, 0), (0, 0)] ⟨.inl rfl, .inr rfl, .inl rfl, .inl rfl, trivial⟩ ?_
      exact aB_F_status_32 n C v0 Q f_13 (0, 0) h
    · have h := h.2 c_7
      refine AW.ra_n (dc hd_F_status 13 rfl) rfl rfl rfl ?_
      refine AW.iconst (dc hd_F_status 14 rfl) (by decide) ?_
      obtain ⟨g_15, h⟩ := h
      refine AW.callV (As := [(0, 0)]) (rest := []) (ci := 9) (m_F_tell l E n C v0 0 _ h) cb_9_101 im_F_tell se_F_tell ⟨_, _, rfl⟩ (by decide) (dc hd_F_status 15 rfl) g_15 rfl rfl ⟨Nat.le_of_ble_eq_true rfl, Nat.le_of_ble_eq_true rfl⟩ ⟨(Nat.le_of_ble_eq_true rfl), (Nat.le_of_ble_eq_true rfl)⟩ (Nat.le_of_ble_eq_true rfl) (fun _ h => by cases h) (fun _ => rfl) (fun r_14 C_16 d_18 q_17 => ?_)
      obtain ⟨q_17a, h⟩ := q_17
      subst d_18
      show AW p l e _ s m args below meth c E M_F_status true _ n _ _ _ [(2, v0), (0, v1), (9, 0), (9, 0)] [(0, r_14)] C_16
      exact AW.iret (dc hd_F_status 16 rfl) rfl rfl (Nat.le_of_ble_eq_true rfl) (Nat.le_of_ble_eq_true rfl) ⟨rfl, h⟩
  · have h := h.2 c_5
    refine AW.ra_n (dc hd_F_status 5 rfl) rfl rfl rfl ?_
    obtain ⟨g_19, h⟩ := h
    refine AW.getp fl_9_86 (dc hd_F_status 6 rfl) g_19 rfl ?_
    refine AW.iload_n (dc hd_F_status 7 rfl) rfl ?_
    obtain ⟨g_20, h⟩ := h
    obtain ⟨g_21, h⟩ := h
    refine AW.iald (dc hd_F_status 8 rfl) g_20 g_21 ?_
    exact AW.iret (dc hd_F_status 9 rfl) rfl rfl (Nat.le_of_ble_eq_true rfl) (Nat.le_of_ble_eq_true rfl) ⟨rfl, h⟩
def P_G_finds (n : Nat) (C : Cn) (v0 v1 : Int) (Q : Int → Cn → Prop) : Prop :=
  okO n v0 10 ∧ (okO n (PT v0.toNat 5) 12 ∧ (okI (PT v0.toNat 5) v1 ∧ (∀ C_4 : Cn, C_4 = wr C (PT v0.toNat 5).toNat v1.toNat (w32 (C (PT v0.toNat 5).toNat v1.toNat + 1)) → (Q (w32 ((-1000001) - v1)) C_4))))
theorem m_G_finds (l : Launch) (E : Ev) (n : Nat) (C : Cn) (v0 v1 : Int) (Q : Int → Cn → Prop) (h : P_G_finds n C v0 v1 Q) : MA l y_G_finds M_G_finds E true C n [(2, v0), (0, v1)] (fun r C2 n2 => n2 = n ∧ Q r C2) := by
  refine MA.of (by decide) rfl rfl 0 rfl (fun p e s m args below meth c => ?_)
  show AW p l e _ s m args below meth c E M_G_finds true _ n 0 0 0 [(2, v0), (0, v1)] [] C
  unfold P_G_finds at h
  refine AW.ra_n (dc hd_G_finds 0 rfl) rfl rfl rfl ?_
  obtain ⟨g_1, h⟩ := h
  refine AW.getp fl_10_18 (dc hd_G_finds 1 rfl) g_1 rfl ?_
  refine AW.iload_n (dc hd_G_finds 2 rfl) rfl ?_
  refine AW.rdup2 (dc hd_G_finds 3 rfl) rfl rfl ?_
  obtain ⟨g_2, h⟩ := h
  obtain ⟨g_3, h⟩ := h
  refine AW.iald (dc hd_G_finds 4 rfl) g_2 g_3 ?_
  refine AW.iconst (dc hd_G_finds 5 rfl) (by decide) ?_
  refine AW.iadd (dc hd_G_finds 6 rfl) ?_
  refine AW.niast (dc hd_G_finds 7 rfl) g_2 g_3 (fun C_4 eC_4 => ?_)
  have h := h C_4 eC_4
  refine AW.ldc (v := -1000001) (dc hd_G_finds 8 rfl) ck_10_106 (by decide) rfl ?_
  refine AW.iload_n (dc hd_G_finds 9 rfl) rfl ?_
  refine AW.isub (dc hd_G_finds 10 rfl) ?_
  exact AW.iret (dc hd_G_finds 11 rfl) rfl rfl (Nat.le_of_ble_eq_true rfl) (Nat.le_of_ble_eq_true rfl) ⟨rfl, h⟩
def P_G_findsLong (n : Nat) (C : Cn) (v0 v1 : Int) (Q : Int → Cn → Prop) : Prop :=
  okO n v0 10 ∧ (okO n (PT v0.toNat 5) 12 ∧ (okI (PT v0.toNat 5) v1 ∧ (∀ C_4 : Cn, C_4 = wr C (PT v0.toNat 5).toNat v1.toNat (w32 (C (PT v0.toNat 5).toNat v1.toNat + 1)) → (Q (w64 ((-1000000000000000001) - v1)) C_4))))
theorem m_G_findsLong (l : Launch) (E : Ev) (n : Nat) (C : Cn) (v0 v1 : Int) (Q : Int → Cn → Prop) (h : P_G_findsLong n C v0 v1 Q) : MA l y_G_findsLong M_G_findsLong E true C n [(2, v0), (0, v1)] (fun r C2 n2 => n2 = n ∧ Q r C2) := by
  refine MA.of (by decide) rfl rfl 0 rfl (fun p e s m args below meth c => ?_)
  show AW p l e _ s m args below meth c E M_G_findsLong true _ n 0 0 0 [(2, v0), (0, v1)] [] C
  unfold P_G_findsLong at h
  refine AW.ra_n (dc hd_G_findsLong 0 rfl) rfl rfl rfl ?_
  obtain ⟨g_1, h⟩ := h
  refine AW.getp fl_10_18 (dc hd_G_findsLong 1 rfl) g_1 rfl ?_
  refine AW.iload_n (dc hd_G_findsLong 2 rfl) rfl ?_
  refine AW.rdup2 (dc hd_G_findsLong 3 rfl) rfl rfl ?_
  obtain ⟨g_2, h⟩ := h
  obtain ⟨g_3, h⟩ := h
  refine AW.iald (dc hd_G_findsLong 4 rfl) g_2 g_3 ?_
  refine AW.iconst (dc hd_G_findsLong 5 rfl) (by decide) ?_
  refine AW.iadd (dc hd_G_findsLong 6 rfl) ?_
  refine AW.niast (dc hd_G_findsLong 7 rfl) g_2 g_3 (fun C_4 eC_4 => ?_)
  have h := h C_4 eC_4
  refine AW.ldc2 (v := -1000000000000000001) (dc hd_G_findsLong 8 rfl) ck_10_107 (by decide) rfl ?_
  refine AW.iload_n (dc hd_G_findsLong 9 rfl) rfl ?_
  refine AW.i2l (dc hd_G_findsLong 10 rfl) ?_
  refine AW.lsub (dc hd_G_findsLong 11 rfl) ?_
  exact AW.lret (dc hd_G_findsLong 12 rfl) rfl rfl (Nat.le_of_ble_eq_true rfl) (Nat.le_of_ble_eq_true rfl) ⟨rfl, h⟩
def J_G_in_18 (n : Nat) (C : Cn) (s0 : Int) (Q : Int → Prop) : Prop :=
  (s0 = 0 ∨ s0 = 1) ∧ (Q s0)
theorem aJ_G_in_18 (n : Nat) (C : Cn) (s0 : Int) (Q : Int → Prop) (h : J_G_in_18 n C s0 Q) : AW p l e R s m args below meth c E M_G_in true (fun r C2 n2 => C2 = C ∧ n2 = n ∧ Q r) n 0 0 18 [(9, 0), (9, 0), (9, 0), (9, 0), (9, 0), (9, 0)] [(0, s0)] C := by
  unfold J_G_in_18 at h
  obtain ⟨g_3, h⟩ := h
  exact AW.zret (dc hd_G_in 11 rfl) rfl rfl (Nat.le_of_ble_eq_true rfl) (Nat.le_of_ble_eq_true rfl) g_3 ⟨rfl, rfl, h⟩
def P_G_in (n : Nat) (C : Cn) (v0 v2 v4 : Int) (Q : Int → Prop) : Prop :=
  (v0 < v2 → (Q 0)) ∧ (¬ v0 < v2 → (J_G_in_18 n C (if v4 < v0 then 0 else 1) Q))
theorem m_G_in (l : Launch) (E : Ev) (n : Nat) (C : Cn) (v0 v2 v4 : Int) (Q : Int → Prop) (h : P_G_in n C v0 v2 v4 Q) : MA l y_G_in M_G_in E true C n [(1, v0), (1, v2), (1, v4)] (fun r C2 n2 => C2 = C ∧ n2 = n ∧ Q r) := by
  refine MA.of (by decide) rfl rfl 0 rfl (fun p e s m args below meth c => ?_)
  show AW p l e _ s m args below meth c E M_G_in true _ n 0 0 0 [(1, v0), (9, 0), (1, v2), (9, 0), (1, v4), (9, 0)] [] C
  unfold P_G_in at h
  refine AW.lload_n (dc hd_G_in 0 rfl) rfl ?_
  refine AW.lload_n (dc hd_G_in 1 rfl) rfl ?_
  refine AW.lc (dc hd_G_in 2 rfl) ?_
  refine AW.if_lt (t := 17) (dc hd_G_in 3 rfl) (by decide) (fun c_1 => ?_) (fun c_1 => ?_)
  · replace c_1 := (lc_lt _ _).mp c_1
    have h := h.1 c_1
    refine AW.iconst (dc hd_G_in 10 rfl) (by decide) ?_
    exact AW.zret (dc hd_G_in 11 rfl) rfl rfl (Nat.le_of_ble_eq_true rfl) (Nat.le_of_ble_eq_true rfl) (by decide) ⟨rfl, rfl, h⟩
  · replace c_1 : ¬ v0 < v2 := fun q => c_1 ((lc_lt _ _).mpr q)
    have h := h.2 c_1
    refine AW.lload_n (dc hd_G_in 4 rfl) rfl ?_
    refine AW.lload (dc hd_G_in 5 rfl) rfl ?_
    refine AW.lc (dc hd_G_in 6 rfl) ?_
    refine AW.if_gt (t := 17) (dc hd_G_in 7 rfl) (by decide) (fun c_2 => ?_) (fun c_2 => ?_)
    · replace c_2 := (lc_gt _ _).mp c_2
      simp only [if_pos (show v4 < v0 from c_2)] at h
      refine AW.iconst (dc hd_G_in 10 rfl) (by decide) ?_
      refine AW.fgt [(9, 0), (9, 0), (9, 0), (9, 0), (9, 0), (9, 0)] ⟨.inr rfl, .inl rfl, .inr rfl, .inl rfl, .inr rfl, .inl rfl, trivial⟩ ?_
      exact aJ_G_in_18 n C _ Q h
    · replace c_2 : ¬ v4 < v0 := fun q => c_2 ((lc_gt _ _).mpr q)
      simp only [if_neg (show ¬ (v4 < v0) from c_2)] at h
      refine AW.iconst (dc hd_G_in 8 rfl) (by decide) ?_
      refine AW.goto (t := 18) (dc hd_G_in 9 rfl) (by decide) ?_
      refine AW.fgt [(9, 0), (9, 0), (9, 0), (9, 0), (9, 0), (9, 0)] ⟨.inr rfl, .inl rfl, .inr rfl, .inl rfl, .inr rfl, .inl rfl, trivial⟩ ?_
      exact aJ_G_in_18 n C _ Q h
def J_G_isPoint_33 (n : Nat) (C : Cn) (s0 : Int) (Q : Int → Prop) : Prop :=
  (s0 = 0 ∨ s0 = 1) ∧ (Q s0)
theorem aJ_G_isPoint_33 (n : Nat) (C : Cn) (s0 : Int) (Q : Int → Prop) (h : J_G_isPoint_33 n C s0 Q) : AW p l e R s m args below meth c E M_G_isPoint true (fun r C2 n2 => C2 = C ∧ n2 = n ∧ Q r) n 0 0 33 [(9, 0), (9, 0)] [(0, s0)] C := by
  unfold J_G_isPoint_33 at h
  obtain ⟨g_11, h⟩ := h
  exact AW.zret (dc hd_G_isPoint 15 rfl) rfl rfl (Nat.le_of_ble_eq_true rfl) (Nat.le_of_ble_eq_true rfl) g_11 ⟨rfl, rfl, h⟩
def P_G_isPoint (n : Nat) (C : Cn) (v0 v1 : Int) (Q : Int → Prop) : Prop :=
  P_G_in n C v0 (-99) 99 (fun (r_1 : Int) => (r_1 = 0 → (Q 0)) ∧ (¬ r_1 = 0 → (P_G_in n C v1 (-99) 99 (fun (r_6 : Int) => J_G_isPoint_33 n C (if r_6 = 0 then 0 else 1) Q))))
theorem m_G_isPoint (l : Launch) (E : Ev) (n : Nat) (C : Cn) (v0 v1 : Int) (Q : Int → Prop) (h : P_G_isPoint n C v0 v1 Q) : MA l y_G_isPoint M_G_isPoint E true C n [(0, v0), (0, v1)] (fun r C2 n2 => C2 = C ∧ n2 = n ∧ Q r) := by
  refine MA.of (by decide) rfl rfl 0 rfl (fun p e s m args below meth c => ?_)
  show AW p l e _ s m args below meth c E M_G_isPoint true _ n 0 0 0 [(0, v0), (0, v1)] [] C
  unfold P_G_isPoint at h
  refine AW.iload_n (dc hd_G_isPoint 0 rfl) rfl ?_
  refine AW.i2l (dc hd_G_isPoint 1 rfl) ?_
  refine AW.ldc2 (v := -99) (dc hd_G_isPoint 2 rfl) ck_10_109 (by decide) rfl ?_
  refine AW.ldc2 (v := 99) (dc hd_G_isPoint 3 rfl) ck_10_111 (by decide) rfl ?_
  refine AW.callS (As := [(1, v0), (1, (-99)), (1, 99)]) (rest := []) (m_G_in l E n C v0 (-99) 99 _ h) cb_10_113 sm_G_in (dc hd_G_isPoint 4 rfl) rfl rfl ⟨Nat.le_of_ble_eq_true rfl, Nat.le_of_ble_eq_true rfl⟩ ⟨(Nat.le_of_ble_eq_true rfl), (Nat.le_of_ble_eq_true rfl)⟩ (Nat.le_of_ble_eq_true rfl) (fun _ h => by cases h) (fun _ => rfl) (fun r_1 D_3 d_4 q_2 => ?_)
  obtain ⟨q_2a, q_2b, h⟩ := q_2
  subst D_3
  subst d_4
  show AW p l e _ s m args below meth c E M_G_isPoint true _ n _ _ _ [(0, v0), (0, v1)] [(0, r_1)] C
  refine AW.if_eq (t := 32) (dc hd_G_isPoint 5 rfl) (by decide) (fun c_5 => ?_) (fun c_5 => ?_)
  · have h := h.1 c_5
    refine AW.iconst (dc hd_G_isPoint 14 rfl) (by decide) ?_
    exact AW.zret (dc hd_G_isPoint 15 rfl) rfl rfl (Nat.le_of_ble_eq_true rfl) (Nat.le_of_ble_eq_true rfl) (by decide) ⟨rfl, rfl, h⟩
  · have h := h.2 c_5
    refine AW.iload_n (dc hd_G_isPoint 6 rfl) rfl ?_
    refine AW.i2l (dc hd_G_isPoint 7 rfl) ?_
    refine AW.ldc2 (v := -99) (dc hd_G_isPoint 8 rfl) ck_10_109 (by decide) rfl ?_
    refine AW.ldc2 (v := 99) (dc hd_G_isPoint 9 rfl) ck_10_111 (by decide) rfl ?_
    refine AW.callS (As := [(1, v1), (1, (-99)), (1, 99)]) (rest := []) (m_G_in l E n C v1 (-99) 99 _ h) cb_10_113 sm_G_in (dc hd_G_isPoint 10 rfl) rfl rfl ⟨Nat.le_of_ble_eq_true rfl, Nat.le_of_ble_eq_true rfl⟩ ⟨(Nat.le_of_ble_eq_true rfl), (Nat.le_of_ble_eq_true rfl)⟩ (Nat.le_of_ble_eq_true rfl) (fun _ h => by cases h) (fun _ => rfl) (fun r_6 D_8 d_9 q_7 => ?_)
    obtain ⟨q_7a, q_7b, h⟩ := q_7
    subst D_8
    subst d_9
    show AW p l e _ s m args below meth c E M_G_isPoint true _ n _ _ _ [(0, v0), (0, v1)] [(0, r_6)] C
    refine AW.if_eq (t := 32) (dc hd_G_isPoint 11 rfl) (by decide) (fun c_10 => ?_) (fun c_10 => ?_)
    · simp only [if_pos (show r_6 = 0 from c_10)] at h
      refine AW.iconst (dc hd_G_isPoint 14 rfl) (by decide) ?_
      refine AW.fgt [(9, 0), (9, 0)] ⟨.inr rfl, .inr rfl, trivial⟩ ?_
      exact aJ_G_isPoint_33 n C _ Q h
    · simp only [if_neg (show ¬ (r_6 = 0) from c_10)] at h
      refine AW.iconst (dc hd_G_isPoint 12 rfl) (by decide) ?_
      refine AW.goto (t := 33) (dc hd_G_isPoint 13 rfl) (by decide) ?_
      refine AW.fgt [(9, 0), (9, 0)] ⟨.inr rfl, .inr rfl, trivial⟩ ?_
      exact aJ_G_isPoint_33 n C _ Q h
def P_G_isSegment (n : Nat) (C : Cn) (v0 v1 : Int) (Q : Int → Prop) : Prop :=
  okO n v0 10 ∧ (P_G_in n C v1 0 (w32 (C v0.toNat 0 - 1)) (fun (r_2 : Int) => (r_2 = 0 ∨ r_2 = 1) ∧ (Q r_2)))
theorem m_G_isSegment (l : Launch) (E : Ev) (n : Nat) (C : Cn) (v0 v1 : Int) (Q : Int → Prop) (h : P_G_isSegment n C v0 v1 Q) : MA l y_G_isSegment M_G_isSegment E true C n [(2, v0), (0, v1)] (fun r C2 n2 => C2 = C ∧ n2 = n ∧ Q r) := by
  refine MA.of (by decide) rfl rfl 0 rfl (fun p e s m args below meth c => ?_)
  show AW p l e _ s m args below meth c E M_G_isSegment true _ n 0 0 0 [(2, v0), (0, v1)] [] C
  unfold P_G_isSegment at h
  refine AW.iload_n (dc hd_G_isSegment 0 rfl) rfl ?_
  refine AW.i2l (dc hd_G_isSegment 1 rfl) ?_
  refine AW.lconst (v := 0) (dc hd_G_isSegment 2 rfl) (by decide) (by decide +kernel) ?_
  refine AW.ra_n (dc hd_G_isSegment 3 rfl) rfl rfl rfl ?_
  obtain ⟨g_1, h⟩ := h
  refine AW.getf fl_10_117 (dc hd_G_isSegment 4 rfl) g_1 ?_
  refine AW.iconst (dc hd_G_isSegment 5 rfl) (by decide) ?_
  refine AW.isub (dc hd_G_isSegment 6 rfl) ?_
  refine AW.i2l (dc hd_G_isSegment 7 rfl) ?_
  refine AW.callS (As := [(1, v1), (1, 0), (1, w32 (C v0.toNat 0 - 1))]) (rest := []) (m_G_in l E n C v1 0 (w32 (C v0.toNat 0 - 1)) _ h) cb_10_113 sm_G_in (dc hd_G_isSegment 8 rfl) rfl rfl ⟨Nat.le_of_ble_eq_true rfl, Nat.le_of_ble_eq_true rfl⟩ ⟨(Nat.le_of_ble_eq_true rfl), (Nat.le_of_ble_eq_true rfl)⟩ (Nat.le_of_ble_eq_true rfl) (fun _ h => by cases h) (fun _ => rfl) (fun r_2 D_4 d_5 q_3 => ?_)
  obtain ⟨q_3a, q_3b, h⟩ := q_3
  subst D_4
  subst d_5
  show AW p l e _ s m args below meth c E M_G_isSegment true _ n _ _ _ [(2, v0), (0, v1)] [(0, r_2)] C
  obtain ⟨g_6, h⟩ := h
  exact AW.zret (dc hd_G_isSegment 9 rfl) rfl rfl (Nat.le_of_ble_eq_true rfl) (Nat.le_of_ble_eq_true rfl) g_6 ⟨rfl, rfl, h⟩
def P_G_isKm (n : Nat) (C : Cn) (v0 : Int) (Q : Int → Prop) : Prop :=
  P_G_in n C v0 0 59 (fun (r_1 : Int) => (r_1 = 0 ∨ r_1 = 1) ∧ (Q r_1))
theorem m_G_isKm (l : Launch) (E : Ev) (n : Nat) (C : Cn) (v0 : Int) (Q : Int → Prop) (h : P_G_isKm n C v0 Q) : MA l y_G_isKm M_G_isKm E true C n [(0, v0)] (fun r C2 n2 => C2 = C ∧ n2 = n ∧ Q r) := by
  refine MA.of (by decide) rfl rfl 0 rfl (fun p e s m args below meth c => ?_)
  show AW p l e _ s m args below meth c E M_G_isKm true _ n 0 0 0 [(0, v0)] [] C
  unfold P_G_isKm at h
  refine AW.iload_n (dc hd_G_isKm 0 rfl) rfl ?_
  refine AW.i2l (dc hd_G_isKm 1 rfl) ?_
  refine AW.lconst (v := 0) (dc hd_G_isKm 2 rfl) (by decide) (by decide +kernel) ?_
  refine AW.ldc2 (v := 59) (dc hd_G_isKm 3 rfl) ck_10_120 (by decide) rfl ?_
  refine AW.callS (As := [(1, v0), (1, 0), (1, 59)]) (rest := []) (m_G_in l E n C v0 0 59 _ h) cb_10_113 sm_G_in (dc hd_G_isKm 4 rfl) rfl rfl ⟨Nat.le_of_ble_eq_true rfl, Nat.le_of_ble_eq_true rfl⟩ ⟨(Nat.le_of_ble_eq_true rfl), (Nat.le_of_ble_eq_true rfl)⟩ (Nat.le_of_ble_eq_true rfl) (fun _ h => by cases h) (fun _ => rfl) (fun r_1 D_3 d_4 q_2 => ?_)
  obtain ⟨q_2a, q_2b, h⟩ := q_2
  subst D_3
  subst d_4
  show AW p l e _ s m args below meth c E M_G_isKm true _ n _ _ _ [(0, v0)] [(0, r_1)] C
  obtain ⟨g_5, h⟩ := h
  exact AW.zret (dc hd_G_isKm 5 rfl) rfl rfl (Nat.le_of_ble_eq_true rfl) (Nat.le_of_ble_eq_true rfl) g_5 ⟨rfl, rfl, h⟩
end
