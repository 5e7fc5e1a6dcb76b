section
variable {p : Program} {l : Launch} {e : Env} {R : Room} {s : State} {m : MethodId} {args : Array Value} {below : List Frame} {meth : Method} {c : Code} {E : Ev}
def J_G_sight_103 (n : Nat) (C : Cn) (v0 v6 s0 s1 : Int) (k53 : Int × Int → Prop) (Q : Int → Cn → Prop) : Prop :=
  k53 (w32 (s0 + s1), w32 (v6 + 1))
theorem aJ_G_sight_103 (n : Nat) (C : Cn) (v0 v6 s0 s1 : Int) (k53 : Int × Int → Prop) (Q : Int → Cn → Prop) (hk53 : ∀ (z5 : Int) (z6 : Int), k53 (z5, z6) → AW p l e R s m args below meth c E M_G_sight true (fun r C2 n2 => n2 = n ∧ Q r C2) n 0 0 53 [(2, v0), (9, 0), (9, 0), (9, 0), (9, 0), (0, z5), (0, z6)] [] C) (h : J_G_sight_103 n C v0 v6 s0 s1 k53 Q) : AW p l e R s m args below meth c E M_G_sight true (fun r C2 n2 => n2 = n ∧ Q r C2) n 0 0 103 [(2, v0), (9, 0), (9, 0), (9, 0), (9, 0), (9, 0), (0, v6)] [(0, s1), (0, s0)] C := by
  unfold J_G_sight_103 at h
  refine AW.iadd (dc hd_G_sight 54 rfl) ?_
  refine AW.istore [(2, v0), (9, 0), (9, 0), (9, 0), (9, 0), (0, w32 (s0 + s1)), (0, v6)] (dc hd_G_sight 55 rfl) (Nat.le_of_ble_eq_true rfl) rfl rfl ?_
  refine AW.iinc [(2, v0), (9, 0), (9, 0), (9, 0), (9, 0), (0, w32 (s0 + s1)), (0, w32 (v6 + 1))] (dc hd_G_sight 56 rfl) rfl (Nat.le_of_ble_eq_true rfl) rfl rfl ?_
  refine AW.goto (t := 53) (dc hd_G_sight 57 rfl) (by decide) ?_
  exact hk53 (w32 (s0 + s1), w32 (v6 + 1)) h
def B_G_sight_53 (n : Nat) (C : Cn) (v0 : Int) (Q : Int → Cn → Prop) (k53 : Int × Int → Prop) (z : Int × Int) : Prop := match z with
  | (v5, v6) => okO n v0 10 ∧ ((C v0.toNat 0 ≤ v6 → (Q v5 C)) ∧ (¬ C v0.toNat 0 ≤ v6 → (okO n (PT v0.toNat 1) 17 ∧ (okI (PT v0.toNat 1) v6 ∧ (P_G_doCross n C (PT v0.toNat 9) (PT (PT v0.toNat 1).toNat v6.toNat) (fun (r_31 : Int) => (r_31 = 0 → (P_G_hasEndOn n C (PT v0.toNat 9) (PT (PT v0.toNat 1).toNat v6.toNat) (fun (r_36 : Int) => J_G_sight_103 n C v0 v6 v5 (if r_36 = 0 then 0 else 1) k53 Q))) ∧ (¬ r_31 = 0 → (k53 (w32 (v5 + 1), w32 (v6 + 1))))))))))
theorem aB_G_sight_53 (n : Nat) (C : Cn) (v0 : Int) (Q : Int → Cn → Prop) : ∀ (f : Nat) (z : Int × Int), lp (B_G_sight_53 n C v0 Q) f z → AW p l e R s m args below meth c E M_G_sight true (fun r C2 n2 => n2 = n ∧ Q r C2) n 0 0 53 [(2, v0), (9, 0), (9, 0), (9, 0), (9, 0), (0, z.1), (0, z.2)] [] C := by
  intro f
  induction f with
  | zero => intro z h; exact False.elim h
  | succ f ih =>
    intro z h
    obtain ⟨v5, v6⟩ := z
    have h : B_G_sight_53 n C v0 Q (lp (B_G_sight_53 n C v0 Q) f) (v5, v6) := h
    unfold B_G_sight_53 at h
    dsimp only at h
    have hk53 : ∀ z : Int × Int, lp (B_G_sight_53 n C v0 Q) f z → _ := ih
    refine AW.iload (dc hd_G_sight 30 rfl) rfl ?_
    refine AW.ra_n (dc hd_G_sight 31 rfl) rfl rfl rfl ?_
    obtain ⟨g_27, h⟩ := h
    refine AW.getf fl_10_117 (dc hd_G_sight 32 rfl) g_27 ?_
    refine AW.icmp_ge (t := 112) (dc hd_G_sight 33 rfl) (by decide) (fun c_28 => ?_) (fun c_28 => ?_)
    · have h := h.1 c_28
      refine AW.iload (dc hd_G_sight 58 rfl) rfl ?_
      exact AW.iret (dc hd_G_sight 59 rfl) rfl rfl (Nat.le_of_ble_eq_true rfl) (Nat.le_of_ble_eq_true rfl) ⟨rfl, h⟩
    · have h := h.2 c_28
      refine AW.iload (dc hd_G_sight 34 rfl) rfl ?_
      refine AW.ra_n (dc hd_G_sight 35 rfl) rfl rfl rfl ?_
      refine AW.getp fl_10_25 (dc hd_G_sight 36 rfl) g_27 rfl ?_
      refine AW.ra_n (dc hd_G_sight 37 rfl) rfl rfl rfl ?_
      refine AW.getp fl_10_11 (dc hd_G_sight 38 rfl) g_27 rfl ?_
      refine AW.iload (dc hd_G_sight 39 rfl) rfl ?_
      obtain ⟨g_29, h⟩ := h
      obtain ⟨g_30, h⟩ := h
      refine AW.aaldp (by decide) (dc hd_G_sight 40 rfl) g_29 g_30 rfl ?_
      refine AW.callS (As := [(2, PT v0.toNat 9), (2, PT (PT v0.toNat 1).toNat v6.toNat)]) (rest := [(0, v5)]) (m_G_doCross l E n C (PT v0.toNat 9) (PT (PT v0.toNat 1).toNat v6.toNat) _ h) cb_10_152 sm_G_doCross (dc hd_G_sight 41 rfl) rfl rfl ⟨Nat.le_of_ble_eq_true rfl, Nat.le_of_ble_eq_true rfl⟩ ⟨(Nat.le_of_ble_eq_true rfl), (Nat.le_of_ble_eq_true rfl)⟩ (Nat.le_of_ble_eq_true rfl) (fun _ h => by cases h) (fun _ => rfl) (fun r_31 D_33 d_34 q_32 => ?_)
      obtain ⟨q_32a, q_32b, h⟩ := q_32
      subst D_33
      subst d_34
      show AW p l e _ s m args below meth c E M_G_sight true _ n _ _ _ [(2, v0), (9, 0), (9, 0), (9, 0), (9, 0), (0, v5), (0, v6)] [(0, r_31), (0, v5)] C
      refine AW.if_ne (t := 98) (dc hd_G_sight 42 rfl) (by decide) (fun c_35 => ?_) (fun c_35 => ?_)
      · have h := h.2 c_35
        refine AW.iconst (dc hd_G_sight 51 rfl) (by decide) ?_
        refine AW.goto (t := 103) (dc hd_G_sight 52 rfl) (by decide) ?_
        refine AW.iadd (dc hd_G_sight 54 rfl) ?_
        refine AW.istore [(2, v0), (9, 0), (9, 0), (9, 0), (9, 0), (0, w32 (v5 + 1)), (0, v6)] (dc hd_G_sight 55 rfl) (Nat.le_of_ble_eq_true rfl) rfl rfl ?_
        refine AW.iinc [(2, v0), (9, 0), (9, 0), (9, 0), (9, 0), (0, w32 (v5 + 1)), (0, w32 (v6 + 1))] (dc hd_G_sight 56 rfl) rfl (Nat.le_of_ble_eq_true rfl) rfl rfl ?_
        refine AW.goto (t := 53) (dc hd_G_sight 57 rfl) (by decide) ?_
        exact hk53 (w32 (v5 + 1), w32 (v6 + 1)) h
      · have h := h.1 c_35
        refine AW.ra_n (dc hd_G_sight 43 rfl) rfl rfl rfl ?_
        refine AW.getp fl_10_25 (dc hd_G_sight 44 rfl) g_27 rfl ?_
        refine AW.ra_n (dc hd_G_sight 45 rfl) rfl rfl rfl ?_
        refine AW.getp fl_10_11 (dc hd_G_sight 46 rfl) g_27 rfl ?_
        refine AW.iload (dc hd_G_sight 47 rfl) rfl ?_
        refine AW.aaldp (by decide) (dc hd_G_sight 48 rfl) g_29 g_30 rfl ?_
        refine AW.callS (As := [(2, PT v0.toNat 9), (2, PT (PT v0.toNat 1).toNat v6.toNat)]) (rest := [(0, v5)]) (m_G_hasEndOn l E n C (PT v0.toNat 9) (PT (PT v0.toNat 1).toNat v6.toNat) _ h) cb_10_170 sm_G_hasEndOn (dc hd_G_sight 49 rfl) rfl rfl ⟨Nat.le_of_ble_eq_true rfl, Nat.le_of_ble_eq_true rfl⟩ ⟨(Nat.le_of_ble_eq_true rfl), (Nat.le_of_ble_eq_true rfl)⟩ (Nat.le_of_ble_eq_true rfl) (fun _ h => by cases h) (fun _ => rfl) (fun r_36 D_38 d_39 q_37 => ?_)
        obtain ⟨q_37a, q_37b, h⟩ := q_37
        subst D_38
        subst d_39
        show AW p l e _ s m args below meth c E M_G_sight true _ n _ _ _ [(2, v0), (9, 0), (9, 0), (9, 0), (9, 0), (0, v5), (0, v6)] [(0, r_36), (0, v5)] C
        refine AW.if_eq (t := 102) (dc hd_G_sight 50 rfl) (by decide) (fun c_40 => ?_) (fun c_40 => ?_)
        · simp only [if_pos c_40] at h
          refine AW.iconst (dc hd_G_sight 53 rfl) (by decide) ?_
          refine AW.fgt [(2, v0), (9, 0), (9, 0), (9, 0), (9, 0), (9, 0), (0, v6)] ⟨.inl rfl, .inl rfl, .inl rfl, .inl rfl, .inl rfl, .inr rfl, .inl rfl, trivial⟩ ?_
          exact aJ_G_sight_103 n C _ _ _ _ k53 Q hk53 h
        · simp only [if_neg c_40] at h
          refine AW.iconst (dc hd_G_sight 51 rfl) (by decide) ?_
          refine AW.goto (t := 103) (dc hd_G_sight 52 rfl) (by decide) ?_
          refine AW.fgt [(2, v0), (9, 0), (9, 0), (9, 0), (9, 0), (9, 0), (0, v6)] ⟨.inl rfl, .inl rfl, .inl rfl, .inl rfl, .inl rfl, .inr rfl, .inl rfl, trivial⟩ ?_
          exact aJ_G_sight_103 n C _ _ _ _ k53 Q hk53 h
def J_G_sight_34 (n : Nat) (C : Cn) (v0 v1 v2 v3 v4 : Int) (Q : Int → Cn → Prop) : Prop :=
  okO n v0 10 ∧ (P_G_lays n C (PT v0.toNat 9) 0 v1 v2 v3 v4 (fun (_ : Int) (C_23 : Cn) => ∃ f_41 : Nat, lp (B_G_sight_53 n C_23 v0 Q) f_41 (0, 0)))
theorem aJ_G_sight_34 (n : Nat) (C : Cn) (v0 v1 v2 v3 v4 : Int) (Q : Int → Cn → Prop) (h : J_G_sight_34 n C v0 v1 v2 v3 v4 Q) : AW p l e R s m args below meth c E M_G_sight true (fun r C2 n2 => n2 = n ∧ Q r C2) n 0 0 34 [(2, v0), (0, v1), (0, v2), (0, v3), (0, v4), (9, 0), (9, 0)] [] C := by
  unfold J_G_sight_34 at h
  refine AW.ra_n (dc hd_G_sight 18 rfl) rfl rfl rfl ?_
  obtain ⟨g_22, h⟩ := h
  refine AW.getp fl_10_25 (dc hd_G_sight 19 rfl) g_22 rfl ?_
  refine AW.iconst (dc hd_G_sight 20 rfl) (by decide) ?_
  refine AW.iload_n (dc hd_G_sight 21 rfl) rfl ?_
  refine AW.iload_n (dc hd_G_sight 22 rfl) rfl ?_
  refine AW.iload_n (dc hd_G_sight 23 rfl) rfl ?_
  refine AW.iload (dc hd_G_sight 24 rfl) rfl ?_
  refine AW.callS (As := [(2, PT v0.toNat 9), (0, 0), (0, v1), (0, v2), (0, v3), (0, v4)]) (rest := []) (m_G_lays l E n C (PT v0.toNat 9) 0 v1 v2 v3 v4 _ h) cb_10_190 sm_G_lays (dc hd_G_sight 25 rfl) rfl rfl ⟨Nat.le_of_ble_eq_true rfl, Nat.le_of_ble_eq_true rfl⟩ ⟨(Nat.le_of_ble_eq_true rfl), (Nat.le_of_ble_eq_true rfl)⟩ (Nat.le_of_ble_eq_true rfl) (fun _ h => by cases h) (fun _ => rfl) (fun u_25 C_23 d_26 q_24 => ?_)
  obtain ⟨q_24a, h⟩ := q_24
  subst d_26
  show AW p l e _ s m args below meth c E M_G_sight true _ n _ _ _ [(2, v0), (0, v1), (0, v2), (0, v3), (0, v4), (9, 0), (9, 0)] [] C_23
  refine AW.iconst (dc hd_G_sight 26 rfl) (by decide) ?_
  refine AW.istore [(2, v0), (0, v1), (0, v2), (0, v3), (0, v4), (0, 0), (9, 0)] (dc hd_G_sight 27 rfl) (Nat.le_of_ble_eq_true rfl) rfl rfl ?_
  refine AW.iconst (dc hd_G_sight 28 rfl) (by decide) ?_
  refine AW.istore [(2, v0), (0, v1), (0, v2), (0, v3), (0, v4), (0, 0), (0, 0)] (dc hd_G_sight 29 rfl) (Nat.le_of_ble_eq_true rfl) rfl rfl ?_
  obtain ⟨f_41, h⟩ := h
  refine AW.fgt [(2, v0), (9, 0), (9, 0), (9, 0), (9, 0), (0, 0), (0, 0)] ⟨.inl rfl, .inr rfl, .inr rfl, .inr rfl, .inr rfl, .inl rfl, .inl rfl, trivial⟩ ?_
  exact aB_G_sight_53 n C_23 v0 Q f_41 (0, 0) h
def P_G_sight (n : Nat) (C : Cn) (v0 v1 v2 v3 v4 : Int) (Q : Int → Cn → Prop) : Prop :=
  P_G_isPoint n C v1 v2 (fun (r_1 : Int) => (r_1 = 0 → (okO n v0 10 ∧ (P_G_finds n C v0 0 (fun (r_6 : Int) (C_8 : Cn) => Q r_6 C_8)))) ∧ (¬ r_1 = 0 → (P_G_isPoint n C v3 v4 (fun (r_11 : Int) => (r_11 = 0 → (okO n v0 10 ∧ (P_G_finds n C v0 0 (fun (r_16 : Int) (C_18 : Cn) => Q r_16 C_18)))) ∧ (¬ r_11 = 0 → ((v1 = v3 → ((v2 = v4 → (okO n v0 10 ∧ (P_G_finds n C v0 0 (fun (r_43 : Int) (C_45 : Cn) => Q r_43 C_45)))) ∧ (¬ v2 = v4 → (J_G_sight_34 n C v0 v1 v2 v3 v4 Q)))) ∧ (¬ v1 = v3 → (J_G_sight_34 n C v0 v1 v2 v3 v4 Q))))))))
theorem m_G_sight (l : Launch) (E : Ev) (n : Nat) (C : Cn) (v0 v1 v2 v3 v4 : Int) (Q : Int → Cn → Prop) (h : P_G_sight n C v0 v1 v2 v3 v4 Q) : MA l y_G_sight M_G_sight E true C n [(2, v0), (0, v1), (0, v2), (0, v3), (0, v4)] (fun r C2 n2 => n2 = n ∧ Q r C2) := by
  refine MA.of (by decide) rfl rfl 2 rfl (fun p e s m args below meth c => ?_)
  show AW p l e _ s m args below meth c E M_G_sight true _ n 0 0 0 [(2, v0), (0, v1), (0, v2), (0, v3), (0, v4), (9, 0), (9, 0)] [] C
  unfold P_G_sight at h
  refine AW.iload_n (dc hd_G_sight 0 rfl) rfl ?_
  refine AW.iload_n (dc hd_G_sight 1 rfl) rfl ?_
  refine AW.callS (As := [(0, v1), (0, v2)]) (rest := []) (m_G_isPoint l E n C v1 v2 _ h) cb_10_183 sm_G_isPoint (dc hd_G_sight 2 rfl) rfl rfl ⟨Nat.le_of_ble_eq_true rfl, Nat.le_of_ble_eq_true rfl⟩ ⟨(Nat.le_of_ble_eq_true rfl), (Nat.le_of_ble_eq_true rfl)⟩ (Nat.le_of_ble_eq_true rfl) (fun _ h => by cases h) (fun _ => rfl) (fun r_1 D_3 d_4 q_2 => ?_)
  obtain ⟨q_2a, q_2b, h⟩ := q_2
  subst D_3
  subst d_4
  show AW p l e _ s m args below meth c E M_G_sight true _ n _ _ _ [(2, v0), (0, v1), (0, v2), (0, v3), (0, v4), (9, 0), (9, 0)] [(0, r_1)] C
  refine AW.if_eq (t := 28) (dc hd_G_sight 3 rfl) (by decide) (fun c_5 => ?_) (fun c_5 => ?_)
  · have h := h.1 c_5
    refine AW.ra_n (dc hd_G_sight 14 rfl) rfl rfl rfl ?_
    refine AW.iconst (dc hd_G_sight 15 rfl) (by decide) ?_
    obtain ⟨g_7, h⟩ := h
    refine AW.callV (As := [(0, 0)]) (rest := []) (ci := 10) (m_G_finds l E n C v0 0 _ h) cb_10_186 im_G_finds se_G_finds ⟨_, _, rfl⟩ (by decide) (dc hd_G_sight 16 rfl) g_7 rfl rfl ⟨Nat.le_of_ble_eq_true rfl, Nat.le_of_ble_eq_true rfl⟩ ⟨(Nat.le_of_ble_eq_true rfl), (Nat.le_of_ble_eq_true rfl)⟩ (Nat.le_of_ble_eq_true rfl) (fun _ h => by cases h) (fun _ => rfl) (fun r_6 C_8 d_10 q_9 => ?_)
    obtain ⟨q_9a, h⟩ := q_9
    subst d_10
    show AW p l e _ s m args below meth c E M_G_sight true _ n _ _ _ [(2, v0), (0, v1), (0, v2), (0, v3), (0, v4), (9, 0), (9, 0)] [(0, r_6)] C_8
    exact AW.iret (dc hd_G_sight 17 rfl) rfl rfl (Nat.le_of_ble_eq_true rfl) (Nat.le_of_ble_eq_true rfl) ⟨rfl, h⟩
  · have h := h.2 c_5
    refine AW.iload_n (dc hd_G_sight 4 rfl) rfl ?_
    refine AW.iload (dc hd_G_sight 5 rfl) rfl ?_
    refine AW.callS (As := [(0, v3), (0, v4)]) (rest := []) (m_G_isPoint l E n C v3 v4 _ h) cb_10_183 sm_G_isPoint (dc hd_G_sight 6 rfl) rfl rfl ⟨Nat.le_of_ble_eq_true rfl, Nat.le_of_ble_eq_true rfl⟩ ⟨(Nat.le_of_ble_eq_true rfl), (Nat.le_of_ble_eq_true rfl)⟩ (Nat.le_of_ble_eq_true rfl) (fun _ h => by cases h) (fun _ => rfl) (fun r_11 D_13 d_14 q_12 => ?_)
    obtain ⟨q_12a, q_12b, h⟩ := q_12
    subst D_13
    subst d_14
    show AW p l e _ s m args below meth c E M_G_sight true _ n _ _ _ [(2, v0), (0, v1), (0, v2), (0, v3), (0, v4), (9, 0), (9, 0)] [(0, r_11)] C
    refine AW.if_eq (t := 28) (dc hd_G_sight 7 rfl) (by decide) (fun c_15 => ?_) (fun c_15 => ?_)
    · have h := h.1 c_15
      refine AW.ra_n (dc hd_G_sight 14 rfl) rfl rfl rfl ?_
      refine AW.iconst (dc hd_G_sight 15 rfl) (by decide) ?_
      obtain ⟨g_17, h⟩ := h
      refine AW.callV (As := [(0, 0)]) (rest := []) (ci := 10) (m_G_finds l E n C v0 0 _ h) cb_10_186 im_G_finds se_G_finds ⟨_, _, rfl⟩ (by decide) (dc hd_G_sight 16 rfl) g_17 rfl rfl ⟨Nat.le_of_ble_eq_true rfl, Nat.le_of_ble_eq_true rfl⟩ ⟨(Nat.le_of_ble_eq_true rfl), (Nat.le_of_ble_eq_true rfl)⟩ (Nat.le_of_ble_eq_true rfl) (fun _ h => by cases h) (fun _ => rfl) (fun r_16 C_18 d_20 q_19 => ?_)
      obtain ⟨q_19a, h⟩ := q_19
      subst d_20
      show AW p l e _ s m args below meth c E M_G_sight true _ n _ _ _ [(2, v0), (0, v1), (0, v2), (0, v3), (0, v4), (9, 0), (9, 0)] [(0, r_16)] C_18
      exact AW.iret (dc hd_G_sight 17 rfl) rfl rfl (Nat.le_of_ble_eq_true rfl) (Nat.le_of_ble_eq_true rfl) ⟨rfl, h⟩
    · have h := h.2 c_15
      refine AW.iload_n (dc hd_G_sight 8 rfl) rfl ?_
      refine AW.iload_n (dc hd_G_sight 9 rfl) rfl ?_
      refine AW.icmp_ne (t := 34) (dc hd_G_sight 10 rfl) (by decide) (fun c_21 => ?_) (fun c_21 => ?_)
      · have h := h.2 c_21
        exact aJ_G_sight_34 n C v0 v1 v2 v3 v4 Q h
      · have h := h.1 c_21
        refine AW.iload_n (dc hd_G_sight 11 rfl) rfl ?_
        refine AW.iload (dc hd_G_sight 12 rfl) rfl ?_
        refine AW.icmp_ne (t := 34) (dc hd_G_sight 13 rfl) (by decide) (fun c_42 => ?_) (fun c_42 => ?_)
        · have h := h.2 c_42
          exact aJ_G_sight_34 n C v0 v1 v2 v3 v4 Q h
        · have h := h.1 c_42
          refine AW.ra_n (dc hd_G_sight 14 rfl) rfl rfl rfl ?_
          refine AW.iconst (dc hd_G_sight 15 rfl) (by decide) ?_
          obtain ⟨g_44, h⟩ := h
          refine AW.callV (As := [(0, 0)]) (rest := []) (ci := 10) (m_G_finds l E n C v0 0 _ h) cb_10_186 im_G_finds se_G_finds ⟨_, _, rfl⟩ (by decide) (dc hd_G_sight 16 rfl) g_44 rfl rfl ⟨Nat.le_of_ble_eq_true rfl, Nat.le_of_ble_eq_true rfl⟩ ⟨(Nat.le_of_ble_eq_true rfl), (Nat.le_of_ble_eq_true rfl)⟩ (Nat.le_of_ble_eq_true rfl) (fun _ h => by cases h) (fun _ => rfl) (fun r_43 C_45 d_47 q_46 => ?_)
          obtain ⟨q_46a, h⟩ := q_46
          subst d_47
          show AW p l e _ s m args below meth c E M_G_sight true _ n _ _ _ [(2, v0), (0, v1), (0, v2), (0, v3), (0, v4), (9, 0), (9, 0)] [(0, r_43)] C_45
          exact AW.iret (dc hd_G_sight 17 rfl) rfl rfl (Nat.le_of_ble_eq_true rfl) (Nat.le_of_ble_eq_true rfl) ⟨rfl, h⟩
def J_G_has_14 (n : Nat) (C : Cn) (s0 : Int) (Q : Int → Prop) : Prop :=
  (s0 = 0 ∨ s0 = 1) ∧ (Q s0)
theorem aJ_G_has_14 (n : Nat) (C : Cn) (s0 : Int) (Q : Int → Prop) (h : J_G_has_14 n C s0 Q) : AW p l e R s m args below meth c E M_G_has true (fun r C2 n2 => C2 = C ∧ n2 = n ∧ Q r) n 0 0 14 [(9, 0), (9, 0)] [(0, s0)] C := by
  unfold J_G_has_14 at h
  obtain ⟨g_2, h⟩ := h
  exact AW.zret (dc hd_G_has 10 rfl) rfl rfl (Nat.le_of_ble_eq_true rfl) (Nat.le_of_ble_eq_true rfl) g_2 ⟨rfl, rfl, h⟩
def P_G_has (n : Nat) (C : Cn) (v0 v1 : Int) (Q : Int → Prop) : Prop :=
  J_G_has_14 n C (if and32 (shr32 v0 v1) 1 = 1 then 1 else 0) Q
theorem m_G_has (l : Launch) (E : Ev) (n : Nat) (C : Cn) (v0 v1 : Int) (Q : Int → Prop) (h : P_G_has n C v0 v1 Q) : MA l y_G_has M_G_has E true C n [(0, v0), (0, v1)] (fun r C2 n2 => C2 = C ∧ n2 = n ∧ Q r) := by
  refine MA.of (by decide) rfl rfl 0 rfl (fun p e s m args below meth c => ?_)
  show AW p l e _ s m args below meth c E M_G_has true _ n 0 0 0 [(0, v0), (0, v1)] [] C
  unfold P_G_has at h
  refine AW.iload_n (dc hd_G_has 0 rfl) rfl ?_
  refine AW.iload_n (dc hd_G_has 1 rfl) rfl ?_
  refine AW.ishr (dc hd_G_has 2 rfl) ?_
  refine AW.iconst (dc hd_G_has 3 rfl) (by decide) ?_
  refine AW.iand (dc hd_G_has 4 rfl) ?_
  refine AW.iconst (dc hd_G_has 5 rfl) (by decide) ?_
  refine AW.icmp_ne (t := 13) (dc hd_G_has 6 rfl) (by decide) (fun c_1 => ?_) (fun c_1 => ?_)
  · simp only [if_neg c_1] at h
    refine AW.iconst (dc hd_G_has 9 rfl) (by decide) ?_
    refine AW.fgt [(9, 0), (9, 0)] ⟨.inr rfl, .inr rfl, trivial⟩ ?_
    exact aJ_G_has_14 n C _ Q h
  · simp only [if_pos c_1] at h
    refine AW.iconst (dc hd_G_has 7 rfl) (by decide) ?_
    refine AW.goto (t := 14) (dc hd_G_has 8 rfl) (by decide) ?_
    refine AW.fgt [(9, 0), (9, 0)] ⟨.inr rfl, .inr rfl, trivial⟩ ?_
    exact aJ_G_has_14 n C _ Q h
def B_G_bounds_64 (n : Nat) (v0 v1 v2 v3 : Int) (Q : Int → Cn → Prop) (k64 : Cn × Int → Prop) (z : Cn × Int) : Prop := match z with
  | (C, v4) => (v4 < v2 → (Q 0 C)) ∧ (¬ v4 < v2 → (okO n v0 10 ∧ (okO n (PT v0.toNat 16) 17 ∧ (okI (PT v0.toNat 16) v1 ∧ (okO n (PT (PT v0.toNat 16).toNat v1.toNat) 12 ∧ (okI (PT (PT v0.toNat 16).toNat v1.toNat) v4 ∧ (P_G_has n C v3 (C (PT (PT v0.toNat 16).toNat v1.toNat).toNat v4.toNat) (fun (r_15 : Int) => (r_15 = 0 → (k64 (C, w32 (v4 + (-1))))) ∧ (¬ r_15 = 0 → (∀ C_20 : Cn, C_20 = wr C v0.toNat 26 (C (PT (PT v0.toNat 16).toNat v1.toNat).toNat v4.toNat) → (k64 (C_20, w32 (v4 + (-1))))))))))))))
theorem aB_G_bounds_64 (n : Nat) (v0 v1 v2 v3 : Int) (Q : Int → Cn → Prop) : ∀ (f : Nat) (z : Cn × Int), lp (B_G_bounds_64 n v0 v1 v2 v3 Q) f z → AW p l e R s m args below meth c E M_G_bounds true (fun r C2 n2 => n2 = n ∧ Q r C2) n 0 0 64 [(2, v0), (0, v1), (0, v2), (0, v3), (0, z.2)] [] (z.1) := by
  intro f
  induction f with
  | zero => intro z h; exact False.elim h
  | succ f ih =>
    intro z h
    obtain ⟨C, v4⟩ := z
    have h : B_G_bounds_64 n v0 v1 v2 v3 Q (lp (B_G_bounds_64 n v0 v1 v2 v3 Q) f) (C, v4) := h
    unfold B_G_bounds_64 at h
    dsimp only at h
    have hk64 : ∀ z : Cn × Int, lp (B_G_bounds_64 n v0 v1 v2 v3 Q) f z → _ := ih
    refine AW.iload (dc hd_G_bounds 37 rfl) rfl ?_
    refine AW.iload_n (dc hd_G_bounds 38 rfl) rfl ?_
    refine AW.icmp_lt (t := 105) (dc hd_G_bounds 39 rfl) (by decide) (fun c_9 => ?_) (fun c_9 => ?_)
    · have h := h.1 c_9
      exact AW.vret (dc hd_G_bounds 59 rfl) rfl rfl (Nat.le_of_ble_eq_true rfl) (Nat.le_of_ble_eq_true rfl) ⟨rfl, h⟩
    · have h := h.2 c_9
      refine AW.iload_n (dc hd_G_bounds 40 rfl) rfl ?_
      refine AW.ra_n (dc hd_G_bounds 41 rfl) rfl rfl rfl ?_
      obtain ⟨g_10, h⟩ := h
      refine AW.getp fl_10_43 (dc hd_G_bounds 42 rfl) g_10 rfl ?_
      refine AW.iload_n (dc hd_G_bounds 43 rfl) rfl ?_
      obtain ⟨g_11, h⟩ := h
      obtain ⟨g_12, h⟩ := h
      refine AW.aaldp (by decide) (dc hd_G_bounds 44 rfl) g_11 g_12 rfl ?_
      refine AW.iload (dc hd_G_bounds 45 rfl) rfl ?_
      obtain ⟨g_13, h⟩ := h
      obtain ⟨g_14, h⟩ := h
      refine AW.iald (dc hd_G_bounds 46 rfl) g_13 g_14 ?_
      refine AW.callS (As := [(0, v3), (0, C (PT (PT v0.toNat 16).toNat v1.toNat).toNat v4.toNat)]) (rest := []) (m_G_has l E n C v3 (C (PT (PT v0.toNat 16).toNat v1.toNat).toNat v4.toNat) _ h) cb_10_293 sm_G_has (dc hd_G_bounds 47 rfl) rfl rfl ⟨Nat.le_of_ble_eq_true rfl, Nat.le_of_ble_eq_true rfl⟩ ⟨(Nat.le_of_ble_eq_true rfl), (Nat.le_of_ble_eq_true rfl)⟩ (Nat.le_of_ble_eq_true rfl) (fun _ h => by cases h) (fun _ => rfl) (fun r_15 D_17 d_18 q_16 => ?_)
      obtain ⟨q_16a, q_16b, h⟩ := q_16
      subst D_17
      subst d_18
      show AW p l e _ s m args below meth c E M_G_bounds true _ n _ _ _ [(2, v0), (0, v1), (0, v2), (0, v3), (0, v4)] [(0, r_15)] C
      refine AW.if_eq (t := 99) (dc hd_G_bounds 48 rfl) (by decide) (fun c_19 => ?_) (fun c_19 => ?_)
      · have h := h.1 c_19
        refine AW.iinc [(2, v0), (0, v1), (0, v2), (0, v3), (0, w32 (v4 + (-1)))] (dc hd_G_bounds 57 rfl) rfl (Nat.le_of_ble_eq_true rfl) rfl rfl ?_
        refine AW.goto (t := 64) (dc hd_G_bounds 58 rfl) (by decide) ?_
        exact hk64 (C, w32 (v4 + (-1))) h
      · have h := h.2 c_19
        refine AW.ra_n (dc hd_G_bounds 49 rfl) rfl rfl rfl ?_
        refine AW.ra_n (dc hd_G_bounds 50 rfl) rfl rfl rfl ?_
        refine AW.getp fl_10_43 (dc hd_G_bounds 51 rfl) g_10 rfl ?_
        refine AW.iload_n (dc hd_G_bounds 52 rfl) rfl ?_
        refine AW.aaldp (by decide) (dc hd_G_bounds 53 rfl) g_11 g_12 rfl ?_
        refine AW.iload (dc hd_G_bounds 54 rfl) rfl ?_
        refine AW.iald (dc hd_G_bounds 55 rfl) g_13 g_14 ?_
        refine AW.nputI fl_10_290 (dc hd_G_bounds 56 rfl) g_10 (fun C_20 eC_20 => ?_)
        have h := h C_20 eC_20
        refine AW.iinc [(2, v0), (0, v1), (0, v2), (0, v3), (0, w32 (v4 + (-1)))] (dc hd_G_bounds 57 rfl) rfl (Nat.le_of_ble_eq_true rfl) rfl rfl ?_
        refine AW.goto (t := 64) (dc hd_G_bounds 58 rfl) (by decide) ?_
        exact hk64 (C_20, w32 (v4 + (-1))) h
def B_G_bounds_13 (n : Nat) (v0 v1 v2 v3 : Int) (Q : Int → Cn → Prop) (k13 : Cn × Int → Prop) (z : Cn × Int) : Prop := match z with
  | (C, v4) => (v2 ≤ v4 → (okO n v0 10 ∧ (okO n (PT v0.toNat 15) 12 ∧ (okI (PT v0.toNat 15) v1 ∧ (∀ v4_8 : Int, v4_8 = w32 (C (PT v0.toNat 15).toNat v1.toNat - 1) → (∃ f_21 : Nat, lp (B_G_bounds_64 n v0 v1 v2 v3 Q) f_21 (C, v4_8))))))) ∧ (¬ v2 ≤ v4 → (okO n v0 10 ∧ (okO n (PT v0.toNat 16) 17 ∧ (okI (PT v0.toNat 16) v1 ∧ (okO n (PT (PT v0.toNat 16).toNat v1.toNat) 12 ∧ (okI (PT (PT v0.toNat 16).toNat v1.toNat) v4 ∧ (P_G_has n C v3 (C (PT (PT v0.toNat 16).toNat v1.toNat).toNat v4.toNat) (fun (r_27 : Int) => (r_27 = 0 → (k13 (C, w32 (v4 + 1)))) ∧ (¬ r_27 = 0 → (∀ C_32 : Cn, C_32 = wr C v0.toNat 25 (C (PT (PT v0.toNat 16).toNat v1.toNat).toNat v4.toNat) → (k13 (C_32, w32 (v4 + 1)))))))))))))
theorem aB_G_bounds_13 (n : Nat) (v0 v1 v2 v3 : Int) (Q : Int → Cn → Prop) : ∀ (f : Nat) (z : Cn × Int), lp (B_G_bounds_13 n v0 v1 v2 v3 Q) f z → AW p l e R s m args below meth c E M_G_bounds true (fun r C2 n2 => n2 = n ∧ Q r C2) n 0 0 13 [(2, v0), (0, v1), (0, v2), (0, v3), (0, z.2)] [] (z.1) := by
  intro f
  induction f with
  | zero => intro z h; exact False.elim h
  | succ f ih =>
    intro z h
    obtain ⟨C, v4⟩ := z
    have h : B_G_bounds_13 n v0 v1 v2 v3 Q (lp (B_G_bounds_13 n v0 v1 v2 v3 Q) f) (C, v4) := h
    unfold B_G_bounds_13 at h
    dsimp only at h
    have hk13 : ∀ z : Cn × Int, lp (B_G_bounds_13 n v0 v1 v2 v3 Q) f z → _ := ih
    refine AW.iload (dc hd_G_bounds 8 rfl) rfl ?_
    refine AW.iload_n (dc hd_G_bounds 9 rfl) rfl ?_
    refine AW.icmp_ge (t := 54) (dc hd_G_bounds 10 rfl) (by decide) (fun c_4 => ?_) (fun c_4 => ?_)
    · have h := h.1 c_4
      refine AW.ra_n (dc hd_G_bounds 30 rfl) rfl rfl rfl ?_
      obtain ⟨g_5, h⟩ := h
      refine AW.getp fl_10_40 (dc hd_G_bounds 31 rfl) g_5 rfl ?_
      refine AW.iload_n (dc hd_G_bounds 32 rfl) rfl ?_
      obtain ⟨g_6, h⟩ := h
      obtain ⟨g_7, h⟩ := h
      refine AW.iald (dc hd_G_bounds 33 rfl) g_6 g_7 ?_
      refine AW.iconst (dc hd_G_bounds 34 rfl) (by decide) ?_
      refine AW.isub (dc hd_G_bounds 35 rfl) ?_
      refine AW.nm (fun v4_8 ev4_8 => ?_)
      have h := h v4_8 ev4_8
      refine AW.istore [(2, v0), (0, v1), (0, v2), (0, v3), (0, v4_8)] (dc hd_G_bounds 36 rfl) (Nat.le_of_ble_eq_true rfl) rfl rfl ?_
      obtain ⟨f_21, h⟩ := h
      exact aB_G_bounds_64 n v0 v1 v2 v3 Q f_21 (C, v4_8) h
    · have h := h.2 c_4
      refine AW.iload_n (dc hd_G_bounds 11 rfl) rfl ?_
      refine AW.ra_n (dc hd_G_bounds 12 rfl) rfl rfl rfl ?_
      obtain ⟨g_22, h⟩ := h
      refine AW.getp fl_10_43 (dc hd_G_bounds 13 rfl) g_22 rfl ?_
      refine AW.iload_n (dc hd_G_bounds 14 rfl) rfl ?_
      obtain ⟨g_23, h⟩ := h
      obtain ⟨g_24, h⟩ := h
      refine AW.aaldp (by decide) (dc hd_G_bounds 15 rfl) g_23 g_24 rfl ?_
      refine AW.iload (dc hd_G_bounds 16 rfl) rfl ?_
      obtain ⟨g_25, h⟩ := h
      obtain ⟨g_26, h⟩ := h
      refine AW.iald (dc hd_G_bounds 17 rfl) g_25 g_26 ?_
      refine AW.callS (As := [(0, v3), (0, C (PT (PT v0.toNat 16).toNat v1.toNat).toNat v4.toNat)]) (rest := []) (m_G_has l E n C v3 (C (PT (PT v0.toNat 16).toNat v1.toNat).toNat v4.toNat) _ h) cb_10_293 sm_G_has (dc hd_G_bounds 18 rfl) rfl rfl ⟨Nat.le_of_ble_eq_true rfl, Nat.le_of_ble_eq_true rfl⟩ ⟨(Nat.le_of_ble_eq_true rfl), (Nat.le_of_ble_eq_true rfl)⟩ (Nat.le_of_ble_eq_true rfl) (fun _ h => by cases h) (fun _ => rfl) (fun r_27 D_29 d_30 q_28 => ?_)
      obtain ⟨q_28a, q_28b, h⟩ := q_28
      subst D_29
      subst d_30
      show AW p l e _ s m args below meth c E M_G_bounds true _ n _ _ _ [(2, v0), (0, v1), (0, v2), (0, v3), (0, v4)] [(0, r_27)] C
      refine AW.if_eq (t := 48) (dc hd_G_bounds 19 rfl) (by decide) (fun c_31 => ?_) (fun c_31 => ?_)
      · have h := h.1 c_31
        refine AW.iinc [(2, v0), (0, v1), (0, v2), (0, v3), (0, w32 (v4 + 1))] (dc hd_G_bounds 28 rfl) rfl (Nat.le_of_ble_eq_true rfl) rfl rfl ?_
        refine AW.goto (t := 13) (dc hd_G_bounds 29 rfl) (by decide) ?_
        exact hk13 (C, w32 (v4 + 1)) h
      · have h := h.2 c_31
        refine AW.ra_n (dc hd_G_bounds 20 rfl) rfl rfl rfl ?_
        refine AW.ra_n (dc hd_G_bounds 21 rfl) rfl rfl rfl ?_
        refine AW.getp fl_10_43 (dc hd_G_bounds 22 rfl) g_22 rfl ?_
        refine AW.iload_n (dc hd_G_bounds 23 rfl) rfl ?_
        refine AW.aaldp (by decide) (dc hd_G_bounds 24 rfl) g_23 g_24 rfl ?_
        refine AW.iload (dc hd_G_bounds 25 rfl) rfl ?_
        refine AW.iald (dc hd_G_bounds 26 rfl) g_25 g_26 ?_
        refine AW.nputI fl_10_287 (dc hd_G_bounds 27 rfl) g_22 (fun C_32 eC_32 => ?_)
        have h := h C_32 eC_32
        refine AW.iinc [(2, v0), (0, v1), (0, v2), (0, v3), (0, w32 (v4 + 1))] (dc hd_G_bounds 28 rfl) rfl (Nat.le_of_ble_eq_true rfl) rfl rfl ?_
        refine AW.goto (t := 13) (dc hd_G_bounds 29 rfl) (by decide) ?_
        exact hk13 (C_32, w32 (v4 + 1)) h
def P_G_bounds (n : Nat) (C : Cn) (v0 v1 v2 v3 : Int) (Q : Int → Cn → Prop) : Prop :=
  okO n v0 10 ∧ (∀ C_2 : Cn, C_2 = wr C v0.toNat 25 (-1) → (∀ C_3 : Cn, C_3 = wr C_2 v0.toNat 26 (-1) → (∃ f_33 : Nat, lp (B_G_bounds_13 n v0 v1 v2 v3 Q) f_33 (C_3, 0))))
theorem m_G_bounds (l : Launch) (E : Ev) (n : Nat) (C : Cn) (v0 v1 v2 v3 : Int) (Q : Int → Cn → Prop) (h : P_G_bounds n C v0 v1 v2 v3 Q) : MA l y_G_bounds M_G_bounds E true C n [(2, v0), (0, v1), (0, v2), (0, v3)] (fun r C2 n2 => n2 = n ∧ Q r C2) := by
  refine MA.of (by decide) rfl rfl 1 rfl (fun p e s m args below meth c => ?_)
  show AW p l e _ s m args below meth c E M_G_bounds true _ n 0 0 0 [(2, v0), (0, v1), (0, v2), (0, v3), (9, 0)] [] C
  unfold P_G_bounds at h
  refine AW.ra_n (dc hd_G_bounds 0 rfl) rfl rfl rfl ?_
  refine AW.iconst (dc hd_G_bounds 1 rfl) (by decide) ?_
  obtain ⟨g_1, h⟩ := h
  refine AW.nputI fl_10_287 (dc hd_G_bounds 2 rfl) g_1 (fun C_2 eC_2 => ?_)
  have h := h C_2 eC_2
  refine AW.ra_n (dc hd_G_bounds 3 rfl) rfl rfl rfl ?_
  refine AW.iconst (dc hd_G_bounds 4 rfl) (by decide) ?_
  refine AW.nputI fl_10_290 (dc hd_G_bounds 5 rfl) g_1 (fun C_3 eC_3 => ?_)
  have h := h C_3 eC_3
  refine AW.iconst (dc hd_G_bounds 6 rfl) (by decide) ?_
  refine AW.istore [(2, v0), (0, v1), (0, v2), (0, v3), (0, 0)] (dc hd_G_bounds 7 rfl) (Nat.le_of_ble_eq_true rfl) rfl rfl ?_
  obtain ⟨f_33, h⟩ := h
  exact aB_G_bounds_13 n v0 v1 v2 v3 Q f_33 (C_3, 0) h
def J_G_areNext_82 (n : Nat) (C : Cn) (s0 : Int) (Q : Int → Prop) : Prop :=
  (s0 = 0 ∨ s0 = 1) ∧ (Q s0)
theorem aJ_G_areNext_82 (n : Nat) (C : Cn) (s0 : Int) (Q : Int → Prop) (h : J_G_areNext_82 n C s0 Q) : AW p l e R s m args below meth c E M_G_areNext true (fun r C2 n2 => C2 = C ∧ n2 = n ∧ Q r) n 0 0 82 [(9, 0), (9, 0), (9, 0), (9, 0), (9, 0), (9, 0), (9, 0), (9, 0)] [(0, s0)] C := by
  unfold J_G_areNext_82 at h
  obtain ⟨g_7, h⟩ := h
  exact AW.zret (dc hd_G_areNext 43 rfl) rfl rfl (Nat.le_of_ble_eq_true rfl) (Nat.le_of_ble_eq_true rfl) g_7 ⟨rfl, rfl, h⟩
def J_G_areNext_65 (n : Nat) (C : Cn) (v3 v4 v5 : Int) (Q : Int → Prop) : Prop :=
  J_G_areNext_82 n C (if v5 = v3 then (if v4 = (-1) then 1 else 0) else 0) Q
theorem aJ_G_areNext_65 (n : Nat) (C : Cn) (v3 v4 v5 : Int) (Q : Int → Prop) (h : J_G_areNext_65 n C v3 v4 v5 Q) : AW p l e R s m args below meth c E M_G_areNext true (fun r C2 n2 => C2 = C ∧ n2 = n ∧ Q r) n 0 0 65 [(9, 0), (9, 0), (9, 0), (0, v3), (0, v4), (0, v5), (9, 0), (9, 0)] [] C := by
  unfold J_G_areNext_65 at h
  refine AW.iload (dc hd_G_areNext 34 rfl) rfl ?_
  refine AW.iload_n (dc hd_G_areNext 35 rfl) rfl ?_
  refine AW.icmp_ne (t := 81) (dc hd_G_areNext 36 rfl) (by decide) (fun c_5 => ?_) (fun c_5 => ?_)
  · simp only [if_neg c_5] at h
    refine AW.iconst (dc hd_G_areNext 42 rfl) (by decide) ?_
    refine AW.fgt [(9, 0), (9, 0), (9, 0), (9, 0), (9, 0), (9, 0), (9, 0), (9, 0)] ⟨.inl rfl, .inl rfl, .inl rfl, .inr rfl, .inr rfl, .inr rfl, .inl rfl, .inl rfl, trivial⟩ ?_
    exact aJ_G_areNext_82 n C _ Q h
  · simp only [if_pos c_5] at h
    refine AW.iload (dc hd_G_areNext 37 rfl) rfl ?_
    refine AW.iconst (dc hd_G_areNext 38 rfl) (by decide) ?_
    refine AW.icmp_ne (t := 81) (dc hd_G_areNext 39 rfl) (by decide) (fun c_6 => ?_) (fun c_6 => ?_)
    · simp only [if_neg c_6] at h
      refine AW.iconst (dc hd_G_areNext 42 rfl) (by decide) ?_
      refine AW.fgt [(9, 0), (9, 0), (9, 0), (9, 0), (9, 0), (9, 0), (9, 0), (9, 0)] ⟨.inl rfl, .inl rfl, .inl rfl, .inr rfl, .inr rfl, .inr rfl, .inl rfl, .inl rfl, trivial⟩ ?_
      exact aJ_G_areNext_82 n C _ Q h
    · simp only [if_pos c_6] at h
      refine AW.iconst (dc hd_G_areNext 40 rfl) (by decide) ?_
      refine AW.goto (t := 82) (dc hd_G_areNext 41 rfl) (by decide) ?_
      refine AW.fgt [(9, 0), (9, 0), (9, 0), (9, 0), (9, 0), (9, 0), (9, 0), (9, 0)] ⟨.inl rfl, .inl rfl, .inl rfl, .inr rfl, .inr rfl, .inr rfl, .inl rfl, .inl rfl, trivial⟩ ?_
      exact aJ_G_areNext_82 n C _ Q h
def B_G_areNext_6 (n : Nat) (C : Cn) (v0 v1 v2 v3 v4 : Int) (Q : Int → Prop) (k6 : Int × Int → Prop) (z : Int × Int) : Prop := match z with
  | (v5, v6) => okO n v0 10 ∧ (okO n (PT v0.toNat 15) 12 ∧ (okI (PT v0.toNat 15) v1 ∧ ((C (PT v0.toNat 15).toNat v1.toNat ≤ v6 → (J_G_areNext_65 n C v3 v4 v5 Q)) ∧ (¬ C (PT v0.toNat 15).toNat v1.toNat ≤ v6 → (okO n (PT v0.toNat 16) 17 ∧ (okI (PT v0.toNat 16) v1 ∧ (okO n (PT (PT v0.toNat 16).toNat v1.toNat) 12 ∧ (okI (PT (PT v0.toNat 16).toNat v1.toNat) v6 ∧ (∀ v7_12 : Int, v7_12 = C (PT (PT v0.toNat 16).toNat v1.toNat).toNat v6.toNat → (P_G_has n C v2 v7_12 (fun (r_13 : Int) => (r_13 = 0 → (k6 (v5, w32 (v6 + 1)))) ∧ (¬ r_13 = 0 → ((v5 = v3 → ((v7_12 = v4 → (Q 1)) ∧ (¬ v7_12 = v4 → (k6 (v7_12, w32 (v6 + 1)))))) ∧ (¬ v5 = v3 → (k6 (v7_12, w32 (v6 + 1)))))))))))))))))
theorem aB_G_areNext_6 (n : Nat) (C : Cn) (v0 v1 v2 v3 v4 : Int) (Q : Int → Prop) : ∀ (f : Nat) (z : Int × Int), lp (B_G_areNext_6 n C v0 v1 v2 v3 v4 Q) f z → AW p l e R s m args below meth c E M_G_areNext true (fun r C2 n2 => C2 = C ∧ n2 = n ∧ Q r) n 0 0 6 [(2, v0), (0, v1), (0, v2), (0, v3), (0, v4), (0, z.1), (0, z.2), (9, 0)] [] C := by
  intro f
  induction f with
  | zero => intro z h; exact False.elim h
  | succ f ih =>
    intro z h
    obtain ⟨v5, v6⟩ := z
    have h : B_G_areNext_6 n C v0 v1 v2 v3 v4 Q (lp (B_G_areNext_6 n C v0 v1 v2 v3 v4 Q) f) (v5, v6) := h
    unfold B_G_areNext_6 at h
    dsimp only at h
    have hk6 : ∀ z : Int × Int, lp (B_G_areNext_6 n C v0 v1 v2 v3 v4 Q) f z → _ := ih
    refine AW.iload (dc hd_G_areNext 4 rfl) rfl ?_
    refine AW.ra_n (dc hd_G_areNext 5 rfl) rfl rfl rfl ?_
    obtain ⟨g_1, h⟩ := h
    refine AW.getp fl_10_40 (dc hd_G_areNext 6 rfl) g_1 rfl ?_
    refine AW.iload_n (dc hd_G_areNext 7 rfl) rfl ?_
    obtain ⟨g_2, h⟩ := h
    obtain ⟨g_3, h⟩ := h
    refine AW.iald (dc hd_G_areNext 8 rfl) g_2 g_3 ?_
    refine AW.icmp_ge (t := 65) (dc hd_G_areNext 9 rfl) (by decide) (fun c_4 => ?_) (fun c_4 => ?_)
    · have h := h.1 c_4
      refine AW.fgt [(9, 0), (9, 0), (9, 0), (0, v3), (0, v4), (0, v5), (9, 0), (9, 0)] ⟨.inr rfl, .inr rfl, .inr rfl, .inl rfl, .inl rfl, .inl rfl, .inr rfl, .inl rfl, trivial⟩ ?_
      exact aJ_G_areNext_65 n C v3 v4 v5 Q h
    · have h := h.2 c_4
      refine AW.ra_n (dc hd_G_areNext 10 rfl) rfl rfl rfl ?_
      refine AW.getp fl_10_43 (dc hd_G_areNext 11 rfl) g_1 rfl ?_
      refine AW.iload_n (dc hd_G_areNext 12 rfl) rfl ?_
      obtain ⟨g_8, h⟩ := h
      obtain ⟨g_9, h⟩ := h
      refine AW.aaldp (by decide) (dc hd_G_areNext 13 rfl) g_8 g_9 rfl ?_
      refine AW.iload (dc hd_G_areNext 14 rfl) rfl ?_
      obtain ⟨g_10, h⟩ := h
      obtain ⟨g_11, h⟩ := h
      refine AW.iald (dc hd_G_areNext 15 rfl) g_10 g_11 ?_
      refine AW.nm (fun v7_12 ev7_12 => ?_)
      have h := h v7_12 ev7_12
      refine AW.istore [(2, v0), (0, v1), (0, v2), (0, v3), (0, v4), (0, v5), (0, v6), (0, v7_12)] (dc hd_G_areNext 16 rfl) (Nat.le_of_ble_eq_true rfl) rfl rfl ?_
      refine AW.iload_n (dc hd_G_areNext 17 rfl) rfl ?_
      refine AW.iload (dc hd_G_areNext 18 rfl) rfl ?_
      refine AW.callS (As := [(0, v2), (0, v7_12)]) (rest := []) (m_G_has l E n C v2 v7_12 _ h) cb_10_293 sm_G_has (dc hd_G_areNext 19 rfl) rfl rfl ⟨Nat.le_of_ble_eq_true rfl, Nat.le_of_ble_eq_true rfl⟩ ⟨(Nat.le_of_ble_eq_true rfl), (Nat.le_of_ble_eq_true rfl)⟩ (Nat.le_of_ble_eq_true rfl) (fun _ h => by cases h) (fun _ => rfl) (fun r_13 D_15 d_16 q_14 => ?_)
      obtain ⟨q_14a, q_14b, h⟩ := q_14
      subst D_15
      subst d_16
      show AW p l e _ s m args below meth c E M_G_areNext true _ n _ _ _ [(2, v0), (0, v1), (0, v2), (0, v3), (0, v4), (0, v5), (0, v6), (0, v7_12)] [(0, r_13)] C
      refine AW.if_ne (t := 40) (dc hd_G_areNext 20 rfl) (by decide) (fun c_17 => ?_) (fun c_17 => ?_)
      · have h := h.2 c_17
        refine AW.iload (dc hd_G_areNext 22 rfl) rfl ?_
        refine AW.iload_n (dc hd_G_areNext 23 rfl) rfl ?_
        refine AW.icmp_ne (t := 55) (dc hd_G_areNext 24 rfl) (by decide) (fun c_19 => ?_) (fun c_19 => ?_)
        · have h := h.2 c_19
          refine AW.iload (dc hd_G_areNext 30 rfl) rfl ?_
          refine AW.istore [(2, v0), (0, v1), (0, v2), (0, v3), (0, v4), (0, v7_12), (0, v6), (0, v7_12)] (dc hd_G_areNext 31 rfl) (Nat.le_of_ble_eq_true rfl) rfl rfl ?_
          refine AW.iinc [(2, v0), (0, v1), (0, v2), (0, v3), (0, v4), (0, v7_12), (0, w32 (v6 + 1)), (0, v7_12)] (dc hd_G_areNext 32 rfl) rfl (Nat.le_of_ble_eq_true rfl) rfl rfl ?_
          refine AW.goto (t := 6) (dc hd_G_areNext 33 rfl) (by decide) ?_
          refine AW.fgt [(2, v0), (0, v1), (0, v2), (0, v3), (0, v4), (0, v7_12), (0, w32 (v6 + 1)), (9, 0)] ⟨.inl rfl, .inl rfl, .inl rfl, .inl rfl, .inl rfl, .inl rfl, .inl rfl, .inr rfl, trivial⟩ ?_
          exact hk6 (v7_12, w32 (v6 + 1)) h
        · have h := h.1 c_19
          refine AW.iload (dc hd_G_areNext 25 rfl) rfl ?_
          refine AW.iload (dc hd_G_areNext 26 rfl) rfl ?_
          refine AW.icmp_ne (t := 55) (dc hd_G_areNext 27 rfl) (by decide) (fun c_20 => ?_) (fun c_20 => ?_)
          · have h := h.2 c_20
            refine AW.iload (dc hd_G_areNext 30 rfl) rfl ?_
            refine AW.istore [(2, v0), (0, v1), (0, v2), (0, v3), (0, v4), (0, v7_12), (0, v6), (0, v7_12)] (dc hd_G_areNext 31 rfl) (Nat.le_of_ble_eq_true rfl) rfl rfl ?_
            refine AW.iinc [(2, v0), (0, v1), (0, v2), (0, v3), (0, v4), (0, v7_12), (0, w32 (v6 + 1)), (0, v7_12)] (dc hd_G_areNext 32 rfl) rfl (Nat.le_of_ble_eq_true rfl) rfl rfl ?_
            refine AW.goto (t := 6) (dc hd_G_areNext 33 rfl) (by decide) ?_
            refine AW.fgt [(2, v0), (0, v1), (0, v2), (0, v3), (0, v4), (0, v7_12), (0, w32 (v6 + 1)), (9, 0)] ⟨.inl rfl, .inl rfl, .inl rfl, .inl rfl, .inl rfl, .inl rfl, .inl rfl, .inr rfl, trivial⟩ ?_
            exact hk6 (v7_12, w32 (v6 + 1)) h
          · have h := h.1 c_20
            refine AW.iconst (dc hd_G_areNext 28 rfl) (by decide) ?_
            exact AW.zret (dc hd_G_areNext 29 rfl) rfl rfl (Nat.le_of_ble_eq_true rfl) (Nat.le_of_ble_eq_true rfl) (by decide) ⟨rfl, rfl, h⟩
      · have h := h.1 c_17
        refine AW.goto (t := 59) (dc hd_G_areNext 21 rfl) (by decide) ?_
        refine AW.iinc [(2, v0), (0, v1), (0, v2), (0, v3), (0, v4), (0, v5), (0, w32 (v6 + 1)), (0, v7_12)] (dc hd_G_areNext 32 rfl) rfl (Nat.le_of_ble_eq_true rfl) rfl rfl ?_
        refine AW.goto (t := 6) (dc hd_G_areNext 33 rfl) (by decide) ?_
        refine AW.fgt [(2, v0), (0, v1), (0, v2), (0, v3), (0, v4), (0, v5), (0, w32 (v6 + 1)), (9, 0)] ⟨.inl rfl, .inl rfl, .inl rfl, .inl rfl, .inl rfl, .inl rfl, .inl rfl, .inr rfl, trivial⟩ ?_
        exact hk6 (v5, w32 (v6 + 1)) h
def P_G_areNext (n : Nat) (C : Cn) (v0 v1 v2 v3 v4 : Int) (Q : Int → Prop) : Prop :=
  ∃ f_21 : Nat, lp (B_G_areNext_6 n C v0 v1 v2 v3 v4 Q) f_21 ((-1), 0)
theorem m_G_areNext (l : Launch) (E : Ev) (n : Nat) (C : Cn) (v0 v1 v2 v3 v4 : Int) (Q : Int → Prop) (h : P_G_areNext n C v0 v1 v2 v3 v4 Q) : MA l y_G_areNext M_G_areNext E true C n [(2, v0), (0, v1), (0, v2), (0, v3), (0, v4)] (fun r C2 n2 => C2 = C ∧ n2 = n ∧ Q r) := by
  refine MA.of (by decide) rfl rfl 3 rfl (fun p e s m args below meth c => ?_)
  show AW p l e _ s m args below meth c E M_G_areNext true _ n 0 0 0 [(2, v0), (0, v1), (0, v2), (0, v3), (0, v4), (9, 0), (9, 0), (9, 0)] [] C
  unfold P_G_areNext at h
  refine AW.iconst (dc hd_G_areNext 0 rfl) (by decide) ?_
  refine AW.istore [(2, v0), (0, v1), (0, v2), (0, v3), (0, v4), (0, (-1)), (9, 0), (9, 0)] (dc hd_G_areNext 1 rfl) (Nat.le_of_ble_eq_true rfl) rfl rfl ?_
  refine AW.iconst (dc hd_G_areNext 2 rfl) (by decide) ?_
  refine AW.istore [(2, v0), (0, v1), (0, v2), (0, v3), (0, v4), (0, (-1)), (0, 0), (9, 0)] (dc hd_G_areNext 3 rfl) (Nat.le_of_ble_eq_true rfl) rfl rfl ?_
  obtain ⟨f_21, h⟩ := h
  exact aB_G_areNext_6 n C v0 v1 v2 v3 v4 Q f_21 ((-1), 0) h
def J_G_isBetween_58 (n : Nat) (C : Cn) (v0 v1 v2 v3 v4 v5 v6 : Int) (k15 : Int × Int → Prop) (Q : Int → Prop) : Prop :=
  okO n v0 10 ∧ (okO n (PT v0.toNat 16) 17 ∧ (okI (PT v0.toNat 16) v1 ∧ (okO n (PT (PT v0.toNat 16).toNat v1.toNat) 12 ∧ (okI (PT (PT v0.toNat 16).toNat v1.toNat) v6 ∧ ((C (PT (PT v0.toNat 16).toNat v1.toNat).toNat v6.toNat = v4 → (Q 0)) ∧ (¬ C (PT (PT v0.toNat 16).toNat v1.toNat).toNat v6.toNat = v4 → (k15 (v5, w32 (v6 + 1)))))))))
theorem aJ_G_isBetween_58 (n : Nat) (C : Cn) (v0 v1 v2 v3 v4 v5 v6 : Int) (k15 : Int × Int → Prop) (Q : Int → Prop) (hk15 : ∀ (z5 : Int) (z6 : Int), k15 (z5, z6) → AW p l e R s m args below meth c E M_G_isBetween true (fun r C2 n2 => C2 = C ∧ n2 = n ∧ Q r) n 0 0 15 [(2, v0), (0, v1), (0, v2), (0, v3), (0, v4), (0, z5), (0, z6)] [] C) (h : J_G_isBetween_58 n C v0 v1 v2 v3 v4 v5 v6 k15 Q) : AW p l e R s m args below meth c E M_G_isBetween true (fun r C2 n2 => C2 = C ∧ n2 = n ∧ Q r) n 0 0 58 [(2, v0), (0, v1), (0, v2), (0, v3), (0, v4), (0, v5), (0, v6)] [] C := by
  unfold J_G_isBetween_58 at h
  refine AW.ra_n (dc hd_G_isBetween 35 rfl) rfl rfl rfl ?_
  obtain ⟨g_12, h⟩ := h
  refine AW.getp fl_10_43 (dc hd_G_isBetween 36 rfl) g_12 rfl ?_
  refine AW.iload_n (dc hd_G_isBetween 37 rfl) rfl ?_
  obtain ⟨g_13, h⟩ := h
  obtain ⟨g_14, h⟩ := h
  refine AW.aaldp (by decide) (dc hd_G_isBetween 38 rfl) g_13 g_14 rfl ?_
  refine AW.iload (dc hd_G_isBetween 39 rfl) rfl ?_
  obtain ⟨g_15, h⟩ := h
  obtain ⟨g_16, h⟩ := h
  refine AW.iald (dc hd_G_isBetween 40 rfl) g_15 g_16 ?_
  refine AW.iload (dc hd_G_isBetween 41 rfl) rfl ?_
  refine AW.icmp_ne (t := 74) (dc hd_G_isBetween 42 rfl) (by decide) (fun c_17 => ?_) (fun c_17 => ?_)
  · have h := h.2 c_17
    refine AW.iinc [(2, v0), (0, v1), (0, v2), (0, v3), (0, v4), (0, v5), (0, w32 (v6 + 1))] (dc hd_G_isBetween 45 rfl) rfl (Nat.le_of_ble_eq_true rfl) rfl rfl ?_
    refine AW.goto (t := 15) (dc hd_G_isBetween 46 rfl) (by decide) ?_
    exact hk15 (v5, w32 (v6 + 1)) h
  · have h := h.1 c_17
    refine AW.iconst (dc hd_G_isBetween 43 rfl) (by decide) ?_
    exact AW.zret (dc hd_G_isBetween 44 rfl) rfl rfl (Nat.le_of_ble_eq_true rfl) (Nat.le_of_ble_eq_true rfl) (by decide) ⟨rfl, rfl, h⟩
def B_G_isBetween_15 (n : Nat) (C : Cn) (v0 v1 v2 v3 v4 : Int) (Q : Int → Prop) (k15 : Int × Int → Prop) (z : Int × Int) : Prop := match z with
  | (v5, v6) => okO n v0 10 ∧ (okO n (PT v0.toNat 15) 12 ∧ (okI (PT v0.toNat 15) v1 ∧ ((C (PT v0.toNat 15).toNat v1.toNat ≤ v6 → (Q 0)) ∧ (¬ C (PT v0.toNat 15).toNat v1.toNat ≤ v6 → (okO n (PT v0.toNat 16) 17 ∧ (okI (PT v0.toNat 16) v1 ∧ (okO n (PT (PT v0.toNat 16).toNat v1.toNat) 12 ∧ (okI (PT (PT v0.toNat 16).toNat v1.toNat) v6 ∧ ((C (PT (PT v0.toNat 16).toNat v1.toNat).toNat v6.toNat = v2 → ((v5 = 0 ∨ v5 = 1) ∧ (Q v5))) ∧ (¬ C (PT (PT v0.toNat 16).toNat v1.toNat).toNat v6.toNat = v2 → ((C (PT (PT v0.toNat 16).toNat v1.toNat).toNat v6.toNat = v3 → (J_G_isBetween_58 n C v0 v1 v2 v3 v4 1 v6 k15 Q)) ∧ (¬ C (PT (PT v0.toNat 16).toNat v1.toNat).toNat v6.toNat = v3 → (J_G_isBetween_58 n C v0 v1 v2 v3 v4 v5 v6 k15 Q)))))))))))))
theorem aB_G_isBetween_15 (n : Nat) (C : Cn) (v0 v1 v2 v3 v4 : Int) (Q : Int → Prop) : ∀ (f : Nat) (z : Int × Int), lp (B_G_isBetween_15 n C v0 v1 v2 v3 v4 Q) f z → AW p l e R s m args below meth c E M_G_isBetween true (fun r C2 n2 => C2 = C ∧ n2 = n ∧ Q r) n 0 0 15 [(2, v0), (0, v1), (0, v2), (0, v3), (0, v4), (0, z.1), (0, z.2)] [] C := by
  intro f
  induction f with
  | zero => intro z h; exact False.elim h
  | succ f ih =>
    intro z h
    obtain ⟨v5, v6⟩ := z
    have h : B_G_isBetween_15 n C v0 v1 v2 v3 v4 Q (lp (B_G_isBetween_15 n C v0 v1 v2 v3 v4 Q) f) (v5, v6) := h
    unfold B_G_isBetween_15 at h
    dsimp only at h
    have hk15 : ∀ z : Int × Int, lp (B_G_isBetween_15 n C v0 v1 v2 v3 v4 Q) f z → _ := ih
    refine AW.iload (dc hd_G_isBetween 9 rfl) rfl ?_
    refine AW.ra_n (dc hd_G_isBetween 10 rfl) rfl rfl rfl ?_
    obtain ⟨g_2, h⟩ := h
    refine AW.getp fl_10_40 (dc hd_G_isBetween 11 rfl) g_2 rfl ?_
    refine AW.iload_n (dc hd_G_isBetween 12 rfl) rfl ?_
    obtain ⟨g_3, h⟩ := h
    obtain ⟨g_4, h⟩ := h
    refine AW.iald (dc hd_G_isBetween 13 rfl) g_3 g_4 ?_
    refine AW.icmp_ge (t := 80) (dc hd_G_isBetween 14 rfl) (by decide) (fun c_5 => ?_) (fun c_5 => ?_)
    · have h := h.1 c_5
      refine AW.iconst (dc hd_G_isBetween 47 rfl) (by decide) ?_
      exact AW.zret (dc hd_G_isBetween 48 rfl) rfl rfl (Nat.le_of_ble_eq_true rfl) (Nat.le_of_ble_eq_true rfl) (by decide) ⟨rfl, rfl, h⟩
    · have h := h.2 c_5
      refine AW.ra_n (dc hd_G_isBetween 15 rfl) rfl rfl rfl ?_
      refine AW.getp fl_10_43 (dc hd_G_isBetween 16 rfl) g_2 rfl ?_
      refine AW.iload_n (dc hd_G_isBetween 17 rfl) rfl ?_
      obtain ⟨g_6, h⟩ := h
      obtain ⟨g_7, h⟩ := h
      refine AW.aaldp (by decide) (dc hd_G_isBetween 18 rfl) g_6 g_7 rfl ?_
      refine AW.iload (dc hd_G_isBetween 19 rfl) rfl ?_
      obtain ⟨g_8, h⟩ := h
      obtain ⟨g_9, h⟩ := h
      refine AW.iald (dc hd_G_isBetween 20 rfl) g_8 g_9 ?_
      refine AW.iload_n (dc hd_G_isBetween 21 rfl) rfl ?_
      refine AW.icmp_ne (t := 42) (dc hd_G_isBetween 22 rfl) (by decide) (fun c_10 => ?_) (fun c_10 => ?_)
      · have h := h.2 c_10
        refine AW.ra_n (dc hd_G_isBetween 25 rfl) rfl rfl rfl ?_
        refine AW.getp fl_10_43 (dc hd_G_isBetween 26 rfl) g_2 rfl ?_
        refine AW.iload_n (dc hd_G_isBetween 27 rfl) rfl ?_
        refine AW.aaldp (by decide) (dc hd_G_isBetween 28 rfl) g_6 g_7 rfl ?_
        refine AW.iload (dc hd_G_isBetween 29 rfl) rfl ?_
        refine AW.iald (dc hd_G_isBetween 30 rfl) g_8 g_9 ?_
        refine AW.iload_n (dc hd_G_isBetween 31 rfl) rfl ?_
        refine AW.icmp_ne (t := 58) (dc hd_G_isBetween 32 rfl) (by decide) (fun c_11 => ?_) (fun c_11 => ?_)
        · have h := h.2 c_11
          exact aJ_G_isBetween_58 n C v0 v1 v2 v3 v4 v5 v6 k15 Q hk15 h
        · have h := h.1 c_11
          refine AW.iconst (dc hd_G_isBetween 33 rfl) (by decide) ?_
          refine AW.istore [(2, v0), (0, v1), (0, v2), (0, v3), (0, v4), (0, 1), (0, v6)] (dc hd_G_isBetween 34 rfl) (Nat.le_of_ble_eq_true rfl) rfl rfl ?_
          exact aJ_G_isBetween_58 n C v0 v1 v2 v3 v4 1 v6 k15 Q hk15 h
      · have h := h.1 c_10
        refine AW.iload (dc hd_G_isBetween 23 rfl) rfl ?_
        obtain ⟨g_18, h⟩ := h
        exact AW.zret (dc hd_G_isBetween 24 rfl) rfl rfl (Nat.le_of_ble_eq_true rfl) (Nat.le_of_ble_eq_true rfl) g_18 ⟨rfl, rfl, h⟩
def J_G_isBetween_10 (n : Nat) (C : Cn) (v0 v1 v2 v3 v4 s0 : Int) (Q : Int → Prop) : Prop :=
  ∃ f_19 : Nat, lp (B_G_isBetween_15 n C v0 v1 v2 v3 v4 Q) f_19 (s0, 0)
theorem aJ_G_isBetween_10 (n : Nat) (C : Cn) (v0 v1 v2 v3 v4 s0 : Int) (Q : Int → Prop) (h : J_G_isBetween_10 n C v0 v1 v2 v3 v4 s0 Q) : AW p l e R s m args below meth c E M_G_isBetween true (fun r C2 n2 => C2 = C ∧ n2 = n ∧ Q r) n 0 0 10 [(2, v0), (0, v1), (0, v2), (0, v3), (0, v4), (9, 0), (9, 0)] [(0, s0)] C := by
  unfold J_G_isBetween_10 at h
  refine AW.istore [(2, v0), (0, v1), (0, v2), (0, v3), (0, v4), (0, s0), (9, 0)] (dc hd_G_isBetween 6 rfl) (Nat.le_of_ble_eq_true rfl) rfl rfl ?_
  refine AW.iconst (dc hd_G_isBetween 7 rfl) (by decide) ?_
  refine AW.istore [(2, v0), (0, v1), (0, v2), (0, v3), (0, v4), (0, s0), (0, 0)] (dc hd_G_isBetween 8 rfl) (Nat.le_of_ble_eq_true rfl) rfl rfl ?_
  obtain ⟨f_19, h⟩ := h
  exact aB_G_isBetween_15 n C v0 v1 v2 v3 v4 Q f_19 (s0, 0) h
def P_G_isBetween (n : Nat) (C : Cn) (v0 v1 v2 v3 v4 : Int) (Q : Int → Prop) : Prop :=
  J_G_isBetween_10 n C v0 v1 v2 v3 v4 (if v3 = (-1) then 1 else 0) Q
theorem m_G_isBetween (l : Launch) (E : Ev) (n : Nat) (C : Cn) (v0 v1 v2 v3 v4 : Int) (Q : Int → Prop) (h : P_G_isBetween n C v0 v1 v2 v3 v4 Q) : MA l y_G_isBetween M_G_isBetween E true C n [(2, v0), (0, v1), (0, v2), (0, v3), (0, v4)] (fun r C2 n2 => C2 = C ∧ n2 = n ∧ Q r) := by
  refine MA.of (by decide) rfl rfl 2 rfl (fun p e s m args below meth c => ?_)
  show AW p l e _ s m args below meth c E M_G_isBetween true _ n 0 0 0 [(2, v0), (0, v1), (0, v2), (0, v3), (0, v4), (9, 0), (9, 0)] [] C
  unfold P_G_isBetween at h
  refine AW.iload_n (dc hd_G_isBetween 0 rfl) rfl ?_
  refine AW.iconst (dc hd_G_isBetween 1 rfl) (by decide) ?_
  refine AW.icmp_ne (t := 9) (dc hd_G_isBetween 2 rfl) (by decide) (fun c_1 => ?_) (fun c_1 => ?_)
  · simp only [if_neg c_1] at h
    refine AW.iconst (dc hd_G_isBetween 5 rfl) (by decide) ?_
    exact aJ_G_isBetween_10 n C _ _ _ _ _ _ Q h
  · simp only [if_pos c_1] at h
    refine AW.iconst (dc hd_G_isBetween 3 rfl) (by decide) ?_
    refine AW.goto (t := 10) (dc hd_G_isBetween 4 rfl) (by decide) ?_
    exact aJ_G_isBetween_10 n C _ _ _ _ _ _ Q h
def J_G_stepsOf_225 (n : Nat) (C : Cn) (s0 : Int) (Q : Int → Cn → Prop) : Prop :=
  Q s0 C
theorem aJ_G_stepsOf_225 (n : Nat) (C : Cn) (s0 : Int) (Q : Int → Cn → Prop) (h : J_G_stepsOf_225 n C s0 Q) : AW p l e R s m args below meth c E M_G_stepsOf true (fun r C2 n2 => n2 = n ∧ Q r C2) n 0 0 225 [(9, 0), (9, 0), (9, 0), (9, 0), (9, 0), (9, 0), (9, 0), (9, 0), (9, 0), (9, 0), (9, 0), (9, 0)] [(0, s0)] C := by
  unfold J_G_stepsOf_225 at h
  exact AW.iret (dc hd_G_stepsOf 118 rfl) rfl rfl (Nat.le_of_ble_eq_true rfl) (Nat.le_of_ble_eq_true rfl) ⟨rfl, h⟩
def J_G_stepsOf_202 (n : Nat) (C : Cn) (v0 v1 v4 s0 s1 : Int) (Q : Int → Cn → Prop) : Prop :=
  okO n v0 10 ∧ (okO n (PT v0.toNat 14) 12 ∧ (okI (PT v0.toNat 14) v4 ∧ (J_G_stepsOf_225 n C (if v1 ≤ C (PT v0.toNat 14).toNat v4.toNat then w32 (w32 (s0 + s1) + 1) else w32 (s0 + s1)) Q)))
theorem aJ_G_stepsOf_202 (n : Nat) (C : Cn) (v0 v1 v4 s0 s1 : Int) (Q : Int → Cn → Prop) (h : J_G_stepsOf_202 n C v0 v1 v4 s0 s1 Q) : AW p l e R s m args below meth c E M_G_stepsOf true (fun r C2 n2 => n2 = n ∧ Q r C2) n 0 0 202 [(2, v0), (0, v1), (9, 0), (9, 0), (0, v4), (9, 0), (9, 0), (9, 0), (9, 0), (9, 0), (9, 0), (9, 0)] [(0, s1), (0, s0)] C := by
  unfold J_G_stepsOf_202 at h
  refine AW.iadd (dc hd_G_stepsOf 105 rfl) ?_
  refine AW.istore [(2, v0), (0, v1), (9, 0), (9, 0), (0, v4), (9, 0), (9, 0), (9, 0), (9, 0), (9, 0), (0, w32 (s0 + s1)), (9, 0)] (dc hd_G_stepsOf 106 rfl) (Nat.le_of_ble_eq_true rfl) rfl rfl ?_
  refine AW.iload_n (dc hd_G_stepsOf 107 rfl) rfl ?_
  refine AW.ra_n (dc hd_G_stepsOf 108 rfl) rfl rfl rfl ?_
  obtain ⟨g_24, h⟩ := h
  refine AW.getp fl_10_37 (dc hd_G_stepsOf 109 rfl) g_24 rfl ?_
  refine AW.iload (dc hd_G_stepsOf 110 rfl) rfl ?_
  obtain ⟨g_25, h⟩ := h
  obtain ⟨g_26, h⟩ := h
  refine AW.iald (dc hd_G_stepsOf 111 rfl) g_25 g_26 ?_
  refine AW.icmp_le (t := 221) (dc hd_G_stepsOf 112 rfl) (by decide) (fun c_27 => ?_) (fun c_27 => ?_)
  · simp only [if_pos c_27] at h
    refine AW.iload (dc hd_G_stepsOf 115 rfl) rfl ?_
    refine AW.iconst (dc hd_G_stepsOf 116 rfl) (by decide) ?_
    refine AW.iadd (dc hd_G_stepsOf 117 rfl) ?_
    refine AW.fgt [(9, 0), (9, 0), (9, 0), (9, 0), (9, 0), (9, 0), (9, 0), (9, 0), (9, 0), (9, 0), (9, 0), (9, 0)] ⟨.inr rfl, .inr rfl, .inl rfl, .inl rfl, .inr rfl, .inl rfl, .inl rfl, .inl rfl, .inl rfl, .inl rfl, .inr rfl, .inl rfl, trivial⟩ ?_
    exact aJ_G_stepsOf_225 n C _ Q h
  · simp only [if_neg c_27] at h
    refine AW.iload (dc hd_G_stepsOf 113 rfl) rfl ?_
    refine AW.goto (t := 225) (dc hd_G_stepsOf 114 rfl) (by decide) ?_
    refine AW.fgt [(9, 0), (9, 0), (9, 0), (9, 0), (9, 0), (9, 0), (9, 0), (9, 0), (9, 0), (9, 0), (9, 0), (9, 0)] ⟨.inr rfl, .inr rfl, .inl rfl, .inl rfl, .inr rfl, .inl rfl, .inl rfl, .inl rfl, .inl rfl, .inl rfl, .inr rfl, .inl rfl, trivial⟩ ?_
    exact aJ_G_stepsOf_225 n C _ Q h
def J_G_stepsOf_188 (n : Nat) (C : Cn) (v0 v1 v4 v10 s0 : Int) (Q : Int → Cn → Prop) : Prop :=
  J_G_stepsOf_202 n C v0 v1 v4 v10 (if s0 = 0 then 0 else 1) Q
theorem aJ_G_stepsOf_188 (n : Nat) (C : Cn) (v0 v1 v4 v10 s0 : Int) (Q : Int → Cn → Prop) (h : J_G_stepsOf_188 n C v0 v1 v4 v10 s0 Q) : AW p l e R s m args below meth c E M_G_stepsOf true (fun r C2 n2 => n2 = n ∧ Q r C2) n 0 0 188 [(2, v0), (0, v1), (9, 0), (9, 0), (0, v4), (9, 0), (9, 0), (9, 0), (9, 0), (9, 0), (0, v10), (9, 0)] [(0, s0)] C := by
  unfold J_G_stepsOf_188 at h
  refine AW.istore [(2, v0), (0, v1), (9, 0), (9, 0), (0, v4), (9, 0), (9, 0), (9, 0), (9, 0), (9, 0), (0, v10), (0, s0)] (dc hd_G_stepsOf 98 rfl) (Nat.le_of_ble_eq_true rfl) rfl rfl ?_
  refine AW.iload (dc hd_G_stepsOf 99 rfl) rfl ?_
  refine AW.iload (dc hd_G_stepsOf 100 rfl) rfl ?_
  refine AW.if_eq (t := 201) (dc hd_G_stepsOf 101 rfl) (by decide) (fun c_23 => ?_) (fun c_23 => ?_)
  · simp only [if_pos c_23] at h
    refine AW.iconst (dc hd_G_stepsOf 104 rfl) (by decide) ?_
    refine AW.fgt [(2, v0), (0, v1), (9, 0), (9, 0), (0, v4), (9, 0), (9, 0), (9, 0), (9, 0), (9, 0), (9, 0), (9, 0)] ⟨.inl rfl, .inl rfl, .inl rfl, .inl rfl, .inl rfl, .inl rfl, .inl rfl, .inl rfl, .inl rfl, .inl rfl, .inr rfl, .inr rfl, trivial⟩ ?_
    exact aJ_G_stepsOf_202 n C _ _ _ _ _ Q h
  · simp only [if_neg c_23] at h
    refine AW.iconst (dc hd_G_stepsOf 102 rfl) (by decide) ?_
    refine AW.goto (t := 202) (dc hd_G_stepsOf 103 rfl) (by decide) ?_
    refine AW.fgt [(2, v0), (0, v1), (9, 0), (9, 0), (0, v4), (9, 0), (9, 0), (9, 0), (9, 0), (9, 0), (9, 0), (9, 0)] ⟨.inl rfl, .inl rfl, .inl rfl, .inl rfl, .inl rfl, .inl rfl, .inl rfl, .inl rfl, .inl rfl, .inl rfl, .inr rfl, .inr rfl, trivial⟩ ?_
    exact aJ_G_stepsOf_202 n C _ _ _ _ _ Q h
def J_G_stepsOf_183 (n : Nat) (C : Cn) (v0 v1 v4 v10 : Int) (Q : Int → Cn → Prop) : Prop :=
  J_G_stepsOf_188 n C v0 v1 v4 v10 1 Q
theorem aJ_G_stepsOf_183 (n : Nat) (C : Cn) (v0 v1 v4 v10 : Int) (Q : Int → Cn → Prop) (h : J_G_stepsOf_183 n C v0 v1 v4 v10 Q) : AW p l e R s m args below meth c E M_G_stepsOf true (fun r C2 n2 => n2 = n ∧ Q r C2) n 0 0 183 [(2, v0), (0, v1), (9, 0), (9, 0), (0, v4), (9, 0), (9, 0), (9, 0), (9, 0), (9, 0), (0, v10), (9, 0)] [] C := by
  unfold J_G_stepsOf_183 at h
  refine AW.iconst (dc hd_G_stepsOf 95 rfl) (by decide) ?_
  refine AW.goto (t := 188) (dc hd_G_stepsOf 96 rfl) (by decide) ?_
  exact aJ_G_stepsOf_188 n C v0 v1 v4 v10 1 Q h
def J_G_stepsOf_146 (n : Nat) (C : Cn) (v0 v1 v4 v8 s0 : Int) (Q : Int → Cn → Prop) : Prop :=
  okO n v0 10 ∧ (okO n (PT v0.toNat 13) 12 ∧ (okI (PT v0.toNat 13) v4 ∧ ((C (PT v0.toNat 13).toNat v4.toNat < v1 → ((v8 = C v0.toNat 10 → (J_G_stepsOf_183 n C v0 v1 v4 s0 Q)) ∧ (¬ v8 = C v0.toNat 10 → (okO n (PT v0.toNat 14) 12 ∧ (okI (PT v0.toNat 14) v4 ∧ (J_G_stepsOf_188 n C v0 v1 v4 s0 (if v8 ≤ C (PT v0.toNat 14).toNat v4.toNat then 0 else 1) Q)))))) ∧ (¬ C (PT v0.toNat 13).toNat v4.toNat < v1 → (Q s0 C)))))
theorem aJ_G_stepsOf_146 (n : Nat) (C : Cn) (v0 v1 v4 v8 s0 : Int) (Q : Int → Cn → Prop) (h : J_G_stepsOf_146 n C v0 v1 v4 v8 s0 Q) : AW p l e R s m args below meth c E M_G_stepsOf true (fun r C2 n2 => n2 = n ∧ Q r C2) n 0 0 146 [(2, v0), (0, v1), (9, 0), (9, 0), (0, v4), (9, 0), (9, 0), (9, 0), (0, v8), (9, 0), (9, 0), (9, 0)] [(0, s0)] C := by
  unfold J_G_stepsOf_146 at h
  refine AW.istore [(2, v0), (0, v1), (9, 0), (9, 0), (0, v4), (9, 0), (9, 0), (9, 0), (0, v8), (9, 0), (0, s0), (9, 0)] (dc hd_G_stepsOf 76 rfl) (Nat.le_of_ble_eq_true rfl) rfl rfl ?_
  refine AW.iload_n (dc hd_G_stepsOf 77 rfl) rfl ?_
  refine AW.ra_n (dc hd_G_stepsOf 78 rfl) rfl rfl rfl ?_
  obtain ⟨g_17, h⟩ := h
  refine AW.getp fl_10_34 (dc hd_G_stepsOf 79 rfl) g_17 rfl ?_
  refine AW.iload (dc hd_G_stepsOf 80 rfl) rfl ?_
  obtain ⟨g_18, h⟩ := h
  obtain ⟨g_19, h⟩ := h
  refine AW.iald (dc hd_G_stepsOf 81 rfl) g_18 g_19 ?_
  refine AW.icmp_gt (t := 162) (dc hd_G_stepsOf 82 rfl) (by decide) (fun c_20 => ?_) (fun c_20 => ?_)
  · have h := h.1 c_20
    refine AW.iload (dc hd_G_stepsOf 85 rfl) rfl ?_
    refine AW.ra_n (dc hd_G_stepsOf 86 rfl) rfl rfl rfl ?_
    refine AW.getf fl_10_221 (dc hd_G_stepsOf 87 rfl) g_17 ?_
    refine AW.icmp_eq (t := 183) (dc hd_G_stepsOf 88 rfl) (by decide) (fun c_22 => ?_) (fun c_22 => ?_)
    · have h := h.1 c_22
      refine AW.fgt [(2, v0), (0, v1), (9, 0), (9, 0), (0, v4), (9, 0), (9, 0), (9, 0), (9, 0), (9, 0), (0, s0), (9, 0)] ⟨.inl rfl, .inl rfl, .inl rfl, .inl rfl, .inl rfl, .inl rfl, .inl rfl, .inl rfl, .inr rfl, .inl rfl, .inl rfl, .inl rfl, trivial⟩ ?_
      exact aJ_G_stepsOf_183 n C v0 v1 v4 s0 Q h
    · have h := h.2 c_22
      refine AW.ra_n (dc hd_G_stepsOf 89 rfl) rfl rfl rfl ?_
      refine AW.getp fl_10_37 (dc hd_G_stepsOf 90 rfl) g_17 rfl ?_
      refine AW.iload (dc hd_G_stepsOf 91 rfl) rfl ?_
      obtain ⟨g_28, h⟩ := h
      obtain ⟨g_29, h⟩ := h
      refine AW.iald (dc hd_G_stepsOf 92 rfl) g_28 g_29 ?_
      refine AW.iload (dc hd_G_stepsOf 93 rfl) rfl ?_
      refine AW.icmp_ge (t := 187) (dc hd_G_stepsOf 94 rfl) (by decide) (fun c_30 => ?_) (fun c_30 => ?_)
      · simp only [if_pos c_30] at h
        refine AW.iconst (dc hd_G_stepsOf 97 rfl) (by decide) ?_
        refine AW.fgt [(2, v0), (0, v1), (9, 0), (9, 0), (0, v4), (9, 0), (9, 0), (9, 0), (9, 0), (9, 0), (0, s0), (9, 0)] ⟨.inl rfl, .inl rfl, .inl rfl, .inl rfl, .inl rfl, .inl rfl, .inl rfl, .inl rfl, .inr rfl, .inl rfl, .inl rfl, .inl rfl, trivial⟩ ?_
        exact aJ_G_stepsOf_188 n C _ _ _ _ _ Q h
      · simp only [if_neg c_30] at h
        refine AW.iconst (dc hd_G_stepsOf 95 rfl) (by decide) ?_
        refine AW.goto (t := 188) (dc hd_G_stepsOf 96 rfl) (by decide) ?_
        refine AW.fgt [(2, v0), (0, v1), (9, 0), (9, 0), (0, v4), (9, 0), (9, 0), (9, 0), (9, 0), (9, 0), (0, s0), (9, 0)] ⟨.inl rfl, .inl rfl, .inl rfl, .inl rfl, .inl rfl, .inl rfl, .inl rfl, .inl rfl, .inr rfl, .inl rfl, .inl rfl, .inl rfl, trivial⟩ ?_
        exact aJ_G_stepsOf_188 n C _ _ _ _ _ Q h
  · have h := h.2 c_20
    refine AW.iload (dc hd_G_stepsOf 83 rfl) rfl ?_
    exact AW.iret (dc hd_G_stepsOf 84 rfl) rfl rfl (Nat.le_of_ble_eq_true rfl) (Nat.le_of_ble_eq_true rfl) ⟨rfl, h⟩
def J_G_stepsOf_120 (n : Nat) (C : Cn) (v0 v1 v4 v7 v8 v9 : Int) (Q : Int → Cn → Prop) : Prop :=
  (v9 = 0 → (Q 0 C)) ∧ (¬ v9 = 0 → (okO n v0 10 ∧ (okO n (PT v0.toNat 13) 12 ∧ (okI (PT v0.toNat 13) v4 ∧ (J_G_stepsOf_146 n C v0 v1 v4 v8 (if C (PT v0.toNat 13).toNat v4.toNat ≤ w32 (v7 - 1) then 0 else 1) Q)))))
theorem aJ_G_stepsOf_120 (n : Nat) (C : Cn) (v0 v1 v4 v7 v8 v9 : Int) (Q : Int → Cn → Prop) (h : J_G_stepsOf_120 n C v0 v1 v4 v7 v8 v9 Q) : AW p l e R s m args below meth c E M_G_stepsOf true (fun r C2 n2 => n2 = n ∧ Q r C2) n 0 0 120 [(2, v0), (0, v1), (9, 0), (9, 0), (0, v4), (9, 0), (9, 0), (0, v7), (0, v8), (0, v9), (9, 0), (9, 0)] [] C := by
  unfold J_G_stepsOf_120 at h
  refine AW.iload (dc hd_G_stepsOf 61 rfl) rfl ?_
  refine AW.if_ne (t := 127) (dc hd_G_stepsOf 62 rfl) (by decide) (fun c_12 => ?_) (fun c_12 => ?_)
  · have h := h.2 c_12
    refine AW.ra_n (dc hd_G_stepsOf 65 rfl) rfl rfl rfl ?_
    obtain ⟨g_13, h⟩ := h
    refine AW.getp fl_10_34 (dc hd_G_stepsOf 66 rfl) g_13 rfl ?_
    refine AW.iload (dc hd_G_stepsOf 67 rfl) rfl ?_
    obtain ⟨g_14, h⟩ := h
    obtain ⟨g_15, h⟩ := h
    refine AW.iald (dc hd_G_stepsOf 68 rfl) g_14 g_15 ?_
    refine AW.iload (dc hd_G_stepsOf 69 rfl) rfl ?_
    refine AW.iconst (dc hd_G_stepsOf 70 rfl) (by decide) ?_
    refine AW.isub (dc hd_G_stepsOf 71 rfl) ?_
    refine AW.icmp_le (t := 145) (dc hd_G_stepsOf 72 rfl) (by decide) (fun c_16 => ?_) (fun c_16 => ?_)
    · simp only [if_pos c_16] at h
      refine AW.iconst (dc hd_G_stepsOf 75 rfl) (by decide) ?_
      refine AW.fgt [(2, v0), (0, v1), (9, 0), (9, 0), (0, v4), (9, 0), (9, 0), (9, 0), (0, v8), (9, 0), (9, 0), (9, 0)] ⟨.inl rfl, .inl rfl, .inl rfl, .inl rfl, .inl rfl, .inl rfl, .inl rfl, .inr rfl, .inl rfl, .inr rfl, .inl rfl, .inl rfl, trivial⟩ ?_
      exact aJ_G_stepsOf_146 n C _ _ _ _ _ Q h
    · simp only [if_neg c_16] at h
      refine AW.iconst (dc hd_G_stepsOf 73 rfl) (by decide) ?_
      refine AW.goto (t := 146) (dc hd_G_stepsOf 74 rfl) (by decide) ?_
      refine AW.fgt [(2, v0), (0, v1), (9, 0), (9, 0), (0, v4), (9, 0), (9, 0), (9, 0), (0, v8), (9, 0), (9, 0), (9, 0)] ⟨.inl rfl, .inl rfl, .inl rfl, .inl rfl, .inl rfl, .inl rfl, .inl rfl, .inr rfl, .inl rfl, .inr rfl, .inl rfl, .inl rfl, trivial⟩ ?_
      exact aJ_G_stepsOf_146 n C _ _ _ _ _ Q h
  · have h := h.1 c_12
    refine AW.iconst (dc hd_G_stepsOf 63 rfl) (by decide) ?_
    exact AW.iret (dc hd_G_stepsOf 64 rfl) rfl rfl (Nat.le_of_ble_eq_true rfl) (Nat.le_of_ble_eq_true rfl) ⟨rfl, h⟩
def B_G_stepsOf_90 (n : Nat) (C : Cn) (v0 v1 v4 v5 v6 v7 v8 : Int) (Q : Int → Cn → Prop) (k90 : Int × Int → Prop) (z : Int × Int) : Prop := match z with
  | (v9, v10) => (v8 < v10 → (J_G_stepsOf_120 n C v0 v1 v4 v7 v8 v9 Q)) ∧ (¬ v8 < v10 → (okO n v0 10 ∧ (P_G_isBetween n C v0 v10 v4 v5 v6 (fun (r_31 : Int) => k90 (or32 v9 r_31, w32 (v10 + 1))))))
theorem aB_G_stepsOf_90 (n : Nat) (C : Cn) (v0 v1 v4 v5 v6 v7 v8 : Int) (Q : Int → Cn → Prop) : ∀ (f : Nat) (z : Int × Int), lp (B_G_stepsOf_90 n C v0 v1 v4 v5 v6 v7 v8 Q) f z → AW p l e R s m args below meth c E M_G_stepsOf true (fun r C2 n2 => n2 = n ∧ Q r C2) n 0 0 90 [(2, v0), (0, v1), (9, 0), (9, 0), (0, v4), (0, v5), (0, v6), (0, v7), (0, v8), (0, z.1), (0, z.2), (9, 0)] [] C := by
  intro f
  induction f with
  | zero => intro z h; exact False.elim h
  | succ f ih =>
    intro z h
    obtain ⟨v9, v10⟩ := z
    have h : B_G_stepsOf_90 n C v0 v1 v4 v5 v6 v7 v8 Q (lp (B_G_stepsOf_90 n C v0 v1 v4 v5 v6 v7 v8 Q) f) (v9, v10) := h
    unfold B_G_stepsOf_90 at h
    dsimp only at h
    have hk90 : ∀ z : Int × Int, lp (B_G_stepsOf_90 n C v0 v1 v4 v5 v6 v7 v8 Q) f z → _ := ih
    refine AW.iload (dc hd_G_stepsOf 47 rfl) rfl ?_
    refine AW.iload (dc hd_G_stepsOf 48 rfl) rfl ?_
    refine AW.icmp_gt (t := 120) (dc hd_G_stepsOf 49 rfl) (by decide) (fun c_11 => ?_) (fun c_11 => ?_)
    · have h := h.1 c_11
      refine AW.fgt [(2, v0), (0, v1), (9, 0), (9, 0), (0, v4), (9, 0), (9, 0), (0, v7), (0, v8), (0, v9), (9, 0), (9, 0)] ⟨.inl rfl, .inl rfl, .inl rfl, .inl rfl, .inl rfl, .inr rfl, .inr rfl, .inl rfl, .inl rfl, .inl rfl, .inr rfl, .inl rfl, trivial⟩ ?_
      exact aJ_G_stepsOf_120 n C v0 v1 v4 v7 v8 v9 Q h
    · have h := h.2 c_11
      refine AW.iload (dc hd_G_stepsOf 50 rfl) rfl ?_
      refine AW.ra_n (dc hd_G_stepsOf 51 rfl) rfl rfl rfl ?_
      refine AW.iload (dc hd_G_stepsOf 52 rfl) rfl ?_
      refine AW.iload (dc hd_G_stepsOf 53 rfl) rfl ?_
      refine AW.iload (dc hd_G_stepsOf 54 rfl) rfl ?_
      refine AW.iload (dc hd_G_stepsOf 55 rfl) rfl ?_
      obtain ⟨g_32, h⟩ := h
      refine AW.callV (As := [(0, v10), (0, v4), (0, v5), (0, v6)]) (rest := [(0, v9)]) (ci := 10) (m_G_isBetween l E n C v0 v10 v4 v5 v6 _ h) cb_10_303 im_G_isBetween se_G_isBetween ⟨_, _, rfl⟩ (by decide) (dc hd_G_stepsOf 56 rfl) g_32 rfl rfl ⟨Nat.le_of_ble_eq_true rfl, Nat.le_of_ble_eq_true rfl⟩ ⟨(Nat.le_of_ble_eq_true rfl), (Nat.le_of_ble_eq_true rfl)⟩ (Nat.le_of_ble_eq_true rfl) (fun _ h => by cases h) (fun _ => rfl) (fun r_31 D_34 d_35 q_33 => ?_)
      obtain ⟨q_33a, q_33b, h⟩ := q_33
      subst D_34
      subst d_35
      show AW p l e _ s m args below meth c E M_G_stepsOf true _ n _ _ _ [(2, v0), (0, v1), (9, 0), (9, 0), (0, v4), (0, v5), (0, v6), (0, v7), (0, v8), (0, v9), (0, v10), (9, 0)] [(0, r_31), (0, v9)] C
      refine AW.ior (dc hd_G_stepsOf 57 rfl) ?_
      refine AW.istore [(2, v0), (0, v1), (9, 0), (9, 0), (0, v4), (0, v5), (0, v6), (0, v7), (0, v8), (0, or32 v9 r_31), (0, v10), (9, 0)] (dc hd_G_stepsOf 58 rfl) (Nat.le_of_ble_eq_true rfl) rfl rfl ?_
      refine AW.iinc [(2, v0), (0, v1), (9, 0), (9, 0), (0, v4), (0, v5), (0, v6), (0, v7), (0, v8), (0, or32 v9 r_31), (0, w32 (v10 + 1)), (9, 0)] (dc hd_G_stepsOf 59 rfl) rfl (Nat.le_of_ble_eq_true rfl) rfl rfl ?_
      refine AW.goto (t := 90) (dc hd_G_stepsOf 60 rfl) (by decide) ?_
      exact hk90 (or32 v9 r_31, w32 (v10 + 1)) h
def J_G_stepsOf_83 (n : Nat) (C : Cn) (v0 v1 v4 v5 v6 v7 v8 : Int) (Q : Int → Cn → Prop) : Prop :=
  ∃ f_36 : Nat, lp (B_G_stepsOf_90 n C v0 v1 v4 v5 v6 v7 v8 Q) f_36 (0, v7)
theorem aJ_G_stepsOf_83 (n : Nat) (C : Cn) (v0 v1 v4 v5 v6 v7 v8 : Int) (Q : Int → Cn → Prop) (h : J_G_stepsOf_83 n C v0 v1 v4 v5 v6 v7 v8 Q) : AW p l e R s m args below meth c E M_G_stepsOf true (fun r C2 n2 => n2 = n ∧ Q r C2) n 0 0 83 [(2, v0), (0, v1), (9, 0), (9, 0), (0, v4), (0, v5), (0, v6), (0, v7), (0, v8), (9, 0), (9, 0), (9, 0)] [] C := by
  unfold J_G_stepsOf_83 at h
  refine AW.iconst (dc hd_G_stepsOf 43 rfl) (by decide) ?_
  refine AW.istore [(2, v0), (0, v1), (9, 0), (9, 0), (0, v4), (0, v5), (0, v6), (0, v7), (0, v8), (0, 0), (9, 0), (9, 0)] (dc hd_G_stepsOf 44 rfl) (Nat.le_of_ble_eq_true rfl) rfl rfl ?_
  refine AW.iload (dc hd_G_stepsOf 45 rfl) rfl ?_
  refine AW.istore [(2, v0), (0, v1), (9, 0), (9, 0), (0, v4), (0, v5), (0, v6), (0, v7), (0, v8), (0, 0), (0, v7), (9, 0)] (dc hd_G_stepsOf 46 rfl) (Nat.le_of_ble_eq_true rfl) rfl rfl ?_
  obtain ⟨f_36, h⟩ := h
  exact aB_G_stepsOf_90 n C v0 v1 v4 v5 v6 v7 v8 Q f_36 (0, v7) h
def B_G_stepsOf_52 (n : Nat) (C : Cn) (v0 v1 v3 v4 v5 v6 v7 : Int) (Q : Int → Cn → Prop) (k52 : Int → Prop) (v8 : Int) : Prop :=
  okO n v0 10 ∧ ((C v0.toNat 10 ≤ v8 → (J_G_stepsOf_83 n C v0 v1 v4 v5 v6 v7 v8 Q)) ∧ (¬ C v0.toNat 10 ≤ v8 → (P_G_areNext n C v0 (w32 (v8 + 1)) v3 v5 v6 (fun (r_37 : Int) => (r_37 = 0 → (J_G_stepsOf_83 n C v0 v1 v4 v5 v6 v7 v8 Q)) ∧ (¬ r_37 = 0 → (k52 (w32 (v8 + 1))))))))
theorem aB_G_stepsOf_52 (n : Nat) (C : Cn) (v0 v1 v3 v4 v5 v6 v7 : Int) (Q : Int → Cn → Prop) : ∀ (f : Nat) (z : Int), lp (B_G_stepsOf_52 n C v0 v1 v3 v4 v5 v6 v7 Q) f z → AW p l e R s m args below meth c E M_G_stepsOf true (fun r C2 n2 => n2 = n ∧ Q r C2) n 0 0 52 [(2, v0), (0, v1), (9, 0), (0, v3), (0, v4), (0, v5), (0, v6), (0, v7), (0, z), (9, 0), (9, 0), (9, 0)] [] C := by
  intro f
  induction f with
  | zero => intro z h; exact False.elim h
  | succ f ih =>
    intro z h
    obtain ⟨v8, rfl⟩ : ∃ q, q = z := ⟨z, rfl⟩
    have h : B_G_stepsOf_52 n C v0 v1 v3 v4 v5 v6 v7 Q (lp (B_G_stepsOf_52 n C v0 v1 v3 v4 v5 v6 v7 Q) f) v8 := h
    unfold B_G_stepsOf_52 at h
    have hk52 : ∀ z : Int, lp (B_G_stepsOf_52 n C v0 v1 v3 v4 v5 v6 v7 Q) f z → _ := ih
    refine AW.iload (dc hd_G_stepsOf 28 rfl) rfl ?_
    refine AW.ra_n (dc hd_G_stepsOf 29 rfl) rfl rfl rfl ?_
    obtain ⟨g_9, h⟩ := h
    refine AW.getf fl_10_221 (dc hd_G_stepsOf 30 rfl) g_9 ?_
    refine AW.icmp_ge (t := 83) (dc hd_G_stepsOf 31 rfl) (by decide) (fun c_10 => ?_) (fun c_10 => ?_)
    · have h := h.1 c_10
      refine AW.fgt [(2, v0), (0, v1), (9, 0), (9, 0), (0, v4), (0, v5), (0, v6), (0, v7), (0, v8), (9, 0), (9, 0), (9, 0)] ⟨.inl rfl, .inl rfl, .inl rfl, .inr rfl, .inl rfl, .inl rfl, .inl rfl, .inl rfl, .inl rfl, .inl rfl, .inl rfl, .inl rfl, trivial⟩ ?_
      exact aJ_G_stepsOf_83 n C v0 v1 v4 v5 v6 v7 v8 Q h
    · have h := h.2 c_10
      refine AW.ra_n (dc hd_G_stepsOf 32 rfl) rfl rfl rfl ?_
      refine AW.iload (dc hd_G_stepsOf 33 rfl) rfl ?_
      refine AW.iconst (dc hd_G_stepsOf 34 rfl) (by decide) ?_
      refine AW.iadd (dc hd_G_stepsOf 35 rfl) ?_
      refine AW.iload_n (dc hd_G_stepsOf 36 rfl) rfl ?_
      refine AW.iload (dc hd_G_stepsOf 37 rfl) rfl ?_
      refine AW.iload (dc hd_G_stepsOf 38 rfl) rfl ?_
      refine AW.callV (As := [(0, w32 (v8 + 1)), (0, v3), (0, v5), (0, v6)]) (rest := []) (ci := 10) (m_G_areNext l E n C v0 (w32 (v8 + 1)) v3 v5 v6 _ h) cb_10_300 im_G_areNext se_G_areNext ⟨_, _, rfl⟩ (by decide) (dc hd_G_stepsOf 39 rfl) g_9 rfl rfl ⟨Nat.le_of_ble_eq_true rfl, Nat.le_of_ble_eq_true rfl⟩ ⟨(Nat.le_of_ble_eq_true rfl), (Nat.le_of_ble_eq_true rfl)⟩ (Nat.le_of_ble_eq_true rfl) (fun _ h => by cases h) (fun _ => rfl) (fun r_37 D_39 d_40 q_38 => ?_)
      obtain ⟨q_38a, q_38b, h⟩ := q_38
      subst D_39
      subst d_40
      show AW p l e _ s m args below meth c E M_G_stepsOf true _ n _ _ _ [(2, v0), (0, v1), (9, 0), (0, v3), (0, v4), (0, v5), (0, v6), (0, v7), (0, v8), (9, 0), (9, 0), (9, 0)] [(0, r_37)] C
      refine AW.if_eq (t := 83) (dc hd_G_stepsOf 40 rfl) (by decide) (fun c_41 => ?_) (fun c_41 => ?_)
      · have h := h.1 c_41
        refine AW.fgt [(2, v0), (0, v1), (9, 0), (9, 0), (0, v4), (0, v5), (0, v6), (0, v7), (0, v8), (9, 0), (9, 0), (9, 0)] ⟨.inl rfl, .inl rfl, .inl rfl, .inr rfl, .inl rfl, .inl rfl, .inl rfl, .inl rfl, .inl rfl, .inl rfl, .inl rfl, .inl rfl, trivial⟩ ?_
        exact aJ_G_stepsOf_83 n C v0 v1 v4 v5 v6 v7 v8 Q h
      · have h := h.2 c_41
        refine AW.iinc [(2, v0), (0, v1), (9, 0), (0, v3), (0, v4), (0, v5), (0, v6), (0, v7), (0, w32 (v8 + 1)), (9, 0), (9, 0), (9, 0)] (dc hd_G_stepsOf 41 rfl) rfl (Nat.le_of_ble_eq_true rfl) rfl rfl ?_
        refine AW.goto (t := 52) (dc hd_G_stepsOf 42 rfl) (by decide) ?_
        exact hk52 (w32 (v8 + 1)) h
def J_G_stepsOf_49 (n : Nat) (C : Cn) (v0 v1 v3 v4 v5 v6 v7 : Int) (Q : Int → Cn → Prop) : Prop :=
  ∃ f_42 : Nat, lp (B_G_stepsOf_52 n C v0 v1 v3 v4 v5 v6 v7 Q) f_42 v1
theorem aJ_G_stepsOf_49 (n : Nat) (C : Cn) (v0 v1 v3 v4 v5 v6 v7 : Int) (Q : Int → Cn → Prop) (h : J_G_stepsOf_49 n C v0 v1 v3 v4 v5 v6 v7 Q) : AW p l e R s m args below meth c E M_G_stepsOf true (fun r C2 n2 => n2 = n ∧ Q r C2) n 0 0 49 [(2, v0), (0, v1), (9, 0), (0, v3), (0, v4), (0, v5), (0, v6), (0, v7), (9, 0), (9, 0), (9, 0), (9, 0)] [] C := by
  unfold J_G_stepsOf_49 at h
  refine AW.iload_n (dc hd_G_stepsOf 26 rfl) rfl ?_
  refine AW.istore [(2, v0), (0, v1), (9, 0), (0, v3), (0, v4), (0, v5), (0, v6), (0, v7), (0, v1), (9, 0), (9, 0), (9, 0)] (dc hd_G_stepsOf 27 rfl) (Nat.le_of_ble_eq_true rfl) rfl rfl ?_
  obtain ⟨f_42, h⟩ := h
  exact aB_G_stepsOf_52 n C v0 v1 v3 v4 v5 v6 v7 Q f_42 v1 h
def B_G_stepsOf_22 (n : Nat) (C : Cn) (v0 v1 v3 v4 v5 v6 : Int) (Q : Int → Cn → Prop) (k22 : Int → Prop) (v7 : Int) : Prop :=
  (v7 ≤ 0 → (J_G_stepsOf_49 n C v0 v1 v3 v4 v5 v6 v7 Q)) ∧ (¬ v7 ≤ 0 → (okO n v0 10 ∧ (P_G_areNext n C v0 (w32 (v7 - 1)) v3 v5 v6 (fun (r_43 : Int) => (r_43 = 0 → (J_G_stepsOf_49 n C v0 v1 v3 v4 v5 v6 v7 Q)) ∧ (¬ r_43 = 0 → (k22 (w32 (v7 + (-1)))))))))
theorem aB_G_stepsOf_22 (n : Nat) (C : Cn) (v0 v1 v3 v4 v5 v6 : Int) (Q : Int → Cn → Prop) : ∀ (f : Nat) (z : Int), lp (B_G_stepsOf_22 n C v0 v1 v3 v4 v5 v6 Q) f z → AW p l e R s m args below meth c E M_G_stepsOf true (fun r C2 n2 => n2 = n ∧ Q r C2) n 0 0 22 [(2, v0), (0, v1), (9, 0), (0, v3), (0, v4), (0, v5), (0, v6), (0, z), (9, 0), (9, 0), (9, 0), (9, 0)] [] C := by
  intro f
  induction f with
  | zero => intro z h; exact False.elim h
  | succ f ih =>
    intro z h
    obtain ⟨v7, rfl⟩ : ∃ q, q = z := ⟨z, rfl⟩
    have h : B_G_stepsOf_22 n C v0 v1 v3 v4 v5 v6 Q (lp (B_G_stepsOf_22 n C v0 v1 v3 v4 v5 v6 Q) f) v7 := h
    unfold B_G_stepsOf_22 at h
    have hk22 : ∀ z : Int, lp (B_G_stepsOf_22 n C v0 v1 v3 v4 v5 v6 Q) f z → _ := ih
    refine AW.iload (dc hd_G_stepsOf 13 rfl) rfl ?_
    refine AW.if_le (t := 49) (dc hd_G_stepsOf 14 rfl) (by decide) (fun c_8 => ?_) (fun c_8 => ?_)
    · have h := h.1 c_8
      exact aJ_G_stepsOf_49 n C v0 v1 v3 v4 v5 v6 v7 Q h
    · have h := h.2 c_8
      refine AW.ra_n (dc hd_G_stepsOf 15 rfl) rfl rfl rfl ?_
      refine AW.iload (dc hd_G_stepsOf 16 rfl) rfl ?_
      refine AW.iconst (dc hd_G_stepsOf 17 rfl) (by decide) ?_
      refine AW.isub (dc hd_G_stepsOf 18 rfl) ?_
      refine AW.iload_n (dc hd_G_stepsOf 19 rfl) rfl ?_
      refine AW.iload (dc hd_G_stepsOf 20 rfl) rfl ?_
      refine AW.iload (dc hd_G_stepsOf 21 rfl) rfl ?_
      obtain ⟨g_44, h⟩ := h
      refine AW.callV (As := [(0, w32 (v7 - 1)), (0, v3), (0, v5), (0, v6)]) (rest := []) (ci := 10) (m_G_areNext l E n C v0 (w32 (v7 - 1)) v3 v5 v6 _ h) cb_10_300 im_G_areNext se_G_areNext ⟨_, _, rfl⟩ (by decide) (dc hd_G_stepsOf 22 rfl) g_44 rfl rfl ⟨Nat.le_of_ble_eq_true rfl, Nat.le_of_ble_eq_true rfl⟩ ⟨(Nat.le_of_ble_eq_true rfl), (Nat.le_of_ble_eq_true rfl)⟩ (Nat.le_of_ble_eq_true rfl) (fun _ h => by cases h) (fun _ => rfl) (fun r_43 D_46 d_47 q_45 => ?_)
      obtain ⟨q_45a, q_45b, h⟩ := q_45
      subst D_46
      subst d_47
      show AW p l e _ s m args below meth c E M_G_stepsOf true _ n _ _ _ [(2, v0), (0, v1), (9, 0), (0, v3), (0, v4), (0, v5), (0, v6), (0, v7), (9, 0), (9, 0), (9, 0), (9, 0)] [(0, r_43)] C
      refine AW.if_eq (t := 49) (dc hd_G_stepsOf 23 rfl) (by decide) (fun c_48 => ?_) (fun c_48 => ?_)
      · have h := h.1 c_48
        exact aJ_G_stepsOf_49 n C v0 v1 v3 v4 v5 v6 v7 Q h
      · have h := h.2 c_48
        refine AW.iinc [(2, v0), (0, v1), (9, 0), (0, v3), (0, v4), (0, v5), (0, v6), (0, w32 (v7 + (-1))), (9, 0), (9, 0), (9, 0), (9, 0)] (dc hd_G_stepsOf 24 rfl) rfl (Nat.le_of_ble_eq_true rfl) rfl rfl ?_
        refine AW.goto (t := 22) (dc hd_G_stepsOf 25 rfl) (by decide) ?_
        exact hk22 (w32 (v7 + (-1))) h
def P_G_stepsOf (n : Nat) (C : Cn) (v0 v1 v2 v3 v4 : Int) (Q : Int → Cn → Prop) : Prop :=
  okO n v0 10 ∧ (P_G_bounds n C v0 v1 v2 v3 (fun (_ : Int) (C_2 : Cn) => ∀ v5_6 : Int, v5_6 = C_2 v0.toNat 25 → (∀ v6_7 : Int, v6_7 = C_2 v0.toNat 26 → (∃ f_49 : Nat, lp (B_G_stepsOf_22 n C_2 v0 v1 v3 v4 v5_6 v6_7 Q) f_49 v1))))
theorem m_G_stepsOf (l : Launch) (E : Ev) (n : Nat) (C : Cn) (v0 v1 v2 v3 v4 : Int) (Q : Int → Cn → Prop) (h : P_G_stepsOf n C v0 v1 v2 v3 v4 Q) : MA l y_G_stepsOf M_G_stepsOf E true C n [(2, v0), (0, v1), (0, v2), (0, v3), (0, v4)] (fun r C2 n2 => n2 = n ∧ Q r C2) := by
  refine MA.of (by decide) rfl rfl 7 rfl (fun p e s m args below meth c => ?_)
  show AW p l e _ s m args below meth c E M_G_stepsOf true _ n 0 0 0 [(2, v0), (0, v1), (0, v2), (0, v3), (0, v4), (9, 0), (9, 0), (9, 0), (9, 0), (9, 0), (9, 0), (9, 0)] [] C
  unfold P_G_stepsOf at h
  refine AW.ra_n (dc hd_G_stepsOf 0 rfl) rfl rfl rfl ?_
  refine AW.iload_n (dc hd_G_stepsOf 1 rfl) rfl ?_
  refine AW.iload_n (dc hd_G_stepsOf 2 rfl) rfl ?_
  refine AW.iload_n (dc hd_G_stepsOf 3 rfl) rfl ?_
  obtain ⟨g_1, h⟩ := h
  refine AW.callV (As := [(0, v1), (0, v2), (0, v3)]) (rest := []) (ci := 10) (m_G_bounds l E n C v0 v1 v2 v3 _ h) cb_10_296 im_G_bounds se_G_bounds ⟨_, _, rfl⟩ (by decide) (dc hd_G_stepsOf 4 rfl) g_1 rfl rfl ⟨Nat.le_of_ble_eq_true rfl, Nat.le_of_ble_eq_true rfl⟩ ⟨(Nat.le_of_ble_eq_true rfl), (Nat.le_of_ble_eq_true rfl)⟩ (Nat.le_of_ble_eq_true rfl) (fun _ h => by cases h) (fun _ => rfl) (fun u_4 C_2 d_5 q_3 => ?_)
  obtain ⟨q_3a, h⟩ := q_3
  subst d_5
  show AW p l e _ s m args below meth c E M_G_stepsOf true _ n _ _ _ [(2, v0), (0, v1), (0, v2), (0, v3), (0, v4), (9, 0), (9, 0), (9, 0), (9, 0), (9, 0), (9, 0), (9, 0)] [] C_2
  refine AW.ra_n (dc hd_G_stepsOf 5 rfl) rfl rfl rfl ?_
  refine AW.getf fl_10_287 (dc hd_G_stepsOf 6 rfl) g_1 ?_
  refine AW.nm (fun v5_6 ev5_6 => ?_)
  have h := h v5_6 ev5_6
  refine AW.istore [(2, v0), (0, v1), (0, v2), (0, v3), (0, v4), (0, v5_6), (9, 0), (9, 0), (9, 0), (9, 0), (9, 0), (9, 0)] (dc hd_G_stepsOf 7 rfl) (Nat.le_of_ble_eq_true rfl) rfl rfl ?_
  refine AW.ra_n (dc hd_G_stepsOf 8 rfl) rfl rfl rfl ?_
  refine AW.getf fl_10_290 (dc hd_G_stepsOf 9 rfl) g_1 ?_
  refine AW.nm (fun v6_7 ev6_7 => ?_)
  have h := h v6_7 ev6_7
  refine AW.istore [(2, v0), (0, v1), (0, v2), (0, v3), (0, v4), (0, v5_6), (0, v6_7), (9, 0), (9, 0), (9, 0), (9, 0), (9, 0)] (dc hd_G_stepsOf 10 rfl) (Nat.le_of_ble_eq_true rfl) rfl rfl ?_
  refine AW.iload_n (dc hd_G_stepsOf 11 rfl) rfl ?_
  refine AW.istore [(2, v0), (0, v1), (0, v2), (0, v3), (0, v4), (0, v5_6), (0, v6_7), (0, v1), (9, 0), (9, 0), (9, 0), (9, 0)] (dc hd_G_stepsOf 12 rfl) (Nat.le_of_ble_eq_true rfl) rfl rfl ?_
  obtain ⟨f_49, h⟩ := h
  refine AW.fgt [(2, v0), (0, v1), (9, 0), (0, v3), (0, v4), (0, v5_6), (0, v6_7), (0, v1), (9, 0), (9, 0), (9, 0), (9, 0)] ⟨.inl rfl, .inl rfl, .inr rfl, .inl rfl, .inl rfl, .inl rfl, .inl rfl, .inl rfl, .inl rfl, .inl rfl, .inl rfl, .inl rfl, trivial⟩ ?_
  exact aB_G_stepsOf_22 n C_2 v0 v1 v3 v4 v5_6 v6_7 Q f_49 v1 h
def B_G_searched_8 (n : Nat) (v0 v1 v2 : Int) (Q : Int → Cn → Prop) (k8 : Cn × Int × Int × Int → Prop) (z : Cn × Int × Int × Int) : Prop := match z with
  | (C, v3, v4, v5) => okO n v0 10 ∧ ((C v0.toNat 0 ≤ v5 → (Q v3 C)) ∧ (¬ C v0.toNat 0 ≤ v5 → (okO n (PT v0.toNat 27) 12 ∧ (okI (PT v0.toNat 27) v5 ∧ (P_G_stepsOf n C v0 v1 v2 v4 (C (PT v0.toNat 27).toNat v5.toNat) (fun (r_5 : Int) (C_6 : Cn) => ∀ v4_9 : Int, v4_9 = or32 v4 (shl32 1 (C_6 (PT v0.toNat 27).toNat v5.toNat)) → (k8 (C_6, w32 (v3 + r_5), v4_9, w32 (v5 + 1)))))))))
theorem aB_G_searched_8 (n : Nat) (v0 v1 v2 : Int) (Q : Int → Cn → Prop) : ∀ (f : Nat) (z : Cn × Int × Int × Int), lp (B_G_searched_8 n v0 v1 v2 Q) f z → AW p l e R s m args below meth c E M_G_searched true (fun r C2 n2 => n2 = n ∧ Q r C2) n 0 0 8 [(2, v0), (0, v1), (0, v2), (0, z.2.1), (0, z.2.2.1), (0, z.2.2.2)] [] (z.1) := by
  intro f
  induction f with
  | zero => intro z h; exact False.elim h
  | succ f ih =>
    intro z h
    obtain ⟨C, v3, v4, v5⟩ := z
    have h : B_G_searched_8 n v0 v1 v2 Q (lp (B_G_searched_8 n v0 v1 v2 Q) f) (C, v3, v4, v5) := h
    unfold B_G_searched_8 at h
    dsimp only at h
    have hk8 : ∀ z : Cn × Int × Int × Int, lp (B_G_searched_8 n v0 v1 v2 Q) f z → _ := ih
    refine AW.iload (dc hd_G_searched 6 rfl) rfl ?_
    refine AW.ra_n (dc hd_G_searched 7 rfl) rfl rfl rfl ?_
    obtain ⟨g_1, h⟩ := h
    refine AW.getf fl_10_117 (dc hd_G_searched 8 rfl) g_1 ?_
    refine AW.icmp_ge (t := 55) (dc hd_G_searched 9 rfl) (by decide) (fun c_2 => ?_) (fun c_2 => ?_)
    · have h := h.1 c_2
      refine AW.iload_n (dc hd_G_searched 33 rfl) rfl ?_
      exact AW.iret (dc hd_G_searched 34 rfl) rfl rfl (Nat.le_of_ble_eq_true rfl) (Nat.le_of_ble_eq_true rfl) ⟨rfl, h⟩
    · have h := h.2 c_2
      refine AW.iload_n (dc hd_G_searched 10 rfl) rfl ?_
      refine AW.ra_n (dc hd_G_searched 11 rfl) rfl rfl rfl ?_
      refine AW.iload_n (dc hd_G_searched 12 rfl) rfl ?_
      refine AW.iload_n (dc hd_G_searched 13 rfl) rfl ?_
      refine AW.iload (dc hd_G_searched 14 rfl) rfl ?_
      refine AW.ra_n (dc hd_G_searched 15 rfl) rfl rfl rfl ?_
      refine AW.getp fl_10_61 (dc hd_G_searched 16 rfl) g_1 rfl ?_
      refine AW.iload (dc hd_G_searched 17 rfl) rfl ?_
      obtain ⟨g_3, h⟩ := h
      obtain ⟨g_4, h⟩ := h
      refine AW.iald (dc hd_G_searched 18 rfl) g_3 g_4 ?_
      refine AW.callV (As := [(0, v1), (0, v2), (0, v4), (0, C (PT v0.toNat 27).toNat v5.toNat)]) (rest := [(0, v3)]) (ci := 10) (m_G_stepsOf l E n C v0 v1 v2 v4 (C (PT v0.toNat 27).toNat v5.toNat) _ h) cb_10_306 im_G_stepsOf se_G_stepsOf ⟨_, _, rfl⟩ (by decide) (dc hd_G_searched 19 rfl) g_1 rfl rfl ⟨Nat.le_of_ble_eq_true rfl, Nat.le_of_ble_eq_true rfl⟩ ⟨(Nat.le_of_ble_eq_true rfl), (Nat.le_of_ble_eq_true rfl)⟩ (Nat.le_of_ble_eq_true rfl) (fun _ h => by cases h) (fun _ => rfl) (fun r_5 C_6 d_8 q_7 => ?_)
      obtain ⟨q_7a, h⟩ := q_7
      subst d_8
      show AW p l e _ s m args below meth c E M_G_searched true _ n _ _ _ [(2, v0), (0, v1), (0, v2), (0, v3), (0, v4), (0, v5)] [(0, r_5), (0, v3)] C_6
      refine AW.iadd (dc hd_G_searched 20 rfl) ?_
      refine AW.istore_n [(2, v0), (0, v1), (0, v2), (0, w32 (v3 + r_5)), (0, v4), (0, v5)] (dc hd_G_searched 21 rfl) (Nat.le_of_ble_eq_true rfl) rfl rfl ?_
      refine AW.iload (dc hd_G_searched 22 rfl) rfl ?_
      refine AW.iconst (dc hd_G_searched 23 rfl) (by decide) ?_
      refine AW.ra_n (dc hd_G_searched 24 rfl) rfl rfl rfl ?_
      refine AW.getp fl_10_61 (dc hd_G_searched 25 rfl) g_1 rfl ?_
      refine AW.iload (dc hd_G_searched 26 rfl) rfl ?_
      refine AW.iald (dc hd_G_searched 27 rfl) g_3 g_4 ?_
      refine AW.ishl (dc hd_G_searched 28 rfl) ?_
      refine AW.ior (dc hd_G_searched 29 rfl) ?_
      refine AW.nm (fun v4_9 ev4_9 => ?_)
      have h := h v4_9 ev4_9
      refine AW.istore [(2, v0), (0, v1), (0, v2), (0, w32 (v3 + r_5)), (0, v4_9), (0, v5)] (dc hd_G_searched 30 rfl) (Nat.le_of_ble_eq_true rfl) rfl rfl ?_
      refine AW.iinc [(2, v0), (0, v1), (0, v2), (0, w32 (v3 + r_5)), (0, v4_9), (0, w32 (v5 + 1))] (dc hd_G_searched 31 rfl) rfl (Nat.le_of_ble_eq_true rfl) rfl rfl ?_
      refine AW.goto (t := 8) (dc hd_G_searched 32 rfl) (by decide) ?_
      exact hk8 (C_6, w32 (v3 + r_5), v4_9, w32 (v5 + 1)) h
def P_G_searched (n : Nat) (C : Cn) (v0 v1 v2 : Int) (Q : Int → Cn → Prop) : Prop :=
  ∃ f_10 : Nat, lp (B_G_searched_8 n v0 v1 v2 Q) f_10 (C, 0, 0, 0)
theorem m_G_searched (l : Launch) (E : Ev) (n : Nat) (C : Cn) (v0 v1 v2 : Int) (Q : Int → Cn → Prop) (h : P_G_searched n C v0 v1 v2 Q) : MA l y_G_searched M_G_searched E true C n [(2, v0), (0, v1), (0, v2)] (fun r C2 n2 => n2 = n ∧ Q r C2) := by
  refine MA.of (by decide) rfl rfl 3 rfl (fun p e s m args below meth c => ?_)
  show AW p l e _ s m args below meth c E M_G_searched true _ n 0 0 0 [(2, v0), (0, v1), (0, v2), (9, 0), (9, 0), (9, 0)] [] C
  unfold P_G_searched at h
  refine AW.iconst (dc hd_G_searched 0 rfl) (by decide) ?_
  refine AW.istore_n [(2, v0), (0, v1), (0, v2), (0, 0), (9, 0), (9, 0)] (dc hd_G_searched 1 rfl) (Nat.le_of_ble_eq_true rfl) rfl rfl ?_
  refine AW.iconst (dc hd_G_searched 2 rfl) (by decide) ?_
  refine AW.istore [(2, v0), (0, v1), (0, v2), (0, 0), (0, 0), (9, 0)] (dc hd_G_searched 3 rfl) (Nat.le_of_ble_eq_true rfl) rfl rfl ?_
  refine AW.iconst (dc hd_G_searched 4 rfl) (by decide) ?_
  refine AW.istore [(2, v0), (0, v1), (0, v2), (0, 0), (0, 0), (0, 0)] (dc hd_G_searched 5 rfl) (Nat.le_of_ble_eq_true rfl) rfl rfl ?_
  obtain ⟨f_10, h⟩ := h
  exact aB_G_searched_8 n v0 v1 v2 Q f_10 (C, 0, 0, 0) h
def B_G_asNumbered_2 (n : Nat) (v0 : Int) (Q : Int → Cn → Prop) (k2 : Cn × Int → Prop) (z : Cn × Int) : Prop := match z with
  | (C, v1) => okO n v0 10 ∧ ((C v0.toNat 0 ≤ v1 → (Q 0 C)) ∧ (¬ C v0.toNat 0 ≤ v1 → (okO n (PT v0.toNat 27) 12 ∧ (okI (PT v0.toNat 27) v1 ∧ (∀ C_5 : Cn, C_5 = wr C (PT v0.toNat 27).toNat v1.toNat v1 → (k2 (C_5, w32 (v1 + 1))))))))
theorem aB_G_asNumbered_2 (n : Nat) (v0 : Int) (Q : Int → Cn → Prop) : ∀ (f : Nat) (z : Cn × Int), lp (B_G_asNumbered_2 n v0 Q) f z → AW p l e R s m args below meth c E M_G_asNumbered true (fun r C2 n2 => n2 = n ∧ Q r C2) n 0 0 2 [(2, v0), (0, z.2)] [] (z.1) := by
  intro f
  induction f with
  | zero => intro z h; exact False.elim h
  | succ f ih =>
    intro z h
    obtain ⟨C, v1⟩ := z
    have h : B_G_asNumbered_2 n v0 Q (lp (B_G_asNumbered_2 n v0 Q) f) (C, v1) := h
    unfold B_G_asNumbered_2 at h
    dsimp only at h
    have hk2 : ∀ z : Cn × Int, lp (B_G_asNumbered_2 n v0 Q) f z → _ := ih
    refine AW.iload_n (dc hd_G_asNumbered 2 rfl) rfl ?_
    refine AW.ra_n (dc hd_G_asNumbered 3 rfl) rfl rfl rfl ?_
    obtain ⟨g_1, h⟩ := h
    refine AW.getf fl_10_117 (dc hd_G_asNumbered 4 rfl) g_1 ?_
    refine AW.icmp_ge (t := 23) (dc hd_G_asNumbered 5 rfl) (by decide) (fun c_2 => ?_) (fun c_2 => ?_)
    · have h := h.1 c_2
      exact AW.vret (dc hd_G_asNumbered 13 rfl) rfl rfl (Nat.le_of_ble_eq_true rfl) (Nat.le_of_ble_eq_true rfl) ⟨rfl, h⟩
    · have h := h.2 c_2
      refine AW.ra_n (dc hd_G_asNumbered 6 rfl) rfl rfl rfl ?_
      refine AW.getp fl_10_61 (dc hd_G_asNumbered 7 rfl) g_1 rfl ?_
      refine AW.iload_n (dc hd_G_asNumbered 8 rfl) rfl ?_
      refine AW.iload_n (dc hd_G_asNumbered 9 rfl) rfl ?_
      obtain ⟨g_3, h⟩ := h
      obtain ⟨g_4, h⟩ := h
      refine AW.niast (dc hd_G_asNumbered 10 rfl) g_3 g_4 (fun C_5 eC_5 => ?_)
      have h := h C_5 eC_5
      refine AW.iinc [(2, v0), (0, w32 (v1 + 1))] (dc hd_G_asNumbered 11 rfl) rfl (Nat.le_of_ble_eq_true rfl) rfl rfl ?_
      refine AW.goto (t := 2) (dc hd_G_asNumbered 12 rfl) (by decide) ?_
      exact hk2 (C_5, w32 (v1 + 1)) h
def P_G_asNumbered (n : Nat) (C : Cn) (v0 : Int) (Q : Int → Cn → Prop) : Prop :=
  ∃ f_6 : Nat, lp (B_G_asNumbered_2 n v0 Q) f_6 (C, 0)
theorem m_G_asNumbered (l : Launch) (E : Ev) (n : Nat) (C : Cn) (v0 : Int) (Q : Int → Cn → Prop) (h : P_G_asNumbered n C v0 Q) : MA l y_G_asNumbered M_G_asNumbered E true C n [(2, v0)] (fun r C2 n2 => n2 = n ∧ Q r C2) := by
  refine MA.of (by decide) rfl rfl 1 rfl (fun p e s m args below meth c => ?_)
  show AW p l e _ s m args below meth c E M_G_asNumbered true _ n 0 0 0 [(2, v0), (9, 0)] [] C
  unfold P_G_asNumbered at h
  refine AW.iconst (dc hd_G_asNumbered 0 rfl) (by decide) ?_
  refine AW.istore_n [(2, v0), (0, 0)] (dc hd_G_asNumbered 1 rfl) (Nat.le_of_ble_eq_true rfl) rfl rfl ?_
  obtain ⟨f_6, h⟩ := h
  exact aB_G_asNumbered_2 n v0 Q f_6 (C, 0) h
def P_G_steps (n : Nat) (C : Cn) (v0 v1 v2 : Int) (Q : Int → Cn → Prop) : Prop :=
  P_G_isPoint n C v1 v2 (fun (r_1 : Int) => (r_1 = 0 → (okO n v0 10 ∧ (P_G_finds n C v0 0 (fun (r_28 : Int) (C_30 : Cn) => Q r_28 C_30)))) ∧ (¬ r_1 = 0 → (okO n v0 10 ∧ (P_G_maps n C v0 (fun (_ : Int) (C_7 : Cn) => P_G_isFree n C_7 v0 v1 v2 (fun (r_11 : Int) (C_12 : Cn) => (r_11 = 0 → (P_G_finds n C_12 v0 4 (fun (r_24 : Int) (C_25 : Cn) => Q r_24 C_25))) ∧ (¬ r_11 = 0 → (P_G_asNumbered n C_12 v0 (fun (_ : Int) (C_16 : Cn) => P_G_searched n C_16 v0 (C_16 v0.toNat 23) (C_16 v0.toNat 24) (fun (r_20 : Int) (C_21 : Cn) => Q r_20 C_21))))))))))
theorem m_G_steps (l : Launch) (E : Ev) (n : Nat) (C : Cn) (v0 v1 v2 : Int) (Q : Int → Cn → Prop) (h : P_G_steps n C v0 v1 v2 Q) : MA l y_G_steps M_G_steps E true C n [(2, v0), (0, v1), (0, v2)] (fun r C2 n2 => n2 = n ∧ Q r C2) := by
  refine MA.of (by decide) rfl rfl 0 rfl (fun p e s m args below meth c => ?_)
  show AW p l e _ s m args below meth c E M_G_steps true _ n 0 0 0 [(2, v0), (0, v1), (0, v2)] [] C
  unfold P_G_steps at h
  refine AW.iload_n (dc hd_G_steps 0 rfl) rfl ?_
  refine AW.iload_n (dc hd_G_steps 1 rfl) rfl ?_
  refine AW.callS (As := [(0, v1), (0, v2)]) (rest := []) (m_G_isPoint l E n C v1 v2 _ h) cb_10_183 sm_G_isPoint (dc hd_G_steps 2 rfl) rfl rfl ⟨Nat.le_of_ble_eq_true rfl, Nat.le_of_ble_eq_true rfl⟩ ⟨(Nat.le_of_ble_eq_true rfl), (Nat.le_of_ble_eq_true rfl)⟩ (Nat.le_of_ble_eq_true rfl) (fun _ h => by cases h) (fun _ => rfl) (fun r_1 D_3 d_4 q_2 => ?_)
  obtain ⟨q_2a, q_2b, h⟩ := q_2
  subst D_3
  subst d_4
  show AW p l e _ s m args below meth c E M_G_steps true _ n _ _ _ [(2, v0), (0, v1), (0, v2)] [(0, r_1)] C
  refine AW.if_ne (t := 14) (dc hd_G_steps 3 rfl) (by decide) (fun c_5 => ?_) (fun c_5 => ?_)
  · have h := h.2 c_5
    refine AW.ra_n (dc hd_G_steps 8 rfl) rfl rfl rfl ?_
    obtain ⟨g_6, h⟩ := h
    refine AW.callV (As := []) (rest := []) (ci := 10) (m_G_maps l E n C v0 _ h) cb_10_211 im_G_maps se_G_maps ⟨_, _, rfl⟩ (by decide) (dc hd_G_steps 9 rfl) g_6 rfl rfl ⟨Nat.le_of_ble_eq_true rfl, Nat.le_of_ble_eq_true rfl⟩ ⟨(Nat.le_of_ble_eq_true rfl), (Nat.le_of_ble_eq_true rfl)⟩ (Nat.le_of_ble_eq_true rfl) (fun _ h => by cases h) (fun _ => rfl) (fun u_9 C_7 d_10 q_8 => ?_)
    obtain ⟨q_8a, h⟩ := q_8
    subst d_10
    show AW p l e _ s m args below meth c E M_G_steps true _ n _ _ _ [(2, v0), (0, v1), (0, v2)] [] C_7
    refine AW.ra_n (dc hd_G_steps 10 rfl) rfl rfl rfl ?_
    refine AW.iload_n (dc hd_G_steps 11 rfl) rfl ?_
    refine AW.iload_n (dc hd_G_steps 12 rfl) rfl ?_
    refine AW.callV (As := [(0, v1), (0, v2)]) (rest := []) (ci := 10) (m_G_isFree l E n C_7 v0 v1 v2 _ h) cb_10_284 im_G_isFree se_G_isFree ⟨_, _, rfl⟩ (by decide) (dc hd_G_steps 13 rfl) g_6 rfl rfl ⟨Nat.le_of_ble_eq_true rfl, Nat.le_of_ble_eq_true rfl⟩ ⟨(Nat.le_of_ble_eq_true rfl), (Nat.le_of_ble_eq_true rfl)⟩ (Nat.le_of_ble_eq_true rfl) (fun _ h => by cases h) (fun _ => rfl) (fun r_11 C_12 d_14 q_13 => ?_)
    obtain ⟨q_13a, h⟩ := q_13
    subst d_14
    show AW p l e _ s m args below meth c E M_G_steps true _ n _ _ _ [(2, v0), (0, v1), (0, v2)] [(0, r_11)] C_12
    refine AW.if_ne (t := 33) (dc hd_G_steps 14 rfl) (by decide) (fun c_15 => ?_) (fun c_15 => ?_)
    · have h := h.2 c_15
      refine AW.ra_n (dc hd_G_steps 19 rfl) rfl rfl rfl ?_
      refine AW.callV (As := []) (rest := []) (ci := 10) (m_G_asNumbered l E n C_12 v0 _ h) cb_10_310 im_G_asNumbered se_G_asNumbered ⟨_, _, rfl⟩ (by decide) (dc hd_G_steps 20 rfl) g_6 rfl rfl ⟨Nat.le_of_ble_eq_true rfl, Nat.le_of_ble_eq_true rfl⟩ ⟨(Nat.le_of_ble_eq_true rfl), (Nat.le_of_ble_eq_true rfl)⟩ (Nat.le_of_ble_eq_true rfl) (fun _ h => by cases h) (fun _ => rfl) (fun u_18 C_16 d_19 q_17 => ?_)
      obtain ⟨q_17a, h⟩ := q_17
      subst d_19
      show AW p l e _ s m args below meth c E M_G_steps true _ n _ _ _ [(2, v0), (0, v1), (0, v2)] [] C_16
      refine AW.ra_n (dc hd_G_steps 21 rfl) rfl rfl rfl ?_
      refine AW.ra_n (dc hd_G_steps 22 rfl) rfl rfl rfl ?_
      refine AW.getf fl_10_275 (dc hd_G_steps 23 rfl) g_6 ?_
      refine AW.ra_n (dc hd_G_steps 24 rfl) rfl rfl rfl ?_
      refine AW.getf fl_10_278 (dc hd_G_steps 25 rfl) g_6 ?_
      refine AW.callV (As := [(0, C_16 v0.toNat 23), (0, C_16 v0.toNat 24)]) (rest := []) (ci := 10) (m_G_searched l E n C_16 v0 (C_16 v0.toNat 23) (C_16 v0.toNat 24) _ h) cb_10_313 im_G_searched se_G_searched ⟨_, _, rfl⟩ (by decide) (dc hd_G_steps 26 rfl) g_6 rfl rfl ⟨Nat.le_of_ble_eq_true rfl, Nat.le_of_ble_eq_true rfl⟩ ⟨(Nat.le_of_ble_eq_true rfl), (Nat.le_of_ble_eq_true rfl)⟩ (Nat.le_of_ble_eq_true rfl) (fun _ h => by cases h) (fun _ => rfl) (fun r_20 C_21 d_23 q_22 => ?_)
      obtain ⟨q_22a, h⟩ := q_22
      subst d_23
      show AW p l e _ s m args below meth c E M_G_steps true _ n _ _ _ [(2, v0), (0, v1), (0, v2)] [(0, r_20)] C_21
      exact AW.iret (dc hd_G_steps 27 rfl) rfl rfl (Nat.le_of_ble_eq_true rfl) (Nat.le_of_ble_eq_true rfl) ⟨rfl, h⟩
    · have h := h.1 c_15
      refine AW.ra_n (dc hd_G_steps 15 rfl) rfl rfl rfl ?_
      refine AW.iconst (dc hd_G_steps 16 rfl) (by decide) ?_
      refine AW.callV (As := [(0, 4)]) (rest := []) (ci := 10) (m_G_finds l E n C_12 v0 4 _ h) cb_10_186 im_G_finds se_G_finds ⟨_, _, rfl⟩ (by decide) (dc hd_G_steps 17 rfl) g_6 rfl rfl ⟨Nat.le_of_ble_eq_true rfl, Nat.le_of_ble_eq_true rfl⟩ ⟨(Nat.le_of_ble_eq_true rfl), (Nat.le_of_ble_eq_true rfl)⟩ (Nat.le_of_ble_eq_true rfl) (fun _ h => by cases h) (fun _ => rfl) (fun r_24 C_25 d_27 q_26 => ?_)
      obtain ⟨q_26a, h⟩ := q_26
      subst d_27
      show AW p l e _ s m args below meth c E M_G_steps true _ n _ _ _ [(2, v0), (0, v1), (0, v2)] [(0, r_24)] C_25
      exact AW.iret (dc hd_G_steps 18 rfl) rfl rfl (Nat.le_of_ble_eq_true rfl) (Nat.le_of_ble_eq_true rfl) ⟨rfl, h⟩
  · have h := h.1 c_5
    refine AW.ra_n (dc hd_G_steps 4 rfl) rfl rfl rfl ?_
    refine AW.iconst (dc hd_G_steps 5 rfl) (by decide) ?_
    obtain ⟨g_29, h⟩ := h
    refine AW.callV (As := [(0, 0)]) (rest := []) (ci := 10) (m_G_finds l E n C v0 0 _ h) cb_10_186 im_G_finds se_G_finds ⟨_, _, rfl⟩ (by decide) (dc hd_G_steps 6 rfl) g_29 rfl rfl ⟨Nat.le_of_ble_eq_true rfl, Nat.le_of_ble_eq_true rfl⟩ ⟨(Nat.le_of_ble_eq_true rfl), (Nat.le_of_ble_eq_true rfl)⟩ (Nat.le_of_ble_eq_true rfl) (fun _ h => by cases h) (fun _ => rfl) (fun r_28 C_30 d_32 q_31 => ?_)
    obtain ⟨q_31a, h⟩ := q_31
    subst d_32
    show AW p l e _ s m args below meth c E M_G_steps true _ n _ _ _ [(2, v0), (0, v1), (0, v2)] [(0, r_28)] C_30
    exact AW.iret (dc hd_G_steps 7 rfl) rfl rfl (Nat.le_of_ble_eq_true rfl) (Nat.le_of_ble_eq_true rfl) ⟨rfl, h⟩
def B_G_searches_22 (n : Nat) (v0 v1 : Int) (k12 : Cn × Int → Prop) (Q : Int → Cn → Prop) (k22 : Cn × Int → Prop) (z : Cn × Int) : Prop := match z with
  | (C, v2) => okO n v0 10 ∧ (okO n (PT v0.toNat 15) 12 ∧ (okI (PT v0.toNat 15) v1 ∧ ((C (PT v0.toNat 15).toNat v1.toNat < v2 → (k12 (C, w32 (v1 + 1)))) ∧ (¬ C (PT v0.toNat 15).toNat v1.toNat < v2 → (P_G_searched n C v0 v1 v2 (fun (r_10 : Int) (C_11 : Cn) => ∀ C_14 : Cn, C_14 = wr C_11 v0.toNat 28 (imax (C_11 v0.toNat 28) r_10) → (∀ C_15 : Cn, C_15 = wr C_14 v0.toNat 29 (w32 (C_14 v0.toNat 29 + r_10)) → (k22 (C_15, w32 (v2 + 1))))))))))
theorem aB_G_searches_22 (n : Nat) (v0 v1 : Int) (k12 : Cn × Int → Prop) (Q : Int → Cn → Prop) (hk12 : ∀ (Cz : Cn) (z1 : Int), k12 (Cz, z1) → AW p l e R s m args below meth c E M_G_searches true (fun r C2 n2 => n2 = n ∧ Q r C2) n 0 0 12 [(2, v0), (0, z1), (9, 0), (9, 0)] [] Cz) : ∀ (f : Nat) (z : Cn × Int), lp (B_G_searches_22 n v0 v1 k12 Q) f z → AW p l e R s m args below meth c E M_G_searches true (fun r C2 n2 => n2 = n ∧ Q r C2) n 0 0 22 [(2, v0), (0, v1), (0, z.2), (9, 0)] [] (z.1) := by
  intro f
  induction f with
  | zero => intro z h; exact False.elim h
  | succ f ih =>
    intro z h
    obtain ⟨C, v2⟩ := z
    have h : B_G_searches_22 n v0 v1 k12 Q (lp (B_G_searches_22 n v0 v1 k12 Q) f) (C, v2) := h
    unfold B_G_searches_22 at h
    dsimp only at h
    have hk22 : ∀ z : Cn × Int, lp (B_G_searches_22 n v0 v1 k12 Q) f z → _ := ih
    refine AW.iload_n (dc hd_G_searches 14 rfl) rfl ?_
    refine AW.ra_n (dc hd_G_searches 15 rfl) rfl rfl rfl ?_
    obtain ⟨g_6, h⟩ := h
    refine AW.getp fl_10_40 (dc hd_G_searches 16 rfl) g_6 rfl ?_
    refine AW.iload_n (dc hd_G_searches 17 rfl) rfl ?_
    obtain ⟨g_7, h⟩ := h
    obtain ⟨g_8, h⟩ := h
    refine AW.iald (dc hd_G_searches 18 rfl) g_7 g_8 ?_
    refine AW.icmp_gt (t := 67) (dc hd_G_searches 19 rfl) (by decide) (fun c_9 => ?_) (fun c_9 => ?_)
    · have h := h.1 c_9
      refine AW.iinc [(2, v0), (0, w32 (v1 + 1)), (0, v2), (9, 0)] (dc hd_G_searches 39 rfl) rfl (Nat.le_of_ble_eq_true rfl) rfl rfl ?_
      refine AW.goto (t := 12) (dc hd_G_searches 40 rfl) (by decide) ?_
      refine AW.fgt [(2, v0), (0, w32 (v1 + 1)), (9, 0), (9, 0)] ⟨.inl rfl, .inl rfl, .inr rfl, .inl rfl, trivial⟩ ?_
      exact hk12 (C, w32 (v1 + 1)) h
    · have h := h.2 c_9
      refine AW.ra_n (dc hd_G_searches 20 rfl) rfl rfl rfl ?_
      refine AW.iload_n (dc hd_G_searches 21 rfl) rfl ?_
      refine AW.iload_n (dc hd_G_searches 22 rfl) rfl ?_
      refine AW.callV (As := [(0, v1), (0, v2)]) (rest := []) (ci := 10) (m_G_searched l E n C v0 v1 v2 _ h) cb_10_313 im_G_searched se_G_searched ⟨_, _, rfl⟩ (by decide) (dc hd_G_searches 23 rfl) g_6 rfl rfl ⟨Nat.le_of_ble_eq_true rfl, Nat.le_of_ble_eq_true rfl⟩ ⟨(Nat.le_of_ble_eq_true rfl), (Nat.le_of_ble_eq_true rfl)⟩ (Nat.le_of_ble_eq_true rfl) (fun _ h => by cases h) (fun _ => rfl) (fun r_10 C_11 d_13 q_12 => ?_)
      obtain ⟨q_12a, h⟩ := q_12
      subst d_13
      show AW p l e _ s m args below meth c E M_G_searches true _ n _ _ _ [(2, v0), (0, v1), (0, v2), (9, 0)] [(0, r_10)] C_11
      refine AW.istore_n [(2, v0), (0, v1), (0, v2), (0, r_10)] (dc hd_G_searches 24 rfl) (Nat.le_of_ble_eq_true rfl) rfl rfl ?_
      refine AW.ra_n (dc hd_G_searches 25 rfl) rfl rfl rfl ?_
      refine AW.ra_n (dc hd_G_searches 26 rfl) rfl rfl rfl ?_
      refine AW.getf fl_10_316 (dc hd_G_searches 27 rfl) g_6 ?_
      refine AW.iload_n (dc hd_G_searches 28 rfl) rfl ?_
      refine AW.mmmax (dc hd_G_searches 29 rfl) mt_10_161 (Nat.le_of_ble_eq_true rfl) (Nat.le_of_ble_eq_true rfl) (Nat.le_of_ble_eq_true rfl) (Nat.le_of_ble_eq_true rfl) (Nat.le_of_ble_eq_true rfl) ?_
      refine AW.nputI fl_10_316 (dc hd_G_searches 30 rfl) g_6 (fun C_14 eC_14 => ?_)
      have h := h C_14 eC_14
      refine AW.ra_n (dc hd_G_searches 31 rfl) rfl rfl rfl ?_
      refine AW.rdup (dc hd_G_searches 32 rfl) rfl ?_
      refine AW.getf fl_10_319 (dc hd_G_searches 33 rfl) g_6 ?_
      refine AW.iload_n (dc hd_G_searches 34 rfl) rfl ?_
      refine AW.iadd (dc hd_G_searches 35 rfl) ?_
      refine AW.nputI fl_10_319 (dc hd_G_searches 36 rfl) g_6 (fun C_15 eC_15 => ?_)
      have h := h C_15 eC_15
      refine AW.iinc [(2, v0), (0, v1), (0, w32 (v2 + 1)), (0, r_10)] (dc hd_G_searches 37 rfl) rfl (Nat.le_of_ble_eq_true rfl) rfl rfl ?_
      refine AW.goto (t := 22) (dc hd_G_searches 38 rfl) (by decide) ?_
      refine AW.fgt [(2, v0), (0, v1), (0, w32 (v2 + 1)), (9, 0)] ⟨.inl rfl, .inl rfl, .inl rfl, .inr rfl, trivial⟩ ?_
      exact hk22 (C_15, w32 (v2 + 1)) h
def B_G_searches_12 (n : Nat) (v0 : Int) (Q : Int → Cn → Prop) (k12 : Cn × Int → Prop) (z : Cn × Int) : Prop := match z with
  | (C, v1) => okO n v0 10 ∧ ((C v0.toNat 10 < v1 → (Q 0 C)) ∧ (¬ C v0.toNat 10 < v1 → (∃ f_16 : Nat, lp (B_G_searches_22 n v0 v1 k12 Q) f_16 (C, 0))))
theorem aB_G_searches_12 (n : Nat) (v0 : Int) (Q : Int → Cn → Prop) : ∀ (f : Nat) (z : Cn × Int), lp (B_G_searches_12 n v0 Q) f z → AW p l e R s m args below meth c E M_G_searches true (fun r C2 n2 => n2 = n ∧ Q r C2) n 0 0 12 [(2, v0), (0, z.2), (9, 0), (9, 0)] [] (z.1) := by
  intro f
  induction f with
  | zero => intro z h; exact False.elim h
  | succ f ih =>
    intro z h
    obtain ⟨C, v1⟩ := z
    have h : B_G_searches_12 n v0 Q (lp (B_G_searches_12 n v0 Q) f) (C, v1) := h
    unfold B_G_searches_12 at h
    dsimp only at h
    have hk12 : ∀ z : Cn × Int, lp (B_G_searches_12 n v0 Q) f z → _ := ih
    refine AW.iload_n (dc hd_G_searches 8 rfl) rfl ?_
    refine AW.ra_n (dc hd_G_searches 9 rfl) rfl rfl rfl ?_
    obtain ⟨g_4, h⟩ := h
    refine AW.getf fl_10_221 (dc hd_G_searches 10 rfl) g_4 ?_
    refine AW.icmp_gt (t := 73) (dc hd_G_searches 11 rfl) (by decide) (fun c_5 => ?_) (fun c_5 => ?_)
    · have h := h.1 c_5
      exact AW.vret (dc hd_G_searches 41 rfl) rfl rfl (Nat.le_of_ble_eq_true rfl) (Nat.le_of_ble_eq_true rfl) ⟨rfl, h⟩
    · have h := h.2 c_5
      refine AW.iconst (dc hd_G_searches 12 rfl) (by decide) ?_
      refine AW.istore_n [(2, v0), (0, v1), (0, 0), (9, 0)] (dc hd_G_searches 13 rfl) (Nat.le_of_ble_eq_true rfl) rfl rfl ?_
      obtain ⟨f_16, h⟩ := h
      exact aB_G_searches_22 n v0 v1 k12 Q hk12 f_16 (C, 0) h
def P_G_searches (n : Nat) (C : Cn) (v0 : Int) (Q : Int → Cn → Prop) : Prop :=
  okO n v0 10 ∧ (∀ C_2 : Cn, C_2 = wr C v0.toNat 28 0 → (∀ C_3 : Cn, C_3 = wr C_2 v0.toNat 29 0 → (∃ f_17 : Nat, lp (B_G_searches_12 n v0 Q) f_17 (C_3, 0))))
theorem m_G_searches (l : Launch) (E : Ev) (n : Nat) (C : Cn) (v0 : Int) (Q : Int → Cn → Prop) (h : P_G_searches n C v0 Q) : MA l y_G_searches M_G_searches E true C n [(2, v0)] (fun r C2 n2 => n2 = n ∧ Q r C2) := by
  refine MA.of (by decide) rfl rfl 3 rfl (fun p e s m args below meth c => ?_)
  show AW p l e _ s m args below meth c E M_G_searches true _ n 0 0 0 [(2, v0), (9, 0), (9, 0), (9, 0)] [] C
  unfold P_G_searches at h
  refine AW.ra_n (dc hd_G_searches 0 rfl) rfl rfl rfl ?_
  refine AW.iconst (dc hd_G_searches 1 rfl) (by decide) ?_
  obtain ⟨g_1, h⟩ := h
  refine AW.nputI fl_10_316 (dc hd_G_searches 2 rfl) g_1 (fun C_2 eC_2 => ?_)
  have h := h C_2 eC_2
  refine AW.ra_n (dc hd_G_searches 3 rfl) rfl rfl rfl ?_
  refine AW.iconst (dc hd_G_searches 4 rfl) (by decide) ?_
  refine AW.nputI fl_10_319 (dc hd_G_searches 5 rfl) g_1 (fun C_3 eC_3 => ?_)
  have h := h C_3 eC_3
  refine AW.iconst (dc hd_G_searches 6 rfl) (by decide) ?_
  refine AW.istore_n [(2, v0), (0, 0), (9, 0), (9, 0)] (dc hd_G_searches 7 rfl) (Nat.le_of_ble_eq_true rfl) rfl rfl ?_
  obtain ⟨f_17, h⟩ := h
  exact aB_G_searches_12 n v0 Q f_17 (C_3, 0) h
end
