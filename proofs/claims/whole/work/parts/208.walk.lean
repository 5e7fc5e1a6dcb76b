section
variable {p : Program} {l : Launch} {e : Env} {R : Room} {s : State} {m : MethodId} {args : Array Value} {below : List Frame} {meth : Method} {c : Code} {E : Ev}
def J_F_asks_149 (n : Nat) (C : Cn) (v5 : Int) (Q : Int → Cn → Prop) : Prop :=
  Q v5 C
theorem aJ_F_asks_149 (n : Nat) (C : Cn) (v5 : Int) (Q : Int → Cn → Prop) (h : J_F_asks_149 n C v5 Q) : AW p l e R s m args below meth c E M_F_asks true (fun r C2 n2 => n2 = n ∧ Q r C2) n 0 0 149 [(9, 0), (9, 0), (9, 0), (9, 0), (9, 0), (0, v5), (9, 0), (9, 0), (9, 0), (9, 0)] [] C := by
  unfold J_F_asks_149 at h
  refine AW.iload (dc hd_F_asks 79 rfl) rfl ?_
  exact AW.iret (dc hd_F_asks 80 rfl) rfl rfl (Nat.le_of_ble_eq_true rfl) (Nat.le_of_ble_eq_true rfl) ⟨rfl, h⟩
def B_F_asks_59 (n : Nat) (v0 v3 v4 : Int) (Q : Int → Cn → Prop) (kz59 : Cn × Int → Prop) (z : Cn × Int) : Prop := match z with
  | (C, v5) => okO n v4 5 ∧ ((C v4.toNat 1 ≤ v5 → (J_F_asks_149 n C v5 Q)) ∧ (¬ C v4.toNat 1 ≤ v5 → (okO n v3 5 ∧ ((C v3.toNat 1 ≤ w32 (w32 (2 * v5) + 1) → (J_F_asks_149 n C v5 Q)) ∧ (¬ C v3.toNat 1 ≤ w32 (w32 (2 * v5) + 1) → (okO n (PT v3.toNat 2) 13 ∧ (okI (PT v3.toNat 2) (w32 (2 * v5)) ∧ (∀ v6_42 : Int, v6_42 = C (PT v3.toNat 2).toNat (w32 (2 * v5)).toNat → (okI (PT v3.toNat 2) (w32 (w32 (2 * v5) + 1)) ∧ (∀ v8_44 : Int, v8_44 = C (PT v3.toNat 2).toNat (w32 (w32 (2 * v5) + 1)).toNat → (P_F_isFew n C v6_42 (fun (r_45 : Int) => (r_45 = 0 → (J_F_asks_149 n C v5 Q)) ∧ (¬ r_45 = 0 → (P_F_isFew n C v8_44 (fun (r_50 : Int) => (r_50 = 0 → (J_F_asks_149 n C v5 Q)) ∧ (¬ r_50 = 0 → (okO n v0 9 ∧ (P_F_whatHolds n C v0 (w32 v6_42) (w32 v8_44) (fun (r_55 : Int) => P_Sh_put n C v4 v5 r_55 (fun (_ : Int) (C_60 : Cn) => kz59 (C_60, w32 (v5 + 1))))))))))))))))))))))
theorem bB_F_asks_59 (n : Nat) (v0 v3 v4 : Int) (Q : Int → Cn → Prop) (kz59 : Cn × Int → Prop) (hkz59 : ∀ (Cz : Cn) (z5 : Int), kz59 (Cz, z5) → AW p l e R s m args below meth c E M_F_asks true (fun r C2 n2 => n2 = n ∧ Q r C2) n 0 0 59 [(2, v0), (9, 0), (9, 0), (2, v3), (2, v4), (0, z5), (9, 0), (9, 0), (9, 0), (9, 0)] [] Cz) (C : Cn) (v5 : Int) (h : B_F_asks_59 n v0 v3 v4 Q kz59 (C, v5)) : AW p l e R s m args below meth c E M_F_asks true (fun r C2 n2 => n2 = n ∧ Q r C2) n 0 0 59 [(2, v0), (9, 0), (9, 0), (2, v3), (2, v4), (0, v5), (9, 0), (9, 0), (9, 0), (9, 0)] [] C := by
  unfold B_F_asks_59 at h
  dsimp only at h
  refine AW.iload (dc hd_F_asks 32 rfl) rfl ?_
  refine AW.ra (dc hd_F_asks 33 rfl) rfl rfl rfl ?_
  obtain ⟨g_36, h⟩ := h
  refine AW.getf fl_9_317 (dc hd_F_asks 34 rfl) g_36 ?_
  refine AW.icmp_ge (t := 149) (dc hd_F_asks 35 rfl) (by decide) (fun c_37 => ?_) (fun c_37 => ?_)
  · have h := h.1 c_37
    refine AW.fgt [(9, 0), (9, 0), (9, 0), (9, 0), (9, 0), (0, v5), (9, 0), (9, 0), (9, 0), (9, 0)] ⟨.inr rfl, .inl rfl, .inl rfl, .inr rfl, .inr rfl, .inl rfl, .inl rfl, .inl rfl, .inl rfl, .inl rfl, trivial⟩ ?_
    exact aJ_F_asks_149 n C v5 Q h
  · have h := h.2 c_37
    refine AW.iconst (dc hd_F_asks 36 rfl) (by decide) ?_
    refine AW.iload (dc hd_F_asks 37 rfl) rfl ?_
    refine AW.imul (dc hd_F_asks 38 rfl) ?_
    refine AW.iconst (dc hd_F_asks 39 rfl) (by decide) ?_
    refine AW.iadd (dc hd_F_asks 40 rfl) ?_
    refine AW.ra_n (dc hd_F_asks 41 rfl) rfl rfl rfl ?_
    obtain ⟨g_38, h⟩ := h
    refine AW.getf fl_9_317 (dc hd_F_asks 42 rfl) g_38 ?_
    refine AW.icmp_ge (t := 149) (dc hd_F_asks 43 rfl) (by decide) (fun c_39 => ?_) (fun c_39 => ?_)
    · have h := h.1 c_39
      refine AW.fgt [(9, 0), (9, 0), (9, 0), (9, 0), (9, 0), (0, v5), (9, 0), (9, 0), (9, 0), (9, 0)] ⟨.inr rfl, .inl rfl, .inl rfl, .inr rfl, .inr rfl, .inl rfl, .inl rfl, .inl rfl, .inl rfl, .inl rfl, trivial⟩ ?_
      exact aJ_F_asks_149 n C v5 Q h
    · have h := h.2 c_39
      refine AW.ra_n (dc hd_F_asks 44 rfl) rfl rfl rfl ?_
      refine AW.getp fl_9_320 (dc hd_F_asks 45 rfl) g_38 rfl ?_
      refine AW.iconst (dc hd_F_asks 46 rfl) (by decide) ?_
      refine AW.iload (dc hd_F_asks 47 rfl) rfl ?_
      refine AW.imul (dc hd_F_asks 48 rfl) ?_
      obtain ⟨g_40, h⟩ := h
      obtain ⟨g_41, h⟩ := h
      refine AW.lald (dc hd_F_asks 49 rfl) g_40 g_41 ?_
      refine AW.nm (fun v6_42 ev6_42 => ?_)
      have h := h v6_42 ev6_42
      refine AW.lstore [(2, v0), (9, 0), (9, 0), (2, v3), (2, v4), (0, v5), (1, v6_42), (9, 0), (9, 0), (9, 0)] (dc hd_F_asks 50 rfl) (Nat.le_of_ble_eq_true rfl) rfl rfl ?_
      refine AW.ra_n (dc hd_F_asks 51 rfl) rfl rfl rfl ?_
      refine AW.getp fl_9_320 (dc hd_F_asks 52 rfl) g_38 rfl ?_
      refine AW.iconst (dc hd_F_asks 53 rfl) (by decide) ?_
      refine AW.iload (dc hd_F_asks 54 rfl) rfl ?_
      refine AW.imul (dc hd_F_asks 55 rfl) ?_
      refine AW.iconst (dc hd_F_asks 56 rfl) (by decide) ?_
      refine AW.iadd (dc hd_F_asks 57 rfl) ?_
      obtain ⟨g_43, h⟩ := h
      refine AW.lald (dc hd_F_asks 58 rfl) g_40 g_43 ?_
      refine AW.nm (fun v8_44 ev8_44 => ?_)
      have h := h v8_44 ev8_44
      refine AW.lstore [(2, v0), (9, 0), (9, 0), (2, v3), (2, v4), (0, v5), (1, v6_42), (9, 0), (1, v8_44), (9, 0)] (dc hd_F_asks 59 rfl) (Nat.le_of_ble_eq_true rfl) rfl rfl ?_
      refine AW.lload (dc hd_F_asks 60 rfl) rfl ?_
      refine AW.callS (As := [(1, v6_42)]) (rest := []) (m_F_isFew l E n C v6_42 _ h) cb_9_324 sm_F_isFew (dc hd_F_asks 61 rfl) rfl rfl ⟨Nat.le_of_ble_eq_true rfl, Nat.le_of_ble_eq_true rfl⟩ ⟨(Nat.le_of_ble_eq_true rfl), (Nat.le_of_ble_eq_true rfl)⟩ (Nat.le_of_ble_eq_true rfl) (fun _ h => by cases h) (fun _ => rfl) (fun r_45 D_47 d_48 q_46 => ?_)
      obtain ⟨q_46a, q_46b, h⟩ := q_46
      subst D_47
      subst d_48
      show AW p l e _ s m args below meth c E M_F_asks true _ n _ _ _ [(2, v0), (9, 0), (9, 0), (2, v3), (2, v4), (0, v5), (1, v6_42), (9, 0), (1, v8_44), (9, 0)] [(0, r_45)] C
      refine AW.if_eq (t := 149) (dc hd_F_asks 62 rfl) (by decide) (fun c_49 => ?_) (fun c_49 => ?_)
      · have h := h.1 c_49
        refine AW.fgt [(9, 0), (9, 0), (9, 0), (9, 0), (9, 0), (0, v5), (9, 0), (9, 0), (9, 0), (9, 0)] ⟨.inr rfl, .inl rfl, .inl rfl, .inr rfl, .inr rfl, .inl rfl, .inr rfl, .inl rfl, .inr rfl, .inl rfl, trivial⟩ ?_
        exact aJ_F_asks_149 n C v5 Q h
      · have h := h.2 c_49
        refine AW.lload (dc hd_F_asks 63 rfl) rfl ?_
        refine AW.callS (As := [(1, v8_44)]) (rest := []) (m_F_isFew l E n C v8_44 _ h) cb_9_324 sm_F_isFew (dc hd_F_asks 64 rfl) rfl rfl ⟨Nat.le_of_ble_eq_true rfl, Nat.le_of_ble_eq_true rfl⟩ ⟨(Nat.le_of_ble_eq_true rfl), (Nat.le_of_ble_eq_true rfl)⟩ (Nat.le_of_ble_eq_true rfl) (fun _ h => by cases h) (fun _ => rfl) (fun r_50 D_52 d_53 q_51 => ?_)
        obtain ⟨q_51a, q_51b, h⟩ := q_51
        subst D_52
        subst d_53
        show AW p l e _ s m args below meth c E M_F_asks true _ n _ _ _ [(2, v0), (9, 0), (9, 0), (2, v3), (2, v4), (0, v5), (1, v6_42), (9, 0), (1, v8_44), (9, 0)] [(0, r_50)] C
        refine AW.if_ne (t := 125) (dc hd_F_asks 65 rfl) (by decide) (fun c_54 => ?_) (fun c_54 => ?_)
        · have h := h.2 c_54
          refine AW.ra (dc hd_F_asks 67 rfl) rfl rfl rfl ?_
          refine AW.iload (dc hd_F_asks 68 rfl) rfl ?_
          refine AW.ra_n (dc hd_F_asks 69 rfl) rfl rfl rfl ?_
          refine AW.lload (dc hd_F_asks 70 rfl) rfl ?_
          refine AW.l2i (dc hd_F_asks 71 rfl) ?_
          refine AW.lload (dc hd_F_asks 72 rfl) rfl ?_
          refine AW.l2i (dc hd_F_asks 73 rfl) ?_
          obtain ⟨g_56, h⟩ := h
          refine AW.callV (As := [(0, w32 v6_42), (0, w32 v8_44)]) (rest := [(0, v5), (2, v4)]) (ci := 9) (m_F_whatHolds l E n C v0 (w32 v6_42) (w32 v8_44) _ h) cb_9_226 im_F_whatHolds se_F_whatHolds ⟨_, _, rfl⟩ (by decide) (dc hd_F_asks 74 rfl) g_56 rfl rfl ⟨Nat.le_of_ble_eq_true rfl, Nat.le_of_ble_eq_true rfl⟩ ⟨(Nat.le_of_ble_eq_true rfl), (Nat.le_of_ble_eq_true rfl)⟩ (Nat.le_of_ble_eq_true rfl) (fun _ h => by cases h) (fun _ => rfl) (fun r_55 D_58 d_59 q_57 => ?_)
          obtain ⟨q_57a, q_57b, h⟩ := q_57
          subst D_58
          subst d_59
          show AW p l e _ s m args below meth c E M_F_asks true _ n _ _ _ [(2, v0), (9, 0), (9, 0), (2, v3), (2, v4), (0, v5), (1, v6_42), (9, 0), (1, v8_44), (9, 0)] [(0, r_55), (0, v5), (2, v4)] C
          refine AW.i2l (dc hd_F_asks 75 rfl) ?_
          refine AW.callV (As := [(0, v5), (1, r_55)]) (rest := []) (ci := 5) (m_Sh_put l E n C v4 v5 r_55 _ h) cb_9_328 im_Sh_put se_Sh_put ⟨_, _, rfl⟩ (by decide) (dc hd_F_asks 76 rfl) g_36 rfl rfl ⟨Nat.le_of_ble_eq_true rfl, Nat.le_of_ble_eq_true rfl⟩ ⟨(Nat.le_of_ble_eq_true rfl), (Nat.le_of_ble_eq_true rfl)⟩ (Nat.le_of_ble_eq_true rfl) (fun _ h => by cases h) (fun _ => rfl) (fun u_62 C_60 d_63 q_61 => ?_)
          obtain ⟨q_61a, h⟩ := q_61
          subst d_63
          show AW p l e _ s m args below meth c E M_F_asks true _ n _ _ _ [(2, v0), (9, 0), (9, 0), (2, v3), (2, v4), (0, v5), (1, v6_42), (9, 0), (1, v8_44), (9, 0)] [] C_60
          refine AW.iinc [(2, v0), (9, 0), (9, 0), (2, v3), (2, v4), (0, w32 (v5 + 1)), (1, v6_42), (9, 0), (1, v8_44), (9, 0)] (dc hd_F_asks 77 rfl) rfl (Nat.le_of_ble_eq_true rfl) rfl rfl ?_
          refine AW.goto (t := 59) (dc hd_F_asks 78 rfl) (by decide) ?_
          refine AW.fgt [(2, v0), (9, 0), (9, 0), (2, v3), (2, v4), (0, w32 (v5 + 1)), (9, 0), (9, 0), (9, 0), (9, 0)] ⟨.inl rfl, .inl rfl, .inl rfl, .inl rfl, .inl rfl, .inl rfl, .inr rfl, .inl rfl, .inr rfl, .inl rfl, trivial⟩ ?_
          exact hkz59 C_60 (w32 (v5 + 1)) h
        · have h := h.1 c_54
          refine AW.goto (t := 149) (dc hd_F_asks 66 rfl) (by decide) ?_
          refine AW.fgt [(9, 0), (9, 0), (9, 0), (9, 0), (9, 0), (0, v5), (9, 0), (9, 0), (9, 0), (9, 0)] ⟨.inr rfl, .inl rfl, .inl rfl, .inr rfl, .inr rfl, .inl rfl, .inr rfl, .inl rfl, .inr rfl, .inl rfl, trivial⟩ ?_
          exact aJ_F_asks_149 n C v5 Q h
theorem aB_F_asks_59 (n : Nat) (v0 v3 v4 : Int) (Q : Int → Cn → Prop) : ∀ (f : Nat) (z : Cn × Int), lp (B_F_asks_59 n v0 v3 v4 Q) f z → AW p l e R s m args below meth c E M_F_asks true (fun r C2 n2 => n2 = n ∧ Q r C2) n 0 0 59 [(2, v0), (9, 0), (9, 0), (2, v3), (2, v4), (0, z.2), (9, 0), (9, 0), (9, 0), (9, 0)] [] (z.1) := by
  intro f
  induction f with
  | zero => intro z h; exact False.elim h
  | succ f ih => intro z h; exact bB_F_asks_59 n v0 v3 v4 Q (lp (B_F_asks_59 n v0 v3 v4 Q) f) (fun a0 a1 h => ih (a0, a1) h) z.1 z.2 h
def P_F_asks (n : Nat) (C : Cn) (v0 v1 v2 : Int) (Q : Int → Cn → Prop) : Prop :=
  P_F_isSheet n C v1 (fun (r_1 : Int) => (r_1 = 0 → (okO n v0 9 ∧ (P_F_tell n C v0 0 (fun (r_6 : Int) (C_8 : Cn) => Q r_6 C_8)))) ∧ (¬ r_1 = 0 → (P_F_isSheet n C v2 (fun (r_11 : Int) => (r_11 = 0 → (okO n v0 9 ∧ (P_F_tell n C v0 0 (fun (r_69 : Int) (C_71 : Cn) => Q r_69 C_71)))) ∧ (¬ r_11 = 0 → (okO n v0 9 ∧ (okO n (PT v0.toNat 10) 15 ∧ (okI (PT v0.toNat 10) v1 ∧ (okI (PT v0.toNat 10) v2 ∧ (okO n (PT (PT v0.toNat 10).toNat v1.toNat) 5 ∧ (P_Sh_isMissing n C (PT (PT v0.toNat 10).toNat v1.toNat) (fun (r_20 : Int) => (r_20 = 0 → (okO n (PT (PT v0.toNat 10).toNat v2.toNat) 5 ∧ (P_Sh_isMissing n C (PT (PT v0.toNat 10).toNat v2.toNat) (fun (r_30 : Int) => (r_30 = 0 → (∃ f_64 : Nat, lp (B_F_asks_59 n v0 (PT (PT v0.toNat 10).toNat v1.toNat) (PT (PT v0.toNat 10).toNat v2.toNat) Q) f_64 (C, 0))) ∧ (¬ r_30 = 0 → (P_F_tell n C v0 5 (fun (r_65 : Int) (C_66 : Cn) => Q r_65 C_66))))))) ∧ (¬ r_20 = 0 → (P_F_tell n C v0 5 (fun (r_26 : Int) (C_27 : Cn) => Q r_26 C_27)))))))))))))))
theorem m_F_asks (l : Launch) (E : Ev) (n : Nat) (C : Cn) (v0 v1 v2 : Int) (Q : Int → Cn → Prop) (h : P_F_asks n C v0 v1 v2 Q) : MA l y_F_asks M_F_asks E true C n [(2, v0), (0, v1), (0, v2)] (fun r C2 n2 => n2 = n ∧ Q r C2) := by
  refine MA.of (by decide) rfl rfl 7 rfl (fun p e s m args below meth c => ?_)
  show AW p l e _ s m args below meth c E M_F_asks true _ n 0 0 0 [(2, v0), (0, v1), (0, v2), (9, 0), (9, 0), (9, 0), (9, 0), (9, 0), (9, 0), (9, 0)] [] C
  unfold P_F_asks at h
  refine AW.iload_n (dc hd_F_asks 0 rfl) rfl ?_
  refine AW.callS (As := [(0, v1)]) (rest := []) (m_F_isSheet l E n C v1 _ h) cb_9_310 sm_F_isSheet (dc hd_F_asks 1 rfl) rfl rfl ⟨Nat.le_of_ble_eq_true rfl, Nat.le_of_ble_eq_true rfl⟩ ⟨(Nat.le_of_ble_eq_true rfl), (Nat.le_of_ble_eq_true rfl)⟩ (Nat.le_of_ble_eq_true rfl) (fun _ h => by cases h) (fun _ => rfl) (fun r_1 D_3 d_4 q_2 => ?_)
  obtain ⟨q_2a, q_2b, h⟩ := q_2
  subst D_3
  subst d_4
  show AW p l e _ s m args below meth c E M_F_asks true _ n _ _ _ [(2, v0), (0, v1), (0, v2), (9, 0), (9, 0), (9, 0), (9, 0), (9, 0), (9, 0), (9, 0)] [(0, r_1)] C
  refine AW.if_eq (t := 14) (dc hd_F_asks 2 rfl) (by decide) (fun c_5 => ?_) (fun c_5 => ?_)
  · have h := h.1 c_5
    refine AW.ra_n (dc hd_F_asks 6 rfl) rfl rfl rfl ?_
    refine AW.iconst (dc hd_F_asks 7 rfl) (by decide) ?_
    obtain ⟨g_7, h⟩ := h
    refine AW.callV (As := [(0, 0)]) (rest := []) (ci := 9) (m_F_tell l E n C v0 0 _ h) cb_9_101 im_F_tell se_F_tell ⟨_, _, rfl⟩ (by decide) (dc hd_F_asks 8 rfl) g_7 rfl rfl ⟨Nat.le_of_ble_eq_true rfl, Nat.le_of_ble_eq_true rfl⟩ ⟨(Nat.le_of_ble_eq_true rfl), (Nat.le_of_ble_eq_true rfl)⟩ (Nat.le_of_ble_eq_true rfl) (fun _ h => by cases h) (fun _ => rfl) (fun r_6 C_8 d_10 q_9 => ?_)
    obtain ⟨q_9a, h⟩ := q_9
    subst d_10
    show AW p l e _ s m args below meth c E M_F_asks true _ n _ _ _ [(2, v0), (0, v1), (0, v2), (9, 0), (9, 0), (9, 0), (9, 0), (9, 0), (9, 0), (9, 0)] [(0, r_6)] C_8
    exact AW.iret (dc hd_F_asks 9 rfl) rfl rfl (Nat.le_of_ble_eq_true rfl) (Nat.le_of_ble_eq_true rfl) ⟨rfl, h⟩
  · have h := h.2 c_5
    refine AW.iload_n (dc hd_F_asks 3 rfl) rfl ?_
    refine AW.callS (As := [(0, v2)]) (rest := []) (m_F_isSheet l E n C v2 _ h) cb_9_310 sm_F_isSheet (dc hd_F_asks 4 rfl) rfl rfl ⟨Nat.le_of_ble_eq_true rfl, Nat.le_of_ble_eq_true rfl⟩ ⟨(Nat.le_of_ble_eq_true rfl), (Nat.le_of_ble_eq_true rfl)⟩ (Nat.le_of_ble_eq_true rfl) (fun _ h => by cases h) (fun _ => rfl) (fun r_11 D_13 d_14 q_12 => ?_)
    obtain ⟨q_12a, q_12b, h⟩ := q_12
    subst D_13
    subst d_14
    show AW p l e _ s m args below meth c E M_F_asks true _ n _ _ _ [(2, v0), (0, v1), (0, v2), (9, 0), (9, 0), (9, 0), (9, 0), (9, 0), (9, 0), (9, 0)] [(0, r_11)] C
    refine AW.if_ne (t := 20) (dc hd_F_asks 5 rfl) (by decide) (fun c_15 => ?_) (fun c_15 => ?_)
    · have h := h.2 c_15
      refine AW.ra_n (dc hd_F_asks 10 rfl) rfl rfl rfl ?_
      obtain ⟨g_16, h⟩ := h
      refine AW.getp fl_9_71 (dc hd_F_asks 11 rfl) g_16 rfl ?_
      refine AW.iload_n (dc hd_F_asks 12 rfl) rfl ?_
      obtain ⟨g_17, h⟩ := h
      obtain ⟨g_18, h⟩ := h
      refine AW.aaldp (by decide) (dc hd_F_asks 13 rfl) g_17 g_18 rfl ?_
      refine AW.rs_n [(2, v0), (0, v1), (0, v2), (2, PT (PT v0.toNat 10).toNat v1.toNat), (9, 0), (9, 0), (9, 0), (9, 0), (9, 0), (9, 0)] (dc hd_F_asks 14 rfl) (Nat.le_of_ble_eq_true rfl) rfl rfl rfl ?_
      refine AW.ra_n (dc hd_F_asks 15 rfl) rfl rfl rfl ?_
      refine AW.getp fl_9_71 (dc hd_F_asks 16 rfl) g_16 rfl ?_
      refine AW.iload_n (dc hd_F_asks 17 rfl) rfl ?_
      obtain ⟨g_19, h⟩ := h
      refine AW.aaldp (by decide) (dc hd_F_asks 18 rfl) g_17 g_19 rfl ?_
      refine AW.rs [(2, v0), (0, v1), (0, v2), (2, PT (PT v0.toNat 10).toNat v1.toNat), (2, PT (PT v0.toNat 10).toNat v2.toNat), (9, 0), (9, 0), (9, 0), (9, 0), (9, 0)] (dc hd_F_asks 19 rfl) (Nat.le_of_ble_eq_true rfl) rfl rfl rfl ?_
      refine AW.ra_n (dc hd_F_asks 20 rfl) rfl rfl rfl ?_
      obtain ⟨g_21, h⟩ := h
      refine AW.callV (As := []) (rest := []) (ci := 5) (m_Sh_isMissing l E n C (PT (PT v0.toNat 10).toNat v1.toNat) _ h) cb_9_313 im_Sh_isMissing se_Sh_isMissing ⟨_, _, rfl⟩ (by decide) (dc hd_F_asks 21 rfl) g_21 rfl rfl ⟨Nat.le_of_ble_eq_true rfl, Nat.le_of_ble_eq_true rfl⟩ ⟨(Nat.le_of_ble_eq_true rfl), (Nat.le_of_ble_eq_true rfl)⟩ (Nat.le_of_ble_eq_true rfl) (fun _ h => by cases h) (fun _ => rfl) (fun r_20 D_23 d_24 q_22 => ?_)
      obtain ⟨q_22a, q_22b, h⟩ := q_22
      subst D_23
      subst d_24
      show AW p l e _ s m args below meth c E M_F_asks true _ n _ _ _ [(2, v0), (0, v1), (0, v2), (2, PT (PT v0.toNat 10).toNat v1.toNat), (2, PT (PT v0.toNat 10).toNat v2.toNat), (9, 0), (9, 0), (9, 0), (9, 0), (9, 0)] [(0, r_20)] C
      refine AW.if_ne (t := 50) (dc hd_F_asks 22 rfl) (by decide) (fun c_25 => ?_) (fun c_25 => ?_)
      · have h := h.2 c_25
        refine AW.ra_n (dc hd_F_asks 26 rfl) rfl rfl rfl ?_
        refine AW.iconst (dc hd_F_asks 27 rfl) (by decide) ?_
        refine AW.callV (As := [(0, 5)]) (rest := []) (ci := 9) (m_F_tell l E n C v0 5 _ h) cb_9_101 im_F_tell se_F_tell ⟨_, _, rfl⟩ (by decide) (dc hd_F_asks 28 rfl) g_16 rfl rfl ⟨Nat.le_of_ble_eq_true rfl, Nat.le_of_ble_eq_true rfl⟩ ⟨(Nat.le_of_ble_eq_true rfl), (Nat.le_of_ble_eq_true rfl)⟩ (Nat.le_of_ble_eq_true rfl) (fun _ h => by cases h) (fun _ => rfl) (fun r_26 C_27 d_29 q_28 => ?_)
        obtain ⟨q_28a, h⟩ := q_28
        subst d_29
        show AW p l e _ s m args below meth c E M_F_asks true _ n _ _ _ [(2, v0), (0, v1), (0, v2), (2, PT (PT v0.toNat 10).toNat v1.toNat), (2, PT (PT v0.toNat 10).toNat v2.toNat), (9, 0), (9, 0), (9, 0), (9, 0), (9, 0)] [(0, r_26)] C_27
        exact AW.iret (dc hd_F_asks 29 rfl) rfl rfl (Nat.le_of_ble_eq_true rfl) (Nat.le_of_ble_eq_true rfl) ⟨rfl, h⟩
      · have h := h.1 c_25
        refine AW.ra (dc hd_F_asks 23 rfl) rfl rfl rfl ?_
        obtain ⟨g_31, h⟩ := h
        refine AW.callV (As := []) (rest := []) (ci := 5) (m_Sh_isMissing l E n C (PT (PT v0.toNat 10).toNat v2.toNat) _ h) cb_9_313 im_Sh_isMissing se_Sh_isMissing ⟨_, _, rfl⟩ (by decide) (dc hd_F_asks 24 rfl) g_31 rfl rfl ⟨Nat.le_of_ble_eq_true rfl, Nat.le_of_ble_eq_true rfl⟩ ⟨(Nat.le_of_ble_eq_true rfl), (Nat.le_of_ble_eq_true rfl)⟩ (Nat.le_of_ble_eq_true rfl) (fun _ h => by cases h) (fun _ => rfl) (fun r_30 D_33 d_34 q_32 => ?_)
        obtain ⟨q_32a, q_32b, h⟩ := q_32
        subst D_33
        subst d_34
        show AW p l e _ s m args below meth c E M_F_asks true _ n _ _ _ [(2, v0), (0, v1), (0, v2), (2, PT (PT v0.toNat 10).toNat v1.toNat), (2, PT (PT v0.toNat 10).toNat v2.toNat), (9, 0), (9, 0), (9, 0), (9, 0), (9, 0)] [(0, r_30)] C
        refine AW.if_eq (t := 56) (dc hd_F_asks 25 rfl) (by decide) (fun c_35 => ?_) (fun c_35 => ?_)
        · have h := h.1 c_35
          refine AW.iconst (dc hd_F_asks 30 rfl) (by decide) ?_
          refine AW.istore [(2, v0), (0, v1), (0, v2), (2, PT (PT v0.toNat 10).toNat v1.toNat), (2, PT (PT v0.toNat 10).toNat v2.toNat), (0, 0), (9, 0), (9, 0), (9, 0), (9, 0)] (dc hd_F_asks 31 rfl) (Nat.le_of_ble_eq_true rfl) rfl rfl ?_
          obtain ⟨f_64, h⟩ := h
          refine AW.fgt [(2, v0), (9, 0), (9, 0), (2, PT (PT v0.toNat 10).toNat v1.toNat), (2, PT (PT v0.toNat 10).toNat v2.toNat), (0, 0), (9, 0), (9, 0), (9, 0), (9, 0)] ⟨.inl rfl, .inr rfl, .inr rfl, .inl rfl, .inl rfl, .inl rfl, .inl rfl, .inl rfl, .inl rfl, .inl rfl, trivial⟩ ?_
          exact aB_F_asks_59 n v0 (PT (PT v0.toNat 10).toNat v1.toNat) (PT (PT v0.toNat 10).toNat v2.toNat) Q f_64 (C, 0) h
        · have h := h.2 c_35
          refine AW.ra_n (dc hd_F_asks 26 rfl) rfl rfl rfl ?_
          refine AW.iconst (dc hd_F_asks 27 rfl) (by decide) ?_
          refine AW.callV (As := [(0, 5)]) (rest := []) (ci := 9) (m_F_tell l E n C v0 5 _ h) cb_9_101 im_F_tell se_F_tell ⟨_, _, rfl⟩ (by decide) (dc hd_F_asks 28 rfl) g_16 rfl rfl ⟨Nat.le_of_ble_eq_true rfl, Nat.le_of_ble_eq_true rfl⟩ ⟨(Nat.le_of_ble_eq_true rfl), (Nat.le_of_ble_eq_true rfl)⟩ (Nat.le_of_ble_eq_true rfl) (fun _ h => by cases h) (fun _ => rfl) (fun r_65 C_66 d_68 q_67 => ?_)
          obtain ⟨q_67a, h⟩ := q_67
          subst d_68
          show AW p l e _ s m args below meth c E M_F_asks true _ n _ _ _ [(2, v0), (0, v1), (0, v2), (2, PT (PT v0.toNat 10).toNat v1.toNat), (2, PT (PT v0.toNat 10).toNat v2.toNat), (9, 0), (9, 0), (9, 0), (9, 0), (9, 0)] [(0, r_65)] C_66
          exact AW.iret (dc hd_F_asks 29 rfl) rfl rfl (Nat.le_of_ble_eq_true rfl) (Nat.le_of_ble_eq_true rfl) ⟨rfl, h⟩
    · have h := h.1 c_15
      refine AW.ra_n (dc hd_F_asks 6 rfl) rfl rfl rfl ?_
      refine AW.iconst (dc hd_F_asks 7 rfl) (by decide) ?_
      obtain ⟨g_70, h⟩ := h
      refine AW.callV (As := [(0, 0)]) (rest := []) (ci := 9) (m_F_tell l E n C v0 0 _ h) cb_9_101 im_F_tell se_F_tell ⟨_, _, rfl⟩ (by decide) (dc hd_F_asks 8 rfl) g_70 rfl rfl ⟨Nat.le_of_ble_eq_true rfl, Nat.le_of_ble_eq_true rfl⟩ ⟨(Nat.le_of_ble_eq_true rfl), (Nat.le_of_ble_eq_true rfl)⟩ (Nat.le_of_ble_eq_true rfl) (fun _ h => by cases h) (fun _ => rfl) (fun r_69 C_71 d_73 q_72 => ?_)
      obtain ⟨q_72a, h⟩ := q_72
      subst d_73
      show AW p l e _ s m args below meth c E M_F_asks true _ n _ _ _ [(2, v0), (0, v1), (0, v2), (9, 0), (9, 0), (9, 0), (9, 0), (9, 0), (9, 0), (9, 0)] [(0, r_69)] C_71
      exact AW.iret (dc hd_F_asks 9 rfl) rfl rfl (Nat.le_of_ble_eq_true rfl) (Nat.le_of_ble_eq_true rfl) ⟨rfl, h⟩
def P_F_drawn (n : Nat) (C : Cn) (v0 : Int) (Q : Int → Prop) : Prop :=
  Q (w32 (w32 (v0 * 1103515245) + 12345))
theorem m_F_drawn (l : Launch) (E : Ev) (n : Nat) (C : Cn) (v0 : Int) (Q : Int → Prop) (h : P_F_drawn n C v0 Q) : MA l y_F_drawn M_F_drawn E true C n [(0, v0)] (fun r C2 n2 => C2 = C ∧ n2 = n ∧ Q r) := by
  refine MA.of (by decide) rfl rfl 0 rfl (fun p e s m args below meth c => ?_)
  show AW p l e _ s m args below meth c E M_F_drawn true _ n 0 0 0 [(0, v0)] [] C
  unfold P_F_drawn at h
  refine AW.iload_n (dc hd_F_drawn 0 rfl) rfl ?_
  refine AW.ldc_w (v := 1103515245) (dc hd_F_drawn 1 rfl) ck_9_434 (by decide) rfl ?_
  refine AW.imul (dc hd_F_drawn 2 rfl) ?_
  refine AW.sipush (dc hd_F_drawn 3 rfl) (by decide) (by decide +kernel) ?_
  refine AW.iadd (dc hd_F_drawn 4 rfl) ?_
  exact AW.iret (dc hd_F_drawn 5 rfl) rfl rfl (Nat.le_of_ble_eq_true rfl) (Nat.le_of_ble_eq_true rfl) ⟨rfl, rfl, h⟩
def P_F_coordinateOf (n : Nat) (C : Cn) (v0 : Int) (Q : Int → Prop) : Prop :=
  Q (w32 (w32 (Int.tmod (ushr32 v0 8) 199) - 99))
theorem m_F_coordinateOf (l : Launch) (E : Ev) (n : Nat) (C : Cn) (v0 : Int) (Q : Int → Prop) (h : P_F_coordinateOf n C v0 Q) : MA l y_F_coordinateOf M_F_coordinateOf E true C n [(0, v0)] (fun r C2 n2 => C2 = C ∧ n2 = n ∧ Q r) := by
  refine MA.of (by decide) rfl rfl 0 rfl (fun p e s m args below meth c => ?_)
  show AW p l e _ s m args below meth c E M_F_coordinateOf true _ n 0 0 0 [(0, v0)] [] C
  unfold P_F_coordinateOf at h
  refine AW.iload_n (dc hd_F_coordinateOf 0 rfl) rfl ?_
  refine AW.bipush (dc hd_F_coordinateOf 1 rfl) (by decide) (by decide +kernel) ?_
  refine AW.iushr (dc hd_F_coordinateOf 2 rfl) ?_
  refine AW.sipush (dc hd_F_coordinateOf 3 rfl) (by decide) (by decide +kernel) ?_
  refine AW.irem (dc hd_F_coordinateOf 4 rfl) (by decide) ?_
  refine AW.bipush (dc hd_F_coordinateOf 5 rfl) (by decide) (by decide +kernel) ?_
  refine AW.isub (dc hd_F_coordinateOf 6 rfl) ?_
  exact AW.iret (dc hd_F_coordinateOf 7 rfl) rfl rfl (Nat.le_of_ble_eq_true rfl) (Nat.le_of_ble_eq_true rfl) ⟨rfl, rfl, h⟩
def J_F_loose_143 (n : Nat) (C : Cn) (v0 v2 v3 v5 : Int) (Q : Int → Cn → Prop) : Prop :=
  okO n v0 9 ∧ (okO n (PT v0.toNat 0) 1 ∧ (∀ C_13 : Cn, C_13 = wr C (PT v0.toNat 0).toNat 4 v2 → (∀ C_14 : Cn, C_14 = wr C_13 (PT v0.toNat 0).toNat 3 v3 → (Q v5 C_14))))
theorem aJ_F_loose_143 (n : Nat) (C : Cn) (v0 v2 v3 v5 : Int) (Q : Int → Cn → Prop) (h : J_F_loose_143 n C v0 v2 v3 v5 Q) : AW p l e R s m args below meth c E M_F_loose true (fun r C2 n2 => n2 = n ∧ Q r C2) n 0 0 143 [(2, v0), (9, 0), (0, v2), (1, v3), (9, 0), (0, v5), (9, 0), (9, 0), (9, 0), (9, 0), (9, 0)] [] C := by
  unfold J_F_loose_143 at h
  refine AW.ra_n (dc hd_F_loose 75 rfl) rfl rfl rfl ?_
  obtain ⟨g_11, h⟩ := h
  refine AW.getp fl_9_12 (dc hd_F_loose 76 rfl) g_11 rfl ?_
  refine AW.iload_n (dc hd_F_loose 77 rfl) rfl ?_
  obtain ⟨g_12, h⟩ := h
  refine AW.nputI fl_9_332 (dc hd_F_loose 78 rfl) g_12 (fun C_13 eC_13 => ?_)
  have h := h C_13 eC_13
  refine AW.ra_n (dc hd_F_loose 79 rfl) rfl rfl rfl ?_
  refine AW.getp fl_9_12 (dc hd_F_loose 80 rfl) g_11 rfl ?_
  refine AW.lload_n (dc hd_F_loose 81 rfl) rfl ?_
  refine AW.nputJ fl_9_335 (dc hd_F_loose 82 rfl) g_12 (fun C_14 eC_14 => ?_)
  have h := h C_14 eC_14
  refine AW.iload (dc hd_F_loose 83 rfl) rfl ?_
  exact AW.iret (dc hd_F_loose 84 rfl) rfl rfl (Nat.le_of_ble_eq_true rfl) (Nat.le_of_ble_eq_true rfl) ⟨rfl, h⟩
def J_F_loose_100 (n : Nat) (C : Cn) (v0 v1 v2 v3 v5 v6 v9 s0 : Int) (kz38 : Cn × Int × Int × Int × Int → Prop) (Q : Int → Cn → Prop) : Prop :=
  (v3 ≤ w64 (9223372036854775807 - s0) → ((100 ≤ v9 → (kz38 (C, v2, w64 (v3 + s0), v5, w32 (v6 + 1)))) ∧ (¬ 100 ≤ v9 → (kz38 (C, v2, w64 (v3 + s0), w32 (v5 + 1), w32 (v6 + 1)))))) ∧ (¬ v3 ≤ w64 (9223372036854775807 - s0) → (okO n v0 9 ∧ (P_F_tell n C v0 7 (fun (r_44 : Int) (C_46 : Cn) => Q r_44 C_46))))
theorem aJ_F_loose_100 (n : Nat) (C : Cn) (v0 v1 v2 v3 v5 v6 v9 s0 : Int) (kz38 : Cn × Int × Int × Int × Int → Prop) (Q : Int → Cn → Prop) (hkz38 : ∀ (Cz : Cn) (z2 : Int) (z3 : Int) (z5 : Int) (z6 : Int), kz38 (Cz, z2, z3, z5, z6) → AW p l e R s m args below meth c E M_F_loose true (fun r C2 n2 => n2 = n ∧ Q r C2) n 0 0 38 [(2, v0), (0, v1), (0, z2), (1, z3), (9, 0), (0, z5), (0, z6), (9, 0), (9, 0), (9, 0), (9, 0)] [] Cz) (h : J_F_loose_100 n C v0 v1 v2 v3 v5 v6 v9 s0 kz38 Q) : AW p l e R s m args below meth c E M_F_loose true (fun r C2 n2 => n2 = n ∧ Q r C2) n 0 0 100 [(2, v0), (0, v1), (0, v2), (1, v3), (9, 0), (0, v5), (0, v6), (9, 0), (9, 0), (0, v9), (9, 0)] [(0, s0)] C := by
  unfold J_F_loose_100 at h
  refine AW.istore [(2, v0), (0, v1), (0, v2), (1, v3), (9, 0), (0, v5), (0, v6), (9, 0), (9, 0), (0, v9), (0, s0)] (dc hd_F_loose 52 rfl) (Nat.le_of_ble_eq_true rfl) rfl rfl ?_
  refine AW.lload_n (dc hd_F_loose 53 rfl) rfl ?_
  refine AW.ldc2 (v := 9223372036854775807) (dc hd_F_loose 54 rfl) ck_9_345 (by decide) rfl ?_
  refine AW.iload (dc hd_F_loose 55 rfl) rfl ?_
  refine AW.i2l (dc hd_F_loose 56 rfl) ?_
  refine AW.lsub (dc hd_F_loose 57 rfl) ?_
  refine AW.lc (dc hd_F_loose 58 rfl) ?_
  refine AW.if_le (t := 121) (dc hd_F_loose 59 rfl) (by decide) (fun c_42 => ?_) (fun c_42 => ?_)
  · replace c_42 := (lc_le _ _).mp c_42
    have h := h.1 c_42
    refine AW.lload_n (dc hd_F_loose 64 rfl) rfl ?_
    refine AW.iload (dc hd_F_loose 65 rfl) rfl ?_
    refine AW.i2l (dc hd_F_loose 66 rfl) ?_
    refine AW.ladd (dc hd_F_loose 67 rfl) ?_
    refine AW.lstore_n [(2, v0), (0, v1), (0, v2), (1, w64 (v3 + s0)), (9, 0), (0, v5), (0, v6), (9, 0), (9, 0), (0, v9), (0, s0)] (dc hd_F_loose 68 rfl) (Nat.le_of_ble_eq_true rfl) rfl rfl ?_
    refine AW.iload (dc hd_F_loose 69 rfl) rfl ?_
    refine AW.bipush (dc hd_F_loose 70 rfl) (by decide) (by decide +kernel) ?_
    refine AW.icmp_ge (t := 137) (dc hd_F_loose 71 rfl) (by decide) (fun c_43 => ?_) (fun c_43 => ?_)
    · have h := h.1 c_43
      refine AW.iinc [(2, v0), (0, v1), (0, v2), (1, w64 (v3 + s0)), (9, 0), (0, v5), (0, w32 (v6 + 1)), (9, 0), (9, 0), (0, v9), (0, s0)] (dc hd_F_loose 73 rfl) rfl (Nat.le_of_ble_eq_true rfl) rfl rfl ?_
      refine AW.goto (t := 38) (dc hd_F_loose 74 rfl) (by decide) ?_
      refine AW.fgt [(2, v0), (0, v1), (0, v2), (1, w64 (v3 + s0)), (9, 0), (0, v5), (0, w32 (v6 + 1)), (9, 0), (9, 0), (9, 0), (9, 0)] ⟨.inl rfl, .inl rfl, .inl rfl, .inl rfl, .inl rfl, .inl rfl, .inl rfl, .inl rfl, .inl rfl, .inr rfl, .inr rfl, trivial⟩ ?_
      exact hkz38 C v2 (w64 (v3 + s0)) v5 (w32 (v6 + 1)) h
    · have h := h.2 c_43
      refine AW.iinc [(2, v0), (0, v1), (0, v2), (1, w64 (v3 + s0)), (9, 0), (0, w32 (v5 + 1)), (0, v6), (9, 0), (9, 0), (0, v9), (0, s0)] (dc hd_F_loose 72 rfl) rfl (Nat.le_of_ble_eq_true rfl) rfl rfl ?_
      refine AW.iinc [(2, v0), (0, v1), (0, v2), (1, w64 (v3 + s0)), (9, 0), (0, w32 (v5 + 1)), (0, w32 (v6 + 1)), (9, 0), (9, 0), (0, v9), (0, s0)] (dc hd_F_loose 73 rfl) rfl (Nat.le_of_ble_eq_true rfl) rfl rfl ?_
      refine AW.goto (t := 38) (dc hd_F_loose 74 rfl) (by decide) ?_
      refine AW.fgt [(2, v0), (0, v1), (0, v2), (1, w64 (v3 + s0)), (9, 0), (0, w32 (v5 + 1)), (0, w32 (v6 + 1)), (9, 0), (9, 0), (9, 0), (9, 0)] ⟨.inl rfl, .inl rfl, .inl rfl, .inl rfl, .inl rfl, .inl rfl, .inl rfl, .inl rfl, .inl rfl, .inr rfl, .inr rfl, trivial⟩ ?_
      exact hkz38 C v2 (w64 (v3 + s0)) (w32 (v5 + 1)) (w32 (v6 + 1)) h
  · replace c_42 : ¬ v3 ≤ w64 (9223372036854775807 - s0) := fun q => c_42 ((lc_le _ _).mpr q)
    have h := h.2 c_42
    refine AW.ra_n (dc hd_F_loose 60 rfl) rfl rfl rfl ?_
    refine AW.bipush (dc hd_F_loose 61 rfl) (by decide) (by decide +kernel) ?_
    obtain ⟨g_45, h⟩ := h
    refine AW.callV (As := [(0, 7)]) (rest := []) (ci := 9) (m_F_tell l E n C v0 7 _ h) cb_9_101 im_F_tell se_F_tell ⟨_, _, rfl⟩ (by decide) (dc hd_F_loose 62 rfl) g_45 rfl rfl ⟨Nat.le_of_ble_eq_true rfl, Nat.le_of_ble_eq_true rfl⟩ ⟨(Nat.le_of_ble_eq_true rfl), (Nat.le_of_ble_eq_true rfl)⟩ (Nat.le_of_ble_eq_true rfl) (fun _ h => by cases h) (fun _ => rfl) (fun r_44 C_46 d_48 q_47 => ?_)
    obtain ⟨q_47a, h⟩ := q_47
    subst d_48
    show AW p l e _ s m args below meth c E M_F_loose true _ n _ _ _ [(2, v0), (0, v1), (0, v2), (1, v3), (9, 0), (0, v5), (0, v6), (9, 0), (9, 0), (0, v9), (0, s0)] [(0, r_44)] C_46
    exact AW.iret (dc hd_F_loose 63 rfl) rfl rfl (Nat.le_of_ble_eq_true rfl) (Nat.le_of_ble_eq_true rfl) ⟨rfl, h⟩
def B_F_loose_38 (n : Nat) (v0 v1 : Int) (Q : Int → Cn → Prop) (kz38 : Cn × Int × Int × Int × Int → Prop) (z : Cn × Int × Int × Int × Int) : Prop := match z with
  | (C, v2, v3, v5, v6) => (v1 ≤ v6 → (J_F_loose_143 n C v0 v2 v3 v5 Q)) ∧ (¬ v1 ≤ v6 → (P_F_drawn n C v2 (fun (r_15 : Int) => P_F_coordinateOf n C r_15 (fun (r_19 : Int) => P_F_drawn n C r_15 (fun (r_23 : Int) => P_F_coordinateOf n C r_23 (fun (r_27 : Int) => okO n v0 9 ∧ (okO n (PT v0.toNat 3) 2 ∧ (P_La_thingAt n C (PT v0.toNat 3) (PT v0.toNat 0) r_19 r_27 (fun (r_32 : Int) => (r_32 < 100 → (P_F_stepsOfCell n C v0 r_32 (fun (r_38 : Int) (C_39 : Cn) => J_F_loose_100 n C_39 v0 v1 r_23 v3 v5 v6 r_32 r_38 kz38 Q))) ∧ (¬ r_32 < 100 → (J_F_loose_100 n C v0 v1 r_23 v3 v5 v6 r_32 1 kz38 Q)))))))))))
theorem bB_F_loose_38 (n : Nat) (v0 v1 : Int) (Q : Int → Cn → Prop) (kz38 : Cn × Int × Int × Int × Int → Prop) (hkz38 : ∀ (Cz : Cn) (z2 : Int) (z3 : Int) (z5 : Int) (z6 : Int), kz38 (Cz, z2, z3, z5, z6) → AW p l e R s m args below meth c E M_F_loose true (fun r C2 n2 => n2 = n ∧ Q r C2) n 0 0 38 [(2, v0), (0, v1), (0, z2), (1, z3), (9, 0), (0, z5), (0, z6), (9, 0), (9, 0), (9, 0), (9, 0)] [] Cz) (C : Cn) (v2 : Int) (v3 : Int) (v5 : Int) (v6 : Int) (h : B_F_loose_38 n v0 v1 Q kz38 (C, v2, v3, v5, v6)) : AW p l e R s m args below meth c E M_F_loose true (fun r C2 n2 => n2 = n ∧ Q r C2) n 0 0 38 [(2, v0), (0, v1), (0, v2), (1, v3), (9, 0), (0, v5), (0, v6), (9, 0), (9, 0), (9, 0), (9, 0)] [] C := by
  unfold B_F_loose_38 at h
  dsimp only at h
  refine AW.iload (dc hd_F_loose 21 rfl) rfl ?_
  refine AW.iload_n (dc hd_F_loose 22 rfl) rfl ?_
  refine AW.icmp_ge (t := 143) (dc hd_F_loose 23 rfl) (by decide) (fun c_10 => ?_) (fun c_10 => ?_)
  · have h := h.1 c_10
    refine AW.fgt [(2, v0), (9, 0), (0, v2), (1, v3), (9, 0), (0, v5), (9, 0), (9, 0), (9, 0), (9, 0), (9, 0)] ⟨.inl rfl, .inr rfl, .inl rfl, .inl rfl, .inl rfl, .inl rfl, .inr rfl, .inl rfl, .inl rfl, .inl rfl, .inl rfl, trivial⟩ ?_
    exact aJ_F_loose_143 n C v0 v2 v3 v5 Q h
  · have h := h.2 c_10
    refine AW.iload_n (dc hd_F_loose 24 rfl) rfl ?_
    refine AW.callS (As := [(0, v2)]) (rest := []) (m_F_drawn l E n C v2 _ h) cb_9_339 sm_F_drawn (dc hd_F_loose 25 rfl) rfl rfl ⟨Nat.le_of_ble_eq_true rfl, Nat.le_of_ble_eq_true rfl⟩ ⟨(Nat.le_of_ble_eq_true rfl), (Nat.le_of_ble_eq_true rfl)⟩ (Nat.le_of_ble_eq_true rfl) (fun _ h => by cases h) (fun _ => rfl) (fun r_15 D_17 d_18 q_16 => ?_)
    obtain ⟨q_16a, q_16b, h⟩ := q_16
    subst D_17
    subst d_18
    show AW p l e _ s m args below meth c E M_F_loose true _ n _ _ _ [(2, v0), (0, v1), (0, v2), (1, v3), (9, 0), (0, v5), (0, v6), (9, 0), (9, 0), (9, 0), (9, 0)] [(0, r_15)] C
    refine AW.istore_n [(2, v0), (0, v1), (0, r_15), (1, v3), (9, 0), (0, v5), (0, v6), (9, 0), (9, 0), (9, 0), (9, 0)] (dc hd_F_loose 26 rfl) (Nat.le_of_ble_eq_true rfl) rfl rfl ?_
    refine AW.iload_n (dc hd_F_loose 27 rfl) rfl ?_
    refine AW.callS (As := [(0, r_15)]) (rest := []) (m_F_coordinateOf l E n C r_15 _ h) cb_9_342 sm_F_coordinateOf (dc hd_F_loose 28 rfl) rfl rfl ⟨Nat.le_of_ble_eq_true rfl, Nat.le_of_ble_eq_true rfl⟩ ⟨(Nat.le_of_ble_eq_true rfl), (Nat.le_of_ble_eq_true rfl)⟩ (Nat.le_of_ble_eq_true rfl) (fun _ h => by cases h) (fun _ => rfl) (fun r_19 D_21 d_22 q_20 => ?_)
    obtain ⟨q_20a, q_20b, h⟩ := q_20
    subst D_21
    subst d_22
    show AW p l e _ s m args below meth c E M_F_loose true _ n _ _ _ [(2, v0), (0, v1), (0, r_15), (1, v3), (9, 0), (0, v5), (0, v6), (9, 0), (9, 0), (9, 0), (9, 0)] [(0, r_19)] C
    refine AW.istore [(2, v0), (0, v1), (0, r_15), (1, v3), (9, 0), (0, v5), (0, v6), (0, r_19), (9, 0), (9, 0), (9, 0)] (dc hd_F_loose 29 rfl) (Nat.le_of_ble_eq_true rfl) rfl rfl ?_
    refine AW.iload_n (dc hd_F_loose 30 rfl) rfl ?_
    refine AW.callS (As := [(0, r_15)]) (rest := []) (m_F_drawn l E n C r_15 _ h) cb_9_339 sm_F_drawn (dc hd_F_loose 31 rfl) rfl rfl ⟨Nat.le_of_ble_eq_true rfl, Nat.le_of_ble_eq_true rfl⟩ ⟨(Nat.le_of_ble_eq_true rfl), (Nat.le_of_ble_eq_true rfl)⟩ (Nat.le_of_ble_eq_true rfl) (fun _ h => by cases h) (fun _ => rfl) (fun r_23 D_25 d_26 q_24 => ?_)
    obtain ⟨q_24a, q_24b, h⟩ := q_24
    subst D_25
    subst d_26
    show AW p l e _ s m args below meth c E M_F_loose true _ n _ _ _ [(2, v0), (0, v1), (0, r_15), (1, v3), (9, 0), (0, v5), (0, v6), (0, r_19), (9, 0), (9, 0), (9, 0)] [(0, r_23)] C
    refine AW.istore_n [(2, v0), (0, v1), (0, r_23), (1, v3), (9, 0), (0, v5), (0, v6), (0, r_19), (9, 0), (9, 0), (9, 0)] (dc hd_F_loose 32 rfl) (Nat.le_of_ble_eq_true rfl) rfl rfl ?_
    refine AW.iload_n (dc hd_F_loose 33 rfl) rfl ?_
    refine AW.callS (As := [(0, r_23)]) (rest := []) (m_F_coordinateOf l E n C r_23 _ h) cb_9_342 sm_F_coordinateOf (dc hd_F_loose 34 rfl) rfl rfl ⟨Nat.le_of_ble_eq_true rfl, Nat.le_of_ble_eq_true rfl⟩ ⟨(Nat.le_of_ble_eq_true rfl), (Nat.le_of_ble_eq_true rfl)⟩ (Nat.le_of_ble_eq_true rfl) (fun _ h => by cases h) (fun _ => rfl) (fun r_27 D_29 d_30 q_28 => ?_)
    obtain ⟨q_28a, q_28b, h⟩ := q_28
    subst D_29
    subst d_30
    show AW p l e _ s m args below meth c E M_F_loose true _ n _ _ _ [(2, v0), (0, v1), (0, r_23), (1, v3), (9, 0), (0, v5), (0, v6), (0, r_19), (9, 0), (9, 0), (9, 0)] [(0, r_27)] C
    refine AW.istore [(2, v0), (0, v1), (0, r_23), (1, v3), (9, 0), (0, v5), (0, v6), (0, r_19), (0, r_27), (9, 0), (9, 0)] (dc hd_F_loose 35 rfl) (Nat.le_of_ble_eq_true rfl) rfl rfl ?_
    refine AW.ra_n (dc hd_F_loose 36 rfl) rfl rfl rfl ?_
    obtain ⟨g_31, h⟩ := h
    refine AW.getp fl_9_25 (dc hd_F_loose 37 rfl) g_31 rfl ?_
    refine AW.ra_n (dc hd_F_loose 38 rfl) rfl rfl rfl ?_
    refine AW.getp fl_9_12 (dc hd_F_loose 39 rfl) g_31 rfl ?_
    refine AW.iload (dc hd_F_loose 40 rfl) rfl ?_
    refine AW.iload (dc hd_F_loose 41 rfl) rfl ?_
    obtain ⟨g_33, h⟩ := h
    refine AW.callV (As := [(2, PT v0.toNat 0), (0, r_19), (0, r_27)]) (rest := []) (ci := 2) (m_La_thingAt l E n C (PT v0.toNat 3) (PT v0.toNat 0) r_19 r_27 _ h) cb_9_229 im_La_thingAt se_La_thingAt ⟨_, _, rfl⟩ (by decide) (dc hd_F_loose 42 rfl) g_33 rfl rfl ⟨Nat.le_of_ble_eq_true rfl, Nat.le_of_ble_eq_true rfl⟩ ⟨(Nat.le_of_ble_eq_true rfl), (Nat.le_of_ble_eq_true rfl)⟩ (Nat.le_of_ble_eq_true rfl) (fun _ h => by cases h) (fun _ => rfl) (fun r_32 D_35 d_36 q_34 => ?_)
    obtain ⟨q_34a, q_34b, h⟩ := q_34
    subst D_35
    subst d_36
    show AW p l e _ s m args below meth c E M_F_loose true _ n _ _ _ [(2, v0), (0, v1), (0, r_23), (1, v3), (9, 0), (0, v5), (0, v6), (0, r_19), (0, r_27), (9, 0), (9, 0)] [(0, r_32)] C
    refine AW.istore [(2, v0), (0, v1), (0, r_23), (1, v3), (9, 0), (0, v5), (0, v6), (0, r_19), (0, r_27), (0, r_32), (9, 0)] (dc hd_F_loose 43 rfl) (Nat.le_of_ble_eq_true rfl) rfl rfl ?_
    refine AW.iload (dc hd_F_loose 44 rfl) rfl ?_
    refine AW.bipush (dc hd_F_loose 45 rfl) (by decide) (by decide +kernel) ?_
    refine AW.icmp_lt (t := 94) (dc hd_F_loose 46 rfl) (by decide) (fun c_37 => ?_) (fun c_37 => ?_)
    · have h := h.1 c_37
      refine AW.ra_n (dc hd_F_loose 49 rfl) rfl rfl rfl ?_
      refine AW.iload (dc hd_F_loose 50 rfl) rfl ?_
      refine AW.callV (As := [(0, r_32)]) (rest := []) (ci := 9) (m_F_stepsOfCell l E n C v0 r_32 _ h) cb_9_243 im_F_stepsOfCell se_F_stepsOfCell ⟨_, _, rfl⟩ (by decide) (dc hd_F_loose 51 rfl) g_31 rfl rfl ⟨Nat.le_of_ble_eq_true rfl, Nat.le_of_ble_eq_true rfl⟩ ⟨(Nat.le_of_ble_eq_true rfl), (Nat.le_of_ble_eq_true rfl)⟩ (Nat.le_of_ble_eq_true rfl) (fun _ h => by cases h) (fun _ => rfl) (fun r_38 C_39 d_41 q_40 => ?_)
      obtain ⟨q_40a, h⟩ := q_40
      subst d_41
      show AW p l e _ s m args below meth c E M_F_loose true _ n _ _ _ [(2, v0), (0, v1), (0, r_23), (1, v3), (9, 0), (0, v5), (0, v6), (0, r_19), (0, r_27), (0, r_32), (9, 0)] [(0, r_38)] C_39
      refine AW.fgt [(2, v0), (0, v1), (0, r_23), (1, v3), (9, 0), (0, v5), (0, v6), (9, 0), (9, 0), (0, r_32), (9, 0)] ⟨.inl rfl, .inl rfl, .inl rfl, .inl rfl, .inl rfl, .inl rfl, .inl rfl, .inr rfl, .inr rfl, .inl rfl, .inl rfl, trivial⟩ ?_
      exact aJ_F_loose_100 n C_39 v0 v1 r_23 v3 v5 v6 r_32 r_38 kz38 Q hkz38 h
    · have h := h.2 c_37
      refine AW.iconst (dc hd_F_loose 47 rfl) (by decide) ?_
      refine AW.goto (t := 100) (dc hd_F_loose 48 rfl) (by decide) ?_
      refine AW.fgt [(2, v0), (0, v1), (0, r_23), (1, v3), (9, 0), (0, v5), (0, v6), (9, 0), (9, 0), (0, r_32), (9, 0)] ⟨.inl rfl, .inl rfl, .inl rfl, .inl rfl, .inl rfl, .inl rfl, .inl rfl, .inr rfl, .inr rfl, .inl rfl, .inl rfl, trivial⟩ ?_
      exact aJ_F_loose_100 n C v0 v1 r_23 v3 v5 v6 r_32 1 kz38 Q hkz38 h
theorem aB_F_loose_38 (n : Nat) (v0 v1 : Int) (Q : Int → Cn → Prop) : ∀ (f : Nat) (z : Cn × Int × Int × Int × Int), lp (B_F_loose_38 n v0 v1 Q) f z → AW p l e R s m args below meth c E M_F_loose true (fun r C2 n2 => n2 = n ∧ Q r C2) n 0 0 38 [(2, v0), (0, v1), (0, z.2.1), (1, z.2.2.1), (9, 0), (0, z.2.2.2.1), (0, z.2.2.2.2), (9, 0), (9, 0), (9, 0), (9, 0)] [] (z.1) := by
  intro f
  induction f with
  | zero => intro z h; exact False.elim h
  | succ f ih => intro z h; exact bB_F_loose_38 n v0 v1 Q (lp (B_F_loose_38 n v0 v1 Q) f) (fun a0 a1 a2 a3 a4 h => ih (a0, a1, a2, a3, a4) h) z.1 z.2.1 z.2.2.1 z.2.2.2.1 z.2.2.2.2 h
def P_F_loose (n : Nat) (C : Cn) (v0 v1 : Int) (Q : Int → Cn → Prop) : Prop :=
  P_F_isIn n C v1 1 20 (fun (r_1 : Int) => (r_1 = 0 → (okO n v0 9 ∧ (P_F_tell n C v0 0 (fun (r_50 : Int) (C_52 : Cn) => Q r_50 C_52)))) ∧ (¬ r_1 = 0 → (okO n v0 9 ∧ (okO n (PT v0.toNat 0) 1 ∧ (∀ v2_8 : Int, v2_8 = C (PT v0.toNat 0).toNat 4 → (∀ v3_9 : Int, v3_9 = C (PT v0.toNat 0).toNat 3 → (∃ f_49 : Nat, lp (B_F_loose_38 n v0 v1 Q) f_49 (C, v2_8, v3_9, 0, 0))))))))
theorem m_F_loose (l : Launch) (E : Ev) (n : Nat) (C : Cn) (v0 v1 : Int) (Q : Int → Cn → Prop) (h : P_F_loose n C v0 v1 Q) : MA l y_F_loose M_F_loose E true C n [(2, v0), (0, v1)] (fun r C2 n2 => n2 = n ∧ Q r C2) := by
  refine MA.of (by decide) rfl rfl 9 rfl (fun p e s m args below meth c => ?_)
  show AW p l e _ s m args below meth c E M_F_loose true _ n 0 0 0 [(2, v0), (0, v1), (9, 0), (9, 0), (9, 0), (9, 0), (9, 0), (9, 0), (9, 0), (9, 0), (9, 0)] [] C
  unfold P_F_loose at h
  refine AW.iload_n (dc hd_F_loose 0 rfl) rfl ?_
  refine AW.iconst (dc hd_F_loose 1 rfl) (by decide) ?_
  refine AW.bipush (dc hd_F_loose 2 rfl) (by decide) (by decide +kernel) ?_
  refine AW.callS (As := [(0, v1), (0, 1), (0, 20)]) (rest := []) (m_F_isIn l E n C v1 1 20 _ h) cb_9_167 sm_F_isIn (dc hd_F_loose 3 rfl) rfl rfl ⟨Nat.le_of_ble_eq_true rfl, Nat.le_of_ble_eq_true rfl⟩ ⟨(Nat.le_of_ble_eq_true rfl), (Nat.le_of_ble_eq_true rfl)⟩ (Nat.le_of_ble_eq_true rfl) (fun _ h => by cases h) (fun _ => rfl) (fun r_1 D_3 d_4 q_2 => ?_)
  obtain ⟨q_2a, q_2b, h⟩ := q_2
  subst D_3
  subst d_4
  show AW p l e _ s m args below meth c E M_F_loose true _ n _ _ _ [(2, v0), (0, v1), (9, 0), (9, 0), (9, 0), (9, 0), (9, 0), (9, 0), (9, 0), (9, 0), (9, 0)] [(0, r_1)] C
  refine AW.if_ne (t := 16) (dc hd_F_loose 4 rfl) (by decide) (fun c_5 => ?_) (fun c_5 => ?_)
  · have h := h.2 c_5
    refine AW.ra_n (dc hd_F_loose 9 rfl) rfl rfl rfl ?_
    obtain ⟨g_6, h⟩ := h
    refine AW.getp fl_9_12 (dc hd_F_loose 10 rfl) g_6 rfl ?_
    obtain ⟨g_7, h⟩ := h
    refine AW.getf fl_9_332 (dc hd_F_loose 11 rfl) g_7 ?_
    refine AW.nm (fun v2_8 ev2_8 => ?_)
    have h := h v2_8 ev2_8
    refine AW.istore_n [(2, v0), (0, v1), (0, v2_8), (9, 0), (9, 0), (9, 0), (9, 0), (9, 0), (9, 0), (9, 0), (9, 0)] (dc hd_F_loose 12 rfl) (Nat.le_of_ble_eq_true rfl) rfl rfl ?_
    refine AW.ra_n (dc hd_F_loose 13 rfl) rfl rfl rfl ?_
    refine AW.getp fl_9_12 (dc hd_F_loose 14 rfl) g_6 rfl ?_
    refine AW.getf fl_9_335 (dc hd_F_loose 15 rfl) g_7 ?_
    refine AW.nm (fun v3_9 ev3_9 => ?_)
    have h := h v3_9 ev3_9
    refine AW.lstore_n [(2, v0), (0, v1), (0, v2_8), (1, v3_9), (9, 0), (9, 0), (9, 0), (9, 0), (9, 0), (9, 0), (9, 0)] (dc hd_F_loose 16 rfl) (Nat.le_of_ble_eq_true rfl) rfl rfl ?_
    refine AW.iconst (dc hd_F_loose 17 rfl) (by decide) ?_
    refine AW.istore [(2, v0), (0, v1), (0, v2_8), (1, v3_9), (9, 0), (0, 0), (9, 0), (9, 0), (9, 0), (9, 0), (9, 0)] (dc hd_F_loose 18 rfl) (Nat.le_of_ble_eq_true rfl) rfl rfl ?_
    refine AW.iconst (dc hd_F_loose 19 rfl) (by decide) ?_
    refine AW.istore [(2, v0), (0, v1), (0, v2_8), (1, v3_9), (9, 0), (0, 0), (0, 0), (9, 0), (9, 0), (9, 0), (9, 0)] (dc hd_F_loose 20 rfl) (Nat.le_of_ble_eq_true rfl) rfl rfl ?_
    obtain ⟨f_49, h⟩ := h
    exact aB_F_loose_38 n v0 v1 Q f_49 (C, v2_8, v3_9, 0, 0) h
  · have h := h.1 c_5
    refine AW.ra_n (dc hd_F_loose 5 rfl) rfl rfl rfl ?_
    refine AW.iconst (dc hd_F_loose 6 rfl) (by decide) ?_
    obtain ⟨g_51, h⟩ := h
    refine AW.callV (As := [(0, 0)]) (rest := []) (ci := 9) (m_F_tell l E n C v0 0 _ h) cb_9_101 im_F_tell se_F_tell ⟨_, _, rfl⟩ (by decide) (dc hd_F_loose 7 rfl) g_51 rfl rfl ⟨Nat.le_of_ble_eq_true rfl, Nat.le_of_ble_eq_true rfl⟩ ⟨(Nat.le_of_ble_eq_true rfl), (Nat.le_of_ble_eq_true rfl)⟩ (Nat.le_of_ble_eq_true rfl) (fun _ h => by cases h) (fun _ => rfl) (fun r_50 C_52 d_54 q_53 => ?_)
    obtain ⟨q_53a, h⟩ := q_53
    subst d_54
    show AW p l e _ s m args below meth c E M_F_loose true _ n _ _ _ [(2, v0), (0, v1), (9, 0), (9, 0), (9, 0), (9, 0), (9, 0), (9, 0), (9, 0), (9, 0), (9, 0)] [(0, r_50)] C_52
    exact AW.iret (dc hd_F_loose 8 rfl) rfl rfl (Nat.le_of_ble_eq_true rfl) (Nat.le_of_ble_eq_true rfl) ⟨rfl, h⟩
def P_F_tellLong (n : Nat) (C : Cn) (v0 v1 : Int) (Q : Int → Cn → Prop) : Prop :=
  okO n v0 9 ∧ (okO n (PT v0.toNat 13) 12 ∧ (okI (PT v0.toNat 13) v1 ∧ (∀ C_4 : Cn, C_4 = wr C (PT v0.toNat 13).toNat v1.toNat (w32 (C (PT v0.toNat 13).toNat v1.toNat + 1)) → (Q (w64 ((-1000000000000000001) - v1)) C_4))))
theorem m_F_tellLong (l : Launch) (E : Ev) (n : Nat) (C : Cn) (v0 v1 : Int) (Q : Int → Cn → Prop) (h : P_F_tellLong n C v0 v1 Q) : MA l y_F_tellLong M_F_tellLong E true C n [(2, v0), (0, v1)] (fun r C2 n2 => n2 = n ∧ Q r C2) := by
  refine MA.of (by decide) rfl rfl 0 rfl (fun p e s m args below meth c => ?_)
  show AW p l e _ s m args below meth c E M_F_tellLong true _ n 0 0 0 [(2, v0), (0, v1)] [] C
  unfold P_F_tellLong at h
  refine AW.ra_n (dc hd_F_tellLong 0 rfl) rfl rfl rfl ?_
  obtain ⟨g_1, h⟩ := h
  refine AW.getp fl_9_86 (dc hd_F_tellLong 1 rfl) g_1 rfl ?_
  refine AW.iload_n (dc hd_F_tellLong 2 rfl) rfl ?_
  refine AW.rdup2 (dc hd_F_tellLong 3 rfl) rfl rfl ?_
  obtain ⟨g_2, h⟩ := h
  obtain ⟨g_3, h⟩ := h
  refine AW.iald (dc hd_F_tellLong 4 rfl) g_2 g_3 ?_
  refine AW.iconst (dc hd_F_tellLong 5 rfl) (by decide) ?_
  refine AW.iadd (dc hd_F_tellLong 6 rfl) ?_
  refine AW.niast (dc hd_F_tellLong 7 rfl) g_2 g_3 (fun C_4 eC_4 => ?_)
  have h := h C_4 eC_4
  refine AW.ldc2 (v := -1000000000000000001) (dc hd_F_tellLong 8 rfl) ck_9_422 (by decide) rfl ?_
  refine AW.iload_n (dc hd_F_tellLong 9 rfl) rfl ?_
  refine AW.i2l (dc hd_F_tellLong 10 rfl) ?_
  refine AW.lsub (dc hd_F_tellLong 11 rfl) ?_
  exact AW.lret (dc hd_F_tellLong 12 rfl) rfl rfl (Nat.le_of_ble_eq_true rfl) (Nat.le_of_ble_eq_true rfl) ⟨rfl, h⟩
def J_F_sumIsOver_39 (n : Nat) (C : Cn) (s0 : Int) (Q : Int → Prop) : Prop :=
  (s0 = 0 ∨ s0 = 1) ∧ (Q s0)
theorem aJ_F_sumIsOver_39 (n : Nat) (C : Cn) (s0 : Int) (Q : Int → Prop) (h : J_F_sumIsOver_39 n C s0 Q) : AW p l e R s m args below meth c E M_F_sumIsOver true (fun r C2 n2 => C2 = C ∧ n2 = n ∧ Q r) n 0 0 39 [(9, 0), (9, 0), (9, 0), (9, 0)] [(0, s0)] C := by
  unfold J_F_sumIsOver_39 at h
  obtain ⟨g_3, h⟩ := h
  exact AW.zret (dc hd_F_sumIsOver 23 rfl) rfl rfl (Nat.le_of_ble_eq_true rfl) (Nat.le_of_ble_eq_true rfl) g_3 ⟨rfl, rfl, h⟩
def P_F_sumIsOver (n : Nat) (C : Cn) (v0 v2 : Int) (Q : Int → Prop) : Prop :=
  (v2 ≤ 0 → (J_F_sumIsOver_39 n C (if w64 ((-9223372036854775808) - v2) ≤ v0 then 0 else 1) Q)) ∧ (¬ v2 ≤ 0 → (J_F_sumIsOver_39 n C (if v0 ≤ w64 (9223372036854775807 - v2) then 0 else 1) Q))
theorem m_F_sumIsOver (l : Launch) (E : Ev) (n : Nat) (C : Cn) (v0 v2 : Int) (Q : Int → Prop) (h : P_F_sumIsOver n C v0 v2 Q) : MA l y_F_sumIsOver M_F_sumIsOver E true C n [(1, v0), (1, v2)] (fun r C2 n2 => C2 = C ∧ n2 = n ∧ Q r) := by
  refine MA.of (by decide) rfl rfl 0 rfl (fun p e s m args below meth c => ?_)
  show AW p l e _ s m args below meth c E M_F_sumIsOver true _ n 0 0 0 [(1, v0), (9, 0), (1, v2), (9, 0)] [] C
  unfold P_F_sumIsOver at h
  refine AW.lload_n (dc hd_F_sumIsOver 0 rfl) rfl ?_
  refine AW.lconst (v := 0) (dc hd_F_sumIsOver 1 rfl) (by decide) (by decide +kernel) ?_
  refine AW.lc (dc hd_F_sumIsOver 2 rfl) ?_
  refine AW.if_le (t := 24) (dc hd_F_sumIsOver 3 rfl) (by decide) (fun c_1 => ?_) (fun c_1 => ?_)
  · replace c_1 := (lc_le _ _).mp c_1
    have h := h.1 c_1
    refine AW.lload_n (dc hd_F_sumIsOver 14 rfl) rfl ?_
    refine AW.ldc2 (v := -9223372036854775808) (dc hd_F_sumIsOver 15 rfl) ck_9_435 (by decide) rfl ?_
    refine AW.lload_n (dc hd_F_sumIsOver 16 rfl) rfl ?_
    refine AW.lsub (dc hd_F_sumIsOver 17 rfl) ?_
    refine AW.lc (dc hd_F_sumIsOver 18 rfl) ?_
    refine AW.if_ge (t := 38) (dc hd_F_sumIsOver 19 rfl) (by decide) (fun c_2 => ?_) (fun c_2 => ?_)
    · replace c_2 := (lc_ge _ _).mp c_2
      simp only [if_pos (show w64 ((-9223372036854775808) - v2) ≤ v0 from c_2)] at h
      refine AW.iconst (dc hd_F_sumIsOver 22 rfl) (by decide) ?_
      refine AW.fgt [(9, 0), (9, 0), (9, 0), (9, 0)] ⟨.inr rfl, .inl rfl, .inr rfl, .inl rfl, trivial⟩ ?_
      exact aJ_F_sumIsOver_39 n C _ Q h
    · replace c_2 : ¬ w64 ((-9223372036854775808) - v2) ≤ v0 := fun q => c_2 ((lc_ge _ _).mpr q)
      simp only [if_neg (show ¬ (w64 ((-9223372036854775808) - v2) ≤ v0) from c_2)] at h
      refine AW.iconst (dc hd_F_sumIsOver 20 rfl) (by decide) ?_
      refine AW.goto (t := 39) (dc hd_F_sumIsOver 21 rfl) (by decide) ?_
      refine AW.fgt [(9, 0), (9, 0), (9, 0), (9, 0)] ⟨.inr rfl, .inl rfl, .inr rfl, .inl rfl, trivial⟩ ?_
      exact aJ_F_sumIsOver_39 n C _ Q h
  · replace c_1 : ¬ v2 ≤ 0 := fun q => c_1 ((lc_le _ _).mpr q)
    have h := h.2 c_1
    refine AW.lload_n (dc hd_F_sumIsOver 4 rfl) rfl ?_
    refine AW.ldc2 (v := 9223372036854775807) (dc hd_F_sumIsOver 5 rfl) ck_9_345 (by decide) rfl ?_
    refine AW.lload_n (dc hd_F_sumIsOver 6 rfl) rfl ?_
    refine AW.lsub (dc hd_F_sumIsOver 7 rfl) ?_
    refine AW.lc (dc hd_F_sumIsOver 8 rfl) ?_
    refine AW.if_le (t := 20) (dc hd_F_sumIsOver 9 rfl) (by decide) (fun c_4 => ?_) (fun c_4 => ?_)
    · replace c_4 := (lc_le _ _).mp c_4
      simp only [if_pos (show v0 ≤ w64 (9223372036854775807 - v2) from c_4)] at h
      refine AW.iconst (dc hd_F_sumIsOver 12 rfl) (by decide) ?_
      refine AW.goto (t := 39) (dc hd_F_sumIsOver 13 rfl) (by decide) ?_
      refine AW.fgt [(9, 0), (9, 0), (9, 0), (9, 0)] ⟨.inr rfl, .inl rfl, .inr rfl, .inl rfl, trivial⟩ ?_
      exact aJ_F_sumIsOver_39 n C _ Q h
    · replace c_4 : ¬ v0 ≤ w64 (9223372036854775807 - v2) := fun q => c_4 ((lc_le _ _).mpr q)
      simp only [if_neg (show ¬ (v0 ≤ w64 (9223372036854775807 - v2)) from c_4)] at h
      refine AW.iconst (dc hd_F_sumIsOver 10 rfl) (by decide) ?_
      refine AW.goto (t := 39) (dc hd_F_sumIsOver 11 rfl) (by decide) ?_
      refine AW.fgt [(9, 0), (9, 0), (9, 0), (9, 0)] ⟨.inr rfl, .inl rfl, .inr rfl, .inl rfl, trivial⟩ ?_
      exact aJ_F_sumIsOver_39 n C _ Q h
def J_F_productIsOver_73 (n : Nat) (C : Cn) (s0 : Int) (Q : Int → Prop) : Prop :=
  (s0 = 0 ∨ s0 = 1) ∧ (Q s0)
theorem aJ_F_productIsOver_73 (n : Nat) (C : Cn) (s0 : Int) (Q : Int → Prop) (h : J_F_productIsOver_73 n C s0 Q) : AW p l e R s m args below meth c E M_F_productIsOver true (fun r C2 n2 => C2 = C ∧ n2 = n ∧ Q r) n 0 0 73 [(9, 0), (9, 0), (9, 0), (9, 0)] [(0, s0)] C := by
  unfold J_F_productIsOver_73 at h
  obtain ⟨g_7, h⟩ := h
  exact AW.zret (dc hd_F_productIsOver 45 rfl) rfl rfl (Nat.le_of_ble_eq_true rfl) (Nat.le_of_ble_eq_true rfl) g_7 ⟨rfl, rfl, h⟩
def J_F_productIsOver_57 (n : Nat) (C : Cn) (s0 : Int) (Q : Int → Prop) : Prop :=
  (s0 = 0 ∨ s0 = 1) ∧ (Q s0)
theorem aJ_F_productIsOver_57 (n : Nat) (C : Cn) (s0 : Int) (Q : Int → Prop) (h : J_F_productIsOver_57 n C s0 Q) : AW p l e R s m args below meth c E M_F_productIsOver true (fun r C2 n2 => C2 = C ∧ n2 = n ∧ Q r) n 0 0 57 [(9, 0), (9, 0), (9, 0), (9, 0)] [(0, s0)] C := by
  unfold J_F_productIsOver_57 at h
  obtain ⟨g_9, h⟩ := h
  exact AW.zret (dc hd_F_productIsOver 33 rfl) rfl rfl (Nat.le_of_ble_eq_true rfl) (Nat.le_of_ble_eq_true rfl) g_9 ⟨rfl, rfl, h⟩
def J_F_productIsOver_35 (n : Nat) (C : Cn) (s0 : Int) (Q : Int → Prop) : Prop :=
  (s0 = 0 ∨ s0 = 1) ∧ (Q s0)
theorem aJ_F_productIsOver_35 (n : Nat) (C : Cn) (s0 : Int) (Q : Int → Prop) (h : J_F_productIsOver_35 n C s0 Q) : AW p l e R s m args below meth c E M_F_productIsOver true (fun r C2 n2 => C2 = C ∧ n2 = n ∧ Q r) n 0 0 35 [(9, 0), (9, 0), (9, 0), (9, 0)] [(0, s0)] C := by
  unfold J_F_productIsOver_35 at h
  obtain ⟨g_11, h⟩ := h
  exact AW.zret (dc hd_F_productIsOver 21 rfl) rfl rfl (Nat.le_of_ble_eq_true rfl) (Nat.le_of_ble_eq_true rfl) g_11 ⟨rfl, rfl, h⟩
def P_F_productIsOver (n : Nat) (C : Cn) (v0 v2 : Int) (Q : Int → Prop) : Prop :=
  (v0 = 0 → (Q 0)) ∧ (¬ v0 = 0 → ((v2 = 0 → (Q 0)) ∧ (¬ v2 = 0 → ((v0 = (-1) → (J_F_productIsOver_35 n C (if v2 = (-9223372036854775808) then 1 else 0) Q)) ∧ (¬ v0 = (-1) → ((v2 = (-1) → (J_F_productIsOver_57 n C (if v0 = (-9223372036854775808) then 1 else 0) Q)) ∧ (¬ v2 = (-1) → (v2 ≠ 0 ∧ (J_F_productIsOver_73 n C (if w64 (Int.tdiv (w64 (v0 * v2)) v2) = v0 then 0 else 1) Q)))))))))
theorem m_F_productIsOver (l : Launch) (E : Ev) (n : Nat) (C : Cn) (v0 v2 : Int) (Q : Int → Prop) (h : P_F_productIsOver n C v0 v2 Q) : MA l y_F_productIsOver M_F_productIsOver E true C n [(1, v0), (1, v2)] (fun r C2 n2 => C2 = C ∧ n2 = n ∧ Q r) := by
  refine MA.of (by decide) rfl rfl 0 rfl (fun p e s m args below meth c => ?_)
  show AW p l e _ s m args below meth c E M_F_productIsOver true _ n 0 0 0 [(1, v0), (9, 0), (1, v2), (9, 0)] [] C
  unfold P_F_productIsOver at h
  refine AW.lload_n (dc hd_F_productIsOver 0 rfl) rfl ?_
  refine AW.lconst (v := 0) (dc hd_F_productIsOver 1 rfl) (by decide) (by decide +kernel) ?_
  refine AW.lc (dc hd_F_productIsOver 2 rfl) ?_
  refine AW.if_eq (t := 12) (dc hd_F_productIsOver 3 rfl) (by decide) (fun c_1 => ?_) (fun c_1 => ?_)
  · replace c_1 := (lc_eq _ _).mp c_1
    have h := h.1 c_1
    refine AW.iconst (dc hd_F_productIsOver 8 rfl) (by decide) ?_
    exact AW.zret (dc hd_F_productIsOver 9 rfl) rfl rfl (Nat.le_of_ble_eq_true rfl) (Nat.le_of_ble_eq_true rfl) (by decide) ⟨rfl, rfl, h⟩
  · replace c_1 : ¬ v0 = 0 := fun q => c_1 ((lc_eq _ _).mpr q)
    have h := h.2 c_1
    refine AW.lload_n (dc hd_F_productIsOver 4 rfl) rfl ?_
    refine AW.lconst (v := 0) (dc hd_F_productIsOver 5 rfl) (by decide) (by decide +kernel) ?_
    refine AW.lc (dc hd_F_productIsOver 6 rfl) ?_
    refine AW.if_ne (t := 14) (dc hd_F_productIsOver 7 rfl) (by decide) (fun c_2 => ?_) (fun c_2 => ?_)
    · replace c_2 : ¬ v2 = 0 := fun q => c_2 ((lc_eq _ _).mpr q)
      have h := h.2 c_2
      refine AW.lload_n (dc hd_F_productIsOver 10 rfl) rfl ?_
      refine AW.ldc2 (v := -1) (dc hd_F_productIsOver 11 rfl) ck_9_437 (by decide) rfl ?_
      refine AW.lc (dc hd_F_productIsOver 12 rfl) ?_
      refine AW.if_ne (t := 36) (dc hd_F_productIsOver 13 rfl) (by decide) (fun c_3 => ?_) (fun c_3 => ?_)
      · replace c_3 : ¬ v0 = (-1) := fun q => c_3 ((lc_eq _ _).mpr q)
        have h := h.2 c_3
        refine AW.lload_n (dc hd_F_productIsOver 22 rfl) rfl ?_
        refine AW.ldc2 (v := -1) (dc hd_F_productIsOver 23 rfl) ck_9_437 (by decide) rfl ?_
        refine AW.lc (dc hd_F_productIsOver 24 rfl) ?_
        refine AW.if_ne (t := 58) (dc hd_F_productIsOver 25 rfl) (by decide) (fun c_4 => ?_) (fun c_4 => ?_)
        · replace c_4 : ¬ v2 = (-1) := fun q => c_4 ((lc_eq _ _).mpr q)
          have h := h.2 c_4
          refine AW.lload_n (dc hd_F_productIsOver 34 rfl) rfl ?_
          refine AW.lload_n (dc hd_F_productIsOver 35 rfl) rfl ?_
          refine AW.lmul (dc hd_F_productIsOver 36 rfl) ?_
          refine AW.lload_n (dc hd_F_productIsOver 37 rfl) rfl ?_
          obtain ⟨g_5, h⟩ := h
          refine AW.ldiv (dc hd_F_productIsOver 38 rfl) g_5 ?_
          refine AW.lload_n (dc hd_F_productIsOver 39 rfl) rfl ?_
          refine AW.lc (dc hd_F_productIsOver 40 rfl) ?_
          refine AW.if_eq (t := 72) (dc hd_F_productIsOver 41 rfl) (by decide) (fun c_6 => ?_) (fun c_6 => ?_)
          · replace c_6 := (lc_eq _ _).mp c_6
            simp only [if_pos (show w64 (Int.tdiv (w64 (v0 * v2)) v2) = v0 from c_6)] at h
            refine AW.iconst (dc hd_F_productIsOver 44 rfl) (by decide) ?_
            refine AW.fgt [(9, 0), (9, 0), (9, 0), (9, 0)] ⟨.inr rfl, .inl rfl, .inr rfl, .inl rfl, trivial⟩ ?_
            exact aJ_F_productIsOver_73 n C _ Q h
          · replace c_6 : ¬ w64 (Int.tdiv (w64 (v0 * v2)) v2) = v0 := fun q => c_6 ((lc_eq _ _).mpr q)
            simp only [if_neg (show ¬ (w64 (Int.tdiv (w64 (v0 * v2)) v2) = v0) from c_6)] at h
            refine AW.iconst (dc hd_F_productIsOver 42 rfl) (by decide) ?_
            refine AW.goto (t := 73) (dc hd_F_productIsOver 43 rfl) (by decide) ?_
            refine AW.fgt [(9, 0), (9, 0), (9, 0), (9, 0)] ⟨.inr rfl, .inl rfl, .inr rfl, .inl rfl, trivial⟩ ?_
            exact aJ_F_productIsOver_73 n C _ Q h
        · replace c_4 := (lc_eq _ _).mp c_4
          have h := h.1 c_4
          refine AW.lload_n (dc hd_F_productIsOver 26 rfl) rfl ?_
          refine AW.ldc2 (v := -9223372036854775808) (dc hd_F_productIsOver 27 rfl) ck_9_435 (by decide) rfl ?_
          refine AW.lc (dc hd_F_productIsOver 28 rfl) ?_
          refine AW.if_ne (t := 56) (dc hd_F_productIsOver 29 rfl) (by decide) (fun c_8 => ?_) (fun c_8 => ?_)
          · replace c_8 : ¬ v0 = (-9223372036854775808) := fun q => c_8 ((lc_eq _ _).mpr q)
            simp only [if_neg (show ¬ (v0 = (-9223372036854775808)) from c_8)] at h
            refine AW.iconst (dc hd_F_productIsOver 32 rfl) (by decide) ?_
            refine AW.fgt [(9, 0), (9, 0), (9, 0), (9, 0)] ⟨.inr rfl, .inl rfl, .inr rfl, .inl rfl, trivial⟩ ?_
            exact aJ_F_productIsOver_57 n C _ Q h
          · replace c_8 := (lc_eq _ _).mp c_8
            simp only [if_pos (show v0 = (-9223372036854775808) from c_8)] at h
            refine AW.iconst (dc hd_F_productIsOver 30 rfl) (by decide) ?_
            refine AW.goto (t := 57) (dc hd_F_productIsOver 31 rfl) (by decide) ?_
            refine AW.fgt [(9, 0), (9, 0), (9, 0), (9, 0)] ⟨.inr rfl, .inl rfl, .inr rfl, .inl rfl, trivial⟩ ?_
            exact aJ_F_productIsOver_57 n C _ Q h
      · replace c_3 := (lc_eq _ _).mp c_3
        have h := h.1 c_3
        refine AW.lload_n (dc hd_F_productIsOver 14 rfl) rfl ?_
        refine AW.ldc2 (v := -9223372036854775808) (dc hd_F_productIsOver 15 rfl) ck_9_435 (by decide) rfl ?_
        refine AW.lc (dc hd_F_productIsOver 16 rfl) ?_
        refine AW.if_ne (t := 34) (dc hd_F_productIsOver 17 rfl) (by decide) (fun c_10 => ?_) (fun c_10 => ?_)
        · replace c_10 : ¬ v2 = (-9223372036854775808) := fun q => c_10 ((lc_eq _ _).mpr q)
          simp only [if_neg (show ¬ (v2 = (-9223372036854775808)) from c_10)] at h
          refine AW.iconst (dc hd_F_productIsOver 20 rfl) (by decide) ?_
          refine AW.fgt [(9, 0), (9, 0), (9, 0), (9, 0)] ⟨.inr rfl, .inl rfl, .inr rfl, .inl rfl, trivial⟩ ?_
          exact aJ_F_productIsOver_35 n C _ Q h
        · replace c_10 := (lc_eq _ _).mp c_10
          simp only [if_pos (show v2 = (-9223372036854775808) from c_10)] at h
          refine AW.iconst (dc hd_F_productIsOver 18 rfl) (by decide) ?_
          refine AW.goto (t := 35) (dc hd_F_productIsOver 19 rfl) (by decide) ?_
          refine AW.fgt [(9, 0), (9, 0), (9, 0), (9, 0)] ⟨.inr rfl, .inl rfl, .inr rfl, .inl rfl, trivial⟩ ?_
          exact aJ_F_productIsOver_35 n C _ Q h
    · replace c_2 := (lc_eq _ _).mp c_2
      have h := h.1 c_2
      refine AW.iconst (dc hd_F_productIsOver 8 rfl) (by decide) ?_
      exact AW.zret (dc hd_F_productIsOver 9 rfl) rfl rfl (Nat.le_of_ble_eq_true rfl) (Nat.le_of_ble_eq_true rfl) (by decide) ⟨rfl, rfl, h⟩
def J_F_book_44 (n : Nat) (C : Cn) (v0 v1 v2 s0 : Int) (Q : Int → Cn → Prop) : Prop :=
  (s0 = 0 → (okO n v0 9 ∧ ((v1 = 0 → (okO n (PT v0.toNat 0) 1 ∧ (∀ C_20 : Cn, C_20 = wr C (PT v0.toNat 0).toNat 3 (w64 (C (PT v0.toNat 0).toNat 3 + v2)) → (Q (C_20 (PT v0.toNat 0).toNat 3) C_20)))) ∧ (¬ v1 = 0 → (okO n (PT v0.toNat 0) 1 ∧ (∀ C_18 : Cn, C_18 = wr C (PT v0.toNat 0).toNat 3 (w64 ((C (PT v0.toNat 0).toNat 3) * v2)) → (Q (C_18 (PT v0.toNat 0).toNat 3) C_18))))))) ∧ (¬ s0 = 0 → (okO n v0 9 ∧ (P_F_tellLong n C v0 7 (fun (r_21 : Int) (C_23 : Cn) => Q r_21 C_23))))
theorem aJ_F_book_44 (n : Nat) (C : Cn) (v0 v1 v2 s0 : Int) (Q : Int → Cn → Prop) (h : J_F_book_44 n C v0 v1 v2 s0 Q) : AW p l e R s m args below meth c E M_F_book true (fun r C2 n2 => n2 = n ∧ Q r C2) n 0 0 44 [(2, v0), (0, v1), (1, v2), (9, 0), (9, 0)] [(0, s0)] C := by
  unfold J_F_book_44 at h
  refine AW.istore [(2, v0), (0, v1), (1, v2), (9, 0), (0, s0)] (dc hd_F_book 22 rfl) (Nat.le_of_ble_eq_true rfl) rfl rfl ?_
  refine AW.iload (dc hd_F_book 23 rfl) rfl ?_
  refine AW.if_eq (t := 58) (dc hd_F_book 24 rfl) (by decide) (fun c_14 => ?_) (fun c_14 => ?_)
  · have h := h.1 c_14
    refine AW.ra_n (dc hd_F_book 29 rfl) rfl rfl rfl ?_
    obtain ⟨g_15, h⟩ := h
    refine AW.getp fl_9_12 (dc hd_F_book 30 rfl) g_15 rfl ?_
    refine AW.iload_n (dc hd_F_book 31 rfl) rfl ?_
    refine AW.if_ne (t := 78) (dc hd_F_book 32 rfl) (by decide) (fun c_16 => ?_) (fun c_16 => ?_)
    · have h := h.2 c_16
      refine AW.ra_n (dc hd_F_book 39 rfl) rfl rfl rfl ?_
      refine AW.getp fl_9_12 (dc hd_F_book 40 rfl) g_15 rfl ?_
      obtain ⟨g_17, h⟩ := h
      refine AW.getf fl_9_335 (dc hd_F_book 41 rfl) g_17 ?_
      refine AW.lload_n (dc hd_F_book 42 rfl) rfl ?_
      refine AW.lmul (dc hd_F_book 43 rfl) ?_
      refine AW.nputJ fl_9_335 (dc hd_F_book 44 rfl) g_17 (fun C_18 eC_18 => ?_)
      have h := h C_18 eC_18
      refine AW.ra_n (dc hd_F_book 45 rfl) rfl rfl rfl ?_
      refine AW.getp fl_9_12 (dc hd_F_book 46 rfl) g_15 rfl ?_
      refine AW.getf fl_9_335 (dc hd_F_book 47 rfl) g_17 ?_
      exact AW.lret (dc hd_F_book 48 rfl) rfl rfl (Nat.le_of_ble_eq_true rfl) (Nat.le_of_ble_eq_true rfl) ⟨rfl, h⟩
    · have h := h.1 c_16
      refine AW.ra_n (dc hd_F_book 33 rfl) rfl rfl rfl ?_
      refine AW.getp fl_9_12 (dc hd_F_book 34 rfl) g_15 rfl ?_
      obtain ⟨g_19, h⟩ := h
      refine AW.getf fl_9_335 (dc hd_F_book 35 rfl) g_19 ?_
      refine AW.lload_n (dc hd_F_book 36 rfl) rfl ?_
      refine AW.ladd (dc hd_F_book 37 rfl) ?_
      refine AW.goto (t := 87) (dc hd_F_book 38 rfl) (by decide) ?_
      refine AW.nputJ fl_9_335 (dc hd_F_book 44 rfl) g_19 (fun C_20 eC_20 => ?_)
      have h := h C_20 eC_20
      refine AW.ra_n (dc hd_F_book 45 rfl) rfl rfl rfl ?_
      refine AW.getp fl_9_12 (dc hd_F_book 46 rfl) g_15 rfl ?_
      refine AW.getf fl_9_335 (dc hd_F_book 47 rfl) g_19 ?_
      exact AW.lret (dc hd_F_book 48 rfl) rfl rfl (Nat.le_of_ble_eq_true rfl) (Nat.le_of_ble_eq_true rfl) ⟨rfl, h⟩
  · have h := h.2 c_14
    refine AW.ra_n (dc hd_F_book 25 rfl) rfl rfl rfl ?_
    refine AW.bipush (dc hd_F_book 26 rfl) (by decide) (by decide +kernel) ?_
    obtain ⟨g_22, h⟩ := h
    refine AW.callV (As := [(0, 7)]) (rest := []) (ci := 9) (m_F_tellLong l E n C v0 7 _ h) cb_9_347 im_F_tellLong se_F_tellLong ⟨_, _, rfl⟩ (by decide) (dc hd_F_book 27 rfl) g_22 rfl rfl ⟨Nat.le_of_ble_eq_true rfl, Nat.le_of_ble_eq_true rfl⟩ ⟨(Nat.le_of_ble_eq_true rfl), (Nat.le_of_ble_eq_true rfl)⟩ (Nat.le_of_ble_eq_true rfl) (fun _ h => by cases h) (fun _ => rfl) (fun r_21 C_23 d_25 q_24 => ?_)
    obtain ⟨q_24a, h⟩ := q_24
    subst d_25
    show AW p l e _ s m args below meth c E M_F_book true _ n _ _ _ [(2, v0), (0, v1), (1, v2), (9, 0), (0, s0)] [(1, r_21)] C_23
    exact AW.lret (dc hd_F_book 28 rfl) rfl rfl (Nat.le_of_ble_eq_true rfl) (Nat.le_of_ble_eq_true rfl) ⟨rfl, h⟩
def P_F_book (n : Nat) (C : Cn) (v0 v1 v2 : Int) (Q : Int → Cn → Prop) : Prop :=
  P_F_isIn n C v1 0 1 (fun (r_1 : Int) => (r_1 = 0 → (okO n v0 9 ∧ (P_F_tellLong n C v0 0 (fun (r_32 : Int) (C_34 : Cn) => Q r_32 C_34)))) ∧ (¬ r_1 = 0 → ((v1 = 0 → (okO n v0 9 ∧ (okO n (PT v0.toNat 0) 1 ∧ (P_F_sumIsOver n C (C (PT v0.toNat 0).toNat 3) v2 (fun (r_28 : Int) => J_F_book_44 n C v0 v1 v2 r_28 Q))))) ∧ (¬ v1 = 0 → (okO n v0 9 ∧ (okO n (PT v0.toNat 0) 1 ∧ (P_F_productIsOver n C (C (PT v0.toNat 0).toNat 3) v2 (fun (r_10 : Int) => J_F_book_44 n C v0 v1 v2 r_10 Q))))))))
theorem m_F_book (l : Launch) (E : Ev) (n : Nat) (C : Cn) (v0 v1 v2 : Int) (Q : Int → Cn → Prop) (h : P_F_book n C v0 v1 v2 Q) : MA l y_F_book M_F_book E true C n [(2, v0), (0, v1), (1, v2)] (fun r C2 n2 => n2 = n ∧ Q r C2) := by
  refine MA.of (by decide) rfl rfl 1 rfl (fun p e s m args below meth c => ?_)
  show AW p l e _ s m args below meth c E M_F_book true _ n 0 0 0 [(2, v0), (0, v1), (1, v2), (9, 0), (9, 0)] [] C
  unfold P_F_book at h
  refine AW.iload_n (dc hd_F_book 0 rfl) rfl ?_
  refine AW.iconst (dc hd_F_book 1 rfl) (by decide) ?_
  refine AW.iconst (dc hd_F_book 2 rfl) (by decide) ?_
  refine AW.callS (As := [(0, v1), (0, 0), (0, 1)]) (rest := []) (m_F_isIn l E n C v1 0 1 _ h) cb_9_167 sm_F_isIn (dc hd_F_book 3 rfl) rfl rfl ⟨Nat.le_of_ble_eq_true rfl, Nat.le_of_ble_eq_true rfl⟩ ⟨(Nat.le_of_ble_eq_true rfl), (Nat.le_of_ble_eq_true rfl)⟩ (Nat.le_of_ble_eq_true rfl) (fun _ h => by cases h) (fun _ => rfl) (fun r_1 D_3 d_4 q_2 => ?_)
  obtain ⟨q_2a, q_2b, h⟩ := q_2
  subst D_3
  subst d_4
  show AW p l e _ s m args below meth c E M_F_book true _ n _ _ _ [(2, v0), (0, v1), (1, v2), (9, 0), (9, 0)] [(0, r_1)] C
  refine AW.if_ne (t := 15) (dc hd_F_book 4 rfl) (by decide) (fun c_5 => ?_) (fun c_5 => ?_)
  · have h := h.2 c_5
    refine AW.iload_n (dc hd_F_book 9 rfl) rfl ?_
    refine AW.if_ne (t := 33) (dc hd_F_book 10 rfl) (by decide) (fun c_7 => ?_) (fun c_7 => ?_)
    · have h := h.2 c_7
      refine AW.ra_n (dc hd_F_book 17 rfl) rfl rfl rfl ?_
      obtain ⟨g_8, h⟩ := h
      refine AW.getp fl_9_12 (dc hd_F_book 18 rfl) g_8 rfl ?_
      obtain ⟨g_9, h⟩ := h
      refine AW.getf fl_9_335 (dc hd_F_book 19 rfl) g_9 ?_
      refine AW.lload_n (dc hd_F_book 20 rfl) rfl ?_
      refine AW.callS (As := [(1, C (PT v0.toNat 0).toNat 3), (1, v2)]) (rest := []) (m_F_productIsOver l E n C (C (PT v0.toNat 0).toNat 3) v2 _ h) cb_9_355 sm_F_productIsOver (dc hd_F_book 21 rfl) rfl rfl ⟨Nat.le_of_ble_eq_true rfl, Nat.le_of_ble_eq_true rfl⟩ ⟨(Nat.le_of_ble_eq_true rfl), (Nat.le_of_ble_eq_true rfl)⟩ (Nat.le_of_ble_eq_true rfl) (fun _ h => by cases h) (fun _ => rfl) (fun r_10 D_12 d_13 q_11 => ?_)
      obtain ⟨q_11a, q_11b, h⟩ := q_11
      subst D_12
      subst d_13
      show AW p l e _ s m args below meth c E M_F_book true _ n _ _ _ [(2, v0), (0, v1), (1, v2), (9, 0), (9, 0)] [(0, r_10)] C
      exact aJ_F_book_44 n C v0 v1 v2 r_10 Q h
    · have h := h.1 c_7
      refine AW.ra_n (dc hd_F_book 11 rfl) rfl rfl rfl ?_
      obtain ⟨g_26, h⟩ := h
      refine AW.getp fl_9_12 (dc hd_F_book 12 rfl) g_26 rfl ?_
      obtain ⟨g_27, h⟩ := h
      refine AW.getf fl_9_335 (dc hd_F_book 13 rfl) g_27 ?_
      refine AW.lload_n (dc hd_F_book 14 rfl) rfl ?_
      refine AW.callS (As := [(1, C (PT v0.toNat 0).toNat 3), (1, v2)]) (rest := []) (m_F_sumIsOver l E n C (C (PT v0.toNat 0).toNat 3) v2 _ h) cb_9_351 sm_F_sumIsOver (dc hd_F_book 15 rfl) rfl rfl ⟨Nat.le_of_ble_eq_true rfl, Nat.le_of_ble_eq_true rfl⟩ ⟨(Nat.le_of_ble_eq_true rfl), (Nat.le_of_ble_eq_true rfl)⟩ (Nat.le_of_ble_eq_true rfl) (fun _ h => by cases h) (fun _ => rfl) (fun r_28 D_30 d_31 q_29 => ?_)
      obtain ⟨q_29a, q_29b, h⟩ := q_29
      subst D_30
      subst d_31
      show AW p l e _ s m args below meth c E M_F_book true _ n _ _ _ [(2, v0), (0, v1), (1, v2), (9, 0), (9, 0)] [(0, r_28)] C
      refine AW.goto (t := 44) (dc hd_F_book 16 rfl) (by decide) ?_
      exact aJ_F_book_44 n C v0 v1 v2 r_28 Q h
  · have h := h.1 c_5
    refine AW.ra_n (dc hd_F_book 5 rfl) rfl rfl rfl ?_
    refine AW.iconst (dc hd_F_book 6 rfl) (by decide) ?_
    obtain ⟨g_33, h⟩ := h
    refine AW.callV (As := [(0, 0)]) (rest := []) (ci := 9) (m_F_tellLong l E n C v0 0 _ h) cb_9_347 im_F_tellLong se_F_tellLong ⟨_, _, rfl⟩ (by decide) (dc hd_F_book 7 rfl) g_33 rfl rfl ⟨Nat.le_of_ble_eq_true rfl, Nat.le_of_ble_eq_true rfl⟩ ⟨(Nat.le_of_ble_eq_true rfl), (Nat.le_of_ble_eq_true rfl)⟩ (Nat.le_of_ble_eq_true rfl) (fun _ h => by cases h) (fun _ => rfl) (fun r_32 C_34 d_36 q_35 => ?_)
    obtain ⟨q_35a, h⟩ := q_35
    subst d_36
    show AW p l e _ s m args below meth c E M_F_book true _ n _ _ _ [(2, v0), (0, v1), (1, v2), (9, 0), (9, 0)] [(1, r_32)] C_34
    exact AW.lret (dc hd_F_book 8 rfl) rfl rfl (Nat.le_of_ble_eq_true rfl) (Nat.le_of_ble_eq_true rfl) ⟨rfl, h⟩
def P_F_seed (n : Nat) (C : Cn) (v0 v1 : Int) (Q : Int → Cn → Prop) : Prop :=
  okO n v0 9 ∧ (okO n (PT v0.toNat 0) 1 ∧ (∀ v2_3 : Int, v2_3 = C (PT v0.toNat 0).toNat 4 → (∀ C_4 : Cn, C_4 = wr C (PT v0.toNat 0).toNat 4 v1 → (Q v2_3 C_4))))
theorem m_F_seed (l : Launch) (E : Ev) (n : Nat) (C : Cn) (v0 v1 : Int) (Q : Int → Cn → Prop) (h : P_F_seed n C v0 v1 Q) : MA l y_F_seed M_F_seed E true C n [(2, v0), (0, v1)] (fun r C2 n2 => n2 = n ∧ Q r C2) := by
  refine MA.of (by decide) rfl rfl 1 rfl (fun p e s m args below meth c => ?_)
  show AW p l e _ s m args below meth c E M_F_seed true _ n 0 0 0 [(2, v0), (0, v1), (9, 0)] [] C
  unfold P_F_seed at h
  refine AW.ra_n (dc hd_F_seed 0 rfl) rfl rfl rfl ?_
  obtain ⟨g_1, h⟩ := h
  refine AW.getp fl_9_12 (dc hd_F_seed 1 rfl) g_1 rfl ?_
  obtain ⟨g_2, h⟩ := h
  refine AW.getf fl_9_332 (dc hd_F_seed 2 rfl) g_2 ?_
  refine AW.nm (fun v2_3 ev2_3 => ?_)
  have h := h v2_3 ev2_3
  refine AW.istore_n [(2, v0), (0, v1), (0, v2_3)] (dc hd_F_seed 3 rfl) (Nat.le_of_ble_eq_true rfl) rfl rfl ?_
  refine AW.ra_n (dc hd_F_seed 4 rfl) rfl rfl rfl ?_
  refine AW.getp fl_9_12 (dc hd_F_seed 5 rfl) g_1 rfl ?_
  refine AW.iload_n (dc hd_F_seed 6 rfl) rfl ?_
  refine AW.nputI fl_9_332 (dc hd_F_seed 7 rfl) g_2 (fun C_4 eC_4 => ?_)
  have h := h C_4 eC_4
  refine AW.iload_n (dc hd_F_seed 8 rfl) rfl ?_
  exact AW.iret (dc hd_F_seed 9 rfl) rfl rfl (Nat.le_of_ble_eq_true rfl) (Nat.le_of_ble_eq_true rfl) ⟨rfl, h⟩
def J_F_prove_51 (n : Nat) (C : Cn) (v0 : Int) (Q : Int → Cn → Prop) : Prop :=
  okO n v0 9 ∧ (okO n (PT v0.toNat 3) 2 ∧ (∀ C_6 : Cn, C_6 = wr C v0.toNat 14 (C (PT v0.toNat 3).toNat 14) → (Q (C_6 v0.toNat 14) C_6)))
theorem aJ_F_prove_51 (n : Nat) (C : Cn) (v0 : Int) (Q : Int → Cn → Prop) (h : J_F_prove_51 n C v0 Q) : AW p l e R s m args below meth c E M_F_prove true (fun r C2 n2 => n2 = n ∧ Q r C2) n 0 0 51 [(2, v0), (9, 0), (9, 0)] [] C := by
  unfold J_F_prove_51 at h
  refine AW.ra_n (dc hd_F_prove 29 rfl) rfl rfl rfl ?_
  refine AW.ra_n (dc hd_F_prove 30 rfl) rfl rfl rfl ?_
  obtain ⟨g_4, h⟩ := h
  refine AW.getp fl_9_25 (dc hd_F_prove 31 rfl) g_4 rfl ?_
  obtain ⟨g_5, h⟩ := h
  refine AW.getf fl_9_187 (dc hd_F_prove 32 rfl) g_5 ?_
  refine AW.nputI fl_9_358 (dc hd_F_prove 33 rfl) g_4 (fun C_6 eC_6 => ?_)
  have h := h C_6 eC_6
  refine AW.ra_n (dc hd_F_prove 34 rfl) rfl rfl rfl ?_
  refine AW.getf fl_9_358 (dc hd_F_prove 35 rfl) g_4 ?_
  exact AW.iret (dc hd_F_prove 36 rfl) rfl rfl (Nat.le_of_ble_eq_true rfl) (Nat.le_of_ble_eq_true rfl) ⟨rfl, h⟩
def B_F_prove_15 (n : Nat) (v0 v1 : Int) (kz2 : Cn × Int → Prop) (Q : Int → Cn → Prop) (kz15 : Cn × Int → Prop) (z : Cn × Int) : Prop := match z with
  | (C, v2) => (4 ≤ v2 → (kz2 (C, w32 (v1 + 1)))) ∧ (¬ 4 ≤ v2 → (okO n v0 9 ∧ (okO n (PT v0.toNat 3) 2 ∧ (P_La_numberOf n C (PT v0.toNat 3) v1 v2 (fun (r_9 : Int) => okO n (PT v0.toNat 12) 12 ∧ (okI (PT v0.toNat 12) (w32 (w32 (v1 * 4) + v2)) ∧ (∀ C_16 : Cn, C_16 = wr C (PT v0.toNat 12).toNat (w32 (w32 (v1 * 4) + v2)).toNat r_9 → (kz15 (C_16, w32 (v2 + 1))))))))))
theorem bB_F_prove_15 (n : Nat) (v0 v1 : Int) (kz2 : Cn × Int → Prop) (Q : Int → Cn → Prop) (hkz2 : ∀ (Cz : Cn) (z1 : Int), kz2 (Cz, z1) → AW p l e R s m args below meth c E M_F_prove true (fun r C2 n2 => n2 = n ∧ Q r C2) n 0 0 2 [(2, v0), (0, z1), (9, 0)] [] Cz) (kz15 : Cn × Int → Prop) (hkz15 : ∀ (Cz : Cn) (z2 : Int), kz15 (Cz, z2) → AW p l e R s m args below meth c E M_F_prove true (fun r C2 n2 => n2 = n ∧ Q r C2) n 0 0 15 [(2, v0), (0, v1), (0, z2)] [] Cz) (C : Cn) (v2 : Int) (h : B_F_prove_15 n v0 v1 kz2 Q kz15 (C, v2)) : AW p l e R s m args below meth c E M_F_prove true (fun r C2 n2 => n2 = n ∧ Q r C2) n 0 0 15 [(2, v0), (0, v1), (0, v2)] [] C := by
  unfold B_F_prove_15 at h
  dsimp only at h
  refine AW.iload_n (dc hd_F_prove 9 rfl) rfl ?_
  refine AW.iconst (dc hd_F_prove 10 rfl) (by decide) ?_
  refine AW.icmp_ge (t := 45) (dc hd_F_prove 11 rfl) (by decide) (fun c_7 => ?_) (fun c_7 => ?_)
  · have h := h.1 c_7
    refine AW.iinc [(2, v0), (0, w32 (v1 + 1)), (0, v2)] (dc hd_F_prove 27 rfl) rfl (Nat.le_of_ble_eq_true rfl) rfl rfl ?_
    refine AW.goto (t := 2) (dc hd_F_prove 28 rfl) (by decide) ?_
    refine AW.fgt [(2, v0), (0, w32 (v1 + 1)), (9, 0)] ⟨.inl rfl, .inl rfl, .inr rfl, trivial⟩ ?_
    exact hkz2 C (w32 (v1 + 1)) h
  · have h := h.2 c_7
    refine AW.ra_n (dc hd_F_prove 12 rfl) rfl rfl rfl ?_
    obtain ⟨g_8, h⟩ := h
    refine AW.getp fl_9_82 (dc hd_F_prove 13 rfl) g_8 rfl ?_
    refine AW.iload_n (dc hd_F_prove 14 rfl) rfl ?_
    refine AW.iconst (dc hd_F_prove 15 rfl) (by decide) ?_
    refine AW.imul (dc hd_F_prove 16 rfl) ?_
    refine AW.iload_n (dc hd_F_prove 17 rfl) rfl ?_
    refine AW.iadd (dc hd_F_prove 18 rfl) ?_
    refine AW.ra_n (dc hd_F_prove 19 rfl) rfl rfl rfl ?_
    refine AW.getp fl_9_25 (dc hd_F_prove 20 rfl) g_8 rfl ?_
    refine AW.iload_n (dc hd_F_prove 21 rfl) rfl ?_
    refine AW.iload_n (dc hd_F_prove 22 rfl) rfl ?_
    obtain ⟨g_10, h⟩ := h
    refine AW.callV (As := [(0, v1), (0, v2)]) (rest := [(0, w32 (w32 (v1 * 4) + v2)), (2, PT v0.toNat 12)]) (ci := 2) (m_La_numberOf l E n C (PT v0.toNat 3) v1 v2 _ h) cb_9_212 im_La_numberOf se_La_numberOf ⟨_, _, rfl⟩ (by decide) (dc hd_F_prove 23 rfl) g_10 rfl rfl ⟨Nat.le_of_ble_eq_true rfl, Nat.le_of_ble_eq_true rfl⟩ ⟨(Nat.le_of_ble_eq_true rfl), (Nat.le_of_ble_eq_true rfl)⟩ (Nat.le_of_ble_eq_true rfl) (fun _ h => by cases h) (fun _ => rfl) (fun r_9 D_12 d_13 q_11 => ?_)
    obtain ⟨q_11a, q_11b, h⟩ := q_11
    subst D_12
    subst d_13
    show AW p l e _ s m args below meth c E M_F_prove true _ n _ _ _ [(2, v0), (0, v1), (0, v2)] [(0, r_9), (0, w32 (w32 (v1 * 4) + v2)), (2, PT v0.toNat 12)] C
    obtain ⟨g_14, h⟩ := h
    obtain ⟨g_15, h⟩ := h
    refine AW.niast (dc hd_F_prove 24 rfl) g_14 g_15 (fun C_16 eC_16 => ?_)
    have h := h C_16 eC_16
    refine AW.iinc [(2, v0), (0, v1), (0, w32 (v2 + 1))] (dc hd_F_prove 25 rfl) rfl (Nat.le_of_ble_eq_true rfl) rfl rfl ?_
    refine AW.goto (t := 15) (dc hd_F_prove 26 rfl) (by decide) ?_
    exact hkz15 C_16 (w32 (v2 + 1)) h
theorem aB_F_prove_15 (n : Nat) (v0 v1 : Int) (kz2 : Cn × Int → Prop) (Q : Int → Cn → Prop) (hkz2 : ∀ (Cz : Cn) (z1 : Int), kz2 (Cz, z1) → AW p l e R s m args below meth c E M_F_prove true (fun r C2 n2 => n2 = n ∧ Q r C2) n 0 0 2 [(2, v0), (0, z1), (9, 0)] [] Cz) : ∀ (f : Nat) (z : Cn × Int), lp (B_F_prove_15 n v0 v1 kz2 Q) f z → AW p l e R s m args below meth c E M_F_prove true (fun r C2 n2 => n2 = n ∧ Q r C2) n 0 0 15 [(2, v0), (0, v1), (0, z.2)] [] (z.1) := by
  intro f
  induction f with
  | zero => intro z h; exact False.elim h
  | succ f ih => intro z h; exact bB_F_prove_15 n v0 v1 kz2 Q hkz2 (lp (B_F_prove_15 n v0 v1 kz2 Q) f) (fun a0 a1 h => ih (a0, a1) h) z.1 z.2 h
def B_F_prove_2 (n : Nat) (v0 : Int) (Q : Int → Cn → Prop) (kz2 : Cn × Int → Prop) (z : Cn × Int) : Prop := match z with
  | (C, v1) => okO n v0 9 ∧ (okO n (PT v0.toNat 3) 2 ∧ ((C (PT v0.toNat 3).toNat 14 ≤ v1 → (J_F_prove_51 n C v0 Q)) ∧ (¬ C (PT v0.toNat 3).toNat 14 ≤ v1 → (∃ f_17 : Nat, lp (B_F_prove_15 n v0 v1 kz2 Q) f_17 (C, 0)))))
theorem bB_F_prove_2 (n : Nat) (v0 : Int) (Q : Int → Cn → Prop) (kz2 : Cn × Int → Prop) (hkz2 : ∀ (Cz : Cn) (z1 : Int), kz2 (Cz, z1) → AW p l e R s m args below meth c E M_F_prove true (fun r C2 n2 => n2 = n ∧ Q r C2) n 0 0 2 [(2, v0), (0, z1), (9, 0)] [] Cz) (C : Cn) (v1 : Int) (h : B_F_prove_2 n v0 Q kz2 (C, v1)) : AW p l e R s m args below meth c E M_F_prove true (fun r C2 n2 => n2 = n ∧ Q r C2) n 0 0 2 [(2, v0), (0, v1), (9, 0)] [] C := by
  unfold B_F_prove_2 at h
  dsimp only at h
  refine AW.iload_n (dc hd_F_prove 2 rfl) rfl ?_
  refine AW.ra_n (dc hd_F_prove 3 rfl) rfl rfl rfl ?_
  obtain ⟨g_1, h⟩ := h
  refine AW.getp fl_9_25 (dc hd_F_prove 4 rfl) g_1 rfl ?_
  obtain ⟨g_2, h⟩ := h
  refine AW.getf fl_9_187 (dc hd_F_prove 5 rfl) g_2 ?_
  refine AW.icmp_ge (t := 51) (dc hd_F_prove 6 rfl) (by decide) (fun c_3 => ?_) (fun c_3 => ?_)
  · have h := h.1 c_3
    refine AW.fgt [(2, v0), (9, 0), (9, 0)] ⟨.inl rfl, .inr rfl, .inl rfl, trivial⟩ ?_
    exact aJ_F_prove_51 n C v0 Q h
  · have h := h.2 c_3
    refine AW.iconst (dc hd_F_prove 7 rfl) (by decide) ?_
    refine AW.istore_n [(2, v0), (0, v1), (0, 0)] (dc hd_F_prove 8 rfl) (Nat.le_of_ble_eq_true rfl) rfl rfl ?_
    obtain ⟨f_17, h⟩ := h
    exact aB_F_prove_15 n v0 v1 kz2 Q hkz2 f_17 (C, 0) h
theorem aB_F_prove_2 (n : Nat) (v0 : Int) (Q : Int → Cn → Prop) : ∀ (f : Nat) (z : Cn × Int), lp (B_F_prove_2 n v0 Q) f z → AW p l e R s m args below meth c E M_F_prove true (fun r C2 n2 => n2 = n ∧ Q r C2) n 0 0 2 [(2, v0), (0, z.2), (9, 0)] [] (z.1) := by
  intro f
  induction f with
  | zero => intro z h; exact False.elim h
  | succ f ih => intro z h; exact bB_F_prove_2 n v0 Q (lp (B_F_prove_2 n v0 Q) f) (fun a0 a1 h => ih (a0, a1) h) z.1 z.2 h
def P_F_prove (n : Nat) (C : Cn) (v0 : Int) (Q : Int → Cn → Prop) : Prop :=
  ∃ f_18 : Nat, lp (B_F_prove_2 n v0 Q) f_18 (C, 0)
theorem m_F_prove (l : Launch) (E : Ev) (n : Nat) (C : Cn) (v0 : Int) (Q : Int → Cn → Prop) (h : P_F_prove n C v0 Q) : MA l y_F_prove M_F_prove E true C n [(2, v0)] (fun r C2 n2 => n2 = n ∧ Q r C2) := by
  refine MA.of (by decide) rfl rfl 2 rfl (fun p e s m args below meth c => ?_)
  show AW p l e _ s m args below meth c E M_F_prove true _ n 0 0 0 [(2, v0), (9, 0), (9, 0)] [] C
  unfold P_F_prove at h
  refine AW.iconst (dc hd_F_prove 0 rfl) (by decide) ?_
  refine AW.istore_n [(2, v0), (0, 0), (9, 0)] (dc hd_F_prove 1 rfl) (Nat.le_of_ble_eq_true rfl) rfl rfl ?_
  obtain ⟨f_18, h⟩ := h
  exact aB_F_prove_2 n v0 Q f_18 (C, 0) h
def J_F_isNumberOfRow_28 (n : Nat) (C : Cn) (s0 : Int) (Q : Int → Prop) : Prop :=
  (s0 = 0 ∨ s0 = 1) ∧ (Q s0)
theorem aJ_F_isNumberOfRow_28 (n : Nat) (C : Cn) (s0 : Int) (Q : Int → Prop) (h : J_F_isNumberOfRow_28 n C s0 Q) : AW p l e R s m args below meth c E M_F_isNumberOfRow true (fun r C2 n2 => C2 = C ∧ n2 = n ∧ Q r) n 0 0 28 [(9, 0), (9, 0), (9, 0)] [(0, s0)] C := by
  unfold J_F_isNumberOfRow_28 at h
  obtain ⟨g_12, h⟩ := h
  exact AW.zret (dc hd_F_isNumberOfRow 16 rfl) rfl rfl (Nat.le_of_ble_eq_true rfl) (Nat.le_of_ble_eq_true rfl) g_12 ⟨rfl, rfl, h⟩
def P_F_isNumberOfRow (n : Nat) (C : Cn) (v0 v1 v2 : Int) (Q : Int → Prop) : Prop :=
  okO n v0 9 ∧ (P_F_isIn n C v1 0 (w32 (C v0.toNat 14 - 1)) (fun (r_2 : Int) => (r_2 = 0 → (Q 0)) ∧ (¬ r_2 = 0 → (P_F_isIn n C v2 0 3 (fun (r_7 : Int) => J_F_isNumberOfRow_28 n C (if r_7 = 0 then 0 else 1) Q)))))
theorem m_F_isNumberOfRow (l : Launch) (E : Ev) (n : Nat) (C : Cn) (v0 v1 v2 : Int) (Q : Int → Prop) (h : P_F_isNumberOfRow n C v0 v1 v2 Q) : MA l y_F_isNumberOfRow M_F_isNumberOfRow E true C n [(2, v0), (0, v1), (0, v2)] (fun r C2 n2 => C2 = C ∧ n2 = n ∧ Q r) := by
  refine MA.of (by decide) rfl rfl 0 rfl (fun p e s m args below meth c => ?_)
  show AW p l e _ s m args below meth c E M_F_isNumberOfRow true _ n 0 0 0 [(2, v0), (0, v1), (0, v2)] [] C
  unfold P_F_isNumberOfRow at h
  refine AW.iload_n (dc hd_F_isNumberOfRow 0 rfl) rfl ?_
  refine AW.iconst (dc hd_F_isNumberOfRow 1 rfl) (by decide) ?_
  refine AW.ra_n (dc hd_F_isNumberOfRow 2 rfl) rfl rfl rfl ?_
  obtain ⟨g_1, h⟩ := h
  refine AW.getf fl_9_358 (dc hd_F_isNumberOfRow 3 rfl) g_1 ?_
  refine AW.iconst (dc hd_F_isNumberOfRow 4 rfl) (by decide) ?_
  refine AW.isub (dc hd_F_isNumberOfRow 5 rfl) ?_
  refine AW.callS (As := [(0, v1), (0, 0), (0, w32 (C v0.toNat 14 - 1))]) (rest := []) (m_F_isIn l E n C v1 0 (w32 (C v0.toNat 14 - 1)) _ h) cb_9_167 sm_F_isIn (dc hd_F_isNumberOfRow 6 rfl) rfl rfl ⟨Nat.le_of_ble_eq_true rfl, Nat.le_of_ble_eq_true rfl⟩ ⟨(Nat.le_of_ble_eq_true rfl), (Nat.le_of_ble_eq_true rfl)⟩ (Nat.le_of_ble_eq_true rfl) (fun _ h => by cases h) (fun _ => rfl) (fun r_2 D_4 d_5 q_3 => ?_)
  obtain ⟨q_3a, q_3b, h⟩ := q_3
  subst D_4
  subst d_5
  show AW p l e _ s m args below meth c E M_F_isNumberOfRow true _ n _ _ _ [(2, v0), (0, v1), (0, v2)] [(0, r_2)] C
  refine AW.if_eq (t := 27) (dc hd_F_isNumberOfRow 7 rfl) (by decide) (fun c_6 => ?_) (fun c_6 => ?_)
  · have h := h.1 c_6
    refine AW.iconst (dc hd_F_isNumberOfRow 15 rfl) (by decide) ?_
    exact AW.zret (dc hd_F_isNumberOfRow 16 rfl) rfl rfl (Nat.le_of_ble_eq_true rfl) (Nat.le_of_ble_eq_true rfl) (by decide) ⟨rfl, rfl, h⟩
  · have h := h.2 c_6
    refine AW.iload_n (dc hd_F_isNumberOfRow 8 rfl) rfl ?_
    refine AW.iconst (dc hd_F_isNumberOfRow 9 rfl) (by decide) ?_
    refine AW.iconst (dc hd_F_isNumberOfRow 10 rfl) (by decide) ?_
    refine AW.callS (As := [(0, v2), (0, 0), (0, 3)]) (rest := []) (m_F_isIn l E n C v2 0 3 _ h) cb_9_167 sm_F_isIn (dc hd_F_isNumberOfRow 11 rfl) rfl rfl ⟨Nat.le_of_ble_eq_true rfl, Nat.le_of_ble_eq_true rfl⟩ ⟨(Nat.le_of_ble_eq_true rfl), (Nat.le_of_ble_eq_true rfl)⟩ (Nat.le_of_ble_eq_true rfl) (fun _ h => by cases h) (fun _ => rfl) (fun r_7 D_9 d_10 q_8 => ?_)
    obtain ⟨q_8a, q_8b, h⟩ := q_8
    subst D_9
    subst d_10
    show AW p l e _ s m args below meth c E M_F_isNumberOfRow true _ n _ _ _ [(2, v0), (0, v1), (0, v2)] [(0, r_7)] C
    refine AW.if_eq (t := 27) (dc hd_F_isNumberOfRow 12 rfl) (by decide) (fun c_11 => ?_) (fun c_11 => ?_)
    · simp only [if_pos (show r_7 = 0 from c_11)] at h
      refine AW.iconst (dc hd_F_isNumberOfRow 15 rfl) (by decide) ?_
      refine AW.fgt [(9, 0), (9, 0), (9, 0)] ⟨.inr rfl, .inr rfl, .inr rfl, trivial⟩ ?_
      exact aJ_F_isNumberOfRow_28 n C _ Q h
    · simp only [if_neg (show ¬ (r_7 = 0) from c_11)] at h
      refine AW.iconst (dc hd_F_isNumberOfRow 13 rfl) (by decide) ?_
      refine AW.goto (t := 28) (dc hd_F_isNumberOfRow 14 rfl) (by decide) ?_
      refine AW.fgt [(9, 0), (9, 0), (9, 0)] ⟨.inr rfl, .inr rfl, .inr rfl, trivial⟩ ?_
      exact aJ_F_isNumberOfRow_28 n C _ Q h
def P_F_row (n : Nat) (C : Cn) (v0 v1 v2 : Int) (Q : Int → Cn → Prop) : Prop :=
  okO n v0 9 ∧ (P_F_isNumberOfRow n C v0 v1 v2 (fun (r_1 : Int) => (r_1 = 0 → (P_F_tell n C v0 0 (fun (r_9 : Int) (C_10 : Cn) => Q r_9 C_10))) ∧ (¬ r_1 = 0 → (okO n (PT v0.toNat 12) 12 ∧ (okI (PT v0.toNat 12) (w32 (w32 (v1 * 4) + v2)) ∧ (Q (C (PT v0.toNat 12).toNat (w32 (w32 (v1 * 4) + v2)).toNat) C))))))
theorem m_F_row (l : Launch) (E : Ev) (n : Nat) (C : Cn) (v0 v1 v2 : Int) (Q : Int → Cn → Prop) (h : P_F_row n C v0 v1 v2 Q) : MA l y_F_row M_F_row E true C n [(2, v0), (0, v1), (0, v2)] (fun r C2 n2 => n2 = n ∧ Q r C2) := by
  refine MA.of (by decide) rfl rfl 0 rfl (fun p e s m args below meth c => ?_)
  show AW p l e _ s m args below meth c E M_F_row true _ n 0 0 0 [(2, v0), (0, v1), (0, v2)] [] C
  unfold P_F_row at h
  refine AW.ra_n (dc hd_F_row 0 rfl) rfl rfl rfl ?_
  refine AW.iload_n (dc hd_F_row 1 rfl) rfl ?_
  refine AW.iload_n (dc hd_F_row 2 rfl) rfl ?_
  obtain ⟨g_2, h⟩ := h
  refine AW.callV (As := [(0, v1), (0, v2)]) (rest := []) (ci := 9) (m_F_isNumberOfRow l E n C v0 v1 v2 _ h) cb_9_361 im_F_isNumberOfRow se_F_isNumberOfRow ⟨_, _, rfl⟩ (by decide) (dc hd_F_row 3 rfl) g_2 rfl rfl ⟨Nat.le_of_ble_eq_true rfl, Nat.le_of_ble_eq_true rfl⟩ ⟨(Nat.le_of_ble_eq_true rfl), (Nat.le_of_ble_eq_true rfl)⟩ (Nat.le_of_ble_eq_true rfl) (fun _ h => by cases h) (fun _ => rfl) (fun r_1 D_4 d_5 q_3 => ?_)
  obtain ⟨q_3a, q_3b, h⟩ := q_3
  subst D_4
  subst d_5
  show AW p l e _ s m args below meth c E M_F_row true _ n _ _ _ [(2, v0), (0, v1), (0, v2)] [(0, r_1)] C
  refine AW.if_ne (t := 15) (dc hd_F_row 4 rfl) (by decide) (fun c_6 => ?_) (fun c_6 => ?_)
  · have h := h.2 c_6
    refine AW.ra_n (dc hd_F_row 9 rfl) rfl rfl rfl ?_
    refine AW.getp fl_9_82 (dc hd_F_row 10 rfl) g_2 rfl ?_
    refine AW.iload_n (dc hd_F_row 11 rfl) rfl ?_
    refine AW.iconst (dc hd_F_row 12 rfl) (by decide) ?_
    refine AW.imul (dc hd_F_row 13 rfl) ?_
    refine AW.iload_n (dc hd_F_row 14 rfl) rfl ?_
    refine AW.iadd (dc hd_F_row 15 rfl) ?_
    obtain ⟨g_7, h⟩ := h
    obtain ⟨g_8, h⟩ := h
    refine AW.iald (dc hd_F_row 16 rfl) g_7 g_8 ?_
    exact AW.iret (dc hd_F_row 17 rfl) rfl rfl (Nat.le_of_ble_eq_true rfl) (Nat.le_of_ble_eq_true rfl) ⟨rfl, h⟩
  · have h := h.1 c_6
    refine AW.ra_n (dc hd_F_row 5 rfl) rfl rfl rfl ?_
    refine AW.iconst (dc hd_F_row 6 rfl) (by decide) ?_
    refine AW.callV (As := [(0, 0)]) (rest := []) (ci := 9) (m_F_tell l E n C v0 0 _ h) cb_9_101 im_F_tell se_F_tell ⟨_, _, rfl⟩ (by decide) (dc hd_F_row 7 rfl) g_2 rfl rfl ⟨Nat.le_of_ble_eq_true rfl, Nat.le_of_ble_eq_true rfl⟩ ⟨(Nat.le_of_ble_eq_true rfl), (Nat.le_of_ble_eq_true rfl)⟩ (Nat.le_of_ble_eq_true rfl) (fun _ h => by cases h) (fun _ => rfl) (fun r_9 C_10 d_12 q_11 => ?_)
    obtain ⟨q_11a, h⟩ := q_11
    subst d_12
    show AW p l e _ s m args below meth c E M_F_row true _ n _ _ _ [(2, v0), (0, v1), (0, v2)] [(0, r_9)] C_10
    exact AW.iret (dc hd_F_row 8 rfl) rfl rfl (Nat.le_of_ble_eq_true rfl) (Nat.le_of_ble_eq_true rfl) ⟨rfl, h⟩
def P_F_alter (n : Nat) (C : Cn) (v0 v1 v2 v3 : Int) (Q : Int → Cn → Prop) : Prop :=
  okO n v0 9 ∧ (P_F_isNumberOfRow n C v0 v1 v2 (fun (r_1 : Int) => (r_1 = 0 → (P_F_tell n C v0 0 (fun (r_12 : Int) (C_13 : Cn) => Q r_12 C_13))) ∧ (¬ r_1 = 0 → (∀ v4_7 : Int, v4_7 = w32 (w32 (v1 * 4) + v2) → (okO n (PT v0.toNat 12) 12 ∧ (okI (PT v0.toNat 12) v4_7 ∧ (∀ v5_10 : Int, v5_10 = C (PT v0.toNat 12).toNat v4_7.toNat → (∀ C_11 : Cn, C_11 = wr C (PT v0.toNat 12).toNat v4_7.toNat v3 → (Q v5_10 C_11)))))))))
theorem m_F_alter (l : Launch) (E : Ev) (n : Nat) (C : Cn) (v0 v1 v2 v3 : Int) (Q : Int → Cn → Prop) (h : P_F_alter n C v0 v1 v2 v3 Q) : MA l y_F_alter M_F_alter E true C n [(2, v0), (0, v1), (0, v2), (0, v3)] (fun r C2 n2 => n2 = n ∧ Q r C2) := by
  refine MA.of (by decide) rfl rfl 2 rfl (fun p e s m args below meth c => ?_)
  show AW p l e _ s m args below meth c E M_F_alter true _ n 0 0 0 [(2, v0), (0, v1), (0, v2), (0, v3), (9, 0), (9, 0)] [] C
  unfold P_F_alter at h
  refine AW.ra_n (dc hd_F_alter 0 rfl) rfl rfl rfl ?_
  refine AW.iload_n (dc hd_F_alter 1 rfl) rfl ?_
  refine AW.iload_n (dc hd_F_alter 2 rfl) rfl ?_
  obtain ⟨g_2, h⟩ := h
  refine AW.callV (As := [(0, v1), (0, v2)]) (rest := []) (ci := 9) (m_F_isNumberOfRow l E n C v0 v1 v2 _ h) cb_9_361 im_F_isNumberOfRow se_F_isNumberOfRow ⟨_, _, rfl⟩ (by decide) (dc hd_F_alter 3 rfl) g_2 rfl rfl ⟨Nat.le_of_ble_eq_true rfl, Nat.le_of_ble_eq_true rfl⟩ ⟨(Nat.le_of_ble_eq_true rfl), (Nat.le_of_ble_eq_true rfl)⟩ (Nat.le_of_ble_eq_true rfl) (fun _ h => by cases h) (fun _ => rfl) (fun r_1 D_4 d_5 q_3 => ?_)
  obtain ⟨q_3a, q_3b, h⟩ := q_3
  subst D_4
  subst d_5
  show AW p l e _ s m args below meth c E M_F_alter true _ n _ _ _ [(2, v0), (0, v1), (0, v2), (0, v3), (9, 0), (9, 0)] [(0, r_1)] C
  refine AW.if_ne (t := 15) (dc hd_F_alter 4 rfl) (by decide) (fun c_6 => ?_) (fun c_6 => ?_)
  · have h := h.2 c_6
    refine AW.iload_n (dc hd_F_alter 9 rfl) rfl ?_
    refine AW.iconst (dc hd_F_alter 10 rfl) (by decide) ?_
    refine AW.imul (dc hd_F_alter 11 rfl) ?_
    refine AW.iload_n (dc hd_F_alter 12 rfl) rfl ?_
    refine AW.iadd (dc hd_F_alter 13 rfl) ?_
    refine AW.nm (fun v4_7 ev4_7 => ?_)
    have h := h v4_7 ev4_7
    refine AW.istore [(2, v0), (0, v1), (0, v2), (0, v3), (0, v4_7), (9, 0)] (dc hd_F_alter 14 rfl) (Nat.le_of_ble_eq_true rfl) rfl rfl ?_
    refine AW.ra_n (dc hd_F_alter 15 rfl) rfl rfl rfl ?_
    refine AW.getp fl_9_82 (dc hd_F_alter 16 rfl) g_2 rfl ?_
    refine AW.iload (dc hd_F_alter 17 rfl) rfl ?_
    obtain ⟨g_8, h⟩ := h
    obtain ⟨g_9, h⟩ := h
    refine AW.iald (dc hd_F_alter 18 rfl) g_8 g_9 ?_
    refine AW.nm (fun v5_10 ev5_10 => ?_)
    have h := h v5_10 ev5_10
    refine AW.istore [(2, v0), (0, v1), (0, v2), (0, v3), (0, v4_7), (0, v5_10)] (dc hd_F_alter 19 rfl) (Nat.le_of_ble_eq_true rfl) rfl rfl ?_
    refine AW.ra_n (dc hd_F_alter 20 rfl) rfl rfl rfl ?_
    refine AW.getp fl_9_82 (dc hd_F_alter 21 rfl) g_2 rfl ?_
    refine AW.iload (dc hd_F_alter 22 rfl) rfl ?_
    refine AW.iload_n (dc hd_F_alter 23 rfl) rfl ?_
    refine AW.niast (dc hd_F_alter 24 rfl) g_8 g_9 (fun C_11 eC_11 => ?_)
    have h := h C_11 eC_11
    refine AW.iload (dc hd_F_alter 25 rfl) rfl ?_
    exact AW.iret (dc hd_F_alter 26 rfl) rfl rfl (Nat.le_of_ble_eq_true rfl) (Nat.le_of_ble_eq_true rfl) ⟨rfl, h⟩
  · have h := h.1 c_6
    refine AW.ra_n (dc hd_F_alter 5 rfl) rfl rfl rfl ?_
    refine AW.iconst (dc hd_F_alter 6 rfl) (by decide) ?_
    refine AW.callV (As := [(0, 0)]) (rest := []) (ci := 9) (m_F_tell l E n C v0 0 _ h) cb_9_101 im_F_tell se_F_tell ⟨_, _, rfl⟩ (by decide) (dc hd_F_alter 7 rfl) g_2 rfl rfl ⟨Nat.le_of_ble_eq_true rfl, Nat.le_of_ble_eq_true rfl⟩ ⟨(Nat.le_of_ble_eq_true rfl), (Nat.le_of_ble_eq_true rfl)⟩ (Nat.le_of_ble_eq_true rfl) (fun _ h => by cases h) (fun _ => rfl) (fun r_12 C_13 d_15 q_14 => ?_)
    obtain ⟨q_14a, h⟩ := q_14
    subst d_15
    show AW p l e _ s m args below meth c E M_F_alter true _ n _ _ _ [(2, v0), (0, v1), (0, v2), (0, v3), (9, 0), (9, 0)] [(0, r_12)] C_13
    exact AW.iret (dc hd_F_alter 8 rfl) rfl rfl (Nat.le_of_ble_eq_true rfl) (Nat.le_of_ble_eq_true rfl) ⟨rfl, h⟩
def B_F_isRowOfField_2 (n : Nat) (C : Cn) (v0 v1 : Int) (Q : Int → Prop) (kz2 : Int → Prop) (v2 : Int) : Prop :=
  (4 ≤ v2 → (Q 1)) ∧ (¬ 4 ≤ v2 → (okO n v0 9 ∧ (okO n (PT v0.toNat 12) 12 ∧ (okI (PT v0.toNat 12) (w32 (w32 (v1 * 4) + v2)) ∧ (okO n (PT v0.toNat 3) 2 ∧ (P_La_numberOf n C (PT v0.toNat 3) v1 v2 (fun (r_5 : Int) => (C (PT v0.toNat 12).toNat (w32 (w32 (v1 * 4) + v2)).toNat = r_5 → (kz2 (w32 (v2 + 1)))) ∧ (¬ C (PT v0.toNat 12).toNat (w32 (w32 (v1 * 4) + v2)).toNat = r_5 → (Q 0)))))))))
theorem bB_F_isRowOfField_2 (n : Nat) (C : Cn) (v0 v1 : Int) (Q : Int → Prop) (kz2 : Int → Prop) (hkz2 : ∀ (z2 : Int), kz2 z2 → AW p l e R s m args below meth c E M_F_isRowOfField true (fun r C2 n2 => C2 = C ∧ n2 = n ∧ Q r) n 0 0 2 [(2, v0), (0, v1), (0, z2)] [] C) (v2 : Int) (h : B_F_isRowOfField_2 n C v0 v1 Q kz2 v2) : AW p l e R s m args below meth c E M_F_isRowOfField true (fun r C2 n2 => C2 = C ∧ n2 = n ∧ Q r) n 0 0 2 [(2, v0), (0, v1), (0, v2)] [] C := by
  unfold B_F_isRowOfField_2 at h
  refine AW.iload_n (dc hd_F_isRowOfField 2 rfl) rfl ?_
  refine AW.iconst (dc hd_F_isRowOfField 3 rfl) (by decide) ?_
  refine AW.icmp_ge (t := 37) (dc hd_F_isRowOfField 4 rfl) (by decide) (fun c_1 => ?_) (fun c_1 => ?_)
  · have h := h.1 c_1
    refine AW.iconst (dc hd_F_isRowOfField 23 rfl) (by decide) ?_
    exact AW.zret (dc hd_F_isRowOfField 24 rfl) rfl rfl (Nat.le_of_ble_eq_true rfl) (Nat.le_of_ble_eq_true rfl) (by decide) ⟨rfl, rfl, h⟩
  · have h := h.2 c_1
    refine AW.ra_n (dc hd_F_isRowOfField 5 rfl) rfl rfl rfl ?_
    obtain ⟨g_2, h⟩ := h
    refine AW.getp fl_9_82 (dc hd_F_isRowOfField 6 rfl) g_2 rfl ?_
    refine AW.iload_n (dc hd_F_isRowOfField 7 rfl) rfl ?_
    refine AW.iconst (dc hd_F_isRowOfField 8 rfl) (by decide) ?_
    refine AW.imul (dc hd_F_isRowOfField 9 rfl) ?_
    refine AW.iload_n (dc hd_F_isRowOfField 10 rfl) rfl ?_
    refine AW.iadd (dc hd_F_isRowOfField 11 rfl) ?_
    obtain ⟨g_3, h⟩ := h
    obtain ⟨g_4, h⟩ := h
    refine AW.iald (dc hd_F_isRowOfField 12 rfl) g_3 g_4 ?_
    refine AW.ra_n (dc hd_F_isRowOfField 13 rfl) rfl rfl rfl ?_
    refine AW.getp fl_9_25 (dc hd_F_isRowOfField 14 rfl) g_2 rfl ?_
    refine AW.iload_n (dc hd_F_isRowOfField 15 rfl) rfl ?_
    refine AW.iload_n (dc hd_F_isRowOfField 16 rfl) rfl ?_
    obtain ⟨g_6, h⟩ := h
    refine AW.callV (As := [(0, v1), (0, v2)]) (rest := [(0, C (PT v0.toNat 12).toNat (w32 (w32 (v1 * 4) + v2)).toNat)]) (ci := 2) (m_La_numberOf l E n C (PT v0.toNat 3) v1 v2 _ h) cb_9_212 im_La_numberOf se_La_numberOf ⟨_, _, rfl⟩ (by decide) (dc hd_F_isRowOfField 17 rfl) g_6 rfl rfl ⟨Nat.le_of_ble_eq_true rfl, Nat.le_of_ble_eq_true rfl⟩ ⟨(Nat.le_of_ble_eq_true rfl), (Nat.le_of_ble_eq_true rfl)⟩ (Nat.le_of_ble_eq_true rfl) (fun _ h => by cases h) (fun _ => rfl) (fun r_5 D_8 d_9 q_7 => ?_)
    obtain ⟨q_7a, q_7b, h⟩ := q_7
    subst D_8
    subst d_9
    show AW p l e _ s m args below meth c E M_F_isRowOfField true _ n _ _ _ [(2, v0), (0, v1), (0, v2)] [(0, r_5), (0, C (PT v0.toNat 12).toNat (w32 (w32 (v1 * 4) + v2)).toNat)] C
    refine AW.icmp_eq (t := 31) (dc hd_F_isRowOfField 18 rfl) (by decide) (fun c_10 => ?_) (fun c_10 => ?_)
    · have h := h.1 c_10
      refine AW.iinc [(2, v0), (0, v1), (0, w32 (v2 + 1))] (dc hd_F_isRowOfField 21 rfl) rfl (Nat.le_of_ble_eq_true rfl) rfl rfl ?_
      refine AW.goto (t := 2) (dc hd_F_isRowOfField 22 rfl) (by decide) ?_
      exact hkz2 (w32 (v2 + 1)) h
    · have h := h.2 c_10
      refine AW.iconst (dc hd_F_isRowOfField 19 rfl) (by decide) ?_
      exact AW.zret (dc hd_F_isRowOfField 20 rfl) rfl rfl (Nat.le_of_ble_eq_true rfl) (Nat.le_of_ble_eq_true rfl) (by decide) ⟨rfl, rfl, h⟩
theorem aB_F_isRowOfField_2 (n : Nat) (C : Cn) (v0 v1 : Int) (Q : Int → Prop) : ∀ (f : Nat) (z : Int), lp (B_F_isRowOfField_2 n C v0 v1 Q) f z → AW p l e R s m args below meth c E M_F_isRowOfField true (fun r C2 n2 => C2 = C ∧ n2 = n ∧ Q r) n 0 0 2 [(2, v0), (0, v1), (0, z)] [] C := by
  intro f
  induction f with
  | zero => intro z h; exact False.elim h
  | succ f ih => intro z h; exact bB_F_isRowOfField_2 n C v0 v1 Q (lp (B_F_isRowOfField_2 n C v0 v1 Q) f) (fun a0 h => ih a0 h) z h
def P_F_isRowOfField (n : Nat) (C : Cn) (v0 v1 : Int) (Q : Int → Prop) : Prop :=
  ∃ f_11 : Nat, lp (B_F_isRowOfField_2 n C v0 v1 Q) f_11 0
theorem m_F_isRowOfField (l : Launch) (E : Ev) (n : Nat) (C : Cn) (v0 v1 : Int) (Q : Int → Prop) (h : P_F_isRowOfField n C v0 v1 Q) : MA l y_F_isRowOfField M_F_isRowOfField E true C n [(2, v0), (0, v1)] (fun r C2 n2 => C2 = C ∧ n2 = n ∧ Q r) := by
  refine MA.of (by decide) rfl rfl 1 rfl (fun p e s m args below meth c => ?_)
  show AW p l e _ s m args below meth c E M_F_isRowOfField true _ n 0 0 0 [(2, v0), (0, v1), (9, 0)] [] C
  unfold P_F_isRowOfField at h
  refine AW.iconst (dc hd_F_isRowOfField 0 rfl) (by decide) ?_
  refine AW.istore_n [(2, v0), (0, v1), (0, 0)] (dc hd_F_isRowOfField 1 rfl) (Nat.le_of_ble_eq_true rfl) rfl rfl ?_
  obtain ⟨f_11, h⟩ := h
  exact aB_F_isRowOfField_2 n C v0 v1 Q f_11 0 h
def J_F_judge_61 (n : Nat) (C : Cn) (s0 : Int) (Q : Int → Prop) : Prop :=
  Q s0
theorem aJ_F_judge_61 (n : Nat) (C : Cn) (s0 : Int) (Q : Int → Prop) (h : J_F_judge_61 n C s0 Q) : AW p l e R s m args below meth c E M_F_judge true (fun r C2 n2 => C2 = C ∧ n2 = n ∧ Q r) n 0 0 61 [(9, 0), (9, 0), (9, 0)] [(0, s0)] C := by
  unfold J_F_judge_61 at h
  exact AW.iret (dc hd_F_judge 33 rfl) rfl rfl (Nat.le_of_ble_eq_true rfl) (Nat.le_of_ble_eq_true rfl) ⟨rfl, rfl, h⟩
def J_F_judge_40 (n : Nat) (C : Cn) (v0 v1 : Int) (Q : Int → Prop) : Prop :=
  okO n v0 9 ∧ (okO n (PT v0.toNat 3) 2 ∧ (J_F_judge_61 n C (if C v0.toNat 14 = C (PT v0.toNat 3).toNat 14 then 0 else w32 (1 + v1)) Q))
theorem aJ_F_judge_40 (n : Nat) (C : Cn) (v0 v1 : Int) (Q : Int → Prop) (h : J_F_judge_40 n C v0 v1 Q) : AW p l e R s m args below meth c E M_F_judge true (fun r C2 n2 => C2 = C ∧ n2 = n ∧ Q r) n 0 0 40 [(2, v0), (0, v1), (9, 0)] [] C := by
  unfold J_F_judge_40 at h
  refine AW.ra_n (dc hd_F_judge 22 rfl) rfl rfl rfl ?_
  obtain ⟨g_5, h⟩ := h
  refine AW.getf fl_9_358 (dc hd_F_judge 23 rfl) g_5 ?_
  refine AW.ra_n (dc hd_F_judge 24 rfl) rfl rfl rfl ?_
  refine AW.getp fl_9_25 (dc hd_F_judge 25 rfl) g_5 rfl ?_
  obtain ⟨g_6, h⟩ := h
  refine AW.getf fl_9_187 (dc hd_F_judge 26 rfl) g_6 ?_
  refine AW.icmp_ne (t := 58) (dc hd_F_judge 27 rfl) (by decide) (fun c_7 => ?_) (fun c_7 => ?_)
  · simp only [if_neg (show ¬ (C v0.toNat 14 = C (PT v0.toNat 3).toNat 14) from c_7)] at h
    refine AW.iconst (dc hd_F_judge 30 rfl) (by decide) ?_
    refine AW.iload_n (dc hd_F_judge 31 rfl) rfl ?_
    refine AW.iadd (dc hd_F_judge 32 rfl) ?_
    refine AW.fgt [(9, 0), (9, 0), (9, 0)] ⟨.inr rfl, .inr rfl, .inl rfl, trivial⟩ ?_
    exact aJ_F_judge_61 n C _ Q h
  · simp only [if_pos (show C v0.toNat 14 = C (PT v0.toNat 3).toNat 14 from c_7)] at h
    refine AW.iconst (dc hd_F_judge 28 rfl) (by decide) ?_
    refine AW.goto (t := 61) (dc hd_F_judge 29 rfl) (by decide) ?_
    refine AW.fgt [(9, 0), (9, 0), (9, 0)] ⟨.inr rfl, .inr rfl, .inl rfl, trivial⟩ ?_
    exact aJ_F_judge_61 n C _ Q h
def B_F_judge_17 (n : Nat) (C : Cn) (v0 v1 : Int) (Q : Int → Prop) (kz17 : Int → Prop) (v2 : Int) : Prop :=
  (v1 ≤ v2 → (J_F_judge_40 n C v0 v1 Q)) ∧ (¬ v1 ≤ v2 → (okO n v0 9 ∧ (P_F_isRowOfField n C v0 v2 (fun (r_8 : Int) => (r_8 = 0 → (Q (w32 (1 + v2)))) ∧ (¬ r_8 = 0 → (kz17 (w32 (v2 + 1))))))))
theorem bB_F_judge_17 (n : Nat) (C : Cn) (v0 v1 : Int) (Q : Int → Prop) (kz17 : Int → Prop) (hkz17 : ∀ (z2 : Int), kz17 z2 → AW p l e R s m args below meth c E M_F_judge true (fun r C2 n2 => C2 = C ∧ n2 = n ∧ Q r) n 0 0 17 [(2, v0), (0, v1), (0, z2)] [] C) (v2 : Int) (h : B_F_judge_17 n C v0 v1 Q kz17 v2) : AW p l e R s m args below meth c E M_F_judge true (fun r C2 n2 => C2 = C ∧ n2 = n ∧ Q r) n 0 0 17 [(2, v0), (0, v1), (0, v2)] [] C := by
  unfold B_F_judge_17 at h
  refine AW.iload_n (dc hd_F_judge 9 rfl) rfl ?_
  refine AW.iload_n (dc hd_F_judge 10 rfl) rfl ?_
  refine AW.icmp_ge (t := 40) (dc hd_F_judge 11 rfl) (by decide) (fun c_4 => ?_) (fun c_4 => ?_)
  · have h := h.1 c_4
    refine AW.fgt [(2, v0), (0, v1), (9, 0)] ⟨.inl rfl, .inl rfl, .inr rfl, trivial⟩ ?_
    exact aJ_F_judge_40 n C v0 v1 Q h
  · have h := h.2 c_4
    refine AW.ra_n (dc hd_F_judge 12 rfl) rfl rfl rfl ?_
    refine AW.iload_n (dc hd_F_judge 13 rfl) rfl ?_
    obtain ⟨g_9, h⟩ := h
    refine AW.callV (As := [(0, v2)]) (rest := []) (ci := 9) (m_F_isRowOfField l E n C v0 v2 _ h) cb_9_369 im_F_isRowOfField se_F_isRowOfField ⟨_, _, rfl⟩ (by decide) (dc hd_F_judge 14 rfl) g_9 rfl rfl ⟨Nat.le_of_ble_eq_true rfl, Nat.le_of_ble_eq_true rfl⟩ ⟨(Nat.le_of_ble_eq_true rfl), (Nat.le_of_ble_eq_true rfl)⟩ (Nat.le_of_ble_eq_true rfl) (fun _ h => by cases h) (fun _ => rfl) (fun r_8 D_11 d_12 q_10 => ?_)
    obtain ⟨q_10a, q_10b, h⟩ := q_10
    subst D_11
    subst d_12
    show AW p l e _ s m args below meth c E M_F_judge true _ n _ _ _ [(2, v0), (0, v1), (0, v2)] [(0, r_8)] C
    refine AW.if_ne (t := 34) (dc hd_F_judge 15 rfl) (by decide) (fun c_13 => ?_) (fun c_13 => ?_)
    · have h := h.2 c_13
      refine AW.iinc [(2, v0), (0, v1), (0, w32 (v2 + 1))] (dc hd_F_judge 20 rfl) rfl (Nat.le_of_ble_eq_true rfl) rfl rfl ?_
      refine AW.goto (t := 17) (dc hd_F_judge 21 rfl) (by decide) ?_
      exact hkz17 (w32 (v2 + 1)) h
    · have h := h.1 c_13
      refine AW.iconst (dc hd_F_judge 16 rfl) (by decide) ?_
      refine AW.iload_n (dc hd_F_judge 17 rfl) rfl ?_
      refine AW.iadd (dc hd_F_judge 18 rfl) ?_
      exact AW.iret (dc hd_F_judge 19 rfl) rfl rfl (Nat.le_of_ble_eq_true rfl) (Nat.le_of_ble_eq_true rfl) ⟨rfl, rfl, h⟩
theorem aB_F_judge_17 (n : Nat) (C : Cn) (v0 v1 : Int) (Q : Int → Prop) : ∀ (f : Nat) (z : Int), lp (B_F_judge_17 n C v0 v1 Q) f z → AW p l e R s m args below meth c E M_F_judge true (fun r C2 n2 => C2 = C ∧ n2 = n ∧ Q r) n 0 0 17 [(2, v0), (0, v1), (0, z)] [] C := by
  intro f
  induction f with
  | zero => intro z h; exact False.elim h
  | succ f ih => intro z h; exact bB_F_judge_17 n C v0 v1 Q (lp (B_F_judge_17 n C v0 v1 Q) f) (fun a0 h => ih a0 h) z h
def P_F_judge (n : Nat) (C : Cn) (v0 : Int) (Q : Int → Prop) : Prop :=
  okO n v0 9 ∧ (okO n (PT v0.toNat 3) 2 ∧ (∀ v1_3 : Int, v1_3 = imin (C v0.toNat 14) (C (PT v0.toNat 3).toNat 14) → (∃ f_14 : Nat, lp (B_F_judge_17 n C v0 v1_3 Q) f_14 0)))
theorem m_F_judge (l : Launch) (E : Ev) (n : Nat) (C : Cn) (v0 : Int) (Q : Int → Prop) (h : P_F_judge n C v0 Q) : MA l y_F_judge M_F_judge E true C n [(2, v0)] (fun r C2 n2 => C2 = C ∧ n2 = n ∧ Q r) := by
  refine MA.of (by decide) rfl rfl 2 rfl (fun p e s m args below meth c => ?_)
  show AW p l e _ s m args below meth c E M_F_judge true _ n 0 0 0 [(2, v0), (9, 0), (9, 0)] [] C
  unfold P_F_judge at h
  refine AW.ra_n (dc hd_F_judge 0 rfl) rfl rfl rfl ?_
  obtain ⟨g_1, h⟩ := h
  refine AW.getf fl_9_358 (dc hd_F_judge 1 rfl) g_1 ?_
  refine AW.ra_n (dc hd_F_judge 2 rfl) rfl rfl rfl ?_
  refine AW.getp fl_9_25 (dc hd_F_judge 3 rfl) g_1 rfl ?_
  obtain ⟨g_2, h⟩ := h
  refine AW.getf fl_9_187 (dc hd_F_judge 4 rfl) g_2 ?_
  refine AW.mmin (dc hd_F_judge 5 rfl) mt_9_364 (Nat.le_of_ble_eq_true rfl) (Nat.le_of_ble_eq_true rfl) (Nat.le_of_ble_eq_true rfl) (Nat.le_of_ble_eq_true rfl) (Nat.le_of_ble_eq_true rfl) ?_
  refine AW.nm (fun v1_3 ev1_3 => ?_)
  have h := h v1_3 ev1_3
  refine AW.istore_n [(2, v0), (0, v1_3), (9, 0)] (dc hd_F_judge 6 rfl) (Nat.le_of_ble_eq_true rfl) rfl rfl ?_
  refine AW.iconst (dc hd_F_judge 7 rfl) (by decide) ?_
  refine AW.istore_n [(2, v0), (0, v1_3), (0, 0)] (dc hd_F_judge 8 rfl) (Nat.le_of_ble_eq_true rfl) rfl rfl ?_
  obtain ⟨f_14, h⟩ := h
  exact aB_F_judge_17 n C v0 v1_3 Q f_14 0 h
end
