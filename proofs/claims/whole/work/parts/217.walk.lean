section
variable {p : Program} {l : Launch} {e : Env} {R : Room} {s : State} {m : MethodId} {args : Array Value} {below : List Frame} {meth : Method} {c : Code} {E : Ev}
def J_G_loose_147 (n : Nat) (C : Cn) (v0 v1 v2 v3 v6 s0 s1 : Int) (kz42 : Cn × Int × Int → Prop) (Q : Int → Cn → Prop) : Prop :=
  kz42 (C, w32 (s0 + s1), w32 (v6 + 1))
theorem aJ_G_loose_147 (n : Nat) (C : Cn) (v0 v1 v2 v3 v6 s0 s1 : Int) (kz42 : Cn × Int × Int → Prop) (Q : Int → Cn → Prop) (hkz42 : ∀ (Cz : Cn) (z5 : Int) (z6 : Int), kz42 (Cz, z5, z6) → AW p l e R s m args below meth c E M_G_loose true (fun r C2 n2 => n2 = n ∧ Q r C2) n 0 0 42 [(2, v0), (0, v1), (0, v2), (1, v3), (9, 0), (0, z5), (0, z6), (9, 0), (9, 0), (9, 0), (9, 0)] [] Cz) (h : J_G_loose_147 n C v0 v1 v2 v3 v6 s0 s1 kz42 Q) : AW p l e R s m args below meth c E M_G_loose true (fun r C2 n2 => n2 = n ∧ Q r C2) n 0 0 147 [(2, v0), (0, v1), (0, v2), (1, v3), (9, 0), (9, 0), (0, v6), (9, 0), (9, 0), (9, 0), (9, 0)] [(0, s1), (0, s0)] C := by
  unfold J_G_loose_147 at h
  refine AW.iadd (dc hd_G_loose 78 rfl) ?_
  refine AW.istore [(2, v0), (0, v1), (0, v2), (1, v3), (9, 0), (0, w32 (s0 + s1)), (0, v6), (9, 0), (9, 0), (9, 0), (9, 0)] (dc hd_G_loose 79 rfl) (Nat.le_of_ble_eq_true rfl) rfl rfl ?_
  refine AW.iinc [(2, v0), (0, v1), (0, v2), (1, v3), (9, 0), (0, w32 (s0 + s1)), (0, w32 (v6 + 1)), (9, 0), (9, 0), (9, 0), (9, 0)] (dc hd_G_loose 80 rfl) rfl (Nat.le_of_ble_eq_true rfl) rfl rfl ?_
  refine AW.goto (t := 42) (dc hd_G_loose 81 rfl) (by decide) ?_
  exact hkz42 C (w32 (s0 + s1)) (w32 (v6 + 1)) h
def J_G_loose_106 (n : Nat) (C : Cn) (v0 v2 v3 : Int) (Q : Int → Cn → Prop) : Prop :=
  okO n v0 10 ∧ (∀ C_41 : Cn, C_41 = wr C v0.toNat 4 v2 → (∀ C_42 : Cn, C_42 = wr C_41 v0.toNat 3 v3 → (P_G_finds n C_42 v0 7 (fun (r_43 : Int) (C_44 : Cn) => Q r_43 C_44))))
theorem aJ_G_loose_106 (n : Nat) (C : Cn) (v0 v2 v3 : Int) (Q : Int → Cn → Prop) (h : J_G_loose_106 n C v0 v2 v3 Q) : AW p l e R s m args below meth c E M_G_loose true (fun r C2 n2 => n2 = n ∧ Q r C2) n 0 0 106 [(2, v0), (9, 0), (0, v2), (1, v3), (9, 0), (9, 0), (9, 0), (9, 0), (9, 0), (9, 0), (9, 0)] [] C := by
  unfold J_G_loose_106 at h
  refine AW.ra_n (dc hd_G_loose 55 rfl) rfl rfl rfl ?_
  refine AW.iload_n (dc hd_G_loose 56 rfl) rfl ?_
  obtain ⟨g_40, h⟩ := h
  refine AW.nputI fl_10_14 (dc hd_G_loose 57 rfl) g_40 (fun C_41 eC_41 => ?_)
  have h := h C_41 eC_41
  refine AW.ra_n (dc hd_G_loose 58 rfl) rfl rfl rfl ?_
  refine AW.lload_n (dc hd_G_loose 59 rfl) rfl ?_
  refine AW.nputJ fl_10_379 (dc hd_G_loose 60 rfl) g_40 (fun C_42 eC_42 => ?_)
  have h := h C_42 eC_42
  refine AW.ra_n (dc hd_G_loose 61 rfl) rfl rfl rfl ?_
  refine AW.bipush (dc hd_G_loose 62 rfl) (by decide) (by decide +kernel) ?_
  refine AW.callV (As := [(0, 7)]) (rest := []) (ci := 10) (m_G_finds l E n C_42 v0 7 _ h) cb_10_186 im_G_finds se_G_finds ⟨_, _, rfl⟩ (by decide) (dc hd_G_loose 63 rfl) g_40 rfl rfl ⟨Nat.le_of_ble_eq_true rfl, Nat.le_of_ble_eq_true rfl⟩ ⟨(Nat.le_of_ble_eq_true rfl), (Nat.le_of_ble_eq_true rfl)⟩ (Nat.le_of_ble_eq_true rfl) (fun _ h => by cases h) (fun _ => rfl) (fun r_43 C_44 d_46 q_45 => ?_)
  obtain ⟨q_45a, h⟩ := q_45
  subst d_46
  show AW p l e _ s m args below meth c E M_G_loose true _ n _ _ _ [(2, v0), (9, 0), (0, v2), (1, v3), (9, 0), (9, 0), (9, 0), (9, 0), (9, 0), (9, 0), (9, 0)] [(0, r_43)] C_44
  exact AW.iret (dc hd_G_loose 64 rfl) rfl rfl (Nat.le_of_ble_eq_true rfl) (Nat.le_of_ble_eq_true rfl) ⟨rfl, h⟩
def J_G_loose_91 (n : Nat) (C : Cn) (v0 v1 v2 v3 v5 v6 v9 s0 : Int) (kz42 : Cn × Int × Int → Prop) (Q : Int → Cn → Prop) : Prop :=
  okO n v0 10 ∧ (P_G_isTooMuch n C (C v0.toNat 3) s0 (fun (r_33 : Int) => (r_33 = 0 → (∀ C_38 : Cn, C_38 = wr C v0.toNat 3 (w64 (C v0.toNat 3 + s0)) → (J_G_loose_147 n C_38 v0 v1 v2 v3 v6 v5 (if v9 = 0 then 0 else 1) kz42 Q))) ∧ (¬ r_33 = 0 → (J_G_loose_106 n C v0 v2 v3 Q))))
theorem aJ_G_loose_91 (n : Nat) (C : Cn) (v0 v1 v2 v3 v5 v6 v9 s0 : Int) (kz42 : Cn × Int × Int → Prop) (Q : Int → Cn → Prop) (hkz42 : ∀ (Cz : Cn) (z5 : Int) (z6 : Int), kz42 (Cz, z5, z6) → AW p l e R s m args below meth c E M_G_loose true (fun r C2 n2 => n2 = n ∧ Q r C2) n 0 0 42 [(2, v0), (0, v1), (0, v2), (1, v3), (9, 0), (0, z5), (0, z6), (9, 0), (9, 0), (9, 0), (9, 0)] [] Cz) (h : J_G_loose_91 n C v0 v1 v2 v3 v5 v6 v9 s0 kz42 Q) : AW p l e R s m args below meth c E M_G_loose true (fun r C2 n2 => n2 = n ∧ Q r C2) n 0 0 91 [(2, v0), (0, v1), (0, v2), (1, v3), (9, 0), (0, v5), (0, v6), (9, 0), (9, 0), (0, v9), (9, 0)] [(0, s0)] C := by
  unfold J_G_loose_91 at h
  refine AW.istore [(2, v0), (0, v1), (0, v2), (1, v3), (9, 0), (0, v5), (0, v6), (9, 0), (9, 0), (0, v9), (0, s0)] (dc hd_G_loose 48 rfl) (Nat.le_of_ble_eq_true rfl) rfl rfl ?_
  refine AW.ra_n (dc hd_G_loose 49 rfl) rfl rfl rfl ?_
  obtain ⟨g_32, h⟩ := h
  refine AW.getf fl_10_379 (dc hd_G_loose 50 rfl) g_32 ?_
  refine AW.iload (dc hd_G_loose 51 rfl) rfl ?_
  refine AW.i2l (dc hd_G_loose 52 rfl) ?_
  refine AW.callS (As := [(1, C v0.toNat 3), (1, s0)]) (rest := []) (m_G_isTooMuch l E n C (C v0.toNat 3) s0 _ h) cb_10_386 sm_G_isTooMuch (dc hd_G_loose 53 rfl) rfl rfl ⟨Nat.le_of_ble_eq_true rfl, Nat.le_of_ble_eq_true rfl⟩ ⟨(Nat.le_of_ble_eq_true rfl), (Nat.le_of_ble_eq_true rfl)⟩ (Nat.le_of_ble_eq_true rfl) (fun _ h => by cases h) (fun _ => rfl) (fun r_33 D_35 d_36 q_34 => ?_)
  obtain ⟨q_34a, q_34b, h⟩ := q_34
  subst D_35
  subst d_36
  show AW p l e _ s m args below meth c E M_G_loose true _ n _ _ _ [(2, v0), (0, v1), (0, v2), (1, v3), (9, 0), (0, v5), (0, v6), (9, 0), (9, 0), (0, v9), (0, s0)] [(0, r_33)] C
  refine AW.if_eq (t := 123) (dc hd_G_loose 54 rfl) (by decide) (fun c_37 => ?_) (fun c_37 => ?_)
  · have h := h.1 c_37
    refine AW.ra_n (dc hd_G_loose 65 rfl) rfl rfl rfl ?_
    refine AW.rdup (dc hd_G_loose 66 rfl) rfl ?_
    refine AW.getf fl_10_379 (dc hd_G_loose 67 rfl) g_32 ?_
    refine AW.iload (dc hd_G_loose 68 rfl) rfl ?_
    refine AW.i2l (dc hd_G_loose 69 rfl) ?_
    refine AW.ladd (dc hd_G_loose 70 rfl) ?_
    refine AW.nputJ fl_10_379 (dc hd_G_loose 71 rfl) g_32 (fun C_38 eC_38 => ?_)
    have h := h C_38 eC_38
    refine AW.iload (dc hd_G_loose 72 rfl) rfl ?_
    refine AW.iload (dc hd_G_loose 73 rfl) rfl ?_
    refine AW.if_eq (t := 146) (dc hd_G_loose 74 rfl) (by decide) (fun c_39 => ?_) (fun c_39 => ?_)
    · simp only [if_pos c_39] at h
      refine AW.iconst (dc hd_G_loose 77 rfl) (by decide) ?_
      refine AW.fgt [(2, v0), (0, v1), (0, v2), (1, v3), (9, 0), (9, 0), (0, v6), (9, 0), (9, 0), (9, 0), (9, 0)] ⟨.inl rfl, .inl rfl, .inl rfl, .inl rfl, .inl rfl, .inr rfl, .inl rfl, .inl rfl, .inl rfl, .inr rfl, .inr rfl, trivial⟩ ?_
      exact aJ_G_loose_147 n C_38 _ _ _ _ _ _ _ kz42 Q hkz42 h
    · simp only [if_neg c_39] at h
      refine AW.iconst (dc hd_G_loose 75 rfl) (by decide) ?_
      refine AW.goto (t := 147) (dc hd_G_loose 76 rfl) (by decide) ?_
      refine AW.fgt [(2, v0), (0, v1), (0, v2), (1, v3), (9, 0), (9, 0), (0, v6), (9, 0), (9, 0), (9, 0), (9, 0)] ⟨.inl rfl, .inl rfl, .inl rfl, .inl rfl, .inl rfl, .inr rfl, .inl rfl, .inl rfl, .inl rfl, .inr rfl, .inr rfl, trivial⟩ ?_
      exact aJ_G_loose_147 n C_38 _ _ _ _ _ _ _ kz42 Q hkz42 h
  · have h := h.2 c_37
    refine AW.fgt [(2, v0), (9, 0), (0, v2), (1, v3), (9, 0), (9, 0), (9, 0), (9, 0), (9, 0), (9, 0), (9, 0)] ⟨.inl rfl, .inr rfl, .inl rfl, .inl rfl, .inl rfl, .inr rfl, .inr rfl, .inl rfl, .inl rfl, .inr rfl, .inr rfl, trivial⟩ ?_
    exact aJ_G_loose_106 n C v0 v2 v3 Q h
def B_G_loose_42 (n : Nat) (v0 v1 v2 v3 : Int) (Q : Int → Cn → Prop) (kz42 : Cn × Int × Int → Prop) (z : Cn × Int × Int) : Prop := match z with
  | (C, v5, v6) => (v1 ≤ v6 → (Q v5 C)) ∧ (¬ v1 ≤ v6 → (okO n v0 10 ∧ (P_G_drawn n C v0 (fun (r_18 : Int) (C_20 : Cn) => P_G_drawn n C_20 v0 (fun (r_23 : Int) (C_24 : Cn) => P_G_isFree n C_24 v0 r_18 r_23 (fun (r_27 : Int) (C_28 : Cn) => (r_27 = 0 → (J_G_loose_91 n C_28 v0 v1 v2 v3 v5 v6 r_27 1 kz42 Q)) ∧ (¬ r_27 = 0 → (P_G_searched n C_28 v0 (C_28 v0.toNat 23) (C_28 v0.toNat 24) (fun (r_47 : Int) (C_48 : Cn) => J_G_loose_91 n C_48 v0 v1 v2 v3 v5 v6 r_27 r_47 kz42 Q)))))))))
theorem bB_G_loose_42 (n : Nat) (v0 v1 v2 v3 : Int) (Q : Int → Cn → Prop) (kz42 : Cn × Int × Int → Prop) (hkz42 : ∀ (Cz : Cn) (z5 : Int) (z6 : Int), kz42 (Cz, z5, z6) → AW p l e R s m args below meth c E M_G_loose true (fun r C2 n2 => n2 = n ∧ Q r C2) n 0 0 42 [(2, v0), (0, v1), (0, v2), (1, v3), (9, 0), (0, z5), (0, z6), (9, 0), (9, 0), (9, 0), (9, 0)] [] Cz) (C : Cn) (v5 : Int) (v6 : Int) (h : B_G_loose_42 n v0 v1 v2 v3 Q kz42 (C, v5, v6)) : AW p l e R s m args below meth c E M_G_loose true (fun r C2 n2 => n2 = n ∧ Q r C2) n 0 0 42 [(2, v0), (0, v1), (0, v2), (1, v3), (9, 0), (0, v5), (0, v6), (9, 0), (9, 0), (9, 0), (9, 0)] [] C := by
  unfold B_G_loose_42 at h
  dsimp only at h
  refine AW.iload (dc hd_G_loose 24 rfl) rfl ?_
  refine AW.iload_n (dc hd_G_loose 25 rfl) rfl ?_
  refine AW.icmp_ge (t := 156) (dc hd_G_loose 26 rfl) (by decide) (fun c_17 => ?_) (fun c_17 => ?_)
  · have h := h.1 c_17
    refine AW.iload (dc hd_G_loose 82 rfl) rfl ?_
    exact AW.iret (dc hd_G_loose 83 rfl) rfl rfl (Nat.le_of_ble_eq_true rfl) (Nat.le_of_ble_eq_true rfl) ⟨rfl, h⟩
  · have h := h.2 c_17
    refine AW.ra_n (dc hd_G_loose 27 rfl) rfl rfl rfl ?_
    obtain ⟨g_19, h⟩ := h
    refine AW.callV (As := []) (rest := []) (ci := 10) (m_G_drawn l E n C v0 _ h) cb_10_383 im_G_drawn se_G_drawn ⟨_, _, rfl⟩ (by decide) (dc hd_G_loose 28 rfl) g_19 rfl rfl ⟨Nat.le_of_ble_eq_true rfl, Nat.le_of_ble_eq_true rfl⟩ ⟨(Nat.le_of_ble_eq_true rfl), (Nat.le_of_ble_eq_true rfl)⟩ (Nat.le_of_ble_eq_true rfl) (fun _ h => by cases h) (fun _ => rfl) (fun r_18 C_20 d_22 q_21 => ?_)
    obtain ⟨q_21a, h⟩ := q_21
    subst d_22
    show AW p l e _ s m args below meth c E M_G_loose true _ n _ _ _ [(2, v0), (0, v1), (0, v2), (1, v3), (9, 0), (0, v5), (0, v6), (9, 0), (9, 0), (9, 0), (9, 0)] [(0, r_18)] C_20
    refine AW.istore [(2, v0), (0, v1), (0, v2), (1, v3), (9, 0), (0, v5), (0, v6), (0, r_18), (9, 0), (9, 0), (9, 0)] (dc hd_G_loose 29 rfl) (Nat.le_of_ble_eq_true rfl) rfl rfl ?_
    refine AW.ra_n (dc hd_G_loose 30 rfl) rfl rfl rfl ?_
    refine AW.callV (As := []) (rest := []) (ci := 10) (m_G_drawn l E n C_20 v0 _ h) cb_10_383 im_G_drawn se_G_drawn ⟨_, _, rfl⟩ (by decide) (dc hd_G_loose 31 rfl) g_19 rfl rfl ⟨Nat.le_of_ble_eq_true rfl, Nat.le_of_ble_eq_true rfl⟩ ⟨(Nat.le_of_ble_eq_true rfl), (Nat.le_of_ble_eq_true rfl)⟩ (Nat.le_of_ble_eq_true rfl) (fun _ h => by cases h) (fun _ => rfl) (fun r_23 C_24 d_26 q_25 => ?_)
    obtain ⟨q_25a, h⟩ := q_25
    subst d_26
    show AW p l e _ s m args below meth c E M_G_loose true _ n _ _ _ [(2, v0), (0, v1), (0, v2), (1, v3), (9, 0), (0, v5), (0, v6), (0, r_18), (9, 0), (9, 0), (9, 0)] [(0, r_23)] C_24
    refine AW.istore [(2, v0), (0, v1), (0, v2), (1, v3), (9, 0), (0, v5), (0, v6), (0, r_18), (0, r_23), (9, 0), (9, 0)] (dc hd_G_loose 32 rfl) (Nat.le_of_ble_eq_true rfl) rfl rfl ?_
    refine AW.ra_n (dc hd_G_loose 33 rfl) rfl rfl rfl ?_
    refine AW.iload (dc hd_G_loose 34 rfl) rfl ?_
    refine AW.iload (dc hd_G_loose 35 rfl) rfl ?_
    refine AW.callV (As := [(0, r_18), (0, r_23)]) (rest := []) (ci := 10) (m_G_isFree l E n C_24 v0 r_18 r_23 _ h) cb_10_284 im_G_isFree se_G_isFree ⟨_, _, rfl⟩ (by decide) (dc hd_G_loose 36 rfl) g_19 rfl rfl ⟨Nat.le_of_ble_eq_true rfl, Nat.le_of_ble_eq_true rfl⟩ ⟨(Nat.le_of_ble_eq_true rfl), (Nat.le_of_ble_eq_true rfl)⟩ (Nat.le_of_ble_eq_true rfl) (fun _ h => by cases h) (fun _ => rfl) (fun r_27 C_28 d_30 q_29 => ?_)
    obtain ⟨q_29a, h⟩ := q_29
    subst d_30
    show AW p l e _ s m args below meth c E M_G_loose true _ n _ _ _ [(2, v0), (0, v1), (0, v2), (1, v3), (9, 0), (0, v5), (0, v6), (0, r_18), (0, r_23), (9, 0), (9, 0)] [(0, r_27)] C_28
    refine AW.istore [(2, v0), (0, v1), (0, v2), (1, v3), (9, 0), (0, v5), (0, v6), (0, r_18), (0, r_23), (0, r_27), (9, 0)] (dc hd_G_loose 37 rfl) (Nat.le_of_ble_eq_true rfl) rfl rfl ?_
    refine AW.iload (dc hd_G_loose 38 rfl) rfl ?_
    refine AW.if_eq (t := 90) (dc hd_G_loose 39 rfl) (by decide) (fun c_31 => ?_) (fun c_31 => ?_)
    · have h := h.1 c_31
      refine AW.iconst (dc hd_G_loose 47 rfl) (by decide) ?_
      refine AW.fgt [(2, v0), (0, v1), (0, v2), (1, v3), (9, 0), (0, v5), (0, v6), (9, 0), (9, 0), (0, r_27), (9, 0)] ⟨.inl rfl, .inl rfl, .inl rfl, .inl rfl, .inl rfl, .inl rfl, .inl rfl, .inr rfl, .inr rfl, .inl rfl, .inl rfl, trivial⟩ ?_
      exact aJ_G_loose_91 n C_28 v0 v1 v2 v3 v5 v6 r_27 1 kz42 Q hkz42 h
    · have h := h.2 c_31
      refine AW.ra_n (dc hd_G_loose 40 rfl) rfl rfl rfl ?_
      refine AW.ra_n (dc hd_G_loose 41 rfl) rfl rfl rfl ?_
      refine AW.getf fl_10_275 (dc hd_G_loose 42 rfl) g_19 ?_
      refine AW.ra_n (dc hd_G_loose 43 rfl) rfl rfl rfl ?_
      refine AW.getf fl_10_278 (dc hd_G_loose 44 rfl) g_19 ?_
      refine AW.callV (As := [(0, C_28 v0.toNat 23), (0, C_28 v0.toNat 24)]) (rest := []) (ci := 10) (m_G_searched l E n C_28 v0 (C_28 v0.toNat 23) (C_28 v0.toNat 24) _ h) cb_10_313 im_G_searched se_G_searched ⟨_, _, rfl⟩ (by decide) (dc hd_G_loose 45 rfl) g_19 rfl rfl ⟨Nat.le_of_ble_eq_true rfl, Nat.le_of_ble_eq_true rfl⟩ ⟨(Nat.le_of_ble_eq_true rfl), (Nat.le_of_ble_eq_true rfl)⟩ (Nat.le_of_ble_eq_true rfl) (fun _ h => by cases h) (fun _ => rfl) (fun r_47 C_48 d_50 q_49 => ?_)
      obtain ⟨q_49a, h⟩ := q_49
      subst d_50
      show AW p l e _ s m args below meth c E M_G_loose true _ n _ _ _ [(2, v0), (0, v1), (0, v2), (1, v3), (9, 0), (0, v5), (0, v6), (0, r_18), (0, r_23), (0, r_27), (9, 0)] [(0, r_47)] C_48
      refine AW.goto (t := 91) (dc hd_G_loose 46 rfl) (by decide) ?_
      refine AW.fgt [(2, v0), (0, v1), (0, v2), (1, v3), (9, 0), (0, v5), (0, v6), (9, 0), (9, 0), (0, r_27), (9, 0)] ⟨.inl rfl, .inl rfl, .inl rfl, .inl rfl, .inl rfl, .inl rfl, .inl rfl, .inr rfl, .inr rfl, .inl rfl, .inl rfl, trivial⟩ ?_
      exact aJ_G_loose_91 n C_48 v0 v1 v2 v3 v5 v6 r_27 r_47 kz42 Q hkz42 h
theorem aB_G_loose_42 (n : Nat) (v0 v1 v2 v3 : Int) (Q : Int → Cn → Prop) : ∀ (f : Nat) (z : Cn × Int × Int), lp (B_G_loose_42 n v0 v1 v2 v3 Q) f z → AW p l e R s m args below meth c E M_G_loose true (fun r C2 n2 => n2 = n ∧ Q r C2) n 0 0 42 [(2, v0), (0, v1), (0, v2), (1, v3), (9, 0), (0, z.2.1), (0, z.2.2), (9, 0), (9, 0), (9, 0), (9, 0)] [] (z.1) := by
  intro f
  induction f with
  | zero => intro z h; exact False.elim h
  | succ f ih => intro z h; exact bB_G_loose_42 n v0 v1 v2 v3 Q (lp (B_G_loose_42 n v0 v1 v2 v3 Q) f) (fun a0 a1 a2 h => ih (a0, a1, a2) h) z.1 z.2.1 z.2.2 h
def P_G_loose (n : Nat) (C : Cn) (v0 v1 : Int) (Q : Int → Cn → Prop) : Prop :=
  P_G_in n C v1 1 20 (fun (r_1 : Int) => (r_1 = 0 → (okO n v0 10 ∧ (P_G_finds n C v0 0 (fun (r_52 : Int) (C_54 : Cn) => Q r_52 C_54)))) ∧ (¬ r_1 = 0 → (okO n v0 10 ∧ (P_G_maps n C v0 (fun (_ : Int) (C_7 : Cn) => P_G_asNumbered n C_7 v0 (fun (_ : Int) (C_11 : Cn) => ∀ v2_15 : Int, v2_15 = C_11 v0.toNat 4 → (∀ v3_16 : Int, v3_16 = C_11 v0.toNat 3 → (∃ f_51 : Nat, lp (B_G_loose_42 n v0 v1 v2_15 v3_16 Q) f_51 (C_11, 0, 0)))))))))
theorem m_G_loose (l : Launch) (E : Ev) (n : Nat) (C : Cn) (v0 v1 : Int) (Q : Int → Cn → Prop) (h : P_G_loose n C v0 v1 Q) : MA l y_G_loose M_G_loose E true C n [(2, v0), (0, v1)] (fun r C2 n2 => n2 = n ∧ Q r C2) := by
  refine MA.of (by decide) rfl rfl 9 rfl (fun p e s m args below meth c => ?_)
  show AW p l e _ s m args below meth c E M_G_loose true _ n 0 0 0 [(2, v0), (0, v1), (9, 0), (9, 0), (9, 0), (9, 0), (9, 0), (9, 0), (9, 0), (9, 0), (9, 0)] [] C
  unfold P_G_loose at h
  refine AW.iload_n (dc hd_G_loose 0 rfl) rfl ?_
  refine AW.i2l (dc hd_G_loose 1 rfl) ?_
  refine AW.lconst (v := 1) (dc hd_G_loose 2 rfl) (by decide) (by decide +kernel) ?_
  refine AW.ldc2 (v := 20) (dc hd_G_loose 3 rfl) ck_10_377 (by decide) rfl ?_
  refine AW.callS (As := [(1, v1), (1, 1), (1, 20)]) (rest := []) (m_G_in l E n C v1 1 20 _ h) cb_10_113 sm_G_in (dc hd_G_loose 4 rfl) rfl rfl ⟨Nat.le_of_ble_eq_true rfl, Nat.le_of_ble_eq_true rfl⟩ ⟨(Nat.le_of_ble_eq_true rfl), (Nat.le_of_ble_eq_true rfl)⟩ (Nat.le_of_ble_eq_true rfl) (fun _ h => by cases h) (fun _ => rfl) (fun r_1 D_3 d_4 q_2 => ?_)
  obtain ⟨q_2a, q_2b, h⟩ := q_2
  subst D_3
  subst d_4
  show AW p l e _ s m args below meth c E M_G_loose true _ n _ _ _ [(2, v0), (0, v1), (9, 0), (9, 0), (9, 0), (9, 0), (9, 0), (9, 0), (9, 0), (9, 0), (9, 0)] [(0, r_1)] C
  refine AW.if_ne (t := 18) (dc hd_G_loose 5 rfl) (by decide) (fun c_5 => ?_) (fun c_5 => ?_)
  · have h := h.2 c_5
    refine AW.ra_n (dc hd_G_loose 10 rfl) rfl rfl rfl ?_
    obtain ⟨g_6, h⟩ := h
    refine AW.callV (As := []) (rest := []) (ci := 10) (m_G_maps l E n C v0 _ h) cb_10_211 im_G_maps se_G_maps ⟨_, _, rfl⟩ (by decide) (dc hd_G_loose 11 rfl) g_6 rfl rfl ⟨Nat.le_of_ble_eq_true rfl, Nat.le_of_ble_eq_true rfl⟩ ⟨(Nat.le_of_ble_eq_true rfl), (Nat.le_of_ble_eq_true rfl)⟩ (Nat.le_of_ble_eq_true rfl) (fun _ h => by cases h) (fun _ => rfl) (fun u_9 C_7 d_10 q_8 => ?_)
    obtain ⟨q_8a, h⟩ := q_8
    subst d_10
    show AW p l e _ s m args below meth c E M_G_loose true _ n _ _ _ [(2, v0), (0, v1), (9, 0), (9, 0), (9, 0), (9, 0), (9, 0), (9, 0), (9, 0), (9, 0), (9, 0)] [] C_7
    refine AW.ra_n (dc hd_G_loose 12 rfl) rfl rfl rfl ?_
    refine AW.callV (As := []) (rest := []) (ci := 10) (m_G_asNumbered l E n C_7 v0 _ h) cb_10_310 im_G_asNumbered se_G_asNumbered ⟨_, _, rfl⟩ (by decide) (dc hd_G_loose 13 rfl) g_6 rfl rfl ⟨Nat.le_of_ble_eq_true rfl, Nat.le_of_ble_eq_true rfl⟩ ⟨(Nat.le_of_ble_eq_true rfl), (Nat.le_of_ble_eq_true rfl)⟩ (Nat.le_of_ble_eq_true rfl) (fun _ h => by cases h) (fun _ => rfl) (fun u_13 C_11 d_14 q_12 => ?_)
    obtain ⟨q_12a, h⟩ := q_12
    subst d_14
    show AW p l e _ s m args below meth c E M_G_loose true _ n _ _ _ [(2, v0), (0, v1), (9, 0), (9, 0), (9, 0), (9, 0), (9, 0), (9, 0), (9, 0), (9, 0), (9, 0)] [] C_11
    refine AW.ra_n (dc hd_G_loose 14 rfl) rfl rfl rfl ?_
    refine AW.getf fl_10_14 (dc hd_G_loose 15 rfl) g_6 ?_
    refine AW.nm (fun v2_15 ev2_15 => ?_)
    have h := h v2_15 ev2_15
    refine AW.istore_n [(2, v0), (0, v1), (0, v2_15), (9, 0), (9, 0), (9, 0), (9, 0), (9, 0), (9, 0), (9, 0), (9, 0)] (dc hd_G_loose 16 rfl) (Nat.le_of_ble_eq_true rfl) rfl rfl ?_
    refine AW.ra_n (dc hd_G_loose 17 rfl) rfl rfl rfl ?_
    refine AW.getf fl_10_379 (dc hd_G_loose 18 rfl) g_6 ?_
    refine AW.nm (fun v3_16 ev3_16 => ?_)
    have h := h v3_16 ev3_16
    refine AW.lstore_n [(2, v0), (0, v1), (0, v2_15), (1, v3_16), (9, 0), (9, 0), (9, 0), (9, 0), (9, 0), (9, 0), (9, 0)] (dc hd_G_loose 19 rfl) (Nat.le_of_ble_eq_true rfl) rfl rfl ?_
    refine AW.iconst (dc hd_G_loose 20 rfl) (by decide) ?_
    refine AW.istore [(2, v0), (0, v1), (0, v2_15), (1, v3_16), (9, 0), (0, 0), (9, 0), (9, 0), (9, 0), (9, 0), (9, 0)] (dc hd_G_loose 21 rfl) (Nat.le_of_ble_eq_true rfl) rfl rfl ?_
    refine AW.iconst (dc hd_G_loose 22 rfl) (by decide) ?_
    refine AW.istore [(2, v0), (0, v1), (0, v2_15), (1, v3_16), (9, 0), (0, 0), (0, 0), (9, 0), (9, 0), (9, 0), (9, 0)] (dc hd_G_loose 23 rfl) (Nat.le_of_ble_eq_true rfl) rfl rfl ?_
    obtain ⟨f_51, h⟩ := h
    exact aB_G_loose_42 n v0 v1 v2_15 v3_16 Q f_51 (C_11, 0, 0) h
  · have h := h.1 c_5
    refine AW.ra_n (dc hd_G_loose 6 rfl) rfl rfl rfl ?_
    refine AW.iconst (dc hd_G_loose 7 rfl) (by decide) ?_
    obtain ⟨g_53, h⟩ := h
    refine AW.callV (As := [(0, 0)]) (rest := []) (ci := 10) (m_G_finds l E n C v0 0 _ h) cb_10_186 im_G_finds se_G_finds ⟨_, _, rfl⟩ (by decide) (dc hd_G_loose 8 rfl) g_53 rfl rfl ⟨Nat.le_of_ble_eq_true rfl, Nat.le_of_ble_eq_true rfl⟩ ⟨(Nat.le_of_ble_eq_true rfl), (Nat.le_of_ble_eq_true rfl)⟩ (Nat.le_of_ble_eq_true rfl) (fun _ h => by cases h) (fun _ => rfl) (fun r_52 C_54 d_56 q_55 => ?_)
    obtain ⟨q_55a, h⟩ := q_55
    subst d_56
    show AW p l e _ s m args below meth c E M_G_loose true _ n _ _ _ [(2, v0), (0, v1), (9, 0), (9, 0), (9, 0), (9, 0), (9, 0), (9, 0), (9, 0), (9, 0), (9, 0)] [(0, r_52)] C_54
    exact AW.iret (dc hd_G_loose 9 rfl) rfl rfl (Nat.le_of_ble_eq_true rfl) (Nat.le_of_ble_eq_true rfl) ⟨rfl, h⟩
def J_G_isTimesTooMuch_41 (n : Nat) (C : Cn) (s0 : Int) (Q : Int → Prop) : Prop :=
  (s0 = 0 ∨ s0 = 1) ∧ (Q s0)
theorem aJ_G_isTimesTooMuch_41 (n : Nat) (C : Cn) (s0 : Int) (Q : Int → Prop) (h : J_G_isTimesTooMuch_41 n C s0 Q) : AW p l e R s m args below meth c E M_G_isTimesTooMuch true (fun r C2 n2 => C2 = C ∧ n2 = n ∧ Q r) n 0 0 41 [(9, 0), (9, 0), (9, 0), (9, 0), (9, 0), (9, 0)] [(0, s0)] C := by
  unfold J_G_isTimesTooMuch_41 at h
  obtain ⟨g_5, h⟩ := h
  exact AW.zret (dc hd_G_isTimesTooMuch 25 rfl) rfl rfl (Nat.le_of_ble_eq_true rfl) (Nat.le_of_ble_eq_true rfl) g_5 ⟨rfl, rfl, h⟩
def J_G_isTimesTooMuch_27 (n : Nat) (C : Cn) (v0 v2 v4 : Int) (Q : Int → Prop) : Prop :=
  v0 ≠ 0 ∧ (J_G_isTimesTooMuch_41 n C (if w64 (Int.tdiv v4 v0) = v2 then 0 else 1) Q)
theorem aJ_G_isTimesTooMuch_27 (n : Nat) (C : Cn) (v0 v2 v4 : Int) (Q : Int → Prop) (h : J_G_isTimesTooMuch_27 n C v0 v2 v4 Q) : AW p l e R s m args below meth c E M_G_isTimesTooMuch true (fun r C2 n2 => C2 = C ∧ n2 = n ∧ Q r) n 0 0 27 [(1, v0), (9, 0), (1, v2), (9, 0), (1, v4), (9, 0)] [] C := by
  unfold J_G_isTimesTooMuch_27 at h
  refine AW.lload (dc hd_G_isTimesTooMuch 16 rfl) rfl ?_
  refine AW.lload_n (dc hd_G_isTimesTooMuch 17 rfl) rfl ?_
  obtain ⟨g_3, h⟩ := h
  refine AW.ldiv (dc hd_G_isTimesTooMuch 18 rfl) g_3 ?_
  refine AW.lload_n (dc hd_G_isTimesTooMuch 19 rfl) rfl ?_
  refine AW.lc (dc hd_G_isTimesTooMuch 20 rfl) ?_
  refine AW.if_eq (t := 40) (dc hd_G_isTimesTooMuch 21 rfl) (by decide) (fun c_4 => ?_) (fun c_4 => ?_)
  · replace c_4 := (lc_eq _ _).mp c_4
    simp only [if_pos c_4] at h
    refine AW.iconst (dc hd_G_isTimesTooMuch 24 rfl) (by decide) ?_
    refine AW.fgt [(9, 0), (9, 0), (9, 0), (9, 0), (9, 0), (9, 0)] ⟨.inr rfl, .inl rfl, .inr rfl, .inl rfl, .inr rfl, .inl rfl, trivial⟩ ?_
    exact aJ_G_isTimesTooMuch_41 n C _ Q h
  · replace c_4 : ¬ w64 (Int.tdiv v4 v0) = v2 := fun q => c_4 ((lc_eq _ _).mpr q)
    simp only [if_neg c_4] at h
    refine AW.iconst (dc hd_G_isTimesTooMuch 22 rfl) (by decide) ?_
    refine AW.goto (t := 41) (dc hd_G_isTimesTooMuch 23 rfl) (by decide) ?_
    refine AW.fgt [(9, 0), (9, 0), (9, 0), (9, 0), (9, 0), (9, 0)] ⟨.inr rfl, .inl rfl, .inr rfl, .inl rfl, .inr rfl, .inl rfl, trivial⟩ ?_
    exact aJ_G_isTimesTooMuch_41 n C _ Q h
def P_G_isTimesTooMuch (n : Nat) (C : Cn) (v0 v2 : Int) (Q : Int → Prop) : Prop :=
  (v0 = 0 → (Q 0)) ∧ (¬ v0 = 0 → ((v0 = (-1) → ((v2 = (-9223372036854775808) → (Q 1)) ∧ (¬ v2 = (-9223372036854775808) → (J_G_isTimesTooMuch_27 n C v0 v2 (w64 (v0 * v2)) Q)))) ∧ (¬ v0 = (-1) → (J_G_isTimesTooMuch_27 n C v0 v2 (w64 (v0 * v2)) Q))))
theorem m_G_isTimesTooMuch (l : Launch) (E : Ev) (n : Nat) (C : Cn) (v0 v2 : Int) (Q : Int → Prop) (h : P_G_isTimesTooMuch n C v0 v2 Q) : MA l y_G_isTimesTooMuch M_G_isTimesTooMuch E true C n [(1, v0), (1, v2)] (fun r C2 n2 => C2 = C ∧ n2 = n ∧ Q r) := by
  refine MA.of (by decide) rfl rfl 2 rfl (fun p e s m args below meth c => ?_)
  show AW p l e _ s m args below meth c E M_G_isTimesTooMuch true _ n 0 0 0 [(1, v0), (9, 0), (1, v2), (9, 0), (9, 0), (9, 0)] [] C
  unfold P_G_isTimesTooMuch at h
  refine AW.lload_n (dc hd_G_isTimesTooMuch 0 rfl) rfl ?_
  refine AW.lload_n (dc hd_G_isTimesTooMuch 1 rfl) rfl ?_
  refine AW.lmul (dc hd_G_isTimesTooMuch 2 rfl) ?_
  refine AW.lstore [(1, v0), (9, 0), (1, v2), (9, 0), (1, w64 (v0 * v2)), (9, 0)] (dc hd_G_isTimesTooMuch 3 rfl) (Nat.le_of_ble_eq_true rfl) rfl rfl ?_
  refine AW.lload_n (dc hd_G_isTimesTooMuch 4 rfl) rfl ?_
  refine AW.lconst (v := 0) (dc hd_G_isTimesTooMuch 5 rfl) (by decide) (by decide +kernel) ?_
  refine AW.lc (dc hd_G_isTimesTooMuch 6 rfl) ?_
  refine AW.if_eq (t := 40) (dc hd_G_isTimesTooMuch 7 rfl) (by decide) (fun c_1 => ?_) (fun c_1 => ?_)
  · replace c_1 := (lc_eq _ _).mp c_1
    have h := h.1 c_1
    refine AW.iconst (dc hd_G_isTimesTooMuch 24 rfl) (by decide) ?_
    exact AW.zret (dc hd_G_isTimesTooMuch 25 rfl) rfl rfl (Nat.le_of_ble_eq_true rfl) (Nat.le_of_ble_eq_true rfl) (by decide) ⟨rfl, rfl, h⟩
  · replace c_1 : ¬ v0 = 0 := fun q => c_1 ((lc_eq _ _).mpr q)
    have h := h.2 c_1
    refine AW.lload_n (dc hd_G_isTimesTooMuch 8 rfl) rfl ?_
    refine AW.ldc2 (v := -1) (dc hd_G_isTimesTooMuch 9 rfl) ck_10_390 (by decide) rfl ?_
    refine AW.lc (dc hd_G_isTimesTooMuch 10 rfl) ?_
    refine AW.if_ne (t := 27) (dc hd_G_isTimesTooMuch 11 rfl) (by decide) (fun c_2 => ?_) (fun c_2 => ?_)
    · replace c_2 : ¬ v0 = (-1) := fun q => c_2 ((lc_eq _ _).mpr q)
      have h := h.2 c_2
      exact aJ_G_isTimesTooMuch_27 n C v0 v2 (w64 (v0 * v2)) Q h
    · replace c_2 := (lc_eq _ _).mp c_2
      have h := h.1 c_2
      refine AW.lload_n (dc hd_G_isTimesTooMuch 12 rfl) rfl ?_
      refine AW.ldc2 (v := -9223372036854775808) (dc hd_G_isTimesTooMuch 13 rfl) ck_10_394 (by decide) rfl ?_
      refine AW.lc (dc hd_G_isTimesTooMuch 14 rfl) ?_
      refine AW.if_eq (t := 36) (dc hd_G_isTimesTooMuch 15 rfl) (by decide) (fun c_6 => ?_) (fun c_6 => ?_)
      · replace c_6 := (lc_eq _ _).mp c_6
        have h := h.1 c_6
        refine AW.iconst (dc hd_G_isTimesTooMuch 22 rfl) (by decide) ?_
        refine AW.goto (t := 41) (dc hd_G_isTimesTooMuch 23 rfl) (by decide) ?_
        exact AW.zret (dc hd_G_isTimesTooMuch 25 rfl) rfl rfl (Nat.le_of_ble_eq_true rfl) (Nat.le_of_ble_eq_true rfl) (by decide) ⟨rfl, rfl, h⟩
      · replace c_6 : ¬ v2 = (-9223372036854775808) := fun q => c_6 ((lc_eq _ _).mpr q)
        have h := h.2 c_6
        exact aJ_G_isTimesTooMuch_27 n C v0 v2 (w64 (v0 * v2)) Q h
def J_G_book_52 (n : Nat) (C : Cn) (v0 v1 v2 : Int) (Q : Int → Cn → Prop) : Prop :=
  (v1 = 0 → (okO n v0 10 ∧ (∀ C_19 : Cn, C_19 = wr C v0.toNat 3 (w64 (C v0.toNat 3 + v2)) → (Q (C_19 v0.toNat 3) C_19)))) ∧ (¬ v1 = 0 → (okO n v0 10 ∧ (∀ C_17 : Cn, C_17 = wr C v0.toNat 3 (w64 ((C v0.toNat 3) * v2)) → (Q (C_17 v0.toNat 3) C_17))))
theorem aJ_G_book_52 (n : Nat) (C : Cn) (v0 v1 v2 : Int) (Q : Int → Cn → Prop) (h : J_G_book_52 n C v0 v1 v2 Q) : AW p l e R s m args below meth c E M_G_book true (fun r C2 n2 => n2 = n ∧ Q r C2) n 0 0 52 [(2, v0), (0, v1), (1, v2), (9, 0)] [] C := by
  unfold J_G_book_52 at h
  refine AW.ra_n (dc hd_G_book 27 rfl) rfl rfl rfl ?_
  refine AW.iload_n (dc hd_G_book 28 rfl) rfl ?_
  refine AW.if_ne (t := 66) (dc hd_G_book 29 rfl) (by decide) (fun c_15 => ?_) (fun c_15 => ?_)
  · have h := h.2 c_15
    refine AW.ra_n (dc hd_G_book 35 rfl) rfl rfl rfl ?_
    obtain ⟨g_16, h⟩ := h
    refine AW.getf fl_10_379 (dc hd_G_book 36 rfl) g_16 ?_
    refine AW.lload_n (dc hd_G_book 37 rfl) rfl ?_
    refine AW.lmul (dc hd_G_book 38 rfl) ?_
    refine AW.nputJ fl_10_379 (dc hd_G_book 39 rfl) g_16 (fun C_17 eC_17 => ?_)
    have h := h C_17 eC_17
    refine AW.ra_n (dc hd_G_book 40 rfl) rfl rfl rfl ?_
    refine AW.getf fl_10_379 (dc hd_G_book 41 rfl) g_16 ?_
    exact AW.lret (dc hd_G_book 42 rfl) rfl rfl (Nat.le_of_ble_eq_true rfl) (Nat.le_of_ble_eq_true rfl) ⟨rfl, h⟩
  · have h := h.1 c_15
    refine AW.ra_n (dc hd_G_book 30 rfl) rfl rfl rfl ?_
    obtain ⟨g_18, h⟩ := h
    refine AW.getf fl_10_379 (dc hd_G_book 31 rfl) g_18 ?_
    refine AW.lload_n (dc hd_G_book 32 rfl) rfl ?_
    refine AW.ladd (dc hd_G_book 33 rfl) ?_
    refine AW.goto (t := 72) (dc hd_G_book 34 rfl) (by decide) ?_
    refine AW.nputJ fl_10_379 (dc hd_G_book 39 rfl) g_18 (fun C_19 eC_19 => ?_)
    have h := h C_19 eC_19
    refine AW.ra_n (dc hd_G_book 40 rfl) rfl rfl rfl ?_
    refine AW.getf fl_10_379 (dc hd_G_book 41 rfl) g_18 ?_
    exact AW.lret (dc hd_G_book 42 rfl) rfl rfl (Nat.le_of_ble_eq_true rfl) (Nat.le_of_ble_eq_true rfl) ⟨rfl, h⟩
def P_G_book (n : Nat) (C : Cn) (v0 v1 v2 : Int) (Q : Int → Cn → Prop) : Prop :=
  P_G_in n C v1 0 1 (fun (r_1 : Int) => (r_1 = 0 → (okO n v0 10 ∧ (P_G_findsLong n C v0 0 (fun (r_35 : Int) (C_37 : Cn) => Q r_35 C_37)))) ∧ (¬ r_1 = 0 → ((v1 = 0 → (okO n v0 10 ∧ (P_G_isTooMuch n C (C v0.toNat 3) v2 (fun (r_25 : Int) => (r_25 = 0 → (J_G_book_52 n C v0 v1 v2 Q)) ∧ (¬ r_25 = 0 → (P_G_findsLong n C v0 7 (fun (r_31 : Int) (C_32 : Cn) => Q r_31 C_32))))))) ∧ (¬ v1 = 0 → (okO n v0 10 ∧ (P_G_isTimesTooMuch n C (C v0.toNat 3) v2 (fun (r_9 : Int) => (r_9 = 0 → (J_G_book_52 n C v0 v1 v2 Q)) ∧ (¬ r_9 = 0 → (P_G_findsLong n C v0 7 (fun (r_20 : Int) (C_21 : Cn) => Q r_20 C_21))))))))))
theorem m_G_book (l : Launch) (E : Ev) (n : Nat) (C : Cn) (v0 v1 v2 : Int) (Q : Int → Cn → Prop) (h : P_G_book n C v0 v1 v2 Q) : MA l y_G_book M_G_book E true C n [(2, v0), (0, v1), (1, v2)] (fun r C2 n2 => n2 = n ∧ Q r C2) := by
  refine MA.of (by decide) rfl rfl 0 rfl (fun p e s m args below meth c => ?_)
  show AW p l e _ s m args below meth c E M_G_book true _ n 0 0 0 [(2, v0), (0, v1), (1, v2), (9, 0)] [] C
  unfold P_G_book at h
  refine AW.iload_n (dc hd_G_book 0 rfl) rfl ?_
  refine AW.i2l (dc hd_G_book 1 rfl) ?_
  refine AW.lconst (v := 0) (dc hd_G_book 2 rfl) (by decide) (by decide +kernel) ?_
  refine AW.lconst (v := 1) (dc hd_G_book 3 rfl) (by decide) (by decide +kernel) ?_
  refine AW.callS (As := [(1, v1), (1, 0), (1, 1)]) (rest := []) (m_G_in l E n C v1 0 1 _ h) cb_10_113 sm_G_in (dc hd_G_book 4 rfl) rfl rfl ⟨Nat.le_of_ble_eq_true rfl, Nat.le_of_ble_eq_true rfl⟩ ⟨(Nat.le_of_ble_eq_true rfl), (Nat.le_of_ble_eq_true rfl)⟩ (Nat.le_of_ble_eq_true rfl) (fun _ h => by cases h) (fun _ => rfl) (fun r_1 D_3 d_4 q_2 => ?_)
  obtain ⟨q_2a, q_2b, h⟩ := q_2
  subst D_3
  subst d_4
  show AW p l e _ s m args below meth c E M_G_book true _ n _ _ _ [(2, v0), (0, v1), (1, v2), (9, 0)] [(0, r_1)] C
  refine AW.if_ne (t := 16) (dc hd_G_book 5 rfl) (by decide) (fun c_5 => ?_) (fun c_5 => ?_)
  · have h := h.2 c_5
    refine AW.iload_n (dc hd_G_book 10 rfl) rfl ?_
    refine AW.if_ne (t := 34) (dc hd_G_book 11 rfl) (by decide) (fun c_7 => ?_) (fun c_7 => ?_)
    · have h := h.2 c_7
      refine AW.ra_n (dc hd_G_book 18 rfl) rfl rfl rfl ?_
      obtain ⟨g_8, h⟩ := h
      refine AW.getf fl_10_379 (dc hd_G_book 19 rfl) g_8 ?_
      refine AW.lload_n (dc hd_G_book 20 rfl) rfl ?_
      refine AW.callS (As := [(1, C v0.toNat 3), (1, v2)]) (rest := []) (m_G_isTimesTooMuch l E n C (C v0.toNat 3) v2 _ h) cb_10_400 sm_G_isTimesTooMuch (dc hd_G_book 21 rfl) rfl rfl ⟨Nat.le_of_ble_eq_true rfl, Nat.le_of_ble_eq_true rfl⟩ ⟨(Nat.le_of_ble_eq_true rfl), (Nat.le_of_ble_eq_true rfl)⟩ (Nat.le_of_ble_eq_true rfl) (fun _ h => by cases h) (fun _ => rfl) (fun r_9 D_11 d_12 q_10 => ?_)
      obtain ⟨q_10a, q_10b, h⟩ := q_10
      subst D_11
      subst d_12
      show AW p l e _ s m args below meth c E M_G_book true _ n _ _ _ [(2, v0), (0, v1), (1, v2), (9, 0)] [(0, r_9)] C
      refine AW.if_eq (t := 52) (dc hd_G_book 22 rfl) (by decide) (fun c_13 => ?_) (fun c_13 => ?_)
      · have h := h.1 c_13
        exact aJ_G_book_52 n C v0 v1 v2 Q h
      · have h := h.2 c_13
        refine AW.ra_n (dc hd_G_book 23 rfl) rfl rfl rfl ?_
        refine AW.bipush (dc hd_G_book 24 rfl) (by decide) (by decide +kernel) ?_
        refine AW.callV (As := [(0, 7)]) (rest := []) (ci := 10) (m_G_findsLong l E n C v0 7 _ h) cb_10_396 im_G_findsLong se_G_findsLong ⟨_, _, rfl⟩ (by decide) (dc hd_G_book 25 rfl) g_8 rfl rfl ⟨Nat.le_of_ble_eq_true rfl, Nat.le_of_ble_eq_true rfl⟩ ⟨(Nat.le_of_ble_eq_true rfl), (Nat.le_of_ble_eq_true rfl)⟩ (Nat.le_of_ble_eq_true rfl) (fun _ h => by cases h) (fun _ => rfl) (fun r_20 C_21 d_23 q_22 => ?_)
        obtain ⟨q_22a, h⟩ := q_22
        subst d_23
        show AW p l e _ s m args below meth c E M_G_book true _ n _ _ _ [(2, v0), (0, v1), (1, v2), (9, 0)] [(1, r_20)] C_21
        exact AW.lret (dc hd_G_book 26 rfl) rfl rfl (Nat.le_of_ble_eq_true rfl) (Nat.le_of_ble_eq_true rfl) ⟨rfl, h⟩
    · have h := h.1 c_7
      refine AW.ra_n (dc hd_G_book 12 rfl) rfl rfl rfl ?_
      obtain ⟨g_24, h⟩ := h
      refine AW.getf fl_10_379 (dc hd_G_book 13 rfl) g_24 ?_
      refine AW.lload_n (dc hd_G_book 14 rfl) rfl ?_
      refine AW.callS (As := [(1, C v0.toNat 3), (1, v2)]) (rest := []) (m_G_isTooMuch l E n C (C v0.toNat 3) v2 _ h) cb_10_386 sm_G_isTooMuch (dc hd_G_book 15 rfl) rfl rfl ⟨Nat.le_of_ble_eq_true rfl, Nat.le_of_ble_eq_true rfl⟩ ⟨(Nat.le_of_ble_eq_true rfl), (Nat.le_of_ble_eq_true rfl)⟩ (Nat.le_of_ble_eq_true rfl) (fun _ h => by cases h) (fun _ => rfl) (fun r_25 D_27 d_28 q_26 => ?_)
      obtain ⟨q_26a, q_26b, h⟩ := q_26
      subst D_27
      subst d_28
      show AW p l e _ s m args below meth c E M_G_book true _ n _ _ _ [(2, v0), (0, v1), (1, v2), (9, 0)] [(0, r_25)] C
      refine AW.if_eq (t := 52) (dc hd_G_book 16 rfl) (by decide) (fun c_29 => ?_) (fun c_29 => ?_)
      · have h := h.1 c_29
        exact aJ_G_book_52 n C v0 v1 v2 Q h
      · have h := h.2 c_29
        refine AW.goto (t := 45) (dc hd_G_book 17 rfl) (by decide) ?_
        refine AW.ra_n (dc hd_G_book 23 rfl) rfl rfl rfl ?_
        refine AW.bipush (dc hd_G_book 24 rfl) (by decide) (by decide +kernel) ?_
        refine AW.callV (As := [(0, 7)]) (rest := []) (ci := 10) (m_G_findsLong l E n C v0 7 _ h) cb_10_396 im_G_findsLong se_G_findsLong ⟨_, _, rfl⟩ (by decide) (dc hd_G_book 25 rfl) g_24 rfl rfl ⟨Nat.le_of_ble_eq_true rfl, Nat.le_of_ble_eq_true rfl⟩ ⟨(Nat.le_of_ble_eq_true rfl), (Nat.le_of_ble_eq_true rfl)⟩ (Nat.le_of_ble_eq_true rfl) (fun _ h => by cases h) (fun _ => rfl) (fun r_31 C_32 d_34 q_33 => ?_)
        obtain ⟨q_33a, h⟩ := q_33
        subst d_34
        show AW p l e _ s m args below meth c E M_G_book true _ n _ _ _ [(2, v0), (0, v1), (1, v2), (9, 0)] [(1, r_31)] C_32
        exact AW.lret (dc hd_G_book 26 rfl) rfl rfl (Nat.le_of_ble_eq_true rfl) (Nat.le_of_ble_eq_true rfl) ⟨rfl, h⟩
  · have h := h.1 c_5
    refine AW.ra_n (dc hd_G_book 6 rfl) rfl rfl rfl ?_
    refine AW.iconst (dc hd_G_book 7 rfl) (by decide) ?_
    obtain ⟨g_36, h⟩ := h
    refine AW.callV (As := [(0, 0)]) (rest := []) (ci := 10) (m_G_findsLong l E n C v0 0 _ h) cb_10_396 im_G_findsLong se_G_findsLong ⟨_, _, rfl⟩ (by decide) (dc hd_G_book 8 rfl) g_36 rfl rfl ⟨Nat.le_of_ble_eq_true rfl, Nat.le_of_ble_eq_true rfl⟩ ⟨(Nat.le_of_ble_eq_true rfl), (Nat.le_of_ble_eq_true rfl)⟩ (Nat.le_of_ble_eq_true rfl) (fun _ h => by cases h) (fun _ => rfl) (fun r_35 C_37 d_39 q_38 => ?_)
    obtain ⟨q_38a, h⟩ := q_38
    subst d_39
    show AW p l e _ s m args below meth c E M_G_book true _ n _ _ _ [(2, v0), (0, v1), (1, v2), (9, 0)] [(1, r_35)] C_37
    exact AW.lret (dc hd_G_book 9 rfl) rfl rfl (Nat.le_of_ble_eq_true rfl) (Nat.le_of_ble_eq_true rfl) ⟨rfl, h⟩
def P_G_seed (n : Nat) (C : Cn) (v0 v1 : Int) (Q : Int → Cn → Prop) : Prop :=
  okO n v0 10 ∧ (∀ C_2 : Cn, C_2 = wr C v0.toNat 4 v1 → (Q (C v0.toNat 4) C_2))
theorem m_G_seed (l : Launch) (E : Ev) (n : Nat) (C : Cn) (v0 v1 : Int) (Q : Int → Cn → Prop) (h : P_G_seed n C v0 v1 Q) : MA l y_G_seed M_G_seed E true C n [(2, v0), (0, v1)] (fun r C2 n2 => n2 = n ∧ Q r C2) := by
  refine MA.of (by decide) rfl rfl 1 rfl (fun p e s m args below meth c => ?_)
  show AW p l e _ s m args below meth c E M_G_seed true _ n 0 0 0 [(2, v0), (0, v1), (9, 0)] [] C
  unfold P_G_seed at h
  refine AW.ra_n (dc hd_G_seed 0 rfl) rfl rfl rfl ?_
  obtain ⟨g_1, h⟩ := h
  refine AW.getf fl_10_14 (dc hd_G_seed 1 rfl) g_1 ?_
  refine AW.istore_n [(2, v0), (0, v1), (0, C v0.toNat 4)] (dc hd_G_seed 2 rfl) (Nat.le_of_ble_eq_true rfl) rfl rfl ?_
  refine AW.ra_n (dc hd_G_seed 3 rfl) rfl rfl rfl ?_
  refine AW.iload_n (dc hd_G_seed 4 rfl) rfl ?_
  refine AW.nputI fl_10_14 (dc hd_G_seed 5 rfl) g_1 (fun C_2 eC_2 => ?_)
  have h := h C_2 eC_2
  refine AW.iload_n (dc hd_G_seed 6 rfl) rfl ?_
  exact AW.iret (dc hd_G_seed 7 rfl) rfl rfl (Nat.le_of_ble_eq_true rfl) (Nat.le_of_ble_eq_true rfl) ⟨rfl, h⟩
def P_G_fieldIs (n : Nat) (C : Cn) (v0 v1 v2 : Int) (Q : Int → Prop) : Prop :=
  (v2 = 0 → (okO n v0 10 ∧ (okO n (PT v0.toNat 19) 12 ∧ (okI (PT v0.toNat 19) v1 ∧ (Q (C (PT v0.toNat 19).toNat v1.toNat)))))) ∧ (¬ v2 = 0 → ((v2 = 1 → (okO n v0 10 ∧ (okO n (PT v0.toNat 20) 12 ∧ (okI (PT v0.toNat 20) v1 ∧ (Q (C (PT v0.toNat 20).toNat v1.toNat)))))) ∧ (¬ v2 = 1 → ((v2 = 2 → (okO n v0 10 ∧ (okO n (PT v0.toNat 21) 12 ∧ (okI (PT v0.toNat 21) v1 ∧ (Q (w32 (C (PT v0.toNat 21).toNat v1.toNat - 1))))))) ∧ (¬ v2 = 2 → (okO n v0 10 ∧ (P_G_closeOf n C v0 v1 (fun (r_7 : Int) => Q r_7))))))))
theorem m_G_fieldIs (l : Launch) (E : Ev) (n : Nat) (C : Cn) (v0 v1 v2 : Int) (Q : Int → Prop) (h : P_G_fieldIs n C v0 v1 v2 Q) : MA l y_G_fieldIs M_G_fieldIs E true C n [(2, v0), (0, v1), (0, v2)] (fun r C2 n2 => C2 = C ∧ n2 = n ∧ Q r) := by
  refine MA.of (by decide) rfl rfl 0 rfl (fun p e s m args below meth c => ?_)
  show AW p l e _ s m args below meth c E M_G_fieldIs true _ n 0 0 0 [(2, v0), (0, v1), (0, v2)] [] C
  unfold P_G_fieldIs at h
  refine AW.iload_n (dc hd_G_fieldIs 0 rfl) rfl ?_
  refine AW.if_ne (t := 13) (dc hd_G_fieldIs 1 rfl) (by decide) (fun c_1 => ?_) (fun c_1 => ?_)
  · have h := h.2 c_1
    refine AW.iload_n (dc hd_G_fieldIs 7 rfl) rfl ?_
    refine AW.iconst (dc hd_G_fieldIs 8 rfl) (by decide) ?_
    refine AW.icmp_ne (t := 27) (dc hd_G_fieldIs 9 rfl) (by decide) (fun c_4 => ?_) (fun c_4 => ?_)
    · have h := h.2 c_4
      refine AW.iload_n (dc hd_G_fieldIs 15 rfl) rfl ?_
      refine AW.iconst (dc hd_G_fieldIs 16 rfl) (by decide) ?_
      refine AW.icmp_ne (t := 43) (dc hd_G_fieldIs 17 rfl) (by decide) (fun c_6 => ?_) (fun c_6 => ?_)
      · have h := h.2 c_6
        refine AW.ra_n (dc hd_G_fieldIs 25 rfl) rfl rfl rfl ?_
        refine AW.iload_n (dc hd_G_fieldIs 26 rfl) rfl ?_
        obtain ⟨g_8, h⟩ := h
        refine AW.callV (As := [(0, v1)]) (rest := []) (ci := 10) (m_G_closeOf l E n C v0 v1 _ h) cb_10_269 im_G_closeOf se_G_closeOf ⟨_, _, rfl⟩ (by decide) (dc hd_G_fieldIs 27 rfl) g_8 rfl rfl ⟨Nat.le_of_ble_eq_true rfl, Nat.le_of_ble_eq_true rfl⟩ ⟨(Nat.le_of_ble_eq_true rfl), (Nat.le_of_ble_eq_true rfl)⟩ (Nat.le_of_ble_eq_true rfl) (fun _ h => by cases h) (fun _ => rfl) (fun r_7 D_10 d_11 q_9 => ?_)
        obtain ⟨q_9a, q_9b, h⟩ := q_9
        subst D_10
        subst d_11
        show AW p l e _ s m args below meth c E M_G_fieldIs true _ n _ _ _ [(2, v0), (0, v1), (0, v2)] [(0, r_7)] C
        exact AW.iret (dc hd_G_fieldIs 28 rfl) rfl rfl (Nat.le_of_ble_eq_true rfl) (Nat.le_of_ble_eq_true rfl) ⟨rfl, rfl, h⟩
      · have h := h.1 c_6
        refine AW.ra_n (dc hd_G_fieldIs 18 rfl) rfl rfl rfl ?_
        obtain ⟨g_12, h⟩ := h
        refine AW.getp fl_10_55 (dc hd_G_fieldIs 19 rfl) g_12 rfl ?_
        refine AW.iload_n (dc hd_G_fieldIs 20 rfl) rfl ?_
        obtain ⟨g_13, h⟩ := h
        obtain ⟨g_14, h⟩ := h
        refine AW.iald (dc hd_G_fieldIs 21 rfl) g_13 g_14 ?_
        refine AW.iconst (dc hd_G_fieldIs 22 rfl) (by decide) ?_
        refine AW.isub (dc hd_G_fieldIs 23 rfl) ?_
        refine AW.goto (t := 48) (dc hd_G_fieldIs 24 rfl) (by decide) ?_
        exact AW.iret (dc hd_G_fieldIs 28 rfl) rfl rfl (Nat.le_of_ble_eq_true rfl) (Nat.le_of_ble_eq_true rfl) ⟨rfl, rfl, h⟩
    · have h := h.1 c_4
      refine AW.ra_n (dc hd_G_fieldIs 10 rfl) rfl rfl rfl ?_
      obtain ⟨g_15, h⟩ := h
      refine AW.getp fl_10_52 (dc hd_G_fieldIs 11 rfl) g_15 rfl ?_
      refine AW.iload_n (dc hd_G_fieldIs 12 rfl) rfl ?_
      obtain ⟨g_16, h⟩ := h
      obtain ⟨g_17, h⟩ := h
      refine AW.iald (dc hd_G_fieldIs 13 rfl) g_16 g_17 ?_
      refine AW.goto (t := 48) (dc hd_G_fieldIs 14 rfl) (by decide) ?_
      exact AW.iret (dc hd_G_fieldIs 28 rfl) rfl rfl (Nat.le_of_ble_eq_true rfl) (Nat.le_of_ble_eq_true rfl) ⟨rfl, rfl, h⟩
  · have h := h.1 c_1
    refine AW.ra_n (dc hd_G_fieldIs 2 rfl) rfl rfl rfl ?_
    obtain ⟨g_18, h⟩ := h
    refine AW.getp fl_10_49 (dc hd_G_fieldIs 3 rfl) g_18 rfl ?_
    refine AW.iload_n (dc hd_G_fieldIs 4 rfl) rfl ?_
    obtain ⟨g_19, h⟩ := h
    obtain ⟨g_20, h⟩ := h
    refine AW.iald (dc hd_G_fieldIs 5 rfl) g_19 g_20 ?_
    refine AW.goto (t := 48) (dc hd_G_fieldIs 6 rfl) (by decide) ?_
    exact AW.iret (dc hd_G_fieldIs 28 rfl) rfl rfl (Nat.le_of_ble_eq_true rfl) (Nat.le_of_ble_eq_true rfl) ⟨rfl, rfl, h⟩
def B_G_prove_24 (n : Nat) (v0 v1 : Int) (kz14 : Cn × Int → Prop) (Q : Int → Cn → Prop) (kz24 : Cn × Int → Prop) (z : Cn × Int) : Prop := match z with
  | (C, v2) => (4 ≤ v2 → (kz14 (C, w32 (v1 + 1)))) ∧ (¬ 4 ≤ v2 → (okO n v0 10 ∧ (okO n (PT v0.toNat 36) 17 ∧ (okI (PT v0.toNat 36) v1 ∧ (P_G_fieldIs n C v0 v1 v2 (fun (r_13 : Int) => okO n (PT (PT v0.toNat 36).toNat v1.toNat) 12 ∧ (okI (PT (PT v0.toNat 36).toNat v1.toNat) v2 ∧ (∀ C_19 : Cn, C_19 = wr C (PT (PT v0.toNat 36).toNat v1.toNat).toNat v2.toNat r_13 → (kz24 (C_19, w32 (v2 + 1)))))))))))
theorem bB_G_prove_24 (n : Nat) (v0 v1 : Int) (kz14 : Cn × Int → Prop) (Q : Int → Cn → Prop) (hkz14 : ∀ (Cz : Cn) (z1 : Int), kz14 (Cz, z1) → AW p l e R s m args below meth c E M_G_prove true (fun r C2 n2 => n2 = n ∧ Q r C2) n 0 0 14 [(2, v0), (0, z1), (9, 0)] [] Cz) (kz24 : Cn × Int → Prop) (hkz24 : ∀ (Cz : Cn) (z2 : Int), kz24 (Cz, z2) → AW p l e R s m args below meth c E M_G_prove true (fun r C2 n2 => n2 = n ∧ Q r C2) n 0 0 24 [(2, v0), (0, v1), (0, z2)] [] Cz) (C : Cn) (v2 : Int) (h : B_G_prove_24 n v0 v1 kz14 Q kz24 (C, v2)) : AW p l e R s m args below meth c E M_G_prove true (fun r C2 n2 => n2 = n ∧ Q r C2) n 0 0 24 [(2, v0), (0, v1), (0, v2)] [] C := by
  unfold B_G_prove_24 at h
  dsimp only at h
  refine AW.iload_n (dc hd_G_prove 14 rfl) rfl ?_
  refine AW.iconst (dc hd_G_prove 15 rfl) (by decide) ?_
  refine AW.icmp_ge (t := 49) (dc hd_G_prove 16 rfl) (by decide) (fun c_9 => ?_) (fun c_9 => ?_)
  · have h := h.1 c_9
    refine AW.iinc [(2, v0), (0, w32 (v1 + 1)), (0, v2)] (dc hd_G_prove 29 rfl) rfl (Nat.le_of_ble_eq_true rfl) rfl rfl ?_
    refine AW.goto (t := 14) (dc hd_G_prove 30 rfl) (by decide) ?_
    refine AW.fgt [(2, v0), (0, w32 (v1 + 1)), (9, 0)] ⟨.inl rfl, .inl rfl, .inr rfl, trivial⟩ ?_
    exact hkz14 C (w32 (v1 + 1)) h
  · have h := h.2 c_9
    refine AW.ra_n (dc hd_G_prove 17 rfl) rfl rfl rfl ?_
    obtain ⟨g_10, h⟩ := h
    refine AW.getp fl_10_76 (dc hd_G_prove 18 rfl) g_10 rfl ?_
    refine AW.iload_n (dc hd_G_prove 19 rfl) rfl ?_
    obtain ⟨g_11, h⟩ := h
    obtain ⟨g_12, h⟩ := h
    refine AW.aaldp (by decide) (dc hd_G_prove 20 rfl) g_11 g_12 rfl ?_
    refine AW.iload_n (dc hd_G_prove 21 rfl) rfl ?_
    refine AW.ra_n (dc hd_G_prove 22 rfl) rfl rfl rfl ?_
    refine AW.iload_n (dc hd_G_prove 23 rfl) rfl ?_
    refine AW.iload_n (dc hd_G_prove 24 rfl) rfl ?_
    refine AW.callV (As := [(0, v1), (0, v2)]) (rest := [(0, v2), (2, PT (PT v0.toNat 36).toNat v1.toNat)]) (ci := 10) (m_G_fieldIs l E n C v0 v1 v2 _ h) cb_10_406 im_G_fieldIs se_G_fieldIs ⟨_, _, rfl⟩ (by decide) (dc hd_G_prove 25 rfl) g_10 rfl rfl ⟨Nat.le_of_ble_eq_true rfl, Nat.le_of_ble_eq_true rfl⟩ ⟨(Nat.le_of_ble_eq_true rfl), (Nat.le_of_ble_eq_true rfl)⟩ (Nat.le_of_ble_eq_true rfl) (fun _ h => by cases h) (fun _ => rfl) (fun r_13 D_15 d_16 q_14 => ?_)
    obtain ⟨q_14a, q_14b, h⟩ := q_14
    subst D_15
    subst d_16
    show AW p l e _ s m args below meth c E M_G_prove true _ n _ _ _ [(2, v0), (0, v1), (0, v2)] [(0, r_13), (0, v2), (2, PT (PT v0.toNat 36).toNat v1.toNat)] C
    obtain ⟨g_17, h⟩ := h
    obtain ⟨g_18, h⟩ := h
    refine AW.niast (dc hd_G_prove 26 rfl) g_17 g_18 (fun C_19 eC_19 => ?_)
    have h := h C_19 eC_19
    refine AW.iinc [(2, v0), (0, v1), (0, w32 (v2 + 1))] (dc hd_G_prove 27 rfl) rfl (Nat.le_of_ble_eq_true rfl) rfl rfl ?_
    refine AW.goto (t := 24) (dc hd_G_prove 28 rfl) (by decide) ?_
    exact hkz24 C_19 (w32 (v2 + 1)) h
theorem aB_G_prove_24 (n : Nat) (v0 v1 : Int) (kz14 : Cn × Int → Prop) (Q : Int → Cn → Prop) (hkz14 : ∀ (Cz : Cn) (z1 : Int), kz14 (Cz, z1) → AW p l e R s m args below meth c E M_G_prove true (fun r C2 n2 => n2 = n ∧ Q r C2) n 0 0 14 [(2, v0), (0, z1), (9, 0)] [] Cz) : ∀ (f : Nat) (z : Cn × Int), lp (B_G_prove_24 n v0 v1 kz14 Q) f z → AW p l e R s m args below meth c E M_G_prove true (fun r C2 n2 => n2 = n ∧ Q r C2) n 0 0 24 [(2, v0), (0, v1), (0, z.2)] [] (z.1) := by
  intro f
  induction f with
  | zero => intro z h; exact False.elim h
  | succ f ih => intro z h; exact bB_G_prove_24 n v0 v1 kz14 Q hkz14 (lp (B_G_prove_24 n v0 v1 kz14 Q) f) (fun a0 a1 h => ih (a0, a1) h) z.1 z.2 h
def B_G_prove_14 (n : Nat) (v0 : Int) (Q : Int → Cn → Prop) (kz14 : Cn × Int → Prop) (z : Cn × Int) : Prop := match z with
  | (C, v1) => okO n v0 10 ∧ ((C v0.toNat 18 ≤ v1 → (Q (C v0.toNat 35) C)) ∧ (¬ C v0.toNat 18 ≤ v1 → (∃ f_20 : Nat, lp (B_G_prove_24 n v0 v1 kz14 Q) f_20 (C, 0))))
theorem bB_G_prove_14 (n : Nat) (v0 : Int) (Q : Int → Cn → Prop) (kz14 : Cn × Int → Prop) (hkz14 : ∀ (Cz : Cn) (z1 : Int), kz14 (Cz, z1) → AW p l e R s m args below meth c E M_G_prove true (fun r C2 n2 => n2 = n ∧ Q r C2) n 0 0 14 [(2, v0), (0, z1), (9, 0)] [] Cz) (C : Cn) (v1 : Int) (h : B_G_prove_14 n v0 Q kz14 (C, v1)) : AW p l e R s m args below meth c E M_G_prove true (fun r C2 n2 => n2 = n ∧ Q r C2) n 0 0 14 [(2, v0), (0, v1), (9, 0)] [] C := by
  unfold B_G_prove_14 at h
  dsimp only at h
  refine AW.iload_n (dc hd_G_prove 8 rfl) rfl ?_
  refine AW.ra_n (dc hd_G_prove 9 rfl) rfl rfl rfl ?_
  obtain ⟨g_7, h⟩ := h
  refine AW.getf fl_10_214 (dc hd_G_prove 10 rfl) g_7 ?_
  refine AW.icmp_ge (t := 55) (dc hd_G_prove 11 rfl) (by decide) (fun c_8 => ?_) (fun c_8 => ?_)
  · have h := h.1 c_8
    refine AW.ra_n (dc hd_G_prove 31 rfl) rfl rfl rfl ?_
    refine AW.getf fl_10_403 (dc hd_G_prove 32 rfl) g_7 ?_
    exact AW.iret (dc hd_G_prove 33 rfl) rfl rfl (Nat.le_of_ble_eq_true rfl) (Nat.le_of_ble_eq_true rfl) ⟨rfl, h⟩
  · have h := h.2 c_8
    refine AW.iconst (dc hd_G_prove 12 rfl) (by decide) ?_
    refine AW.istore_n [(2, v0), (0, v1), (0, 0)] (dc hd_G_prove 13 rfl) (Nat.le_of_ble_eq_true rfl) rfl rfl ?_
    obtain ⟨f_20, h⟩ := h
    exact aB_G_prove_24 n v0 v1 kz14 Q hkz14 f_20 (C, 0) h
theorem aB_G_prove_14 (n : Nat) (v0 : Int) (Q : Int → Cn → Prop) : ∀ (f : Nat) (z : Cn × Int), lp (B_G_prove_14 n v0 Q) f z → AW p l e R s m args below meth c E M_G_prove true (fun r C2 n2 => n2 = n ∧ Q r C2) n 0 0 14 [(2, v0), (0, z.2), (9, 0)] [] (z.1) := by
  intro f
  induction f with
  | zero => intro z h; exact False.elim h
  | succ f ih => intro z h; exact bB_G_prove_14 n v0 Q (lp (B_G_prove_14 n v0 Q) f) (fun a0 a1 h => ih (a0, a1) h) z.1 z.2 h
def P_G_prove (n : Nat) (C : Cn) (v0 : Int) (Q : Int → Cn → Prop) : Prop :=
  okO n v0 10 ∧ (P_G_maps n C v0 (fun (_ : Int) (C_2 : Cn) => ∀ C_6 : Cn, C_6 = wr C_2 v0.toNat 35 (C_2 v0.toNat 18) → (∃ f_21 : Nat, lp (B_G_prove_14 n v0 Q) f_21 (C_6, 0))))
theorem m_G_prove (l : Launch) (E : Ev) (n : Nat) (C : Cn) (v0 : Int) (Q : Int → Cn → Prop) (h : P_G_prove n C v0 Q) : MA l y_G_prove M_G_prove E true C n [(2, v0)] (fun r C2 n2 => n2 = n ∧ Q r C2) := by
  refine MA.of (by decide) rfl rfl 2 rfl (fun p e s m args below meth c => ?_)
  show AW p l e _ s m args below meth c E M_G_prove true _ n 0 0 0 [(2, v0), (9, 0), (9, 0)] [] C
  unfold P_G_prove at h
  refine AW.ra_n (dc hd_G_prove 0 rfl) rfl rfl rfl ?_
  obtain ⟨g_1, h⟩ := h
  refine AW.callV (As := []) (rest := []) (ci := 10) (m_G_maps l E n C v0 _ h) cb_10_211 im_G_maps se_G_maps ⟨_, _, rfl⟩ (by decide) (dc hd_G_prove 1 rfl) g_1 rfl rfl ⟨Nat.le_of_ble_eq_true rfl, Nat.le_of_ble_eq_true rfl⟩ ⟨(Nat.le_of_ble_eq_true rfl), (Nat.le_of_ble_eq_true rfl)⟩ (Nat.le_of_ble_eq_true rfl) (fun _ h => by cases h) (fun _ => rfl) (fun u_4 C_2 d_5 q_3 => ?_)
  obtain ⟨q_3a, h⟩ := q_3
  subst d_5
  show AW p l e _ s m args below meth c E M_G_prove true _ n _ _ _ [(2, v0), (9, 0), (9, 0)] [] C_2
  refine AW.ra_n (dc hd_G_prove 2 rfl) rfl rfl rfl ?_
  refine AW.ra_n (dc hd_G_prove 3 rfl) rfl rfl rfl ?_
  refine AW.getf fl_10_214 (dc hd_G_prove 4 rfl) g_1 ?_
  refine AW.nputI fl_10_403 (dc hd_G_prove 5 rfl) g_1 (fun C_6 eC_6 => ?_)
  have h := h C_6 eC_6
  refine AW.iconst (dc hd_G_prove 6 rfl) (by decide) ?_
  refine AW.istore_n [(2, v0), (0, 0), (9, 0)] (dc hd_G_prove 7 rfl) (Nat.le_of_ble_eq_true rfl) rfl rfl ?_
  obtain ⟨f_21, h⟩ := h
  exact aB_G_prove_14 n v0 Q f_21 (C_6, 0) h
def J_G_isRow_33 (n : Nat) (C : Cn) (s0 : Int) (Q : Int → Prop) : Prop :=
  (s0 = 0 ∨ s0 = 1) ∧ (Q s0)
theorem aJ_G_isRow_33 (n : Nat) (C : Cn) (s0 : Int) (Q : Int → Prop) (h : J_G_isRow_33 n C s0 Q) : AW p l e R s m args below meth c E M_G_isRow true (fun r C2 n2 => C2 = C ∧ n2 = n ∧ Q r) n 0 0 33 [(9, 0), (9, 0), (9, 0)] [(0, s0)] C := by
  unfold J_G_isRow_33 at h
  obtain ⟨g_12, h⟩ := h
  exact AW.zret (dc hd_G_isRow 19 rfl) rfl rfl (Nat.le_of_ble_eq_true rfl) (Nat.le_of_ble_eq_true rfl) g_12 ⟨rfl, rfl, h⟩
def P_G_isRow (n : Nat) (C : Cn) (v0 v1 v2 : Int) (Q : Int → Prop) : Prop :=
  okO n v0 10 ∧ (P_G_in n C v1 0 (w32 (C v0.toNat 35 - 1)) (fun (r_2 : Int) => (r_2 = 0 → (Q 0)) ∧ (¬ r_2 = 0 → (P_G_in n C v2 0 3 (fun (r_7 : Int) => J_G_isRow_33 n C (if r_7 = 0 then 0 else 1) Q)))))
theorem m_G_isRow (l : Launch) (E : Ev) (n : Nat) (C : Cn) (v0 v1 v2 : Int) (Q : Int → Prop) (h : P_G_isRow n C v0 v1 v2 Q) : MA l y_G_isRow M_G_isRow E true C n [(2, v0), (0, v1), (0, v2)] (fun r C2 n2 => C2 = C ∧ n2 = n ∧ Q r) := by
  refine MA.of (by decide) rfl rfl 0 rfl (fun p e s m args below meth c => ?_)
  show AW p l e _ s m args below meth c E M_G_isRow true _ n 0 0 0 [(2, v0), (0, v1), (0, v2)] [] C
  unfold P_G_isRow at h
  refine AW.iload_n (dc hd_G_isRow 0 rfl) rfl ?_
  refine AW.i2l (dc hd_G_isRow 1 rfl) ?_
  refine AW.lconst (v := 0) (dc hd_G_isRow 2 rfl) (by decide) (by decide +kernel) ?_
  refine AW.ra_n (dc hd_G_isRow 3 rfl) rfl rfl rfl ?_
  obtain ⟨g_1, h⟩ := h
  refine AW.getf fl_10_403 (dc hd_G_isRow 4 rfl) g_1 ?_
  refine AW.iconst (dc hd_G_isRow 5 rfl) (by decide) ?_
  refine AW.isub (dc hd_G_isRow 6 rfl) ?_
  refine AW.i2l (dc hd_G_isRow 7 rfl) ?_
  refine AW.callS (As := [(1, v1), (1, 0), (1, w32 (C v0.toNat 35 - 1))]) (rest := []) (m_G_in l E n C v1 0 (w32 (C v0.toNat 35 - 1)) _ h) cb_10_113 sm_G_in (dc hd_G_isRow 8 rfl) rfl rfl ⟨Nat.le_of_ble_eq_true rfl, Nat.le_of_ble_eq_true rfl⟩ ⟨(Nat.le_of_ble_eq_true rfl), (Nat.le_of_ble_eq_true rfl)⟩ (Nat.le_of_ble_eq_true rfl) (fun _ h => by cases h) (fun _ => rfl) (fun r_2 D_4 d_5 q_3 => ?_)
  obtain ⟨q_3a, q_3b, h⟩ := q_3
  subst D_4
  subst d_5
  show AW p l e _ s m args below meth c E M_G_isRow true _ n _ _ _ [(2, v0), (0, v1), (0, v2)] [(0, r_2)] C
  refine AW.if_eq (t := 32) (dc hd_G_isRow 9 rfl) (by decide) (fun c_6 => ?_) (fun c_6 => ?_)
  · have h := h.1 c_6
    refine AW.iconst (dc hd_G_isRow 18 rfl) (by decide) ?_
    exact AW.zret (dc hd_G_isRow 19 rfl) rfl rfl (Nat.le_of_ble_eq_true rfl) (Nat.le_of_ble_eq_true rfl) (by decide) ⟨rfl, rfl, h⟩
  · have h := h.2 c_6
    refine AW.iload_n (dc hd_G_isRow 10 rfl) rfl ?_
    refine AW.i2l (dc hd_G_isRow 11 rfl) ?_
    refine AW.lconst (v := 0) (dc hd_G_isRow 12 rfl) (by decide) (by decide +kernel) ?_
    refine AW.ldc2 (v := 3) (dc hd_G_isRow 13 rfl) ck_10_217 (by decide) rfl ?_
    refine AW.callS (As := [(1, v2), (1, 0), (1, 3)]) (rest := []) (m_G_in l E n C v2 0 3 _ h) cb_10_113 sm_G_in (dc hd_G_isRow 14 rfl) rfl rfl ⟨Nat.le_of_ble_eq_true rfl, Nat.le_of_ble_eq_true rfl⟩ ⟨(Nat.le_of_ble_eq_true rfl), (Nat.le_of_ble_eq_true rfl)⟩ (Nat.le_of_ble_eq_true rfl) (fun _ h => by cases h) (fun _ => rfl) (fun r_7 D_9 d_10 q_8 => ?_)
    obtain ⟨q_8a, q_8b, h⟩ := q_8
    subst D_9
    subst d_10
    show AW p l e _ s m args below meth c E M_G_isRow true _ n _ _ _ [(2, v0), (0, v1), (0, v2)] [(0, r_7)] C
    refine AW.if_eq (t := 32) (dc hd_G_isRow 15 rfl) (by decide) (fun c_11 => ?_) (fun c_11 => ?_)
    · simp only [if_pos c_11] at h
      refine AW.iconst (dc hd_G_isRow 18 rfl) (by decide) ?_
      refine AW.fgt [(9, 0), (9, 0), (9, 0)] ⟨.inr rfl, .inr rfl, .inr rfl, trivial⟩ ?_
      exact aJ_G_isRow_33 n C _ Q h
    · simp only [if_neg c_11] at h
      refine AW.iconst (dc hd_G_isRow 16 rfl) (by decide) ?_
      refine AW.goto (t := 33) (dc hd_G_isRow 17 rfl) (by decide) ?_
      refine AW.fgt [(9, 0), (9, 0), (9, 0)] ⟨.inr rfl, .inr rfl, .inr rfl, trivial⟩ ?_
      exact aJ_G_isRow_33 n C _ Q h
def P_G_row (n : Nat) (C : Cn) (v0 v1 v2 : Int) (Q : Int → Cn → Prop) : Prop :=
  okO n v0 10 ∧ (P_G_isRow n C v0 v1 v2 (fun (r_1 : Int) => (r_1 = 0 → (P_G_finds n C v0 0 (fun (r_7 : Int) (C_8 : Cn) => Q r_7 C_8))) ∧ (¬ r_1 = 0 → (okO n (PT v0.toNat 36) 17 ∧ (okI (PT v0.toNat 36) v1 ∧ (okO n (PT (PT v0.toNat 36).toNat v1.toNat) 12 ∧ (okI (PT (PT v0.toNat 36).toNat v1.toNat) v2 ∧ (Q (C (PT (PT v0.toNat 36).toNat v1.toNat).toNat v2.toNat) C))))))))
theorem m_G_row (l : Launch) (E : Ev) (n : Nat) (C : Cn) (v0 v1 v2 : Int) (Q : Int → Cn → Prop) (h : P_G_row n C v0 v1 v2 Q) : MA l y_G_row M_G_row E true C n [(2, v0), (0, v1), (0, v2)] (fun r C2 n2 => n2 = n ∧ Q r C2) := by
  refine MA.of (by decide) rfl rfl 0 rfl (fun p e s m args below meth c => ?_)
  show AW p l e _ s m args below meth c E M_G_row true _ n 0 0 0 [(2, v0), (0, v1), (0, v2)] [] C
  unfold P_G_row at h
  refine AW.ra_n (dc hd_G_row 0 rfl) rfl rfl rfl ?_
  refine AW.iload_n (dc hd_G_row 1 rfl) rfl ?_
  refine AW.iload_n (dc hd_G_row 2 rfl) rfl ?_
  obtain ⟨g_2, h⟩ := h
  refine AW.callV (As := [(0, v1), (0, v2)]) (rest := []) (ci := 10) (m_G_isRow l E n C v0 v1 v2 _ h) cb_10_409 im_G_isRow se_G_isRow ⟨_, _, rfl⟩ (by decide) (dc hd_G_row 3 rfl) g_2 rfl rfl ⟨Nat.le_of_ble_eq_true rfl, Nat.le_of_ble_eq_true rfl⟩ ⟨(Nat.le_of_ble_eq_true rfl), (Nat.le_of_ble_eq_true rfl)⟩ (Nat.le_of_ble_eq_true rfl) (fun _ h => by cases h) (fun _ => rfl) (fun r_1 D_4 d_5 q_3 => ?_)
  obtain ⟨q_3a, q_3b, h⟩ := q_3
  subst D_4
  subst d_5
  show AW p l e _ s m args below meth c E M_G_row true _ n _ _ _ [(2, v0), (0, v1), (0, v2)] [(0, r_1)] C
  refine AW.if_eq (t := 20) (dc hd_G_row 4 rfl) (by decide) (fun c_6 => ?_) (fun c_6 => ?_)
  · have h := h.1 c_6
    refine AW.ra_n (dc hd_G_row 12 rfl) rfl rfl rfl ?_
    refine AW.iconst (dc hd_G_row 13 rfl) (by decide) ?_
    refine AW.callV (As := [(0, 0)]) (rest := []) (ci := 10) (m_G_finds l E n C v0 0 _ h) cb_10_186 im_G_finds se_G_finds ⟨_, _, rfl⟩ (by decide) (dc hd_G_row 14 rfl) g_2 rfl rfl ⟨Nat.le_of_ble_eq_true rfl, Nat.le_of_ble_eq_true rfl⟩ ⟨(Nat.le_of_ble_eq_true rfl), (Nat.le_of_ble_eq_true rfl)⟩ (Nat.le_of_ble_eq_true rfl) (fun _ h => by cases h) (fun _ => rfl) (fun r_7 C_8 d_10 q_9 => ?_)
    obtain ⟨q_9a, h⟩ := q_9
    subst d_10
    show AW p l e _ s m args below meth c E M_G_row true _ n _ _ _ [(2, v0), (0, v1), (0, v2)] [(0, r_7)] C_8
    exact AW.iret (dc hd_G_row 15 rfl) rfl rfl (Nat.le_of_ble_eq_true rfl) (Nat.le_of_ble_eq_true rfl) ⟨rfl, h⟩
  · have h := h.2 c_6
    refine AW.ra_n (dc hd_G_row 5 rfl) rfl rfl rfl ?_
    refine AW.getp fl_10_76 (dc hd_G_row 6 rfl) g_2 rfl ?_
    refine AW.iload_n (dc hd_G_row 7 rfl) rfl ?_
    obtain ⟨g_11, h⟩ := h
    obtain ⟨g_12, h⟩ := h
    refine AW.aaldp (by decide) (dc hd_G_row 8 rfl) g_11 g_12 rfl ?_
    refine AW.iload_n (dc hd_G_row 9 rfl) rfl ?_
    obtain ⟨g_13, h⟩ := h
    obtain ⟨g_14, h⟩ := h
    refine AW.iald (dc hd_G_row 10 rfl) g_13 g_14 ?_
    refine AW.goto (t := 25) (dc hd_G_row 11 rfl) (by decide) ?_
    exact AW.iret (dc hd_G_row 15 rfl) rfl rfl (Nat.le_of_ble_eq_true rfl) (Nat.le_of_ble_eq_true rfl) ⟨rfl, h⟩
def P_G_alter (n : Nat) (C : Cn) (v0 v1 v2 v3 : Int) (Q : Int → Cn → Prop) : Prop :=
  okO n v0 10 ∧ (P_G_isRow n C v0 v1 v2 (fun (r_1 : Int) => (r_1 = 0 → (P_G_finds n C v0 0 (fun (r_13 : Int) (C_14 : Cn) => Q r_13 C_14))) ∧ (¬ r_1 = 0 → (okO n (PT v0.toNat 36) 17 ∧ (okI (PT v0.toNat 36) v1 ∧ (okO n (PT (PT v0.toNat 36).toNat v1.toNat) 12 ∧ (okI (PT (PT v0.toNat 36).toNat v1.toNat) v2 ∧ (∀ v4_11 : Int, v4_11 = C (PT (PT v0.toNat 36).toNat v1.toNat).toNat v2.toNat → (∀ C_12 : Cn, C_12 = wr C (PT (PT v0.toNat 36).toNat v1.toNat).toNat v2.toNat v3 → (Q v4_11 C_12))))))))))
theorem m_G_alter (l : Launch) (E : Ev) (n : Nat) (C : Cn) (v0 v1 v2 v3 : Int) (Q : Int → Cn → Prop) (h : P_G_alter n C v0 v1 v2 v3 Q) : MA l y_G_alter M_G_alter E true C n [(2, v0), (0, v1), (0, v2), (0, v3)] (fun r C2 n2 => n2 = n ∧ Q r C2) := by
  refine MA.of (by decide) rfl rfl 1 rfl (fun p e s m args below meth c => ?_)
  show AW p l e _ s m args below meth c E M_G_alter true _ n 0 0 0 [(2, v0), (0, v1), (0, v2), (0, v3), (9, 0)] [] C
  unfold P_G_alter at h
  refine AW.ra_n (dc hd_G_alter 0 rfl) rfl rfl rfl ?_
  refine AW.iload_n (dc hd_G_alter 1 rfl) rfl ?_
  refine AW.iload_n (dc hd_G_alter 2 rfl) rfl ?_
  obtain ⟨g_2, h⟩ := h
  refine AW.callV (As := [(0, v1), (0, v2)]) (rest := []) (ci := 10) (m_G_isRow l E n C v0 v1 v2 _ h) cb_10_409 im_G_isRow se_G_isRow ⟨_, _, rfl⟩ (by decide) (dc hd_G_alter 3 rfl) g_2 rfl rfl ⟨Nat.le_of_ble_eq_true rfl, Nat.le_of_ble_eq_true rfl⟩ ⟨(Nat.le_of_ble_eq_true rfl), (Nat.le_of_ble_eq_true rfl)⟩ (Nat.le_of_ble_eq_true rfl) (fun _ h => by cases h) (fun _ => rfl) (fun r_1 D_4 d_5 q_3 => ?_)
  obtain ⟨q_3a, q_3b, h⟩ := q_3
  subst D_4
  subst d_5
  show AW p l e _ s m args below meth c E M_G_alter true _ n _ _ _ [(2, v0), (0, v1), (0, v2), (0, v3), (9, 0)] [(0, r_1)] C
  refine AW.if_ne (t := 15) (dc hd_G_alter 4 rfl) (by decide) (fun c_6 => ?_) (fun c_6 => ?_)
  · have h := h.2 c_6
    refine AW.ra_n (dc hd_G_alter 9 rfl) rfl rfl rfl ?_
    refine AW.getp fl_10_76 (dc hd_G_alter 10 rfl) g_2 rfl ?_
    refine AW.iload_n (dc hd_G_alter 11 rfl) rfl ?_
    obtain ⟨g_7, h⟩ := h
    obtain ⟨g_8, h⟩ := h
    refine AW.aaldp (by decide) (dc hd_G_alter 12 rfl) g_7 g_8 rfl ?_
    refine AW.iload_n (dc hd_G_alter 13 rfl) rfl ?_
    obtain ⟨g_9, h⟩ := h
    obtain ⟨g_10, h⟩ := h
    refine AW.iald (dc hd_G_alter 14 rfl) g_9 g_10 ?_
    refine AW.nm (fun v4_11 ev4_11 => ?_)
    have h := h v4_11 ev4_11
    refine AW.istore [(2, v0), (0, v1), (0, v2), (0, v3), (0, v4_11)] (dc hd_G_alter 15 rfl) (Nat.le_of_ble_eq_true rfl) rfl rfl ?_
    refine AW.ra_n (dc hd_G_alter 16 rfl) rfl rfl rfl ?_
    refine AW.getp fl_10_76 (dc hd_G_alter 17 rfl) g_2 rfl ?_
    refine AW.iload_n (dc hd_G_alter 18 rfl) rfl ?_
    refine AW.aaldp (by decide) (dc hd_G_alter 19 rfl) g_7 g_8 rfl ?_
    refine AW.iload_n (dc hd_G_alter 20 rfl) rfl ?_
    refine AW.iload_n (dc hd_G_alter 21 rfl) rfl ?_
    refine AW.niast (dc hd_G_alter 22 rfl) g_9 g_10 (fun C_12 eC_12 => ?_)
    have h := h C_12 eC_12
    refine AW.iload (dc hd_G_alter 23 rfl) rfl ?_
    exact AW.iret (dc hd_G_alter 24 rfl) rfl rfl (Nat.le_of_ble_eq_true rfl) (Nat.le_of_ble_eq_true rfl) ⟨rfl, h⟩
  · have h := h.1 c_6
    refine AW.ra_n (dc hd_G_alter 5 rfl) rfl rfl rfl ?_
    refine AW.iconst (dc hd_G_alter 6 rfl) (by decide) ?_
    refine AW.callV (As := [(0, 0)]) (rest := []) (ci := 10) (m_G_finds l E n C v0 0 _ h) cb_10_186 im_G_finds se_G_finds ⟨_, _, rfl⟩ (by decide) (dc hd_G_alter 7 rfl) g_2 rfl rfl ⟨Nat.le_of_ble_eq_true rfl, Nat.le_of_ble_eq_true rfl⟩ ⟨(Nat.le_of_ble_eq_true rfl), (Nat.le_of_ble_eq_true rfl)⟩ (Nat.le_of_ble_eq_true rfl) (fun _ h => by cases h) (fun _ => rfl) (fun r_13 C_14 d_16 q_15 => ?_)
    obtain ⟨q_15a, h⟩ := q_15
    subst d_16
    show AW p l e _ s m args below meth c E M_G_alter true _ n _ _ _ [(2, v0), (0, v1), (0, v2), (0, v3), (9, 0)] [(0, r_13)] C_14
    exact AW.iret (dc hd_G_alter 8 rfl) rfl rfl (Nat.le_of_ble_eq_true rfl) (Nat.le_of_ble_eq_true rfl) ⟨rfl, h⟩
def J_G_judge_103 (n : Nat) (C : Cn) (s0 : Int) (Q : Int → Cn → Prop) : Prop :=
  Q s0 C
theorem aJ_G_judge_103 (n : Nat) (C : Cn) (s0 : Int) (Q : Int → Cn → Prop) (h : J_G_judge_103 n C s0 Q) : AW p l e R s m args below meth c E M_G_judge true (fun r C2 n2 => n2 = n ∧ Q r C2) n 0 0 103 [(9, 0), (9, 0), (9, 0), (9, 0)] [(0, s0)] C := by
  unfold J_G_judge_103 at h
  exact AW.iret (dc hd_G_judge 59 rfl) rfl rfl (Nat.le_of_ble_eq_true rfl) (Nat.le_of_ble_eq_true rfl) ⟨rfl, h⟩
def J_G_judge_82 (n : Nat) (C : Cn) (v0 : Int) (Q : Int → Cn → Prop) : Prop :=
  okO n v0 10 ∧ (J_G_judge_103 n C (if C v0.toNat 35 ≤ C v0.toNat 18 then 0 else w32 (1 + C v0.toNat 18)) Q)
theorem aJ_G_judge_82 (n : Nat) (C : Cn) (v0 : Int) (Q : Int → Cn → Prop) (h : J_G_judge_82 n C v0 Q) : AW p l e R s m args below meth c E M_G_judge true (fun r C2 n2 => n2 = n ∧ Q r C2) n 0 0 82 [(2, v0), (9, 0), (9, 0), (9, 0)] [] C := by
  unfold J_G_judge_82 at h
  refine AW.ra_n (dc hd_G_judge 48 rfl) rfl rfl rfl ?_
  obtain ⟨g_8, h⟩ := h
  refine AW.getf fl_10_403 (dc hd_G_judge 49 rfl) g_8 ?_
  refine AW.ra_n (dc hd_G_judge 50 rfl) rfl rfl rfl ?_
  refine AW.getf fl_10_214 (dc hd_G_judge 51 rfl) g_8 ?_
  refine AW.icmp_le (t := 102) (dc hd_G_judge 52 rfl) (by decide) (fun c_9 => ?_) (fun c_9 => ?_)
  · simp only [if_pos c_9] at h
    refine AW.iconst (dc hd_G_judge 58 rfl) (by decide) ?_
    refine AW.fgt [(9, 0), (9, 0), (9, 0), (9, 0)] ⟨.inr rfl, .inl rfl, .inl rfl, .inl rfl, trivial⟩ ?_
    exact aJ_G_judge_103 n C _ Q h
  · simp only [if_neg c_9] at h
    refine AW.iconst (dc hd_G_judge 53 rfl) (by decide) ?_
    refine AW.ra_n (dc hd_G_judge 54 rfl) rfl rfl rfl ?_
    refine AW.getf fl_10_214 (dc hd_G_judge 55 rfl) g_8 ?_
    refine AW.iadd (dc hd_G_judge 56 rfl) ?_
    refine AW.goto (t := 103) (dc hd_G_judge 57 rfl) (by decide) ?_
    refine AW.fgt [(9, 0), (9, 0), (9, 0), (9, 0)] ⟨.inr rfl, .inl rfl, .inl rfl, .inl rfl, trivial⟩ ?_
    exact aJ_G_judge_103 n C _ Q h
def J_G_judge_68 (n : Nat) (C : Cn) (v0 v1 v2 : Int) (kz6 : Int → Prop) (Q : Int → Cn → Prop) : Prop :=
  (v2 = 0 → (Q (w32 (1 + v1)) C)) ∧ (¬ v2 = 0 → (kz6 (w32 (v1 + 1))))
theorem aJ_G_judge_68 (n : Nat) (C : Cn) (v0 v1 v2 : Int) (kz6 : Int → Prop) (Q : Int → Cn → Prop) (hkz6 : ∀ (z1 : Int), kz6 z1 → AW p l e R s m args below meth c E M_G_judge true (fun r C2 n2 => n2 = n ∧ Q r C2) n 0 0 6 [(2, v0), (0, z1), (9, 0), (9, 0)] [] C) (h : J_G_judge_68 n C v0 v1 v2 kz6 Q) : AW p l e R s m args below meth c E M_G_judge true (fun r C2 n2 => n2 = n ∧ Q r C2) n 0 0 68 [(2, v0), (0, v1), (0, v2), (9, 0)] [] C := by
  unfold J_G_judge_68 at h
  refine AW.iload_n (dc hd_G_judge 40 rfl) rfl ?_
  refine AW.if_ne (t := 76) (dc hd_G_judge 41 rfl) (by decide) (fun c_12 => ?_) (fun c_12 => ?_)
  · have h := h.2 c_12
    refine AW.iinc [(2, v0), (0, w32 (v1 + 1)), (0, v2), (9, 0)] (dc hd_G_judge 46 rfl) rfl (Nat.le_of_ble_eq_true rfl) rfl rfl ?_
    refine AW.goto (t := 6) (dc hd_G_judge 47 rfl) (by decide) ?_
    refine AW.fgt [(2, v0), (0, w32 (v1 + 1)), (9, 0), (9, 0)] ⟨.inl rfl, .inl rfl, .inr rfl, .inl rfl, trivial⟩ ?_
    exact hkz6 (w32 (v1 + 1)) h
  · have h := h.1 c_12
    refine AW.iconst (dc hd_G_judge 42 rfl) (by decide) ?_
    refine AW.iload_n (dc hd_G_judge 43 rfl) rfl ?_
    refine AW.iadd (dc hd_G_judge 44 rfl) ?_
    exact AW.iret (dc hd_G_judge 45 rfl) rfl rfl (Nat.le_of_ble_eq_true rfl) (Nat.le_of_ble_eq_true rfl) ⟨rfl, h⟩
def J_G_judge_61 (n : Nat) (C : Cn) (v0 v1 v3 s0 : Int) (kz6 : Int → Prop) (kz30 : Int × Int → Prop) (Q : Int → Cn → Prop) : Prop :=
  kz30 (s0, w32 (v3 + 1))
theorem aJ_G_judge_61 (n : Nat) (C : Cn) (v0 v1 v3 s0 : Int) (kz6 : Int → Prop) (kz30 : Int × Int → Prop) (Q : Int → Cn → Prop) (hkz6 : ∀ (z1 : Int), kz6 z1 → AW p l e R s m args below meth c E M_G_judge true (fun r C2 n2 => n2 = n ∧ Q r C2) n 0 0 6 [(2, v0), (0, z1), (9, 0), (9, 0)] [] C) (hkz30 : ∀ (z2 : Int) (z3 : Int), kz30 (z2, z3) → AW p l e R s m args below meth c E M_G_judge true (fun r C2 n2 => n2 = n ∧ Q r C2) n 0 0 30 [(2, v0), (0, v1), (0, z2), (0, z3)] [] C) (h : J_G_judge_61 n C v0 v1 v3 s0 kz6 kz30 Q) : AW p l e R s m args below meth c E M_G_judge true (fun r C2 n2 => n2 = n ∧ Q r C2) n 0 0 61 [(2, v0), (0, v1), (9, 0), (0, v3)] [(0, s0)] C := by
  unfold J_G_judge_61 at h
  refine AW.istore_n [(2, v0), (0, v1), (0, s0), (0, v3)] (dc hd_G_judge 37 rfl) (Nat.le_of_ble_eq_true rfl) rfl rfl ?_
  refine AW.iinc [(2, v0), (0, v1), (0, s0), (0, w32 (v3 + 1))] (dc hd_G_judge 38 rfl) rfl (Nat.le_of_ble_eq_true rfl) rfl rfl ?_
  refine AW.goto (t := 30) (dc hd_G_judge 39 rfl) (by decide) ?_
  exact hkz30 s0 (w32 (v3 + 1)) h
def B_G_judge_30 (n : Nat) (C : Cn) (v0 v1 : Int) (kz6 : Int → Prop) (Q : Int → Cn → Prop) (kz30 : Int × Int → Prop) (z : Int × Int) : Prop := match z with
  | (v2, v3) => (4 ≤ v3 → (J_G_judge_68 n C v0 v1 v2 kz6 Q)) ∧ (¬ 4 ≤ v3 → ((v2 = 0 → (J_G_judge_68 n C v0 v1 v2 kz6 Q)) ∧ (¬ v2 = 0 → (okO n v0 10 ∧ (okO n (PT v0.toNat 36) 17 ∧ (okI (PT v0.toNat 36) v1 ∧ (okO n (PT (PT v0.toNat 36).toNat v1.toNat) 12 ∧ (okI (PT (PT v0.toNat 36).toNat v1.toNat) v3 ∧ (P_G_fieldIs n C v0 v1 v3 (fun (r_19 : Int) => J_G_judge_61 n C v0 v1 v3 (if C (PT (PT v0.toNat 36).toNat v1.toNat).toNat v3.toNat = r_19 then 1 else 0) kz6 kz30 Q))))))))))
theorem bB_G_judge_30 (n : Nat) (C : Cn) (v0 v1 : Int) (kz6 : Int → Prop) (Q : Int → Cn → Prop) (hkz6 : ∀ (z1 : Int), kz6 z1 → AW p l e R s m args below meth c E M_G_judge true (fun r C2 n2 => n2 = n ∧ Q r C2) n 0 0 6 [(2, v0), (0, z1), (9, 0), (9, 0)] [] C) (kz30 : Int × Int → Prop) (hkz30 : ∀ (z2 : Int) (z3 : Int), kz30 (z2, z3) → AW p l e R s m args below meth c E M_G_judge true (fun r C2 n2 => n2 = n ∧ Q r C2) n 0 0 30 [(2, v0), (0, v1), (0, z2), (0, z3)] [] C) (v2 : Int) (v3 : Int) (h : B_G_judge_30 n C v0 v1 kz6 Q kz30 (v2, v3)) : AW p l e R s m args below meth c E M_G_judge true (fun r C2 n2 => n2 = n ∧ Q r C2) n 0 0 30 [(2, v0), (0, v1), (0, v2), (0, v3)] [] C := by
  unfold B_G_judge_30 at h
  dsimp only at h
  refine AW.iload_n (dc hd_G_judge 18 rfl) rfl ?_
  refine AW.iconst (dc hd_G_judge 19 rfl) (by decide) ?_
  refine AW.icmp_ge (t := 68) (dc hd_G_judge 20 rfl) (by decide) (fun c_11 => ?_) (fun c_11 => ?_)
  · have h := h.1 c_11
    refine AW.fgt [(2, v0), (0, v1), (0, v2), (9, 0)] ⟨.inl rfl, .inl rfl, .inl rfl, .inr rfl, trivial⟩ ?_
    exact aJ_G_judge_68 n C v0 v1 v2 kz6 Q hkz6 h
  · have h := h.2 c_11
    refine AW.iload_n (dc hd_G_judge 21 rfl) rfl ?_
    refine AW.if_eq (t := 68) (dc hd_G_judge 22 rfl) (by decide) (fun c_13 => ?_) (fun c_13 => ?_)
    · have h := h.1 c_13
      refine AW.fgt [(2, v0), (0, v1), (0, v2), (9, 0)] ⟨.inl rfl, .inl rfl, .inl rfl, .inr rfl, trivial⟩ ?_
      exact aJ_G_judge_68 n C v0 v1 v2 kz6 Q hkz6 h
    · have h := h.2 c_13
      refine AW.ra_n (dc hd_G_judge 23 rfl) rfl rfl rfl ?_
      obtain ⟨g_14, h⟩ := h
      refine AW.getp fl_10_76 (dc hd_G_judge 24 rfl) g_14 rfl ?_
      refine AW.iload_n (dc hd_G_judge 25 rfl) rfl ?_
      obtain ⟨g_15, h⟩ := h
      obtain ⟨g_16, h⟩ := h
      refine AW.aaldp (by decide) (dc hd_G_judge 26 rfl) g_15 g_16 rfl ?_
      refine AW.iload_n (dc hd_G_judge 27 rfl) rfl ?_
      obtain ⟨g_17, h⟩ := h
      obtain ⟨g_18, h⟩ := h
      refine AW.iald (dc hd_G_judge 28 rfl) g_17 g_18 ?_
      refine AW.ra_n (dc hd_G_judge 29 rfl) rfl rfl rfl ?_
      refine AW.iload_n (dc hd_G_judge 30 rfl) rfl ?_
      refine AW.iload_n (dc hd_G_judge 31 rfl) rfl ?_
      refine AW.callV (As := [(0, v1), (0, v3)]) (rest := [(0, C (PT (PT v0.toNat 36).toNat v1.toNat).toNat v3.toNat)]) (ci := 10) (m_G_fieldIs l E n C v0 v1 v3 _ h) cb_10_406 im_G_fieldIs se_G_fieldIs ⟨_, _, rfl⟩ (by decide) (dc hd_G_judge 32 rfl) g_14 rfl rfl ⟨Nat.le_of_ble_eq_true rfl, Nat.le_of_ble_eq_true rfl⟩ ⟨(Nat.le_of_ble_eq_true rfl), (Nat.le_of_ble_eq_true rfl)⟩ (Nat.le_of_ble_eq_true rfl) (fun _ h => by cases h) (fun _ => rfl) (fun r_19 D_21 d_22 q_20 => ?_)
      obtain ⟨q_20a, q_20b, h⟩ := q_20
      subst D_21
      subst d_22
      show AW p l e _ s m args below meth c E M_G_judge true _ n _ _ _ [(2, v0), (0, v1), (0, v2), (0, v3)] [(0, r_19), (0, C (PT (PT v0.toNat 36).toNat v1.toNat).toNat v3.toNat)] C
      refine AW.icmp_ne (t := 60) (dc hd_G_judge 33 rfl) (by decide) (fun c_23 => ?_) (fun c_23 => ?_)
      · simp only [if_neg c_23] at h
        refine AW.iconst (dc hd_G_judge 36 rfl) (by decide) ?_
        refine AW.fgt [(2, v0), (0, v1), (9, 0), (0, v3)] ⟨.inl rfl, .inl rfl, .inr rfl, .inl rfl, trivial⟩ ?_
        exact aJ_G_judge_61 n C _ _ _ _ kz6 kz30 Q hkz6 hkz30 h
      · simp only [if_pos c_23] at h
        refine AW.iconst (dc hd_G_judge 34 rfl) (by decide) ?_
        refine AW.goto (t := 61) (dc hd_G_judge 35 rfl) (by decide) ?_
        refine AW.fgt [(2, v0), (0, v1), (9, 0), (0, v3)] ⟨.inl rfl, .inl rfl, .inr rfl, .inl rfl, trivial⟩ ?_
        exact aJ_G_judge_61 n C _ _ _ _ kz6 kz30 Q hkz6 hkz30 h
theorem aB_G_judge_30 (n : Nat) (C : Cn) (v0 v1 : Int) (kz6 : Int → Prop) (Q : Int → Cn → Prop) (hkz6 : ∀ (z1 : Int), kz6 z1 → AW p l e R s m args below meth c E M_G_judge true (fun r C2 n2 => n2 = n ∧ Q r C2) n 0 0 6 [(2, v0), (0, z1), (9, 0), (9, 0)] [] C) : ∀ (f : Nat) (z : Int × Int), lp (B_G_judge_30 n C v0 v1 kz6 Q) f z → AW p l e R s m args below meth c E M_G_judge true (fun r C2 n2 => n2 = n ∧ Q r C2) n 0 0 30 [(2, v0), (0, v1), (0, z.1), (0, z.2)] [] C := by
  intro f
  induction f with
  | zero => intro z h; exact False.elim h
  | succ f ih => intro z h; exact bB_G_judge_30 n C v0 v1 kz6 Q hkz6 (lp (B_G_judge_30 n C v0 v1 kz6 Q) f) (fun a0 a1 h => ih (a0, a1) h) z.1 z.2 h
def J_G_judge_27 (n : Nat) (C : Cn) (v0 v1 s0 : Int) (kz6 : Int → Prop) (Q : Int → Cn → Prop) : Prop :=
  ∃ f_24 : Nat, lp (B_G_judge_30 n C v0 v1 kz6 Q) f_24 (s0, 0)
theorem aJ_G_judge_27 (n : Nat) (C : Cn) (v0 v1 s0 : Int) (kz6 : Int → Prop) (Q : Int → Cn → Prop) (hkz6 : ∀ (z1 : Int), kz6 z1 → AW p l e R s m args below meth c E M_G_judge true (fun r C2 n2 => n2 = n ∧ Q r C2) n 0 0 6 [(2, v0), (0, z1), (9, 0), (9, 0)] [] C) (h : J_G_judge_27 n C v0 v1 s0 kz6 Q) : AW p l e R s m args below meth c E M_G_judge true (fun r C2 n2 => n2 = n ∧ Q r C2) n 0 0 27 [(2, v0), (0, v1), (9, 0), (9, 0)] [(0, s0)] C := by
  unfold J_G_judge_27 at h
  refine AW.istore_n [(2, v0), (0, v1), (0, s0), (9, 0)] (dc hd_G_judge 15 rfl) (Nat.le_of_ble_eq_true rfl) rfl rfl ?_
  refine AW.iconst (dc hd_G_judge 16 rfl) (by decide) ?_
  refine AW.istore_n [(2, v0), (0, v1), (0, s0), (0, 0)] (dc hd_G_judge 17 rfl) (Nat.le_of_ble_eq_true rfl) rfl rfl ?_
  obtain ⟨f_24, h⟩ := h
  exact aB_G_judge_30 n C v0 v1 kz6 Q hkz6 f_24 (s0, 0) h
def B_G_judge_6 (n : Nat) (C : Cn) (v0 : Int) (Q : Int → Cn → Prop) (kz6 : Int → Prop) (v1 : Int) : Prop :=
  okO n v0 10 ∧ ((C v0.toNat 18 ≤ v1 → (J_G_judge_82 n C v0 Q)) ∧ (¬ C v0.toNat 18 ≤ v1 → (J_G_judge_27 n C v0 v1 (if C v0.toNat 35 ≤ v1 then 0 else 1) kz6 Q)))
theorem bB_G_judge_6 (n : Nat) (C : Cn) (v0 : Int) (Q : Int → Cn → Prop) (kz6 : Int → Prop) (hkz6 : ∀ (z1 : Int), kz6 z1 → AW p l e R s m args below meth c E M_G_judge true (fun r C2 n2 => n2 = n ∧ Q r C2) n 0 0 6 [(2, v0), (0, z1), (9, 0), (9, 0)] [] C) (v1 : Int) (h : B_G_judge_6 n C v0 Q kz6 v1) : AW p l e R s m args below meth c E M_G_judge true (fun r C2 n2 => n2 = n ∧ Q r C2) n 0 0 6 [(2, v0), (0, v1), (9, 0), (9, 0)] [] C := by
  unfold B_G_judge_6 at h
  refine AW.iload_n (dc hd_G_judge 4 rfl) rfl ?_
  refine AW.ra_n (dc hd_G_judge 5 rfl) rfl rfl rfl ?_
  obtain ⟨g_6, h⟩ := h
  refine AW.getf fl_10_214 (dc hd_G_judge 6 rfl) g_6 ?_
  refine AW.icmp_ge (t := 82) (dc hd_G_judge 7 rfl) (by decide) (fun c_7 => ?_) (fun c_7 => ?_)
  · have h := h.1 c_7
    refine AW.fgt [(2, v0), (9, 0), (9, 0), (9, 0)] ⟨.inl rfl, .inr rfl, .inl rfl, .inl rfl, trivial⟩ ?_
    exact aJ_G_judge_82 n C v0 Q h
  · have h := h.2 c_7
    refine AW.iload_n (dc hd_G_judge 8 rfl) rfl ?_
    refine AW.ra_n (dc hd_G_judge 9 rfl) rfl rfl rfl ?_
    refine AW.getf fl_10_403 (dc hd_G_judge 10 rfl) g_6 ?_
    refine AW.icmp_ge (t := 26) (dc hd_G_judge 11 rfl) (by decide) (fun c_10 => ?_) (fun c_10 => ?_)
    · simp only [if_pos c_10] at h
      refine AW.iconst (dc hd_G_judge 14 rfl) (by decide) ?_
      exact aJ_G_judge_27 n C _ _ _ kz6 Q hkz6 h
    · simp only [if_neg c_10] at h
      refine AW.iconst (dc hd_G_judge 12 rfl) (by decide) ?_
      refine AW.goto (t := 27) (dc hd_G_judge 13 rfl) (by decide) ?_
      exact aJ_G_judge_27 n C _ _ _ kz6 Q hkz6 h
theorem aB_G_judge_6 (n : Nat) (C : Cn) (v0 : Int) (Q : Int → Cn → Prop) : ∀ (f : Nat) (z : Int), lp (B_G_judge_6 n C v0 Q) f z → AW p l e R s m args below meth c E M_G_judge true (fun r C2 n2 => n2 = n ∧ Q r C2) n 0 0 6 [(2, v0), (0, z), (9, 0), (9, 0)] [] C := by
  intro f
  induction f with
  | zero => intro z h; exact False.elim h
  | succ f ih => intro z h; exact bB_G_judge_6 n C v0 Q (lp (B_G_judge_6 n C v0 Q) f) (fun a0 h => ih a0 h) z h
def P_G_judge (n : Nat) (C : Cn) (v0 : Int) (Q : Int → Cn → Prop) : Prop :=
  okO n v0 10 ∧ (P_G_maps n C v0 (fun (_ : Int) (C_2 : Cn) => ∃ f_25 : Nat, lp (B_G_judge_6 n C_2 v0 Q) f_25 0))
theorem m_G_judge (l : Launch) (E : Ev) (n : Nat) (C : Cn) (v0 : Int) (Q : Int → Cn → Prop) (h : P_G_judge n C v0 Q) : MA l y_G_judge M_G_judge E true C n [(2, v0)] (fun r C2 n2 => n2 = n ∧ Q r C2) := by
  refine MA.of (by decide) rfl rfl 3 rfl (fun p e s m args below meth c => ?_)
  show AW p l e _ s m args below meth c E M_G_judge true _ n 0 0 0 [(2, v0), (9, 0), (9, 0), (9, 0)] [] C
  unfold P_G_judge at h
  refine AW.ra_n (dc hd_G_judge 0 rfl) rfl rfl rfl ?_
  obtain ⟨g_1, h⟩ := h
  refine AW.callV (As := []) (rest := []) (ci := 10) (m_G_maps l E n C v0 _ h) cb_10_211 im_G_maps se_G_maps ⟨_, _, rfl⟩ (by decide) (dc hd_G_judge 1 rfl) g_1 rfl rfl ⟨Nat.le_of_ble_eq_true rfl, Nat.le_of_ble_eq_true rfl⟩ ⟨(Nat.le_of_ble_eq_true rfl), (Nat.le_of_ble_eq_true rfl)⟩ (Nat.le_of_ble_eq_true rfl) (fun _ h => by cases h) (fun _ => rfl) (fun u_4 C_2 d_5 q_3 => ?_)
  obtain ⟨q_3a, h⟩ := q_3
  subst d_5
  show AW p l e _ s m args below meth c E M_G_judge true _ n _ _ _ [(2, v0), (9, 0), (9, 0), (9, 0)] [] C_2
  refine AW.iconst (dc hd_G_judge 2 rfl) (by decide) ?_
  refine AW.istore_n [(2, v0), (0, 0), (9, 0), (9, 0)] (dc hd_G_judge 3 rfl) (Nat.le_of_ble_eq_true rfl) rfl rfl ?_
  obtain ⟨f_25, h⟩ := h
  exact aB_G_judge_6 n C_2 v0 Q f_25 0 h
def B_G_feed_39 (n : Nat) (v0 v1 : Int) (Q : Int → Cn → Prop) (kz39 : Cn × Int → Prop) (z : Cn × Int) : Prop := match z with
  | (C, v3) => (v3 < 0 → (okO n v0 10 ∧ (Q (C v0.toNat 38) C))) ∧ (¬ v3 < 0 → (okO n v0 10 ∧ (okO n (PT v0.toNat 37) 12 ∧ (okI (PT v0.toNat 37) (C v0.toNat 38) ∧ (∀ C_13 : Cn, C_13 = wr C (PT v0.toNat 37).toNat (C v0.toNat 38).toNat (and32 (shr32 v1 (w32 (8 * v3))) 255) → (∀ C_14 : Cn, C_14 = wr C_13 v0.toNat 38 (w32 (C_13 v0.toNat 38 + 1)) → (kz39 (C_14, w32 (v3 + (-1))))))))))
theorem bB_G_feed_39 (n : Nat) (v0 v1 : Int) (Q : Int → Cn → Prop) (kz39 : Cn × Int → Prop) (hkz39 : ∀ (Cz : Cn) (z3 : Int), kz39 (Cz, z3) → AW p l e R s m args below meth c E M_G_feed true (fun r C2 n2 => n2 = n ∧ Q r C2) n 0 0 39 [(2, v0), (0, v1), (9, 0), (0, z3)] [] Cz) (C : Cn) (v3 : Int) (h : B_G_feed_39 n v0 v1 Q kz39 (C, v3)) : AW p l e R s m args below meth c E M_G_feed true (fun r C2 n2 => n2 = n ∧ Q r C2) n 0 0 39 [(2, v0), (0, v1), (9, 0), (0, v3)] [] C := by
  unfold B_G_feed_39 at h
  dsimp only at h
  refine AW.iload_n (dc hd_G_feed 24 rfl) rfl ?_
  refine AW.if_lt (t := 78) (dc hd_G_feed 25 rfl) (by decide) (fun c_8 => ?_) (fun c_8 => ?_)
  · have h := h.1 c_8
    refine AW.ra_n (dc hd_G_feed 46 rfl) rfl rfl rfl ?_
    obtain ⟨g_9, h⟩ := h
    refine AW.getf fl_10_412 (dc hd_G_feed 47 rfl) g_9 ?_
    exact AW.iret (dc hd_G_feed 48 rfl) rfl rfl (Nat.le_of_ble_eq_true rfl) (Nat.le_of_ble_eq_true rfl) ⟨rfl, h⟩
  · have h := h.2 c_8
    refine AW.ra_n (dc hd_G_feed 26 rfl) rfl rfl rfl ?_
    obtain ⟨g_10, h⟩ := h
    refine AW.getp fl_10_79 (dc hd_G_feed 27 rfl) g_10 rfl ?_
    refine AW.ra_n (dc hd_G_feed 28 rfl) rfl rfl rfl ?_
    refine AW.getf fl_10_412 (dc hd_G_feed 29 rfl) g_10 ?_
    refine AW.iload_n (dc hd_G_feed 30 rfl) rfl ?_
    refine AW.bipush (dc hd_G_feed 31 rfl) (by decide) (by decide +kernel) ?_
    refine AW.iload_n (dc hd_G_feed 32 rfl) rfl ?_
    refine AW.imul (dc hd_G_feed 33 rfl) ?_
    refine AW.ishr (dc hd_G_feed 34 rfl) ?_
    refine AW.sipush (dc hd_G_feed 35 rfl) (by decide) (by decide +kernel) ?_
    refine AW.iand (dc hd_G_feed 36 rfl) ?_
    obtain ⟨g_11, h⟩ := h
    obtain ⟨g_12, h⟩ := h
    refine AW.niast (dc hd_G_feed 37 rfl) g_11 g_12 (fun C_13 eC_13 => ?_)
    have h := h C_13 eC_13
    refine AW.ra_n (dc hd_G_feed 38 rfl) rfl rfl rfl ?_
    refine AW.rdup (dc hd_G_feed 39 rfl) rfl ?_
    refine AW.getf fl_10_412 (dc hd_G_feed 40 rfl) g_10 ?_
    refine AW.iconst (dc hd_G_feed 41 rfl) (by decide) ?_
    refine AW.iadd (dc hd_G_feed 42 rfl) ?_
    refine AW.nputI fl_10_412 (dc hd_G_feed 43 rfl) g_10 (fun C_14 eC_14 => ?_)
    have h := h C_14 eC_14
    refine AW.iinc [(2, v0), (0, v1), (9, 0), (0, w32 (v3 + (-1)))] (dc hd_G_feed 44 rfl) rfl (Nat.le_of_ble_eq_true rfl) rfl rfl ?_
    refine AW.goto (t := 39) (dc hd_G_feed 45 rfl) (by decide) ?_
    exact hkz39 C_14 (w32 (v3 + (-1))) h
theorem aB_G_feed_39 (n : Nat) (v0 v1 : Int) (Q : Int → Cn → Prop) : ∀ (f : Nat) (z : Cn × Int), lp (B_G_feed_39 n v0 v1 Q) f z → AW p l e R s m args below meth c E M_G_feed true (fun r C2 n2 => n2 = n ∧ Q r C2) n 0 0 39 [(2, v0), (0, v1), (9, 0), (0, z.2)] [] (z.1) := by
  intro f
  induction f with
  | zero => intro z h; exact False.elim h
  | succ f ih => intro z h; exact bB_G_feed_39 n v0 v1 Q (lp (B_G_feed_39 n v0 v1 Q) f) (fun a0 a1 h => ih (a0, a1) h) z.1 z.2 h
def P_G_feed (n : Nat) (C : Cn) (v0 v1 v2 : Int) (Q : Int → Cn → Prop) : Prop :=
  P_G_in n C v2 1 4 (fun (r_1 : Int) => (r_1 = 0 → (okO n v0 10 ∧ (P_G_finds n C v0 0 (fun (r_20 : Int) (C_22 : Cn) => Q r_20 C_22)))) ∧ (¬ r_1 = 0 → (okO n v0 10 ∧ ((w32 (C v0.toNat 38 + v2) ≤ 120 → (∃ f_15 : Nat, lp (B_G_feed_39 n v0 v1 Q) f_15 (C, w32 (v2 - 1)))) ∧ (¬ w32 (C v0.toNat 38 + v2) ≤ 120 → (P_G_finds n C v0 1 (fun (r_16 : Int) (C_17 : Cn) => Q r_16 C_17)))))))
theorem m_G_feed (l : Launch) (E : Ev) (n : Nat) (C : Cn) (v0 v1 v2 : Int) (Q : Int → Cn → Prop) (h : P_G_feed n C v0 v1 v2 Q) : MA l y_G_feed M_G_feed E true C n [(2, v0), (0, v1), (0, v2)] (fun r C2 n2 => n2 = n ∧ Q r C2) := by
  refine MA.of (by decide) rfl rfl 1 rfl (fun p e s m args below meth c => ?_)
  show AW p l e _ s m args below meth c E M_G_feed true _ n 0 0 0 [(2, v0), (0, v1), (0, v2), (9, 0)] [] C
  unfold P_G_feed at h
  refine AW.iload_n (dc hd_G_feed 0 rfl) rfl ?_
  refine AW.i2l (dc hd_G_feed 1 rfl) ?_
  refine AW.lconst (v := 1) (dc hd_G_feed 2 rfl) (by decide) (by decide +kernel) ?_
  refine AW.ldc2 (v := 4) (dc hd_G_feed 3 rfl) ck_10_267 (by decide) rfl ?_
  refine AW.callS (As := [(1, v2), (1, 1), (1, 4)]) (rest := []) (m_G_in l E n C v2 1 4 _ h) cb_10_113 sm_G_in (dc hd_G_feed 4 rfl) rfl rfl ⟨Nat.le_of_ble_eq_true rfl, Nat.le_of_ble_eq_true rfl⟩ ⟨(Nat.le_of_ble_eq_true rfl), (Nat.le_of_ble_eq_true rfl)⟩ (Nat.le_of_ble_eq_true rfl) (fun _ h => by cases h) (fun _ => rfl) (fun r_1 D_3 d_4 q_2 => ?_)
  obtain ⟨q_2a, q_2b, h⟩ := q_2
  subst D_3
  subst d_4
  show AW p l e _ s m args below meth c E M_G_feed true _ n _ _ _ [(2, v0), (0, v1), (0, v2), (9, 0)] [(0, r_1)] C
  refine AW.if_ne (t := 18) (dc hd_G_feed 5 rfl) (by decide) (fun c_5 => ?_) (fun c_5 => ?_)
  · have h := h.2 c_5
    refine AW.ra_n (dc hd_G_feed 10 rfl) rfl rfl rfl ?_
    obtain ⟨g_6, h⟩ := h
    refine AW.getf fl_10_412 (dc hd_G_feed 11 rfl) g_6 ?_
    refine AW.iload_n (dc hd_G_feed 12 rfl) rfl ?_
    refine AW.iadd (dc hd_G_feed 13 rfl) ?_
    refine AW.bipush (dc hd_G_feed 14 rfl) (by decide) (by decide +kernel) ?_
    refine AW.icmp_le (t := 35) (dc hd_G_feed 15 rfl) (by decide) (fun c_7 => ?_) (fun c_7 => ?_)
    · have h := h.1 c_7
      refine AW.iload_n (dc hd_G_feed 20 rfl) rfl ?_
      refine AW.iconst (dc hd_G_feed 21 rfl) (by decide) ?_
      refine AW.isub (dc hd_G_feed 22 rfl) ?_
      refine AW.istore_n [(2, v0), (0, v1), (0, v2), (0, w32 (v2 - 1))] (dc hd_G_feed 23 rfl) (Nat.le_of_ble_eq_true rfl) rfl rfl ?_
      obtain ⟨f_15, h⟩ := h
      refine AW.fgt [(2, v0), (0, v1), (9, 0), (0, w32 (v2 - 1))] ⟨.inl rfl, .inl rfl, .inr rfl, .inl rfl, trivial⟩ ?_
      exact aB_G_feed_39 n v0 v1 Q f_15 (C, w32 (v2 - 1)) h
    · have h := h.2 c_7
      refine AW.ra_n (dc hd_G_feed 16 rfl) rfl rfl rfl ?_
      refine AW.iconst (dc hd_G_feed 17 rfl) (by decide) ?_
      refine AW.callV (As := [(0, 1)]) (rest := []) (ci := 10) (m_G_finds l E n C v0 1 _ h) cb_10_186 im_G_finds se_G_finds ⟨_, _, rfl⟩ (by decide) (dc hd_G_feed 18 rfl) g_6 rfl rfl ⟨Nat.le_of_ble_eq_true rfl, Nat.le_of_ble_eq_true rfl⟩ ⟨(Nat.le_of_ble_eq_true rfl), (Nat.le_of_ble_eq_true rfl)⟩ (Nat.le_of_ble_eq_true rfl) (fun _ h => by cases h) (fun _ => rfl) (fun r_16 C_17 d_19 q_18 => ?_)
      obtain ⟨q_18a, h⟩ := q_18
      subst d_19
      show AW p l e _ s m args below meth c E M_G_feed true _ n _ _ _ [(2, v0), (0, v1), (0, v2), (9, 0)] [(0, r_16)] C_17
      exact AW.iret (dc hd_G_feed 19 rfl) rfl rfl (Nat.le_of_ble_eq_true rfl) (Nat.le_of_ble_eq_true rfl) ⟨rfl, h⟩
  · have h := h.1 c_5
    refine AW.ra_n (dc hd_G_feed 6 rfl) rfl rfl rfl ?_
    refine AW.iconst (dc hd_G_feed 7 rfl) (by decide) ?_
    obtain ⟨g_21, h⟩ := h
    refine AW.callV (As := [(0, 0)]) (rest := []) (ci := 10) (m_G_finds l E n C v0 0 _ h) cb_10_186 im_G_finds se_G_finds ⟨_, _, rfl⟩ (by decide) (dc hd_G_feed 8 rfl) g_21 rfl rfl ⟨Nat.le_of_ble_eq_true rfl, Nat.le_of_ble_eq_true rfl⟩ ⟨(Nat.le_of_ble_eq_true rfl), (Nat.le_of_ble_eq_true rfl)⟩ (Nat.le_of_ble_eq_true rfl) (fun _ h => by cases h) (fun _ => rfl) (fun r_20 C_22 d_24 q_23 => ?_)
    obtain ⟨q_23a, h⟩ := q_23
    subst d_24
    show AW p l e _ s m args below meth c E M_G_feed true _ n _ _ _ [(2, v0), (0, v1), (0, v2), (9, 0)] [(0, r_20)] C_22
    exact AW.iret (dc hd_G_feed 9 rfl) rfl rfl (Nat.le_of_ble_eq_true rfl) (Nat.le_of_ble_eq_true rfl) ⟨rfl, h⟩
def P_G_wipe (n : Nat) (C : Cn) (v0 : Int) (Q : Int → Cn → Prop) : Prop :=
  okO n v0 10 ∧ (∀ C_2 : Cn, C_2 = wr C v0.toNat 38 0 → (Q (C v0.toNat 38) C_2))
theorem m_G_wipe (l : Launch) (E : Ev) (n : Nat) (C : Cn) (v0 : Int) (Q : Int → Cn → Prop) (h : P_G_wipe n C v0 Q) : MA l y_G_wipe M_G_wipe E true C n [(2, v0)] (fun r C2 n2 => n2 = n ∧ Q r C2) := by
  refine MA.of (by decide) rfl rfl 1 rfl (fun p e s m args below meth c => ?_)
  show AW p l e _ s m args below meth c E M_G_wipe true _ n 0 0 0 [(2, v0), (9, 0)] [] C
  unfold P_G_wipe at h
  refine AW.ra_n (dc hd_G_wipe 0 rfl) rfl rfl rfl ?_
  obtain ⟨g_1, h⟩ := h
  refine AW.getf fl_10_412 (dc hd_G_wipe 1 rfl) g_1 ?_
  refine AW.istore_n [(2, v0), (0, C v0.toNat 38)] (dc hd_G_wipe 2 rfl) (Nat.le_of_ble_eq_true rfl) rfl rfl ?_
  refine AW.ra_n (dc hd_G_wipe 3 rfl) rfl rfl rfl ?_
  refine AW.iconst (dc hd_G_wipe 4 rfl) (by decide) ?_
  refine AW.nputI fl_10_412 (dc hd_G_wipe 5 rfl) g_1 (fun C_2 eC_2 => ?_)
  have h := h C_2 eC_2
  refine AW.iload_n (dc hd_G_wipe 6 rfl) rfl ?_
  exact AW.iret (dc hd_G_wipe 7 rfl) rfl rfl (Nat.le_of_ble_eq_true rfl) (Nat.le_of_ble_eq_true rfl) ⟨rfl, h⟩
def J_G_isOf_30 (n : Nat) (C : Cn) (s0 : Int) (Q : Int → Prop) : Prop :=
  (s0 = 0 ∨ s0 = 1) ∧ (Q s0)
theorem aJ_G_isOf_30 (n : Nat) (C : Cn) (s0 : Int) (Q : Int → Prop) (h : J_G_isOf_30 n C s0 Q) : AW p l e R s m args below meth c E M_G_isOf true (fun r C2 n2 => C2 = C ∧ n2 = n ∧ Q r) n 0 0 30 [(9, 0), (9, 0), (9, 0), (9, 0)] [(0, s0)] C := by
  unfold J_G_isOf_30 at h
  obtain ⟨g_10, h⟩ := h
  exact AW.zret (dc hd_G_isOf 18 rfl) rfl rfl (Nat.le_of_ble_eq_true rfl) (Nat.le_of_ble_eq_true rfl) g_10 ⟨rfl, rfl, h⟩
def P_G_isOf (n : Nat) (C : Cn) (v0 v1 v2 v3 : Int) (Q : Int → Prop) : Prop :=
  okO n v0 10 ∧ ((C v0.toNat 38 ≤ v1 → (Q 0)) ∧ (¬ C v0.toNat 38 ≤ v1 → (okO n (PT v0.toNat 37) 12 ∧ (okI (PT v0.toNat 37) v1 ∧ (P_G_in n C (C (PT v0.toNat 37).toNat v1.toNat) v2 v3 (fun (r_5 : Int) => J_G_isOf_30 n C (if r_5 = 0 then 0 else 1) Q))))))
theorem m_G_isOf (l : Launch) (E : Ev) (n : Nat) (C : Cn) (v0 v1 v2 v3 : Int) (Q : Int → Prop) (h : P_G_isOf n C v0 v1 v2 v3 Q) : MA l y_G_isOf M_G_isOf E true C n [(2, v0), (0, v1), (0, v2), (0, v3)] (fun r C2 n2 => C2 = C ∧ n2 = n ∧ Q r) := by
  refine MA.of (by decide) rfl rfl 0 rfl (fun p e s m args below meth c => ?_)
  show AW p l e _ s m args below meth c E M_G_isOf true _ n 0 0 0 [(2, v0), (0, v1), (0, v2), (0, v3)] [] C
  unfold P_G_isOf at h
  refine AW.iload_n (dc hd_G_isOf 0 rfl) rfl ?_
  refine AW.ra_n (dc hd_G_isOf 1 rfl) rfl rfl rfl ?_
  obtain ⟨g_1, h⟩ := h
  refine AW.getf fl_10_412 (dc hd_G_isOf 2 rfl) g_1 ?_
  refine AW.icmp_ge (t := 29) (dc hd_G_isOf 3 rfl) (by decide) (fun c_2 => ?_) (fun c_2 => ?_)
  · have h := h.1 c_2
    refine AW.iconst (dc hd_G_isOf 17 rfl) (by decide) ?_
    exact AW.zret (dc hd_G_isOf 18 rfl) rfl rfl (Nat.le_of_ble_eq_true rfl) (Nat.le_of_ble_eq_true rfl) (by decide) ⟨rfl, rfl, h⟩
  · have h := h.2 c_2
    refine AW.ra_n (dc hd_G_isOf 4 rfl) rfl rfl rfl ?_
    refine AW.getp fl_10_79 (dc hd_G_isOf 5 rfl) g_1 rfl ?_
    refine AW.iload_n (dc hd_G_isOf 6 rfl) rfl ?_
    obtain ⟨g_3, h⟩ := h
    obtain ⟨g_4, h⟩ := h
    refine AW.iald (dc hd_G_isOf 7 rfl) g_3 g_4 ?_
    refine AW.i2l (dc hd_G_isOf 8 rfl) ?_
    refine AW.iload_n (dc hd_G_isOf 9 rfl) rfl ?_
    refine AW.i2l (dc hd_G_isOf 10 rfl) ?_
    refine AW.iload_n (dc hd_G_isOf 11 rfl) rfl ?_
    refine AW.i2l (dc hd_G_isOf 12 rfl) ?_
    refine AW.callS (As := [(1, C (PT v0.toNat 37).toNat v1.toNat), (1, v2), (1, v3)]) (rest := []) (m_G_in l E n C (C (PT v0.toNat 37).toNat v1.toNat) v2 v3 _ h) cb_10_113 sm_G_in (dc hd_G_isOf 13 rfl) rfl rfl ⟨Nat.le_of_ble_eq_true rfl, Nat.le_of_ble_eq_true rfl⟩ ⟨(Nat.le_of_ble_eq_true rfl), (Nat.le_of_ble_eq_true rfl)⟩ (Nat.le_of_ble_eq_true rfl) (fun _ h => by cases h) (fun _ => rfl) (fun r_5 D_7 d_8 q_6 => ?_)
    obtain ⟨q_6a, q_6b, h⟩ := q_6
    subst D_7
    subst d_8
    show AW p l e _ s m args below meth c E M_G_isOf true _ n _ _ _ [(2, v0), (0, v1), (0, v2), (0, v3)] [(0, r_5)] C
    refine AW.if_eq (t := 29) (dc hd_G_isOf 14 rfl) (by decide) (fun c_9 => ?_) (fun c_9 => ?_)
    · simp only [if_pos c_9] at h
      refine AW.iconst (dc hd_G_isOf 17 rfl) (by decide) ?_
      refine AW.fgt [(9, 0), (9, 0), (9, 0), (9, 0)] ⟨.inr rfl, .inr rfl, .inr rfl, .inr rfl, trivial⟩ ?_
      exact aJ_G_isOf_30 n C _ Q h
    · simp only [if_neg c_9] at h
      refine AW.iconst (dc hd_G_isOf 15 rfl) (by decide) ?_
      refine AW.goto (t := 30) (dc hd_G_isOf 16 rfl) (by decide) ?_
      refine AW.fgt [(9, 0), (9, 0), (9, 0), (9, 0)] ⟨.inr rfl, .inr rfl, .inr rfl, .inr rfl, trivial⟩ ?_
      exact aJ_G_isOf_30 n C _ Q h
end
