section
variable {p : Program} {l : Launch} {e : Env} {R : Room} {s : State} {m : MethodId} {args : Array Value} {below : List Frame} {meth : Method} {c : Code} {E : Ev}
def J_G_isRow_33 (n : Nat) (C : Cn) (s0 : Int) (Q : Int → Prop) : Prop :=
  (s0 = 0 ∨ s0 = 1) ∧ (Q s0)
theorem aJ_G_isRow_33 (n : Nat) (C : Cn) (s0 : Int) (Q : Int → Prop) (h : J_G_isRow_33 n C s0 Q) : AW p l e R s m args below meth c E M_G_isRow true (fun r C2 n2 => C2 = C ∧ n2 = n ∧ Q r) n 0 0 33 [(9, 0), (9, 0), (9, 0)] [(0, s0)] C := by
  unfold J_G_isRow_33 at h
  obtain ⟨g_12, h⟩ := h
  exact AW.zret (dc hd_G_isRow 19 rfl) rfl rfl (Nat.le_of_ble_eq_true rfl) (Nat.le_of_ble_eq_true rfl) g_12 ⟨rfl, rfl, h⟩
def P_G_isRow (n : Nat) (C : Cn) (v0 v1 v2 : Int) (Q : Int → Prop) : Prop :=
  okO n v0 10 ∧ (P_G_in n C v1 0 (w32 (C v0.toNat 35 - 1)) (fun (r_2 : Int) => (r_2 = 0 → (Q 0)) ∧ (¬ r_2 = 0 → (P_G_in n C v2 0 3 (fun (r_7 : Int) => J_G_isRow_33 n C (if r_7 = 0 then 0 else 1) Q)))))
theorem m_G_isRow (l : Launch) (E : Ev) (n : Nat) (C : Cn) (v0 v1 v2 : Int) (Q : Int → Prop) (h : P_G_isRow n C v0 v1 v2 Q) : MA l y_G_isRow M_G_isRow E true C n [(2, v0), (0, v1), (0, v2)] (fun r C2 n2 => C2 = C ∧ n2 = n ∧ Q r) := by
  refine MA.of (by decide) rfl rfl 0 rfl (fun p e s m args below meth c => ?_)
  show AW p l e _ s m args below meth c E M_G_isRow true _ n 0 0 0 [(2, v0), (0, v1), (0, v2)] [] C
  unfold P_G_isRow at h
  refine AW.iload_n (dc hd_G_isRow 0 rfl) rfl ?_
  refine AW.i2l (dc hd_G_isRow 1 rfl) ?_
  refine AW.lconst (v := 0) (dc hd_G_isRow 2 rfl) (by decide) (by decide +kernel) ?_
  refine AW.ra_n (dc hd_G_isRow 3 rfl) rfl rfl rfl ?_
  obtain ⟨g_1, h⟩ := h
  refine AW.getf fl_10_403 (dc hd_G_isRow 4 rfl) g_1 ?_
  refine AW.iconst (dc hd_G_isRow 5 rfl) (by decide) ?_
  refine AW.isub (dc hd_G_isRow 6 rfl) ?_
  refine AW.i2l (dc hd_G_isRow 7 rfl) ?_
  refine AW.callS (As := [(1, v1), (1, 0), (1, w32 (C v0.toNat 35 - 1))]) (rest := []) (m_G_in l E n C v1 0 (w32 (C v0.toNat 35 - 1)) _ h) cb_10_113 sm_G_in (dc hd_G_isRow 8 rfl) rfl rfl ⟨Nat.le_of_ble_eq_true rfl, Nat.le_of_ble_eq_true rfl⟩ ⟨(Nat.le_of_ble_eq_true rfl), (Nat.le_of_ble_eq_true rfl)⟩ (Nat.le_of_ble_eq_true rfl) (fun _ h => by cases h) (fun _ => rfl) (fun r_2 D_4 d_5 q_3 => ?_)
  obtain ⟨q_3a, q_3b, h⟩ := q_3
  subst D_4
  subst d_5
  show AW p l e _ s m args below meth c E M_G_isRow true _ n _ _ _ [(2, v0), (0, v1), (0, v2)] [(0, r_2)] C
  refine AW.if_eq (t := 32) (dc hd_G_isRow 9 rfl) (by decide) (fun c_6 => ?_) (fun c_6 => ?_)
  · have h := h.1 c_6
    refine AW.iconst (dc hd_G_isRow 18 rfl) (by decide) ?_
    exact AW.zret (dc hd_G_isRow 19 rfl) rfl rfl (Nat.le_of_ble_eq_true rfl) (Nat.le_of_ble_eq_true rfl) (by decide) ⟨rfl, rfl, h⟩
  · have h := h.2 c_6
    refine AW.iload_n (dc hd_G_isRow 10 rfl) rfl ?_
    refine AW.i2l (dc hd_G_isRow 11 rfl) ?_
    refine AW.lconst (v := 0) (dc hd_G_isRow 12 rfl) (by decide) (by decide +kernel) ?_
    refine AW.ldc2 (v := 3) (dc hd_G_isRow 13 rfl) ck_10_217 (by decide) rfl ?_
    refine AW.callS (As := [(1, v2), (1, 0), (1, 3)]) (rest := []) (m_G_in l E n C v2 0 3 _ h) cb_10_113 sm_G_in (dc hd_G_isRow 14 rfl) rfl rfl ⟨Nat.le_of_ble_eq_true rfl, Nat.le_of_ble_eq_true rfl⟩ ⟨(Nat.le_of_ble_eq_true rfl), (Nat.le_of_ble_eq_true rfl)⟩ (Nat.le_of_ble_eq_true rfl) (fun _ h => by cases h) (fun _ => rfl) (fun r_7 D_9 d_10 q_8 => ?_)
    obtain ⟨q_8a, q_8b, h⟩ := q_8
    subst D_9
    subst d_10
    show AW p l e _ s m args below meth c E M_G_isRow true _ n _ _ _ [(2, v0), (0, v1), (0, v2)] [(0, r_7)] C
    refine AW.if_eq (t := 32) (dc hd_G_isRow 15 rfl) (by decide) (fun c_11 => ?_) (fun c_11 => ?_)
    · simp only [if_pos (show r_7 = 0 from c_11)] at h
      refine AW.iconst (dc hd_G_isRow 18 rfl) (by decide) ?_
      refine AW.fgt [(9, 0), (9, 0), (9, 0)] ⟨.inr rfl, .inr rfl, .inr rfl, trivial⟩ ?_
      exact aJ_G_isRow_33 n C _ Q h
    · simp only [if_neg (show ¬ (r_7 = 0) from c_11)] at h
      refine AW.iconst (dc hd_G_isRow 16 rfl) (by decide) ?_
      refine AW.goto (t := 33) (dc hd_G_isRow 17 rfl) (by decide) ?_
      refine AW.fgt [(9, 0), (9, 0), (9, 0)] ⟨.inr rfl, .inr rfl, .inr rfl, trivial⟩ ?_
      exact aJ_G_isRow_33 n C _ Q h
def P_G_row (n : Nat) (C : Cn) (v0 v1 v2 : Int) (Q : Int → Cn → Prop) : Prop :=
  okO n v0 10 ∧ (P_G_isRow n C v0 v1 v2 (fun (r_1 : Int) => (r_1 = 0 → (P_G_finds n C v0 0 (fun (r_7 : Int) (C_8 : Cn) => Q r_7 C_8))) ∧ (¬ r_1 = 0 → (okO n (PT v0.toNat 36) 17 ∧ (okI (PT v0.toNat 36) v1 ∧ (okO n (PT (PT v0.toNat 36).toNat v1.toNat) 12 ∧ (okI (PT (PT v0.toNat 36).toNat v1.toNat) v2 ∧ (Q (C (PT (PT v0.toNat 36).toNat v1.toNat).toNat v2.toNat) C))))))))
theorem m_G_row (l : Launch) (E : Ev) (n : Nat) (C : Cn) (v0 v1 v2 : Int) (Q : Int → Cn → Prop) (h : P_G_row n C v0 v1 v2 Q) : MA l y_G_row M_G_row E true C n [(2, v0), (0, v1), (0, v2)] (fun r C2 n2 => n2 = n ∧ Q r C2) := by
  refine MA.of (by decide) rfl rfl 0 rfl (fun p e s m args below meth c => ?_)
  show AW p l e _ s m args below meth c E M_G_row true _ n 0 0 0 [(2, v0), (0, v1), (0, v2)] [] C
  unfold P_G_row at h
  refine AW.ra_n (dc hd_G_row 0 rfl) rfl rfl rfl ?_
  refine AW.iload_n (dc hd_G_row 1 rfl) rfl ?_
  refine AW.iload_n (dc hd_G_row 2 rfl) rfl ?_
  obtain ⟨g_2, h⟩ := h
  refine AW.callV (As := [(0, v1), (0, v2)]) (rest := []) (ci := 10) (m_G_isRow l E n C v0 v1 v2 _ h) cb_10_409 im_G_isRow se_G_isRow ⟨_, _, rfl⟩ (by decide) (dc hd_G_row 3 rfl) g_2 rfl rfl ⟨Nat.le_of_ble_eq_true rfl, Nat.le_of_ble_eq_true rfl⟩ ⟨(Nat.le_of_ble_eq_true rfl), (Nat.le_of_ble_eq_true rfl)⟩ (Nat.le_of_ble_eq_true rfl) (fun _ h => by cases h) (fun _ => rfl) (fun r_1 D_4 d_5 q_3 => ?_)
  obtain ⟨q_3a, q_3b, h⟩ := q_3
  subst D_4
  subst d_5
  show AW p l e _ s m args below meth c E M_G_row true _ n _ _ _ [(2, v0), (0, v1), (0, v2)] [(0, r_1)] C
  refine AW.if_eq (t := 20) (dc hd_G_row 4 rfl) (by decide) (fun c_6 => ?_) (fun c_6 => ?_)
  · have h := h.1 c_6
    refine AW.ra_n (dc hd_G_row 12 rfl) rfl rfl rfl ?_
    refine AW.iconst (dc hd_G_row 13 rfl) (by decide) ?_
    refine AW.callV (As := [(0, 0)]) (rest := []) (ci := 10) (m_G_finds l E n C v0 0 _ h) cb_10_186 im_G_finds se_G_finds ⟨_, _, rfl⟩ (by decide) (dc hd_G_row 14 rfl) g_2 rfl rfl ⟨Nat.le_of_ble_eq_true rfl, Nat.le_of_ble_eq_true rfl⟩ ⟨(Nat.le_of_ble_eq_true rfl), (Nat.le_of_ble_eq_true rfl)⟩ (Nat.le_of_ble_eq_true rfl) (fun _ h => by cases h) (fun _ => rfl) (fun r_7 C_8 d_10 q_9 => ?_)
    obtain ⟨q_9a, h⟩ := q_9
    subst d_10
    show AW p l e _ s m args below meth c E M_G_row true _ n _ _ _ [(2, v0), (0, v1), (0, v2)] [(0, r_7)] C_8
    exact AW.iret (dc hd_G_row 15 rfl) rfl rfl (Nat.le_of_ble_eq_true rfl) (Nat.le_of_ble_eq_true rfl) ⟨rfl, h⟩
  · have h := h.2 c_6
    refine AW.ra_n (dc hd_G_row 5 rfl) rfl rfl rfl ?_
    refine AW.getp fl_10_76 (dc hd_G_row 6 rfl) g_2 rfl ?_
    refine AW.iload_n (dc hd_G_row 7 rfl) rfl ?_
    obtain ⟨g_11, h⟩ := h
    obtain ⟨g_12, h⟩ := h
    refine AW.aaldp (by decide) (dc hd_G_row 8 rfl) g_11 g_12 rfl ?_
    refine AW.iload_n (dc hd_G_row 9 rfl) rfl ?_
    obtain ⟨g_13, h⟩ := h
    obtain ⟨g_14, h⟩ := h
    refine AW.iald (dc hd_G_row 10 rfl) g_13 g_14 ?_
    refine AW.goto (t := 25) (dc hd_G_row 11 rfl) (by decide) ?_
    exact AW.iret (dc hd_G_row 15 rfl) rfl rfl (Nat.le_of_ble_eq_true rfl) (Nat.le_of_ble_eq_true rfl) ⟨rfl, h⟩
def P_G_alter (n : Nat) (C : Cn) (v0 v1 v2 v3 : Int) (Q : Int → Cn → Prop) : Prop :=
  okO n v0 10 ∧ (P_G_isRow n C v0 v1 v2 (fun (r_1 : Int) => (r_1 = 0 → (P_G_finds n C v0 0 (fun (r_13 : Int) (C_14 : Cn) => Q r_13 C_14))) ∧ (¬ r_1 = 0 → (okO n (PT v0.toNat 36) 17 ∧ (okI (PT v0.toNat 36) v1 ∧ (okO n (PT (PT v0.toNat 36).toNat v1.toNat) 12 ∧ (okI (PT (PT v0.toNat 36).toNat v1.toNat) v2 ∧ (∀ v4_11 : Int, v4_11 = C (PT (PT v0.toNat 36).toNat v1.toNat).toNat v2.toNat → (∀ C_12 : Cn, C_12 = wr C (PT (PT v0.toNat 36).toNat v1.toNat).toNat v2.toNat v3 → (Q v4_11 C_12))))))))))
theorem m_G_alter (l : Launch) (E : Ev) (n : Nat) (C : Cn) (v0 v1 v2 v3 : Int) (Q : Int → Cn → Prop) (h : P_G_alter n C v0 v1 v2 v3 Q) : MA l y_G_alter M_G_alter E true C n [(2, v0), (0, v1), (0, v2), (0, v3)] (fun r C2 n2 => n2 = n ∧ Q r C2) := by
  refine MA.of (by decide) rfl rfl 1 rfl (fun p e s m args below meth c => ?_)
  show AW p l e _ s m args below meth c E M_G_alter true _ n 0 0 0 [(2, v0), (0, v1), (0, v2), (0, v3), (9, 0)] [] C
  unfold P_G_alter at h
  refine AW.ra_n (dc hd_G_alter 0 rfl) rfl rfl rfl ?_
  refine AW.iload_n (dc hd_G_alter 1 rfl) rfl ?_
  refine AW.iload_n (dc hd_G_alter 2 rfl) rfl ?_
  obtain ⟨g_2, h⟩ := h
  refine AW.callV (As := [(0, v1), (0, v2)]) (rest := []) (ci := 10) (m_G_isRow l E n C v0 v1 v2 _ h) cb_10_409 im_G_isRow se_G_isRow ⟨_, _, rfl⟩ (by decide) (dc hd_G_alter 3 rfl) g_2 rfl rfl ⟨Nat.le_of_ble_eq_true rfl, Nat.le_of_ble_eq_true rfl⟩ ⟨(Nat.le_of_ble_eq_true rfl), (Nat.le_of_ble_eq_true rfl)⟩ (Nat.le_of_ble_eq_true rfl) (fun _ h => by cases h) (fun _ => rfl) (fun r_1 D_4 d_5 q_3 => ?_)
  obtain ⟨q_3a, q_3b, h⟩ := q_3
  subst D_4
  subst d_5
  show AW p l e _ s m args below meth c E M_G_alter true _ n _ _ _ [(2, v0), (0, v1), (0, v2), (0, v3), (9, 0)] [(0, r_1)] C
  refine AW.if_ne (t := 15) (dc hd_G_alter 4 rfl) (by decide) (fun c_6 => ?_) (fun c_6 => ?_)
  · have h := h.2 c_6
    refine AW.ra_n (dc hd_G_alter 9 rfl) rfl rfl rfl ?_
    refine AW.getp fl_10_76 (dc hd_G_alter 10 rfl) g_2 rfl ?_
    refine AW.iload_n (dc hd_G_alter 11 rfl) rfl ?_
    obtain ⟨g_7, h⟩ := h
    obtain ⟨g_8, h⟩ := h
    refine AW.aaldp (by decide) (dc hd_G_alter 12 rfl) g_7 g_8 rfl ?_
    refine AW.iload_n (dc hd_G_alter 13 rfl) rfl ?_
    obtain ⟨g_9, h⟩ := h
    obtain ⟨g_10, h⟩ := h
    refine AW.iald (dc hd_G_alter 14 rfl) g_9 g_10 ?_
    refine AW.nm (fun v4_11 ev4_11 => ?_)
    have h := h v4_11 ev4_11
    refine AW.istore [(2, v0), (0, v1), (0, v2), (0, v3), (0, v4_11)] (dc hd_G_alter 15 rfl) (Nat.le_of_ble_eq_true rfl) rfl rfl ?_
    refine AW.ra_n (dc hd_G_alter 16 rfl) rfl rfl rfl ?_
    refine AW.getp fl_10_76 (dc hd_G_alter 17 rfl) g_2 rfl ?_
    refine AW.iload_n (dc hd_G_alter 18 rfl) rfl ?_
    refine AW.aaldp (by decide) (dc hd_G_alter 19 rfl) g_7 g_8 rfl ?_
    refine AW.iload_n (dc hd_G_alter 20 rfl) rfl ?_
    refine AW.iload_n (dc hd_G_alter 21 rfl) rfl ?_
    refine AW.niast (dc hd_G_alter 22 rfl) g_9 g_10 (fun C_12 eC_12 => ?_)
    have h := h C_12 eC_12
    refine AW.iload (dc hd_G_alter 23 rfl) rfl ?_
    exact AW.iret (dc hd_G_alter 24 rfl) rfl rfl (Nat.le_of_ble_eq_true rfl) (Nat.le_of_ble_eq_true rfl) ⟨rfl, h⟩
  · have h := h.1 c_6
    refine AW.ra_n (dc hd_G_alter 5 rfl) rfl rfl rfl ?_
    refine AW.iconst (dc hd_G_alter 6 rfl) (by decide) ?_
    refine AW.callV (As := [(0, 0)]) (rest := []) (ci := 10) (m_G_finds l E n C v0 0 _ h) cb_10_186 im_G_finds se_G_finds ⟨_, _, rfl⟩ (by decide) (dc hd_G_alter 7 rfl) g_2 rfl rfl ⟨Nat.le_of_ble_eq_true rfl, Nat.le_of_ble_eq_true rfl⟩ ⟨(Nat.le_of_ble_eq_true rfl), (Nat.le_of_ble_eq_true rfl)⟩ (Nat.le_of_ble_eq_true rfl) (fun _ h => by cases h) (fun _ => rfl) (fun r_13 C_14 d_16 q_15 => ?_)
    obtain ⟨q_15a, h⟩ := q_15
    subst d_16
    show AW p l e _ s m args below meth c E M_G_alter true _ n _ _ _ [(2, v0), (0, v1), (0, v2), (0, v3), (9, 0)] [(0, r_13)] C_14
    exact AW.iret (dc hd_G_alter 8 rfl) rfl rfl (Nat.le_of_ble_eq_true rfl) (Nat.le_of_ble_eq_true rfl) ⟨rfl, h⟩
def J_G_judge_103 (n : Nat) (C : Cn) (s0 : Int) (Q : Int → Cn → Prop) : Prop :=
  Q s0 C
theorem aJ_G_judge_103 (n : Nat) (C : Cn) (s0 : Int) (Q : Int → Cn → Prop) (h : J_G_judge_103 n C s0 Q) : AW p l e R s m args below meth c E M_G_judge true (fun r C2 n2 => n2 = n ∧ Q r C2) n 0 0 103 [(9, 0), (9, 0), (9, 0), (9, 0)] [(0, s0)] C := by
  unfold J_G_judge_103 at h
  exact AW.iret (dc hd_G_judge 59 rfl) rfl rfl (Nat.le_of_ble_eq_true rfl) (Nat.le_of_ble_eq_true rfl) ⟨rfl, h⟩
def J_G_judge_82 (n : Nat) (C : Cn) (v0 : Int) (Q : Int → Cn → Prop) : Prop :=
  okO n v0 10 ∧ (J_G_judge_103 n C (if C v0.toNat 35 ≤ C v0.toNat 18 then 0 else w32 (1 + C v0.toNat 18)) Q)
theorem aJ_G_judge_82 (n : Nat) (C : Cn) (v0 : Int) (Q : Int → Cn → Prop) (h : J_G_judge_82 n C v0 Q) : AW p l e R s m args below meth c E M_G_judge true (fun r C2 n2 => n2 = n ∧ Q r C2) n 0 0 82 [(2, v0), (9, 0), (9, 0), (9, 0)] [] C := by
  unfold J_G_judge_82 at h
  refine AW.ra_n (dc hd_G_judge 48 rfl) rfl rfl rfl ?_
  obtain ⟨g_8, h⟩ := h
  refine AW.getf fl_10_403 (dc hd_G_judge 49 rfl) g_8 ?_
  refine AW.ra_n (dc hd_G_judge 50 rfl) rfl rfl rfl ?_
  refine AW.getf fl_10_214 (dc hd_G_judge 51 rfl) g_8 ?_
  refine AW.icmp_le (t := 102) (dc hd_G_judge 52 rfl) (by decide) (fun c_9 => ?_) (fun c_9 => ?_)
  · simp only [if_pos (show C v0.toNat 35 ≤ C v0.toNat 18 from c_9)] at h
    refine AW.iconst (dc hd_G_judge 58 rfl) (by decide) ?_
    refine AW.fgt [(9, 0), (9, 0), (9, 0), (9, 0)] ⟨.inr rfl, .inl rfl, .inl rfl, .inl rfl, trivial⟩ ?_
    exact aJ_G_judge_103 n C _ Q h
  · simp only [if_neg (show ¬ (C v0.toNat 35 ≤ C v0.toNat 18) from c_9)] at h
    refine AW.iconst (dc hd_G_judge 53 rfl) (by decide) ?_
    refine AW.ra_n (dc hd_G_judge 54 rfl) rfl rfl rfl ?_
    refine AW.getf fl_10_214 (dc hd_G_judge 55 rfl) g_8 ?_
    refine AW.iadd (dc hd_G_judge 56 rfl) ?_
    refine AW.goto (t := 103) (dc hd_G_judge 57 rfl) (by decide) ?_
    refine AW.fgt [(9, 0), (9, 0), (9, 0), (9, 0)] ⟨.inr rfl, .inl rfl, .inl rfl, .inl rfl, trivial⟩ ?_
    exact aJ_G_judge_103 n C _ Q h
def J_G_judge_68 (n : Nat) (C : Cn) (v0 v1 v2 : Int) (kz6 : Int → Prop) (Q : Int → Cn → Prop) : Prop :=
  (v2 = 0 → (Q (w32 (1 + v1)) C)) ∧ (¬ v2 = 0 → (kz6 (w32 (v1 + 1))))
theorem aJ_G_judge_68 (n : Nat) (C : Cn) (v0 v1 v2 : Int) (kz6 : Int → Prop) (Q : Int → Cn → Prop) (hkz6 : ∀ (z1 : Int), kz6 z1 → AW p l e R s m args below meth c E M_G_judge true (fun r C2 n2 => n2 = n ∧ Q r C2) n 0 0 6 [(2, v0), (0, z1), (9, 0), (9, 0)] [] C) (h : J_G_judge_68 n C v0 v1 v2 kz6 Q) : AW p l e R s m args below meth c E M_G_judge true (fun r C2 n2 => n2 = n ∧ Q r C2) n 0 0 68 [(2, v0), (0, v1), (0, v2), (9, 0)] [] C := by
  unfold J_G_judge_68 at h
  refine AW.iload_n (dc hd_G_judge 40 rfl) rfl ?_
  refine AW.if_ne (t := 76) (dc hd_G_judge 41 rfl) (by decide) (fun c_12 => ?_) (fun c_12 => ?_)
  · have h := h.2 c_12
    refine AW.iinc [(2, v0), (0, w32 (v1 + 1)), (0, v2), (9, 0)] (dc hd_G_judge 46 rfl) rfl (Nat.le_of_ble_eq_true rfl) rfl rfl ?_
    refine AW.goto (t := 6) (dc hd_G_judge 47 rfl) (by decide) ?_
    refine AW.fgt [(2, v0), (0, w32 (v1 + 1)), (9, 0), (9, 0)] ⟨.inl rfl, .inl rfl, .inr rfl, .inl rfl, trivial⟩ ?_
    exact hkz6 (w32 (v1 + 1)) h
  · have h := h.1 c_12
    refine AW.iconst (dc hd_G_judge 42 rfl) (by decide) ?_
    refine AW.iload_n (dc hd_G_judge 43 rfl) rfl ?_
    refine AW.iadd (dc hd_G_judge 44 rfl) ?_
    exact AW.iret (dc hd_G_judge 45 rfl) rfl rfl (Nat.le_of_ble_eq_true rfl) (Nat.le_of_ble_eq_true rfl) ⟨rfl, h⟩
def J_G_judge_61 (n : Nat) (C : Cn) (v0 v1 v3 s0 : Int) (kz6 : Int → Prop) (kz30 : Int × Int → Prop) (Q : Int → Cn → Prop) : Prop :=
  kz30 (s0, w32 (v3 + 1))
theorem aJ_G_judge_61 (n : Nat) (C : Cn) (v0 v1 v3 s0 : Int) (kz6 : Int → Prop) (kz30 : Int × Int → Prop) (Q : Int → Cn → Prop) (hkz6 : ∀ (z1 : Int), kz6 z1 → AW p l e R s m args below meth c E M_G_judge true (fun r C2 n2 => n2 = n ∧ Q r C2) n 0 0 6 [(2, v0), (0, z1), (9, 0), (9, 0)] [] C) (hkz30 : ∀ (z2 : Int) (z3 : Int), kz30 (z2, z3) → AW p l e R s m args below meth c E M_G_judge true (fun r C2 n2 => n2 = n ∧ Q r C2) n 0 0 30 [(2, v0), (0, v1), (0, z2), (0, z3)] [] C) (h : J_G_judge_61 n C v0 v1 v3 s0 kz6 kz30 Q) : AW p l e R s m args below meth c E M_G_judge true (fun r C2 n2 => n2 = n ∧ Q r C2) n 0 0 61 [(2, v0), (0, v1), (9, 0), (0, v3)] [(0, s0)] C := by
  unfold J_G_judge_61 at h
  refine AW.istore_n [(2, v0), (0, v1), (0, s0), (0, v3)] (dc hd_G_judge 37 rfl) (Nat.le_of_ble_eq_true rfl) rfl rfl ?_
  refine AW.iinc [(2, v0), (0, v1), (0, s0), (0, w32 (v3 + 1))] (dc hd_G_judge 38 rfl) rfl (Nat.le_of_ble_eq_true rfl) rfl rfl ?_
  refine AW.goto (t := 30) (dc hd_G_judge 39 rfl) (by decide) ?_
  exact hkz30 s0 (w32 (v3 + 1)) h
def B_G_judge_30 (n : Nat) (C : Cn) (v0 v1 : Int) (kz6 : Int → Prop) (Q : Int → Cn → Prop) (kz30 : Int × Int → Prop) (z : Int × Int) : Prop := match z with
  | (v2, v3) => (4 ≤ v3 → (J_G_judge_68 n C v0 v1 v2 kz6 Q)) ∧ (¬ 4 ≤ v3 → ((v2 = 0 → (J_G_judge_68 n C v0 v1 v2 kz6 Q)) ∧ (¬ v2 = 0 → (okO n v0 10 ∧ (okO n (PT v0.toNat 36) 17 ∧ (okI (PT v0.toNat 36) v1 ∧ (okO n (PT (PT v0.toNat 36).toNat v1.toNat) 12 ∧ (okI (PT (PT v0.toNat 36).toNat v1.toNat) v3 ∧ (P_G_fieldIs n C v0 v1 v3 (fun (r_19 : Int) => J_G_judge_61 n C v0 v1 v3 (if C (PT (PT v0.toNat 36).toNat v1.toNat).toNat v3.toNat = r_19 then 1 else 0) kz6 kz30 Q))))))))))
theorem bB_G_judge_30 (n : Nat) (C : Cn) (v0 v1 : Int) (kz6 : Int → Prop) (Q : Int → Cn → Prop) (hkz6 : ∀ (z1 : Int), kz6 z1 → AW p l e R s m args below meth c E M_G_judge true (fun r C2 n2 => n2 = n ∧ Q r C2) n 0 0 6 [(2, v0), (0, z1), (9, 0), (9, 0)] [] C) (kz30 : Int × Int → Prop) (hkz30 : ∀ (z2 : Int) (z3 : Int), kz30 (z2, z3) → AW p l e R s m args below meth c E M_G_judge true (fun r C2 n2 => n2 = n ∧ Q r C2) n 0 0 30 [(2, v0), (0, v1), (0, z2), (0, z3)] [] C) (v2 : Int) (v3 : Int) (h : B_G_judge_30 n C v0 v1 kz6 Q kz30 (v2, v3)) : AW p l e R s m args below meth c E M_G_judge true (fun r C2 n2 => n2 = n ∧ Q r C2) n 0 0 30 [(2, v0), (0, v1), (0, v2), (0, v3)] [] C := by
  unfold B_G_judge_30 at h
  dsimp only at h
  refine AW.iload_n (dc hd_G_judge 18 rfl) rfl ?_
  refine AW.iconst (dc hd_G_judge 19 rfl) (by decide) ?_
  refine AW.icmp_ge (t := 68) (dc hd_G_judge 20 rfl) (by decide) (fun c_11 => ?_) (fun c_11 => ?_)
  · have h := h.1 c_11
    refine AW.fgt [(2, v0), (0, v1), (0, v2), (9, 0)] ⟨.inl rfl, .inl rfl, .inl rfl, .inr rfl, trivial⟩ ?_
    exact aJ_G_judge_68 n C v0 v1 v2 kz6 Q hkz6 h
  · have h := h.2 c_11
    refine AW.iload_n (dc hd_G_judge 21 rfl) rfl ?_
    refine AW.if_eq (t := 68) (dc hd_G_judge 22 rfl) (by decide) (fun c_13 => ?_) (fun c_13 => ?_)
    · have h := h.1 c_13
      refine AW.fgt [(2, v0), (0, v1), (0, v2), (9, 0)] ⟨.inl rfl, .inl rfl, .inl rfl, .inr rfl, trivial⟩ ?_
      exact aJ_G_judge_68 n C v0 v1 v2 kz6 Q hkz6 h
    · have h := h.2 c_13
      refine AW.ra_n (dc hd_G_judge 23 rfl) rfl rfl rfl ?_
      obtain ⟨g_14, h⟩ := h
      refine AW.getp fl_10_76 (dc hd_G_judge 24 rfl) g_14 rfl ?_
      refine AW.iload_n (dc hd_G_judge 25 rfl) rfl ?_
      obtain ⟨g_15, h⟩ := h
      obtain ⟨g_16, h⟩ := h
      refine AW.aaldp (by decide) (dc hd_G_judge 26 rfl) g_15 g_16 rfl ?_
      refine AW.iload_n (dc hd_G_judge 27 rfl) rfl ?_
      obtain ⟨g_17, h⟩ := h
      obtain ⟨g_18, h⟩ := h
      refine AW.iald (dc hd_G_judge 28 rfl) g_17 g_18 ?_
      refine AW.ra_n (dc hd_G_judge 29 rfl) rfl rfl rfl ?_
      refine AW.iload_n (dc hd_G_judge 30 rfl) rfl ?_
      refine AW.iload_n (dc hd_G_judge 31 rfl) rfl ?_
      refine AW.callV (As := [(0, v1), (0, v3)]) (rest := [(0, C (PT (PT v0.toNat 36).toNat v1.toNat).toNat v3.toNat)]) (ci := 10) (m_G_fieldIs l E n C v0 v1 v3 _ h) cb_10_406 im_G_fieldIs se_G_fieldIs ⟨_, _, rfl⟩ (by decide) (dc hd_G_judge 32 rfl) g_14 rfl rfl ⟨Nat.le_of_ble_eq_true rfl, Nat.le_of_ble_eq_true rfl⟩ ⟨(Nat.le_of_ble_eq_true rfl), (Nat.le_of_ble_eq_true rfl)⟩ (Nat.le_of_ble_eq_true rfl) (fun _ h => by cases h) (fun _ => rfl) (fun r_19 D_21 d_22 q_20 => ?_)
      obtain ⟨q_20a, q_20b, h⟩ := q_20
      subst D_21
      subst d_22
      show AW p l e _ s m args below meth c E M_G_judge true _ n _ _ _ [(2, v0), (0, v1), (0, v2), (0, v3)] [(0, r_19), (0, C (PT (PT v0.toNat 36).toNat v1.toNat).toNat v3.toNat)] C
      refine AW.icmp_ne (t := 60) (dc hd_G_judge 33 rfl) (by decide) (fun c_23 => ?_) (fun c_23 => ?_)
      · simp only [if_neg (show ¬ (C (PT (PT v0.toNat 36).toNat v1.toNat).toNat v3.toNat = r_19) from c_23)] at h
        refine AW.iconst (dc hd_G_judge 36 rfl) (by decide) ?_
        refine AW.fgt [(2, v0), (0, v1), (9, 0), (0, v3)] ⟨.inl rfl, .inl rfl, .inr rfl, .inl rfl, trivial⟩ ?_
        exact aJ_G_judge_61 n C _ _ _ _ kz6 kz30 Q hkz6 hkz30 h
      · simp only [if_pos (show C (PT (PT v0.toNat 36).toNat v1.toNat).toNat v3.toNat = r_19 from c_23)] at h
        refine AW.iconst (dc hd_G_judge 34 rfl) (by decide) ?_
        refine AW.goto (t := 61) (dc hd_G_judge 35 rfl) (by decide) ?_
        refine AW.fgt [(2, v0), (0, v1), (9, 0), (0, v3)] ⟨.inl rfl, .inl rfl, .inr rfl, .inl rfl, trivial⟩ ?_
        exact aJ_G_judge_61 n C _ _ _ _ kz6 kz30 Q hkz6 hkz30 h
theorem aB_G_judge_30 (n : Nat) (C : Cn) (v0 v1 : Int) (kz6 : Int → Prop) (Q : Int → Cn → Prop) (hkz6 : ∀ (z1 : Int), kz6 z1 → AW p l e R s m args below meth c E M_G_judge true (fun r C2 n2 => n2 = n ∧ Q r C2) n 0 0 6 [(2, v0), (0, z1), (9, 0), (9, 0)] [] C) : ∀ (f : Nat) (z : Int × Int), lp (B_G_judge_30 n C v0 v1 kz6 Q) f z → AW p l e R s m args below meth c E M_G_judge true (fun r C2 n2 => n2 = n ∧ Q r C2) n 0 0 30 [(2, v0), (0, v1), (0, z.1), (0, z.2)] [] C := by
  intro f
  induction f with
  | zero => intro z h; exact False.elim h
  | succ f ih => intro z h; exact bB_G_judge_30 n C v0 v1 kz6 Q hkz6 (lp (B_G_judge_30 n C v0 v1 kz6 Q) f) (fun a0 a1 h => ih (a0, a1) h) z.1 z.2 h
def J_G_judge_27 (n : Nat) (C : Cn) (v0 v1 s0 : Int) (kz6 : Int → Prop) (Q : Int → Cn → Prop) : Prop :=
  ∃ f_24 : Nat, lp (B_G_judge_30 n C v0 v1 kz6 Q) f_24 (s0, 0)
theorem aJ_G_judge_27 (n : Nat) (C : Cn) (v0 v1 s0 : Int) (kz6 : Int → Prop) (Q : Int → Cn → Prop) (hkz6 : ∀ (z1 : Int), kz6 z1 → AW p l e R s m args below meth c E M_G_judge true (fun r C2 n2 => n2 = n ∧ Q r C2) n 0 0 6 [(2, v0), (0, z1), (9, 0), (9, 0)] [] C) (h : J_G_judge_27 n C v0 v1 s0 kz6 Q) : AW p l e R s m args below meth c E M_G_judge true (fun r C2 n2 => n2 = n ∧ Q r C2) n 0 0 27 [(2, v0), (0, v1), (9, 0), (9, 0)] [(0, s0)] C := by
  unfold J_G_judge_27 at h
  refine AW.istore_n [(2, v0), (0, v1), (0, s0), (9, 0)] (dc hd_G_judge 15 rfl) (Nat.le_of_ble_eq_true rfl) rfl rfl ?_
  refine AW.iconst (dc hd_G_judge 16 rfl) (by decide) ?_
  refine AW.istore_n [(2, v0), (0, v1), (0, s0), (0, 0)] (dc hd_G_judge 17 rfl) (Nat.le_of_ble_eq_true rfl) rfl rfl ?_
  obtain ⟨f_24, h⟩ := h
  exact aB_G_judge_30 n C v0 v1 kz6 Q hkz6 f_24 (s0, 0) h
def B_G_judge_6 (n : Nat) (C : Cn) (v0 : Int) (Q : Int → Cn → Prop) (kz6 : Int → Prop) (v1 : Int) : Prop :=
  okO n v0 10 ∧ ((C v0.toNat 18 ≤ v1 → (J_G_judge_82 n C v0 Q)) ∧ (¬ C v0.toNat 18 ≤ v1 → (J_G_judge_27 n C v0 v1 (if C v0.toNat 35 ≤ v1 then 0 else 1) kz6 Q)))
theorem bB_G_judge_6 (n : Nat) (C : Cn) (v0 : Int) (Q : Int → Cn → Prop) (kz6 : Int → Prop) (hkz6 : ∀ (z1 : Int), kz6 z1 → AW p l e R s m args below meth c E M_G_judge true (fun r C2 n2 => n2 = n ∧ Q r C2) n 0 0 6 [(2, v0), (0, z1), (9, 0), (9, 0)] [] C) (v1 : Int) (h : B_G_judge_6 n C v0 Q kz6 v1) : AW p l e R s m args below meth c E M_G_judge true (fun r C2 n2 => n2 = n ∧ Q r C2) n 0 0 6 [(2, v0), (0, v1), (9, 0), (9, 0)] [] C := by
  unfold B_G_judge_6 at h
  refine AW.iload_n (dc hd_G_judge 4 rfl) rfl ?_
  refine AW.ra_n (dc hd_G_judge 5 rfl) rfl rfl rfl ?_
  obtain ⟨g_6, h⟩ := h
  refine AW.getf fl_10_214 (dc hd_G_judge 6 rfl) g_6 ?_
  refine AW.icmp_ge (t := 82) (dc hd_G_judge 7 rfl) (by decide) (fun c_7 => ?_) (fun c_7 => ?_)
  · have h := h.1 c_7
    refine AW.fgt [(2, v0), (9, 0), (9, 0), (9, 0)] ⟨.inl rfl, .inr rfl, .inl rfl, .inl rfl, trivial⟩ ?_
    exact aJ_G_judge_82 n C v0 Q h
  · have h := h.2 c_7
    refine AW.iload_n (dc hd_G_judge 8 rfl) rfl ?_
    refine AW.ra_n (dc hd_G_judge 9 rfl) rfl rfl rfl ?_
    refine AW.getf fl_10_403 (dc hd_G_judge 10 rfl) g_6 ?_
    refine AW.icmp_ge (t := 26) (dc hd_G_judge 11 rfl) (by decide) (fun c_10 => ?_) (fun c_10 => ?_)
    · simp only [if_pos (show C v0.toNat 35 ≤ v1 from c_10)] at h
      refine AW.iconst (dc hd_G_judge 14 rfl) (by decide) ?_
      exact aJ_G_judge_27 n C _ _ _ kz6 Q hkz6 h
    · simp only [if_neg (show ¬ (C v0.toNat 35 ≤ v1) from c_10)] at h
      refine AW.iconst (dc hd_G_judge 12 rfl) (by decide) ?_
      refine AW.goto (t := 27) (dc hd_G_judge 13 rfl) (by decide) ?_
      exact aJ_G_judge_27 n C _ _ _ kz6 Q hkz6 h
theorem aB_G_judge_6 (n : Nat) (C : Cn) (v0 : Int) (Q : Int → Cn → Prop) : ∀ (f : Nat) (z : Int), lp (B_G_judge_6 n C v0 Q) f z → AW p l e R s m args below meth c E M_G_judge true (fun r C2 n2 => n2 = n ∧ Q r C2) n 0 0 6 [(2, v0), (0, z), (9, 0), (9, 0)] [] C := by
  intro f
  induction f with
  | zero => intro z h; exact False.elim h
  | succ f ih => intro z h; exact bB_G_judge_6 n C v0 Q (lp (B_G_judge_6 n C v0 Q) f) (fun a0 h => ih a0 h) z h
def P_G_judge (n : Nat) (C : Cn) (v0 : Int) (Q : Int → Cn → Prop) : Prop :=
  okO n v0 10 ∧ (P_G_maps n C v0 (fun (_ : Int) (C_2 : Cn) => ∃ f_25 : Nat, lp (B_G_judge_6 n C_2 v0 Q) f_25 0))
theorem m_G_judge (l : Launch) (E : Ev) (n : Nat) (C : Cn) (v0 : Int) (Q : Int → Cn → Prop) (h : P_G_judge n C v0 Q) : MA l y_G_judge M_G_judge E true C n [(2, v0)] (fun r C2 n2 => n2 = n ∧ Q r C2) := by
  refine MA.of (by decide) rfl rfl 3 rfl (fun p e s m args below meth c => ?_)
  show AW p l e _ s m args below meth c E M_G_judge true _ n 0 0 0 [(2, v0), (9, 0), (9, 0), (9, 0)] [] C
  unfold P_G_judge at h
  refine AW.ra_n (dc hd_G_judge 0 rfl) rfl rfl rfl ?_
  obtain ⟨g_1, h⟩ := h
  refine AW.callV (As := []) (rest := []) (ci := 10) (m_G_maps l E n C v0 _ h) cb_10_211 im_G_maps se_G_maps ⟨_, _, rfl⟩ (by decide) (dc hd_G_judge 1 rfl) g_1 rfl rfl ⟨Nat.le_of_ble_eq_true rfl, Nat.le_of_ble_eq_true rfl⟩ ⟨(Nat.le_of_ble_eq_true rfl), (Nat.le_of_ble_eq_true rfl)⟩ (Nat.le_of_ble_eq_true rfl) (fun _ h => by cases h) (fun _ => rfl) (fun u_4 C_2 d_5 q_3 => ?_)
  obtain ⟨q_3a, h⟩ := q_3
  subst d_5
  show AW p l e _ s m args below meth c E M_G_judge true _ n _ _ _ [(2, v0), (9, 0), (9, 0), (9, 0)] [] C_2
  refine AW.iconst (dc hd_G_judge 2 rfl) (by decide) ?_
  refine AW.istore_n [(2, v0), (0, 0), (9, 0), (9, 0)] (dc hd_G_judge 3 rfl) (Nat.le_of_ble_eq_true rfl) rfl rfl ?_
  obtain ⟨f_25, h⟩ := h
  exact aB_G_judge_6 n C_2 v0 Q f_25 0 h
def B_G_feed_39 (n : Nat) (v0 v1 : Int) (Q : Int → Cn → Prop) (kz39 : Cn × Int → Prop) (z : Cn × Int) : Prop := match z with
  | (C, v3) => (v3 < 0 → (okO n v0 10 ∧ (Q (C v0.toNat 38) C))) ∧ (¬ v3 < 0 → (okO n v0 10 ∧ (okO n (PT v0.toNat 37) 12 ∧ (okI (PT v0.toNat 37) (C v0.toNat 38) ∧ (∀ C_13 : Cn, C_13 = wr C (PT v0.toNat 37).toNat (C v0.toNat 38).toNat (and32 (shr32 v1 (w32 (8 * v3))) 255) → (∀ C_14 : Cn, C_14 = wr C_13 v0.toNat 38 (w32 (C_13 v0.toNat 38 + 1)) → (kz39 (C_14, w32 (v3 + (-1))))))))))
theorem bB_G_feed_39 (n : Nat) (v0 v1 : Int) (Q : Int → Cn → Prop) (kz39 : Cn × Int → Prop) (hkz39 : ∀ (Cz : Cn) (z3 : Int), kz39 (Cz, z3) → AW p l e R s m args below meth c E M_G_feed true (fun r C2 n2 => n2 = n ∧ Q r C2) n 0 0 39 [(2, v0), (0, v1), (9, 0), (0, z3)] [] Cz) (C : Cn) (v3 : Int) (h : B_G_feed_39 n v0 v1 Q kz39 (C, v3)) : AW p l e R s m args below meth c E M_G_feed true (fun r C2 n2 => n2 = n ∧ Q r C2) n 0 0 39 [(2, v0), (0, v1), (9, 0), (0, v3)] [] C := by
  unfold B_G_feed_39 at h
  dsimp only at h
  refine AW.iload_n (dc hd_G_feed 24 rfl) rfl ?_
  refine AW.if_lt (t := 78) (dc hd_G_feed 25 rfl) (by decide) (fun c_8 => ?_) (fun c_8 => ?_)
  · have h := h.1 c_8
    refine AW.ra_n (dc hd_G_feed 46 rfl) rfl rfl rfl ?_
    obtain ⟨g_9, h⟩ := h
    refine AW.getf fl_10_412 (dc hd_G_feed 47 rfl) g_9 ?_
    exact AW.iret (dc hd_G_feed 48 rfl) rfl rfl (Nat.le_of_ble_eq_true rfl) (Nat.le_of_ble_eq_true rfl) ⟨rfl, h⟩
  · have h := h.2 c_8
    refine AW.ra_n (dc hd_G_feed 26 rfl) rfl rfl rfl ?_
    obtain ⟨g_10, h⟩ := h
    refine AW.getp fl_10_79 (dc hd_G_feed 27 rfl) g_10 rfl ?_
    refine AW.ra_n (dc hd_G_feed 28 rfl) rfl rfl rfl ?_
    refine AW.getf fl_10_412 (dc hd_G_feed 29 rfl) g_10 ?_
    refine AW.iload_n (dc hd_G_feed 30 rfl) rfl ?_
    refine AW.bipush (dc hd_G_feed 31 rfl) (by decide) (by decide +kernel) ?_
    refine AW.iload_n (dc hd_G_feed 32 rfl) rfl ?_
    refine AW.imul (dc hd_G_feed 33 rfl) ?_
    refine AW.ishr (dc hd_G_feed 34 rfl) ?_
    refine AW.sipush (dc hd_G_feed 35 rfl) (by decide) (by decide +kernel) ?_
    refine AW.iand (dc hd_G_feed 36 rfl) ?_
    obtain ⟨g_11, h⟩ := h
    obtain ⟨g_12, h⟩ := h
    refine AW.niast (dc hd_G_feed 37 rfl) g_11 g_12 (fun C_13 eC_13 => ?_)
    have h := h C_13 eC_13
    refine AW.ra_n (dc hd_G_feed 38 rfl) rfl rfl rfl ?_
    refine AW.rdup (dc hd_G_feed 39 rfl) rfl ?_
    refine AW.getf fl_10_412 (dc hd_G_feed 40 rfl) g_10 ?_
    refine AW.iconst (dc hd_G_feed 41 rfl) (by decide) ?_
    refine AW.iadd (dc hd_G_feed 42 rfl) ?_
    refine AW.nputI fl_10_412 (dc hd_G_feed 43 rfl) g_10 (fun C_14 eC_14 => ?_)
    have h := h C_14 eC_14
    refine AW.iinc [(2, v0), (0, v1), (9, 0), (0, w32 (v3 + (-1)))] (dc hd_G_feed 44 rfl) rfl (Nat.le_of_ble_eq_true rfl) rfl rfl ?_
    refine AW.goto (t := 39) (dc hd_G_feed 45 rfl) (by decide) ?_
    exact hkz39 C_14 (w32 (v3 + (-1))) h
theorem aB_G_feed_39 (n : Nat) (v0 v1 : Int) (Q : Int → Cn → Prop) : ∀ (f : Nat) (z : Cn × Int), lp (B_G_feed_39 n v0 v1 Q) f z → AW p l e R s m args below meth c E M_G_feed true (fun r C2 n2 => n2 = n ∧ Q r C2) n 0 0 39 [(2, v0), (0, v1), (9, 0), (0, z.2)] [] (z.1) := by
  intro f
  induction f with
  | zero => intro z h; exact False.elim h
  | succ f ih => intro z h; exact bB_G_feed_39 n v0 v1 Q (lp (B_G_feed_39 n v0 v1 Q) f) (fun a0 a1 h => ih (a0, a1) h) z.1 z.2 h
def P_G_feed (n : Nat) (C : Cn) (v0 v1 v2 : Int) (Q : Int → Cn → Prop) : Prop :=
  P_G_in n C v2 1 4 (fun (r_1 : Int) => (r_1 = 0 → (okO n v0 10 ∧ (P_G_finds n C v0 0 (fun (r_20 : Int) (C_22 : Cn) => Q r_20 C_22)))) ∧ (¬ r_1 = 0 → (okO n v0 10 ∧ ((w32 (C v0.toNat 38 + v2) ≤ 120 → (∃ f_15 : Nat, lp (B_G_feed_39 n v0 v1 Q) f_15 (C, w32 (v2 - 1)))) ∧ (¬ w32 (C v0.toNat 38 + v2) ≤ 120 → (P_G_finds n C v0 1 (fun (r_16 : Int) (C_17 : Cn) => Q r_16 C_17)))))))
theorem m_G_feed (l : Launch) (E : Ev) (n : Nat) (C : Cn) (v0 v1 v2 : Int) (Q : Int → Cn → Prop) (h : P_G_feed n C v0 v1 v2 Q) : MA l y_G_feed M_G_feed E true C n [(2, v0), (0, v1), (0, v2)] (fun r C2 n2 => n2 = n ∧ Q r C2) := by
  refine MA.of (by decide) rfl rfl 1 rfl (fun p e s m args below meth c => ?_)
  show AW p l e _ s m args below meth c E M_G_feed true _ n 0 0 0 [(2, v0), (0, v1), (0, v2), (9, 0)] [] C
  unfold P_G_feed at h
  refine AW.iload_n (dc hd_G_feed 0 rfl) rfl ?_
  refine AW.i2l (dc hd_G_feed 1 rfl) ?_
  refine AW.lconst (v := 1) (dc hd_G_feed 2 rfl) (by decide) (by decide +kernel) ?_
  refine AW.ldc2 (v := 4) (dc hd_G_feed 3 rfl) ck_10_267 (by decide) rfl ?_
  refine AW.callS (As := [(1, v2), (1, 1), (1, 4)]) (rest := []) (m_G_in l E n C v2 1 4 _ h) cb_10_113 sm_G_in (dc hd_G_feed 4 rfl) rfl rfl ⟨Nat.le_of_ble_eq_true rfl, Nat.le_of_ble_eq_true rfl⟩ ⟨(Nat.le_of_ble_eq_true rfl), (Nat.le_of_ble_eq_true rfl)⟩ (Nat.le_of_ble_eq_true rfl) (fun _ h => by cases h) (fun _ => rfl) (fun r_1 D_3 d_4 q_2 => ?_)
  obtain ⟨q_2a, q_2b, h⟩ := q_2
  subst D_3
  subst d_4
  show AW p l e _ s m args below meth c E M_G_feed true _ n _ _ _ [(2, v0), (0, v1), (0, v2), (9, 0)] [(0, r_1)] C
  refine AW.if_ne (t := 18) (dc hd_G_feed 5 rfl) (by decide) (fun c_5 => ?_) (fun c_5 => ?_)
  · have h := h.2 c_5
    refine AW.ra_n (dc hd_G_feed 10 rfl) rfl rfl rfl ?_
    obtain ⟨g_6, h⟩ := h
    refine AW.getf fl_10_412 (dc hd_G_feed 11 rfl) g_6 ?_
    refine AW.iload_n (dc hd_G_feed 12 rfl) rfl ?_
    refine AW.iadd (dc hd_G_feed 13 rfl) ?_
    refine AW.bipush (dc hd_G_feed 14 rfl) (by decide) (by decide +kernel) ?_
    refine AW.icmp_le (t := 35) (dc hd_G_feed 15 rfl) (by decide) (fun c_7 => ?_) (fun c_7 => ?_)
    · have h := h.1 c_7
      refine AW.iload_n (dc hd_G_feed 20 rfl) rfl ?_
      refine AW.iconst (dc hd_G_feed 21 rfl) (by decide) ?_
      refine AW.isub (dc hd_G_feed 22 rfl) ?_
      refine AW.istore_n [(2, v0), (0, v1), (0, v2), (0, w32 (v2 - 1))] (dc hd_G_feed 23 rfl) (Nat.le_of_ble_eq_true rfl) rfl rfl ?_
      obtain ⟨f_15, h⟩ := h
      refine AW.fgt [(2, v0), (0, v1), (9, 0), (0, w32 (v2 - 1))] ⟨.inl rfl, .inl rfl, .inr rfl, .inl rfl, trivial⟩ ?_
      exact aB_G_feed_39 n v0 v1 Q f_15 (C, w32 (v2 - 1)) h
    · have h := h.2 c_7
      refine AW.ra_n (dc hd_G_feed 16 rfl) rfl rfl rfl ?_
      refine AW.iconst (dc hd_G_feed 17 rfl) (by decide) ?_
      refine AW.callV (As := [(0, 1)]) (rest := []) (ci := 10) (m_G_finds l E n C v0 1 _ h) cb_10_186 im_G_finds se_G_finds ⟨_, _, rfl⟩ (by decide) (dc hd_G_feed 18 rfl) g_6 rfl rfl ⟨Nat.le_of_ble_eq_true rfl, Nat.le_of_ble_eq_true rfl⟩ ⟨(Nat.le_of_ble_eq_true rfl), (Nat.le_of_ble_eq_true rfl)⟩ (Nat.le_of_ble_eq_true rfl) (fun _ h => by cases h) (fun _ => rfl) (fun r_16 C_17 d_19 q_18 => ?_)
      obtain ⟨q_18a, h⟩ := q_18
      subst d_19
      show AW p l e _ s m args below meth c E M_G_feed true _ n _ _ _ [(2, v0), (0, v1), (0, v2), (9, 0)] [(0, r_16)] C_17
      exact AW.iret (dc hd_G_feed 19 rfl) rfl rfl (Nat.le_of_ble_eq_true rfl) (Nat.le_of_ble_eq_true rfl) ⟨rfl, h⟩
  · have h := h.1 c_5
    refine AW.ra_n (dc hd_G_feed 6 rfl) rfl rfl rfl ?_
    refine AW.iconst (dc hd_G_feed 7 rfl) (by decide) ?_
    obtain ⟨g_21, h⟩ := h
    refine AW.callV (As := [(0, 0)]) (rest := []) (ci := 10) (m_G_finds l E n C v0 0 _ h) cb_10_186 im_G_finds se_G_finds ⟨_, _, rfl⟩ (by decide) (dc hd_G_feed 8 rfl) g_21 rfl rfl ⟨Nat.le_of_ble_eq_true rfl, Nat.le_of_ble_eq_true rfl⟩ ⟨(Nat.le_of_ble_eq_true rfl), (Nat.le_of_ble_eq_true rfl)⟩ (Nat.le_of_ble_eq_true rfl) (fun _ h => by cases h) (fun _ => rfl) (fun r_20 C_22 d_24 q_23 => ?_)
    obtain ⟨q_23a, h⟩ := q_23
    subst d_24
    show AW p l e _ s m args below meth c E M_G_feed true _ n _ _ _ [(2, v0), (0, v1), (0, v2), (9, 0)] [(0, r_20)] C_22
    exact AW.iret (dc hd_G_feed 9 rfl) rfl rfl (Nat.le_of_ble_eq_true rfl) (Nat.le_of_ble_eq_true rfl) ⟨rfl, h⟩
def P_G_wipe (n : Nat) (C : Cn) (v0 : Int) (Q : Int → Cn → Prop) : Prop :=
  okO n v0 10 ∧ (∀ C_2 : Cn, C_2 = wr C v0.toNat 38 0 → (Q (C v0.toNat 38) C_2))
theorem m_G_wipe (l : Launch) (E : Ev) (n : Nat) (C : Cn) (v0 : Int) (Q : Int → Cn → Prop) (h : P_G_wipe n C v0 Q) : MA l y_G_wipe M_G_wipe E true C n [(2, v0)] (fun r C2 n2 => n2 = n ∧ Q r C2) := by
  refine MA.of (by decide) rfl rfl 1 rfl (fun p e s m args below meth c => ?_)
  show AW p l e _ s m args below meth c E M_G_wipe true _ n 0 0 0 [(2, v0), (9, 0)] [] C
  unfold P_G_wipe at h
  refine AW.ra_n (dc hd_G_wipe 0 rfl) rfl rfl rfl ?_
  obtain ⟨g_1, h⟩ := h
  refine AW.getf fl_10_412 (dc hd_G_wipe 1 rfl) g_1 ?_
  refine AW.istore_n [(2, v0), (0, C v0.toNat 38)] (dc hd_G_wipe 2 rfl) (Nat.le_of_ble_eq_true rfl) rfl rfl ?_
  refine AW.ra_n (dc hd_G_wipe 3 rfl) rfl rfl rfl ?_
  refine AW.iconst (dc hd_G_wipe 4 rfl) (by decide) ?_
  refine AW.nputI fl_10_412 (dc hd_G_wipe 5 rfl) g_1 (fun C_2 eC_2 => ?_)
  have h := h C_2 eC_2
  refine AW.iload_n (dc hd_G_wipe 6 rfl) rfl ?_
  exact AW.iret (dc hd_G_wipe 7 rfl) rfl rfl (Nat.le_of_ble_eq_true rfl) (Nat.le_of_ble_eq_true rfl) ⟨rfl, h⟩
def J_G_isOf_30 (n : Nat) (C : Cn) (s0 : Int) (Q : Int → Prop) : Prop :=
  (s0 = 0 ∨ s0 = 1) ∧ (Q s0)
theorem aJ_G_isOf_30 (n : Nat) (C : Cn) (s0 : Int) (Q : Int → Prop) (h : J_G_isOf_30 n C s0 Q) : AW p l e R s m args below meth c E M_G_isOf true (fun r C2 n2 => C2 = C ∧ n2 = n ∧ Q r) n 0 0 30 [(9, 0), (9, 0), (9, 0), (9, 0)] [(0, s0)] C := by
  unfold J_G_isOf_30 at h
  obtain ⟨g_10, h⟩ := h
  exact AW.zret (dc hd_G_isOf 18 rfl) rfl rfl (Nat.le_of_ble_eq_true rfl) (Nat.le_of_ble_eq_true rfl) g_10 ⟨rfl, rfl, h⟩
def P_G_isOf (n : Nat) (C : Cn) (v0 v1 v2 v3 : Int) (Q : Int → Prop) : Prop :=
  okO n v0 10 ∧ ((C v0.toNat 38 ≤ v1 → (Q 0)) ∧ (¬ C v0.toNat 38 ≤ v1 → (okO n (PT v0.toNat 37) 12 ∧ (okI (PT v0.toNat 37) v1 ∧ (P_G_in n C (C (PT v0.toNat 37).toNat v1.toNat) v2 v3 (fun (r_5 : Int) => J_G_isOf_30 n C (if r_5 = 0 then 0 else 1) Q))))))
theorem m_G_isOf (l : Launch) (E : Ev) (n : Nat) (C : Cn) (v0 v1 v2 v3 : Int) (Q : Int → Prop) (h : P_G_isOf n C v0 v1 v2 v3 Q) : MA l y_G_isOf M_G_isOf E true C n [(2, v0), (0, v1), (0, v2), (0, v3)] (fun r C2 n2 => C2 = C ∧ n2 = n ∧ Q r) := by
  refine MA.of (by decide) rfl rfl 0 rfl (fun p e s m args below meth c => ?_)
  show AW p l e _ s m args below meth c E M_G_isOf true _ n 0 0 0 [(2, v0), (0, v1), (0, v2), (0, v3)] [] C
  unfold P_G_isOf at h
  refine AW.iload_n (dc hd_G_isOf 0 rfl) rfl ?_
  refine AW.ra_n (dc hd_G_isOf 1 rfl) rfl rfl rfl ?_
  obtain ⟨g_1, h⟩ := h
  refine AW.getf fl_10_412 (dc hd_G_isOf 2 rfl) g_1 ?_
  refine AW.icmp_ge (t := 29) (dc hd_G_isOf 3 rfl) (by decide) (fun c_2 => ?_) (fun c_2 => ?_)
  · have h := h.1 c_2
    refine AW.iconst (dc hd_G_isOf 17 rfl) (by decide) ?_
    exact AW.zret (dc hd_G_isOf 18 rfl) rfl rfl (Nat.le_of_ble_eq_true rfl) (Nat.le_of_ble_eq_true rfl) (by decide) ⟨rfl, rfl, h⟩
  · have h := h.2 c_2
    refine AW.ra_n (dc hd_G_isOf 4 rfl) rfl rfl rfl ?_
    refine AW.getp fl_10_79 (dc hd_G_isOf 5 rfl) g_1 rfl ?_
    refine AW.iload_n (dc hd_G_isOf 6 rfl) rfl ?_
    obtain ⟨g_3, h⟩ := h
    obtain ⟨g_4, h⟩ := h
    refine AW.iald (dc hd_G_isOf 7 rfl) g_3 g_4 ?_
    refine AW.i2l (dc hd_G_isOf 8 rfl) ?_
    refine AW.iload_n (dc hd_G_isOf 9 rfl) rfl ?_
    refine AW.i2l (dc hd_G_isOf 10 rfl) ?_
    refine AW.iload_n (dc hd_G_isOf 11 rfl) rfl ?_
    refine AW.i2l (dc hd_G_isOf 12 rfl) ?_
    refine AW.callS (As := [(1, C (PT v0.toNat 37).toNat v1.toNat), (1, v2), (1, v3)]) (rest := []) (m_G_in l E n C (C (PT v0.toNat 37).toNat v1.toNat) v2 v3 _ h) cb_10_113 sm_G_in (dc hd_G_isOf 13 rfl) rfl rfl ⟨Nat.le_of_ble_eq_true rfl, Nat.le_of_ble_eq_true rfl⟩ ⟨(Nat.le_of_ble_eq_true rfl), (Nat.le_of_ble_eq_true rfl)⟩ (Nat.le_of_ble_eq_true rfl) (fun _ h => by cases h) (fun _ => rfl) (fun r_5 D_7 d_8 q_6 => ?_)
    obtain ⟨q_6a, q_6b, h⟩ := q_6
    subst D_7
    subst d_8
    show AW p l e _ s m args below meth c E M_G_isOf true _ n _ _ _ [(2, v0), (0, v1), (0, v2), (0, v3)] [(0, r_5)] C
    refine AW.if_eq (t := 29) (dc hd_G_isOf 14 rfl) (by decide) (fun c_9 => ?_) (fun c_9 => ?_)
    · simp only [if_pos (show r_5 = 0 from c_9)] at h
      refine AW.iconst (dc hd_G_isOf 17 rfl) (by decide) ?_
      refine AW.fgt [(9, 0), (9, 0), (9, 0), (9, 0)] ⟨.inr rfl, .inr rfl, .inr rfl, .inr rfl, trivial⟩ ?_
      exact aJ_G_isOf_30 n C _ Q h
    · simp only [if_neg (show ¬ (r_5 = 0) from c_9)] at h
      refine AW.iconst (dc hd_G_isOf 15 rfl) (by decide) ?_
      refine AW.goto (t := 30) (dc hd_G_isOf 16 rfl) (by decide) ?_
      refine AW.fgt [(9, 0), (9, 0), (9, 0), (9, 0)] ⟨.inr rfl, .inr rfl, .inr rfl, .inr rfl, trivial⟩ ?_
      exact aJ_G_isOf_30 n C _ Q h
def J_G_looks_229 (n : Nat) (C : Cn) (v0 s0 s1 : Int) (Q : Int → Cn → Prop) : Prop :=
  okO n s0 10 ∧ (∀ C_28 : Cn, C_28 = wr C s0.toNat 41 s1 → (okO n v0 10 ∧ (∀ C_30 : Cn, C_30 = wr C_28 v0.toNat 40 (w32 (C_28 v0.toNat 40 + 1)) → (Q 0 C_30))))
theorem aJ_G_looks_229 (n : Nat) (C : Cn) (v0 s0 s1 : Int) (Q : Int → Cn → Prop) (h : J_G_looks_229 n C v0 s0 s1 Q) : AW p l e R s m args below meth c E M_G_looks true (fun r C2 n2 => n2 = n ∧ Q r C2) n 0 0 229 [(2, v0), (9, 0)] [(0, s1), (2, s0)] C := by
  unfold J_G_looks_229 at h
  obtain ⟨g_27, h⟩ := h
  refine AW.nputI fl_10_428 (dc hd_G_looks 117 rfl) g_27 (fun C_28 eC_28 => ?_)
  have h := h C_28 eC_28
  refine AW.ra_n (dc hd_G_looks 118 rfl) rfl rfl rfl ?_
  refine AW.rdup (dc hd_G_looks 119 rfl) rfl ?_
  obtain ⟨g_29, h⟩ := h
  refine AW.getf fl_10_422 (dc hd_G_looks 120 rfl) g_29 ?_
  refine AW.iconst (dc hd_G_looks 121 rfl) (by decide) ?_
  refine AW.iadd (dc hd_G_looks 122 rfl) ?_
  refine AW.nputI fl_10_422 (dc hd_G_looks 123 rfl) g_29 (fun C_30 eC_30 => ?_)
  have h := h C_30 eC_30
  exact AW.vret (dc hd_G_looks 124 rfl) rfl rfl (Nat.le_of_ble_eq_true rfl) (Nat.le_of_ble_eq_true rfl) ⟨rfl, h⟩
def J_G_looks_242 (n : Nat) (C : Cn) (Q : Int → Cn → Prop) : Prop :=
  Q 0 C
theorem aJ_G_looks_242 (n : Nat) (C : Cn) (Q : Int → Cn → Prop) (h : J_G_looks_242 n C Q) : AW p l e R s m args below meth c E M_G_looks true (fun r C2 n2 => n2 = n ∧ Q r C2) n 0 0 242 [(9, 0), (9, 0)] [] C := by
  unfold J_G_looks_242 at h
  exact AW.vret (dc hd_G_looks 124 rfl) rfl rfl (Nat.le_of_ble_eq_true rfl) (Nat.le_of_ble_eq_true rfl) ⟨rfl, h⟩
def B_G_looks_133 (n : Nat) (v0 : Int) (Q : Int → Cn → Prop) (kz133 : Cn → Prop) (C : Cn) : Prop :=
  okO n v0 10 ∧ (P_G_isOf n C v0 (C v0.toNat 40) 48 57 (fun (r_33 : Int) => (r_33 = 0 → (J_G_looks_242 n C Q)) ∧ (¬ r_33 = 0 → (okO n (PT v0.toNat 37) 12 ∧ (okI (PT v0.toNat 37) (C v0.toNat 40) ∧ (∀ C_40 : Cn, C_40 = wr C v0.toNat 42 (imin 1000 (w32 (w32 (w32 (10 * (C v0.toNat 42)) + C (PT v0.toNat 37).toNat (C v0.toNat 40).toNat) - 48))) → (∀ C_41 : Cn, C_41 = wr C_40 v0.toNat 40 (w32 (C_40 v0.toNat 40 + 1)) → (kz133 C_41))))))))
theorem bB_G_looks_133 (n : Nat) (v0 : Int) (Q : Int → Cn → Prop) (kz133 : Cn → Prop) (hkz133 : ∀ (Cz : Cn), kz133 Cz → AW p l e R s m args below meth c E M_G_looks true (fun r C2 n2 => n2 = n ∧ Q r C2) n 0 0 133 [(2, v0), (9, 0)] [] Cz) (C : Cn) (h : B_G_looks_133 n v0 Q kz133 C) : AW p l e R s m args below meth c E M_G_looks true (fun r C2 n2 => n2 = n ∧ Q r C2) n 0 0 133 [(2, v0), (9, 0)] [] C := by
  unfold B_G_looks_133 at h
  refine AW.ra_n (dc hd_G_looks 67 rfl) rfl rfl rfl ?_
  refine AW.ra_n (dc hd_G_looks 68 rfl) rfl rfl rfl ?_
  obtain ⟨g_32, h⟩ := h
  refine AW.getf fl_10_422 (dc hd_G_looks 69 rfl) g_32 ?_
  refine AW.bipush (dc hd_G_looks 70 rfl) (by decide) (by decide +kernel) ?_
  refine AW.bipush (dc hd_G_looks 71 rfl) (by decide) (by decide +kernel) ?_
  refine AW.callV (As := [(0, C v0.toNat 40), (0, 48), (0, 57)]) (rest := []) (ci := 10) (m_G_isOf l E n C v0 (C v0.toNat 40) 48 57 _ h) cb_10_418 im_G_isOf se_G_isOf ⟨_, _, rfl⟩ (by decide) (dc hd_G_looks 72 rfl) g_32 rfl rfl ⟨Nat.le_of_ble_eq_true rfl, Nat.le_of_ble_eq_true rfl⟩ ⟨(Nat.le_of_ble_eq_true rfl), (Nat.le_of_ble_eq_true rfl)⟩ (Nat.le_of_ble_eq_true rfl) (fun _ h => by cases h) (fun _ => rfl) (fun r_33 D_35 d_36 q_34 => ?_)
  obtain ⟨q_34a, q_34b, h⟩ := q_34
  subst D_35
  subst d_36
  show AW p l e _ s m args below meth c E M_G_looks true _ n _ _ _ [(2, v0), (9, 0)] [(0, r_33)] C
  refine AW.if_eq (t := 242) (dc hd_G_looks 73 rfl) (by decide) (fun c_37 => ?_) (fun c_37 => ?_)
  · have h := h.1 c_37
    refine AW.fgt [(9, 0), (9, 0)] ⟨.inr rfl, .inl rfl, trivial⟩ ?_
    exact aJ_G_looks_242 n C Q h
  · have h := h.2 c_37
    refine AW.ra_n (dc hd_G_looks 74 rfl) rfl rfl rfl ?_
    refine AW.sipush (dc hd_G_looks 75 rfl) (by decide) (by decide +kernel) ?_
    refine AW.bipush (dc hd_G_looks 76 rfl) (by decide) (by decide +kernel) ?_
    refine AW.ra_n (dc hd_G_looks 77 rfl) rfl rfl rfl ?_
    refine AW.getf fl_10_425 (dc hd_G_looks 78 rfl) g_32 ?_
    refine AW.imul (dc hd_G_looks 79 rfl) ?_
    refine AW.ra_n (dc hd_G_looks 80 rfl) rfl rfl rfl ?_
    refine AW.getp fl_10_79 (dc hd_G_looks 81 rfl) g_32 rfl ?_
    refine AW.ra_n (dc hd_G_looks 82 rfl) rfl rfl rfl ?_
    refine AW.getf fl_10_422 (dc hd_G_looks 83 rfl) g_32 ?_
    obtain ⟨g_38, h⟩ := h
    obtain ⟨g_39, h⟩ := h
    refine AW.iald (dc hd_G_looks 84 rfl) g_38 g_39 ?_
    refine AW.iadd (dc hd_G_looks 85 rfl) ?_
    refine AW.bipush (dc hd_G_looks 86 rfl) (by decide) (by decide +kernel) ?_
    refine AW.isub (dc hd_G_looks 87 rfl) ?_
    refine AW.mmin (dc hd_G_looks 88 rfl) mt_10_346 (Nat.le_of_ble_eq_true rfl) (Nat.le_of_ble_eq_true rfl) (Nat.le_of_ble_eq_true rfl) (Nat.le_of_ble_eq_true rfl) (Nat.le_of_ble_eq_true rfl) ?_
    refine AW.nputI fl_10_425 (dc hd_G_looks 89 rfl) g_32 (fun C_40 eC_40 => ?_)
    have h := h C_40 eC_40
    refine AW.ra_n (dc hd_G_looks 90 rfl) rfl rfl rfl ?_
    refine AW.rdup (dc hd_G_looks 91 rfl) rfl ?_
    refine AW.getf fl_10_422 (dc hd_G_looks 92 rfl) g_32 ?_
    refine AW.iconst (dc hd_G_looks 93 rfl) (by decide) ?_
    refine AW.iadd (dc hd_G_looks 94 rfl) ?_
    refine AW.nputI fl_10_422 (dc hd_G_looks 95 rfl) g_32 (fun C_41 eC_41 => ?_)
    have h := h C_41 eC_41
    refine AW.goto (t := 133) (dc hd_G_looks 96 rfl) (by decide) ?_
    exact hkz133 C_41 h
theorem aB_G_looks_133 (n : Nat) (v0 : Int) (Q : Int → Cn → Prop) : ∀ (f : Nat) (z : Cn), lp (B_G_looks_133 n v0 Q) f z → AW p l e R s m args below meth c E M_G_looks true (fun r C2 n2 => n2 = n ∧ Q r C2) n 0 0 133 [(2, v0), (9, 0)] [] z := by
  intro f
  induction f with
  | zero => intro z h; exact False.elim h
  | succ f ih => intro z h; exact bB_G_looks_133 n v0 Q (lp (B_G_looks_133 n v0 Q) f) (fun a0 h => ih a0 h) z h
def B_G_looks_85 (n : Nat) (v0 : Int) (Q : Int → Cn → Prop) (kz85 : Cn → Prop) (C : Cn) : Prop :=
  okO n v0 10 ∧ (P_G_isOf n C v0 (C v0.toNat 40) 97 122 (fun (r_45 : Int) => (r_45 = 0 → (J_G_looks_242 n C Q)) ∧ (¬ r_45 = 0 → (∀ C_50 : Cn, C_50 = wr C v0.toNat 40 (w32 (C v0.toNat 40 + 1)) → (kz85 C_50)))))
theorem bB_G_looks_85 (n : Nat) (v0 : Int) (Q : Int → Cn → Prop) (kz85 : Cn → Prop) (hkz85 : ∀ (Cz : Cn), kz85 Cz → AW p l e R s m args below meth c E M_G_looks true (fun r C2 n2 => n2 = n ∧ Q r C2) n 0 0 85 [(2, v0), (9, 0)] [] Cz) (C : Cn) (h : B_G_looks_85 n v0 Q kz85 C) : AW p l e R s m args below meth c E M_G_looks true (fun r C2 n2 => n2 = n ∧ Q r C2) n 0 0 85 [(2, v0), (9, 0)] [] C := by
  unfold B_G_looks_85 at h
  refine AW.ra_n (dc hd_G_looks 43 rfl) rfl rfl rfl ?_
  refine AW.ra_n (dc hd_G_looks 44 rfl) rfl rfl rfl ?_
  obtain ⟨g_44, h⟩ := h
  refine AW.getf fl_10_422 (dc hd_G_looks 45 rfl) g_44 ?_
  refine AW.bipush (dc hd_G_looks 46 rfl) (by decide) (by decide +kernel) ?_
  refine AW.bipush (dc hd_G_looks 47 rfl) (by decide) (by decide +kernel) ?_
  refine AW.callV (As := [(0, C v0.toNat 40), (0, 97), (0, 122)]) (rest := []) (ci := 10) (m_G_isOf l E n C v0 (C v0.toNat 40) 97 122 _ h) cb_10_418 im_G_isOf se_G_isOf ⟨_, _, rfl⟩ (by decide) (dc hd_G_looks 48 rfl) g_44 rfl rfl ⟨Nat.le_of_ble_eq_true rfl, Nat.le_of_ble_eq_true rfl⟩ ⟨(Nat.le_of_ble_eq_true rfl), (Nat.le_of_ble_eq_true rfl)⟩ (Nat.le_of_ble_eq_true rfl) (fun _ h => by cases h) (fun _ => rfl) (fun r_45 D_47 d_48 q_46 => ?_)
  obtain ⟨q_46a, q_46b, h⟩ := q_46
  subst D_47
  subst d_48
  show AW p l e _ s m args below meth c E M_G_looks true _ n _ _ _ [(2, v0), (9, 0)] [(0, r_45)] C
  refine AW.if_eq (t := 242) (dc hd_G_looks 49 rfl) (by decide) (fun c_49 => ?_) (fun c_49 => ?_)
  · have h := h.1 c_49
    refine AW.fgt [(9, 0), (9, 0)] ⟨.inr rfl, .inl rfl, trivial⟩ ?_
    exact aJ_G_looks_242 n C Q h
  · have h := h.2 c_49
    refine AW.ra_n (dc hd_G_looks 50 rfl) rfl rfl rfl ?_
    refine AW.rdup (dc hd_G_looks 51 rfl) rfl ?_
    refine AW.getf fl_10_422 (dc hd_G_looks 52 rfl) g_44 ?_
    refine AW.iconst (dc hd_G_looks 53 rfl) (by decide) ?_
    refine AW.iadd (dc hd_G_looks 54 rfl) ?_
    refine AW.nputI fl_10_422 (dc hd_G_looks 55 rfl) g_44 (fun C_50 eC_50 => ?_)
    have h := h C_50 eC_50
    refine AW.goto (t := 85) (dc hd_G_looks 56 rfl) (by decide) ?_
    exact hkz85 C_50 h
theorem aB_G_looks_85 (n : Nat) (v0 : Int) (Q : Int → Cn → Prop) : ∀ (f : Nat) (z : Cn), lp (B_G_looks_85 n v0 Q) f z → AW p l e R s m args below meth c E M_G_looks true (fun r C2 n2 => n2 = n ∧ Q r C2) n 0 0 85 [(2, v0), (9, 0)] [] z := by
  intro f
  induction f with
  | zero => intro z h; exact False.elim h
  | succ f ih => intro z h; exact bB_G_looks_85 n v0 Q (lp (B_G_looks_85 n v0 Q) f) (fun a0 h => ih a0 h) z h
def J_G_looks_33 (n : Nat) (C : Cn) (v0 : Int) (Q : Int → Cn → Prop) : Prop :=
  okO n v0 10 ∧ (∀ C_10 : Cn, C_10 = wr C v0.toNat 40 (C v0.toNat 39) → (∀ C_11 : Cn, C_11 = wr C_10 v0.toNat 42 0 → ((C_11 v0.toNat 39 = C_11 v0.toNat 38 → (∀ C_52 : Cn, C_52 = wr C_11 v0.toNat 41 0 → (Q 0 C_52))) ∧ (¬ C_11 v0.toNat 39 = C_11 v0.toNat 38 → (P_G_isOf n C_11 v0 (C_11 v0.toNat 39) 97 122 (fun (r_13 : Int) => (r_13 = 0 → (P_G_isOf n C_11 v0 (C_11 v0.toNat 39) 48 57 (fun (r_18 : Int) => (r_18 = 0 → (okO n (PT v0.toNat 37) 12 ∧ (okI (PT v0.toNat 37) (C_11 v0.toNat 39) ∧ ((C_11 (PT v0.toNat 37).toNat (C_11 v0.toNat 39).toNat = 59 → (J_G_looks_229 n C_11 v0 v0 3 Q)) ∧ (¬ C_11 (PT v0.toNat 37).toNat (C_11 v0.toNat 39).toNat = 59 → (J_G_looks_229 n C_11 v0 v0 (if C_11 (PT v0.toNat 37).toNat (C_11 v0.toNat 39).toNat = 45 then 4 else 5) Q)))))) ∧ (¬ r_18 = 0 → (∀ C_31 : Cn, C_31 = wr C_11 v0.toNat 41 2 → (∃ f_42 : Nat, lp (B_G_looks_133 n v0 Q) f_42 C_31)))))) ∧ (¬ r_13 = 0 → (∀ C_43 : Cn, C_43 = wr C_11 v0.toNat 41 1 → (∃ f_51 : Nat, lp (B_G_looks_85 n v0 Q) f_51 C_43)))))))))
theorem aJ_G_looks_33 (n : Nat) (C : Cn) (v0 : Int) (Q : Int → Cn → Prop) (h : J_G_looks_33 n C v0 Q) : AW p l e R s m args below meth c E M_G_looks true (fun r C2 n2 => n2 = n ∧ Q r C2) n 0 0 33 [(2, v0), (9, 0)] [] C := by
  unfold J_G_looks_33 at h
  refine AW.ra_n (dc hd_G_looks 17 rfl) rfl rfl rfl ?_
  refine AW.ra_n (dc hd_G_looks 18 rfl) rfl rfl rfl ?_
  obtain ⟨g_9, h⟩ := h
  refine AW.getf fl_10_415 (dc hd_G_looks 19 rfl) g_9 ?_
  refine AW.nputI fl_10_422 (dc hd_G_looks 20 rfl) g_9 (fun C_10 eC_10 => ?_)
  have h := h C_10 eC_10
  refine AW.ra_n (dc hd_G_looks 21 rfl) rfl rfl rfl ?_
  refine AW.iconst (dc hd_G_looks 22 rfl) (by decide) ?_
  refine AW.nputI fl_10_425 (dc hd_G_looks 23 rfl) g_9 (fun C_11 eC_11 => ?_)
  have h := h C_11 eC_11
  refine AW.ra_n (dc hd_G_looks 24 rfl) rfl rfl rfl ?_
  refine AW.getf fl_10_415 (dc hd_G_looks 25 rfl) g_9 ?_
  refine AW.ra_n (dc hd_G_looks 26 rfl) rfl rfl rfl ?_
  refine AW.getf fl_10_412 (dc hd_G_looks 27 rfl) g_9 ?_
  refine AW.icmp_ne (t := 65) (dc hd_G_looks 28 rfl) (by decide) (fun c_12 => ?_) (fun c_12 => ?_)
  · have h := h.2 c_12
    refine AW.ra_n (dc hd_G_looks 33 rfl) rfl rfl rfl ?_
    refine AW.ra_n (dc hd_G_looks 34 rfl) rfl rfl rfl ?_
    refine AW.getf fl_10_415 (dc hd_G_looks 35 rfl) g_9 ?_
    refine AW.bipush (dc hd_G_looks 36 rfl) (by decide) (by decide +kernel) ?_
    refine AW.bipush (dc hd_G_looks 37 rfl) (by decide) (by decide +kernel) ?_
    refine AW.callV (As := [(0, C_11 v0.toNat 39), (0, 97), (0, 122)]) (rest := []) (ci := 10) (m_G_isOf l E n C_11 v0 (C_11 v0.toNat 39) 97 122 _ h) cb_10_418 im_G_isOf se_G_isOf ⟨_, _, rfl⟩ (by decide) (dc hd_G_looks 38 rfl) g_9 rfl rfl ⟨Nat.le_of_ble_eq_true rfl, Nat.le_of_ble_eq_true rfl⟩ ⟨(Nat.le_of_ble_eq_true rfl), (Nat.le_of_ble_eq_true rfl)⟩ (Nat.le_of_ble_eq_true rfl) (fun _ h => by cases h) (fun _ => rfl) (fun r_13 D_15 d_16 q_14 => ?_)
    obtain ⟨q_14a, q_14b, h⟩ := q_14
    subst D_15
    subst d_16
    show AW p l e _ s m args below meth c E M_G_looks true _ n _ _ _ [(2, v0), (9, 0)] [(0, r_13)] C_11
    refine AW.if_eq (t := 113) (dc hd_G_looks 39 rfl) (by decide) (fun c_17 => ?_) (fun c_17 => ?_)
    · have h := h.1 c_17
      refine AW.ra_n (dc hd_G_looks 57 rfl) rfl rfl rfl ?_
      refine AW.ra_n (dc hd_G_looks 58 rfl) rfl rfl rfl ?_
      refine AW.getf fl_10_415 (dc hd_G_looks 59 rfl) g_9 ?_
      refine AW.bipush (dc hd_G_looks 60 rfl) (by decide) (by decide +kernel) ?_
      refine AW.bipush (dc hd_G_looks 61 rfl) (by decide) (by decide +kernel) ?_
      refine AW.callV (As := [(0, C_11 v0.toNat 39), (0, 48), (0, 57)]) (rest := []) (ci := 10) (m_G_isOf l E n C_11 v0 (C_11 v0.toNat 39) 48 57 _ h) cb_10_418 im_G_isOf se_G_isOf ⟨_, _, rfl⟩ (by decide) (dc hd_G_looks 62 rfl) g_9 rfl rfl ⟨Nat.le_of_ble_eq_true rfl, Nat.le_of_ble_eq_true rfl⟩ ⟨(Nat.le_of_ble_eq_true rfl), (Nat.le_of_ble_eq_true rfl)⟩ (Nat.le_of_ble_eq_true rfl) (fun _ h => by cases h) (fun _ => rfl) (fun r_18 D_20 d_21 q_19 => ?_)
      obtain ⟨q_19a, q_19b, h⟩ := q_19
      subst D_20
      subst d_21
      show AW p l e _ s m args below meth c E M_G_looks true _ n _ _ _ [(2, v0), (9, 0)] [(0, r_18)] C_11
      refine AW.if_eq (t := 191) (dc hd_G_looks 63 rfl) (by decide) (fun c_22 => ?_) (fun c_22 => ?_)
      · have h := h.1 c_22
        refine AW.ra_n (dc hd_G_looks 97 rfl) rfl rfl rfl ?_
        refine AW.ra_n (dc hd_G_looks 98 rfl) rfl rfl rfl ?_
        refine AW.getp fl_10_79 (dc hd_G_looks 99 rfl) g_9 rfl ?_
        refine AW.ra_n (dc hd_G_looks 100 rfl) rfl rfl rfl ?_
        refine AW.getf fl_10_415 (dc hd_G_looks 101 rfl) g_9 ?_
        obtain ⟨g_23, h⟩ := h
        obtain ⟨g_24, h⟩ := h
        refine AW.iald (dc hd_G_looks 102 rfl) g_23 g_24 ?_
        refine AW.bipush (dc hd_G_looks 103 rfl) (by decide) (by decide +kernel) ?_
        refine AW.icmp_ne (t := 210) (dc hd_G_looks 104 rfl) (by decide) (fun c_25 => ?_) (fun c_25 => ?_)
        · have h := h.2 c_25
          refine AW.ra_n (dc hd_G_looks 107 rfl) rfl rfl rfl ?_
          refine AW.getp fl_10_79 (dc hd_G_looks 108 rfl) g_9 rfl ?_
          refine AW.ra_n (dc hd_G_looks 109 rfl) rfl rfl rfl ?_
          refine AW.getf fl_10_415 (dc hd_G_looks 110 rfl) g_9 ?_
          refine AW.iald (dc hd_G_looks 111 rfl) g_23 g_24 ?_
          refine AW.bipush (dc hd_G_looks 112 rfl) (by decide) (by decide +kernel) ?_
          refine AW.icmp_ne (t := 228) (dc hd_G_looks 113 rfl) (by decide) (fun c_26 => ?_) (fun c_26 => ?_)
          · simp only [if_neg (show ¬ (C_11 (PT v0.toNat 37).toNat (C_11 v0.toNat 39).toNat = 45) from c_26)] at h
            refine AW.iconst (dc hd_G_looks 116 rfl) (by decide) ?_
            exact aJ_G_looks_229 n C_11 _ _ _ Q h
          · simp only [if_pos (show C_11 (PT v0.toNat 37).toNat (C_11 v0.toNat 39).toNat = 45 from c_26)] at h
            refine AW.iconst (dc hd_G_looks 114 rfl) (by decide) ?_
            refine AW.goto (t := 229) (dc hd_G_looks 115 rfl) (by decide) ?_
            exact aJ_G_looks_229 n C_11 _ _ _ Q h
        · have h := h.1 c_25
          refine AW.iconst (dc hd_G_looks 105 rfl) (by decide) ?_
          refine AW.goto (t := 229) (dc hd_G_looks 106 rfl) (by decide) ?_
          exact aJ_G_looks_229 n C_11 v0 v0 3 Q h
      · have h := h.2 c_22
        refine AW.ra_n (dc hd_G_looks 64 rfl) rfl rfl rfl ?_
        refine AW.iconst (dc hd_G_looks 65 rfl) (by decide) ?_
        refine AW.nputI fl_10_428 (dc hd_G_looks 66 rfl) g_9 (fun C_31 eC_31 => ?_)
        have h := h C_31 eC_31
        obtain ⟨f_42, h⟩ := h
        exact aB_G_looks_133 n v0 Q f_42 C_31 h
    · have h := h.2 c_17
      refine AW.ra_n (dc hd_G_looks 40 rfl) rfl rfl rfl ?_
      refine AW.iconst (dc hd_G_looks 41 rfl) (by decide) ?_
      refine AW.nputI fl_10_428 (dc hd_G_looks 42 rfl) g_9 (fun C_43 eC_43 => ?_)
      have h := h C_43 eC_43
      obtain ⟨f_51, h⟩ := h
      exact aB_G_looks_85 n v0 Q f_51 C_43 h
  · have h := h.1 c_12
    refine AW.ra_n (dc hd_G_looks 29 rfl) rfl rfl rfl ?_
    refine AW.iconst (dc hd_G_looks 30 rfl) (by decide) ?_
    refine AW.nputI fl_10_428 (dc hd_G_looks 31 rfl) g_9 (fun C_52 eC_52 => ?_)
    have h := h C_52 eC_52
    refine AW.goto (t := 242) (dc hd_G_looks 32 rfl) (by decide) ?_
    exact AW.vret (dc hd_G_looks 124 rfl) rfl rfl (Nat.le_of_ble_eq_true rfl) (Nat.le_of_ble_eq_true rfl) ⟨rfl, h⟩
def B_G_looks_5 (n : Nat) (v0 : Int) (Q : Int → Cn → Prop) (kz5 : Cn → Prop) (C : Cn) : Prop :=
  okO n v0 10 ∧ (P_G_isOf n C v0 (C v0.toNat 39) 32 32 (fun (r_4 : Int) => (r_4 = 0 → (J_G_looks_33 n C v0 Q)) ∧ (¬ r_4 = 0 → (∀ C_53 : Cn, C_53 = wr C v0.toNat 39 (w32 (C v0.toNat 39 + 1)) → (kz5 C_53)))))
theorem bB_G_looks_5 (n : Nat) (v0 : Int) (Q : Int → Cn → Prop) (kz5 : Cn → Prop) (hkz5 : ∀ (Cz : Cn), kz5 Cz → AW p l e R s m args below meth c E M_G_looks true (fun r C2 n2 => n2 = n ∧ Q r C2) n 0 0 5 [(2, v0), (9, 0)] [] Cz) (C : Cn) (h : B_G_looks_5 n v0 Q kz5 C) : AW p l e R s m args below meth c E M_G_looks true (fun r C2 n2 => n2 = n ∧ Q r C2) n 0 0 5 [(2, v0), (9, 0)] [] C := by
  unfold B_G_looks_5 at h
  refine AW.ra_n (dc hd_G_looks 3 rfl) rfl rfl rfl ?_
  refine AW.ra_n (dc hd_G_looks 4 rfl) rfl rfl rfl ?_
  obtain ⟨g_3, h⟩ := h
  refine AW.getf fl_10_415 (dc hd_G_looks 5 rfl) g_3 ?_
  refine AW.bipush (dc hd_G_looks 6 rfl) (by decide) (by decide +kernel) ?_
  refine AW.bipush (dc hd_G_looks 7 rfl) (by decide) (by decide +kernel) ?_
  refine AW.callV (As := [(0, C v0.toNat 39), (0, 32), (0, 32)]) (rest := []) (ci := 10) (m_G_isOf l E n C v0 (C v0.toNat 39) 32 32 _ h) cb_10_418 im_G_isOf se_G_isOf ⟨_, _, rfl⟩ (by decide) (dc hd_G_looks 8 rfl) g_3 rfl rfl ⟨Nat.le_of_ble_eq_true rfl, Nat.le_of_ble_eq_true rfl⟩ ⟨(Nat.le_of_ble_eq_true rfl), (Nat.le_of_ble_eq_true rfl)⟩ (Nat.le_of_ble_eq_true rfl) (fun _ h => by cases h) (fun _ => rfl) (fun r_4 D_6 d_7 q_5 => ?_)
  obtain ⟨q_5a, q_5b, h⟩ := q_5
  subst D_6
  subst d_7
  show AW p l e _ s m args below meth c E M_G_looks true _ n _ _ _ [(2, v0), (9, 0)] [(0, r_4)] C
  refine AW.if_eq (t := 33) (dc hd_G_looks 9 rfl) (by decide) (fun c_8 => ?_) (fun c_8 => ?_)
  · have h := h.1 c_8
    exact aJ_G_looks_33 n C v0 Q h
  · have h := h.2 c_8
    refine AW.ra_n (dc hd_G_looks 10 rfl) rfl rfl rfl ?_
    refine AW.rdup (dc hd_G_looks 11 rfl) rfl ?_
    refine AW.getf fl_10_415 (dc hd_G_looks 12 rfl) g_3 ?_
    refine AW.iconst (dc hd_G_looks 13 rfl) (by decide) ?_
    refine AW.iadd (dc hd_G_looks 14 rfl) ?_
    refine AW.nputI fl_10_415 (dc hd_G_looks 15 rfl) g_3 (fun C_53 eC_53 => ?_)
    have h := h C_53 eC_53
    refine AW.goto (t := 5) (dc hd_G_looks 16 rfl) (by decide) ?_
    exact hkz5 C_53 h
theorem aB_G_looks_5 (n : Nat) (v0 : Int) (Q : Int → Cn → Prop) : ∀ (f : Nat) (z : Cn), lp (B_G_looks_5 n v0 Q) f z → AW p l e R s m args below meth c E M_G_looks true (fun r C2 n2 => n2 = n ∧ Q r C2) n 0 0 5 [(2, v0), (9, 0)] [] z := by
  intro f
  induction f with
  | zero => intro z h; exact False.elim h
  | succ f ih => intro z h; exact bB_G_looks_5 n v0 Q (lp (B_G_looks_5 n v0 Q) f) (fun a0 h => ih a0 h) z h
def P_G_looks (n : Nat) (C : Cn) (v0 v1 : Int) (Q : Int → Cn → Prop) : Prop :=
  okO n v0 10 ∧ (∀ C_2 : Cn, C_2 = wr C v0.toNat 39 v1 → (∃ f_54 : Nat, lp (B_G_looks_5 n v0 Q) f_54 C_2))
theorem m_G_looks (l : Launch) (E : Ev) (n : Nat) (C : Cn) (v0 v1 : Int) (Q : Int → Cn → Prop) (h : P_G_looks n C v0 v1 Q) : MA l y_G_looks M_G_looks E true C n [(2, v0), (0, v1)] (fun r C2 n2 => n2 = n ∧ Q r C2) := by
  refine MA.of (by decide) rfl rfl 0 rfl (fun p e s m args below meth c => ?_)
  show AW p l e _ s m args below meth c E M_G_looks true _ n 0 0 0 [(2, v0), (0, v1)] [] C
  unfold P_G_looks at h
  refine AW.ra_n (dc hd_G_looks 0 rfl) rfl rfl rfl ?_
  refine AW.iload_n (dc hd_G_looks 1 rfl) rfl ?_
  obtain ⟨g_1, h⟩ := h
  refine AW.nputI fl_10_415 (dc hd_G_looks 2 rfl) g_1 (fun C_2 eC_2 => ?_)
  have h := h C_2 eC_2
  obtain ⟨f_54, h⟩ := h
  refine AW.fgt [(2, v0), (9, 0)] ⟨.inl rfl, .inr rfl, trivial⟩ ?_
  exact aB_G_looks_5 n v0 Q f_54 C_2 h
def P_G_passes (n : Nat) (C : Cn) (v0 : Int) (Q : Int → Cn → Prop) : Prop :=
  okO n v0 10 ∧ ((0 ≤ C v0.toNat 43 → (Q 0 C)) ∧ (¬ 0 ≤ C v0.toNat 43 → (P_G_looks n C v0 (C v0.toNat 40) (fun (_ : Int) (C_3 : Cn) => Q 0 C_3))))
theorem m_G_passes (l : Launch) (E : Ev) (n : Nat) (C : Cn) (v0 : Int) (Q : Int → Cn → Prop) (h : P_G_passes n C v0 Q) : MA l y_G_passes M_G_passes E true C n [(2, v0)] (fun r C2 n2 => n2 = n ∧ Q r C2) := by
  refine MA.of (by decide) rfl rfl 0 rfl (fun p e s m args below meth c => ?_)
  show AW p l e _ s m args below meth c E M_G_passes true _ n 0 0 0 [(2, v0)] [] C
  unfold P_G_passes at h
  refine AW.ra_n (dc hd_G_passes 0 rfl) rfl rfl rfl ?_
  obtain ⟨g_1, h⟩ := h
  refine AW.getf fl_10_431 (dc hd_G_passes 1 rfl) g_1 ?_
  refine AW.if_ge (t := 15) (dc hd_G_passes 2 rfl) (by decide) (fun c_2 => ?_) (fun c_2 => ?_)
  · have h := h.1 c_2
    exact AW.vret (dc hd_G_passes 7 rfl) rfl rfl (Nat.le_of_ble_eq_true rfl) (Nat.le_of_ble_eq_true rfl) ⟨rfl, h⟩
  · have h := h.2 c_2
    refine AW.ra_n (dc hd_G_passes 3 rfl) rfl rfl rfl ?_
    refine AW.ra_n (dc hd_G_passes 4 rfl) rfl rfl rfl ?_
    refine AW.getf fl_10_422 (dc hd_G_passes 5 rfl) g_1 ?_
    refine AW.callV (As := [(0, C v0.toNat 40)]) (rest := []) (ci := 10) (m_G_looks l E n C v0 (C v0.toNat 40) _ h) cb_10_434 im_G_looks se_G_looks ⟨_, _, rfl⟩ (by decide) (dc hd_G_passes 6 rfl) g_1 rfl rfl ⟨Nat.le_of_ble_eq_true rfl, Nat.le_of_ble_eq_true rfl⟩ ⟨(Nat.le_of_ble_eq_true rfl), (Nat.le_of_ble_eq_true rfl)⟩ (Nat.le_of_ble_eq_true rfl) (fun _ h => by cases h) (fun _ => rfl) (fun u_5 C_3 d_6 q_4 => ?_)
    obtain ⟨q_4a, h⟩ := q_4
    subst d_6
    show AW p l e _ s m args below meth c E M_G_passes true _ n _ _ _ [(2, v0)] [] C_3
    exact AW.vret (dc hd_G_passes 7 rfl) rfl rfl (Nat.le_of_ble_eq_true rfl) (Nat.le_of_ble_eq_true rfl) ⟨rfl, h⟩
def P_G_must (n : Nat) (C : Cn) (v0 v1 : Int) (Q : Int → Cn → Prop) : Prop :=
  okO n v0 10 ∧ ((0 ≤ C v0.toNat 43 → (Q 0 C)) ∧ (¬ 0 ≤ C v0.toNat 43 → ((v1 = 0 → (∀ C_4 : Cn, C_4 = wr C v0.toNat 43 (C v0.toNat 39) → (Q 0 C_4))) ∧ (¬ v1 = 0 → (Q 0 C)))))
theorem m_G_must (l : Launch) (E : Ev) (n : Nat) (C : Cn) (v0 v1 : Int) (Q : Int → Cn → Prop) (h : P_G_must n C v0 v1 Q) : MA l y_G_must M_G_must E true C n [(2, v0), (0, v1)] (fun r C2 n2 => n2 = n ∧ Q r C2) := by
  refine MA.of (by decide) rfl rfl 0 rfl (fun p e s m args below meth c => ?_)
  show AW p l e _ s m args below meth c E M_G_must true _ n 0 0 0 [(2, v0), (0, v1)] [] C
  unfold P_G_must at h
  refine AW.ra_n (dc hd_G_must 0 rfl) rfl rfl rfl ?_
  obtain ⟨g_1, h⟩ := h
  refine AW.getf fl_10_431 (dc hd_G_must 1 rfl) g_1 ?_
  refine AW.if_ge (t := 19) (dc hd_G_must 2 rfl) (by decide) (fun c_2 => ?_) (fun c_2 => ?_)
  · have h := h.1 c_2
    exact AW.vret (dc hd_G_must 9 rfl) rfl rfl (Nat.le_of_ble_eq_true rfl) (Nat.le_of_ble_eq_true rfl) ⟨rfl, h⟩
  · have h := h.2 c_2
    refine AW.iload_n (dc hd_G_must 3 rfl) rfl ?_
    refine AW.if_ne (t := 19) (dc hd_G_must 4 rfl) (by decide) (fun c_3 => ?_) (fun c_3 => ?_)
    · have h := h.2 c_3
      exact AW.vret (dc hd_G_must 9 rfl) rfl rfl (Nat.le_of_ble_eq_true rfl) (Nat.le_of_ble_eq_true rfl) ⟨rfl, h⟩
    · have h := h.1 c_3
      refine AW.ra_n (dc hd_G_must 5 rfl) rfl rfl rfl ?_
      refine AW.ra_n (dc hd_G_must 6 rfl) rfl rfl rfl ?_
      refine AW.getf fl_10_415 (dc hd_G_must 7 rfl) g_1 ?_
      refine AW.nputI fl_10_431 (dc hd_G_must 8 rfl) g_1 (fun C_4 eC_4 => ?_)
      have h := h C_4 eC_4
      exact AW.vret (dc hd_G_must 9 rfl) rfl rfl (Nat.le_of_ble_eq_true rfl) (Nat.le_of_ble_eq_true rfl) ⟨rfl, h⟩
def J_G_number_22 (n : Nat) (C : Cn) (v0 s0 s1 : Int) (Q : Int → Cn → Prop) : Prop :=
  okO n s0 10 ∧ (P_G_must n C s0 s1 (fun (_ : Int) (C_5 : Cn) => okO n v0 10 ∧ (∀ v2_10 : Int, v2_10 = C_5 v0.toNat 42 → (P_G_passes n C_5 v0 (fun (_ : Int) (C_11 : Cn) => Q v2_10 C_11)))))
theorem aJ_G_number_22 (n : Nat) (C : Cn) (v0 s0 s1 : Int) (Q : Int → Cn → Prop) (h : J_G_number_22 n C v0 s0 s1 Q) : AW p l e R s m args below meth c E M_G_number true (fun r C2 n2 => n2 = n ∧ Q r C2) n 0 0 22 [(2, v0), (9, 0), (9, 0)] [(0, s1), (2, s0)] C := by
  unfold J_G_number_22 at h
  obtain ⟨g_4, h⟩ := h
  refine AW.callV (As := [(0, s1)]) (rest := []) (ci := 10) (m_G_must l E n C s0 s1 _ h) cb_10_446 im_G_must se_G_must ⟨_, _, rfl⟩ (by decide) (dc hd_G_number 12 rfl) g_4 rfl rfl ⟨Nat.le_of_ble_eq_true rfl, Nat.le_of_ble_eq_true rfl⟩ ⟨(Nat.le_of_ble_eq_true rfl), (Nat.le_of_ble_eq_true rfl)⟩ (Nat.le_of_ble_eq_true rfl) (fun _ h => by cases h) (fun _ => rfl) (fun u_7 C_5 d_8 q_6 => ?_)
  obtain ⟨q_6a, h⟩ := q_6
  subst d_8
  show AW p l e _ s m args below meth c E M_G_number true _ n _ _ _ [(2, v0), (9, 0), (9, 0)] [] C_5
  refine AW.ra_n (dc hd_G_number 13 rfl) rfl rfl rfl ?_
  obtain ⟨g_9, h⟩ := h
  refine AW.getf fl_10_425 (dc hd_G_number 14 rfl) g_9 ?_
  refine AW.nm (fun v2_10 ev2_10 => ?_)
  have h := h v2_10 ev2_10
  refine AW.istore_n [(2, v0), (9, 0), (0, v2_10)] (dc hd_G_number 15 rfl) (Nat.le_of_ble_eq_true rfl) rfl rfl ?_
  refine AW.ra_n (dc hd_G_number 16 rfl) rfl rfl rfl ?_
  refine AW.callV (As := []) (rest := []) (ci := 10) (m_G_passes l E n C_5 v0 _ h) cb_10_450 im_G_passes se_G_passes ⟨_, _, rfl⟩ (by decide) (dc hd_G_number 17 rfl) g_9 rfl rfl ⟨Nat.le_of_ble_eq_true rfl, Nat.le_of_ble_eq_true rfl⟩ ⟨(Nat.le_of_ble_eq_true rfl), (Nat.le_of_ble_eq_true rfl)⟩ (Nat.le_of_ble_eq_true rfl) (fun _ h => by cases h) (fun _ => rfl) (fun u_13 C_11 d_14 q_12 => ?_)
  obtain ⟨q_12a, h⟩ := q_12
  subst d_14
  show AW p l e _ s m args below meth c E M_G_number true _ n _ _ _ [(2, v0), (9, 0), (0, v2_10)] [] C_11
  refine AW.iload_n (dc hd_G_number 18 rfl) rfl ?_
  exact AW.iret (dc hd_G_number 19 rfl) rfl rfl (Nat.le_of_ble_eq_true rfl) (Nat.le_of_ble_eq_true rfl) ⟨rfl, h⟩
def P_G_number (n : Nat) (C : Cn) (v0 v1 : Int) (Q : Int → Cn → Prop) : Prop :=
  okO n v0 10 ∧ (J_G_number_22 n C v0 v0 (if C v0.toNat 41 = 2 then (if v1 < C v0.toNat 42 then 0 else 1) else 0) Q)
theorem m_G_number (l : Launch) (E : Ev) (n : Nat) (C : Cn) (v0 v1 : Int) (Q : Int → Cn → Prop) (h : P_G_number n C v0 v1 Q) : MA l y_G_number M_G_number E true C n [(2, v0), (0, v1)] (fun r C2 n2 => n2 = n ∧ Q r C2) := by
  refine MA.of (by decide) rfl rfl 1 rfl (fun p e s m args below meth c => ?_)
  show AW p l e _ s m args below meth c E M_G_number true _ n 0 0 0 [(2, v0), (0, v1), (9, 0)] [] C
  unfold P_G_number at h
  refine AW.ra_n (dc hd_G_number 0 rfl) rfl rfl rfl ?_
  refine AW.ra_n (dc hd_G_number 1 rfl) rfl rfl rfl ?_
  obtain ⟨g_1, h⟩ := h
  refine AW.getf fl_10_428 (dc hd_G_number 2 rfl) g_1 ?_
  refine AW.iconst (dc hd_G_number 3 rfl) (by decide) ?_
  refine AW.icmp_ne (t := 21) (dc hd_G_number 4 rfl) (by decide) (fun c_2 => ?_) (fun c_2 => ?_)
  · simp only [if_neg (show ¬ (C v0.toNat 41 = 2) from c_2)] at h
    refine AW.iconst (dc hd_G_number 11 rfl) (by decide) ?_
    refine AW.fgt [(2, v0), (9, 0), (9, 0)] ⟨.inl rfl, .inr rfl, .inl rfl, trivial⟩ ?_
    exact aJ_G_number_22 n C _ _ _ Q h
  · simp only [if_pos (show C v0.toNat 41 = 2 from c_2)] at h
    refine AW.ra_n (dc hd_G_number 5 rfl) rfl rfl rfl ?_
    refine AW.getf fl_10_425 (dc hd_G_number 6 rfl) g_1 ?_
    refine AW.iload_n (dc hd_G_number 7 rfl) rfl ?_
    refine AW.icmp_gt (t := 21) (dc hd_G_number 8 rfl) (by decide) (fun c_3 => ?_) (fun c_3 => ?_)
    · simp only [if_pos (show v1 < C v0.toNat 42 from c_3)] at h
      refine AW.iconst (dc hd_G_number 11 rfl) (by decide) ?_
      refine AW.fgt [(2, v0), (9, 0), (9, 0)] ⟨.inl rfl, .inr rfl, .inl rfl, trivial⟩ ?_
      exact aJ_G_number_22 n C _ _ _ Q h
    · simp only [if_neg (show ¬ (v1 < C v0.toNat 42) from c_3)] at h
      refine AW.iconst (dc hd_G_number 9 rfl) (by decide) ?_
      refine AW.goto (t := 22) (dc hd_G_number 10 rfl) (by decide) ?_
      refine AW.fgt [(2, v0), (9, 0), (9, 0)] ⟨.inl rfl, .inr rfl, .inl rfl, trivial⟩ ?_
      exact aJ_G_number_22 n C _ _ _ Q h
def J_G_signed_45 (n : Nat) (C : Cn) (v0 v1 v2 s0 s1 : Int) (Q : Int → Cn → Prop) : Prop :=
  okO n s0 10 ∧ (P_G_must n C s0 s1 (fun (_ : Int) (C_8 : Cn) => (v2 = 0 → (okO n v0 10 ∧ (∀ v3_14 : Int, v3_14 = C_8 v0.toNat 42 → ((v1 = 0 → (P_G_passes n C_8 v0 (fun (_ : Int) (C_16 : Cn) => Q v3_14 C_16))) ∧ (¬ v1 = 0 → (Q v3_14 C_8)))))) ∧ (¬ v2 = 0 → (okO n v0 10 ∧ (∀ v3_21 : Int, v3_21 = w32 (-(C_8 v0.toNat 42)) → ((v1 = 0 → (P_G_passes n C_8 v0 (fun (_ : Int) (C_23 : Cn) => Q v3_21 C_23))) ∧ (¬ v1 = 0 → (Q v3_21 C_8))))))))
theorem aJ_G_signed_45 (n : Nat) (C : Cn) (v0 v1 v2 s0 s1 : Int) (Q : Int → Cn → Prop) (h : J_G_signed_45 n C v0 v1 v2 s0 s1 Q) : AW p l e R s m args below meth c E M_G_signed true (fun r C2 n2 => n2 = n ∧ Q r C2) n 0 0 45 [(2, v0), (0, v1), (0, v2), (9, 0)] [(0, s1), (2, s0)] C := by
  unfold J_G_signed_45 at h
  obtain ⟨g_7, h⟩ := h
  refine AW.callV (As := [(0, s1)]) (rest := []) (ci := 10) (m_G_must l E n C s0 s1 _ h) cb_10_446 im_G_must se_G_must ⟨_, _, rfl⟩ (by decide) (dc hd_G_signed 24 rfl) g_7 rfl rfl ⟨Nat.le_of_ble_eq_true rfl, Nat.le_of_ble_eq_true rfl⟩ ⟨(Nat.le_of_ble_eq_true rfl), (Nat.le_of_ble_eq_true rfl)⟩ (Nat.le_of_ble_eq_true rfl) (fun _ h => by cases h) (fun _ => rfl) (fun u_10 C_8 d_11 q_9 => ?_)
  obtain ⟨q_9a, h⟩ := q_9
  subst d_11
  show AW p l e _ s m args below meth c E M_G_signed true _ n _ _ _ [(2, v0), (0, v1), (0, v2), (9, 0)] [] C_8
  refine AW.iload_n (dc hd_G_signed 25 rfl) rfl ?_
  refine AW.if_eq (t := 60) (dc hd_G_signed 26 rfl) (by decide) (fun c_12 => ?_) (fun c_12 => ?_)
  · have h := h.1 c_12
    refine AW.ra_n (dc hd_G_signed 31 rfl) rfl rfl rfl ?_
    obtain ⟨g_13, h⟩ := h
    refine AW.getf fl_10_425 (dc hd_G_signed 32 rfl) g_13 ?_
    refine AW.nm (fun v3_14 ev3_14 => ?_)
    have h := h v3_14 ev3_14
    refine AW.istore_n [(2, v0), (0, v1), (0, v2), (0, v3_14)] (dc hd_G_signed 33 rfl) (Nat.le_of_ble_eq_true rfl) rfl rfl ?_
    refine AW.iload_n (dc hd_G_signed 34 rfl) rfl ?_
    refine AW.if_ne (t := 73) (dc hd_G_signed 35 rfl) (by decide) (fun c_15 => ?_) (fun c_15 => ?_)
    · have h := h.2 c_15
      refine AW.iload_n (dc hd_G_signed 38 rfl) rfl ?_
      exact AW.iret (dc hd_G_signed 39 rfl) rfl rfl (Nat.le_of_ble_eq_true rfl) (Nat.le_of_ble_eq_true rfl) ⟨rfl, h⟩
    · have h := h.1 c_15
      refine AW.ra_n (dc hd_G_signed 36 rfl) rfl rfl rfl ?_
      refine AW.callV (As := []) (rest := []) (ci := 10) (m_G_passes l E n C_8 v0 _ h) cb_10_450 im_G_passes se_G_passes ⟨_, _, rfl⟩ (by decide) (dc hd_G_signed 37 rfl) g_13 rfl rfl ⟨Nat.le_of_ble_eq_true rfl, Nat.le_of_ble_eq_true rfl⟩ ⟨(Nat.le_of_ble_eq_true rfl), (Nat.le_of_ble_eq_true rfl)⟩ (Nat.le_of_ble_eq_true rfl) (fun _ h => by cases h) (fun _ => rfl) (fun u_18 C_16 d_19 q_17 => ?_)
      obtain ⟨q_17a, h⟩ := q_17
      subst d_19
      show AW p l e _ s m args below meth c E M_G_signed true _ n _ _ _ [(2, v0), (0, v1), (0, v2), (0, v3_14)] [] C_16
      refine AW.iload_n (dc hd_G_signed 38 rfl) rfl ?_
      exact AW.iret (dc hd_G_signed 39 rfl) rfl rfl (Nat.le_of_ble_eq_true rfl) (Nat.le_of_ble_eq_true rfl) ⟨rfl, h⟩
  · have h := h.2 c_12
    refine AW.ra_n (dc hd_G_signed 27 rfl) rfl rfl rfl ?_
    obtain ⟨g_20, h⟩ := h
    refine AW.getf fl_10_425 (dc hd_G_signed 28 rfl) g_20 ?_
    refine AW.ineg (dc hd_G_signed 29 rfl) ?_
    refine AW.goto (t := 64) (dc hd_G_signed 30 rfl) (by decide) ?_
    refine AW.nm (fun v3_21 ev3_21 => ?_)
    have h := h v3_21 ev3_21
    refine AW.istore_n [(2, v0), (0, v1), (0, v2), (0, v3_21)] (dc hd_G_signed 33 rfl) (Nat.le_of_ble_eq_true rfl) rfl rfl ?_
    refine AW.iload_n (dc hd_G_signed 34 rfl) rfl ?_
    refine AW.if_ne (t := 73) (dc hd_G_signed 35 rfl) (by decide) (fun c_22 => ?_) (fun c_22 => ?_)
    · have h := h.2 c_22
      refine AW.iload_n (dc hd_G_signed 38 rfl) rfl ?_
      exact AW.iret (dc hd_G_signed 39 rfl) rfl rfl (Nat.le_of_ble_eq_true rfl) (Nat.le_of_ble_eq_true rfl) ⟨rfl, h⟩
    · have h := h.1 c_22
      refine AW.ra_n (dc hd_G_signed 36 rfl) rfl rfl rfl ?_
      refine AW.callV (As := []) (rest := []) (ci := 10) (m_G_passes l E n C_8 v0 _ h) cb_10_450 im_G_passes se_G_passes ⟨_, _, rfl⟩ (by decide) (dc hd_G_signed 37 rfl) g_20 rfl rfl ⟨Nat.le_of_ble_eq_true rfl, Nat.le_of_ble_eq_true rfl⟩ ⟨(Nat.le_of_ble_eq_true rfl), (Nat.le_of_ble_eq_true rfl)⟩ (Nat.le_of_ble_eq_true rfl) (fun _ h => by cases h) (fun _ => rfl) (fun u_25 C_23 d_26 q_24 => ?_)
      obtain ⟨q_24a, h⟩ := q_24
      subst d_26
      show AW p l e _ s m args below meth c E M_G_signed true _ n _ _ _ [(2, v0), (0, v1), (0, v2), (0, v3_21)] [] C_23
      refine AW.iload_n (dc hd_G_signed 38 rfl) rfl ?_
      exact AW.iret (dc hd_G_signed 39 rfl) rfl rfl (Nat.le_of_ble_eq_true rfl) (Nat.le_of_ble_eq_true rfl) ⟨rfl, h⟩
def J_G_signed_22 (n : Nat) (C : Cn) (v0 v1 v2 : Int) (Q : Int → Cn → Prop) : Prop :=
  okO n v0 10 ∧ (J_G_signed_45 n C v0 v1 v2 v0 (if C v0.toNat 41 = 2 then (if 99 < C v0.toNat 42 then 0 else 1) else 0) Q)
theorem aJ_G_signed_22 (n : Nat) (C : Cn) (v0 v1 v2 : Int) (Q : Int → Cn → Prop) (h : J_G_signed_22 n C v0 v1 v2 Q) : AW p l e R s m args below meth c E M_G_signed true (fun r C2 n2 => n2 = n ∧ Q r C2) n 0 0 22 [(2, v0), (0, v1), (0, v2), (9, 0)] [] C := by
  unfold J_G_signed_22 at h
  refine AW.ra_n (dc hd_G_signed 12 rfl) rfl rfl rfl ?_
  refine AW.ra_n (dc hd_G_signed 13 rfl) rfl rfl rfl ?_
  obtain ⟨g_4, h⟩ := h
  refine AW.getf fl_10_428 (dc hd_G_signed 14 rfl) g_4 ?_
  refine AW.iconst (dc hd_G_signed 15 rfl) (by decide) ?_
  refine AW.icmp_ne (t := 44) (dc hd_G_signed 16 rfl) (by decide) (fun c_5 => ?_) (fun c_5 => ?_)
  · simp only [if_neg (show ¬ (C v0.toNat 41 = 2) from c_5)] at h
    refine AW.iconst (dc hd_G_signed 23 rfl) (by decide) ?_
    exact aJ_G_signed_45 n C _ _ _ _ _ Q h
  · simp only [if_pos (show C v0.toNat 41 = 2 from c_5)] at h
    refine AW.ra_n (dc hd_G_signed 17 rfl) rfl rfl rfl ?_
    refine AW.getf fl_10_425 (dc hd_G_signed 18 rfl) g_4 ?_
    refine AW.bipush (dc hd_G_signed 19 rfl) (by decide) (by decide +kernel) ?_
    refine AW.icmp_gt (t := 44) (dc hd_G_signed 20 rfl) (by decide) (fun c_6 => ?_) (fun c_6 => ?_)
    · simp only [if_pos (show 99 < C v0.toNat 42 from c_6)] at h
      refine AW.iconst (dc hd_G_signed 23 rfl) (by decide) ?_
      exact aJ_G_signed_45 n C _ _ _ _ _ Q h
    · simp only [if_neg (show ¬ (99 < C v0.toNat 42) from c_6)] at h
      refine AW.iconst (dc hd_G_signed 21 rfl) (by decide) ?_
      refine AW.goto (t := 45) (dc hd_G_signed 22 rfl) (by decide) ?_
      exact aJ_G_signed_45 n C _ _ _ _ _ Q h
def J_G_signed_13 (n : Nat) (C : Cn) (v0 v1 s0 : Int) (Q : Int → Cn → Prop) : Prop :=
  (s0 = 0 → (J_G_signed_22 n C v0 v1 s0 Q)) ∧ (¬ s0 = 0 → (okO n v0 10 ∧ (P_G_passes n C v0 (fun (_ : Int) (C_28 : Cn) => J_G_signed_22 n C_28 v0 v1 s0 Q))))
theorem aJ_G_signed_13 (n : Nat) (C : Cn) (v0 v1 s0 : Int) (Q : Int → Cn → Prop) (h : J_G_signed_13 n C v0 v1 s0 Q) : AW p l e R s m args below meth c E M_G_signed true (fun r C2 n2 => n2 = n ∧ Q r C2) n 0 0 13 [(2, v0), (0, v1), (9, 0), (9, 0)] [(0, s0)] C := by
  unfold J_G_signed_13 at h
  refine AW.istore_n [(2, v0), (0, v1), (0, s0), (9, 0)] (dc hd_G_signed 7 rfl) (Nat.le_of_ble_eq_true rfl) rfl rfl ?_
  refine AW.iload_n (dc hd_G_signed 8 rfl) rfl ?_
  refine AW.if_eq (t := 22) (dc hd_G_signed 9 rfl) (by decide) (fun c_3 => ?_) (fun c_3 => ?_)
  · have h := h.1 c_3
    exact aJ_G_signed_22 n C v0 v1 s0 Q h
  · have h := h.2 c_3
    refine AW.ra_n (dc hd_G_signed 10 rfl) rfl rfl rfl ?_
    obtain ⟨g_27, h⟩ := h
    refine AW.callV (As := []) (rest := []) (ci := 10) (m_G_passes l E n C v0 _ h) cb_10_450 im_G_passes se_G_passes ⟨_, _, rfl⟩ (by decide) (dc hd_G_signed 11 rfl) g_27 rfl rfl ⟨Nat.le_of_ble_eq_true rfl, Nat.le_of_ble_eq_true rfl⟩ ⟨(Nat.le_of_ble_eq_true rfl), (Nat.le_of_ble_eq_true rfl)⟩ (Nat.le_of_ble_eq_true rfl) (fun _ h => by cases h) (fun _ => rfl) (fun u_30 C_28 d_31 q_29 => ?_)
    obtain ⟨q_29a, h⟩ := q_29
    subst d_31
    show AW p l e _ s m args below meth c E M_G_signed true _ n _ _ _ [(2, v0), (0, v1), (0, s0), (9, 0)] [] C_28
    exact aJ_G_signed_22 n C_28 v0 v1 s0 Q h
def P_G_signed (n : Nat) (C : Cn) (v0 v1 : Int) (Q : Int → Cn → Prop) : Prop :=
  okO n v0 10 ∧ (J_G_signed_13 n C v0 v1 (if C v0.toNat 41 = 4 then 1 else 0) Q)
theorem m_G_signed (l : Launch) (E : Ev) (n : Nat) (C : Cn) (v0 v1 : Int) (Q : Int → Cn → Prop) (h : P_G_signed n C v0 v1 Q) : MA l y_G_signed M_G_signed E true C n [(2, v0), (0, v1)] (fun r C2 n2 => n2 = n ∧ Q r C2) := by
  refine MA.of (by decide) rfl rfl 2 rfl (fun p e s m args below meth c => ?_)
  show AW p l e _ s m args below meth c E M_G_signed true _ n 0 0 0 [(2, v0), (0, v1), (9, 0), (9, 0)] [] C
  unfold P_G_signed at h
  refine AW.ra_n (dc hd_G_signed 0 rfl) rfl rfl rfl ?_
  obtain ⟨g_1, h⟩ := h
  refine AW.getf fl_10_428 (dc hd_G_signed 1 rfl) g_1 ?_
  refine AW.iconst (dc hd_G_signed 2 rfl) (by decide) ?_
  refine AW.icmp_ne (t := 12) (dc hd_G_signed 3 rfl) (by decide) (fun c_2 => ?_) (fun c_2 => ?_)
  · simp only [if_neg (show ¬ (C v0.toNat 41 = 4) from c_2)] at h
    refine AW.iconst (dc hd_G_signed 6 rfl) (by decide) ?_
    exact aJ_G_signed_13 n C _ _ _ Q h
  · simp only [if_pos (show C v0.toNat 41 = 4 from c_2)] at h
    refine AW.iconst (dc hd_G_signed 4 rfl) (by decide) ?_
    refine AW.goto (t := 13) (dc hd_G_signed 5 rfl) (by decide) ?_
    exact aJ_G_signed_13 n C _ _ _ Q h
def B_G_sheet_83 (n : Nat) (v0 v1 : Int) (Q : Int → Cn → Prop) (kz83 : Cn × Int → Prop) (z : Cn × Int) : Prop := match z with
  | (C, v4) => (40 ≤ v4 → (okO n v0 10 ∧ (okO n (PT v0.toNat 45) 12 ∧ (okI (PT v0.toNat 45) v1 ∧ (Q (C (PT v0.toNat 45).toNat v1.toNat) C))))) ∧ (¬ 40 ≤ v4 → (okO n v0 10 ∧ (okO n (PT v0.toNat 46) 18 ∧ (okI (PT v0.toNat 46) v1 ∧ (okO n (PT (PT v0.toNat 46).toNat v1.toNat) 13 ∧ (okI (PT (PT v0.toNat 46).toNat v1.toNat) v4 ∧ (∀ C_38 : Cn, C_38 = wr C (PT (PT v0.toNat 46).toNat v1.toNat).toNat v4.toNat 0 → (kz83 (C_38, w32 (v4 + 1))))))))))
theorem bB_G_sheet_83 (n : Nat) (v0 v1 : Int) (Q : Int → Cn → Prop) (kz83 : Cn × Int → Prop) (hkz83 : ∀ (Cz : Cn) (z4 : Int), kz83 (Cz, z4) → AW p l e R s m args below meth c E M_G_sheet true (fun r C2 n2 => n2 = n ∧ Q r C2) n 0 0 83 [(2, v0), (0, v1), (9, 0), (9, 0), (0, z4)] [] Cz) (C : Cn) (v4 : Int) (h : B_G_sheet_83 n v0 v1 Q kz83 (C, v4)) : AW p l e R s m args below meth c E M_G_sheet true (fun r C2 n2 => n2 = n ∧ Q r C2) n 0 0 83 [(2, v0), (0, v1), (9, 0), (9, 0), (0, v4)] [] C := by
  unfold B_G_sheet_83 at h
  dsimp only at h
  refine AW.iload (dc hd_G_sheet 46 rfl) rfl ?_
  refine AW.bipush (dc hd_G_sheet 47 rfl) (by decide) (by decide +kernel) ?_
  refine AW.icmp_ge (t := 106) (dc hd_G_sheet 48 rfl) (by decide) (fun c_29 => ?_) (fun c_29 => ?_)
  · have h := h.1 c_29
    refine AW.ra_n (dc hd_G_sheet 58 rfl) rfl rfl rfl ?_
    obtain ⟨g_30, h⟩ := h
    refine AW.getp fl_10_85 (dc hd_G_sheet 59 rfl) g_30 rfl ?_
    refine AW.iload_n (dc hd_G_sheet 60 rfl) rfl ?_
    obtain ⟨g_31, h⟩ := h
    obtain ⟨g_32, h⟩ := h
    refine AW.iald (dc hd_G_sheet 61 rfl) g_31 g_32 ?_
    exact AW.iret (dc hd_G_sheet 62 rfl) rfl rfl (Nat.le_of_ble_eq_true rfl) (Nat.le_of_ble_eq_true rfl) ⟨rfl, h⟩
  · have h := h.2 c_29
    refine AW.ra_n (dc hd_G_sheet 49 rfl) rfl rfl rfl ?_
    obtain ⟨g_33, h⟩ := h
    refine AW.getp fl_10_90 (dc hd_G_sheet 50 rfl) g_33 rfl ?_
    refine AW.iload_n (dc hd_G_sheet 51 rfl) rfl ?_
    obtain ⟨g_34, h⟩ := h
    obtain ⟨g_35, h⟩ := h
    refine AW.aaldp (by decide) (dc hd_G_sheet 52 rfl) g_34 g_35 rfl ?_
    refine AW.iload (dc hd_G_sheet 53 rfl) rfl ?_
    refine AW.lconst (v := 0) (dc hd_G_sheet 54 rfl) (by decide) (by decide +kernel) ?_
    obtain ⟨g_36, h⟩ := h
    obtain ⟨g_37, h⟩ := h
    refine AW.nlast (dc hd_G_sheet 55 rfl) g_36 g_37 (fun C_38 eC_38 => ?_)
    have h := h C_38 eC_38
    refine AW.iinc [(2, v0), (0, v1), (9, 0), (9, 0), (0, w32 (v4 + 1))] (dc hd_G_sheet 56 rfl) rfl (Nat.le_of_ble_eq_true rfl) rfl rfl ?_
    refine AW.goto (t := 83) (dc hd_G_sheet 57 rfl) (by decide) ?_
    exact hkz83 C_38 (w32 (v4 + 1)) h
theorem aB_G_sheet_83 (n : Nat) (v0 v1 : Int) (Q : Int → Cn → Prop) : ∀ (f : Nat) (z : Cn × Int), lp (B_G_sheet_83 n v0 v1 Q) f z → AW p l e R s m args below meth c E M_G_sheet true (fun r C2 n2 => n2 = n ∧ Q r C2) n 0 0 83 [(2, v0), (0, v1), (9, 0), (9, 0), (0, z.2)] [] (z.1) := by
  intro f
  induction f with
  | zero => intro z h; exact False.elim h
  | succ f ih => intro z h; exact bB_G_sheet_83 n v0 v1 Q (lp (B_G_sheet_83 n v0 v1 Q) f) (fun a0 a1 h => ih (a0, a1) h) z.1 z.2 h
def J_G_sheet_79 (n : Nat) (C : Cn) (v0 v1 s0 s1 s2 : Int) (Q : Int → Cn → Prop) : Prop :=
  okO n s0 12 ∧ (okI s0 s1 ∧ (∀ C_28 : Cn, C_28 = wr C s0.toNat s1.toNat s2 → (∃ f_39 : Nat, lp (B_G_sheet_83 n v0 v1 Q) f_39 (C_28, 0))))
theorem aJ_G_sheet_79 (n : Nat) (C : Cn) (v0 v1 s0 s1 s2 : Int) (Q : Int → Cn → Prop) (h : J_G_sheet_79 n C v0 v1 s0 s1 s2 Q) : AW p l e R s m args below meth c E M_G_sheet true (fun r C2 n2 => n2 = n ∧ Q r C2) n 0 0 79 [(2, v0), (0, v1), (9, 0), (9, 0), (9, 0)] [(0, s2), (0, s1), (2, s0)] C := by
  unfold J_G_sheet_79 at h
  obtain ⟨g_26, h⟩ := h
  obtain ⟨g_27, h⟩ := h
  refine AW.niast (dc hd_G_sheet 43 rfl) g_26 g_27 (fun C_28 eC_28 => ?_)
  have h := h C_28 eC_28
  refine AW.iconst (dc hd_G_sheet 44 rfl) (by decide) ?_
  refine AW.istore [(2, v0), (0, v1), (9, 0), (9, 0), (0, 0)] (dc hd_G_sheet 45 rfl) (Nat.le_of_ble_eq_true rfl) rfl rfl ?_
  obtain ⟨f_39, h⟩ := h
  exact aB_G_sheet_83 n v0 v1 Q f_39 (C_28, 0) h
def J_G_sheet_58 (n : Nat) (C : Cn) (v0 v1 v2 v3 : Int) (Q : Int → Cn → Prop) : Prop :=
  okO n v0 10 ∧ (okO n (PT v0.toNat 44) 12 ∧ (okI (PT v0.toNat 44) v1 ∧ (∀ C_24 : Cn, C_24 = wr C (PT v0.toNat 44).toNat v1.toNat v2 → (J_G_sheet_79 n C_24 v0 v1 (PT v0.toNat 45) v1 (if 0 ≤ v2 then v3 else 0) Q))))
theorem aJ_G_sheet_58 (n : Nat) (C : Cn) (v0 v1 v2 v3 : Int) (Q : Int → Cn → Prop) (h : J_G_sheet_58 n C v0 v1 v2 v3 Q) : AW p l e R s m args below meth c E M_G_sheet true (fun r C2 n2 => n2 = n ∧ Q r C2) n 0 0 58 [(2, v0), (0, v1), (0, v2), (0, v3), (9, 0)] [] C := by
  unfold J_G_sheet_58 at h
  refine AW.ra_n (dc hd_G_sheet 30 rfl) rfl rfl rfl ?_
  obtain ⟨g_21, h⟩ := h
  refine AW.getp fl_10_82 (dc hd_G_sheet 31 rfl) g_21 rfl ?_
  refine AW.iload_n (dc hd_G_sheet 32 rfl) rfl ?_
  refine AW.iload_n (dc hd_G_sheet 33 rfl) rfl ?_
  obtain ⟨g_22, h⟩ := h
  obtain ⟨g_23, h⟩ := h
  refine AW.niast (dc hd_G_sheet 34 rfl) g_22 g_23 (fun C_24 eC_24 => ?_)
  have h := h C_24 eC_24
  refine AW.ra_n (dc hd_G_sheet 35 rfl) rfl rfl rfl ?_
  refine AW.getp fl_10_85 (dc hd_G_sheet 36 rfl) g_21 rfl ?_
  refine AW.iload_n (dc hd_G_sheet 37 rfl) rfl ?_
  refine AW.iload_n (dc hd_G_sheet 38 rfl) rfl ?_
  refine AW.if_ge (t := 78) (dc hd_G_sheet 39 rfl) (by decide) (fun c_25 => ?_) (fun c_25 => ?_)
  · simp only [if_pos (show 0 ≤ v2 from c_25)] at h
    refine AW.iload_n (dc hd_G_sheet 42 rfl) rfl ?_
    refine AW.fgt [(2, v0), (0, v1), (9, 0), (9, 0), (9, 0)] ⟨.inl rfl, .inl rfl, .inr rfl, .inr rfl, .inl rfl, trivial⟩ ?_
    exact aJ_G_sheet_79 n C_24 _ _ _ _ _ Q h
  · simp only [if_neg (show ¬ (0 ≤ v2) from c_25)] at h
    refine AW.iconst (dc hd_G_sheet 40 rfl) (by decide) ?_
    refine AW.goto (t := 79) (dc hd_G_sheet 41 rfl) (by decide) ?_
    refine AW.fgt [(2, v0), (0, v1), (9, 0), (9, 0), (9, 0)] ⟨.inl rfl, .inl rfl, .inr rfl, .inr rfl, .inl rfl, trivial⟩ ?_
    exact aJ_G_sheet_79 n C_24 _ _ _ _ _ Q h
def J_G_sheet_42 (n : Nat) (C : Cn) (v0 v1 v2 v3 : Int) (Q : Int → Cn → Prop) : Prop :=
  (v2 < 0 → (J_G_sheet_58 n C v0 v1 v2 v3 Q)) ∧ (¬ v2 < 0 → ((v3 ≤ 40 → (J_G_sheet_58 n C v0 v1 v2 v3 Q)) ∧ (¬ v3 ≤ 40 → (okO n v0 10 ∧ (P_G_finds n C v0 0 (fun (r_41 : Int) (C_43 : Cn) => Q r_41 C_43))))))
theorem aJ_G_sheet_42 (n : Nat) (C : Cn) (v0 v1 v2 v3 : Int) (Q : Int → Cn → Prop) (h : J_G_sheet_42 n C v0 v1 v2 v3 Q) : AW p l e R s m args below meth c E M_G_sheet true (fun r C2 n2 => n2 = n ∧ Q r C2) n 0 0 42 [(2, v0), (0, v1), (0, v2), (0, v3), (9, 0)] [] C := by
  unfold J_G_sheet_42 at h
  refine AW.iload_n (dc hd_G_sheet 21 rfl) rfl ?_
  refine AW.if_lt (t := 58) (dc hd_G_sheet 22 rfl) (by decide) (fun c_20 => ?_) (fun c_20 => ?_)
  · have h := h.1 c_20
    exact aJ_G_sheet_58 n C v0 v1 v2 v3 Q h
  · have h := h.2 c_20
    refine AW.iload_n (dc hd_G_sheet 23 rfl) rfl ?_
    refine AW.bipush (dc hd_G_sheet 24 rfl) (by decide) (by decide +kernel) ?_
    refine AW.icmp_le (t := 58) (dc hd_G_sheet 25 rfl) (by decide) (fun c_40 => ?_) (fun c_40 => ?_)
    · have h := h.1 c_40
      exact aJ_G_sheet_58 n C v0 v1 v2 v3 Q h
    · have h := h.2 c_40
      refine AW.ra_n (dc hd_G_sheet 26 rfl) rfl rfl rfl ?_
      refine AW.iconst (dc hd_G_sheet 27 rfl) (by decide) ?_
      obtain ⟨g_42, h⟩ := h
      refine AW.callV (As := [(0, 0)]) (rest := []) (ci := 10) (m_G_finds l E n C v0 0 _ h) cb_10_186 im_G_finds se_G_finds ⟨_, _, rfl⟩ (by decide) (dc hd_G_sheet 28 rfl) g_42 rfl rfl ⟨Nat.le_of_ble_eq_true rfl, Nat.le_of_ble_eq_true rfl⟩ ⟨(Nat.le_of_ble_eq_true rfl), (Nat.le_of_ble_eq_true rfl)⟩ (Nat.le_of_ble_eq_true rfl) (fun _ h => by cases h) (fun _ => rfl) (fun r_41 C_43 d_45 q_44 => ?_)
      obtain ⟨q_44a, h⟩ := q_44
      subst d_45
      show AW p l e _ s m args below meth c E M_G_sheet true _ n _ _ _ [(2, v0), (0, v1), (0, v2), (0, v3), (9, 0)] [(0, r_41)] C_43
      exact AW.iret (dc hd_G_sheet 29 rfl) rfl rfl (Nat.le_of_ble_eq_true rfl) (Nat.le_of_ble_eq_true rfl) ⟨rfl, h⟩
def P_G_sheet (n : Nat) (C : Cn) (v0 v1 v2 v3 : Int) (Q : Int → Cn → Prop) : Prop :=
  P_G_isSheet n C v1 (fun (r_1 : Int) => (r_1 = 0 → (okO n v0 10 ∧ (P_G_finds n C v0 0 (fun (r_6 : Int) (C_8 : Cn) => Q r_6 C_8)))) ∧ (¬ r_1 = 0 → (P_G_in n C v2 (-1) 2 (fun (r_11 : Int) => (r_11 = 0 → (okO n v0 10 ∧ (P_G_finds n C v0 0 (fun (r_53 : Int) (C_55 : Cn) => Q r_53 C_55)))) ∧ (¬ r_11 = 0 → ((v2 < 0 → (J_G_sheet_42 n C v0 v1 v2 v3 Q)) ∧ (¬ v2 < 0 → ((0 ≤ v3 → (J_G_sheet_42 n C v0 v1 v2 v3 Q)) ∧ (¬ 0 ≤ v3 → (okO n v0 10 ∧ (P_G_finds n C v0 6 (fun (r_48 : Int) (C_50 : Cn) => Q r_48 C_50))))))))))))
theorem m_G_sheet (l : Launch) (E : Ev) (n : Nat) (C : Cn) (v0 v1 v2 v3 : Int) (Q : Int → Cn → Prop) (h : P_G_sheet n C v0 v1 v2 v3 Q) : MA l y_G_sheet M_G_sheet E true C n [(2, v0), (0, v1), (0, v2), (0, v3)] (fun r C2 n2 => n2 = n ∧ Q r C2) := by
  refine MA.of (by decide) rfl rfl 1 rfl (fun p e s m args below meth c => ?_)
  show AW p l e _ s m args below meth c E M_G_sheet true _ n 0 0 0 [(2, v0), (0, v1), (0, v2), (0, v3), (9, 0)] [] C
  unfold P_G_sheet at h
  refine AW.iload_n (dc hd_G_sheet 0 rfl) rfl ?_
  refine AW.callS (As := [(0, v1)]) (rest := []) (m_G_isSheet l E n C v1 _ h) cb_10_369 sm_G_isSheet (dc hd_G_sheet 1 rfl) rfl rfl ⟨Nat.le_of_ble_eq_true rfl, Nat.le_of_ble_eq_true rfl⟩ ⟨(Nat.le_of_ble_eq_true rfl), (Nat.le_of_ble_eq_true rfl)⟩ (Nat.le_of_ble_eq_true rfl) (fun _ h => by cases h) (fun _ => rfl) (fun r_1 D_3 d_4 q_2 => ?_)
  obtain ⟨q_2a, q_2b, h⟩ := q_2
  subst D_3
  subst d_4
  show AW p l e _ s m args below meth c E M_G_sheet true _ n _ _ _ [(2, v0), (0, v1), (0, v2), (0, v3), (9, 0)] [(0, r_1)] C
  refine AW.if_eq (t := 21) (dc hd_G_sheet 2 rfl) (by decide) (fun c_5 => ?_) (fun c_5 => ?_)
  · have h := h.1 c_5
    refine AW.ra_n (dc hd_G_sheet 9 rfl) rfl rfl rfl ?_
    refine AW.iconst (dc hd_G_sheet 10 rfl) (by decide) ?_
    obtain ⟨g_7, h⟩ := h
    refine AW.callV (As := [(0, 0)]) (rest := []) (ci := 10) (m_G_finds l E n C v0 0 _ h) cb_10_186 im_G_finds se_G_finds ⟨_, _, rfl⟩ (by decide) (dc hd_G_sheet 11 rfl) g_7 rfl rfl ⟨Nat.le_of_ble_eq_true rfl, Nat.le_of_ble_eq_true rfl⟩ ⟨(Nat.le_of_ble_eq_true rfl), (Nat.le_of_ble_eq_true rfl)⟩ (Nat.le_of_ble_eq_true rfl) (fun _ h => by cases h) (fun _ => rfl) (fun r_6 C_8 d_10 q_9 => ?_)
    obtain ⟨q_9a, h⟩ := q_9
    subst d_10
    show AW p l e _ s m args below meth c E M_G_sheet true _ n _ _ _ [(2, v0), (0, v1), (0, v2), (0, v3), (9, 0)] [(0, r_6)] C_8
    exact AW.iret (dc hd_G_sheet 12 rfl) rfl rfl (Nat.le_of_ble_eq_true rfl) (Nat.le_of_ble_eq_true rfl) ⟨rfl, h⟩
  · have h := h.2 c_5
    refine AW.iload_n (dc hd_G_sheet 3 rfl) rfl ?_
    refine AW.i2l (dc hd_G_sheet 4 rfl) ?_
    refine AW.ldc2 (v := -1) (dc hd_G_sheet 5 rfl) ck_10_390 (by decide) rfl ?_
    refine AW.ldc2 (v := 2) (dc hd_G_sheet 6 rfl) ck_10_219 (by decide) rfl ?_
    refine AW.callS (As := [(1, v2), (1, (-1)), (1, 2)]) (rest := []) (m_G_in l E n C v2 (-1) 2 _ h) cb_10_113 sm_G_in (dc hd_G_sheet 7 rfl) rfl rfl ⟨Nat.le_of_ble_eq_true rfl, Nat.le_of_ble_eq_true rfl⟩ ⟨(Nat.le_of_ble_eq_true rfl), (Nat.le_of_ble_eq_true rfl)⟩ (Nat.le_of_ble_eq_true rfl) (fun _ h => by cases h) (fun _ => rfl) (fun r_11 D_13 d_14 q_12 => ?_)
    obtain ⟨q_12a, q_12b, h⟩ := q_12
    subst D_13
    subst d_14
    show AW p l e _ s m args below meth c E M_G_sheet true _ n _ _ _ [(2, v0), (0, v1), (0, v2), (0, v3), (9, 0)] [(0, r_11)] C
    refine AW.if_ne (t := 27) (dc hd_G_sheet 8 rfl) (by decide) (fun c_15 => ?_) (fun c_15 => ?_)
    · have h := h.2 c_15
      refine AW.iload_n (dc hd_G_sheet 13 rfl) rfl ?_
      refine AW.if_lt (t := 42) (dc hd_G_sheet 14 rfl) (by decide) (fun c_18 => ?_) (fun c_18 => ?_)
      · have h := h.1 c_18
        exact aJ_G_sheet_42 n C v0 v1 v2 v3 Q h
      · have h := h.2 c_18
        refine AW.iload_n (dc hd_G_sheet 15 rfl) rfl ?_
        refine AW.if_ge (t := 42) (dc hd_G_sheet 16 rfl) (by decide) (fun c_46 => ?_) (fun c_46 => ?_)
        · have h := h.1 c_46
          exact aJ_G_sheet_42 n C v0 v1 v2 v3 Q h
        · have h := h.2 c_46
          refine AW.ra_n (dc hd_G_sheet 17 rfl) rfl rfl rfl ?_
          refine AW.bipush (dc hd_G_sheet 18 rfl) (by decide) (by decide +kernel) ?_
          obtain ⟨g_49, h⟩ := h
          refine AW.callV (As := [(0, 6)]) (rest := []) (ci := 10) (m_G_finds l E n C v0 6 _ h) cb_10_186 im_G_finds se_G_finds ⟨_, _, rfl⟩ (by decide) (dc hd_G_sheet 19 rfl) g_49 rfl rfl ⟨Nat.le_of_ble_eq_true rfl, Nat.le_of_ble_eq_true rfl⟩ ⟨(Nat.le_of_ble_eq_true rfl), (Nat.le_of_ble_eq_true rfl)⟩ (Nat.le_of_ble_eq_true rfl) (fun _ h => by cases h) (fun _ => rfl) (fun r_48 C_50 d_52 q_51 => ?_)
          obtain ⟨q_51a, h⟩ := q_51
          subst d_52
          show AW p l e _ s m args below meth c E M_G_sheet true _ n _ _ _ [(2, v0), (0, v1), (0, v2), (0, v3), (9, 0)] [(0, r_48)] C_50
          exact AW.iret (dc hd_G_sheet 20 rfl) rfl rfl (Nat.le_of_ble_eq_true rfl) (Nat.le_of_ble_eq_true rfl) ⟨rfl, h⟩
    · have h := h.1 c_15
      refine AW.ra_n (dc hd_G_sheet 9 rfl) rfl rfl rfl ?_
      refine AW.iconst (dc hd_G_sheet 10 rfl) (by decide) ?_
      obtain ⟨g_54, h⟩ := h
      refine AW.callV (As := [(0, 0)]) (rest := []) (ci := 10) (m_G_finds l E n C v0 0 _ h) cb_10_186 im_G_finds se_G_finds ⟨_, _, rfl⟩ (by decide) (dc hd_G_sheet 11 rfl) g_54 rfl rfl ⟨Nat.le_of_ble_eq_true rfl, Nat.le_of_ble_eq_true rfl⟩ ⟨(Nat.le_of_ble_eq_true rfl), (Nat.le_of_ble_eq_true rfl)⟩ (Nat.le_of_ble_eq_true rfl) (fun _ h => by cases h) (fun _ => rfl) (fun r_53 C_55 d_57 q_56 => ?_)
      obtain ⟨q_56a, h⟩ := q_56
      subst d_57
      show AW p l e _ s m args below meth c E M_G_sheet true _ n _ _ _ [(2, v0), (0, v1), (0, v2), (0, v3), (9, 0)] [(0, r_53)] C_55
      exact AW.iret (dc hd_G_sheet 12 rfl) rfl rfl (Nat.le_of_ble_eq_true rfl) (Nat.le_of_ble_eq_true rfl) ⟨rfl, h⟩
def J_G_whyNot_47 (n : Nat) (C : Cn) (s0 : Int) (Q : Int → Prop) : Prop :=
  Q s0
theorem aJ_G_whyNot_47 (n : Nat) (C : Cn) (s0 : Int) (Q : Int → Prop) (h : J_G_whyNot_47 n C s0 Q) : AW p l e R s m args below meth c E M_G_whyNot true (fun r C2 n2 => C2 = C ∧ n2 = n ∧ Q r) n 0 0 47 [(9, 0), (9, 0), (9, 0)] [(0, s0)] C := by
  unfold J_G_whyNot_47 at h
  exact AW.iret (dc hd_G_whyNot 27 rfl) rfl rfl (Nat.le_of_ble_eq_true rfl) (Nat.le_of_ble_eq_true rfl) ⟨rfl, rfl, h⟩
def P_G_whyNot (n : Nat) (C : Cn) (v0 v1 v2 : Int) (Q : Int → Prop) : Prop :=
  P_G_isSheet n C v1 (fun (r_1 : Int) => (r_1 = 0 → (Q 0)) ∧ (¬ r_1 = 0 → (okO n v0 10 ∧ (okO n (PT v0.toNat 44) 12 ∧ (okI (PT v0.toNat 44) v1 ∧ ((0 ≤ C (PT v0.toNat 44).toNat v1.toNat → (okO n (PT v0.toNat 45) 12 ∧ (okI (PT v0.toNat 45) v1 ∧ (P_G_in n C v2 0 (w32 (C (PT v0.toNat 45).toNat v1.toNat - 1)) (fun (r_12 : Int) => J_G_whyNot_47 n C (if r_12 = 0 then 0 else (-1)) Q))))) ∧ (¬ 0 ≤ C (PT v0.toNat 44).toNat v1.toNat → (Q 5))))))))
theorem m_G_whyNot (l : Launch) (E : Ev) (n : Nat) (C : Cn) (v0 v1 v2 : Int) (Q : Int → Prop) (h : P_G_whyNot n C v0 v1 v2 Q) : MA l y_G_whyNot M_G_whyNot E true C n [(2, v0), (0, v1), (0, v2)] (fun r C2 n2 => C2 = C ∧ n2 = n ∧ Q r) := by
  refine MA.of (by decide) rfl rfl 0 rfl (fun p e s m args below meth c => ?_)
  show AW p l e _ s m args below meth c E M_G_whyNot true _ n 0 0 0 [(2, v0), (0, v1), (0, v2)] [] C
  unfold P_G_whyNot at h
  refine AW.iload_n (dc hd_G_whyNot 0 rfl) rfl ?_
  refine AW.callS (As := [(0, v1)]) (rest := []) (m_G_isSheet l E n C v1 _ h) cb_10_369 sm_G_isSheet (dc hd_G_whyNot 1 rfl) rfl rfl ⟨Nat.le_of_ble_eq_true rfl, Nat.le_of_ble_eq_true rfl⟩ ⟨(Nat.le_of_ble_eq_true rfl), (Nat.le_of_ble_eq_true rfl)⟩ (Nat.le_of_ble_eq_true rfl) (fun _ h => by cases h) (fun _ => rfl) (fun r_1 D_3 d_4 q_2 => ?_)
  obtain ⟨q_2a, q_2b, h⟩ := q_2
  subst D_3
  subst d_4
  show AW p l e _ s m args below meth c E M_G_whyNot true _ n _ _ _ [(2, v0), (0, v1), (0, v2)] [(0, r_1)] C
  refine AW.if_ne (t := 11) (dc hd_G_whyNot 2 rfl) (by decide) (fun c_5 => ?_) (fun c_5 => ?_)
  · have h := h.2 c_5
    refine AW.ra_n (dc hd_G_whyNot 5 rfl) rfl rfl rfl ?_
    obtain ⟨g_6, h⟩ := h
    refine AW.getp fl_10_82 (dc hd_G_whyNot 6 rfl) g_6 rfl ?_
    refine AW.iload_n (dc hd_G_whyNot 7 rfl) rfl ?_
    obtain ⟨g_7, h⟩ := h
    obtain ⟨g_8, h⟩ := h
    refine AW.iald (dc hd_G_whyNot 8 rfl) g_7 g_8 ?_
    refine AW.if_ge (t := 24) (dc hd_G_whyNot 9 rfl) (by decide) (fun c_9 => ?_) (fun c_9 => ?_)
    · have h := h.1 c_9
      refine AW.iload_n (dc hd_G_whyNot 12 rfl) rfl ?_
      refine AW.i2l (dc hd_G_whyNot 13 rfl) ?_
      refine AW.lconst (v := 0) (dc hd_G_whyNot 14 rfl) (by decide) (by decide +kernel) ?_
      refine AW.ra_n (dc hd_G_whyNot 15 rfl) rfl rfl rfl ?_
      refine AW.getp fl_10_85 (dc hd_G_whyNot 16 rfl) g_6 rfl ?_
      refine AW.iload_n (dc hd_G_whyNot 17 rfl) rfl ?_
      obtain ⟨g_10, h⟩ := h
      obtain ⟨g_11, h⟩ := h
      refine AW.iald (dc hd_G_whyNot 18 rfl) g_10 g_11 ?_
      refine AW.iconst (dc hd_G_whyNot 19 rfl) (by decide) ?_
      refine AW.isub (dc hd_G_whyNot 20 rfl) ?_
      refine AW.i2l (dc hd_G_whyNot 21 rfl) ?_
      refine AW.callS (As := [(1, v2), (1, 0), (1, w32 (C (PT v0.toNat 45).toNat v1.toNat - 1))]) (rest := []) (m_G_in l E n C v2 0 (w32 (C (PT v0.toNat 45).toNat v1.toNat - 1)) _ h) cb_10_113 sm_G_in (dc hd_G_whyNot 22 rfl) rfl rfl ⟨Nat.le_of_ble_eq_true rfl, Nat.le_of_ble_eq_true rfl⟩ ⟨(Nat.le_of_ble_eq_true rfl), (Nat.le_of_ble_eq_true rfl)⟩ (Nat.le_of_ble_eq_true rfl) (fun _ h => by cases h) (fun _ => rfl) (fun r_12 D_14 d_15 q_13 => ?_)
      obtain ⟨q_13a, q_13b, h⟩ := q_13
      subst D_14
      subst d_15
      show AW p l e _ s m args below meth c E M_G_whyNot true _ n _ _ _ [(2, v0), (0, v1), (0, v2)] [(0, r_12)] C
      refine AW.if_ne (t := 46) (dc hd_G_whyNot 23 rfl) (by decide) (fun c_16 => ?_) (fun c_16 => ?_)
      · simp only [if_neg (show ¬ (r_12 = 0) from c_16)] at h
        refine AW.iconst (dc hd_G_whyNot 26 rfl) (by decide) ?_
        refine AW.fgt [(9, 0), (9, 0), (9, 0)] ⟨.inr rfl, .inr rfl, .inr rfl, trivial⟩ ?_
        exact aJ_G_whyNot_47 n C _ Q h
      · simp only [if_pos (show r_12 = 0 from c_16)] at h
        refine AW.iconst (dc hd_G_whyNot 24 rfl) (by decide) ?_
        refine AW.goto (t := 47) (dc hd_G_whyNot 25 rfl) (by decide) ?_
        refine AW.fgt [(9, 0), (9, 0), (9, 0)] ⟨.inr rfl, .inr rfl, .inr rfl, trivial⟩ ?_
        exact aJ_G_whyNot_47 n C _ Q h
    · have h := h.2 c_9
      refine AW.iconst (dc hd_G_whyNot 10 rfl) (by decide) ?_
      refine AW.goto (t := 47) (dc hd_G_whyNot 11 rfl) (by decide) ?_
      exact AW.iret (dc hd_G_whyNot 27 rfl) rfl rfl (Nat.le_of_ble_eq_true rfl) (Nat.le_of_ble_eq_true rfl) ⟨rfl, rfl, h⟩
  · have h := h.1 c_5
    refine AW.iconst (dc hd_G_whyNot 3 rfl) (by decide) ?_
    refine AW.goto (t := 47) (dc hd_G_whyNot 4 rfl) (by decide) ?_
    exact AW.iret (dc hd_G_whyNot 27 rfl) rfl rfl (Nat.le_of_ble_eq_true rfl) (Nat.le_of_ble_eq_true rfl) ⟨rfl, rfl, h⟩
def P_G_write (n : Nat) (C : Cn) (v0 v1 v2 v3 : Int) (Q : Int → Cn → Prop) : Prop :=
  okO n v0 10 ∧ (P_G_whyNot n C v0 v1 v2 (fun (r_1 : Int) => (r_1 < 0 → (okO n (PT v0.toNat 46) 18 ∧ (okI (PT v0.toNat 46) v1 ∧ (okO n (PT v0.toNat 44) 12 ∧ (okI (PT v0.toNat 44) v1 ∧ (P_G_cut n C (C (PT v0.toNat 44).toNat v1.toNat) v3 (fun (r_11 : Int) => okO n (PT (PT v0.toNat 46).toNat v1.toNat) 13 ∧ (okI (PT (PT v0.toNat 46).toNat v1.toNat) v2 ∧ (∀ C_17 : Cn, C_17 = wr C (PT (PT v0.toNat 46).toNat v1.toNat).toNat v2.toNat r_11 → (Q 1 C_17)))))))))) ∧ (¬ r_1 < 0 → (P_G_finds n C v0 r_1 (fun (r_18 : Int) (C_19 : Cn) => Q r_18 C_19)))))
theorem m_G_write (l : Launch) (E : Ev) (n : Nat) (C : Cn) (v0 v1 v2 v3 : Int) (Q : Int → Cn → Prop) (h : P_G_write n C v0 v1 v2 v3 Q) : MA l y_G_write M_G_write E true C n [(2, v0), (0, v1), (0, v2), (1, v3)] (fun r C2 n2 => n2 = n ∧ Q r C2) := by
  refine MA.of (by decide) rfl rfl 1 rfl (fun p e s m args below meth c => ?_)
  show AW p l e _ s m args below meth c E M_G_write true _ n 0 0 0 [(2, v0), (0, v1), (0, v2), (1, v3), (9, 0), (9, 0)] [] C
  unfold P_G_write at h
  refine AW.ra_n (dc hd_G_write 0 rfl) rfl rfl rfl ?_
  refine AW.iload_n (dc hd_G_write 1 rfl) rfl ?_
  refine AW.iload_n (dc hd_G_write 2 rfl) rfl ?_
  obtain ⟨g_2, h⟩ := h
  refine AW.callV (As := [(0, v1), (0, v2)]) (rest := []) (ci := 10) (m_G_whyNot l E n C v0 v1 v2 _ h) cb_10_494 im_G_whyNot se_G_whyNot ⟨_, _, rfl⟩ (by decide) (dc hd_G_write 3 rfl) g_2 rfl rfl ⟨Nat.le_of_ble_eq_true rfl, Nat.le_of_ble_eq_true rfl⟩ ⟨(Nat.le_of_ble_eq_true rfl), (Nat.le_of_ble_eq_true rfl)⟩ (Nat.le_of_ble_eq_true rfl) (fun _ h => by cases h) (fun _ => rfl) (fun r_1 D_4 d_5 q_3 => ?_)
  obtain ⟨q_3a, q_3b, h⟩ := q_3
  subst D_4
  subst d_5
  show AW p l e _ s m args below meth c E M_G_write true _ n _ _ _ [(2, v0), (0, v1), (0, v2), (1, v3), (9, 0), (9, 0)] [(0, r_1)] C
  refine AW.istore [(2, v0), (0, v1), (0, v2), (1, v3), (9, 0), (0, r_1)] (dc hd_G_write 4 rfl) (Nat.le_of_ble_eq_true rfl) rfl rfl ?_
  refine AW.iload (dc hd_G_write 5 rfl) rfl ?_
  refine AW.if_lt (t := 20) (dc hd_G_write 6 rfl) (by decide) (fun c_6 => ?_) (fun c_6 => ?_)
  · have h := h.1 c_6
    refine AW.ra_n (dc hd_G_write 11 rfl) rfl rfl rfl ?_
    refine AW.getp fl_10_90 (dc hd_G_write 12 rfl) g_2 rfl ?_
    refine AW.iload_n (dc hd_G_write 13 rfl) rfl ?_
    obtain ⟨g_7, h⟩ := h
    obtain ⟨g_8, h⟩ := h
    refine AW.aaldp (by decide) (dc hd_G_write 14 rfl) g_7 g_8 rfl ?_
    refine AW.iload_n (dc hd_G_write 15 rfl) rfl ?_
    refine AW.ra_n (dc hd_G_write 16 rfl) rfl rfl rfl ?_
    refine AW.getp fl_10_82 (dc hd_G_write 17 rfl) g_2 rfl ?_
    refine AW.iload_n (dc hd_G_write 18 rfl) rfl ?_
    obtain ⟨g_9, h⟩ := h
    obtain ⟨g_10, h⟩ := h
    refine AW.iald (dc hd_G_write 19 rfl) g_9 g_10 ?_
    refine AW.lload_n (dc hd_G_write 20 rfl) rfl ?_
    refine AW.callS (As := [(0, C (PT v0.toNat 44).toNat v1.toNat), (1, v3)]) (rest := [(0, v2), (2, PT (PT v0.toNat 46).toNat v1.toNat)]) (m_G_cut l E n C (C (PT v0.toNat 44).toNat v1.toNat) v3 _ h) cb_10_372 sm_G_cut (dc hd_G_write 21 rfl) rfl rfl ⟨Nat.le_of_ble_eq_true rfl, Nat.le_of_ble_eq_true rfl⟩ ⟨(Nat.le_of_ble_eq_true rfl), (Nat.le_of_ble_eq_true rfl)⟩ (Nat.le_of_ble_eq_true rfl) (fun _ h => by cases h) (fun _ => rfl) (fun r_11 D_13 d_14 q_12 => ?_)
    obtain ⟨q_12a, q_12b, h⟩ := q_12
    subst D_13
    subst d_14
    show AW p l e _ s m args below meth c E M_G_write true _ n _ _ _ [(2, v0), (0, v1), (0, v2), (1, v3), (9, 0), (0, r_1)] [(1, r_11), (0, v2), (2, PT (PT v0.toNat 46).toNat v1.toNat)] C
    obtain ⟨g_15, h⟩ := h
    obtain ⟨g_16, h⟩ := h
    refine AW.nlast (dc hd_G_write 22 rfl) g_15 g_16 (fun C_17 eC_17 => ?_)
    have h := h C_17 eC_17
    refine AW.iconst (dc hd_G_write 23 rfl) (by decide) ?_
    exact AW.iret (dc hd_G_write 24 rfl) rfl rfl (Nat.le_of_ble_eq_true rfl) (Nat.le_of_ble_eq_true rfl) ⟨rfl, h⟩
  · have h := h.2 c_6
    refine AW.ra_n (dc hd_G_write 7 rfl) rfl rfl rfl ?_
    refine AW.iload (dc hd_G_write 8 rfl) rfl ?_
    refine AW.callV (As := [(0, r_1)]) (rest := []) (ci := 10) (m_G_finds l E n C v0 r_1 _ h) cb_10_186 im_G_finds se_G_finds ⟨_, _, rfl⟩ (by decide) (dc hd_G_write 9 rfl) g_2 rfl rfl ⟨Nat.le_of_ble_eq_true rfl, Nat.le_of_ble_eq_true rfl⟩ ⟨(Nat.le_of_ble_eq_true rfl), (Nat.le_of_ble_eq_true rfl)⟩ (Nat.le_of_ble_eq_true rfl) (fun _ h => by cases h) (fun _ => rfl) (fun r_18 C_19 d_21 q_20 => ?_)
    obtain ⟨q_20a, h⟩ := q_20
    subst d_21
    show AW p l e _ s m args below meth c E M_G_write true _ n _ _ _ [(2, v0), (0, v1), (0, v2), (1, v3), (9, 0), (0, r_1)] [(0, r_18)] C_19
    exact AW.iret (dc hd_G_write 10 rfl) rfl rfl (Nat.le_of_ble_eq_true rfl) (Nat.le_of_ble_eq_true rfl) ⟨rfl, h⟩
end
