section
variable {p : Program} {l : Launch} {e : Env} {R : Room} {s : State} {m : MethodId} {args : Array Value} {below : List Frame} {meth : Method} {c : Code} {E : Ev}
def B_G_asNumbered_2 (n : Nat) (v0 : Int) (Q : Int → Cn → Prop) (kz2 : Cn × Int → Prop) (z : Cn × Int) : Prop := match z with
  | (C, v1) => okO n v0 10 ∧ ((C v0.toNat 0 ≤ v1 → (Q 0 C)) ∧ (¬ C v0.toNat 0 ≤ v1 → (okO n (PT v0.toNat 27) 12 ∧ (okI (PT v0.toNat 27) v1 ∧ (∀ C_5 : Cn, C_5 = wr C (PT v0.toNat 27).toNat v1.toNat v1 → (kz2 (C_5, w32 (v1 + 1))))))))
theorem bB_G_asNumbered_2 (n : Nat) (v0 : Int) (Q : Int → Cn → Prop) (kz2 : Cn × Int → Prop) (hkz2 : ∀ (Cz : Cn) (z1 : Int), kz2 (Cz, z1) → AW p l e R s m args below meth c E M_G_asNumbered true (fun r C2 n2 => n2 = n ∧ Q r C2) n 0 0 2 [(2, v0), (0, z1)] [] Cz) (C : Cn) (v1 : Int) (h : B_G_asNumbered_2 n v0 Q kz2 (C, v1)) : AW p l e R s m args below meth c E M_G_asNumbered true (fun r C2 n2 => n2 = n ∧ Q r C2) n 0 0 2 [(2, v0), (0, v1)] [] C := by
  unfold B_G_asNumbered_2 at h
  dsimp only at h
  refine AW.iload_n (dc hd_G_asNumbered 2 rfl) rfl ?_
  refine AW.ra_n (dc hd_G_asNumbered 3 rfl) rfl rfl rfl ?_
  obtain ⟨g_1, h⟩ := h
  refine AW.getf fl_10_117 (dc hd_G_asNumbered 4 rfl) g_1 ?_
  refine AW.icmp_ge (t := 23) (dc hd_G_asNumbered 5 rfl) (by decide) (fun c_2 => ?_) (fun c_2 => ?_)
  · have h := h.1 c_2
    exact AW.vret (dc hd_G_asNumbered 13 rfl) rfl rfl (Nat.le_of_ble_eq_true rfl) (Nat.le_of_ble_eq_true rfl) ⟨rfl, h⟩
  · have h := h.2 c_2
    refine AW.ra_n (dc hd_G_asNumbered 6 rfl) rfl rfl rfl ?_
    refine AW.getp fl_10_61 (dc hd_G_asNumbered 7 rfl) g_1 rfl ?_
    refine AW.iload_n (dc hd_G_asNumbered 8 rfl) rfl ?_
    refine AW.iload_n (dc hd_G_asNumbered 9 rfl) rfl ?_
    obtain ⟨g_3, h⟩ := h
    obtain ⟨g_4, h⟩ := h
    refine AW.niast (dc hd_G_asNumbered 10 rfl) g_3 g_4 (fun C_5 eC_5 => ?_)
    have h := h C_5 eC_5
    refine AW.iinc [(2, v0), (0, w32 (v1 + 1))] (dc hd_G_asNumbered 11 rfl) rfl (Nat.le_of_ble_eq_true rfl) rfl rfl ?_
    refine AW.goto (t := 2) (dc hd_G_asNumbered 12 rfl) (by decide) ?_
    exact hkz2 C_5 (w32 (v1 + 1)) h
theorem aB_G_asNumbered_2 (n : Nat) (v0 : Int) (Q : Int → Cn → Prop) : ∀ (f : Nat) (z : Cn × Int), lp (B_G_asNumbered_2 n v0 Q) f z → AW p l e R s m args below meth c E M_G_asNumbered true (fun r C2 n2 => n2 = n ∧ Q r C2) n 0 0 2 [(2, v0), (0, z.2)] [] (z.1) := by
  intro f
  induction f with
  | zero => intro z h; exact False.elim h
  | succ f ih => intro z h; exact bB_G_asNumbered_2 n v0 Q (lp (B_G_asNumbered_2 n v0 Q) f) (fun a0 a1 h => ih (a0, a1) h) z.1 z.2 h
def P_G_asNumbered (n : Nat) (C : Cn) (v0 : Int) (Q : Int → Cn → Prop) : Prop :=
  ∃ f_6 : Nat, lp (B_G_asNumbered_2 n v0 Q) f_6 (C, 0)
theorem m_G_asNumbered (l : Launch) (E : Ev) (n : Nat) (C : Cn) (v0 : Int) (Q : Int → Cn → Prop) (h : P_G_asNumbered n C v0 Q) : MA l y_G_asNumbered M_G_asNumbered E true C n [(2, v0)] (fun r C2 n2 => n2 = n ∧ Q r C2) := by
  refine MA.of (by decide) rfl rfl 1 rfl (fun p e s m args below meth c => ?_)
  show AW p l e _ s m args below meth c E M_G_asNumbered true _ n 0 0 0 [(2, v0), (9, 0)] [] C
  unfold P_G_asNumbered at h
  refine AW.iconst (dc hd_G_asNumbered 0 rfl) (by decide) ?_
  refine AW.istore_n [(2, v0), (0, 0)] (dc hd_G_asNumbered 1 rfl) (Nat.le_of_ble_eq_true rfl) rfl rfl ?_
  obtain ⟨f_6, h⟩ := h
  exact aB_G_asNumbered_2 n v0 Q f_6 (C, 0) h
def P_G_steps (n : Nat) (C : Cn) (v0 v1 v2 : Int) (Q : Int → Cn → Prop) : Prop :=
  P_G_isPoint n C v1 v2 (fun (r_1 : Int) => (r_1 = 0 → (okO n v0 10 ∧ (P_G_finds n C v0 0 (fun (r_28 : Int) (C_30 : Cn) => Q r_28 C_30)))) ∧ (¬ r_1 = 0 → (okO n v0 10 ∧ (P_G_maps n C v0 (fun (_ : Int) (C_7 : Cn) => P_G_isFree n C_7 v0 v1 v2 (fun (r_11 : Int) (C_12 : Cn) => (r_11 = 0 → (P_G_finds n C_12 v0 4 (fun (r_24 : Int) (C_25 : Cn) => Q r_24 C_25))) ∧ (¬ r_11 = 0 → (P_G_asNumbered n C_12 v0 (fun (_ : Int) (C_16 : Cn) => P_G_searched n C_16 v0 (C_16 v0.toNat 23) (C_16 v0.toNat 24) (fun (r_20 : Int) (C_21 : Cn) => Q r_20 C_21))))))))))
theorem m_G_steps (l : Launch) (E : Ev) (n : Nat) (C : Cn) (v0 v1 v2 : Int) (Q : Int → Cn → Prop) (h : P_G_steps n C v0 v1 v2 Q) : MA l y_G_steps M_G_steps E true C n [(2, v0), (0, v1), (0, v2)] (fun r C2 n2 => n2 = n ∧ Q r C2) := by
  refine MA.of (by decide) rfl rfl 0 rfl (fun p e s m args below meth c => ?_)
  show AW p l e _ s m args below meth c E M_G_steps true _ n 0 0 0 [(2, v0), (0, v1), (0, v2)] [] C
  unfold P_G_steps at h
  refine AW.iload_n (dc hd_G_steps 0 rfl) rfl ?_
  refine AW.iload_n (dc hd_G_steps 1 rfl) rfl ?_
  refine AW.callS (As := [(0, v1), (0, v2)]) (rest := []) (m_G_isPoint l E n C v1 v2 _ h) cb_10_183 sm_G_isPoint (dc hd_G_steps 2 rfl) rfl rfl ⟨Nat.le_of_ble_eq_true rfl, Nat.le_of_ble_eq_true rfl⟩ ⟨(Nat.le_of_ble_eq_true rfl), (Nat.le_of_ble_eq_true rfl)⟩ (Nat.le_of_ble_eq_true rfl) (fun _ h => by cases h) (fun _ => rfl) (fun r_1 D_3 d_4 q_2 => ?_)
  obtain ⟨q_2a, q_2b, h⟩ := q_2
  subst D_3
  subst d_4
  show AW p l e _ s m args below meth c E M_G_steps true _ n _ _ _ [(2, v0), (0, v1), (0, v2)] [(0, r_1)] C
  refine AW.if_ne (t := 14) (dc hd_G_steps 3 rfl) (by decide) (fun c_5 => ?_) (fun c_5 => ?_)
  · have h := h.2 c_5
    refine AW.ra_n (dc hd_G_steps 8 rfl) rfl rfl rfl ?_
    obtain ⟨g_6, h⟩ := h
    refine AW.callV (As := []) (rest := []) (ci := 10) (m_G_maps l E n C v0 _ h) cb_10_211 im_G_maps se_G_maps ⟨_, _, rfl⟩ (by decide) (dc hd_G_steps 9 rfl) g_6 rfl rfl ⟨Nat.le_of_ble_eq_true rfl, Nat.le_of_ble_eq_true rfl⟩ ⟨(Nat.le_of_ble_eq_true rfl), (Nat.le_of_ble_eq_true rfl)⟩ (Nat.le_of_ble_eq_true rfl) (fun _ h => by cases h) (fun _ => rfl) (fun u_9 C_7 d_10 q_8 => ?_)
    obtain ⟨q_8a, h⟩ := q_8
    subst d_10
    show AW p l e _ s m args below meth c E M_G_steps true _ n _ _ _ [(2, v0), (0, v1), (0, v2)] [] C_7
    refine AW.ra_n (dc hd_G_steps 10 rfl) rfl rfl rfl ?_
    refine AW.iload_n (dc hd_G_steps 11 rfl) rfl ?_
    refine AW.iload_n (dc hd_G_steps 12 rfl) rfl ?_
    refine AW.callV (As := [(0, v1), (0, v2)]) (rest := []) (ci := 10) (m_G_isFree l E n C_7 v0 v1 v2 _ h) cb_10_284 im_G_isFree se_G_isFree ⟨_, _, rfl⟩ (by decide) (dc hd_G_steps 13 rfl) g_6 rfl rfl ⟨Nat.le_of_ble_eq_true rfl, Nat.le_of_ble_eq_true rfl⟩ ⟨(Nat.le_of_ble_eq_true rfl), (Nat.le_of_ble_eq_true rfl)⟩ (Nat.le_of_ble_eq_true rfl) (fun _ h => by cases h) (fun _ => rfl) (fun r_11 C_12 d_14 q_13 => ?_)
    obtain ⟨q_13a, h⟩ := q_13
    subst d_14
    show AW p l e _ s m args below meth c E M_G_steps true _ n _ _ _ [(2, v0), (0, v1), (0, v2)] [(0, r_11)] C_12
    refine AW.if_ne (t := 33) (dc hd_G_steps 14 rfl) (by decide) (fun c_15 => ?_) (fun c_15 => ?_)
    · have h := h.2 c_15
      refine AW.ra_n (dc hd_G_steps 19 rfl) rfl rfl rfl ?_
      refine AW.callV (As := []) (rest := []) (ci := 10) (m_G_asNumbered l E n C_12 v0 _ h) cb_10_310 im_G_asNumbered se_G_asNumbered ⟨_, _, rfl⟩ (by decide) (dc hd_G_steps 20 rfl) g_6 rfl rfl ⟨Nat.le_of_ble_eq_true rfl, Nat.le_of_ble_eq_true rfl⟩ ⟨(Nat.le_of_ble_eq_true rfl), (Nat.le_of_ble_eq_true rfl)⟩ (Nat.le_of_ble_eq_true rfl) (fun _ h => by cases h) (fun _ => rfl) (fun u_18 C_16 d_19 q_17 => ?_)
      obtain ⟨q_17a, h⟩ := q_17
      subst d_19
      show AW p l e _ s m args below meth c E M_G_steps true _ n _ _ _ [(2, v0), (0, v1), (0, v2)] [] C_16
      refine AW.ra_n (dc hd_G_steps 21 rfl) rfl rfl rfl ?_
      refine AW.ra_n (dc hd_G_steps 22 rfl) rfl rfl rfl ?_
      refine AW.getf fl_10_275 (dc hd_G_steps 23 rfl) g_6 ?_
      refine AW.ra_n (dc hd_G_steps 24 rfl) rfl rfl rfl ?_
      refine AW.getf fl_10_278 (dc hd_G_steps 25 rfl) g_6 ?_
      refine AW.callV (As := [(0, C_16 v0.toNat 23), (0, C_16 v0.toNat 24)]) (rest := []) (ci := 10) (m_G_searched l E n C_16 v0 (C_16 v0.toNat 23) (C_16 v0.toNat 24) _ h) cb_10_313 im_G_searched se_G_searched ⟨_, _, rfl⟩ (by decide) (dc hd_G_steps 26 rfl) g_6 rfl rfl ⟨Nat.le_of_ble_eq_true rfl, Nat.le_of_ble_eq_true rfl⟩ ⟨(Nat.le_of_ble_eq_true rfl), (Nat.le_of_ble_eq_true rfl)⟩ (Nat.le_of_ble_eq_true rfl) (fun _ h => by cases h) (fun _ => rfl) (fun r_20 C_21 d_23 q_22 => ?_)
      obtain ⟨q_22a, h⟩ := q_22
      subst d_23
      show AW p l e _ s m args below meth c E M_G_steps true _ n _ _ _ [(2, v0), (0, v1), (0, v2)] [(0, r_20)] C_21
      exact AW.iret (dc hd_G_steps 27 rfl) rfl rfl (Nat.le_of_ble_eq_true rfl) (Nat.le_of_ble_eq_true rfl) ⟨rfl, h⟩
    · have h := h.1 c_15
      refine AW.ra_n (dc hd_G_steps 15 rfl) rfl rfl rfl ?_
      refine AW.iconst (dc hd_G_steps 16 rfl) (by decide) ?_
      refine AW.callV (As := [(0, 4)]) (rest := []) (ci := 10) (m_G_finds l E n C_12 v0 4 _ h) cb_10_186 im_G_finds se_G_finds ⟨_, _, rfl⟩ (by decide) (dc hd_G_steps 17 rfl) g_6 rfl rfl ⟨Nat.le_of_ble_eq_true rfl, Nat.le_of_ble_eq_true rfl⟩ ⟨(Nat.le_of_ble_eq_true rfl), (Nat.le_of_ble_eq_true rfl)⟩ (Nat.le_of_ble_eq_true rfl) (fun _ h => by cases h) (fun _ => rfl) (fun r_24 C_25 d_27 q_26 => ?_)
      obtain ⟨q_26a, h⟩ := q_26
      subst d_27
      show AW p l e _ s m args below meth c E M_G_steps true _ n _ _ _ [(2, v0), (0, v1), (0, v2)] [(0, r_24)] C_25
      exact AW.iret (dc hd_G_steps 18 rfl) rfl rfl (Nat.le_of_ble_eq_true rfl) (Nat.le_of_ble_eq_true rfl) ⟨rfl, h⟩
  · have h := h.1 c_5
    refine AW.ra_n (dc hd_G_steps 4 rfl) rfl rfl rfl ?_
    refine AW.iconst (dc hd_G_steps 5 rfl) (by decide) ?_
    obtain ⟨g_29, h⟩ := h
    refine AW.callV (As := [(0, 0)]) (rest := []) (ci := 10) (m_G_finds l E n C v0 0 _ h) cb_10_186 im_G_finds se_G_finds ⟨_, _, rfl⟩ (by decide) (dc hd_G_steps 6 rfl) g_29 rfl rfl ⟨Nat.le_of_ble_eq_true rfl, Nat.le_of_ble_eq_true rfl⟩ ⟨(Nat.le_of_ble_eq_true rfl), (Nat.le_of_ble_eq_true rfl)⟩ (Nat.le_of_ble_eq_true rfl) (fun _ h => by cases h) (fun _ => rfl) (fun r_28 C_30 d_32 q_31 => ?_)
    obtain ⟨q_31a, h⟩ := q_31
    subst d_32
    show AW p l e _ s m args below meth c E M_G_steps true _ n _ _ _ [(2, v0), (0, v1), (0, v2)] [(0, r_28)] C_30
    exact AW.iret (dc hd_G_steps 7 rfl) rfl rfl (Nat.le_of_ble_eq_true rfl) (Nat.le_of_ble_eq_true rfl) ⟨rfl, h⟩
def B_G_searches_22 (n : Nat) (v0 v1 : Int) (kz12 : Cn × Int → Prop) (Q : Int → Cn → Prop) (kz22 : Cn × Int → Prop) (z : Cn × Int) : Prop := match z with
  | (C, v2) => okO n v0 10 ∧ (okO n (PT v0.toNat 15) 12 ∧ (okI (PT v0.toNat 15) v1 ∧ ((C (PT v0.toNat 15).toNat v1.toNat < v2 → (kz12 (C, w32 (v1 + 1)))) ∧ (¬ C (PT v0.toNat 15).toNat v1.toNat < v2 → (P_G_searched n C v0 v1 v2 (fun (r_10 : Int) (C_11 : Cn) => ∀ C_14 : Cn, C_14 = wr C_11 v0.toNat 28 (imax (C_11 v0.toNat 28) r_10) → (∀ C_15 : Cn, C_15 = wr C_14 v0.toNat 29 (w32 (C_14 v0.toNat 29 + r_10)) → (kz22 (C_15, w32 (v2 + 1))))))))))
theorem bB_G_searches_22 (n : Nat) (v0 v1 : Int) (kz12 : Cn × Int → Prop) (Q : Int → Cn → Prop) (hkz12 : ∀ (Cz : Cn) (z1 : Int), kz12 (Cz, z1) → AW p l e R s m args below meth c E M_G_searches true (fun r C2 n2 => n2 = n ∧ Q r C2) n 0 0 12 [(2, v0), (0, z1), (9, 0), (9, 0)] [] Cz) (kz22 : Cn × Int → Prop) (hkz22 : ∀ (Cz : Cn) (z2 : Int), kz22 (Cz, z2) → AW p l e R s m args below meth c E M_G_searches true (fun r C2 n2 => n2 = n ∧ Q r C2) n 0 0 22 [(2, v0), (0, v1), (0, z2), (9, 0)] [] Cz) (C : Cn) (v2 : Int) (h : B_G_searches_22 n v0 v1 kz12 Q kz22 (C, v2)) : AW p l e R s m args below meth c E M_G_searches true (fun r C2 n2 => n2 = n ∧ Q r C2) n 0 0 22 [(2, v0), (0, v1), (0, v2), (9, 0)] [] C := by
  unfold B_G_searches_22 at h
  dsimp only at h
  refine AW.iload_n (dc hd_G_searches 14 rfl) rfl ?_
  refine AW.ra_n (dc hd_G_searches 15 rfl) rfl rfl rfl ?_
  obtain ⟨g_6, h⟩ := h
  refine AW.getp fl_10_40 (dc hd_G_searches 16 rfl) g_6 rfl ?_
  refine AW.iload_n (dc hd_G_searches 17 rfl) rfl ?_
  obtain ⟨g_7, h⟩ := h
  obtain ⟨g_8, h⟩ := h
  refine AW.iald (dc hd_G_searches 18 rfl) g_7 g_8 ?_
  refine AW.icmp_gt (t := 67) (dc hd_G_searches 19 rfl) (by decide) (fun c_9 => ?_) (fun c_9 => ?_)
  · have h := h.1 c_9
    refine AW.iinc [(2, v0), (0, w32 (v1 + 1)), (0, v2), (9, 0)] (dc hd_G_searches 39 rfl) rfl (Nat.le_of_ble_eq_true rfl) rfl rfl ?_
    refine AW.goto (t := 12) (dc hd_G_searches 40 rfl) (by decide) ?_
    refine AW.fgt [(2, v0), (0, w32 (v1 + 1)), (9, 0), (9, 0)] ⟨.inl rfl, .inl rfl, .inr rfl, .inl rfl, trivial⟩ ?_
    exact hkz12 C (w32 (v1 + 1)) h
  · have h := h.2 c_9
    refine AW.ra_n (dc hd_G_searches 20 rfl) rfl rfl rfl ?_
    refine AW.iload_n (dc hd_G_searches 21 rfl) rfl ?_
    refine AW.iload_n (dc hd_G_searches 22 rfl) rfl ?_
    refine AW.callV (As := [(0, v1), (0, v2)]) (rest := []) (ci := 10) (m_G_searched l E n C v0 v1 v2 _ h) cb_10_313 im_G_searched se_G_searched ⟨_, _, rfl⟩ (by decide) (dc hd_G_searches 23 rfl) g_6 rfl rfl ⟨Nat.le_of_ble_eq_true rfl, Nat.le_of_ble_eq_true rfl⟩ ⟨(Nat.le_of_ble_eq_true rfl), (Nat.le_of_ble_eq_true rfl)⟩ (Nat.le_of_ble_eq_true rfl) (fun _ h => by cases h) (fun _ => rfl) (fun r_10 C_11 d_13 q_12 => ?_)
    obtain ⟨q_12a, h⟩ := q_12
    subst d_13
    show AW p l e _ s m args below meth c E M_G_searches true _ n _ _ _ [(2, v0), (0, v1), (0, v2), (9, 0)] [(0, r_10)] C_11
    refine AW.istore_n [(2, v0), (0, v1), (0, v2), (0, r_10)] (dc hd_G_searches 24 rfl) (Nat.le_of_ble_eq_true rfl) rfl rfl ?_
    refine AW.ra_n (dc hd_G_searches 25 rfl) rfl rfl rfl ?_
    refine AW.ra_n (dc hd_G_searches 26 rfl) rfl rfl rfl ?_
    refine AW.getf fl_10_316 (dc hd_G_searches 27 rfl) g_6 ?_
    refine AW.iload_n (dc hd_G_searches 28 rfl) rfl ?_
    refine AW.mmax (dc hd_G_searches 29 rfl) mt_10_161 (Nat.le_of_ble_eq_true rfl) (Nat.le_of_ble_eq_true rfl) (Nat.le_of_ble_eq_true rfl) (Nat.le_of_ble_eq_true rfl) (Nat.le_of_ble_eq_true rfl) ?_
    refine AW.nputI fl_10_316 (dc hd_G_searches 30 rfl) g_6 (fun C_14 eC_14 => ?_)
    have h := h C_14 eC_14
    refine AW.ra_n (dc hd_G_searches 31 rfl) rfl rfl rfl ?_
    refine AW.rdup (dc hd_G_searches 32 rfl) rfl ?_
    refine AW.getf fl_10_319 (dc hd_G_searches 33 rfl) g_6 ?_
    refine AW.iload_n (dc hd_G_searches 34 rfl) rfl ?_
    refine AW.iadd (dc hd_G_searches 35 rfl) ?_
    refine AW.nputI fl_10_319 (dc hd_G_searches 36 rfl) g_6 (fun C_15 eC_15 => ?_)
    have h := h C_15 eC_15
    refine AW.iinc [(2, v0), (0, v1), (0, w32 (v2 + 1)), (0, r_10)] (dc hd_G_searches 37 rfl) rfl (Nat.le_of_ble_eq_true rfl) rfl rfl ?_
    refine AW.goto (t := 22) (dc hd_G_searches 38 rfl) (by decide) ?_
    refine AW.fgt [(2, v0), (0, v1), (0, w32 (v2 + 1)), (9, 0)] ⟨.inl rfl, .inl rfl, .inl rfl, .inr rfl, trivial⟩ ?_
    exact hkz22 C_15 (w32 (v2 + 1)) h
theorem aB_G_searches_22 (n : Nat) (v0 v1 : Int) (kz12 : Cn × Int → Prop) (Q : Int → Cn → Prop) (hkz12 : ∀ (Cz : Cn) (z1 : Int), kz12 (Cz, z1) → AW p l e R s m args below meth c E M_G_searches true (fun r C2 n2 => n2 = n ∧ Q r C2) n 0 0 12 [(2, v0), (0, z1), (9, 0), (9, 0)] [] Cz) : ∀ (f : Nat) (z : Cn × Int), lp (B_G_searches_22 n v0 v1 kz12 Q) f z → AW p l e R s m args below meth c E M_G_searches true (fun r C2 n2 => n2 = n ∧ Q r C2) n 0 0 22 [(2, v0), (0, v1), (0, z.2), (9, 0)] [] (z.1) := by
  intro f
  induction f with
  | zero => intro z h; exact False.elim h
  | succ f ih => intro z h; exact bB_G_searches_22 n v0 v1 kz12 Q hkz12 (lp (B_G_searches_22 n v0 v1 kz12 Q) f) (fun a0 a1 h => ih (a0, a1) h) z.1 z.2 h
def B_G_searches_12 (n : Nat) (v0 : Int) (Q : Int → Cn → Prop) (kz12 : Cn × Int → Prop) (z : Cn × Int) : Prop := match z with
  | (C, v1) => okO n v0 10 ∧ ((C v0.toNat 10 < v1 → (Q 0 C)) ∧ (¬ C v0.toNat 10 < v1 → (∃ f_16 : Nat, lp (B_G_searches_22 n v0 v1 kz12 Q) f_16 (C, 0))))
theorem bB_G_searches_12 (n : Nat) (v0 : Int) (Q : Int → Cn → Prop) (kz12 : Cn × Int → Prop) (hkz12 : ∀ (Cz : Cn) (z1 : Int), kz12 (Cz, z1) → AW p l e R s m args below meth c E M_G_searches true (fun r C2 n2 => n2 = n ∧ Q r C2) n 0 0 12 [(2, v0), (0, z1), (9, 0), (9, 0)] [] Cz) (C : Cn) (v1 : Int) (h : B_G_searches_12 n v0 Q kz12 (C, v1)) : AW p l e R s m args below meth c E M_G_searches true (fun r C2 n2 => n2 = n ∧ Q r C2) n 0 0 12 [(2, v0), (0, v1), (9, 0), (9, 0)] [] C := by
  unfold B_G_searches_12 at h
  dsimp only at h
  refine AW.iload_n (dc hd_G_searches 8 rfl) rfl ?_
  refine AW.ra_n (dc hd_G_searches 9 rfl) rfl rfl rfl ?_
  obtain ⟨g_4, h⟩ := h
  refine AW.getf fl_10_221 (dc hd_G_searches 10 rfl) g_4 ?_
  refine AW.icmp_gt (t := 73) (dc hd_G_searches 11 rfl) (by decide) (fun c_5 => ?_) (fun c_5 => ?_)
  · have h := h.1 c_5
    exact AW.vret (dc hd_G_searches 41 rfl) rfl rfl (Nat.le_of_ble_eq_true rfl) (Nat.le_of_ble_eq_true rfl) ⟨rfl, h⟩
  · have h := h.2 c_5
    refine AW.iconst (dc hd_G_searches 12 rfl) (by decide) ?_
    refine AW.istore_n [(2, v0), (0, v1), (0, 0), (9, 0)] (dc hd_G_searches 13 rfl) (Nat.le_of_ble_eq_true rfl) rfl rfl ?_
    obtain ⟨f_16, h⟩ := h
    exact aB_G_searches_22 n v0 v1 kz12 Q hkz12 f_16 (C, 0) h
theorem aB_G_searches_12 (n : Nat) (v0 : Int) (Q : Int → Cn → Prop) : ∀ (f : Nat) (z : Cn × Int), lp (B_G_searches_12 n v0 Q) f z → AW p l e R s m args below meth c E M_G_searches true (fun r C2 n2 => n2 = n ∧ Q r C2) n 0 0 12 [(2, v0), (0, z.2), (9, 0), (9, 0)] [] (z.1) := by
  intro f
  induction f with
  | zero => intro z h; exact False.elim h
  | succ f ih => intro z h; exact bB_G_searches_12 n v0 Q (lp (B_G_searches_12 n v0 Q) f) (fun a0 a1 h => ih (a0, a1) h) z.1 z.2 h
def P_G_searches (n : Nat) (C : Cn) (v0 : Int) (Q : Int → Cn → Prop) : Prop :=
  okO n v0 10 ∧ (∀ C_2 : Cn, C_2 = wr C v0.toNat 28 0 → (∀ C_3 : Cn, C_3 = wr C_2 v0.toNat 29 0 → (∃ f_17 : Nat, lp (B_G_searches_12 n v0 Q) f_17 (C_3, 0))))
theorem m_G_searches (l : Launch) (E : Ev) (n : Nat) (C : Cn) (v0 : Int) (Q : Int → Cn → Prop) (h : P_G_searches n C v0 Q) : MA l y_G_searches M_G_searches E true C n [(2, v0)] (fun r C2 n2 => n2 = n ∧ Q r C2) := by
  refine MA.of (by decide) rfl rfl 3 rfl (fun p e s m args below meth c => ?_)
  show AW p l e _ s m args below meth c E M_G_searches true _ n 0 0 0 [(2, v0), (9, 0), (9, 0), (9, 0)] [] C
  unfold P_G_searches at h
  refine AW.ra_n (dc hd_G_searches 0 rfl) rfl rfl rfl ?_
  refine AW.iconst (dc hd_G_searches 1 rfl) (by decide) ?_
  obtain ⟨g_1, h⟩ := h
  refine AW.nputI fl_10_316 (dc hd_G_searches 2 rfl) g_1 (fun C_2 eC_2 => ?_)
  have h := h C_2 eC_2
  refine AW.ra_n (dc hd_G_searches 3 rfl) rfl rfl rfl ?_
  refine AW.iconst (dc hd_G_searches 4 rfl) (by decide) ?_
  refine AW.nputI fl_10_319 (dc hd_G_searches 5 rfl) g_1 (fun C_3 eC_3 => ?_)
  have h := h C_3 eC_3
  refine AW.iconst (dc hd_G_searches 6 rfl) (by decide) ?_
  refine AW.istore_n [(2, v0), (0, 0), (9, 0), (9, 0)] (dc hd_G_searches 7 rfl) (Nat.le_of_ble_eq_true rfl) rfl rfl ?_
  obtain ⟨f_17, h⟩ := h
  exact aB_G_searches_12 n v0 Q f_17 (C_3, 0) h
def J_G_depth_43 (n : Nat) (C : Cn) (s0 : Int) (Q : Int → Cn → Prop) : Prop :=
  Q s0 C
theorem aJ_G_depth_43 (n : Nat) (C : Cn) (s0 : Int) (Q : Int → Cn → Prop) (h : J_G_depth_43 n C s0 Q) : AW p l e R s m args below meth c E M_G_depth true (fun r C2 n2 => n2 = n ∧ Q r C2) n 0 0 43 [(9, 0), (9, 0)] [(0, s0)] C := by
  unfold J_G_depth_43 at h
  exact AW.iret (dc hd_G_depth 23 rfl) rfl rfl (Nat.le_of_ble_eq_true rfl) (Nat.le_of_ble_eq_true rfl) ⟨rfl, h⟩
def P_G_depth (n : Nat) (C : Cn) (v0 v1 : Int) (Q : Int → Cn → Prop) : Prop :=
  P_G_in n C v1 0 1 (fun (r_1 : Int) => (r_1 = 0 → (okO n v0 10 ∧ (P_G_finds n C v0 0 (fun (r_20 : Int) (C_22 : Cn) => Q r_20 C_22)))) ∧ (¬ r_1 = 0 → (okO n v0 10 ∧ (P_G_maps n C v0 (fun (_ : Int) (C_7 : Cn) => P_G_asNumbered n C_7 v0 (fun (_ : Int) (C_11 : Cn) => P_G_searches n C_11 v0 (fun (_ : Int) (C_15 : Cn) => J_G_depth_43 n C_15 (if v1 = 0 then C_15 v0.toNat 28 else C_15 v0.toNat 29) Q)))))))
theorem m_G_depth (l : Launch) (E : Ev) (n : Nat) (C : Cn) (v0 v1 : Int) (Q : Int → Cn → Prop) (h : P_G_depth n C v0 v1 Q) : MA l y_G_depth M_G_depth E true C n [(2, v0), (0, v1)] (fun r C2 n2 => n2 = n ∧ Q r C2) := by
  refine MA.of (by decide) rfl rfl 0 rfl (fun p e s m args below meth c => ?_)
  show AW p l e _ s m args below meth c E M_G_depth true _ n 0 0 0 [(2, v0), (0, v1)] [] C
  unfold P_G_depth at h
  refine AW.iload_n (dc hd_G_depth 0 rfl) rfl ?_
  refine AW.i2l (dc hd_G_depth 1 rfl) ?_
  refine AW.lconst (v := 0) (dc hd_G_depth 2 rfl) (by decide) (by decide +kernel) ?_
  refine AW.lconst (v := 1) (dc hd_G_depth 3 rfl) (by decide) (by decide +kernel) ?_
  refine AW.callS (As := [(1, v1), (1, 0), (1, 1)]) (rest := []) (m_G_in l E n C v1 0 1 _ h) cb_10_113 sm_G_in (dc hd_G_depth 4 rfl) rfl rfl ⟨Nat.le_of_ble_eq_true rfl, Nat.le_of_ble_eq_true rfl⟩ ⟨(Nat.le_of_ble_eq_true rfl), (Nat.le_of_ble_eq_true rfl)⟩ (Nat.le_of_ble_eq_true rfl) (fun _ h => by cases h) (fun _ => rfl) (fun r_1 D_3 d_4 q_2 => ?_)
  obtain ⟨q_2a, q_2b, h⟩ := q_2
  subst D_3
  subst d_4
  show AW p l e _ s m args below meth c E M_G_depth true _ n _ _ _ [(2, v0), (0, v1)] [(0, r_1)] C
  refine AW.if_ne (t := 16) (dc hd_G_depth 5 rfl) (by decide) (fun c_5 => ?_) (fun c_5 => ?_)
  · have h := h.2 c_5
    refine AW.ra_n (dc hd_G_depth 10 rfl) rfl rfl rfl ?_
    obtain ⟨g_6, h⟩ := h
    refine AW.callV (As := []) (rest := []) (ci := 10) (m_G_maps l E n C v0 _ h) cb_10_211 im_G_maps se_G_maps ⟨_, _, rfl⟩ (by decide) (dc hd_G_depth 11 rfl) g_6 rfl rfl ⟨Nat.le_of_ble_eq_true rfl, Nat.le_of_ble_eq_true rfl⟩ ⟨(Nat.le_of_ble_eq_true rfl), (Nat.le_of_ble_eq_true rfl)⟩ (Nat.le_of_ble_eq_true rfl) (fun _ h => by cases h) (fun _ => rfl) (fun u_9 C_7 d_10 q_8 => ?_)
    obtain ⟨q_8a, h⟩ := q_8
    subst d_10
    show AW p l e _ s m args below meth c E M_G_depth true _ n _ _ _ [(2, v0), (0, v1)] [] C_7
    refine AW.ra_n (dc hd_G_depth 12 rfl) rfl rfl rfl ?_
    refine AW.callV (As := []) (rest := []) (ci := 10) (m_G_asNumbered l E n C_7 v0 _ h) cb_10_310 im_G_asNumbered se_G_asNumbered ⟨_, _, rfl⟩ (by decide) (dc hd_G_depth 13 rfl) g_6 rfl rfl ⟨Nat.le_of_ble_eq_true rfl, Nat.le_of_ble_eq_true rfl⟩ ⟨(Nat.le_of_ble_eq_true rfl), (Nat.le_of_ble_eq_true rfl)⟩ (Nat.le_of_ble_eq_true rfl) (fun _ h => by cases h) (fun _ => rfl) (fun u_13 C_11 d_14 q_12 => ?_)
    obtain ⟨q_12a, h⟩ := q_12
    subst d_14
    show AW p l e _ s m args below meth c E M_G_depth true _ n _ _ _ [(2, v0), (0, v1)] [] C_11
    refine AW.ra_n (dc hd_G_depth 14 rfl) rfl rfl rfl ?_
    refine AW.callV (As := []) (rest := []) (ci := 10) (m_G_searches l E n C_11 v0 _ h) cb_10_322 im_G_searches se_G_searches ⟨_, _, rfl⟩ (by decide) (dc hd_G_depth 15 rfl) g_6 rfl rfl ⟨Nat.le_of_ble_eq_true rfl, Nat.le_of_ble_eq_true rfl⟩ ⟨(Nat.le_of_ble_eq_true rfl), (Nat.le_of_ble_eq_true rfl)⟩ (Nat.le_of_ble_eq_true rfl) (fun _ h => by cases h) (fun _ => rfl) (fun u_17 C_15 d_18 q_16 => ?_)
    obtain ⟨q_16a, h⟩ := q_16
    subst d_18
    show AW p l e _ s m args below meth c E M_G_depth true _ n _ _ _ [(2, v0), (0, v1)] [] C_15
    refine AW.iload_n (dc hd_G_depth 16 rfl) rfl ?_
    refine AW.if_ne (t := 39) (dc hd_G_depth 17 rfl) (by decide) (fun c_19 => ?_) (fun c_19 => ?_)
    · simp only [if_neg c_19] at h
      refine AW.ra_n (dc hd_G_depth 21 rfl) rfl rfl rfl ?_
      refine AW.getf fl_10_319 (dc hd_G_depth 22 rfl) g_6 ?_
      refine AW.fgt [(9, 0), (9, 0)] ⟨.inr rfl, .inr rfl, trivial⟩ ?_
      exact aJ_G_depth_43 n C_15 _ Q h
    · simp only [if_pos c_19] at h
      refine AW.ra_n (dc hd_G_depth 18 rfl) rfl rfl rfl ?_
      refine AW.getf fl_10_316 (dc hd_G_depth 19 rfl) g_6 ?_
      refine AW.goto (t := 43) (dc hd_G_depth 20 rfl) (by decide) ?_
      refine AW.fgt [(9, 0), (9, 0)] ⟨.inr rfl, .inr rfl, trivial⟩ ?_
      exact aJ_G_depth_43 n C_15 _ Q h
  · have h := h.1 c_5
    refine AW.ra_n (dc hd_G_depth 6 rfl) rfl rfl rfl ?_
    refine AW.iconst (dc hd_G_depth 7 rfl) (by decide) ?_
    obtain ⟨g_21, h⟩ := h
    refine AW.callV (As := [(0, 0)]) (rest := []) (ci := 10) (m_G_finds l E n C v0 0 _ h) cb_10_186 im_G_finds se_G_finds ⟨_, _, rfl⟩ (by decide) (dc hd_G_depth 8 rfl) g_21 rfl rfl ⟨Nat.le_of_ble_eq_true rfl, Nat.le_of_ble_eq_true rfl⟩ ⟨(Nat.le_of_ble_eq_true rfl), (Nat.le_of_ble_eq_true rfl)⟩ (Nat.le_of_ble_eq_true rfl) (fun _ h => by cases h) (fun _ => rfl) (fun r_20 C_22 d_24 q_23 => ?_)
    obtain ⟨q_23a, h⟩ := q_23
    subst d_24
    show AW p l e _ s m args below meth c E M_G_depth true _ n _ _ _ [(2, v0), (0, v1)] [(0, r_20)] C_22
    exact AW.iret (dc hd_G_depth 9 rfl) rfl rfl (Nat.le_of_ble_eq_true rfl) (Nat.le_of_ble_eq_true rfl) ⟨rfl, h⟩
def B_G_orders_4 (n : Nat) (C : Cn) (v0 : Int) (Q : Int → Prop) (kz4 : Int × Int → Prop) (z : Int × Int) : Prop := match z with
  | (v1, v2) => okO n v0 10 ∧ ((C v0.toNat 0 < v2 → (Q v1)) ∧ (¬ C v0.toNat 0 < v2 → (kz4 (w32 (v1 * v2), w32 (v2 + 1)))))
theorem bB_G_orders_4 (n : Nat) (C : Cn) (v0 : Int) (Q : Int → Prop) (kz4 : Int × Int → Prop) (hkz4 : ∀ (z1 : Int) (z2 : Int), kz4 (z1, z2) → AW p l e R s m args below meth c E M_G_orders true (fun r C2 n2 => C2 = C ∧ n2 = n ∧ Q r) n 0 0 4 [(2, v0), (0, z1), (0, z2)] [] C) (v1 : Int) (v2 : Int) (h : B_G_orders_4 n C v0 Q kz4 (v1, v2)) : AW p l e R s m args below meth c E M_G_orders true (fun r C2 n2 => C2 = C ∧ n2 = n ∧ Q r) n 0 0 4 [(2, v0), (0, v1), (0, v2)] [] C := by
  unfold B_G_orders_4 at h
  dsimp only at h
  refine AW.iload_n (dc hd_G_orders 4 rfl) rfl ?_
  refine AW.ra_n (dc hd_G_orders 5 rfl) rfl rfl rfl ?_
  obtain ⟨g_1, h⟩ := h
  refine AW.getf fl_10_117 (dc hd_G_orders 6 rfl) g_1 ?_
  refine AW.icmp_gt (t := 22) (dc hd_G_orders 7 rfl) (by decide) (fun c_2 => ?_) (fun c_2 => ?_)
  · have h := h.1 c_2
    refine AW.iload_n (dc hd_G_orders 14 rfl) rfl ?_
    exact AW.iret (dc hd_G_orders 15 rfl) rfl rfl (Nat.le_of_ble_eq_true rfl) (Nat.le_of_ble_eq_true rfl) ⟨rfl, rfl, h⟩
  · have h := h.2 c_2
    refine AW.iload_n (dc hd_G_orders 8 rfl) rfl ?_
    refine AW.iload_n (dc hd_G_orders 9 rfl) rfl ?_
    refine AW.imul (dc hd_G_orders 10 rfl) ?_
    refine AW.istore_n [(2, v0), (0, w32 (v1 * v2)), (0, v2)] (dc hd_G_orders 11 rfl) (Nat.le_of_ble_eq_true rfl) rfl rfl ?_
    refine AW.iinc [(2, v0), (0, w32 (v1 * v2)), (0, w32 (v2 + 1))] (dc hd_G_orders 12 rfl) rfl (Nat.le_of_ble_eq_true rfl) rfl rfl ?_
    refine AW.goto (t := 4) (dc hd_G_orders 13 rfl) (by decide) ?_
    exact hkz4 (w32 (v1 * v2)) (w32 (v2 + 1)) h
theorem aB_G_orders_4 (n : Nat) (C : Cn) (v0 : Int) (Q : Int → Prop) : ∀ (f : Nat) (z : Int × Int), lp (B_G_orders_4 n C v0 Q) f z → AW p l e R s m args below meth c E M_G_orders true (fun r C2 n2 => C2 = C ∧ n2 = n ∧ Q r) n 0 0 4 [(2, v0), (0, z.1), (0, z.2)] [] C := by
  intro f
  induction f with
  | zero => intro z h; exact False.elim h
  | succ f ih => intro z h; exact bB_G_orders_4 n C v0 Q (lp (B_G_orders_4 n C v0 Q) f) (fun a0 a1 h => ih (a0, a1) h) z.1 z.2 h
def P_G_orders (n : Nat) (C : Cn) (v0 : Int) (Q : Int → Prop) : Prop :=
  ∃ f_3 : Nat, lp (B_G_orders_4 n C v0 Q) f_3 (1, 2)
theorem m_G_orders (l : Launch) (E : Ev) (n : Nat) (C : Cn) (v0 : Int) (Q : Int → Prop) (h : P_G_orders n C v0 Q) : MA l y_G_orders M_G_orders E true C n [(2, v0)] (fun r C2 n2 => C2 = C ∧ n2 = n ∧ Q r) := by
  refine MA.of (by decide) rfl rfl 2 rfl (fun p e s m args below meth c => ?_)
  show AW p l e _ s m args below meth c E M_G_orders true _ n 0 0 0 [(2, v0), (9, 0), (9, 0)] [] C
  unfold P_G_orders at h
  refine AW.iconst (dc hd_G_orders 0 rfl) (by decide) ?_
  refine AW.istore_n [(2, v0), (0, 1), (9, 0)] (dc hd_G_orders 1 rfl) (Nat.le_of_ble_eq_true rfl) rfl rfl ?_
  refine AW.iconst (dc hd_G_orders 2 rfl) (by decide) ?_
  refine AW.istore_n [(2, v0), (0, 1), (0, 2)] (dc hd_G_orders 3 rfl) (Nat.le_of_ble_eq_true rfl) rfl rfl ?_
  obtain ⟨f_3, h⟩ := h
  exact aB_G_orders_4 n C v0 Q f_3 (1, 2) h
def J_G_laysOrder_69 (n : Nat) (C : Cn) (v0 v2 v3 v4 v5 v6 v7 : Int) (kz20 : Cn × Int × Int × Int × Int → Prop) (kz55 : Int × Int → Prop) (Q : Int → Cn → Prop) : Prop :=
  ∀ v6_19 : Int, v6_19 = w32 (v6 - (and32 (shr32 v2 v7) 1)) → (kz55 (v6_19, w32 (v7 + 1)))
theorem aJ_G_laysOrder_69 (n : Nat) (C : Cn) (v0 v2 v3 v4 v5 v6 v7 : Int) (kz20 : Cn × Int × Int × Int × Int → Prop) (kz55 : Int × Int → Prop) (Q : Int → Cn → Prop) (hkz20 : ∀ (Cz : Cn) (z2 : Int) (z3 : Int) (z4 : Int) (z5 : Int), kz20 (Cz, z2, z3, z4, z5) → AW p l e R s m args below meth c E M_G_laysOrder true (fun r C2 n2 => n2 = n ∧ Q r C2) n 0 0 20 [(2, v0), (9, 0), (0, z2), (0, z3), (0, z4), (0, z5), (9, 0), (9, 0)] [] Cz) (hkz55 : ∀ (z6 : Int) (z7 : Int), kz55 (z6, z7) → AW p l e R s m args below meth c E M_G_laysOrder true (fun r C2 n2 => n2 = n ∧ Q r C2) n 0 0 55 [(2, v0), (9, 0), (0, v2), (0, v3), (0, v4), (0, v5), (0, z6), (0, z7)] [] C) (h : J_G_laysOrder_69 n C v0 v2 v3 v4 v5 v6 v7 kz20 kz55 Q) : AW p l e R s m args below meth c E M_G_laysOrder true (fun r C2 n2 => n2 = n ∧ Q r C2) n 0 0 69 [(2, v0), (9, 0), (0, v2), (0, v3), (0, v4), (0, v5), (0, v6), (0, v7)] [] C := by
  unfold J_G_laysOrder_69 at h
  refine AW.iload (dc hd_G_laysOrder 41 rfl) rfl ?_
  refine AW.iload_n (dc hd_G_laysOrder 42 rfl) rfl ?_
  refine AW.iload (dc hd_G_laysOrder 43 rfl) rfl ?_
  refine AW.ishr (dc hd_G_laysOrder 44 rfl) ?_
  refine AW.iconst (dc hd_G_laysOrder 45 rfl) (by decide) ?_
  refine AW.iand (dc hd_G_laysOrder 46 rfl) ?_
  refine AW.isub (dc hd_G_laysOrder 47 rfl) ?_
  refine AW.nm (fun v6_19 ev6_19 => ?_)
  have h := h v6_19 ev6_19
  refine AW.istore [(2, v0), (9, 0), (0, v2), (0, v3), (0, v4), (0, v5), (0, v6_19), (0, v7)] (dc hd_G_laysOrder 48 rfl) (Nat.le_of_ble_eq_true rfl) rfl rfl ?_
  refine AW.iinc [(2, v0), (9, 0), (0, v2), (0, v3), (0, v4), (0, v5), (0, v6_19), (0, w32 (v7 + 1))] (dc hd_G_laysOrder 49 rfl) rfl (Nat.le_of_ble_eq_true rfl) rfl rfl ?_
  refine AW.goto (t := 55) (dc hd_G_laysOrder 50 rfl) (by decide) ?_
  exact hkz55 v6_19 (w32 (v7 + 1)) h
def J_G_laysOrder_86 (n : Nat) (C : Cn) (v0 v2 v3 v4 v5 v7 : Int) (kz20 : Cn × Int × Int × Int × Int → Prop) (Q : Int → Cn → Prop) : Prop :=
  okO n v0 10 ∧ (okO n (PT v0.toNat 27) 12 ∧ (okI (PT v0.toNat 27) v5 ∧ (∀ C_24 : Cn, C_24 = wr C (PT v0.toNat 27).toNat v5.toNat v7 → (∀ v2_25 : Int, v2_25 = and32 v2 (xor32 (shl32 1 v7) (-1)) → (kz20 (C_24, v2_25, v3, v4, w32 (v5 + 1)))))))
theorem aJ_G_laysOrder_86 (n : Nat) (C : Cn) (v0 v2 v3 v4 v5 v7 : Int) (kz20 : Cn × Int × Int × Int × Int → Prop) (Q : Int → Cn → Prop) (hkz20 : ∀ (Cz : Cn) (z2 : Int) (z3 : Int) (z4 : Int) (z5 : Int), kz20 (Cz, z2, z3, z4, z5) → AW p l e R s m args below meth c E M_G_laysOrder true (fun r C2 n2 => n2 = n ∧ Q r C2) n 0 0 20 [(2, v0), (9, 0), (0, z2), (0, z3), (0, z4), (0, z5), (9, 0), (9, 0)] [] Cz) (h : J_G_laysOrder_86 n C v0 v2 v3 v4 v5 v7 kz20 Q) : AW p l e R s m args below meth c E M_G_laysOrder true (fun r C2 n2 => n2 = n ∧ Q r C2) n 0 0 86 [(2, v0), (9, 0), (0, v2), (0, v3), (0, v4), (0, v5), (9, 0), (0, v7)] [] C := by
  unfold J_G_laysOrder_86 at h
  refine AW.ra_n (dc hd_G_laysOrder 51 rfl) rfl rfl rfl ?_
  obtain ⟨g_21, h⟩ := h
  refine AW.getp fl_10_61 (dc hd_G_laysOrder 52 rfl) g_21 rfl ?_
  refine AW.iload (dc hd_G_laysOrder 53 rfl) rfl ?_
  refine AW.iload (dc hd_G_laysOrder 54 rfl) rfl ?_
  obtain ⟨g_22, h⟩ := h
  obtain ⟨g_23, h⟩ := h
  refine AW.niast (dc hd_G_laysOrder 55 rfl) g_22 g_23 (fun C_24 eC_24 => ?_)
  have h := h C_24 eC_24
  refine AW.iload_n (dc hd_G_laysOrder 56 rfl) rfl ?_
  refine AW.iconst (dc hd_G_laysOrder 57 rfl) (by decide) ?_
  refine AW.iload (dc hd_G_laysOrder 58 rfl) rfl ?_
  refine AW.ishl (dc hd_G_laysOrder 59 rfl) ?_
  refine AW.iconst (dc hd_G_laysOrder 60 rfl) (by decide) ?_
  refine AW.ixor (dc hd_G_laysOrder 61 rfl) ?_
  refine AW.iand (dc hd_G_laysOrder 62 rfl) ?_
  refine AW.nm (fun v2_25 ev2_25 => ?_)
  have h := h v2_25 ev2_25
  refine AW.istore_n [(2, v0), (9, 0), (0, v2_25), (0, v3), (0, v4), (0, v5), (9, 0), (0, v7)] (dc hd_G_laysOrder 63 rfl) (Nat.le_of_ble_eq_true rfl) rfl rfl ?_
  refine AW.iinc [(2, v0), (9, 0), (0, v2_25), (0, v3), (0, v4), (0, w32 (v5 + 1)), (9, 0), (0, v7)] (dc hd_G_laysOrder 64 rfl) rfl (Nat.le_of_ble_eq_true rfl) rfl rfl ?_
  refine AW.goto (t := 20) (dc hd_G_laysOrder 65 rfl) (by decide) ?_
  refine AW.fgt [(2, v0), (9, 0), (0, v2_25), (0, v3), (0, v4), (0, w32 (v5 + 1)), (9, 0), (9, 0)] ⟨.inl rfl, .inl rfl, .inl rfl, .inl rfl, .inl rfl, .inl rfl, .inl rfl, .inr rfl, trivial⟩ ?_
  exact hkz20 C_24 v2_25 v3 v4 (w32 (v5 + 1)) h
def B_G_laysOrder_55 (n : Nat) (C : Cn) (v0 v2 v3 v4 v5 : Int) (kz20 : Cn × Int × Int × Int × Int → Prop) (Q : Int → Cn → Prop) (kz55 : Int × Int → Prop) (z : Int × Int) : Prop := match z with
  | (v6, v7) => P_G_has n C v2 v7 (fun (r_14 : Int) => (r_14 = 0 → (J_G_laysOrder_69 n C v0 v2 v3 v4 v5 v6 v7 kz20 kz55 Q)) ∧ (¬ r_14 = 0 → ((v6 ≤ 0 → (J_G_laysOrder_86 n C v0 v2 v3 v4 v5 v7 kz20 Q)) ∧ (¬ v6 ≤ 0 → (J_G_laysOrder_69 n C v0 v2 v3 v4 v5 v6 v7 kz20 kz55 Q)))))
theorem bB_G_laysOrder_55 (n : Nat) (C : Cn) (v0 v2 v3 v4 v5 : Int) (kz20 : Cn × Int × Int × Int × Int → Prop) (Q : Int → Cn → Prop) (hkz20 : ∀ (Cz : Cn) (z2 : Int) (z3 : Int) (z4 : Int) (z5 : Int), kz20 (Cz, z2, z3, z4, z5) → AW p l e R s m args below meth c E M_G_laysOrder true (fun r C2 n2 => n2 = n ∧ Q r C2) n 0 0 20 [(2, v0), (9, 0), (0, z2), (0, z3), (0, z4), (0, z5), (9, 0), (9, 0)] [] Cz) (kz55 : Int × Int → Prop) (hkz55 : ∀ (z6 : Int) (z7 : Int), kz55 (z6, z7) → AW p l e R s m args below meth c E M_G_laysOrder true (fun r C2 n2 => n2 = n ∧ Q r C2) n 0 0 55 [(2, v0), (9, 0), (0, v2), (0, v3), (0, v4), (0, v5), (0, z6), (0, z7)] [] C) (v6 : Int) (v7 : Int) (h : B_G_laysOrder_55 n C v0 v2 v3 v4 v5 kz20 Q kz55 (v6, v7)) : AW p l e R s m args below meth c E M_G_laysOrder true (fun r C2 n2 => n2 = n ∧ Q r C2) n 0 0 55 [(2, v0), (9, 0), (0, v2), (0, v3), (0, v4), (0, v5), (0, v6), (0, v7)] [] C := by
  unfold B_G_laysOrder_55 at h
  dsimp only at h
  refine AW.iload_n (dc hd_G_laysOrder 35 rfl) rfl ?_
  refine AW.iload (dc hd_G_laysOrder 36 rfl) rfl ?_
  refine AW.callS (As := [(0, v2), (0, v7)]) (rest := []) (m_G_has l E n C v2 v7 _ h) cb_10_293 sm_G_has (dc hd_G_laysOrder 37 rfl) rfl rfl ⟨Nat.le_of_ble_eq_true rfl, Nat.le_of_ble_eq_true rfl⟩ ⟨(Nat.le_of_ble_eq_true rfl), (Nat.le_of_ble_eq_true rfl)⟩ (Nat.le_of_ble_eq_true rfl) (fun _ h => by cases h) (fun _ => rfl) (fun r_14 D_16 d_17 q_15 => ?_)
  obtain ⟨q_15a, q_15b, h⟩ := q_15
  subst D_16
  subst d_17
  show AW p l e _ s m args below meth c E M_G_laysOrder true _ n _ _ _ [(2, v0), (9, 0), (0, v2), (0, v3), (0, v4), (0, v5), (0, v6), (0, v7)] [(0, r_14)] C
  refine AW.if_eq (t := 69) (dc hd_G_laysOrder 38 rfl) (by decide) (fun c_18 => ?_) (fun c_18 => ?_)
  · have h := h.1 c_18
    exact aJ_G_laysOrder_69 n C v0 v2 v3 v4 v5 v6 v7 kz20 kz55 Q hkz20 hkz55 h
  · have h := h.2 c_18
    refine AW.iload (dc hd_G_laysOrder 39 rfl) rfl ?_
    refine AW.if_le (t := 86) (dc hd_G_laysOrder 40 rfl) (by decide) (fun c_20 => ?_) (fun c_20 => ?_)
    · have h := h.1 c_20
      refine AW.fgt [(2, v0), (9, 0), (0, v2), (0, v3), (0, v4), (0, v5), (9, 0), (0, v7)] ⟨.inl rfl, .inl rfl, .inl rfl, .inl rfl, .inl rfl, .inl rfl, .inr rfl, .inl rfl, trivial⟩ ?_
      exact aJ_G_laysOrder_86 n C v0 v2 v3 v4 v5 v7 kz20 Q hkz20 h
    · have h := h.2 c_20
      exact aJ_G_laysOrder_69 n C v0 v2 v3 v4 v5 v6 v7 kz20 kz55 Q hkz20 hkz55 h
theorem aB_G_laysOrder_55 (n : Nat) (C : Cn) (v0 v2 v3 v4 v5 : Int) (kz20 : Cn × Int × Int × Int × Int → Prop) (Q : Int → Cn → Prop) (hkz20 : ∀ (Cz : Cn) (z2 : Int) (z3 : Int) (z4 : Int) (z5 : Int), kz20 (Cz, z2, z3, z4, z5) → AW p l e R s m args below meth c E M_G_laysOrder true (fun r C2 n2 => n2 = n ∧ Q r C2) n 0 0 20 [(2, v0), (9, 0), (0, z2), (0, z3), (0, z4), (0, z5), (9, 0), (9, 0)] [] Cz) : ∀ (f : Nat) (z : Int × Int), lp (B_G_laysOrder_55 n C v0 v2 v3 v4 v5 kz20 Q) f z → AW p l e R s m args below meth c E M_G_laysOrder true (fun r C2 n2 => n2 = n ∧ Q r C2) n 0 0 55 [(2, v0), (9, 0), (0, v2), (0, v3), (0, v4), (0, v5), (0, z.1), (0, z.2)] [] C := by
  intro f
  induction f with
  | zero => intro z h; exact False.elim h
  | succ f ih => intro z h; exact bB_G_laysOrder_55 n C v0 v2 v3 v4 v5 kz20 Q hkz20 (lp (B_G_laysOrder_55 n C v0 v2 v3 v4 v5 kz20 Q) f) (fun a0 a1 h => ih (a0, a1) h) z.1 z.2 h
def B_G_laysOrder_20 (n : Nat) (v0 : Int) (Q : Int → Cn → Prop) (kz20 : Cn × Int × Int × Int × Int → Prop) (z : Cn × Int × Int × Int × Int) : Prop := match z with
  | (C, v2, v3, v4, v5) => okO n v0 10 ∧ ((C v0.toNat 0 ≤ v5 → (Q 0 C)) ∧ (¬ C v0.toNat 0 ≤ v5 → (w32 (C v0.toNat 0 - v5) ≠ 0 ∧ (∀ v4_10 : Int, v4_10 = w32 (Int.tdiv v4 (w32 (C v0.toNat 0 - v5))) → (v4_10 ≠ 0 ∧ (∀ v6_12 : Int, v6_12 = w32 (Int.tdiv v3 v4_10) → (∀ v3_13 : Int, v3_13 = w32 (Int.tmod v3 v4_10) → (∃ f_26 : Nat, lp (B_G_laysOrder_55 n C v0 v2 v3_13 v4_10 v5 kz20 Q) f_26 (v6_12, 0)))))))))
theorem bB_G_laysOrder_20 (n : Nat) (v0 : Int) (Q : Int → Cn → Prop) (kz20 : Cn × Int × Int × Int × Int → Prop) (hkz20 : ∀ (Cz : Cn) (z2 : Int) (z3 : Int) (z4 : Int) (z5 : Int), kz20 (Cz, z2, z3, z4, z5) → AW p l e R s m args below meth c E M_G_laysOrder true (fun r C2 n2 => n2 = n ∧ Q r C2) n 0 0 20 [(2, v0), (9, 0), (0, z2), (0, z3), (0, z4), (0, z5), (9, 0), (9, 0)] [] Cz) (C : Cn) (v2 : Int) (v3 : Int) (v4 : Int) (v5 : Int) (h : B_G_laysOrder_20 n v0 Q kz20 (C, v2, v3, v4, v5)) : AW p l e R s m args below meth c E M_G_laysOrder true (fun r C2 n2 => n2 = n ∧ Q r C2) n 0 0 20 [(2, v0), (9, 0), (0, v2), (0, v3), (0, v4), (0, v5), (9, 0), (9, 0)] [] C := by
  unfold B_G_laysOrder_20 at h
  dsimp only at h
  refine AW.iload (dc hd_G_laysOrder 14 rfl) rfl ?_
  refine AW.ra_n (dc hd_G_laysOrder 15 rfl) rfl rfl rfl ?_
  obtain ⟨g_7, h⟩ := h
  refine AW.getf fl_10_117 (dc hd_G_laysOrder 16 rfl) g_7 ?_
  refine AW.icmp_ge (t := 110) (dc hd_G_laysOrder 17 rfl) (by decide) (fun c_8 => ?_) (fun c_8 => ?_)
  · have h := h.1 c_8
    exact AW.vret (dc hd_G_laysOrder 66 rfl) rfl rfl (Nat.le_of_ble_eq_true rfl) (Nat.le_of_ble_eq_true rfl) ⟨rfl, h⟩
  · have h := h.2 c_8
    refine AW.iload (dc hd_G_laysOrder 18 rfl) rfl ?_
    refine AW.ra_n (dc hd_G_laysOrder 19 rfl) rfl rfl rfl ?_
    refine AW.getf fl_10_117 (dc hd_G_laysOrder 20 rfl) g_7 ?_
    refine AW.iload (dc hd_G_laysOrder 21 rfl) rfl ?_
    refine AW.isub (dc hd_G_laysOrder 22 rfl) ?_
    obtain ⟨g_9, h⟩ := h
    refine AW.idiv (dc hd_G_laysOrder 23 rfl) g_9 ?_
    refine AW.nm (fun v4_10 ev4_10 => ?_)
    have h := h v4_10 ev4_10
    refine AW.istore [(2, v0), (9, 0), (0, v2), (0, v3), (0, v4_10), (0, v5), (9, 0), (9, 0)] (dc hd_G_laysOrder 24 rfl) (Nat.le_of_ble_eq_true rfl) rfl rfl ?_
    refine AW.iload_n (dc hd_G_laysOrder 25 rfl) rfl ?_
    refine AW.iload (dc hd_G_laysOrder 26 rfl) rfl ?_
    obtain ⟨g_11, h⟩ := h
    refine AW.idiv (dc hd_G_laysOrder 27 rfl) g_11 ?_
    refine AW.nm (fun v6_12 ev6_12 => ?_)
    have h := h v6_12 ev6_12
    refine AW.istore [(2, v0), (9, 0), (0, v2), (0, v3), (0, v4_10), (0, v5), (0, v6_12), (9, 0)] (dc hd_G_laysOrder 28 rfl) (Nat.le_of_ble_eq_true rfl) rfl rfl ?_
    refine AW.iload_n (dc hd_G_laysOrder 29 rfl) rfl ?_
    refine AW.iload (dc hd_G_laysOrder 30 rfl) rfl ?_
    refine AW.irem (dc hd_G_laysOrder 31 rfl) g_11 ?_
    refine AW.nm (fun v3_13 ev3_13 => ?_)
    have h := h v3_13 ev3_13
    refine AW.istore_n [(2, v0), (9, 0), (0, v2), (0, v3_13), (0, v4_10), (0, v5), (0, v6_12), (9, 0)] (dc hd_G_laysOrder 32 rfl) (Nat.le_of_ble_eq_true rfl) rfl rfl ?_
    refine AW.iconst (dc hd_G_laysOrder 33 rfl) (by decide) ?_
    refine AW.istore [(2, v0), (9, 0), (0, v2), (0, v3_13), (0, v4_10), (0, v5), (0, v6_12), (0, 0)] (dc hd_G_laysOrder 34 rfl) (Nat.le_of_ble_eq_true rfl) rfl rfl ?_
    obtain ⟨f_26, h⟩ := h
    exact aB_G_laysOrder_55 n C v0 v2 v3_13 v4_10 v5 kz20 Q hkz20 f_26 (v6_12, 0) h
theorem aB_G_laysOrder_20 (n : Nat) (v0 : Int) (Q : Int → Cn → Prop) : ∀ (f : Nat) (z : Cn × Int × Int × Int × Int), lp (B_G_laysOrder_20 n v0 Q) f z → AW p l e R s m args below meth c E M_G_laysOrder true (fun r C2 n2 => n2 = n ∧ Q r C2) n 0 0 20 [(2, v0), (9, 0), (0, z.2.1), (0, z.2.2.1), (0, z.2.2.2.1), (0, z.2.2.2.2), (9, 0), (9, 0)] [] (z.1) := by
  intro f
  induction f with
  | zero => intro z h; exact False.elim h
  | succ f ih => intro z h; exact bB_G_laysOrder_20 n v0 Q (lp (B_G_laysOrder_20 n v0 Q) f) (fun a0 a1 a2 a3 a4 h => ih (a0, a1, a2, a3, a4) h) z.1 z.2.1 z.2.2.1 z.2.2.2.1 z.2.2.2.2 h
def P_G_laysOrder (n : Nat) (C : Cn) (v0 v1 : Int) (Q : Int → Cn → Prop) : Prop :=
  okO n v0 10 ∧ (∀ v2_2 : Int, v2_2 = w32 (shl32 1 (C v0.toNat 0) - 1) → (P_G_orders n C v0 (fun (r_3 : Int) => ∃ f_27 : Nat, lp (B_G_laysOrder_20 n v0 Q) f_27 (C, v2_2, v1, r_3, 0))))
theorem m_G_laysOrder (l : Launch) (E : Ev) (n : Nat) (C : Cn) (v0 v1 : Int) (Q : Int → Cn → Prop) (h : P_G_laysOrder n C v0 v1 Q) : MA l y_G_laysOrder M_G_laysOrder E true C n [(2, v0), (0, v1)] (fun r C2 n2 => n2 = n ∧ Q r C2) := by
  refine MA.of (by decide) rfl rfl 6 rfl (fun p e s m args below meth c => ?_)
  show AW p l e _ s m args below meth c E M_G_laysOrder true _ n 0 0 0 [(2, v0), (0, v1), (9, 0), (9, 0), (9, 0), (9, 0), (9, 0), (9, 0)] [] C
  unfold P_G_laysOrder at h
  refine AW.iconst (dc hd_G_laysOrder 0 rfl) (by decide) ?_
  refine AW.ra_n (dc hd_G_laysOrder 1 rfl) rfl rfl rfl ?_
  obtain ⟨g_1, h⟩ := h
  refine AW.getf fl_10_117 (dc hd_G_laysOrder 2 rfl) g_1 ?_
  refine AW.ishl (dc hd_G_laysOrder 3 rfl) ?_
  refine AW.iconst (dc hd_G_laysOrder 4 rfl) (by decide) ?_
  refine AW.isub (dc hd_G_laysOrder 5 rfl) ?_
  refine AW.nm (fun v2_2 ev2_2 => ?_)
  have h := h v2_2 ev2_2
  refine AW.istore_n [(2, v0), (0, v1), (0, v2_2), (9, 0), (9, 0), (9, 0), (9, 0), (9, 0)] (dc hd_G_laysOrder 6 rfl) (Nat.le_of_ble_eq_true rfl) rfl rfl ?_
  refine AW.iload_n (dc hd_G_laysOrder 7 rfl) rfl ?_
  refine AW.istore_n [(2, v0), (0, v1), (0, v2_2), (0, v1), (9, 0), (9, 0), (9, 0), (9, 0)] (dc hd_G_laysOrder 8 rfl) (Nat.le_of_ble_eq_true rfl) rfl rfl ?_
  refine AW.ra_n (dc hd_G_laysOrder 9 rfl) rfl rfl rfl ?_
  refine AW.callV (As := []) (rest := []) (ci := 10) (m_G_orders l E n C v0 _ h) cb_10_325 im_G_orders se_G_orders ⟨_, _, rfl⟩ (by decide) (dc hd_G_laysOrder 10 rfl) g_1 rfl rfl ⟨Nat.le_of_ble_eq_true rfl, Nat.le_of_ble_eq_true rfl⟩ ⟨(Nat.le_of_ble_eq_true rfl), (Nat.le_of_ble_eq_true rfl)⟩ (Nat.le_of_ble_eq_true rfl) (fun _ h => by cases h) (fun _ => rfl) (fun r_3 D_5 d_6 q_4 => ?_)
  obtain ⟨q_4a, q_4b, h⟩ := q_4
  subst D_5
  subst d_6
  show AW p l e _ s m args below meth c E M_G_laysOrder true _ n _ _ _ [(2, v0), (0, v1), (0, v2_2), (0, v1), (9, 0), (9, 0), (9, 0), (9, 0)] [(0, r_3)] C
  refine AW.istore [(2, v0), (0, v1), (0, v2_2), (0, v1), (0, r_3), (9, 0), (9, 0), (9, 0)] (dc hd_G_laysOrder 11 rfl) (Nat.le_of_ble_eq_true rfl) rfl rfl ?_
  refine AW.iconst (dc hd_G_laysOrder 12 rfl) (by decide) ?_
  refine AW.istore [(2, v0), (0, v1), (0, v2_2), (0, v1), (0, r_3), (0, 0), (9, 0), (9, 0)] (dc hd_G_laysOrder 13 rfl) (Nat.le_of_ble_eq_true rfl) rfl rfl ?_
  obtain ⟨f_27, h⟩ := h
  refine AW.fgt [(2, v0), (9, 0), (0, v2_2), (0, v1), (0, r_3), (0, 0), (9, 0), (9, 0)] ⟨.inl rfl, .inr rfl, .inl rfl, .inl rfl, .inl rfl, .inl rfl, .inl rfl, .inl rfl, trivial⟩ ?_
  exact aB_G_laysOrder_20 n v0 Q f_27 (C, v2_2, v1, r_3, 0) h
def J_G_ordered_95 (n : Nat) (C : Cn) (s0 : Int) (Q : Int → Cn → Prop) : Prop :=
  Q s0 C
theorem aJ_G_ordered_95 (n : Nat) (C : Cn) (s0 : Int) (Q : Int → Cn → Prop) (h : J_G_ordered_95 n C s0 Q) : AW p l e R s m args below meth c E M_G_ordered true (fun r C2 n2 => n2 = n ∧ Q r C2) n 0 0 95 [(9, 0), (9, 0), (9, 0)] [(0, s0)] C := by
  unfold J_G_ordered_95 at h
  exact AW.iret (dc hd_G_ordered 54 rfl) rfl rfl (Nat.le_of_ble_eq_true rfl) (Nat.le_of_ble_eq_true rfl) ⟨rfl, h⟩
def J_G_ordered_51 (n : Nat) (C : Cn) (v0 v1 v2 : Int) (Q : Int → Cn → Prop) : Prop :=
  okO n v0 10 ∧ (P_G_laysOrder n C v0 v1 (fun (_ : Int) (C_21 : Cn) => (v2 ≤ 9 → (P_G_maps n C_21 v0 (fun (_ : Int) (C_26 : Cn) => P_G_searches n C_26 v0 (fun (_ : Int) (C_30 : Cn) => J_G_ordered_95 n C_30 (if v2 = 0 then C_30 v0.toNat 28 else C_30 v0.toNat 29) Q)))) ∧ (¬ v2 ≤ 9 → (okO n (PT v0.toNat 27) 12 ∧ (okI (PT v0.toNat 27) (w32 (v2 - 10)) ∧ (Q (C_21 (PT v0.toNat 27).toNat (w32 (v2 - 10)).toNat) C_21))))))
theorem aJ_G_ordered_51 (n : Nat) (C : Cn) (v0 v1 v2 : Int) (Q : Int → Cn → Prop) (h : J_G_ordered_51 n C v0 v1 v2 Q) : AW p l e R s m args below meth c E M_G_ordered true (fun r C2 n2 => n2 = n ∧ Q r C2) n 0 0 51 [(2, v0), (0, v1), (0, v2)] [] C := by
  unfold J_G_ordered_51 at h
  refine AW.ra_n (dc hd_G_ordered 30 rfl) rfl rfl rfl ?_
  refine AW.iload_n (dc hd_G_ordered 31 rfl) rfl ?_
  obtain ⟨g_20, h⟩ := h
  refine AW.callV (As := [(0, v1)]) (rest := []) (ci := 10) (m_G_laysOrder l E n C v0 v1 _ h) cb_10_330 im_G_laysOrder se_G_laysOrder ⟨_, _, rfl⟩ (by decide) (dc hd_G_ordered 32 rfl) g_20 rfl rfl ⟨Nat.le_of_ble_eq_true rfl, Nat.le_of_ble_eq_true rfl⟩ ⟨(Nat.le_of_ble_eq_true rfl), (Nat.le_of_ble_eq_true rfl)⟩ (Nat.le_of_ble_eq_true rfl) (fun _ h => by cases h) (fun _ => rfl) (fun u_23 C_21 d_24 q_22 => ?_)
  obtain ⟨q_22a, h⟩ := q_22
  subst d_24
  show AW p l e _ s m args below meth c E M_G_ordered true _ n _ _ _ [(2, v0), (0, v1), (0, v2)] [] C_21
  refine AW.iload_n (dc hd_G_ordered 33 rfl) rfl ?_
  refine AW.bipush (dc hd_G_ordered 34 rfl) (by decide) (by decide +kernel) ?_
  refine AW.icmp_le (t := 72) (dc hd_G_ordered 35 rfl) (by decide) (fun c_25 => ?_) (fun c_25 => ?_)
  · have h := h.1 c_25
    refine AW.ra_n (dc hd_G_ordered 43 rfl) rfl rfl rfl ?_
    refine AW.callV (As := []) (rest := []) (ci := 10) (m_G_maps l E n C_21 v0 _ h) cb_10_211 im_G_maps se_G_maps ⟨_, _, rfl⟩ (by decide) (dc hd_G_ordered 44 rfl) g_20 rfl rfl ⟨Nat.le_of_ble_eq_true rfl, Nat.le_of_ble_eq_true rfl⟩ ⟨(Nat.le_of_ble_eq_true rfl), (Nat.le_of_ble_eq_true rfl)⟩ (Nat.le_of_ble_eq_true rfl) (fun _ h => by cases h) (fun _ => rfl) (fun u_28 C_26 d_29 q_27 => ?_)
    obtain ⟨q_27a, h⟩ := q_27
    subst d_29
    show AW p l e _ s m args below meth c E M_G_ordered true _ n _ _ _ [(2, v0), (0, v1), (0, v2)] [] C_26
    refine AW.ra_n (dc hd_G_ordered 45 rfl) rfl rfl rfl ?_
    refine AW.callV (As := []) (rest := []) (ci := 10) (m_G_searches l E n C_26 v0 _ h) cb_10_322 im_G_searches se_G_searches ⟨_, _, rfl⟩ (by decide) (dc hd_G_ordered 46 rfl) g_20 rfl rfl ⟨Nat.le_of_ble_eq_true rfl, Nat.le_of_ble_eq_true rfl⟩ ⟨(Nat.le_of_ble_eq_true rfl), (Nat.le_of_ble_eq_true rfl)⟩ (Nat.le_of_ble_eq_true rfl) (fun _ h => by cases h) (fun _ => rfl) (fun u_32 C_30 d_33 q_31 => ?_)
    obtain ⟨q_31a, h⟩ := q_31
    subst d_33
    show AW p l e _ s m args below meth c E M_G_ordered true _ n _ _ _ [(2, v0), (0, v1), (0, v2)] [] C_30
    refine AW.iload_n (dc hd_G_ordered 47 rfl) rfl ?_
    refine AW.if_ne (t := 91) (dc hd_G_ordered 48 rfl) (by decide) (fun c_34 => ?_) (fun c_34 => ?_)
    · simp only [if_neg c_34] at h
      refine AW.ra_n (dc hd_G_ordered 52 rfl) rfl rfl rfl ?_
      refine AW.getf fl_10_319 (dc hd_G_ordered 53 rfl) g_20 ?_
      refine AW.fgt [(9, 0), (9, 0), (9, 0)] ⟨.inr rfl, .inr rfl, .inr rfl, trivial⟩ ?_
      exact aJ_G_ordered_95 n C_30 _ Q h
    · simp only [if_pos c_34] at h
      refine AW.ra_n (dc hd_G_ordered 49 rfl) rfl rfl rfl ?_
      refine AW.getf fl_10_316 (dc hd_G_ordered 50 rfl) g_20 ?_
      refine AW.goto (t := 95) (dc hd_G_ordered 51 rfl) (by decide) ?_
      refine AW.fgt [(9, 0), (9, 0), (9, 0)] ⟨.inr rfl, .inr rfl, .inr rfl, trivial⟩ ?_
      exact aJ_G_ordered_95 n C_30 _ Q h
  · have h := h.2 c_25
    refine AW.ra_n (dc hd_G_ordered 36 rfl) rfl rfl rfl ?_
    refine AW.getp fl_10_61 (dc hd_G_ordered 37 rfl) g_20 rfl ?_
    refine AW.iload_n (dc hd_G_ordered 38 rfl) rfl ?_
    refine AW.bipush (dc hd_G_ordered 39 rfl) (by decide) (by decide +kernel) ?_
    refine AW.isub (dc hd_G_ordered 40 rfl) ?_
    obtain ⟨g_35, h⟩ := h
    obtain ⟨g_36, h⟩ := h
    refine AW.iald (dc hd_G_ordered 41 rfl) g_35 g_36 ?_
    exact AW.iret (dc hd_G_ordered 42 rfl) rfl rfl (Nat.le_of_ble_eq_true rfl) (Nat.le_of_ble_eq_true rfl) ⟨rfl, h⟩
def P_G_ordered (n : Nat) (C : Cn) (v0 v1 v2 : Int) (Q : Int → Cn → Prop) : Prop :=
  okO n v0 10 ∧ (P_G_orders n C v0 (fun (r_1 : Int) => P_G_in n C v1 0 (w32 (r_1 - 1)) (fun (r_6 : Int) => (r_6 = 0 → (P_G_finds n C v0 0 (fun (r_11 : Int) (C_12 : Cn) => Q r_11 C_12))) ∧ (¬ r_6 = 0 → (P_G_in n C v2 0 1 (fun (r_15 : Int) => (r_15 = 0 → (P_G_in n C v2 10 (w32 (9 + C v0.toNat 0)) (fun (r_37 : Int) => (r_37 = 0 → (P_G_finds n C v0 0 (fun (r_42 : Int) (C_43 : Cn) => Q r_42 C_43))) ∧ (¬ r_37 = 0 → (J_G_ordered_51 n C v0 v1 v2 Q))))) ∧ (¬ r_15 = 0 → (J_G_ordered_51 n C v0 v1 v2 Q))))))))
theorem m_G_ordered (l : Launch) (E : Ev) (n : Nat) (C : Cn) (v0 v1 v2 : Int) (Q : Int → Cn → Prop) (h : P_G_ordered n C v0 v1 v2 Q) : MA l y_G_ordered M_G_ordered E true C n [(2, v0), (0, v1), (0, v2)] (fun r C2 n2 => n2 = n ∧ Q r C2) := by
  refine MA.of (by decide) rfl rfl 0 rfl (fun p e s m args below meth c => ?_)
  show AW p l e _ s m args below meth c E M_G_ordered true _ n 0 0 0 [(2, v0), (0, v1), (0, v2)] [] C
  unfold P_G_ordered at h
  refine AW.iload_n (dc hd_G_ordered 0 rfl) rfl ?_
  refine AW.i2l (dc hd_G_ordered 1 rfl) ?_
  refine AW.lconst (v := 0) (dc hd_G_ordered 2 rfl) (by decide) (by decide +kernel) ?_
  refine AW.ra_n (dc hd_G_ordered 3 rfl) rfl rfl rfl ?_
  obtain ⟨g_2, h⟩ := h
  refine AW.callV (As := []) (rest := [(1, 0), (1, v1)]) (ci := 10) (m_G_orders l E n C v0 _ h) cb_10_325 im_G_orders se_G_orders ⟨_, _, rfl⟩ (by decide) (dc hd_G_ordered 4 rfl) g_2 rfl rfl ⟨Nat.le_of_ble_eq_true rfl, Nat.le_of_ble_eq_true rfl⟩ ⟨(Nat.le_of_ble_eq_true rfl), (Nat.le_of_ble_eq_true rfl)⟩ (Nat.le_of_ble_eq_true rfl) (fun _ h => by cases h) (fun _ => rfl) (fun r_1 D_4 d_5 q_3 => ?_)
  obtain ⟨q_3a, q_3b, h⟩ := q_3
  subst D_4
  subst d_5
  show AW p l e _ s m args below meth c E M_G_ordered true _ n _ _ _ [(2, v0), (0, v1), (0, v2)] [(0, r_1), (1, 0), (1, v1)] C
  refine AW.iconst (dc hd_G_ordered 5 rfl) (by decide) ?_
  refine AW.isub (dc hd_G_ordered 6 rfl) ?_
  refine AW.i2l (dc hd_G_ordered 7 rfl) ?_
  refine AW.callS (As := [(1, v1), (1, 0), (1, w32 (r_1 - 1))]) (rest := []) (m_G_in l E n C v1 0 (w32 (r_1 - 1)) _ h) cb_10_113 sm_G_in (dc hd_G_ordered 8 rfl) rfl rfl ⟨Nat.le_of_ble_eq_true rfl, Nat.le_of_ble_eq_true rfl⟩ ⟨(Nat.le_of_ble_eq_true rfl), (Nat.le_of_ble_eq_true rfl)⟩ (Nat.le_of_ble_eq_true rfl) (fun _ h => by cases h) (fun _ => rfl) (fun r_6 D_8 d_9 q_7 => ?_)
  obtain ⟨q_7a, q_7b, h⟩ := q_7
  subst D_8
  subst d_9
  show AW p l e _ s m args below meth c E M_G_ordered true _ n _ _ _ [(2, v0), (0, v1), (0, v2)] [(0, r_6)] C
  refine AW.if_eq (t := 45) (dc hd_G_ordered 9 rfl) (by decide) (fun c_10 => ?_) (fun c_10 => ?_)
  · have h := h.1 c_10
    refine AW.ra_n (dc hd_G_ordered 26 rfl) rfl rfl rfl ?_
    refine AW.iconst (dc hd_G_ordered 27 rfl) (by decide) ?_
    refine AW.callV (As := [(0, 0)]) (rest := []) (ci := 10) (m_G_finds l E n C v0 0 _ h) cb_10_186 im_G_finds se_G_finds ⟨_, _, rfl⟩ (by decide) (dc hd_G_ordered 28 rfl) g_2 rfl rfl ⟨Nat.le_of_ble_eq_true rfl, Nat.le_of_ble_eq_true rfl⟩ ⟨(Nat.le_of_ble_eq_true rfl), (Nat.le_of_ble_eq_true rfl)⟩ (Nat.le_of_ble_eq_true rfl) (fun _ h => by cases h) (fun _ => rfl) (fun r_11 C_12 d_14 q_13 => ?_)
    obtain ⟨q_13a, h⟩ := q_13
    subst d_14
    show AW p l e _ s m args below meth c E M_G_ordered true _ n _ _ _ [(2, v0), (0, v1), (0, v2)] [(0, r_11)] C_12
    exact AW.iret (dc hd_G_ordered 29 rfl) rfl rfl (Nat.le_of_ble_eq_true rfl) (Nat.le_of_ble_eq_true rfl) ⟨rfl, h⟩
  · have h := h.2 c_10
    refine AW.iload_n (dc hd_G_ordered 10 rfl) rfl ?_
    refine AW.i2l (dc hd_G_ordered 11 rfl) ?_
    refine AW.lconst (v := 0) (dc hd_G_ordered 12 rfl) (by decide) (by decide +kernel) ?_
    refine AW.lconst (v := 1) (dc hd_G_ordered 13 rfl) (by decide) (by decide +kernel) ?_
    refine AW.callS (As := [(1, v2), (1, 0), (1, 1)]) (rest := []) (m_G_in l E n C v2 0 1 _ h) cb_10_113 sm_G_in (dc hd_G_ordered 14 rfl) rfl rfl ⟨Nat.le_of_ble_eq_true rfl, Nat.le_of_ble_eq_true rfl⟩ ⟨(Nat.le_of_ble_eq_true rfl), (Nat.le_of_ble_eq_true rfl)⟩ (Nat.le_of_ble_eq_true rfl) (fun _ h => by cases h) (fun _ => rfl) (fun r_15 D_17 d_18 q_16 => ?_)
    obtain ⟨q_16a, q_16b, h⟩ := q_16
    subst D_17
    subst d_18
    show AW p l e _ s m args below meth c E M_G_ordered true _ n _ _ _ [(2, v0), (0, v1), (0, v2)] [(0, r_15)] C
    refine AW.if_ne (t := 51) (dc hd_G_ordered 15 rfl) (by decide) (fun c_19 => ?_) (fun c_19 => ?_)
    · have h := h.2 c_19
      exact aJ_G_ordered_51 n C v0 v1 v2 Q h
    · have h := h.1 c_19
      refine AW.iload_n (dc hd_G_ordered 16 rfl) rfl ?_
      refine AW.i2l (dc hd_G_ordered 17 rfl) ?_
      refine AW.ldc2 (v := 10) (dc hd_G_ordered 18 rfl) ck_10_328 (by decide) rfl ?_
      refine AW.bipush (dc hd_G_ordered 19 rfl) (by decide) (by decide +kernel) ?_
      refine AW.ra_n (dc hd_G_ordered 20 rfl) rfl rfl rfl ?_
      refine AW.getf fl_10_117 (dc hd_G_ordered 21 rfl) g_2 ?_
      refine AW.iadd (dc hd_G_ordered 22 rfl) ?_
      refine AW.i2l (dc hd_G_ordered 23 rfl) ?_
      refine AW.callS (As := [(1, v2), (1, 10), (1, w32 (9 + C v0.toNat 0))]) (rest := []) (m_G_in l E n C v2 10 (w32 (9 + C v0.toNat 0)) _ h) cb_10_113 sm_G_in (dc hd_G_ordered 24 rfl) rfl rfl ⟨Nat.le_of_ble_eq_true rfl, Nat.le_of_ble_eq_true rfl⟩ ⟨(Nat.le_of_ble_eq_true rfl), (Nat.le_of_ble_eq_true rfl)⟩ (Nat.le_of_ble_eq_true rfl) (fun _ h => by cases h) (fun _ => rfl) (fun r_37 D_39 d_40 q_38 => ?_)
      obtain ⟨q_38a, q_38b, h⟩ := q_38
      subst D_39
      subst d_40
      show AW p l e _ s m args below meth c E M_G_ordered true _ n _ _ _ [(2, v0), (0, v1), (0, v2)] [(0, r_37)] C
      refine AW.if_ne (t := 51) (dc hd_G_ordered 25 rfl) (by decide) (fun c_41 => ?_) (fun c_41 => ?_)
      · have h := h.2 c_41
        exact aJ_G_ordered_51 n C v0 v1 v2 Q h
      · have h := h.1 c_41
        refine AW.ra_n (dc hd_G_ordered 26 rfl) rfl rfl rfl ?_
        refine AW.iconst (dc hd_G_ordered 27 rfl) (by decide) ?_
        refine AW.callV (As := [(0, 0)]) (rest := []) (ci := 10) (m_G_finds l E n C v0 0 _ h) cb_10_186 im_G_finds se_G_finds ⟨_, _, rfl⟩ (by decide) (dc hd_G_ordered 28 rfl) g_2 rfl rfl ⟨Nat.le_of_ble_eq_true rfl, Nat.le_of_ble_eq_true rfl⟩ ⟨(Nat.le_of_ble_eq_true rfl), (Nat.le_of_ble_eq_true rfl)⟩ (Nat.le_of_ble_eq_true rfl) (fun _ h => by cases h) (fun _ => rfl) (fun r_42 C_43 d_45 q_44 => ?_)
        obtain ⟨q_44a, h⟩ := q_44
        subst d_45
        show AW p l e _ s m args below meth c E M_G_ordered true _ n _ _ _ [(2, v0), (0, v1), (0, v2)] [(0, r_42)] C_43
        exact AW.iret (dc hd_G_ordered 29 rfl) rfl rfl (Nat.le_of_ble_eq_true rfl) (Nat.le_of_ble_eq_true rfl) ⟨rfl, h⟩
def B_G_tellsAll_41 (n : Nat) (v0 v1 v2 v3 v4 : Int) (kz4 : Cn × Int × Int → Prop) (kz14 : Cn × Int × Int → Prop) (kz27 : Cn × Int → Prop) (Q : Int → Cn → Prop) (kz41 : Cn × Int → Prop) (z : Cn × Int) : Prop := match z with
  | (C, v5) => okO n v0 10 ∧ ((C v0.toNat 0 ≤ v5 → (kz27 (C, w32 (v4 + 1)))) ∧ (¬ C v0.toNat 0 ≤ v5 → (okO n (PT v0.toNat 30) 17 ∧ (okI (PT v0.toNat 30) v1 ∧ (P_G_has n C v4 v5 (fun (r_13 : Int) => (r_13 = 0 → (P_G_stepsOf n C v0 v2 v3 v4 v5 (fun (r_18 : Int) (C_19 : Cn) => okO n (PT (PT v0.toNat 30).toNat v1.toNat) 12 ∧ (okI (PT (PT v0.toNat 30).toNat v1.toNat) (w32 (w32 (6 * v4) + v5)) ∧ (∀ C_24 : Cn, C_24 = wr C_19 (PT (PT v0.toNat 30).toNat v1.toNat).toNat (w32 (w32 (6 * v4) + v5)).toNat r_18 → (kz41 (C_24, w32 (v5 + 1)))))))) ∧ (¬ r_13 = 0 → (okO n (PT (PT v0.toNat 30).toNat v1.toNat) 12 ∧ (okI (PT (PT v0.toNat 30).toNat v1.toNat) (w32 (w32 (6 * v4) + v5)) ∧ (∀ C_27 : Cn, C_27 = wr C (PT (PT v0.toNat 30).toNat v1.toNat).toNat (w32 (w32 (6 * v4) + v5)).toNat 0 → (kz41 (C_27, w32 (v5 + 1)))))))))))))
theorem bB_G_tellsAll_41 (n : Nat) (v0 v1 v2 v3 v4 : Int) (kz4 : Cn × Int × Int → Prop) (kz14 : Cn × Int × Int → Prop) (kz27 : Cn × Int → Prop) (Q : Int → Cn → Prop) (hkz4 : ∀ (Cz : Cn) (z1 : Int) (z2 : Int), kz4 (Cz, z1, z2) → AW p l e R s m args below meth c E M_G_tellsAll true (fun r C2 n2 => n2 = n ∧ Q r C2) n 0 0 4 [(2, v0), (0, z1), (0, z2), (9, 0), (9, 0), (9, 0)] [] Cz) (hkz14 : ∀ (Cz : Cn) (z1 : Int) (z3 : Int), kz14 (Cz, z1, z3) → AW p l e R s m args below meth c E M_G_tellsAll true (fun r C2 n2 => n2 = n ∧ Q r C2) n 0 0 14 [(2, v0), (0, z1), (0, v2), (0, z3), (9, 0), (9, 0)] [] Cz) (hkz27 : ∀ (Cz : Cn) (z4 : Int), kz27 (Cz, z4) → AW p l e R s m args below meth c E M_G_tellsAll true (fun r C2 n2 => n2 = n ∧ Q r C2) n 0 0 27 [(2, v0), (0, v1), (0, v2), (0, v3), (0, z4), (9, 0)] [] Cz) (kz41 : Cn × Int → Prop) (hkz41 : ∀ (Cz : Cn) (z5 : Int), kz41 (Cz, z5) → AW p l e R s m args below meth c E M_G_tellsAll true (fun r C2 n2 => n2 = n ∧ Q r C2) n 0 0 41 [(2, v0), (0, v1), (0, v2), (0, v3), (0, v4), (0, z5)] [] Cz) (C : Cn) (v5 : Int) (h : B_G_tellsAll_41 n v0 v1 v2 v3 v4 kz4 kz14 kz27 Q kz41 (C, v5)) : AW p l e R s m args below meth c E M_G_tellsAll true (fun r C2 n2 => n2 = n ∧ Q r C2) n 0 0 41 [(2, v0), (0, v1), (0, v2), (0, v3), (0, v4), (0, v5)] [] C := by
  unfold B_G_tellsAll_41 at h
  dsimp only at h
  refine AW.iload (dc hd_G_tellsAll 26 rfl) rfl ?_
  refine AW.ra_n (dc hd_G_tellsAll 27 rfl) rfl rfl rfl ?_
  obtain ⟨g_9, h⟩ := h
  refine AW.getf fl_10_117 (dc hd_G_tellsAll 28 rfl) g_9 ?_
  refine AW.icmp_ge (t := 95) (dc hd_G_tellsAll 29 rfl) (by decide) (fun c_10 => ?_) (fun c_10 => ?_)
  · have h := h.1 c_10
    refine AW.iinc [(2, v0), (0, v1), (0, v2), (0, v3), (0, w32 (v4 + 1)), (0, v5)] (dc hd_G_tellsAll 54 rfl) rfl (Nat.le_of_ble_eq_true rfl) rfl rfl ?_
    refine AW.goto (t := 27) (dc hd_G_tellsAll 55 rfl) (by decide) ?_
    refine AW.fgt [(2, v0), (0, v1), (0, v2), (0, v3), (0, w32 (v4 + 1)), (9, 0)] ⟨.inl rfl, .inl rfl, .inl rfl, .inl rfl, .inl rfl, .inr rfl, trivial⟩ ?_
    exact hkz27 C (w32 (v4 + 1)) h
  · have h := h.2 c_10
    refine AW.ra_n (dc hd_G_tellsAll 30 rfl) rfl rfl rfl ?_
    refine AW.getp fl_10_64 (dc hd_G_tellsAll 31 rfl) g_9 rfl ?_
    refine AW.iload_n (dc hd_G_tellsAll 32 rfl) rfl ?_
    obtain ⟨g_11, h⟩ := h
    obtain ⟨g_12, h⟩ := h
    refine AW.aaldp (by decide) (dc hd_G_tellsAll 33 rfl) g_11 g_12 rfl ?_
    refine AW.bipush (dc hd_G_tellsAll 34 rfl) (by decide) (by decide +kernel) ?_
    refine AW.iload (dc hd_G_tellsAll 35 rfl) rfl ?_
    refine AW.imul (dc hd_G_tellsAll 36 rfl) ?_
    refine AW.iload (dc hd_G_tellsAll 37 rfl) rfl ?_
    refine AW.iadd (dc hd_G_tellsAll 38 rfl) ?_
    refine AW.iload (dc hd_G_tellsAll 39 rfl) rfl ?_
    refine AW.iload (dc hd_G_tellsAll 40 rfl) rfl ?_
    refine AW.callS (As := [(0, v4), (0, v5)]) (rest := [(0, w32 (w32 (6 * v4) + v5)), (2, PT (PT v0.toNat 30).toNat v1.toNat)]) (m_G_has l E n C v4 v5 _ h) cb_10_293 sm_G_has (dc hd_G_tellsAll 41 rfl) rfl rfl ⟨Nat.le_of_ble_eq_true rfl, Nat.le_of_ble_eq_true rfl⟩ ⟨(Nat.le_of_ble_eq_true rfl), (Nat.le_of_ble_eq_true rfl)⟩ (Nat.le_of_ble_eq_true rfl) (fun _ h => by cases h) (fun _ => rfl) (fun r_13 D_15 d_16 q_14 => ?_)
    obtain ⟨q_14a, q_14b, h⟩ := q_14
    subst D_15
    subst d_16
    show AW p l e _ s m args below meth c E M_G_tellsAll true _ n _ _ _ [(2, v0), (0, v1), (0, v2), (0, v3), (0, v4), (0, v5)] [(0, r_13), (0, w32 (w32 (6 * v4) + v5)), (2, PT (PT v0.toNat 30).toNat v1.toNat)] C
    refine AW.if_eq (t := 78) (dc hd_G_tellsAll 42 rfl) (by decide) (fun c_17 => ?_) (fun c_17 => ?_)
    · have h := h.1 c_17
      refine AW.ra_n (dc hd_G_tellsAll 45 rfl) rfl rfl rfl ?_
      refine AW.iload_n (dc hd_G_tellsAll 46 rfl) rfl ?_
      refine AW.iload_n (dc hd_G_tellsAll 47 rfl) rfl ?_
      refine AW.iload (dc hd_G_tellsAll 48 rfl) rfl ?_
      refine AW.iload (dc hd_G_tellsAll 49 rfl) rfl ?_
      refine AW.callV (As := [(0, v2), (0, v3), (0, v4), (0, v5)]) (rest := [(0, w32 (w32 (6 * v4) + v5)), (2, PT (PT v0.toNat 30).toNat v1.toNat)]) (ci := 10) (m_G_stepsOf l E n C v0 v2 v3 v4 v5 _ h) cb_10_306 im_G_stepsOf se_G_stepsOf ⟨_, _, rfl⟩ (by decide) (dc hd_G_tellsAll 50 rfl) g_9 rfl rfl ⟨Nat.le_of_ble_eq_true rfl, Nat.le_of_ble_eq_true rfl⟩ ⟨(Nat.le_of_ble_eq_true rfl), (Nat.le_of_ble_eq_true rfl)⟩ (Nat.le_of_ble_eq_true rfl) (fun _ h => by cases h) (fun _ => rfl) (fun r_18 C_19 d_21 q_20 => ?_)
      obtain ⟨q_20a, h⟩ := q_20
      subst d_21
      show AW p l e _ s m args below meth c E M_G_tellsAll true _ n _ _ _ [(2, v0), (0, v1), (0, v2), (0, v3), (0, v4), (0, v5)] [(0, r_18), (0, w32 (w32 (6 * v4) + v5)), (2, PT (PT v0.toNat 30).toNat v1.toNat)] C_19
      obtain ⟨g_22, h⟩ := h
      obtain ⟨g_23, h⟩ := h
      refine AW.niast (dc hd_G_tellsAll 51 rfl) g_22 g_23 (fun C_24 eC_24 => ?_)
      have h := h C_24 eC_24
      refine AW.iinc [(2, v0), (0, v1), (0, v2), (0, v3), (0, v4), (0, w32 (v5 + 1))] (dc hd_G_tellsAll 52 rfl) rfl (Nat.le_of_ble_eq_true rfl) rfl rfl ?_
      refine AW.goto (t := 41) (dc hd_G_tellsAll 53 rfl) (by decide) ?_
      exact hkz41 C_24 (w32 (v5 + 1)) h
    · have h := h.2 c_17
      refine AW.iconst (dc hd_G_tellsAll 43 rfl) (by decide) ?_
      refine AW.goto (t := 88) (dc hd_G_tellsAll 44 rfl) (by decide) ?_
      obtain ⟨g_25, h⟩ := h
      obtain ⟨g_26, h⟩ := h
      refine AW.niast (dc hd_G_tellsAll 51 rfl) g_25 g_26 (fun C_27 eC_27 => ?_)
      have h := h C_27 eC_27
      refine AW.iinc [(2, v0), (0, v1), (0, v2), (0, v3), (0, v4), (0, w32 (v5 + 1))] (dc hd_G_tellsAll 52 rfl) rfl (Nat.le_of_ble_eq_true rfl) rfl rfl ?_
      refine AW.goto (t := 41) (dc hd_G_tellsAll 53 rfl) (by decide) ?_
      exact hkz41 C_27 (w32 (v5 + 1)) h
theorem aB_G_tellsAll_41 (n : Nat) (v0 v1 v2 v3 v4 : Int) (kz4 : Cn × Int × Int → Prop) (kz14 : Cn × Int × Int → Prop) (kz27 : Cn × Int → Prop) (Q : Int → Cn → Prop) (hkz4 : ∀ (Cz : Cn) (z1 : Int) (z2 : Int), kz4 (Cz, z1, z2) → AW p l e R s m args below meth c E M_G_tellsAll true (fun r C2 n2 => n2 = n ∧ Q r C2) n 0 0 4 [(2, v0), (0, z1), (0, z2), (9, 0), (9, 0), (9, 0)] [] Cz) (hkz14 : ∀ (Cz : Cn) (z1 : Int) (z3 : Int), kz14 (Cz, z1, z3) → AW p l e R s m args below meth c E M_G_tellsAll true (fun r C2 n2 => n2 = n ∧ Q r C2) n 0 0 14 [(2, v0), (0, z1), (0, v2), (0, z3), (9, 0), (9, 0)] [] Cz) (hkz27 : ∀ (Cz : Cn) (z4 : Int), kz27 (Cz, z4) → AW p l e R s m args below meth c E M_G_tellsAll true (fun r C2 n2 => n2 = n ∧ Q r C2) n 0 0 27 [(2, v0), (0, v1), (0, v2), (0, v3), (0, z4), (9, 0)] [] Cz) : ∀ (f : Nat) (z : Cn × Int), lp (B_G_tellsAll_41 n v0 v1 v2 v3 v4 kz4 kz14 kz27 Q) f z → AW p l e R s m args below meth c E M_G_tellsAll true (fun r C2 n2 => n2 = n ∧ Q r C2) n 0 0 41 [(2, v0), (0, v1), (0, v2), (0, v3), (0, v4), (0, z.2)] [] (z.1) := by
  intro f
  induction f with
  | zero => intro z h; exact False.elim h
  | succ f ih => intro z h; exact bB_G_tellsAll_41 n v0 v1 v2 v3 v4 kz4 kz14 kz27 Q hkz4 hkz14 hkz27 (lp (B_G_tellsAll_41 n v0 v1 v2 v3 v4 kz4 kz14 kz27 Q) f) (fun a0 a1 h => ih (a0, a1) h) z.1 z.2 h
def B_G_tellsAll_27 (n : Nat) (v0 v1 v2 v3 : Int) (kz4 : Cn × Int × Int → Prop) (kz14 : Cn × Int × Int → Prop) (Q : Int → Cn → Prop) (kz27 : Cn × Int → Prop) (z : Cn × Int) : Prop := match z with
  | (C, v4) => okO n v0 10 ∧ ((shl32 1 (C v0.toNat 0) ≤ v4 → (kz14 (C, w32 (v1 + 1), w32 (v3 + 1)))) ∧ (¬ shl32 1 (C v0.toNat 0) ≤ v4 → (∃ f_28 : Nat, lp (B_G_tellsAll_41 n v0 v1 v2 v3 v4 kz4 kz14 kz27 Q) f_28 (C, 0))))
theorem bB_G_tellsAll_27 (n : Nat) (v0 v1 v2 v3 : Int) (kz4 : Cn × Int × Int → Prop) (kz14 : Cn × Int × Int → Prop) (Q : Int → Cn → Prop) (hkz4 : ∀ (Cz : Cn) (z1 : Int) (z2 : Int), kz4 (Cz, z1, z2) → AW p l e R s m args below meth c E M_G_tellsAll true (fun r C2 n2 => n2 = n ∧ Q r C2) n 0 0 4 [(2, v0), (0, z1), (0, z2), (9, 0), (9, 0), (9, 0)] [] Cz) (hkz14 : ∀ (Cz : Cn) (z1 : Int) (z3 : Int), kz14 (Cz, z1, z3) → AW p l e R s m args below meth c E M_G_tellsAll true (fun r C2 n2 => n2 = n ∧ Q r C2) n 0 0 14 [(2, v0), (0, z1), (0, v2), (0, z3), (9, 0), (9, 0)] [] Cz) (kz27 : Cn × Int → Prop) (hkz27 : ∀ (Cz : Cn) (z4 : Int), kz27 (Cz, z4) → AW p l e R s m args below meth c E M_G_tellsAll true (fun r C2 n2 => n2 = n ∧ Q r C2) n 0 0 27 [(2, v0), (0, v1), (0, v2), (0, v3), (0, z4), (9, 0)] [] Cz) (C : Cn) (v4 : Int) (h : B_G_tellsAll_27 n v0 v1 v2 v3 kz4 kz14 Q kz27 (C, v4)) : AW p l e R s m args below meth c E M_G_tellsAll true (fun r C2 n2 => n2 = n ∧ Q r C2) n 0 0 27 [(2, v0), (0, v1), (0, v2), (0, v3), (0, v4), (9, 0)] [] C := by
  unfold B_G_tellsAll_27 at h
  dsimp only at h
  refine AW.iload (dc hd_G_tellsAll 18 rfl) rfl ?_
  refine AW.iconst (dc hd_G_tellsAll 19 rfl) (by decide) ?_
  refine AW.ra_n (dc hd_G_tellsAll 20 rfl) rfl rfl rfl ?_
  obtain ⟨g_7, h⟩ := h
  refine AW.getf fl_10_117 (dc hd_G_tellsAll 21 rfl) g_7 ?_
  refine AW.ishl (dc hd_G_tellsAll 22 rfl) ?_
  refine AW.icmp_ge (t := 101) (dc hd_G_tellsAll 23 rfl) (by decide) (fun c_8 => ?_) (fun c_8 => ?_)
  · have h := h.1 c_8
    refine AW.iinc [(2, v0), (0, w32 (v1 + 1)), (0, v2), (0, v3), (0, v4), (9, 0)] (dc hd_G_tellsAll 56 rfl) rfl (Nat.le_of_ble_eq_true rfl) rfl rfl ?_
    refine AW.iinc [(2, v0), (0, w32 (v1 + 1)), (0, v2), (0, w32 (v3 + 1)), (0, v4), (9, 0)] (dc hd_G_tellsAll 57 rfl) rfl (Nat.le_of_ble_eq_true rfl) rfl rfl ?_
    refine AW.goto (t := 14) (dc hd_G_tellsAll 58 rfl) (by decide) ?_
    refine AW.fgt [(2, v0), (0, w32 (v1 + 1)), (0, v2), (0, w32 (v3 + 1)), (9, 0), (9, 0)] ⟨.inl rfl, .inl rfl, .inl rfl, .inl rfl, .inr rfl, .inl rfl, trivial⟩ ?_
    exact hkz14 C (w32 (v1 + 1)) (w32 (v3 + 1)) h
  · have h := h.2 c_8
    refine AW.iconst (dc hd_G_tellsAll 24 rfl) (by decide) ?_
    refine AW.istore [(2, v0), (0, v1), (0, v2), (0, v3), (0, v4), (0, 0)] (dc hd_G_tellsAll 25 rfl) (Nat.le_of_ble_eq_true rfl) rfl rfl ?_
    obtain ⟨f_28, h⟩ := h
    exact aB_G_tellsAll_41 n v0 v1 v2 v3 v4 kz4 kz14 kz27 Q hkz4 hkz14 hkz27 f_28 (C, 0) h
theorem aB_G_tellsAll_27 (n : Nat) (v0 v1 v2 v3 : Int) (kz4 : Cn × Int × Int → Prop) (kz14 : Cn × Int × Int → Prop) (Q : Int → Cn → Prop) (hkz4 : ∀ (Cz : Cn) (z1 : Int) (z2 : Int), kz4 (Cz, z1, z2) → AW p l e R s m args below meth c E M_G_tellsAll true (fun r C2 n2 => n2 = n ∧ Q r C2) n 0 0 4 [(2, v0), (0, z1), (0, z2), (9, 0), (9, 0), (9, 0)] [] Cz) (hkz14 : ∀ (Cz : Cn) (z1 : Int) (z3 : Int), kz14 (Cz, z1, z3) → AW p l e R s m args below meth c E M_G_tellsAll true (fun r C2 n2 => n2 = n ∧ Q r C2) n 0 0 14 [(2, v0), (0, z1), (0, v2), (0, z3), (9, 0), (9, 0)] [] Cz) : ∀ (f : Nat) (z : Cn × Int), lp (B_G_tellsAll_27 n v0 v1 v2 v3 kz4 kz14 Q) f z → AW p l e R s m args below meth c E M_G_tellsAll true (fun r C2 n2 => n2 = n ∧ Q r C2) n 0 0 27 [(2, v0), (0, v1), (0, v2), (0, v3), (0, z.2), (9, 0)] [] (z.1) := by
  intro f
  induction f with
  | zero => intro z h; exact False.elim h
  | succ f ih => intro z h; exact bB_G_tellsAll_27 n v0 v1 v2 v3 kz4 kz14 Q hkz4 hkz14 (lp (B_G_tellsAll_27 n v0 v1 v2 v3 kz4 kz14 Q) f) (fun a0 a1 h => ih (a0, a1) h) z.1 z.2 h
def B_G_tellsAll_14 (n : Nat) (v0 v2 : Int) (kz4 : Cn × Int × Int → Prop) (Q : Int → Cn → Prop) (kz14 : Cn × Int × Int → Prop) (z : Cn × Int × Int) : Prop := match z with
  | (C, v1, v3) => okO n v0 10 ∧ (okO n (PT v0.toNat 15) 12 ∧ (okI (PT v0.toNat 15) v2 ∧ ((C (PT v0.toNat 15).toNat v2.toNat < v3 → (kz4 (C, v1, w32 (v2 + 1)))) ∧ (¬ C (PT v0.toNat 15).toNat v2.toNat < v3 → (∃ f_29 : Nat, lp (B_G_tellsAll_27 n v0 v1 v2 v3 kz4 kz14 Q) f_29 (C, 0))))))
theorem bB_G_tellsAll_14 (n : Nat) (v0 v2 : Int) (kz4 : Cn × Int × Int → Prop) (Q : Int → Cn → Prop) (hkz4 : ∀ (Cz : Cn) (z1 : Int) (z2 : Int), kz4 (Cz, z1, z2) → AW p l e R s m args below meth c E M_G_tellsAll true (fun r C2 n2 => n2 = n ∧ Q r C2) n 0 0 4 [(2, v0), (0, z1), (0, z2), (9, 0), (9, 0), (9, 0)] [] Cz) (kz14 : Cn × Int × Int → Prop) (hkz14 : ∀ (Cz : Cn) (z1 : Int) (z3 : Int), kz14 (Cz, z1, z3) → AW p l e R s m args below meth c E M_G_tellsAll true (fun r C2 n2 => n2 = n ∧ Q r C2) n 0 0 14 [(2, v0), (0, z1), (0, v2), (0, z3), (9, 0), (9, 0)] [] Cz) (C : Cn) (v1 : Int) (v3 : Int) (h : B_G_tellsAll_14 n v0 v2 kz4 Q kz14 (C, v1, v3)) : AW p l e R s m args below meth c E M_G_tellsAll true (fun r C2 n2 => n2 = n ∧ Q r C2) n 0 0 14 [(2, v0), (0, v1), (0, v2), (0, v3), (9, 0), (9, 0)] [] C := by
  unfold B_G_tellsAll_14 at h
  dsimp only at h
  refine AW.iload_n (dc hd_G_tellsAll 10 rfl) rfl ?_
  refine AW.ra_n (dc hd_G_tellsAll 11 rfl) rfl rfl rfl ?_
  obtain ⟨g_3, h⟩ := h
  refine AW.getp fl_10_40 (dc hd_G_tellsAll 12 rfl) g_3 rfl ?_
  refine AW.iload_n (dc hd_G_tellsAll 13 rfl) rfl ?_
  obtain ⟨g_4, h⟩ := h
  obtain ⟨g_5, h⟩ := h
  refine AW.iald (dc hd_G_tellsAll 14 rfl) g_4 g_5 ?_
  refine AW.icmp_gt (t := 110) (dc hd_G_tellsAll 15 rfl) (by decide) (fun c_6 => ?_) (fun c_6 => ?_)
  · have h := h.1 c_6
    refine AW.iinc [(2, v0), (0, v1), (0, w32 (v2 + 1)), (0, v3), (9, 0), (9, 0)] (dc hd_G_tellsAll 59 rfl) rfl (Nat.le_of_ble_eq_true rfl) rfl rfl ?_
    refine AW.goto (t := 4) (dc hd_G_tellsAll 60 rfl) (by decide) ?_
    refine AW.fgt [(2, v0), (0, v1), (0, w32 (v2 + 1)), (9, 0), (9, 0), (9, 0)] ⟨.inl rfl, .inl rfl, .inl rfl, .inr rfl, .inl rfl, .inl rfl, trivial⟩ ?_
    exact hkz4 C v1 (w32 (v2 + 1)) h
  · have h := h.2 c_6
    refine AW.iconst (dc hd_G_tellsAll 16 rfl) (by decide) ?_
    refine AW.istore [(2, v0), (0, v1), (0, v2), (0, v3), (0, 0), (9, 0)] (dc hd_G_tellsAll 17 rfl) (Nat.le_of_ble_eq_true rfl) rfl rfl ?_
    obtain ⟨f_29, h⟩ := h
    exact aB_G_tellsAll_27 n v0 v1 v2 v3 kz4 kz14 Q hkz4 hkz14 f_29 (C, 0) h
theorem aB_G_tellsAll_14 (n : Nat) (v0 v2 : Int) (kz4 : Cn × Int × Int → Prop) (Q : Int → Cn → Prop) (hkz4 : ∀ (Cz : Cn) (z1 : Int) (z2 : Int), kz4 (Cz, z1, z2) → AW p l e R s m args below meth c E M_G_tellsAll true (fun r C2 n2 => n2 = n ∧ Q r C2) n 0 0 4 [(2, v0), (0, z1), (0, z2), (9, 0), (9, 0), (9, 0)] [] Cz) : ∀ (f : Nat) (z : Cn × Int × Int), lp (B_G_tellsAll_14 n v0 v2 kz4 Q) f z → AW p l e R s m args below meth c E M_G_tellsAll true (fun r C2 n2 => n2 = n ∧ Q r C2) n 0 0 14 [(2, v0), (0, z.2.1), (0, v2), (0, z.2.2), (9, 0), (9, 0)] [] (z.1) := by
  intro f
  induction f with
  | zero => intro z h; exact False.elim h
  | succ f ih => intro z h; exact bB_G_tellsAll_14 n v0 v2 kz4 Q hkz4 (lp (B_G_tellsAll_14 n v0 v2 kz4 Q) f) (fun a0 a1 a2 h => ih (a0, a1, a2) h) z.1 z.2.1 z.2.2 h
def B_G_tellsAll_4 (n : Nat) (v0 : Int) (Q : Int → Cn → Prop) (kz4 : Cn × Int × Int → Prop) (z : Cn × Int × Int) : Prop := match z with
  | (C, v1, v2) => okO n v0 10 ∧ ((C v0.toNat 10 < v2 → (Q 0 C)) ∧ (¬ C v0.toNat 10 < v2 → (∃ f_30 : Nat, lp (B_G_tellsAll_14 n v0 v2 kz4 Q) f_30 (C, v1, 0))))
theorem bB_G_tellsAll_4 (n : Nat) (v0 : Int) (Q : Int → Cn → Prop) (kz4 : Cn × Int × Int → Prop) (hkz4 : ∀ (Cz : Cn) (z1 : Int) (z2 : Int), kz4 (Cz, z1, z2) → AW p l e R s m args below meth c E M_G_tellsAll true (fun r C2 n2 => n2 = n ∧ Q r C2) n 0 0 4 [(2, v0), (0, z1), (0, z2), (9, 0), (9, 0), (9, 0)] [] Cz) (C : Cn) (v1 : Int) (v2 : Int) (h : B_G_tellsAll_4 n v0 Q kz4 (C, v1, v2)) : AW p l e R s m args below meth c E M_G_tellsAll true (fun r C2 n2 => n2 = n ∧ Q r C2) n 0 0 4 [(2, v0), (0, v1), (0, v2), (9, 0), (9, 0), (9, 0)] [] C := by
  unfold B_G_tellsAll_4 at h
  dsimp only at h
  refine AW.iload_n (dc hd_G_tellsAll 4 rfl) rfl ?_
  refine AW.ra_n (dc hd_G_tellsAll 5 rfl) rfl rfl rfl ?_
  obtain ⟨g_1, h⟩ := h
  refine AW.getf fl_10_221 (dc hd_G_tellsAll 6 rfl) g_1 ?_
  refine AW.icmp_gt (t := 116) (dc hd_G_tellsAll 7 rfl) (by decide) (fun c_2 => ?_) (fun c_2 => ?_)
  · have h := h.1 c_2
    exact AW.vret (dc hd_G_tellsAll 61 rfl) rfl rfl (Nat.le_of_ble_eq_true rfl) (Nat.le_of_ble_eq_true rfl) ⟨rfl, h⟩
  · have h := h.2 c_2
    refine AW.iconst (dc hd_G_tellsAll 8 rfl) (by decide) ?_
    refine AW.istore_n [(2, v0), (0, v1), (0, v2), (0, 0), (9, 0), (9, 0)] (dc hd_G_tellsAll 9 rfl) (Nat.le_of_ble_eq_true rfl) rfl rfl ?_
    obtain ⟨f_30, h⟩ := h
    exact aB_G_tellsAll_14 n v0 v2 kz4 Q hkz4 f_30 (C, v1, 0) h
theorem aB_G_tellsAll_4 (n : Nat) (v0 : Int) (Q : Int → Cn → Prop) : ∀ (f : Nat) (z : Cn × Int × Int), lp (B_G_tellsAll_4 n v0 Q) f z → AW p l e R s m args below meth c E M_G_tellsAll true (fun r C2 n2 => n2 = n ∧ Q r C2) n 0 0 4 [(2, v0), (0, z.2.1), (0, z.2.2), (9, 0), (9, 0), (9, 0)] [] (z.1) := by
  intro f
  induction f with
  | zero => intro z h; exact False.elim h
  | succ f ih => intro z h; exact bB_G_tellsAll_4 n v0 Q (lp (B_G_tellsAll_4 n v0 Q) f) (fun a0 a1 a2 h => ih (a0, a1, a2) h) z.1 z.2.1 z.2.2 h
def P_G_tellsAll (n : Nat) (C : Cn) (v0 : Int) (Q : Int → Cn → Prop) : Prop :=
  ∃ f_31 : Nat, lp (B_G_tellsAll_4 n v0 Q) f_31 (C, 0, 0)
theorem m_G_tellsAll (l : Launch) (E : Ev) (n : Nat) (C : Cn) (v0 : Int) (Q : Int → Cn → Prop) (h : P_G_tellsAll n C v0 Q) : MA l y_G_tellsAll M_G_tellsAll E true C n [(2, v0)] (fun r C2 n2 => n2 = n ∧ Q r C2) := by
  refine MA.of (by decide) rfl rfl 5 rfl (fun p e s m args below meth c => ?_)
  show AW p l e _ s m args below meth c E M_G_tellsAll true _ n 0 0 0 [(2, v0), (9, 0), (9, 0), (9, 0), (9, 0), (9, 0)] [] C
  unfold P_G_tellsAll at h
  refine AW.iconst (dc hd_G_tellsAll 0 rfl) (by decide) ?_
  refine AW.istore_n [(2, v0), (0, 0), (9, 0), (9, 0), (9, 0), (9, 0)] (dc hd_G_tellsAll 1 rfl) (Nat.le_of_ble_eq_true rfl) rfl rfl ?_
  refine AW.iconst (dc hd_G_tellsAll 2 rfl) (by decide) ?_
  refine AW.istore_n [(2, v0), (0, 0), (0, 0), (9, 0), (9, 0), (9, 0)] (dc hd_G_tellsAll 3 rfl) (Nat.le_of_ble_eq_true rfl) rfl rfl ?_
  obtain ⟨f_31, h⟩ := h
  exact aB_G_tellsAll_4 n v0 Q f_31 (C, 0, 0) h
def J_G_searchesTold_82 (n : Nat) (C : Cn) (v0 v1 v2 v3 : Int) (kz17 : Cn × Int → Prop) (Q : Int → Cn → Prop) : Prop :=
  okO n v0 10 ∧ (∀ C_12 : Cn, C_12 = wr C v0.toNat 28 (imax (C v0.toNat 28) v3) → (∀ C_13 : Cn, C_13 = wr C_12 v0.toNat 29 (w32 (C_12 v0.toNat 29 + v3)) → (kz17 (C_13, w32 (v2 + 1)))))
theorem aJ_G_searchesTold_82 (n : Nat) (C : Cn) (v0 v1 v2 v3 : Int) (kz17 : Cn × Int → Prop) (Q : Int → Cn → Prop) (hkz17 : ∀ (Cz : Cn) (z2 : Int), kz17 (Cz, z2) → AW p l e R s m args below meth c E M_G_searchesTold true (fun r C2 n2 => n2 = n ∧ Q r C2) n 0 0 17 [(2, v0), (0, v1), (0, z2), (9, 0), (9, 0), (9, 0)] [] Cz) (h : J_G_searchesTold_82 n C v0 v1 v2 v3 kz17 Q) : AW p l e R s m args below meth c E M_G_searchesTold true (fun r C2 n2 => n2 = n ∧ Q r C2) n 0 0 82 [(2, v0), (0, v1), (0, v2), (0, v3), (9, 0), (9, 0)] [] C := by
  unfold J_G_searchesTold_82 at h
  refine AW.ra_n (dc hd_G_searchesTold 51 rfl) rfl rfl rfl ?_
  refine AW.ra_n (dc hd_G_searchesTold 52 rfl) rfl rfl rfl ?_
  obtain ⟨g_11, h⟩ := h
  refine AW.getf fl_10_316 (dc hd_G_searchesTold 53 rfl) g_11 ?_
  refine AW.iload_n (dc hd_G_searchesTold 54 rfl) rfl ?_
  refine AW.mmax (dc hd_G_searchesTold 55 rfl) mt_10_161 (Nat.le_of_ble_eq_true rfl) (Nat.le_of_ble_eq_true rfl) (Nat.le_of_ble_eq_true rfl) (Nat.le_of_ble_eq_true rfl) (Nat.le_of_ble_eq_true rfl) ?_
  refine AW.nputI fl_10_316 (dc hd_G_searchesTold 56 rfl) g_11 (fun C_12 eC_12 => ?_)
  have h := h C_12 eC_12
  refine AW.ra_n (dc hd_G_searchesTold 57 rfl) rfl rfl rfl ?_
  refine AW.rdup (dc hd_G_searchesTold 58 rfl) rfl ?_
  refine AW.getf fl_10_319 (dc hd_G_searchesTold 59 rfl) g_11 ?_
  refine AW.iload_n (dc hd_G_searchesTold 60 rfl) rfl ?_
  refine AW.iadd (dc hd_G_searchesTold 61 rfl) ?_
  refine AW.nputI fl_10_319 (dc hd_G_searchesTold 62 rfl) g_11 (fun C_13 eC_13 => ?_)
  have h := h C_13 eC_13
  refine AW.iinc [(2, v0), (0, v1), (0, w32 (v2 + 1)), (0, v3), (9, 0), (9, 0)] (dc hd_G_searchesTold 63 rfl) rfl (Nat.le_of_ble_eq_true rfl) rfl rfl ?_
  refine AW.goto (t := 17) (dc hd_G_searchesTold 64 rfl) (by decide) ?_
  refine AW.fgt [(2, v0), (0, v1), (0, w32 (v2 + 1)), (9, 0), (9, 0), (9, 0)] ⟨.inl rfl, .inl rfl, .inl rfl, .inr rfl, .inl rfl, .inl rfl, trivial⟩ ?_
  exact hkz17 C_13 (w32 (v2 + 1)) h
def B_G_searchesTold_30 (n : Nat) (C : Cn) (v0 v1 v2 : Int) (kz17 : Cn × Int → Prop) (Q : Int → Cn → Prop) (kz30 : Int × Int × Int → Prop) (z : Int × Int × Int) : Prop := match z with
  | (v3, v4, v5) => okO n v0 10 ∧ ((C v0.toNat 0 ≤ v5 → (J_G_searchesTold_82 n C v0 v1 v2 v3 kz17 Q)) ∧ (¬ C v0.toNat 0 ≤ v5 → (okO n (PT v0.toNat 30) 17 ∧ (okI (PT v0.toNat 30) v2 ∧ (okO n (PT v0.toNat 27) 12 ∧ (okI (PT v0.toNat 27) v5 ∧ (okO n (PT (PT v0.toNat 30).toNat v2.toNat) 12 ∧ (okI (PT (PT v0.toNat 30).toNat v2.toNat) (w32 (w32 (6 * v4) + C (PT v0.toNat 27).toNat v5.toNat)) ∧ (∀ v3_20 : Int, v3_20 = w32 (v3 + C (PT (PT v0.toNat 30).toNat v2.toNat).toNat (w32 (w32 (6 * v4) + C (PT v0.toNat 27).toNat v5.toNat)).toNat) → (∀ v4_21 : Int, v4_21 = or32 v4 (shl32 1 (C (PT v0.toNat 27).toNat v5.toNat)) → (kz30 (v3_20, v4_21, w32 (v5 + 1)))))))))))))
theorem bB_G_searchesTold_30 (n : Nat) (C : Cn) (v0 v1 v2 : Int) (kz17 : Cn × Int → Prop) (Q : Int → Cn → Prop) (hkz17 : ∀ (Cz : Cn) (z2 : Int), kz17 (Cz, z2) → AW p l e R s m args below meth c E M_G_searchesTold true (fun r C2 n2 => n2 = n ∧ Q r C2) n 0 0 17 [(2, v0), (0, v1), (0, z2), (9, 0), (9, 0), (9, 0)] [] Cz) (kz30 : Int × Int × Int → Prop) (hkz30 : ∀ (z3 : Int) (z4 : Int) (z5 : Int), kz30 (z3, z4, z5) → AW p l e R s m args below meth c E M_G_searchesTold true (fun r C2 n2 => n2 = n ∧ Q r C2) n 0 0 30 [(2, v0), (0, v1), (0, v2), (0, z3), (0, z4), (0, z5)] [] C) (v3 : Int) (v4 : Int) (v5 : Int) (h : B_G_searchesTold_30 n C v0 v1 v2 kz17 Q kz30 (v3, v4, v5)) : AW p l e R s m args below meth c E M_G_searchesTold true (fun r C2 n2 => n2 = n ∧ Q r C2) n 0 0 30 [(2, v0), (0, v1), (0, v2), (0, v3), (0, v4), (0, v5)] [] C := by
  unfold B_G_searchesTold_30 at h
  dsimp only at h
  refine AW.iload (dc hd_G_searchesTold 20 rfl) rfl ?_
  refine AW.ra_n (dc hd_G_searchesTold 21 rfl) rfl rfl rfl ?_
  obtain ⟨g_9, h⟩ := h
  refine AW.getf fl_10_117 (dc hd_G_searchesTold 22 rfl) g_9 ?_
  refine AW.icmp_ge (t := 82) (dc hd_G_searchesTold 23 rfl) (by decide) (fun c_10 => ?_) (fun c_10 => ?_)
  · have h := h.1 c_10
    refine AW.fgt [(2, v0), (0, v1), (0, v2), (0, v3), (9, 0), (9, 0)] ⟨.inl rfl, .inl rfl, .inl rfl, .inl rfl, .inr rfl, .inr rfl, trivial⟩ ?_
    exact aJ_G_searchesTold_82 n C v0 v1 v2 v3 kz17 Q hkz17 h
  · have h := h.2 c_10
    refine AW.iload_n (dc hd_G_searchesTold 24 rfl) rfl ?_
    refine AW.ra_n (dc hd_G_searchesTold 25 rfl) rfl rfl rfl ?_
    refine AW.getp fl_10_64 (dc hd_G_searchesTold 26 rfl) g_9 rfl ?_
    refine AW.iload_n (dc hd_G_searchesTold 27 rfl) rfl ?_
    obtain ⟨g_14, h⟩ := h
    obtain ⟨g_15, h⟩ := h
    refine AW.aaldp (by decide) (dc hd_G_searchesTold 28 rfl) g_14 g_15 rfl ?_
    refine AW.bipush (dc hd_G_searchesTold 29 rfl) (by decide) (by decide +kernel) ?_
    refine AW.iload (dc hd_G_searchesTold 30 rfl) rfl ?_
    refine AW.imul (dc hd_G_searchesTold 31 rfl) ?_
    refine AW.ra_n (dc hd_G_searchesTold 32 rfl) rfl rfl rfl ?_
    refine AW.getp fl_10_61 (dc hd_G_searchesTold 33 rfl) g_9 rfl ?_
    refine AW.iload (dc hd_G_searchesTold 34 rfl) rfl ?_
    obtain ⟨g_16, h⟩ := h
    obtain ⟨g_17, h⟩ := h
    refine AW.iald (dc hd_G_searchesTold 35 rfl) g_16 g_17 ?_
    refine AW.iadd (dc hd_G_searchesTold 36 rfl) ?_
    obtain ⟨g_18, h⟩ := h
    obtain ⟨g_19, h⟩ := h
    refine AW.iald (dc hd_G_searchesTold 37 rfl) g_18 g_19 ?_
    refine AW.iadd (dc hd_G_searchesTold 38 rfl) ?_
    refine AW.nm (fun v3_20 ev3_20 => ?_)
    have h := h v3_20 ev3_20
    refine AW.istore_n [(2, v0), (0, v1), (0, v2), (0, v3_20), (0, v4), (0, v5)] (dc hd_G_searchesTold 39 rfl) (Nat.le_of_ble_eq_true rfl) rfl rfl ?_
    refine AW.iload (dc hd_G_searchesTold 40 rfl) rfl ?_
    refine AW.iconst (dc hd_G_searchesTold 41 rfl) (by decide) ?_
    refine AW.ra_n (dc hd_G_searchesTold 42 rfl) rfl rfl rfl ?_
    refine AW.getp fl_10_61 (dc hd_G_searchesTold 43 rfl) g_9 rfl ?_
    refine AW.iload (dc hd_G_searchesTold 44 rfl) rfl ?_
    refine AW.iald (dc hd_G_searchesTold 45 rfl) g_16 g_17 ?_
    refine AW.ishl (dc hd_G_searchesTold 46 rfl) ?_
    refine AW.ior (dc hd_G_searchesTold 47 rfl) ?_
    refine AW.nm (fun v4_21 ev4_21 => ?_)
    have h := h v4_21 ev4_21
    refine AW.istore [(2, v0), (0, v1), (0, v2), (0, v3_20), (0, v4_21), (0, v5)] (dc hd_G_searchesTold 48 rfl) (Nat.le_of_ble_eq_true rfl) rfl rfl ?_
    refine AW.iinc [(2, v0), (0, v1), (0, v2), (0, v3_20), (0, v4_21), (0, w32 (v5 + 1))] (dc hd_G_searchesTold 49 rfl) rfl (Nat.le_of_ble_eq_true rfl) rfl rfl ?_
    refine AW.goto (t := 30) (dc hd_G_searchesTold 50 rfl) (by decide) ?_
    exact hkz30 v3_20 v4_21 (w32 (v5 + 1)) h
theorem aB_G_searchesTold_30 (n : Nat) (C : Cn) (v0 v1 v2 : Int) (kz17 : Cn × Int → Prop) (Q : Int → Cn → Prop) (hkz17 : ∀ (Cz : Cn) (z2 : Int), kz17 (Cz, z2) → AW p l e R s m args below meth c E M_G_searchesTold true (fun r C2 n2 => n2 = n ∧ Q r C2) n 0 0 17 [(2, v0), (0, v1), (0, z2), (9, 0), (9, 0), (9, 0)] [] Cz) : ∀ (f : Nat) (z : Int × Int × Int), lp (B_G_searchesTold_30 n C v0 v1 v2 kz17 Q) f z → AW p l e R s m args below meth c E M_G_searchesTold true (fun r C2 n2 => n2 = n ∧ Q r C2) n 0 0 30 [(2, v0), (0, v1), (0, v2), (0, z.1), (0, z.2.1), (0, z.2.2)] [] C := by
  intro f
  induction f with
  | zero => intro z h; exact False.elim h
  | succ f ih => intro z h; exact bB_G_searchesTold_30 n C v0 v1 v2 kz17 Q hkz17 (lp (B_G_searchesTold_30 n C v0 v1 v2 kz17 Q) f) (fun a0 a1 a2 h => ih (a0, a1, a2) h) z.1 z.2.1 z.2.2 h
def B_G_searchesTold_17 (n : Nat) (v0 v1 : Int) (Q : Int → Cn → Prop) (kz17 : Cn × Int → Prop) (z : Cn × Int) : Prop := match z with
  | (C, v2) => (v1 ≤ v2 → (Q 0 C)) ∧ (¬ v1 ≤ v2 → (∃ f_22 : Nat, lp (B_G_searchesTold_30 n C v0 v1 v2 kz17 Q) f_22 (0, 0, 0)))
theorem bB_G_searchesTold_17 (n : Nat) (v0 v1 : Int) (Q : Int → Cn → Prop) (kz17 : Cn × Int → Prop) (hkz17 : ∀ (Cz : Cn) (z2 : Int), kz17 (Cz, z2) → AW p l e R s m args below meth c E M_G_searchesTold true (fun r C2 n2 => n2 = n ∧ Q r C2) n 0 0 17 [(2, v0), (0, v1), (0, z2), (9, 0), (9, 0), (9, 0)] [] Cz) (C : Cn) (v2 : Int) (h : B_G_searchesTold_17 n v0 v1 Q kz17 (C, v2)) : AW p l e R s m args below meth c E M_G_searchesTold true (fun r C2 n2 => n2 = n ∧ Q r C2) n 0 0 17 [(2, v0), (0, v1), (0, v2), (9, 0), (9, 0), (9, 0)] [] C := by
  unfold B_G_searchesTold_17 at h
  dsimp only at h
  refine AW.iload_n (dc hd_G_searchesTold 11 rfl) rfl ?_
  refine AW.iload_n (dc hd_G_searchesTold 12 rfl) rfl ?_
  refine AW.icmp_ge (t := 110) (dc hd_G_searchesTold 13 rfl) (by decide) (fun c_8 => ?_) (fun c_8 => ?_)
  · have h := h.1 c_8
    exact AW.vret (dc hd_G_searchesTold 65 rfl) rfl rfl (Nat.le_of_ble_eq_true rfl) (Nat.le_of_ble_eq_true rfl) ⟨rfl, h⟩
  · have h := h.2 c_8
    refine AW.iconst (dc hd_G_searchesTold 14 rfl) (by decide) ?_
    refine AW.istore_n [(2, v0), (0, v1), (0, v2), (0, 0), (9, 0), (9, 0)] (dc hd_G_searchesTold 15 rfl) (Nat.le_of_ble_eq_true rfl) rfl rfl ?_
    refine AW.iconst (dc hd_G_searchesTold 16 rfl) (by decide) ?_
    refine AW.istore [(2, v0), (0, v1), (0, v2), (0, 0), (0, 0), (9, 0)] (dc hd_G_searchesTold 17 rfl) (Nat.le_of_ble_eq_true rfl) rfl rfl ?_
    refine AW.iconst (dc hd_G_searchesTold 18 rfl) (by decide) ?_
    refine AW.istore [(2, v0), (0, v1), (0, v2), (0, 0), (0, 0), (0, 0)] (dc hd_G_searchesTold 19 rfl) (Nat.le_of_ble_eq_true rfl) rfl rfl ?_
    obtain ⟨f_22, h⟩ := h
    exact aB_G_searchesTold_30 n C v0 v1 v2 kz17 Q hkz17 f_22 (0, 0, 0) h
theorem aB_G_searchesTold_17 (n : Nat) (v0 v1 : Int) (Q : Int → Cn → Prop) : ∀ (f : Nat) (z : Cn × Int), lp (B_G_searchesTold_17 n v0 v1 Q) f z → AW p l e R s m args below meth c E M_G_searchesTold true (fun r C2 n2 => n2 = n ∧ Q r C2) n 0 0 17 [(2, v0), (0, v1), (0, z.2), (9, 0), (9, 0), (9, 0)] [] (z.1) := by
  intro f
  induction f with
  | zero => intro z h; exact False.elim h
  | succ f ih => intro z h; exact bB_G_searchesTold_17 n v0 v1 Q (lp (B_G_searchesTold_17 n v0 v1 Q) f) (fun a0 a1 h => ih (a0, a1) h) z.1 z.2 h
def P_G_searchesTold (n : Nat) (C : Cn) (v0 : Int) (Q : Int → Cn → Prop) : Prop :=
  okO n v0 10 ∧ (∀ C_2 : Cn, C_2 = wr C v0.toNat 28 0 → (∀ C_3 : Cn, C_3 = wr C_2 v0.toNat 29 0 → (P_G_cellMany n C_3 v0 (fun (r_4 : Int) => ∃ f_23 : Nat, lp (B_G_searchesTold_17 n v0 r_4 Q) f_23 (C_3, 0)))))
theorem m_G_searchesTold (l : Launch) (E : Ev) (n : Nat) (C : Cn) (v0 : Int) (Q : Int → Cn → Prop) (h : P_G_searchesTold n C v0 Q) : MA l y_G_searchesTold M_G_searchesTold E true C n [(2, v0)] (fun r C2 n2 => n2 = n ∧ Q r C2) := by
  refine MA.of (by decide) rfl rfl 5 rfl (fun p e s m args below meth c => ?_)
  show AW p l e _ s m args below meth c E M_G_searchesTold true _ n 0 0 0 [(2, v0), (9, 0), (9, 0), (9, 0), (9, 0), (9, 0)] [] C
  unfold P_G_searchesTold at h
  refine AW.ra_n (dc hd_G_searchesTold 0 rfl) rfl rfl rfl ?_
  refine AW.iconst (dc hd_G_searchesTold 1 rfl) (by decide) ?_
  obtain ⟨g_1, h⟩ := h
  refine AW.nputI fl_10_316 (dc hd_G_searchesTold 2 rfl) g_1 (fun C_2 eC_2 => ?_)
  have h := h C_2 eC_2
  refine AW.ra_n (dc hd_G_searchesTold 3 rfl) rfl rfl rfl ?_
  refine AW.iconst (dc hd_G_searchesTold 4 rfl) (by decide) ?_
  refine AW.nputI fl_10_319 (dc hd_G_searchesTold 5 rfl) g_1 (fun C_3 eC_3 => ?_)
  have h := h C_3 eC_3
  refine AW.ra_n (dc hd_G_searchesTold 6 rfl) rfl rfl rfl ?_
  refine AW.callV (As := []) (rest := []) (ci := 10) (m_G_cellMany l E n C_3 v0 _ h) cb_10_257 im_G_cellMany se_G_cellMany ⟨_, _, rfl⟩ (by decide) (dc hd_G_searchesTold 7 rfl) g_1 rfl rfl ⟨Nat.le_of_ble_eq_true rfl, Nat.le_of_ble_eq_true rfl⟩ ⟨(Nat.le_of_ble_eq_true rfl), (Nat.le_of_ble_eq_true rfl)⟩ (Nat.le_of_ble_eq_true rfl) (fun _ h => by cases h) (fun _ => rfl) (fun r_4 D_6 d_7 q_5 => ?_)
  obtain ⟨q_5a, q_5b, h⟩ := q_5
  subst D_6
  subst d_7
  show AW p l e _ s m args below meth c E M_G_searchesTold true _ n _ _ _ [(2, v0), (9, 0), (9, 0), (9, 0), (9, 0), (9, 0)] [(0, r_4)] C_3
  refine AW.istore_n [(2, v0), (0, r_4), (9, 0), (9, 0), (9, 0), (9, 0)] (dc hd_G_searchesTold 8 rfl) (Nat.le_of_ble_eq_true rfl) rfl rfl ?_
  refine AW.iconst (dc hd_G_searchesTold 9 rfl) (by decide) ?_
  refine AW.istore_n [(2, v0), (0, r_4), (0, 0), (9, 0), (9, 0), (9, 0)] (dc hd_G_searchesTold 10 rfl) (Nat.le_of_ble_eq_true rfl) rfl rfl ?_
  obtain ⟨f_23, h⟩ := h
  exact aB_G_searchesTold_17 n v0 r_4 Q f_23 (C_3, 0) h
def J_G_best_67 (n : Nat) (C : Cn) (v0 v4 : Int) (kz17 : Cn × Int × Int × Int × Int → Prop) (Q : Int → Cn → Prop) : Prop :=
  okO n v0 10 ∧ (kz17 (C, v4, C v0.toNat 28, C v0.toNat 29, w32 (v4 + 1)))
theorem aJ_G_best_67 (n : Nat) (C : Cn) (v0 v4 : Int) (kz17 : Cn × Int × Int × Int × Int → Prop) (Q : Int → Cn → Prop) (hkz17 : ∀ (Cz : Cn) (z1 : Int) (z2 : Int) (z3 : Int) (z4 : Int), kz17 (Cz, z1, z2, z3, z4) → AW p l e R s m args below meth c E M_G_best true (fun r C2 n2 => n2 = n ∧ Q r C2) n 0 0 17 [(2, v0), (0, z1), (0, z2), (0, z3), (0, z4)] [] Cz) (h : J_G_best_67 n C v0 v4 kz17 Q) : AW p l e R s m args below meth c E M_G_best true (fun r C2 n2 => n2 = n ∧ Q r C2) n 0 0 67 [(2, v0), (9, 0), (9, 0), (9, 0), (0, v4)] [] C := by
  unfold J_G_best_67 at h
  refine AW.iload (dc hd_G_best 36 rfl) rfl ?_
  refine AW.istore_n [(2, v0), (0, v4), (9, 0), (9, 0), (0, v4)] (dc hd_G_best 37 rfl) (Nat.le_of_ble_eq_true rfl) rfl rfl ?_
  refine AW.ra_n (dc hd_G_best 38 rfl) rfl rfl rfl ?_
  obtain ⟨g_25, h⟩ := h
  refine AW.getf fl_10_316 (dc hd_G_best 39 rfl) g_25 ?_
  refine AW.istore_n [(2, v0), (0, v4), (0, C v0.toNat 28), (9, 0), (0, v4)] (dc hd_G_best 40 rfl) (Nat.le_of_ble_eq_true rfl) rfl rfl ?_
  refine AW.ra_n (dc hd_G_best 41 rfl) rfl rfl rfl ?_
  refine AW.getf fl_10_319 (dc hd_G_best 42 rfl) g_25 ?_
  refine AW.istore_n [(2, v0), (0, v4), (0, C v0.toNat 28), (0, C v0.toNat 29), (0, v4)] (dc hd_G_best 43 rfl) (Nat.le_of_ble_eq_true rfl) rfl rfl ?_
  refine AW.iinc [(2, v0), (0, v4), (0, C v0.toNat 28), (0, C v0.toNat 29), (0, w32 (v4 + 1))] (dc hd_G_best 44 rfl) rfl (Nat.le_of_ble_eq_true rfl) rfl rfl ?_
  refine AW.goto (t := 17) (dc hd_G_best 45 rfl) (by decide) ?_
  exact hkz17 C v4 (C v0.toNat 28) (C v0.toNat 29) (w32 (v4 + 1)) h
def B_G_best_17 (n : Nat) (v0 : Int) (Q : Int → Cn → Prop) (kz17 : Cn × Int × Int × Int × Int → Prop) (z : Cn × Int × Int × Int × Int) : Prop := match z with
  | (C, v1, v2, v3, v4) => okO n v0 10 ∧ (P_G_orders n C v0 (fun (r_10 : Int) => (r_10 ≤ v4 → (Q v1 C)) ∧ (¬ r_10 ≤ v4 → (P_G_laysOrder n C v0 v4 (fun (_ : Int) (C_16 : Cn) => P_G_searchesTold n C_16 v0 (fun (_ : Int) (C_20 : Cn) => (v1 < 0 → (J_G_best_67 n C_20 v0 v4 kz17 Q)) ∧ (¬ v1 < 0 → ((v2 < C_20 v0.toNat 28 → (kz17 (C_20, v1, v2, v3, w32 (v4 + 1)))) ∧ (¬ v2 < C_20 v0.toNat 28 → ((C_20 v0.toNat 28 = v2 → ((C_20 v0.toNat 29 < v3 → (J_G_best_67 n C_20 v0 v4 kz17 Q)) ∧ (¬ C_20 v0.toNat 29 < v3 → (kz17 (C_20, v1, v2, v3, w32 (v4 + 1)))))) ∧ (¬ C_20 v0.toNat 28 = v2 → (J_G_best_67 n C_20 v0 v4 kz17 Q))))))))))))
theorem bB_G_best_17 (n : Nat) (v0 : Int) (Q : Int → Cn → Prop) (kz17 : Cn × Int × Int × Int × Int → Prop) (hkz17 : ∀ (Cz : Cn) (z1 : Int) (z2 : Int) (z3 : Int) (z4 : Int), kz17 (Cz, z1, z2, z3, z4) → AW p l e R s m args below meth c E M_G_best true (fun r C2 n2 => n2 = n ∧ Q r C2) n 0 0 17 [(2, v0), (0, z1), (0, z2), (0, z3), (0, z4)] [] Cz) (C : Cn) (v1 : Int) (v2 : Int) (v3 : Int) (v4 : Int) (h : B_G_best_17 n v0 Q kz17 (C, v1, v2, v3, v4)) : AW p l e R s m args below meth c E M_G_best true (fun r C2 n2 => n2 = n ∧ Q r C2) n 0 0 17 [(2, v0), (0, v1), (0, v2), (0, v3), (0, v4)] [] C := by
  unfold B_G_best_17 at h
  dsimp only at h
  refine AW.iload (dc hd_G_best 12 rfl) rfl ?_
  refine AW.ra_n (dc hd_G_best 13 rfl) rfl rfl rfl ?_
  obtain ⟨g_11, h⟩ := h
  refine AW.callV (As := []) (rest := [(0, v4)]) (ci := 10) (m_G_orders l E n C v0 _ h) cb_10_325 im_G_orders se_G_orders ⟨_, _, rfl⟩ (by decide) (dc hd_G_best 14 rfl) g_11 rfl rfl ⟨Nat.le_of_ble_eq_true rfl, Nat.le_of_ble_eq_true rfl⟩ ⟨(Nat.le_of_ble_eq_true rfl), (Nat.le_of_ble_eq_true rfl)⟩ (Nat.le_of_ble_eq_true rfl) (fun _ h => by cases h) (fun _ => rfl) (fun r_10 D_13 d_14 q_12 => ?_)
  obtain ⟨q_12a, q_12b, h⟩ := q_12
  subst D_13
  subst d_14
  show AW p l e _ s m args below meth c E M_G_best true _ n _ _ _ [(2, v0), (0, v1), (0, v2), (0, v3), (0, v4)] [(0, r_10), (0, v4)] C
  refine AW.icmp_ge (t := 86) (dc hd_G_best 15 rfl) (by decide) (fun c_15 => ?_) (fun c_15 => ?_)
  · have h := h.1 c_15
    refine AW.iload_n (dc hd_G_best 46 rfl) rfl ?_
    exact AW.iret (dc hd_G_best 47 rfl) rfl rfl (Nat.le_of_ble_eq_true rfl) (Nat.le_of_ble_eq_true rfl) ⟨rfl, h⟩
  · have h := h.2 c_15
    refine AW.ra_n (dc hd_G_best 16 rfl) rfl rfl rfl ?_
    refine AW.iload (dc hd_G_best 17 rfl) rfl ?_
    refine AW.callV (As := [(0, v4)]) (rest := []) (ci := 10) (m_G_laysOrder l E n C v0 v4 _ h) cb_10_330 im_G_laysOrder se_G_laysOrder ⟨_, _, rfl⟩ (by decide) (dc hd_G_best 18 rfl) g_11 rfl rfl ⟨Nat.le_of_ble_eq_true rfl, Nat.le_of_ble_eq_true rfl⟩ ⟨(Nat.le_of_ble_eq_true rfl), (Nat.le_of_ble_eq_true rfl)⟩ (Nat.le_of_ble_eq_true rfl) (fun _ h => by cases h) (fun _ => rfl) (fun u_18 C_16 d_19 q_17 => ?_)
    obtain ⟨q_17a, h⟩ := q_17
    subst d_19
    show AW p l e _ s m args below meth c E M_G_best true _ n _ _ _ [(2, v0), (0, v1), (0, v2), (0, v3), (0, v4)] [] C_16
    refine AW.ra_n (dc hd_G_best 19 rfl) rfl rfl rfl ?_
    refine AW.callV (As := []) (rest := []) (ci := 10) (m_G_searchesTold l E n C_16 v0 _ h) cb_10_336 im_G_searchesTold se_G_searchesTold ⟨_, _, rfl⟩ (by decide) (dc hd_G_best 20 rfl) g_11 rfl rfl ⟨Nat.le_of_ble_eq_true rfl, Nat.le_of_ble_eq_true rfl⟩ ⟨(Nat.le_of_ble_eq_true rfl), (Nat.le_of_ble_eq_true rfl)⟩ (Nat.le_of_ble_eq_true rfl) (fun _ h => by cases h) (fun _ => rfl) (fun u_22 C_20 d_23 q_21 => ?_)
    obtain ⟨q_21a, h⟩ := q_21
    subst d_23
    show AW p l e _ s m args below meth c E M_G_best true _ n _ _ _ [(2, v0), (0, v1), (0, v2), (0, v3), (0, v4)] [] C_20
    refine AW.iload_n (dc hd_G_best 21 rfl) rfl ?_
    refine AW.if_lt (t := 67) (dc hd_G_best 22 rfl) (by decide) (fun c_24 => ?_) (fun c_24 => ?_)
    · have h := h.1 c_24
      refine AW.fgt [(2, v0), (9, 0), (9, 0), (9, 0), (0, v4)] ⟨.inl rfl, .inr rfl, .inr rfl, .inr rfl, .inl rfl, trivial⟩ ?_
      exact aJ_G_best_67 n C_20 v0 v4 kz17 Q hkz17 h
    · have h := h.2 c_24
      refine AW.ra_n (dc hd_G_best 23 rfl) rfl rfl rfl ?_
      refine AW.getf fl_10_316 (dc hd_G_best 24 rfl) g_11 ?_
      refine AW.iload_n (dc hd_G_best 25 rfl) rfl ?_
      refine AW.icmp_gt (t := 80) (dc hd_G_best 26 rfl) (by decide) (fun c_26 => ?_) (fun c_26 => ?_)
      · have h := h.1 c_26
        refine AW.iinc [(2, v0), (0, v1), (0, v2), (0, v3), (0, w32 (v4 + 1))] (dc hd_G_best 44 rfl) rfl (Nat.le_of_ble_eq_true rfl) rfl rfl ?_
        refine AW.goto (t := 17) (dc hd_G_best 45 rfl) (by decide) ?_
        exact hkz17 C_20 v1 v2 v3 (w32 (v4 + 1)) h
      · have h := h.2 c_26
        refine AW.ra_n (dc hd_G_best 27 rfl) rfl rfl rfl ?_
        refine AW.getf fl_10_316 (dc hd_G_best 28 rfl) g_11 ?_
        refine AW.iload_n (dc hd_G_best 29 rfl) rfl ?_
        refine AW.icmp_ne (t := 67) (dc hd_G_best 30 rfl) (by decide) (fun c_27 => ?_) (fun c_27 => ?_)
        · have h := h.2 c_27
          refine AW.fgt [(2, v0), (9, 0), (9, 0), (9, 0), (0, v4)] ⟨.inl rfl, .inr rfl, .inr rfl, .inr rfl, .inl rfl, trivial⟩ ?_
          exact aJ_G_best_67 n C_20 v0 v4 kz17 Q hkz17 h
        · have h := h.1 c_27
          refine AW.ra_n (dc hd_G_best 31 rfl) rfl rfl rfl ?_
          refine AW.getf fl_10_319 (dc hd_G_best 32 rfl) g_11 ?_
          refine AW.iload_n (dc hd_G_best 33 rfl) rfl ?_
          refine AW.icmp_lt (t := 67) (dc hd_G_best 34 rfl) (by decide) (fun c_28 => ?_) (fun c_28 => ?_)
          · have h := h.1 c_28
            refine AW.fgt [(2, v0), (9, 0), (9, 0), (9, 0), (0, v4)] ⟨.inl rfl, .inr rfl, .inr rfl, .inr rfl, .inl rfl, trivial⟩ ?_
            exact aJ_G_best_67 n C_20 v0 v4 kz17 Q hkz17 h
          · have h := h.2 c_28
            refine AW.goto (t := 80) (dc hd_G_best 35 rfl) (by decide) ?_
            refine AW.iinc [(2, v0), (0, v1), (0, v2), (0, v3), (0, w32 (v4 + 1))] (dc hd_G_best 44 rfl) rfl (Nat.le_of_ble_eq_true rfl) rfl rfl ?_
            refine AW.goto (t := 17) (dc hd_G_best 45 rfl) (by decide) ?_
            exact hkz17 C_20 v1 v2 v3 (w32 (v4 + 1)) h
theorem aB_G_best_17 (n : Nat) (v0 : Int) (Q : Int → Cn → Prop) : ∀ (f : Nat) (z : Cn × Int × Int × Int × Int), lp (B_G_best_17 n v0 Q) f z → AW p l e R s m args below meth c E M_G_best true (fun r C2 n2 => n2 = n ∧ Q r C2) n 0 0 17 [(2, v0), (0, z.2.1), (0, z.2.2.1), (0, z.2.2.2.1), (0, z.2.2.2.2)] [] (z.1) := by
  intro f
  induction f with
  | zero => intro z h; exact False.elim h
  | succ f ih => intro z h; exact bB_G_best_17 n v0 Q (lp (B_G_best_17 n v0 Q) f) (fun a0 a1 a2 a3 a4 h => ih (a0, a1, a2, a3, a4) h) z.1 z.2.1 z.2.2.1 z.2.2.2.1 z.2.2.2.2 h
def P_G_best (n : Nat) (C : Cn) (v0 : Int) (Q : Int → Cn → Prop) : Prop :=
  okO n v0 10 ∧ (P_G_maps n C v0 (fun (_ : Int) (C_2 : Cn) => P_G_tellsAll n C_2 v0 (fun (_ : Int) (C_6 : Cn) => ∃ f_29 : Nat, lp (B_G_best_17 n v0 Q) f_29 (C_6, (-1), 0, 0, 0))))
theorem m_G_best (l : Launch) (E : Ev) (n : Nat) (C : Cn) (v0 : Int) (Q : Int → Cn → Prop) (h : P_G_best n C v0 Q) : MA l y_G_best M_G_best E true C n [(2, v0)] (fun r C2 n2 => n2 = n ∧ Q r C2) := by
  refine MA.of (by decide) rfl rfl 4 rfl (fun p e s m args below meth c => ?_)
  show AW p l e _ s m args below meth c E M_G_best true _ n 0 0 0 [(2, v0), (9, 0), (9, 0), (9, 0), (9, 0)] [] C
  unfold P_G_best at h
  refine AW.ra_n (dc hd_G_best 0 rfl) rfl rfl rfl ?_
  obtain ⟨g_1, h⟩ := h
  refine AW.callV (As := []) (rest := []) (ci := 10) (m_G_maps l E n C v0 _ h) cb_10_211 im_G_maps se_G_maps ⟨_, _, rfl⟩ (by decide) (dc hd_G_best 1 rfl) g_1 rfl rfl ⟨Nat.le_of_ble_eq_true rfl, Nat.le_of_ble_eq_true rfl⟩ ⟨(Nat.le_of_ble_eq_true rfl), (Nat.le_of_ble_eq_true rfl)⟩ (Nat.le_of_ble_eq_true rfl) (fun _ h => by cases h) (fun _ => rfl) (fun u_4 C_2 d_5 q_3 => ?_)
  obtain ⟨q_3a, h⟩ := q_3
  subst d_5
  show AW p l e _ s m args below meth c E M_G_best true _ n _ _ _ [(2, v0), (9, 0), (9, 0), (9, 0), (9, 0)] [] C_2
  refine AW.ra_n (dc hd_G_best 2 rfl) rfl rfl rfl ?_
  refine AW.callV (As := []) (rest := []) (ci := 10) (m_G_tellsAll l E n C_2 v0 _ h) cb_10_333 im_G_tellsAll se_G_tellsAll ⟨_, _, rfl⟩ (by decide) (dc hd_G_best 3 rfl) g_1 rfl rfl ⟨Nat.le_of_ble_eq_true rfl, Nat.le_of_ble_eq_true rfl⟩ ⟨(Nat.le_of_ble_eq_true rfl), (Nat.le_of_ble_eq_true rfl)⟩ (Nat.le_of_ble_eq_true rfl) (fun _ h => by cases h) (fun _ => rfl) (fun u_8 C_6 d_9 q_7 => ?_)
  obtain ⟨q_7a, h⟩ := q_7
  subst d_9
  show AW p l e _ s m args below meth c E M_G_best true _ n _ _ _ [(2, v0), (9, 0), (9, 0), (9, 0), (9, 0)] [] C_6
  refine AW.iconst (dc hd_G_best 4 rfl) (by decide) ?_
  refine AW.istore_n [(2, v0), (0, (-1)), (9, 0), (9, 0), (9, 0)] (dc hd_G_best 5 rfl) (Nat.le_of_ble_eq_true rfl) rfl rfl ?_
  refine AW.iconst (dc hd_G_best 6 rfl) (by decide) ?_
  refine AW.istore_n [(2, v0), (0, (-1)), (0, 0), (9, 0), (9, 0)] (dc hd_G_best 7 rfl) (Nat.le_of_ble_eq_true rfl) rfl rfl ?_
  refine AW.iconst (dc hd_G_best 8 rfl) (by decide) ?_
  refine AW.istore_n [(2, v0), (0, (-1)), (0, 0), (0, 0), (9, 0)] (dc hd_G_best 9 rfl) (Nat.le_of_ble_eq_true rfl) rfl rfl ?_
  refine AW.iconst (dc hd_G_best 10 rfl) (by decide) ?_
  refine AW.istore [(2, v0), (0, (-1)), (0, 0), (0, 0), (0, 0)] (dc hd_G_best 11 rfl) (Nat.le_of_ble_eq_true rfl) rfl rfl ?_
  obtain ⟨f_29, h⟩ := h
  exact aB_G_best_17 n v0 Q f_29 (C_6, (-1), 0, 0, 0) h
end
