section
variable {p : Program} {l : Launch} {e : Env} {R : Room} {s : State} {m : MethodId} {args : Array Value} {below : List Frame} {meth : Method} {c : Code} {E : Ev}
def B_La_openGates_46 (n : Nat) (v0 : Int) (Q : Int → Cn → Prop) (kz46 : Cn × Int → Prop) (z : Cn × Int) : Prop := match z with
  | (C, v1) => okO n v0 2 ∧ ((C v0.toNat 8 ≤ v1 → (Q 0 C)) ∧ (¬ C v0.toNat 8 ≤ v1 → (okO n (PT v0.toNat 12) 12 ∧ (okI (PT v0.toNat 12) v1 ∧ ((C (PT v0.toNat 12).toNat v1.toNat < 0 → (P_La_openGatesBehind n C v0 v1 (fun (_ : Int) (C_8 : Cn) => kz46 (C_8, w32 (v1 + 1))))) ∧ (¬ C (PT v0.toNat 12).toNat v1.toNat < 0 → (P_La_openGate n C v0 v1 (w32 (v1 + 1)) (w32 (2 + C (PT v0.toNat 12).toNat v1.toNat)) (fun (_ : Int) (C_12 : Cn) => P_La_openGatesBehind n C_12 v0 v1 (fun (_ : Int) (C_16 : Cn) => kz46 (C_16, w32 (v1 + 1)))))))))))
theorem bB_La_openGates_46 (n : Nat) (v0 : Int) (Q : Int → Cn → Prop) (kz46 : Cn × Int → Prop) (hkz46 : ∀ (Cz : Cn) (z1 : Int), kz46 (Cz, z1) → AW p l e R s m args below meth c E M_La_openGates true (fun r C2 n2 => n2 = n ∧ Q r C2) n 0 0 46 [(2, v0), (0, z1), (9, 0)] [] Cz) (C : Cn) (v1 : Int) (h : B_La_openGates_46 n v0 Q kz46 (C, v1)) : AW p l e R s m args below meth c E M_La_openGates true (fun r C2 n2 => n2 = n ∧ Q r C2) n 0 0 46 [(2, v0), (0, v1), (9, 0)] [] C := by
  unfold B_La_openGates_46 at h
  dsimp only at h
  refine AW.iload_n (dc hd_La_openGates 27 rfl) rfl ?_
  refine AW.ra_n (dc hd_La_openGates 28 rfl) rfl rfl rfl ?_
  obtain ⟨g_3, h⟩ := h
  refine AW.getf fl_2_70 (dc hd_La_openGates 29 rfl) g_3 ?_
  refine AW.icmp_ge (t := 90) (dc hd_La_openGates 30 rfl) (by decide) (fun c_4 => ?_) (fun c_4 => ?_)
  · have h := h.1 c_4
    exact AW.vret (dc hd_La_openGates 53 rfl) rfl rfl (Nat.le_of_ble_eq_true rfl) (Nat.le_of_ble_eq_true rfl) ⟨rfl, h⟩
  · have h := h.2 c_4
    refine AW.ra_n (dc hd_La_openGates 31 rfl) rfl rfl rfl ?_
    refine AW.getp fl_2_39 (dc hd_La_openGates 32 rfl) g_3 rfl ?_
    refine AW.iload_n (dc hd_La_openGates 33 rfl) rfl ?_
    obtain ⟨g_5, h⟩ := h
    obtain ⟨g_6, h⟩ := h
    refine AW.iald (dc hd_La_openGates 34 rfl) g_5 g_6 ?_
    refine AW.if_lt (t := 79) (dc hd_La_openGates 35 rfl) (by decide) (fun c_7 => ?_) (fun c_7 => ?_)
    · have h := h.1 c_7
      refine AW.ra_n (dc hd_La_openGates 48 rfl) rfl rfl rfl ?_
      refine AW.iload_n (dc hd_La_openGates 49 rfl) rfl ?_
      refine AW.callV (As := [(0, v1)]) (rest := []) (ci := 2) (m_La_openGatesBehind l E n C v0 v1 _ h) cb_2_151 im_La_openGatesBehind se_La_openGatesBehind ⟨_, _, rfl⟩ (by decide) (dc hd_La_openGates 50 rfl) g_3 rfl rfl ⟨Nat.le_of_ble_eq_true rfl, Nat.le_of_ble_eq_true rfl⟩ ⟨(Nat.le_of_ble_eq_true rfl), (Nat.le_of_ble_eq_true rfl)⟩ (Nat.le_of_ble_eq_true rfl) (fun _ h => by cases h) (fun _ => rfl) (fun u_10 C_8 d_11 q_9 => ?_)
      obtain ⟨q_9a, h⟩ := q_9
      subst d_11
      show AW p l e _ s m args below meth c E M_La_openGates true _ n _ _ _ [(2, v0), (0, v1), (9, 0)] [] C_8
      refine AW.iinc [(2, v0), (0, w32 (v1 + 1)), (9, 0)] (dc hd_La_openGates 51 rfl) rfl (Nat.le_of_ble_eq_true rfl) rfl rfl ?_
      refine AW.goto (t := 46) (dc hd_La_openGates 52 rfl) (by decide) ?_
      exact hkz46 C_8 (w32 (v1 + 1)) h
    · have h := h.2 c_7
      refine AW.ra_n (dc hd_La_openGates 36 rfl) rfl rfl rfl ?_
      refine AW.iload_n (dc hd_La_openGates 37 rfl) rfl ?_
      refine AW.iload_n (dc hd_La_openGates 38 rfl) rfl ?_
      refine AW.iconst (dc hd_La_openGates 39 rfl) (by decide) ?_
      refine AW.iadd (dc hd_La_openGates 40 rfl) ?_
      refine AW.iconst (dc hd_La_openGates 41 rfl) (by decide) ?_
      refine AW.ra_n (dc hd_La_openGates 42 rfl) rfl rfl rfl ?_
      refine AW.getp fl_2_39 (dc hd_La_openGates 43 rfl) g_3 rfl ?_
      refine AW.iload_n (dc hd_La_openGates 44 rfl) rfl ?_
      refine AW.iald (dc hd_La_openGates 45 rfl) g_5 g_6 ?_
      refine AW.iadd (dc hd_La_openGates 46 rfl) ?_
      refine AW.callV (As := [(0, v1), (0, w32 (v1 + 1)), (0, w32 (2 + C (PT v0.toNat 12).toNat v1.toNat))]) (rest := []) (ci := 2) (m_La_openGate l E n C v0 v1 (w32 (v1 + 1)) (w32 (2 + C (PT v0.toNat 12).toNat v1.toNat)) _ h) cb_2_147 im_La_openGate se_La_openGate ⟨_, _, rfl⟩ (by decide) (dc hd_La_openGates 47 rfl) g_3 rfl rfl ⟨Nat.le_of_ble_eq_true rfl, Nat.le_of_ble_eq_true rfl⟩ ⟨(Nat.le_of_ble_eq_true rfl), (Nat.le_of_ble_eq_true rfl)⟩ (Nat.le_of_ble_eq_true rfl) (fun _ h => by cases h) (fun _ => rfl) (fun u_14 C_12 d_15 q_13 => ?_)
      obtain ⟨q_13a, h⟩ := q_13
      subst d_15
      show AW p l e _ s m args below meth c E M_La_openGates true _ n _ _ _ [(2, v0), (0, v1), (9, 0)] [] C_12
      refine AW.ra_n (dc hd_La_openGates 48 rfl) rfl rfl rfl ?_
      refine AW.iload_n (dc hd_La_openGates 49 rfl) rfl ?_
      refine AW.callV (As := [(0, v1)]) (rest := []) (ci := 2) (m_La_openGatesBehind l E n C_12 v0 v1 _ h) cb_2_151 im_La_openGatesBehind se_La_openGatesBehind ⟨_, _, rfl⟩ (by decide) (dc hd_La_openGates 50 rfl) g_3 rfl rfl ⟨Nat.le_of_ble_eq_true rfl, Nat.le_of_ble_eq_true rfl⟩ ⟨(Nat.le_of_ble_eq_true rfl), (Nat.le_of_ble_eq_true rfl)⟩ (Nat.le_of_ble_eq_true rfl) (fun _ h => by cases h) (fun _ => rfl) (fun u_18 C_16 d_19 q_17 => ?_)
      obtain ⟨q_17a, h⟩ := q_17
      subst d_19
      show AW p l e _ s m args below meth c E M_La_openGates true _ n _ _ _ [(2, v0), (0, v1), (9, 0)] [] C_16
      refine AW.iinc [(2, v0), (0, w32 (v1 + 1)), (9, 0)] (dc hd_La_openGates 51 rfl) rfl (Nat.le_of_ble_eq_true rfl) rfl rfl ?_
      refine AW.goto (t := 46) (dc hd_La_openGates 52 rfl) (by decide) ?_
      exact hkz46 C_16 (w32 (v1 + 1)) h
theorem aB_La_openGates_46 (n : Nat) (v0 : Int) (Q : Int → Cn → Prop) : ∀ (f : Nat) (z : Cn × Int), lp (B_La_openGates_46 n v0 Q) f z → AW p l e R s m args below meth c E M_La_openGates true (fun r C2 n2 => n2 = n ∧ Q r C2) n 0 0 46 [(2, v0), (0, z.2), (9, 0)] [] (z.1) := by
  intro f
  induction f with
  | zero => intro z h; exact False.elim h
  | succ f ih => intro z h; exact bB_La_openGates_46 n v0 Q (lp (B_La_openGates_46 n v0 Q) f) (fun a0 a1 h => ih (a0, a1) h) z.1 z.2 h
def B_La_openGates_12 (n : Nat) (v0 v1 : Int) (kz2 : Cn × Int → Prop) (Q : Int → Cn → Prop) (kz12 : Cn × Int → Prop) (z : Cn × Int) : Prop := match z with
  | (C, v2) => okO n v0 2 ∧ ((C v0.toNat 14 ≤ v2 → (kz2 (C, w32 (v1 + 1)))) ∧ (¬ C v0.toNat 14 ≤ v2 → (okO n (PT v0.toNat 18) 12 ∧ (okI (PT v0.toNat 18) (w32 (w32 (v1 * 19) + v2)) ∧ (∀ C_25 : Cn, C_25 = wr C (PT v0.toNat 18).toNat (w32 (w32 (v1 * 19) + v2)).toNat 0 → (kz12 (C_25, w32 (v2 + 1))))))))
theorem bB_La_openGates_12 (n : Nat) (v0 v1 : Int) (kz2 : Cn × Int → Prop) (Q : Int → Cn → Prop) (hkz2 : ∀ (Cz : Cn) (z1 : Int), kz2 (Cz, z1) → AW p l e R s m args below meth c E M_La_openGates true (fun r C2 n2 => n2 = n ∧ Q r C2) n 0 0 2 [(2, v0), (0, z1), (9, 0)] [] Cz) (kz12 : Cn × Int → Prop) (hkz12 : ∀ (Cz : Cn) (z2 : Int), kz12 (Cz, z2) → AW p l e R s m args below meth c E M_La_openGates true (fun r C2 n2 => n2 = n ∧ Q r C2) n 0 0 12 [(2, v0), (0, v1), (0, z2)] [] Cz) (C : Cn) (v2 : Int) (h : B_La_openGates_12 n v0 v1 kz2 Q kz12 (C, v2)) : AW p l e R s m args below meth c E M_La_openGates true (fun r C2 n2 => n2 = n ∧ Q r C2) n 0 0 12 [(2, v0), (0, v1), (0, v2)] [] C := by
  unfold B_La_openGates_12 at h
  dsimp only at h
  refine AW.iload_n (dc hd_La_openGates 8 rfl) rfl ?_
  refine AW.ra_n (dc hd_La_openGates 9 rfl) rfl rfl rfl ?_
  obtain ⟨g_21, h⟩ := h
  refine AW.getf fl_2_132 (dc hd_La_openGates 10 rfl) g_21 ?_
  refine AW.icmp_ge (t := 38) (dc hd_La_openGates 11 rfl) (by decide) (fun c_22 => ?_) (fun c_22 => ?_)
  · have h := h.1 c_22
    refine AW.iinc [(2, v0), (0, w32 (v1 + 1)), (0, v2)] (dc hd_La_openGates 23 rfl) rfl (Nat.le_of_ble_eq_true rfl) rfl rfl ?_
    refine AW.goto (t := 2) (dc hd_La_openGates 24 rfl) (by decide) ?_
    refine AW.fgt [(2, v0), (0, w32 (v1 + 1)), (9, 0)] ⟨.inl rfl, .inl rfl, .inr rfl, trivial⟩ ?_
    exact hkz2 C (w32 (v1 + 1)) h
  · have h := h.2 c_22
    refine AW.ra_n (dc hd_La_openGates 12 rfl) rfl rfl rfl ?_
    refine AW.getp fl_2_54 (dc hd_La_openGates 13 rfl) g_21 rfl ?_
    refine AW.iload_n (dc hd_La_openGates 14 rfl) rfl ?_
    refine AW.bipush (dc hd_La_openGates 15 rfl) (by decide) (by decide +kernel) ?_
    refine AW.imul (dc hd_La_openGates 16 rfl) ?_
    refine AW.iload_n (dc hd_La_openGates 17 rfl) rfl ?_
    refine AW.iadd (dc hd_La_openGates 18 rfl) ?_
    refine AW.iconst (dc hd_La_openGates 19 rfl) (by decide) ?_
    obtain ⟨g_23, h⟩ := h
    obtain ⟨g_24, h⟩ := h
    refine AW.niast (dc hd_La_openGates 20 rfl) g_23 g_24 (fun C_25 eC_25 => ?_)
    have h := h C_25 eC_25
    refine AW.iinc [(2, v0), (0, v1), (0, w32 (v2 + 1))] (dc hd_La_openGates 21 rfl) rfl (Nat.le_of_ble_eq_true rfl) rfl rfl ?_
    refine AW.goto (t := 12) (dc hd_La_openGates 22 rfl) (by decide) ?_
    exact hkz12 C_25 (w32 (v2 + 1)) h
theorem aB_La_openGates_12 (n : Nat) (v0 v1 : Int) (kz2 : Cn × Int → Prop) (Q : Int → Cn → Prop) (hkz2 : ∀ (Cz : Cn) (z1 : Int), kz2 (Cz, z1) → AW p l e R s m args below meth c E M_La_openGates true (fun r C2 n2 => n2 = n ∧ Q r C2) n 0 0 2 [(2, v0), (0, z1), (9, 0)] [] Cz) : ∀ (f : Nat) (z : Cn × Int), lp (B_La_openGates_12 n v0 v1 kz2 Q) f z → AW p l e R s m args below meth c E M_La_openGates true (fun r C2 n2 => n2 = n ∧ Q r C2) n 0 0 12 [(2, v0), (0, v1), (0, z.2)] [] (z.1) := by
  intro f
  induction f with
  | zero => intro z h; exact False.elim h
  | succ f ih => intro z h; exact bB_La_openGates_12 n v0 v1 kz2 Q hkz2 (lp (B_La_openGates_12 n v0 v1 kz2 Q) f) (fun a0 a1 h => ih (a0, a1) h) z.1 z.2 h
def B_La_openGates_2 (n : Nat) (v0 : Int) (Q : Int → Cn → Prop) (kz2 : Cn × Int → Prop) (z : Cn × Int) : Prop := match z with
  | (C, v1) => okO n v0 2 ∧ ((C v0.toNat 14 ≤ v1 → (∃ f_20 : Nat, lp (B_La_openGates_46 n v0 Q) f_20 (C, 0))) ∧ (¬ C v0.toNat 14 ≤ v1 → (∃ f_26 : Nat, lp (B_La_openGates_12 n v0 v1 kz2 Q) f_26 (C, 0))))
theorem bB_La_openGates_2 (n : Nat) (v0 : Int) (Q : Int → Cn → Prop) (kz2 : Cn × Int → Prop) (hkz2 : ∀ (Cz : Cn) (z1 : Int), kz2 (Cz, z1) → AW p l e R s m args below meth c E M_La_openGates true (fun r C2 n2 => n2 = n ∧ Q r C2) n 0 0 2 [(2, v0), (0, z1), (9, 0)] [] Cz) (C : Cn) (v1 : Int) (h : B_La_openGates_2 n v0 Q kz2 (C, v1)) : AW p l e R s m args below meth c E M_La_openGates true (fun r C2 n2 => n2 = n ∧ Q r C2) n 0 0 2 [(2, v0), (0, v1), (9, 0)] [] C := by
  unfold B_La_openGates_2 at h
  dsimp only at h
  refine AW.iload_n (dc hd_La_openGates 2 rfl) rfl ?_
  refine AW.ra_n (dc hd_La_openGates 3 rfl) rfl rfl rfl ?_
  obtain ⟨g_1, h⟩ := h
  refine AW.getf fl_2_132 (dc hd_La_openGates 4 rfl) g_1 ?_
  refine AW.icmp_ge (t := 44) (dc hd_La_openGates 5 rfl) (by decide) (fun c_2 => ?_) (fun c_2 => ?_)
  · have h := h.1 c_2
    refine AW.iconst (dc hd_La_openGates 25 rfl) (by decide) ?_
    refine AW.istore_n [(2, v0), (0, 0), (9, 0)] (dc hd_La_openGates 26 rfl) (Nat.le_of_ble_eq_true rfl) rfl rfl ?_
    obtain ⟨f_20, h⟩ := h
    exact aB_La_openGates_46 n v0 Q f_20 (C, 0) h
  · have h := h.2 c_2
    refine AW.iconst (dc hd_La_openGates 6 rfl) (by decide) ?_
    refine AW.istore_n [(2, v0), (0, v1), (0, 0)] (dc hd_La_openGates 7 rfl) (Nat.le_of_ble_eq_true rfl) rfl rfl ?_
    obtain ⟨f_26, h⟩ := h
    exact aB_La_openGates_12 n v0 v1 kz2 Q hkz2 f_26 (C, 0) h
theorem aB_La_openGates_2 (n : Nat) (v0 : Int) (Q : Int → Cn → Prop) : ∀ (f : Nat) (z : Cn × Int), lp (B_La_openGates_2 n v0 Q) f z → AW p l e R s m args below meth c E M_La_openGates true (fun r C2 n2 => n2 = n ∧ Q r C2) n 0 0 2 [(2, v0), (0, z.2), (9, 0)] [] (z.1) := by
  intro f
  induction f with
  | zero => intro z h; exact False.elim h
  | succ f ih => intro z h; exact bB_La_openGates_2 n v0 Q (lp (B_La_openGates_2 n v0 Q) f) (fun a0 a1 h => ih (a0, a1) h) z.1 z.2 h
def P_La_openGates (n : Nat) (C : Cn) (v0 : Int) (Q : Int → Cn → Prop) : Prop :=
  ∃ f_27 : Nat, lp (B_La_openGates_2 n v0 Q) f_27 (C, 0)
theorem m_La_openGates (l : Launch) (E : Ev) (n : Nat) (C : Cn) (v0 : Int) (Q : Int → Cn → Prop) (h : P_La_openGates n C v0 Q) : MA l y_La_openGates M_La_openGates E true C n [(2, v0)] (fun r C2 n2 => n2 = n ∧ Q r C2) := by
  refine MA.of (by decide) rfl rfl 2 rfl (fun p e s m args below meth c => ?_)
  show AW p l e _ s m args below meth c E M_La_openGates true _ n 0 0 0 [(2, v0), (9, 0), (9, 0)] [] C
  unfold P_La_openGates at h
  refine AW.iconst (dc hd_La_openGates 0 rfl) (by decide) ?_
  refine AW.istore_n [(2, v0), (0, 0), (9, 0)] (dc hd_La_openGates 1 rfl) (Nat.le_of_ble_eq_true rfl) rfl rfl ?_
  obtain ⟨f_27, h⟩ := h
  exact aB_La_openGates_2 n v0 Q f_27 (C, 0) h
def B_La_survey_20 (n : Nat) (v0 v1 : Int) (Q : Int → Cn → Prop) (kz20 : Cn × Int → Prop) (z : Cn × Int) : Prop := match z with
  | (C, v2) => okO n v0 2 ∧ ((C v0.toNat 1 < v2 → (P_La_joinFields n C v0 (fun (_ : Int) (C_11 : Cn) => P_La_openGates n C_11 v0 (fun (_ : Int) (C_15 : Cn) => Q 0 C_15)))) ∧ (¬ C v0.toNat 1 < v2 → (P_La_stackSegments n C v0 v1 v2 (fun (_ : Int) (C_19 : Cn) => P_La_layCells n C_19 v0 v2 (fun (_ : Int) (C_23 : Cn) => kz20 (C_23, w32 (v2 + 1)))))))
theorem bB_La_survey_20 (n : Nat) (v0 v1 : Int) (Q : Int → Cn → Prop) (kz20 : Cn × Int → Prop) (hkz20 : ∀ (Cz : Cn) (z2 : Int), kz20 (Cz, z2) → AW p l e R s m args below meth c E M_La_survey true (fun r C2 n2 => n2 = n ∧ Q r C2) n 0 0 20 [(2, v0), (2, v1), (0, z2)] [] Cz) (C : Cn) (v2 : Int) (h : B_La_survey_20 n v0 v1 Q kz20 (C, v2)) : AW p l e R s m args below meth c E M_La_survey true (fun r C2 n2 => n2 = n ∧ Q r C2) n 0 0 20 [(2, v0), (2, v1), (0, v2)] [] C := by
  unfold B_La_survey_20 at h
  dsimp only at h
  refine AW.iload_n (dc hd_La_survey 12 rfl) rfl ?_
  refine AW.ra_n (dc hd_La_survey 13 rfl) rfl rfl rfl ?_
  obtain ⟨g_9, h⟩ := h
  refine AW.getf fl_2_73 (dc hd_La_survey 14 rfl) g_9 ?_
  refine AW.icmp_gt (t := 45) (dc hd_La_survey 15 rfl) (by decide) (fun c_10 => ?_) (fun c_10 => ?_)
  · have h := h.1 c_10
    refine AW.ra_n (dc hd_La_survey 25 rfl) rfl rfl rfl ?_
    refine AW.callV (As := []) (rest := []) (ci := 2) (m_La_joinFields l E n C v0 _ h) cb_2_84 im_La_joinFields se_La_joinFields ⟨_, _, rfl⟩ (by decide) (dc hd_La_survey 26 rfl) g_9 rfl rfl ⟨Nat.le_of_ble_eq_true rfl, Nat.le_of_ble_eq_true rfl⟩ ⟨(Nat.le_of_ble_eq_true rfl), (Nat.le_of_ble_eq_true rfl)⟩ (Nat.le_of_ble_eq_true rfl) (fun _ h => by cases h) (fun _ => rfl) (fun u_13 C_11 d_14 q_12 => ?_)
    obtain ⟨q_12a, h⟩ := q_12
    subst d_14
    show AW p l e _ s m args below meth c E M_La_survey true _ n _ _ _ [(2, v0), (2, v1), (0, v2)] [] C_11
    refine AW.ra_n (dc hd_La_survey 27 rfl) rfl rfl rfl ?_
    refine AW.callV (As := []) (rest := []) (ci := 2) (m_La_openGates l E n C_11 v0 _ h) cb_2_87 im_La_openGates se_La_openGates ⟨_, _, rfl⟩ (by decide) (dc hd_La_survey 28 rfl) g_9 rfl rfl ⟨Nat.le_of_ble_eq_true rfl, Nat.le_of_ble_eq_true rfl⟩ ⟨(Nat.le_of_ble_eq_true rfl), (Nat.le_of_ble_eq_true rfl)⟩ (Nat.le_of_ble_eq_true rfl) (fun _ h => by cases h) (fun _ => rfl) (fun u_17 C_15 d_18 q_16 => ?_)
    obtain ⟨q_16a, h⟩ := q_16
    subst d_18
    show AW p l e _ s m args below meth c E M_La_survey true _ n _ _ _ [(2, v0), (2, v1), (0, v2)] [] C_15
    exact AW.vret (dc hd_La_survey 29 rfl) rfl rfl (Nat.le_of_ble_eq_true rfl) (Nat.le_of_ble_eq_true rfl) ⟨rfl, h⟩
  · have h := h.2 c_10
    refine AW.ra_n (dc hd_La_survey 16 rfl) rfl rfl rfl ?_
    refine AW.ra_n (dc hd_La_survey 17 rfl) rfl rfl rfl ?_
    refine AW.iload_n (dc hd_La_survey 18 rfl) rfl ?_
    refine AW.callV (As := [(2, v1), (0, v2)]) (rest := []) (ci := 2) (m_La_stackSegments l E n C v0 v1 v2 _ h) cb_2_76 im_La_stackSegments se_La_stackSegments ⟨_, _, rfl⟩ (by decide) (dc hd_La_survey 19 rfl) g_9 rfl rfl ⟨Nat.le_of_ble_eq_true rfl, Nat.le_of_ble_eq_true rfl⟩ ⟨(Nat.le_of_ble_eq_true rfl), (Nat.le_of_ble_eq_true rfl)⟩ (Nat.le_of_ble_eq_true rfl) (fun _ h => by cases h) (fun _ => rfl) (fun u_21 C_19 d_22 q_20 => ?_)
    obtain ⟨q_20a, h⟩ := q_20
    subst d_22
    show AW p l e _ s m args below meth c E M_La_survey true _ n _ _ _ [(2, v0), (2, v1), (0, v2)] [] C_19
    refine AW.ra_n (dc hd_La_survey 20 rfl) rfl rfl rfl ?_
    refine AW.iload_n (dc hd_La_survey 21 rfl) rfl ?_
    refine AW.callV (As := [(0, v2)]) (rest := []) (ci := 2) (m_La_layCells l E n C_19 v0 v2 _ h) cb_2_80 im_La_layCells se_La_layCells ⟨_, _, rfl⟩ (by decide) (dc hd_La_survey 22 rfl) g_9 rfl rfl ⟨Nat.le_of_ble_eq_true rfl, Nat.le_of_ble_eq_true rfl⟩ ⟨(Nat.le_of_ble_eq_true rfl), (Nat.le_of_ble_eq_true rfl)⟩ (Nat.le_of_ble_eq_true rfl) (fun _ h => by cases h) (fun _ => rfl) (fun u_25 C_23 d_26 q_24 => ?_)
    obtain ⟨q_24a, h⟩ := q_24
    subst d_26
    show AW p l e _ s m args below meth c E M_La_survey true _ n _ _ _ [(2, v0), (2, v1), (0, v2)] [] C_23
    refine AW.iinc [(2, v0), (2, v1), (0, w32 (v2 + 1))] (dc hd_La_survey 23 rfl) rfl (Nat.le_of_ble_eq_true rfl) rfl rfl ?_
    refine AW.goto (t := 20) (dc hd_La_survey 24 rfl) (by decide) ?_
    exact hkz20 C_23 (w32 (v2 + 1)) h
theorem aB_La_survey_20 (n : Nat) (v0 v1 : Int) (Q : Int → Cn → Prop) : ∀ (f : Nat) (z : Cn × Int), lp (B_La_survey_20 n v0 v1 Q) f z → AW p l e R s m args below meth c E M_La_survey true (fun r C2 n2 => n2 = n ∧ Q r C2) n 0 0 20 [(2, v0), (2, v1), (0, z.2)] [] (z.1) := by
  intro f
  induction f with
  | zero => intro z h; exact False.elim h
  | succ f ih => intro z h; exact bB_La_survey_20 n v0 v1 Q (lp (B_La_survey_20 n v0 v1 Q) f) (fun a0 a1 h => ih (a0, a1) h) z.1 z.2 h
def P_La_survey (n : Nat) (C : Cn) (v0 v1 : Int) (Q : Int → Cn → Prop) : Prop :=
  okO n v1 1 ∧ (okO n v0 2 ∧ (∀ C_3 : Cn, C_3 = wr C v0.toNat 0 (C v1.toNat 1) → (P_La_findEnds n C_3 v0 v1 (fun (_ : Int) (C_4 : Cn) => ∀ C_8 : Cn, C_8 = wr C_4 v0.toNat 8 0 → (∃ f_27 : Nat, lp (B_La_survey_20 n v0 v1 Q) f_27 (C_8, 0))))))
theorem m_La_survey (l : Launch) (E : Ev) (n : Nat) (C : Cn) (v0 v1 : Int) (Q : Int → Cn → Prop) (h : P_La_survey n C v0 v1 Q) : MA l y_La_survey M_La_survey E true C n [(2, v0), (2, v1)] (fun r C2 n2 => n2 = n ∧ Q r C2) := by
  refine MA.of (by decide) rfl rfl 1 rfl (fun p e s m args below meth c => ?_)
  show AW p l e _ s m args below meth c E M_La_survey true _ n 0 0 0 [(2, v0), (2, v1), (9, 0)] [] C
  unfold P_La_survey at h
  refine AW.ra_n (dc hd_La_survey 0 rfl) rfl rfl rfl ?_
  refine AW.ra_n (dc hd_La_survey 1 rfl) rfl rfl rfl ?_
  obtain ⟨g_1, h⟩ := h
  refine AW.getf fl_2_57 (dc hd_La_survey 2 rfl) g_1 ?_
  obtain ⟨g_2, h⟩ := h
  refine AW.nputI fl_2_63 (dc hd_La_survey 3 rfl) g_2 (fun C_3 eC_3 => ?_)
  have h := h C_3 eC_3
  refine AW.ra_n (dc hd_La_survey 4 rfl) rfl rfl rfl ?_
  refine AW.ra_n (dc hd_La_survey 5 rfl) rfl rfl rfl ?_
  refine AW.callV (As := [(2, v1)]) (rest := []) (ci := 2) (m_La_findEnds l E n C_3 v0 v1 _ h) cb_2_66 im_La_findEnds se_La_findEnds ⟨_, _, rfl⟩ (by decide) (dc hd_La_survey 6 rfl) g_2 rfl rfl ⟨Nat.le_of_ble_eq_true rfl, Nat.le_of_ble_eq_true rfl⟩ ⟨(Nat.le_of_ble_eq_true rfl), (Nat.le_of_ble_eq_true rfl)⟩ (Nat.le_of_ble_eq_true rfl) (fun _ h => by cases h) (fun _ => rfl) (fun u_6 C_4 d_7 q_5 => ?_)
  obtain ⟨q_5a, h⟩ := q_5
  subst d_7
  show AW p l e _ s m args below meth c E M_La_survey true _ n _ _ _ [(2, v0), (2, v1), (9, 0)] [] C_4
  refine AW.ra_n (dc hd_La_survey 7 rfl) rfl rfl rfl ?_
  refine AW.iconst (dc hd_La_survey 8 rfl) (by decide) ?_
  refine AW.nputI fl_2_70 (dc hd_La_survey 9 rfl) g_2 (fun C_8 eC_8 => ?_)
  have h := h C_8 eC_8
  refine AW.iconst (dc hd_La_survey 10 rfl) (by decide) ?_
  refine AW.istore_n [(2, v0), (2, v1), (0, 0)] (dc hd_La_survey 11 rfl) (Nat.le_of_ble_eq_true rfl) rfl rfl ?_
  obtain ⟨f_27, h⟩ := h
  exact aB_La_survey_20 n v0 v1 Q f_27 (C_8, 0) h
def J_La_tollBetween_37 (n : Nat) (C : Cn) (s0 : Int) (Q : Int → Prop) : Prop :=
  Q s0
theorem aJ_La_tollBetween_37 (n : Nat) (C : Cn) (s0 : Int) (Q : Int → Prop) (h : J_La_tollBetween_37 n C s0 Q) : AW p l e R s m args below meth c E M_La_tollBetween true (fun r C2 n2 => C2 = C ∧ n2 = n ∧ Q r) n 0 0 37 [(9, 0), (9, 0), (9, 0), (9, 0), (9, 0)] [(0, s0)] C := by
  unfold J_La_tollBetween_37 at h
  exact AW.iret (dc hd_La_tollBetween 24 rfl) rfl rfl (Nat.le_of_ble_eq_true rfl) (Nat.le_of_ble_eq_true rfl) ⟨rfl, rfl, h⟩
def P_La_tollBetween (n : Nat) (C : Cn) (v0 v1 v2 v3 : Int) (Q : Int → Prop) : Prop :=
  okO n v0 2 ∧ (okO n (PT v0.toNat 18) 12 ∧ (okI (PT v0.toNat 18) (w32 (w32 (v1 * 19) + v2)) ∧ (∀ v4_4 : Int, v4_4 = C (PT v0.toNat 18).toNat (w32 (w32 (v1 * 19) + v2)).toNat → ((v4_4 < 2 → (J_La_tollBetween_37 n C (if v4_4 = 1 then 0 else (-1)) Q)) ∧ (¬ v4_4 < 2 → (okO n v3 12 ∧ (okI v3 (w32 (v4_4 - 2)) ∧ (Q (C v3.toNat (w32 (v4_4 - 2)).toNat)))))))))
theorem m_La_tollBetween (l : Launch) (E : Ev) (n : Nat) (C : Cn) (v0 v1 v2 v3 : Int) (Q : Int → Prop) (h : P_La_tollBetween n C v0 v1 v2 v3 Q) : MA l y_La_tollBetween M_La_tollBetween E true C n [(2, v0), (0, v1), (0, v2), (2, v3)] (fun r C2 n2 => C2 = C ∧ n2 = n ∧ Q r) := by
  refine MA.of (by decide) rfl rfl 1 rfl (fun p e s m args below meth c => ?_)
  show AW p l e _ s m args below meth c E M_La_tollBetween true _ n 0 0 0 [(2, v0), (0, v1), (0, v2), (2, v3), (9, 0)] [] C
  unfold P_La_tollBetween at h
  refine AW.ra_n (dc hd_La_tollBetween 0 rfl) rfl rfl rfl ?_
  obtain ⟨g_1, h⟩ := h
  refine AW.getp fl_2_54 (dc hd_La_tollBetween 1 rfl) g_1 rfl ?_
  refine AW.iload_n (dc hd_La_tollBetween 2 rfl) rfl ?_
  refine AW.bipush (dc hd_La_tollBetween 3 rfl) (by decide) (by decide +kernel) ?_
  refine AW.imul (dc hd_La_tollBetween 4 rfl) ?_
  refine AW.iload_n (dc hd_La_tollBetween 5 rfl) rfl ?_
  refine AW.iadd (dc hd_La_tollBetween 6 rfl) ?_
  obtain ⟨g_2, h⟩ := h
  obtain ⟨g_3, h⟩ := h
  refine AW.iald (dc hd_La_tollBetween 7 rfl) g_2 g_3 ?_
  refine AW.nm (fun v4_4 ev4_4 => ?_)
  have h := h v4_4 ev4_4
  refine AW.istore [(2, v0), (0, v1), (0, v2), (2, v3), (0, v4_4)] (dc hd_La_tollBetween 8 rfl) (Nat.le_of_ble_eq_true rfl) rfl rfl ?_
  refine AW.iload (dc hd_La_tollBetween 9 rfl) rfl ?_
  refine AW.iconst (dc hd_La_tollBetween 10 rfl) (by decide) ?_
  refine AW.icmp_lt (t := 26) (dc hd_La_tollBetween 11 rfl) (by decide) (fun c_5 => ?_) (fun c_5 => ?_)
  · have h := h.1 c_5
    refine AW.iload (dc hd_La_tollBetween 18 rfl) rfl ?_
    refine AW.iconst (dc hd_La_tollBetween 19 rfl) (by decide) ?_
    refine AW.icmp_ne (t := 36) (dc hd_La_tollBetween 20 rfl) (by decide) (fun c_7 => ?_) (fun c_7 => ?_)
    · simp only [if_neg (show ¬ (v4_4 = 1) from c_7)] at h
      refine AW.iconst (dc hd_La_tollBetween 23 rfl) (by decide) ?_
      refine AW.fgt [(9, 0), (9, 0), (9, 0), (9, 0), (9, 0)] ⟨.inr rfl, .inr rfl, .inr rfl, .inr rfl, .inr rfl, trivial⟩ ?_
      exact aJ_La_tollBetween_37 n C _ Q h
    · simp only [if_pos (show v4_4 = 1 from c_7)] at h
      refine AW.iconst (dc hd_La_tollBetween 21 rfl) (by decide) ?_
      refine AW.goto (t := 37) (dc hd_La_tollBetween 22 rfl) (by decide) ?_
      refine AW.fgt [(9, 0), (9, 0), (9, 0), (9, 0), (9, 0)] ⟨.inr rfl, .inr rfl, .inr rfl, .inr rfl, .inr rfl, trivial⟩ ?_
      exact aJ_La_tollBetween_37 n C _ Q h
  · have h := h.2 c_5
    refine AW.ra_n (dc hd_La_tollBetween 12 rfl) rfl rfl rfl ?_
    refine AW.iload (dc hd_La_tollBetween 13 rfl) rfl ?_
    refine AW.iconst (dc hd_La_tollBetween 14 rfl) (by decide) ?_
    refine AW.isub (dc hd_La_tollBetween 15 rfl) ?_
    obtain ⟨g_8, h⟩ := h
    obtain ⟨g_9, h⟩ := h
    refine AW.iald (dc hd_La_tollBetween 16 rfl) g_8 g_9 ?_
    exact AW.iret (dc hd_La_tollBetween 17 rfl) rfl rfl (Nat.le_of_ble_eq_true rfl) (Nat.le_of_ble_eq_true rfl) ⟨rfl, rfl, h⟩
def B_La_twosAtSegments_14 (n : Nat) (C : Cn) (v0 v2 : Int) (kz4 : Int × Int → Prop) (Q : Int → Prop) (kz14 : Int × Int → Prop) (z : Int × Int) : Prop := match z with
  | (v1, v3) => (v2 ≤ v3 → (kz4 (v1, w32 (v2 + 1)))) ∧ (¬ v2 ≤ v3 → (okO n v0 2 ∧ (okO n (PT v0.toNat 18) 12 ∧ (okI (PT v0.toNat 18) (w32 (w32 (v2 * 19) + v3)) ∧ ((C (PT v0.toNat 18).toNat (w32 (w32 (v2 * 19) + v3)).toNat < 2 → (kz14 (v1, w32 (v3 + 1)))) ∧ (¬ C (PT v0.toNat 18).toNat (w32 (w32 (v2 * 19) + v3)).toNat < 2 → (kz14 (w32 (v1 + 1), w32 (v3 + 1)))))))))
theorem bB_La_twosAtSegments_14 (n : Nat) (C : Cn) (v0 v2 : Int) (kz4 : Int × Int → Prop) (Q : Int → Prop) (hkz4 : ∀ (z1 : Int) (z2 : Int), kz4 (z1, z2) → AW p l e R s m args below meth c E M_La_twosAtSegments true (fun r C2 n2 => C2 = C ∧ n2 = n ∧ Q r) n 0 0 4 [(2, v0), (0, z1), (0, z2), (9, 0)] [] C) (kz14 : Int × Int → Prop) (hkz14 : ∀ (z1 : Int) (z3 : Int), kz14 (z1, z3) → AW p l e R s m args below meth c E M_La_twosAtSegments true (fun r C2 n2 => C2 = C ∧ n2 = n ∧ Q r) n 0 0 14 [(2, v0), (0, z1), (0, v2), (0, z3)] [] C) (v1 : Int) (v3 : Int) (h : B_La_twosAtSegments_14 n C v0 v2 kz4 Q kz14 (v1, v3)) : AW p l e R s m args below meth c E M_La_twosAtSegments true (fun r C2 n2 => C2 = C ∧ n2 = n ∧ Q r) n 0 0 14 [(2, v0), (0, v1), (0, v2), (0, v3)] [] C := by
  unfold B_La_twosAtSegments_14 at h
  dsimp only at h
  refine AW.iload_n (dc hd_La_twosAtSegments 10 rfl) rfl ?_
  refine AW.iload_n (dc hd_La_twosAtSegments 11 rfl) rfl ?_
  refine AW.icmp_ge (t := 43) (dc hd_La_twosAtSegments 12 rfl) (by decide) (fun c_3 => ?_) (fun c_3 => ?_)
  · have h := h.1 c_3
    refine AW.iinc [(2, v0), (0, v1), (0, w32 (v2 + 1)), (0, v3)] (dc hd_La_twosAtSegments 26 rfl) rfl (Nat.le_of_ble_eq_true rfl) rfl rfl ?_
    refine AW.goto (t := 4) (dc hd_La_twosAtSegments 27 rfl) (by decide) ?_
    refine AW.fgt [(2, v0), (0, v1), (0, w32 (v2 + 1)), (9, 0)] ⟨.inl rfl, .inl rfl, .inl rfl, .inr rfl, trivial⟩ ?_
    exact hkz4 v1 (w32 (v2 + 1)) h
  · have h := h.2 c_3
    refine AW.ra_n (dc hd_La_twosAtSegments 13 rfl) rfl rfl rfl ?_
    obtain ⟨g_4, h⟩ := h
    refine AW.getp fl_2_54 (dc hd_La_twosAtSegments 14 rfl) g_4 rfl ?_
    refine AW.iload_n (dc hd_La_twosAtSegments 15 rfl) rfl ?_
    refine AW.bipush (dc hd_La_twosAtSegments 16 rfl) (by decide) (by decide +kernel) ?_
    refine AW.imul (dc hd_La_twosAtSegments 17 rfl) ?_
    refine AW.iload_n (dc hd_La_twosAtSegments 18 rfl) rfl ?_
    refine AW.iadd (dc hd_La_twosAtSegments 19 rfl) ?_
    obtain ⟨g_5, h⟩ := h
    obtain ⟨g_6, h⟩ := h
    refine AW.iald (dc hd_La_twosAtSegments 20 rfl) g_5 g_6 ?_
    refine AW.iconst (dc hd_La_twosAtSegments 21 rfl) (by decide) ?_
    refine AW.icmp_lt (t := 37) (dc hd_La_twosAtSegments 22 rfl) (by decide) (fun c_7 => ?_) (fun c_7 => ?_)
    · have h := h.1 c_7
      refine AW.iinc [(2, v0), (0, v1), (0, v2), (0, w32 (v3 + 1))] (dc hd_La_twosAtSegments 24 rfl) rfl (Nat.le_of_ble_eq_true rfl) rfl rfl ?_
      refine AW.goto (t := 14) (dc hd_La_twosAtSegments 25 rfl) (by decide) ?_
      exact hkz14 v1 (w32 (v3 + 1)) h
    · have h := h.2 c_7
      refine AW.iinc [(2, v0), (0, w32 (v1 + 1)), (0, v2), (0, v3)] (dc hd_La_twosAtSegments 23 rfl) rfl (Nat.le_of_ble_eq_true rfl) rfl rfl ?_
      refine AW.iinc [(2, v0), (0, w32 (v1 + 1)), (0, v2), (0, w32 (v3 + 1))] (dc hd_La_twosAtSegments 24 rfl) rfl (Nat.le_of_ble_eq_true rfl) rfl rfl ?_
      refine AW.goto (t := 14) (dc hd_La_twosAtSegments 25 rfl) (by decide) ?_
      exact hkz14 (w32 (v1 + 1)) (w32 (v3 + 1)) h
theorem aB_La_twosAtSegments_14 (n : Nat) (C : Cn) (v0 v2 : Int) (kz4 : Int × Int → Prop) (Q : Int → Prop) (hkz4 : ∀ (z1 : Int) (z2 : Int), kz4 (z1, z2) → AW p l e R s m args below meth c E M_La_twosAtSegments true (fun r C2 n2 => C2 = C ∧ n2 = n ∧ Q r) n 0 0 4 [(2, v0), (0, z1), (0, z2), (9, 0)] [] C) : ∀ (f : Nat) (z : Int × Int), lp (B_La_twosAtSegments_14 n C v0 v2 kz4 Q) f z → AW p l e R s m args below meth c E M_La_twosAtSegments true (fun r C2 n2 => C2 = C ∧ n2 = n ∧ Q r) n 0 0 14 [(2, v0), (0, z.1), (0, v2), (0, z.2)] [] C := by
  intro f
  induction f with
  | zero => intro z h; exact False.elim h
  | succ f ih => intro z h; exact bB_La_twosAtSegments_14 n C v0 v2 kz4 Q hkz4 (lp (B_La_twosAtSegments_14 n C v0 v2 kz4 Q) f) (fun a0 a1 h => ih (a0, a1) h) z.1 z.2 h
def B_La_twosAtSegments_4 (n : Nat) (C : Cn) (v0 : Int) (Q : Int → Prop) (kz4 : Int × Int → Prop) (z : Int × Int) : Prop := match z with
  | (v1, v2) => okO n v0 2 ∧ ((C v0.toNat 14 ≤ v2 → (Q v1)) ∧ (¬ C v0.toNat 14 ≤ v2 → (∃ f_8 : Nat, lp (B_La_twosAtSegments_14 n C v0 v2 kz4 Q) f_8 (v1, 0))))
theorem bB_La_twosAtSegments_4 (n : Nat) (C : Cn) (v0 : Int) (Q : Int → Prop) (kz4 : Int × Int → Prop) (hkz4 : ∀ (z1 : Int) (z2 : Int), kz4 (z1, z2) → AW p l e R s m args below meth c E M_La_twosAtSegments true (fun r C2 n2 => C2 = C ∧ n2 = n ∧ Q r) n 0 0 4 [(2, v0), (0, z1), (0, z2), (9, 0)] [] C) (v1 : Int) (v2 : Int) (h : B_La_twosAtSegments_4 n C v0 Q kz4 (v1, v2)) : AW p l e R s m args below meth c E M_La_twosAtSegments true (fun r C2 n2 => C2 = C ∧ n2 = n ∧ Q r) n 0 0 4 [(2, v0), (0, v1), (0, v2), (9, 0)] [] C := by
  unfold B_La_twosAtSegments_4 at h
  dsimp only at h
  refine AW.iload_n (dc hd_La_twosAtSegments 4 rfl) rfl ?_
  refine AW.ra_n (dc hd_La_twosAtSegments 5 rfl) rfl rfl rfl ?_
  obtain ⟨g_1, h⟩ := h
  refine AW.getf fl_2_132 (dc hd_La_twosAtSegments 6 rfl) g_1 ?_
  refine AW.icmp_ge (t := 49) (dc hd_La_twosAtSegments 7 rfl) (by decide) (fun c_2 => ?_) (fun c_2 => ?_)
  · have h := h.1 c_2
    refine AW.iload_n (dc hd_La_twosAtSegments 28 rfl) rfl ?_
    exact AW.iret (dc hd_La_twosAtSegments 29 rfl) rfl rfl (Nat.le_of_ble_eq_true rfl) (Nat.le_of_ble_eq_true rfl) ⟨rfl, rfl, h⟩
  · have h := h.2 c_2
    refine AW.iconst (dc hd_La_twosAtSegments 8 rfl) (by decide) ?_
    refine AW.istore_n [(2, v0), (0, v1), (0, v2), (0, 0)] (dc hd_La_twosAtSegments 9 rfl) (Nat.le_of_ble_eq_true rfl) rfl rfl ?_
    obtain ⟨f_8, h⟩ := h
    exact aB_La_twosAtSegments_14 n C v0 v2 kz4 Q hkz4 f_8 (v1, 0) h
theorem aB_La_twosAtSegments_4 (n : Nat) (C : Cn) (v0 : Int) (Q : Int → Prop) : ∀ (f : Nat) (z : Int × Int), lp (B_La_twosAtSegments_4 n C v0 Q) f z → AW p l e R s m args below meth c E M_La_twosAtSegments true (fun r C2 n2 => C2 = C ∧ n2 = n ∧ Q r) n 0 0 4 [(2, v0), (0, z.1), (0, z.2), (9, 0)] [] C := by
  intro f
  induction f with
  | zero => intro z h; exact False.elim h
  | succ f ih => intro z h; exact bB_La_twosAtSegments_4 n C v0 Q (lp (B_La_twosAtSegments_4 n C v0 Q) f) (fun a0 a1 h => ih (a0, a1) h) z.1 z.2 h
def P_La_twosAtSegments (n : Nat) (C : Cn) (v0 : Int) (Q : Int → Prop) : Prop :=
  ∃ f_9 : Nat, lp (B_La_twosAtSegments_4 n C v0 Q) f_9 (0, 0)
theorem m_La_twosAtSegments (l : Launch) (E : Ev) (n : Nat) (C : Cn) (v0 : Int) (Q : Int → Prop) (h : P_La_twosAtSegments n C v0 Q) : MA l y_La_twosAtSegments M_La_twosAtSegments E true C n [(2, v0)] (fun r C2 n2 => C2 = C ∧ n2 = n ∧ Q r) := by
  refine MA.of (by decide) rfl rfl 3 rfl (fun p e s m args below meth c => ?_)
  show AW p l e _ s m args below meth c E M_La_twosAtSegments true _ n 0 0 0 [(2, v0), (9, 0), (9, 0), (9, 0)] [] C
  unfold P_La_twosAtSegments at h
  refine AW.iconst (dc hd_La_twosAtSegments 0 rfl) (by decide) ?_
  refine AW.istore_n [(2, v0), (0, 0), (9, 0), (9, 0)] (dc hd_La_twosAtSegments 1 rfl) (Nat.le_of_ble_eq_true rfl) rfl rfl ?_
  refine AW.iconst (dc hd_La_twosAtSegments 2 rfl) (by decide) ?_
  refine AW.istore_n [(2, v0), (0, 0), (0, 0), (9, 0)] (dc hd_La_twosAtSegments 3 rfl) (Nat.le_of_ble_eq_true rfl) rfl rfl ?_
  obtain ⟨f_9, h⟩ := h
  exact aB_La_twosAtSegments_4 n C v0 Q f_9 (0, 0) h
def B_La_segmentsWith_5 (n : Nat) (C : Cn) (v0 v1 v2 : Int) (Q : Int → Prop) (kz5 : Int × Int → Prop) (z : Int × Int) : Prop := match z with
  | (v3, v4) => okO n v0 2 ∧ ((C v0.toNat 0 ≤ v4 → (Q v3)) ∧ (¬ C v0.toNat 0 ≤ v4 → (okO n v1 12 ∧ (okI v1 v4 ∧ ((C v1.toNat v4.toNat = v2 → (kz5 (w32 (v3 + 1), w32 (v4 + 1)))) ∧ (¬ C v1.toNat v4.toNat = v2 → (kz5 (v3, w32 (v4 + 1)))))))))
theorem bB_La_segmentsWith_5 (n : Nat) (C : Cn) (v0 v1 v2 : Int) (Q : Int → Prop) (kz5 : Int × Int → Prop) (hkz5 : ∀ (z3 : Int) (z4 : Int), kz5 (z3, z4) → AW p l e R s m args below meth c E M_La_segmentsWith true (fun r C2 n2 => C2 = C ∧ n2 = n ∧ Q r) n 0 0 5 [(2, v0), (2, v1), (0, v2), (0, z3), (0, z4)] [] C) (v3 : Int) (v4 : Int) (h : B_La_segmentsWith_5 n C v0 v1 v2 Q kz5 (v3, v4)) : AW p l e R s m args below meth c E M_La_segmentsWith true (fun r C2 n2 => C2 = C ∧ n2 = n ∧ Q r) n 0 0 5 [(2, v0), (2, v1), (0, v2), (0, v3), (0, v4)] [] C := by
  unfold B_La_segmentsWith_5 at h
  dsimp only at h
  refine AW.iload (dc hd_La_segmentsWith 4 rfl) rfl ?_
  refine AW.ra_n (dc hd_La_segmentsWith 5 rfl) rfl rfl rfl ?_
  obtain ⟨g_1, h⟩ := h
  refine AW.getf fl_2_63 (dc hd_La_segmentsWith 6 rfl) g_1 ?_
  refine AW.icmp_ge (t := 31) (dc hd_La_segmentsWith 7 rfl) (by decide) (fun c_2 => ?_) (fun c_2 => ?_)
  · have h := h.1 c_2
    refine AW.iload_n (dc hd_La_segmentsWith 16 rfl) rfl ?_
    exact AW.iret (dc hd_La_segmentsWith 17 rfl) rfl rfl (Nat.le_of_ble_eq_true rfl) (Nat.le_of_ble_eq_true rfl) ⟨rfl, rfl, h⟩
  · have h := h.2 c_2
    refine AW.ra_n (dc hd_La_segmentsWith 8 rfl) rfl rfl rfl ?_
    refine AW.iload (dc hd_La_segmentsWith 9 rfl) rfl ?_
    obtain ⟨g_3, h⟩ := h
    obtain ⟨g_4, h⟩ := h
    refine AW.iald (dc hd_La_segmentsWith 10 rfl) g_3 g_4 ?_
    refine AW.iload_n (dc hd_La_segmentsWith 11 rfl) rfl ?_
    refine AW.icmp_ne (t := 25) (dc hd_La_segmentsWith 12 rfl) (by decide) (fun c_5 => ?_) (fun c_5 => ?_)
    · have h := h.2 c_5
      refine AW.iinc [(2, v0), (2, v1), (0, v2), (0, v3), (0, w32 (v4 + 1))] (dc hd_La_segmentsWith 14 rfl) rfl (Nat.le_of_ble_eq_true rfl) rfl rfl ?_
      refine AW.goto (t := 5) (dc hd_La_segmentsWith 15 rfl) (by decide) ?_
      exact hkz5 v3 (w32 (v4 + 1)) h
    · have h := h.1 c_5
      refine AW.iinc [(2, v0), (2, v1), (0, v2), (0, w32 (v3 + 1)), (0, v4)] (dc hd_La_segmentsWith 13 rfl) rfl (Nat.le_of_ble_eq_true rfl) rfl rfl ?_
      refine AW.iinc [(2, v0), (2, v1), (0, v2), (0, w32 (v3 + 1)), (0, w32 (v4 + 1))] (dc hd_La_segmentsWith 14 rfl) rfl (Nat.le_of_ble_eq_true rfl) rfl rfl ?_
      refine AW.goto (t := 5) (dc hd_La_segmentsWith 15 rfl) (by decide) ?_
      exact hkz5 (w32 (v3 + 1)) (w32 (v4 + 1)) h
theorem aB_La_segmentsWith_5 (n : Nat) (C : Cn) (v0 v1 v2 : Int) (Q : Int → Prop) : ∀ (f : Nat) (z : Int × Int), lp (B_La_segmentsWith_5 n C v0 v1 v2 Q) f z → AW p l e R s m args below meth c E M_La_segmentsWith true (fun r C2 n2 => C2 = C ∧ n2 = n ∧ Q r) n 0 0 5 [(2, v0), (2, v1), (0, v2), (0, z.1), (0, z.2)] [] C := by
  intro f
  induction f with
  | zero => intro z h; exact False.elim h
  | succ f ih => intro z h; exact bB_La_segmentsWith_5 n C v0 v1 v2 Q (lp (B_La_segmentsWith_5 n C v0 v1 v2 Q) f) (fun a0 a1 h => ih (a0, a1) h) z.1 z.2 h
def P_La_segmentsWith (n : Nat) (C : Cn) (v0 v1 v2 : Int) (Q : Int → Prop) : Prop :=
  ∃ f_6 : Nat, lp (B_La_segmentsWith_5 n C v0 v1 v2 Q) f_6 (0, 0)
theorem m_La_segmentsWith (l : Launch) (E : Ev) (n : Nat) (C : Cn) (v0 v1 v2 : Int) (Q : Int → Prop) (h : P_La_segmentsWith n C v0 v1 v2 Q) : MA l y_La_segmentsWith M_La_segmentsWith E true C n [(2, v0), (2, v1), (0, v2)] (fun r C2 n2 => C2 = C ∧ n2 = n ∧ Q r) := by
  refine MA.of (by decide) rfl rfl 2 rfl (fun p e s m args below meth c => ?_)
  show AW p l e _ s m args below meth c E M_La_segmentsWith true _ n 0 0 0 [(2, v0), (2, v1), (0, v2), (9, 0), (9, 0)] [] C
  unfold P_La_segmentsWith at h
  refine AW.iconst (dc hd_La_segmentsWith 0 rfl) (by decide) ?_
  refine AW.istore_n [(2, v0), (2, v1), (0, v2), (0, 0), (9, 0)] (dc hd_La_segmentsWith 1 rfl) (Nat.le_of_ble_eq_true rfl) rfl rfl ?_
  refine AW.iconst (dc hd_La_segmentsWith 2 rfl) (by decide) ?_
  refine AW.istore [(2, v0), (2, v1), (0, v2), (0, 0), (0, 0)] (dc hd_La_segmentsWith 3 rfl) (Nat.le_of_ble_eq_true rfl) rfl rfl ?_
  obtain ⟨f_6, h⟩ := h
  exact aB_La_segmentsWith_5 n C v0 v1 v2 Q f_6 (0, 0) h
def B_La_fieldsWith_5 (n : Nat) (C : Cn) (v0 v1 v2 : Int) (Q : Int → Prop) (kz5 : Int × Int → Prop) (z : Int × Int) : Prop := match z with
  | (v3, v4) => okO n v0 2 ∧ ((C v0.toNat 14 ≤ v4 → (Q v3)) ∧ (¬ C v0.toNat 14 ≤ v4 → (okO n (PT v0.toNat 15) 12 ∧ (okI (PT v0.toNat 15) v4 ∧ (okO n v1 12 ∧ (okI v1 (C (PT v0.toNat 15).toNat v4.toNat) ∧ ((C v1.toNat (C (PT v0.toNat 15).toNat v4.toNat).toNat = v2 → (kz5 (w32 (v3 + 1), w32 (v4 + 1)))) ∧ (¬ C v1.toNat (C (PT v0.toNat 15).toNat v4.toNat).toNat = v2 → (kz5 (v3, w32 (v4 + 1)))))))))))
theorem bB_La_fieldsWith_5 (n : Nat) (C : Cn) (v0 v1 v2 : Int) (Q : Int → Prop) (kz5 : Int × Int → Prop) (hkz5 : ∀ (z3 : Int) (z4 : Int), kz5 (z3, z4) → AW p l e R s m args below meth c E M_La_fieldsWith true (fun r C2 n2 => C2 = C ∧ n2 = n ∧ Q r) n 0 0 5 [(2, v0), (2, v1), (0, v2), (0, z3), (0, z4)] [] C) (v3 : Int) (v4 : Int) (h : B_La_fieldsWith_5 n C v0 v1 v2 Q kz5 (v3, v4)) : AW p l e R s m args below meth c E M_La_fieldsWith true (fun r C2 n2 => C2 = C ∧ n2 = n ∧ Q r) n 0 0 5 [(2, v0), (2, v1), (0, v2), (0, v3), (0, v4)] [] C := by
  unfold B_La_fieldsWith_5 at h
  dsimp only at h
  refine AW.iload (dc hd_La_fieldsWith 4 rfl) rfl ?_
  refine AW.ra_n (dc hd_La_fieldsWith 5 rfl) rfl rfl rfl ?_
  obtain ⟨g_1, h⟩ := h
  refine AW.getf fl_2_132 (dc hd_La_fieldsWith 6 rfl) g_1 ?_
  refine AW.icmp_ge (t := 36) (dc hd_La_fieldsWith 7 rfl) (by decide) (fun c_2 => ?_) (fun c_2 => ?_)
  · have h := h.1 c_2
    refine AW.iload_n (dc hd_La_fieldsWith 19 rfl) rfl ?_
    exact AW.iret (dc hd_La_fieldsWith 20 rfl) rfl rfl (Nat.le_of_ble_eq_true rfl) (Nat.le_of_ble_eq_true rfl) ⟨rfl, rfl, h⟩
  · have h := h.2 c_2
    refine AW.ra_n (dc hd_La_fieldsWith 8 rfl) rfl rfl rfl ?_
    refine AW.ra_n (dc hd_La_fieldsWith 9 rfl) rfl rfl rfl ?_
    refine AW.getp fl_2_45 (dc hd_La_fieldsWith 10 rfl) g_1 rfl ?_
    refine AW.iload (dc hd_La_fieldsWith 11 rfl) rfl ?_
    obtain ⟨g_3, h⟩ := h
    obtain ⟨g_4, h⟩ := h
    refine AW.iald (dc hd_La_fieldsWith 12 rfl) g_3 g_4 ?_
    obtain ⟨g_5, h⟩ := h
    obtain ⟨g_6, h⟩ := h
    refine AW.iald (dc hd_La_fieldsWith 13 rfl) g_5 g_6 ?_
    refine AW.iload_n (dc hd_La_fieldsWith 14 rfl) rfl ?_
    refine AW.icmp_ne (t := 30) (dc hd_La_fieldsWith 15 rfl) (by decide) (fun c_7 => ?_) (fun c_7 => ?_)
    · have h := h.2 c_7
      refine AW.iinc [(2, v0), (2, v1), (0, v2), (0, v3), (0, w32 (v4 + 1))] (dc hd_La_fieldsWith 17 rfl) rfl (Nat.le_of_ble_eq_true rfl) rfl rfl ?_
      refine AW.goto (t := 5) (dc hd_La_fieldsWith 18 rfl) (by decide) ?_
      exact hkz5 v3 (w32 (v4 + 1)) h
    · have h := h.1 c_7
      refine AW.iinc [(2, v0), (2, v1), (0, v2), (0, w32 (v3 + 1)), (0, v4)] (dc hd_La_fieldsWith 16 rfl) rfl (Nat.le_of_ble_eq_true rfl) rfl rfl ?_
      refine AW.iinc [(2, v0), (2, v1), (0, v2), (0, w32 (v3 + 1)), (0, w32 (v4 + 1))] (dc hd_La_fieldsWith 17 rfl) rfl (Nat.le_of_ble_eq_true rfl) rfl rfl ?_
      refine AW.goto (t := 5) (dc hd_La_fieldsWith 18 rfl) (by decide) ?_
      exact hkz5 (w32 (v3 + 1)) (w32 (v4 + 1)) h
theorem aB_La_fieldsWith_5 (n : Nat) (C : Cn) (v0 v1 v2 : Int) (Q : Int → Prop) : ∀ (f : Nat) (z : Int × Int), lp (B_La_fieldsWith_5 n C v0 v1 v2 Q) f z → AW p l e R s m args below meth c E M_La_fieldsWith true (fun r C2 n2 => C2 = C ∧ n2 = n ∧ Q r) n 0 0 5 [(2, v0), (2, v1), (0, v2), (0, z.1), (0, z.2)] [] C := by
  intro f
  induction f with
  | zero => intro z h; exact False.elim h
  | succ f ih => intro z h; exact bB_La_fieldsWith_5 n C v0 v1 v2 Q (lp (B_La_fieldsWith_5 n C v0 v1 v2 Q) f) (fun a0 a1 h => ih (a0, a1) h) z.1 z.2 h
def P_La_fieldsWith (n : Nat) (C : Cn) (v0 v1 v2 : Int) (Q : Int → Prop) : Prop :=
  ∃ f_8 : Nat, lp (B_La_fieldsWith_5 n C v0 v1 v2 Q) f_8 (0, 0)
theorem m_La_fieldsWith (l : Launch) (E : Ev) (n : Nat) (C : Cn) (v0 v1 v2 : Int) (Q : Int → Prop) (h : P_La_fieldsWith n C v0 v1 v2 Q) : MA l y_La_fieldsWith M_La_fieldsWith E true C n [(2, v0), (2, v1), (0, v2)] (fun r C2 n2 => C2 = C ∧ n2 = n ∧ Q r) := by
  refine MA.of (by decide) rfl rfl 2 rfl (fun p e s m args below meth c => ?_)
  show AW p l e _ s m args below meth c E M_La_fieldsWith true _ n 0 0 0 [(2, v0), (2, v1), (0, v2), (9, 0), (9, 0)] [] C
  unfold P_La_fieldsWith at h
  refine AW.iconst (dc hd_La_fieldsWith 0 rfl) (by decide) ?_
  refine AW.istore_n [(2, v0), (2, v1), (0, v2), (0, 0), (9, 0)] (dc hd_La_fieldsWith 1 rfl) (Nat.le_of_ble_eq_true rfl) rfl rfl ?_
  refine AW.iconst (dc hd_La_fieldsWith 2 rfl) (by decide) ?_
  refine AW.istore [(2, v0), (2, v1), (0, v2), (0, 0), (0, 0)] (dc hd_La_fieldsWith 3 rfl) (Nat.le_of_ble_eq_true rfl) rfl rfl ?_
  obtain ⟨f_8, h⟩ := h
  exact aB_La_fieldsWith_5 n C v0 v1 v2 Q f_8 (0, 0) h
def P_La_numberOf (n : Nat) (C : Cn) (v0 v1 v2 : Int) (Q : Int → Prop) : Prop :=
  (v2 = 0 → (okO n v0 2 ∧ (okO n (PT v0.toNat 15) 12 ∧ (okI (PT v0.toNat 15) v1 ∧ (okO n (PT v0.toNat 11) 12 ∧ (okI (PT v0.toNat 11) (C (PT v0.toNat 15).toNat v1.toNat) ∧ (Q (C (PT v0.toNat 11).toNat (C (PT v0.toNat 15).toNat v1.toNat).toNat)))))))) ∧ (v2 = 1 → (okO n v0 2 ∧ (okO n (PT v0.toNat 15) 12 ∧ (okI (PT v0.toNat 15) v1 ∧ (okO n (PT v0.toNat 12) 12 ∧ (okI (PT v0.toNat 12) (C (PT v0.toNat 15).toNat v1.toNat) ∧ (Q (C (PT v0.toNat 12).toNat (C (PT v0.toNat 15).toNat v1.toNat).toNat)))))))) ∧ (v2 = 2 → (okO n v0 2 ∧ (okO n (PT v0.toNat 16) 12 ∧ (okI (PT v0.toNat 16) v1 ∧ (Q (w32 (C (PT v0.toNat 16).toNat v1.toNat - 1))))))) ∧ ((v2 < 0 ∨ 2 < v2) → (okO n v0 2 ∧ (okO n (PT v0.toNat 17) 12 ∧ (okI (PT v0.toNat 17) v1 ∧ ((C v0.toNat 1 ≤ C (PT v0.toNat 17).toNat v1.toNat → (Q (-1))) ∧ (¬ C v0.toNat 1 ≤ C (PT v0.toNat 17).toNat v1.toNat → (Q (C (PT v0.toNat 17).toNat v1.toNat))))))))
theorem m_La_numberOf (l : Launch) (E : Ev) (n : Nat) (C : Cn) (v0 v1 v2 : Int) (Q : Int → Prop) (h : P_La_numberOf n C v0 v1 v2 Q) : MA l y_La_numberOf M_La_numberOf E true C n [(2, v0), (0, v1), (0, v2)] (fun r C2 n2 => C2 = C ∧ n2 = n ∧ Q r) := by
  refine MA.of (by decide) rfl rfl 0 rfl (fun p e s m args below meth c => ?_)
  show AW p l e _ s m args below meth c E M_La_numberOf true _ n 0 0 0 [(2, v0), (0, v1), (0, v2)] [] C
  unfold P_La_numberOf at h
  refine AW.iload_n (dc hd_La_numberOf 0 rfl) rfl ?_
  refine AW.tsw (td := 61) (dc hd_La_numberOf 1 rfl) [28, 40, 52] (by decide +kernel) (by decide) (by decide) (fun j t hj hx => ?_) (fun q_1 => ?_)
  · match j, hj with
    | 0, hj =>
      cases hj
      have h := h.1 (hx.trans (by decide))
      refine AW.ra_n (dc hd_La_numberOf 2 rfl) rfl rfl rfl ?_
      obtain ⟨g_2, h⟩ := h
      refine AW.getp fl_2_36 (dc hd_La_numberOf 3 rfl) g_2 rfl ?_
      refine AW.ra_n (dc hd_La_numberOf 4 rfl) rfl rfl rfl ?_
      refine AW.getp fl_2_45 (dc hd_La_numberOf 5 rfl) g_2 rfl ?_
      refine AW.iload_n (dc hd_La_numberOf 6 rfl) rfl ?_
      obtain ⟨g_3, h⟩ := h
      obtain ⟨g_4, h⟩ := h
      refine AW.iald (dc hd_La_numberOf 7 rfl) g_3 g_4 ?_
      obtain ⟨g_5, h⟩ := h
      obtain ⟨g_6, h⟩ := h
      refine AW.iald (dc hd_La_numberOf 8 rfl) g_5 g_6 ?_
      exact AW.iret (dc hd_La_numberOf 9 rfl) rfl rfl (Nat.le_of_ble_eq_true rfl) (Nat.le_of_ble_eq_true rfl) ⟨rfl, rfl, h⟩
    | 1, hj =>
      cases hj
      have h := h.2.1 (hx.trans (by decide))
      refine AW.ra_n (dc hd_La_numberOf 10 rfl) rfl rfl rfl ?_
      obtain ⟨g_7, h⟩ := h
      refine AW.getp fl_2_39 (dc hd_La_numberOf 11 rfl) g_7 rfl ?_
      refine AW.ra_n (dc hd_La_numberOf 12 rfl) rfl rfl rfl ?_
      refine AW.getp fl_2_45 (dc hd_La_numberOf 13 rfl) g_7 rfl ?_
      refine AW.iload_n (dc hd_La_numberOf 14 rfl) rfl ?_
      obtain ⟨g_8, h⟩ := h
      obtain ⟨g_9, h⟩ := h
      refine AW.iald (dc hd_La_numberOf 15 rfl) g_8 g_9 ?_
      obtain ⟨g_10, h⟩ := h
      obtain ⟨g_11, h⟩ := h
      refine AW.iald (dc hd_La_numberOf 16 rfl) g_10 g_11 ?_
      exact AW.iret (dc hd_La_numberOf 17 rfl) rfl rfl (Nat.le_of_ble_eq_true rfl) (Nat.le_of_ble_eq_true rfl) ⟨rfl, rfl, h⟩
    | 2, hj =>
      cases hj
      have h := h.2.2.1 (hx.trans (by decide))
      refine AW.ra_n (dc hd_La_numberOf 18 rfl) rfl rfl rfl ?_
      obtain ⟨g_12, h⟩ := h
      refine AW.getp fl_2_48 (dc hd_La_numberOf 19 rfl) g_12 rfl ?_
      refine AW.iload_n (dc hd_La_numberOf 20 rfl) rfl ?_
      obtain ⟨g_13, h⟩ := h
      obtain ⟨g_14, h⟩ := h
      refine AW.iald (dc hd_La_numberOf 21 rfl) g_13 g_14 ?_
      refine AW.iconst (dc hd_La_numberOf 22 rfl) (by decide) ?_
      refine AW.isub (dc hd_La_numberOf 23 rfl) ?_
      exact AW.iret (dc hd_La_numberOf 24 rfl) rfl rfl (Nat.le_of_ble_eq_true rfl) (Nat.le_of_ble_eq_true rfl) ⟨rfl, rfl, h⟩
    | j + 3, hj => exact absurd hj (by simp)
  · have h := h.2.2.2 q_1
    refine AW.ra_n (dc hd_La_numberOf 25 rfl) rfl rfl rfl ?_
    obtain ⟨g_15, h⟩ := h
    refine AW.getp fl_2_51 (dc hd_La_numberOf 26 rfl) g_15 rfl ?_
    refine AW.iload_n (dc hd_La_numberOf 27 rfl) rfl ?_
    obtain ⟨g_16, h⟩ := h
    obtain ⟨g_17, h⟩ := h
    refine AW.iald (dc hd_La_numberOf 28 rfl) g_16 g_17 ?_
    refine AW.ra_n (dc hd_La_numberOf 29 rfl) rfl rfl rfl ?_
    refine AW.getf fl_2_73 (dc hd_La_numberOf 30 rfl) g_15 ?_
    refine AW.icmp_ge (t := 83) (dc hd_La_numberOf 31 rfl) (by decide) (fun c_18 => ?_) (fun c_18 => ?_)
    · have h := h.1 c_18
      refine AW.iconst (dc hd_La_numberOf 37 rfl) (by decide) ?_
      exact AW.iret (dc hd_La_numberOf 38 rfl) rfl rfl (Nat.le_of_ble_eq_true rfl) (Nat.le_of_ble_eq_true rfl) ⟨rfl, rfl, h⟩
    · have h := h.2 c_18
      refine AW.ra_n (dc hd_La_numberOf 32 rfl) rfl rfl rfl ?_
      refine AW.getp fl_2_51 (dc hd_La_numberOf 33 rfl) g_15 rfl ?_
      refine AW.iload_n (dc hd_La_numberOf 34 rfl) rfl ?_
      refine AW.iald (dc hd_La_numberOf 35 rfl) g_16 g_17 ?_
      refine AW.goto (t := 84) (dc hd_La_numberOf 36 rfl) (by decide) ?_
      exact AW.iret (dc hd_La_numberOf 38 rfl) rfl rfl (Nat.le_of_ble_eq_true rfl) (Nat.le_of_ble_eq_true rfl) ⟨rfl, rfl, h⟩
def B_La_thingAt_37 (n : Nat) (C : Cn) (v0 v1 v2 v3 v4 : Int) (Q : Int → Prop) (kz37 : Int × Int → Prop) (z : Int × Int) : Prop := match z with
  | (v5, v6) => okO n v0 2 ∧ (okO n (PT v0.toNat 7) 12 ∧ (okI (PT v0.toNat 7) v4 ∧ ((C (PT v0.toNat 7).toNat v4.toNat ≤ v6 → (Q v5)) ∧ (¬ C (PT v0.toNat 7).toNat v4.toNat ≤ v6 → (okO n (PT v0.toNat 6) 12 ∧ (okI (PT v0.toNat 6) (w32 (w32 (v4 * 6) + v6)) ∧ (∀ v7_20 : Int, v7_20 = C (PT v0.toNat 6).toNat (w32 (w32 (v4 * 6) + v6)).toNat → (okO n v1 1 ∧ (okO n (PT v1.toNat 0) 16 ∧ (okI (PT v1.toNat 0) v7_20 ∧ (okO n (PT (PT v1.toNat 0).toNat v7_20.toNat) 7 ∧ (P_Wa_turnTo n C (PT (PT v1.toNat 0).toNat v7_20.toNat) v2 v3 (fun (r_24 : Int) => (r_24 = 0 → (Q (w32 (200 + v7_20)))) ∧ (¬ r_24 = 0 → ((r_24 ≤ 0 → (kz37 (v5, w32 (v6 + 1)))) ∧ (¬ r_24 ≤ 0 → (okO n (PT v0.toNat 9) 12 ∧ (okI (PT v0.toNat 9) v4 ∧ (∀ v5_34 : Int, v5_34 = w32 (w32 (C (PT v0.toNat 9).toNat v4.toNat + v6) + 1) → (kz37 (v5_34, w32 (v6 + 1))))))))))))))))))))))
theorem bB_La_thingAt_37 (n : Nat) (C : Cn) (v0 v1 v2 v3 v4 : Int) (Q : Int → Prop) (kz37 : Int × Int → Prop) (hkz37 : ∀ (z5 : Int) (z6 : Int), kz37 (z5, z6) → AW p l e R s m args below meth c E M_La_thingAt true (fun r C2 n2 => C2 = C ∧ n2 = n ∧ Q r) n 0 0 37 [(2, v0), (2, v1), (0, v2), (0, v3), (0, v4), (0, z5), (0, z6), (9, 0), (9, 0)] [] C) (v5 : Int) (v6 : Int) (h : B_La_thingAt_37 n C v0 v1 v2 v3 v4 Q kz37 (v5, v6)) : AW p l e R s m args below meth c E M_La_thingAt true (fun r C2 n2 => C2 = C ∧ n2 = n ∧ Q r) n 0 0 37 [(2, v0), (2, v1), (0, v2), (0, v3), (0, v4), (0, v5), (0, v6), (9, 0), (9, 0)] [] C := by
  unfold B_La_thingAt_37 at h
  dsimp only at h
  refine AW.iload (dc hd_La_thingAt 22 rfl) rfl ?_
  refine AW.ra_n (dc hd_La_thingAt 23 rfl) rfl rfl rfl ?_
  obtain ⟨g_14, h⟩ := h
  refine AW.getp fl_2_27 (dc hd_La_thingAt 24 rfl) g_14 rfl ?_
  refine AW.iload (dc hd_La_thingAt 25 rfl) rfl ?_
  obtain ⟨g_15, h⟩ := h
  obtain ⟨g_16, h⟩ := h
  refine AW.iald (dc hd_La_thingAt 26 rfl) g_15 g_16 ?_
  refine AW.icmp_ge (t := 115) (dc hd_La_thingAt 27 rfl) (by decide) (fun c_17 => ?_) (fun c_17 => ?_)
  · have h := h.1 c_17
    refine AW.iload (dc hd_La_thingAt 64 rfl) rfl ?_
    exact AW.iret (dc hd_La_thingAt 65 rfl) rfl rfl (Nat.le_of_ble_eq_true rfl) (Nat.le_of_ble_eq_true rfl) ⟨rfl, rfl, h⟩
  · have h := h.2 c_17
    refine AW.ra_n (dc hd_La_thingAt 28 rfl) rfl rfl rfl ?_
    refine AW.getp fl_2_24 (dc hd_La_thingAt 29 rfl) g_14 rfl ?_
    refine AW.iload (dc hd_La_thingAt 30 rfl) rfl ?_
    refine AW.bipush (dc hd_La_thingAt 31 rfl) (by decide) (by decide +kernel) ?_
    refine AW.imul (dc hd_La_thingAt 32 rfl) ?_
    refine AW.iload (dc hd_La_thingAt 33 rfl) rfl ?_
    refine AW.iadd (dc hd_La_thingAt 34 rfl) ?_
    obtain ⟨g_18, h⟩ := h
    obtain ⟨g_19, h⟩ := h
    refine AW.iald (dc hd_La_thingAt 35 rfl) g_18 g_19 ?_
    refine AW.nm (fun v7_20 ev7_20 => ?_)
    have h := h v7_20 ev7_20
    refine AW.istore [(2, v0), (2, v1), (0, v2), (0, v3), (0, v4), (0, v5), (0, v6), (0, v7_20), (9, 0)] (dc hd_La_thingAt 36 rfl) (Nat.le_of_ble_eq_true rfl) rfl rfl ?_
    refine AW.ra_n (dc hd_La_thingAt 37 rfl) rfl rfl rfl ?_
    obtain ⟨g_21, h⟩ := h
    refine AW.getp fl_2_90 (dc hd_La_thingAt 38 rfl) g_21 rfl ?_
    refine AW.iload (dc hd_La_thingAt 39 rfl) rfl ?_
    obtain ⟨g_22, h⟩ := h
    obtain ⟨g_23, h⟩ := h
    refine AW.aaldp (by decide) (dc hd_La_thingAt 40 rfl) g_22 g_23 rfl ?_
    refine AW.iload_n (dc hd_La_thingAt 41 rfl) rfl ?_
    refine AW.iload_n (dc hd_La_thingAt 42 rfl) rfl ?_
    obtain ⟨g_25, h⟩ := h
    refine AW.callV (As := [(0, v2), (0, v3)]) (rest := []) (ci := 7) (m_Wa_turnTo l E n C (PT (PT v1.toNat 0).toNat v7_20.toNat) v2 v3 _ h) cb_2_154 im_Wa_turnTo se_Wa_turnTo ⟨_, _, rfl⟩ (by decide) (dc hd_La_thingAt 43 rfl) g_25 rfl rfl ⟨Nat.le_of_ble_eq_true rfl, Nat.le_of_ble_eq_true rfl⟩ ⟨(Nat.le_of_ble_eq_true rfl), (Nat.le_of_ble_eq_true rfl)⟩ (Nat.le_of_ble_eq_true rfl) (fun _ h => by cases h) (fun _ => rfl) (fun r_24 D_27 d_28 q_26 => ?_)
    obtain ⟨q_26a, q_26b, h⟩ := q_26
    subst D_27
    subst d_28
    show AW p l e _ s m args below meth c E M_La_thingAt true _ n _ _ _ [(2, v0), (2, v1), (0, v2), (0, v3), (0, v4), (0, v5), (0, v6), (0, v7_20), (9, 0)] [(0, r_24)] C
    refine AW.istore [(2, v0), (2, v1), (0, v2), (0, v3), (0, v4), (0, v5), (0, v6), (0, v7_20), (0, r_24)] (dc hd_La_thingAt 44 rfl) (Nat.le_of_ble_eq_true rfl) rfl rfl ?_
    refine AW.iload (dc hd_La_thingAt 45 rfl) rfl ?_
    refine AW.if_ne (t := 90) (dc hd_La_thingAt 46 rfl) (by decide) (fun c_29 => ?_) (fun c_29 => ?_)
    · have h := h.2 c_29
      refine AW.iload (dc hd_La_thingAt 51 rfl) rfl ?_
      refine AW.if_le (t := 109) (dc hd_La_thingAt 52 rfl) (by decide) (fun c_31 => ?_) (fun c_31 => ?_)
      · have h := h.1 c_31
        refine AW.iinc [(2, v0), (2, v1), (0, v2), (0, v3), (0, v4), (0, v5), (0, w32 (v6 + 1)), (0, v7_20), (0, r_24)] (dc hd_La_thingAt 62 rfl) rfl (Nat.le_of_ble_eq_true rfl) rfl rfl ?_
        refine AW.goto (t := 37) (dc hd_La_thingAt 63 rfl) (by decide) ?_
        refine AW.fgt [(2, v0), (2, v1), (0, v2), (0, v3), (0, v4), (0, v5), (0, w32 (v6 + 1)), (9, 0), (9, 0)] ⟨.inl rfl, .inl rfl, .inl rfl, .inl rfl, .inl rfl, .inl rfl, .inl rfl, .inr rfl, .inr rfl, trivial⟩ ?_
        exact hkz37 v5 (w32 (v6 + 1)) h
      · have h := h.2 c_31
        refine AW.ra_n (dc hd_La_thingAt 53 rfl) rfl rfl rfl ?_
        refine AW.getp fl_2_30 (dc hd_La_thingAt 54 rfl) g_14 rfl ?_
        refine AW.iload (dc hd_La_thingAt 55 rfl) rfl ?_
        obtain ⟨g_32, h⟩ := h
        obtain ⟨g_33, h⟩ := h
        refine AW.iald (dc hd_La_thingAt 56 rfl) g_32 g_33 ?_
        refine AW.iload (dc hd_La_thingAt 57 rfl) rfl ?_
        refine AW.iadd (dc hd_La_thingAt 58 rfl) ?_
        refine AW.iconst (dc hd_La_thingAt 59 rfl) (by decide) ?_
        refine AW.iadd (dc hd_La_thingAt 60 rfl) ?_
        refine AW.nm (fun v5_34 ev5_34 => ?_)
        have h := h v5_34 ev5_34
        refine AW.istore [(2, v0), (2, v1), (0, v2), (0, v3), (0, v4), (0, v5_34), (0, v6), (0, v7_20), (0, r_24)] (dc hd_La_thingAt 61 rfl) (Nat.le_of_ble_eq_true rfl) rfl rfl ?_
        refine AW.iinc [(2, v0), (2, v1), (0, v2), (0, v3), (0, v4), (0, v5_34), (0, w32 (v6 + 1)), (0, v7_20), (0, r_24)] (dc hd_La_thingAt 62 rfl) rfl (Nat.le_of_ble_eq_true rfl) rfl rfl ?_
        refine AW.goto (t := 37) (dc hd_La_thingAt 63 rfl) (by decide) ?_
        refine AW.fgt [(2, v0), (2, v1), (0, v2), (0, v3), (0, v4), (0, v5_34), (0, w32 (v6 + 1)), (9, 0), (9, 0)] ⟨.inl rfl, .inl rfl, .inl rfl, .inl rfl, .inl rfl, .inl rfl, .inl rfl, .inr rfl, .inr rfl, trivial⟩ ?_
        exact hkz37 v5_34 (w32 (v6 + 1)) h
    · have h := h.1 c_29
      refine AW.sipush (dc hd_La_thingAt 47 rfl) (by decide) (by decide +kernel) ?_
      refine AW.iload (dc hd_La_thingAt 48 rfl) rfl ?_
      refine AW.iadd (dc hd_La_thingAt 49 rfl) ?_
      exact AW.iret (dc hd_La_thingAt 50 rfl) rfl rfl (Nat.le_of_ble_eq_true rfl) (Nat.le_of_ble_eq_true rfl) ⟨rfl, rfl, h⟩
theorem aB_La_thingAt_37 (n : Nat) (C : Cn) (v0 v1 v2 v3 v4 : Int) (Q : Int → Prop) : ∀ (f : Nat) (z : Int × Int), lp (B_La_thingAt_37 n C v0 v1 v2 v3 v4 Q) f z → AW p l e R s m args below meth c E M_La_thingAt true (fun r C2 n2 => C2 = C ∧ n2 = n ∧ Q r) n 0 0 37 [(2, v0), (2, v1), (0, v2), (0, v3), (0, v4), (0, z.1), (0, z.2), (9, 0), (9, 0)] [] C := by
  intro f
  induction f with
  | zero => intro z h; exact False.elim h
  | succ f ih => intro z h; exact bB_La_thingAt_37 n C v0 v1 v2 v3 v4 Q (lp (B_La_thingAt_37 n C v0 v1 v2 v3 v4 Q) f) (fun a0 a1 h => ih (a0, a1) h) z.1 z.2 h
def P_La_thingAt (n : Nat) (C : Cn) (v0 v1 v2 v3 : Int) (Q : Int → Prop) : Prop :=
  okO n v0 2 ∧ (P_La_endsAhead n C v0 v2 v3 (fun (r_1 : Int) => P_La_isEndAt n C v0 r_1 v2 v3 (fun (r_6 : Int) => (r_6 = 0 → (okO n (PT v0.toNat 9) 12 ∧ (okI (PT v0.toNat 9) r_1 ∧ (∀ v5_13 : Int, v5_13 = C (PT v0.toNat 9).toNat r_1.toNat → (∃ f_35 : Nat, lp (B_La_thingAt_37 n C v0 v1 v2 v3 r_1 Q) f_35 (v5_13, 0)))))) ∧ (¬ r_6 = 0 → (Q (w32 (100 + r_1)))))))
theorem m_La_thingAt (l : Launch) (E : Ev) (n : Nat) (C : Cn) (v0 v1 v2 v3 : Int) (Q : Int → Prop) (h : P_La_thingAt n C v0 v1 v2 v3 Q) : MA l y_La_thingAt M_La_thingAt E true C n [(2, v0), (2, v1), (0, v2), (0, v3)] (fun r C2 n2 => C2 = C ∧ n2 = n ∧ Q r) := by
  refine MA.of (by decide) rfl rfl 5 rfl (fun p e s m args below meth c => ?_)
  show AW p l e _ s m args below meth c E M_La_thingAt true _ n 0 0 0 [(2, v0), (2, v1), (0, v2), (0, v3), (9, 0), (9, 0), (9, 0), (9, 0), (9, 0)] [] C
  unfold P_La_thingAt at h
  refine AW.ra_n (dc hd_La_thingAt 0 rfl) rfl rfl rfl ?_
  refine AW.iload_n (dc hd_La_thingAt 1 rfl) rfl ?_
  refine AW.iload_n (dc hd_La_thingAt 2 rfl) rfl ?_
  obtain ⟨g_2, h⟩ := h
  refine AW.callV (As := [(0, v2), (0, v3)]) (rest := []) (ci := 2) (m_La_endsAhead l E n C v0 v2 v3 _ h) cb_2_112 im_La_endsAhead se_La_endsAhead ⟨_, _, rfl⟩ (by decide) (dc hd_La_thingAt 3 rfl) g_2 rfl rfl ⟨Nat.le_of_ble_eq_true rfl, Nat.le_of_ble_eq_true rfl⟩ ⟨(Nat.le_of_ble_eq_true rfl), (Nat.le_of_ble_eq_true rfl)⟩ (Nat.le_of_ble_eq_true rfl) (fun _ h => by cases h) (fun _ => rfl) (fun r_1 D_4 d_5 q_3 => ?_)
  obtain ⟨q_3a, q_3b, h⟩ := q_3
  subst D_4
  subst d_5
  show AW p l e _ s m args below meth c E M_La_thingAt true _ n _ _ _ [(2, v0), (2, v1), (0, v2), (0, v3), (9, 0), (9, 0), (9, 0), (9, 0), (9, 0)] [(0, r_1)] C
  refine AW.istore [(2, v0), (2, v1), (0, v2), (0, v3), (0, r_1), (9, 0), (9, 0), (9, 0), (9, 0)] (dc hd_La_thingAt 4 rfl) (Nat.le_of_ble_eq_true rfl) rfl rfl ?_
  refine AW.ra_n (dc hd_La_thingAt 5 rfl) rfl rfl rfl ?_
  refine AW.iload (dc hd_La_thingAt 6 rfl) rfl ?_
  refine AW.iload_n (dc hd_La_thingAt 7 rfl) rfl ?_
  refine AW.iload_n (dc hd_La_thingAt 8 rfl) rfl ?_
  refine AW.callV (As := [(0, r_1), (0, v2), (0, v3)]) (rest := []) (ci := 2) (m_La_isEndAt l E n C v0 r_1 v2 v3 _ h) cb_2_120 im_La_isEndAt se_La_isEndAt ⟨_, _, rfl⟩ (by decide) (dc hd_La_thingAt 9 rfl) g_2 rfl rfl ⟨Nat.le_of_ble_eq_true rfl, Nat.le_of_ble_eq_true rfl⟩ ⟨(Nat.le_of_ble_eq_true rfl), (Nat.le_of_ble_eq_true rfl)⟩ (Nat.le_of_ble_eq_true rfl) (fun _ h => by cases h) (fun _ => rfl) (fun r_6 D_8 d_9 q_7 => ?_)
  obtain ⟨q_7a, q_7b, h⟩ := q_7
  subst D_8
  subst d_9
  show AW p l e _ s m args below meth c E M_La_thingAt true _ n _ _ _ [(2, v0), (2, v1), (0, v2), (0, v3), (0, r_1), (9, 0), (9, 0), (9, 0), (9, 0)] [(0, r_6)] C
  refine AW.if_eq (t := 25) (dc hd_La_thingAt 10 rfl) (by decide) (fun c_10 => ?_) (fun c_10 => ?_)
  · have h := h.1 c_10
    refine AW.ra_n (dc hd_La_thingAt 15 rfl) rfl rfl rfl ?_
    refine AW.getp fl_2_30 (dc hd_La_thingAt 16 rfl) g_2 rfl ?_
    refine AW.iload (dc hd_La_thingAt 17 rfl) rfl ?_
    obtain ⟨g_11, h⟩ := h
    obtain ⟨g_12, h⟩ := h
    refine AW.iald (dc hd_La_thingAt 18 rfl) g_11 g_12 ?_
    refine AW.nm (fun v5_13 ev5_13 => ?_)
    have h := h v5_13 ev5_13
    refine AW.istore [(2, v0), (2, v1), (0, v2), (0, v3), (0, r_1), (0, v5_13), (9, 0), (9, 0), (9, 0)] (dc hd_La_thingAt 19 rfl) (Nat.le_of_ble_eq_true rfl) rfl rfl ?_
    refine AW.iconst (dc hd_La_thingAt 20 rfl) (by decide) ?_
    refine AW.istore [(2, v0), (2, v1), (0, v2), (0, v3), (0, r_1), (0, v5_13), (0, 0), (9, 0), (9, 0)] (dc hd_La_thingAt 21 rfl) (Nat.le_of_ble_eq_true rfl) rfl rfl ?_
    obtain ⟨f_35, h⟩ := h
    exact aB_La_thingAt_37 n C v0 v1 v2 v3 r_1 Q f_35 (v5_13, 0) h
  · have h := h.2 c_10
    refine AW.bipush (dc hd_La_thingAt 11 rfl) (by decide) (by decide +kernel) ?_
    refine AW.iload (dc hd_La_thingAt 12 rfl) rfl ?_
    refine AW.iadd (dc hd_La_thingAt 13 rfl) ?_
    exact AW.iret (dc hd_La_thingAt 14 rfl) rfl rfl (Nat.le_of_ble_eq_true rfl) (Nat.le_of_ble_eq_true rfl) ⟨rfl, rfl, h⟩
def P_La_fieldAt (n : Nat) (C : Cn) (v0 v1 v2 v3 : Int) (Q : Int → Prop) : Prop :=
  okO n v0 2 ∧ (P_La_thingAt n C v0 v1 v2 v3 (fun (r_1 : Int) => (100 ≤ r_1 → (Q 0)) ∧ (¬ 100 ≤ r_1 → (okO n (PT v0.toNat 13) 12 ∧ (okI (PT v0.toNat 13) r_1 ∧ (Q (C (PT v0.toNat 13).toNat r_1.toNat)))))))
theorem m_La_fieldAt (l : Launch) (E : Ev) (n : Nat) (C : Cn) (v0 v1 v2 v3 : Int) (Q : Int → Prop) (h : P_La_fieldAt n C v0 v1 v2 v3 Q) : MA l y_La_fieldAt M_La_fieldAt E true C n [(2, v0), (2, v1), (0, v2), (0, v3)] (fun r C2 n2 => C2 = C ∧ n2 = n ∧ Q r) := by
  refine MA.of (by decide) rfl rfl 1 rfl (fun p e s m args below meth c => ?_)
  show AW p l e _ s m args below meth c E M_La_fieldAt true _ n 0 0 0 [(2, v0), (2, v1), (0, v2), (0, v3), (9, 0)] [] C
  unfold P_La_fieldAt at h
  refine AW.ra_n (dc hd_La_fieldAt 0 rfl) rfl rfl rfl ?_
  refine AW.ra_n (dc hd_La_fieldAt 1 rfl) rfl rfl rfl ?_
  refine AW.iload_n (dc hd_La_fieldAt 2 rfl) rfl ?_
  refine AW.iload_n (dc hd_La_fieldAt 3 rfl) rfl ?_
  obtain ⟨g_2, h⟩ := h
  refine AW.callV (As := [(2, v1), (0, v2), (0, v3)]) (rest := []) (ci := 2) (m_La_thingAt l E n C v0 v1 v2 v3 _ h) cb_2_157 im_La_thingAt se_La_thingAt ⟨_, _, rfl⟩ (by decide) (dc hd_La_fieldAt 4 rfl) g_2 rfl rfl ⟨Nat.le_of_ble_eq_true rfl, Nat.le_of_ble_eq_true rfl⟩ ⟨(Nat.le_of_ble_eq_true rfl), (Nat.le_of_ble_eq_true rfl)⟩ (Nat.le_of_ble_eq_true rfl) (fun _ h => by cases h) (fun _ => rfl) (fun r_1 D_4 d_5 q_3 => ?_)
  obtain ⟨q_3a, q_3b, h⟩ := q_3
  subst D_4
  subst d_5
  show AW p l e _ s m args below meth c E M_La_fieldAt true _ n _ _ _ [(2, v0), (2, v1), (0, v2), (0, v3), (9, 0)] [(0, r_1)] C
  refine AW.istore [(2, v0), (2, v1), (0, v2), (0, v3), (0, r_1)] (dc hd_La_fieldAt 5 rfl) (Nat.le_of_ble_eq_true rfl) rfl rfl ?_
  refine AW.iload (dc hd_La_fieldAt 6 rfl) rfl ?_
  refine AW.bipush (dc hd_La_fieldAt 7 rfl) (by decide) (by decide +kernel) ?_
  refine AW.icmp_ge (t := 26) (dc hd_La_fieldAt 8 rfl) (by decide) (fun c_6 => ?_) (fun c_6 => ?_)
  · have h := h.1 c_6
    refine AW.iconst (dc hd_La_fieldAt 14 rfl) (by decide) ?_
    exact AW.iret (dc hd_La_fieldAt 15 rfl) rfl rfl (Nat.le_of_ble_eq_true rfl) (Nat.le_of_ble_eq_true rfl) ⟨rfl, rfl, h⟩
  · have h := h.2 c_6
    refine AW.ra_n (dc hd_La_fieldAt 9 rfl) rfl rfl rfl ?_
    refine AW.getp fl_2_42 (dc hd_La_fieldAt 10 rfl) g_2 rfl ?_
    refine AW.iload (dc hd_La_fieldAt 11 rfl) rfl ?_
    obtain ⟨g_7, h⟩ := h
    obtain ⟨g_8, h⟩ := h
    refine AW.iald (dc hd_La_fieldAt 12 rfl) g_7 g_8 ?_
    refine AW.goto (t := 27) (dc hd_La_fieldAt 13 rfl) (by decide) ?_
    exact AW.iret (dc hd_La_fieldAt 15 rfl) rfl rfl (Nat.le_of_ble_eq_true rfl) (Nat.le_of_ble_eq_true rfl) ⟨rfl, rfl, h⟩
def J_Re_isLetter_27 (n : Nat) (C : Cn) (s0 : Int) (Q : Int → Prop) : Prop :=
  (s0 = 0 ∨ s0 = 1) ∧ (Q s0)
theorem aJ_Re_isLetter_27 (n : Nat) (C : Cn) (s0 : Int) (Q : Int → Prop) (h : J_Re_isLetter_27 n C s0 Q) : AW p l e R s m args below meth c E M_Re_isLetter true (fun r C2 n2 => C2 = C ∧ n2 = n ∧ Q r) n 0 0 27 [(9, 0), (9, 0)] [(0, s0)] C := by
  unfold J_Re_isLetter_27 at h
  obtain ⟨g_6, h⟩ := h
  exact AW.zret (dc hd_Re_isLetter 15 rfl) rfl rfl (Nat.le_of_ble_eq_true rfl) (Nat.le_of_ble_eq_true rfl) g_6 ⟨rfl, rfl, h⟩
def P_Re_isLetter (n : Nat) (C : Cn) (v0 v1 : Int) (Q : Int → Prop) : Prop :=
  okO n v0 3 ∧ (okO n (PT v0.toNat 0) 11 ∧ (okI (PT v0.toNat 0) v1 ∧ ((C (PT v0.toNat 0).toNat v1.toNat < 97 → (Q 0)) ∧ (¬ C (PT v0.toNat 0).toNat v1.toNat < 97 → (J_Re_isLetter_27 n C (if 122 < C (PT v0.toNat 0).toNat v1.toNat then 0 else 1) Q)))))
theorem m_Re_isLetter (l : Launch) (E : Ev) (n : Nat) (C : Cn) (v0 v1 : Int) (Q : Int → Prop) (h : P_Re_isLetter n C v0 v1 Q) : MA l y_Re_isLetter M_Re_isLetter E true C n [(2, v0), (0, v1)] (fun r C2 n2 => C2 = C ∧ n2 = n ∧ Q r) := by
  refine MA.of (by decide) rfl rfl 0 rfl (fun p e s m args below meth c => ?_)
  show AW p l e _ s m args below meth c E M_Re_isLetter true _ n 0 0 0 [(2, v0), (0, v1)] [] C
  unfold P_Re_isLetter at h
  refine AW.ra_n (dc hd_Re_isLetter 0 rfl) rfl rfl rfl ?_
  obtain ⟨g_1, h⟩ := h
  refine AW.getp fl_3_9 (dc hd_Re_isLetter 1 rfl) g_1 rfl ?_
  refine AW.iload_n (dc hd_Re_isLetter 2 rfl) rfl ?_
  obtain ⟨g_2, h⟩ := h
  obtain ⟨g_3, h⟩ := h
  refine AW.bald (dc hd_Re_isLetter 3 rfl) g_2 g_3 ?_
  refine AW.bipush (dc hd_Re_isLetter 4 rfl) (by decide) (by decide +kernel) ?_
  refine AW.icmp_lt (t := 26) (dc hd_Re_isLetter 5 rfl) (by decide) (fun c_4 => ?_) (fun c_4 => ?_)
  · have h := h.1 c_4
    refine AW.iconst (dc hd_Re_isLetter 14 rfl) (by decide) ?_
    exact AW.zret (dc hd_Re_isLetter 15 rfl) rfl rfl (Nat.le_of_ble_eq_true rfl) (Nat.le_of_ble_eq_true rfl) (by decide) ⟨rfl, rfl, h⟩
  · have h := h.2 c_4
    refine AW.ra_n (dc hd_Re_isLetter 6 rfl) rfl rfl rfl ?_
    refine AW.getp fl_3_9 (dc hd_Re_isLetter 7 rfl) g_1 rfl ?_
    refine AW.iload_n (dc hd_Re_isLetter 8 rfl) rfl ?_
    refine AW.bald (dc hd_Re_isLetter 9 rfl) g_2 g_3 ?_
    refine AW.bipush (dc hd_Re_isLetter 10 rfl) (by decide) (by decide +kernel) ?_
    refine AW.icmp_gt (t := 26) (dc hd_Re_isLetter 11 rfl) (by decide) (fun c_5 => ?_) (fun c_5 => ?_)
    · simp only [if_pos (show 122 < C (PT v0.toNat 0).toNat v1.toNat from c_5)] at h
      refine AW.iconst (dc hd_Re_isLetter 14 rfl) (by decide) ?_
      refine AW.fgt [(9, 0), (9, 0)] ⟨.inr rfl, .inr rfl, trivial⟩ ?_
      exact aJ_Re_isLetter_27 n C _ Q h
    · simp only [if_neg (show ¬ (122 < C (PT v0.toNat 0).toNat v1.toNat) from c_5)] at h
      refine AW.iconst (dc hd_Re_isLetter 12 rfl) (by decide) ?_
      refine AW.goto (t := 27) (dc hd_Re_isLetter 13 rfl) (by decide) ?_
      refine AW.fgt [(9, 0), (9, 0)] ⟨.inr rfl, .inr rfl, trivial⟩ ?_
      exact aJ_Re_isLetter_27 n C _ Q h
def J_Re_isDigit_27 (n : Nat) (C : Cn) (s0 : Int) (Q : Int → Prop) : Prop :=
  (s0 = 0 ∨ s0 = 1) ∧ (Q s0)
theorem aJ_Re_isDigit_27 (n : Nat) (C : Cn) (s0 : Int) (Q : Int → Prop) (h : J_Re_isDigit_27 n C s0 Q) : AW p l e R s m args below meth c E M_Re_isDigit true (fun r C2 n2 => C2 = C ∧ n2 = n ∧ Q r) n 0 0 27 [(9, 0), (9, 0)] [(0, s0)] C := by
  unfold J_Re_isDigit_27 at h
  obtain ⟨g_6, h⟩ := h
  exact AW.zret (dc hd_Re_isDigit 15 rfl) rfl rfl (Nat.le_of_ble_eq_true rfl) (Nat.le_of_ble_eq_true rfl) g_6 ⟨rfl, rfl, h⟩
def P_Re_isDigit (n : Nat) (C : Cn) (v0 v1 : Int) (Q : Int → Prop) : Prop :=
  okO n v0 3 ∧ (okO n (PT v0.toNat 0) 11 ∧ (okI (PT v0.toNat 0) v1 ∧ ((C (PT v0.toNat 0).toNat v1.toNat < 48 → (Q 0)) ∧ (¬ C (PT v0.toNat 0).toNat v1.toNat < 48 → (J_Re_isDigit_27 n C (if 57 < C (PT v0.toNat 0).toNat v1.toNat then 0 else 1) Q)))))
theorem m_Re_isDigit (l : Launch) (E : Ev) (n : Nat) (C : Cn) (v0 v1 : Int) (Q : Int → Prop) (h : P_Re_isDigit n C v0 v1 Q) : MA l y_Re_isDigit M_Re_isDigit E true C n [(2, v0), (0, v1)] (fun r C2 n2 => C2 = C ∧ n2 = n ∧ Q r) := by
  refine MA.of (by decide) rfl rfl 0 rfl (fun p e s m args below meth c => ?_)
  show AW p l e _ s m args below meth c E M_Re_isDigit true _ n 0 0 0 [(2, v0), (0, v1)] [] C
  unfold P_Re_isDigit at h
  refine AW.ra_n (dc hd_Re_isDigit 0 rfl) rfl rfl rfl ?_
  obtain ⟨g_1, h⟩ := h
  refine AW.getp fl_3_9 (dc hd_Re_isDigit 1 rfl) g_1 rfl ?_
  refine AW.iload_n (dc hd_Re_isDigit 2 rfl) rfl ?_
  obtain ⟨g_2, h⟩ := h
  obtain ⟨g_3, h⟩ := h
  refine AW.bald (dc hd_Re_isDigit 3 rfl) g_2 g_3 ?_
  refine AW.bipush (dc hd_Re_isDigit 4 rfl) (by decide) (by decide +kernel) ?_
  refine AW.icmp_lt (t := 26) (dc hd_Re_isDigit 5 rfl) (by decide) (fun c_4 => ?_) (fun c_4 => ?_)
  · have h := h.1 c_4
    refine AW.iconst (dc hd_Re_isDigit 14 rfl) (by decide) ?_
    exact AW.zret (dc hd_Re_isDigit 15 rfl) rfl rfl (Nat.le_of_ble_eq_true rfl) (Nat.le_of_ble_eq_true rfl) (by decide) ⟨rfl, rfl, h⟩
  · have h := h.2 c_4
    refine AW.ra_n (dc hd_Re_isDigit 6 rfl) rfl rfl rfl ?_
    refine AW.getp fl_3_9 (dc hd_Re_isDigit 7 rfl) g_1 rfl ?_
    refine AW.iload_n (dc hd_Re_isDigit 8 rfl) rfl ?_
    refine AW.bald (dc hd_Re_isDigit 9 rfl) g_2 g_3 ?_
    refine AW.bipush (dc hd_Re_isDigit 10 rfl) (by decide) (by decide +kernel) ?_
    refine AW.icmp_gt (t := 26) (dc hd_Re_isDigit 11 rfl) (by decide) (fun c_5 => ?_) (fun c_5 => ?_)
    · simp only [if_pos (show 57 < C (PT v0.toNat 0).toNat v1.toNat from c_5)] at h
      refine AW.iconst (dc hd_Re_isDigit 14 rfl) (by decide) ?_
      refine AW.fgt [(9, 0), (9, 0)] ⟨.inr rfl, .inr rfl, trivial⟩ ?_
      exact aJ_Re_isDigit_27 n C _ Q h
    · simp only [if_neg (show ¬ (57 < C (PT v0.toNat 0).toNat v1.toNat) from c_5)] at h
      refine AW.iconst (dc hd_Re_isDigit 12 rfl) (by decide) ?_
      refine AW.goto (t := 27) (dc hd_Re_isDigit 13 rfl) (by decide) ?_
      refine AW.fgt [(9, 0), (9, 0)] ⟨.inr rfl, .inr rfl, trivial⟩ ?_
      exact aJ_Re_isDigit_27 n C _ Q h
def J_Re_readDigits_69 (n : Nat) (C : Cn) (Q : Int → Cn → Prop) : Prop :=
  Q 0 C
theorem aJ_Re_readDigits_69 (n : Nat) (C : Cn) (Q : Int → Cn → Prop) (h : J_Re_readDigits_69 n C Q) : AW p l e R s m args below meth c E M_Re_readDigits true (fun r C2 n2 => n2 = n ∧ Q r C2) n 0 0 69 [(9, 0)] [] C := by
  unfold J_Re_readDigits_69 at h
  exact AW.vret (dc hd_Re_readDigits 36 rfl) rfl rfl (Nat.le_of_ble_eq_true rfl) (Nat.le_of_ble_eq_true rfl) ⟨rfl, h⟩
def B_Re_readDigits_5 (n : Nat) (v0 : Int) (Q : Int → Cn → Prop) (kz5 : Cn → Prop) (C : Cn) : Prop :=
  okO n v0 3 ∧ ((C v0.toNat 1 ≤ C v0.toNat 4 → (J_Re_readDigits_69 n C Q)) ∧ (¬ C v0.toNat 1 ≤ C v0.toNat 4 → (P_Re_isDigit n C v0 (C v0.toNat 4) (fun (r_5 : Int) => (r_5 = 0 → (J_Re_readDigits_69 n C Q)) ∧ (¬ r_5 = 0 → (okO n (PT v0.toNat 0) 11 ∧ (okI (PT v0.toNat 0) (C v0.toNat 4) ∧ (∀ C_12 : Cn, C_12 = wr C v0.toNat 5 (imin 100 (w32 (w32 (w32 (10 * (C v0.toNat 5)) + C (PT v0.toNat 0).toNat (C v0.toNat 4).toNat) - 48))) → (∀ C_13 : Cn, C_13 = wr C_12 v0.toNat 4 (w32 (C_12 v0.toNat 4 + 1)) → (kz5 C_13))))))))))
theorem bB_Re_readDigits_5 (n : Nat) (v0 : Int) (Q : Int → Cn → Prop) (kz5 : Cn → Prop) (hkz5 : ∀ (Cz : Cn), kz5 Cz → AW p l e R s m args below meth c E M_Re_readDigits true (fun r C2 n2 => n2 = n ∧ Q r C2) n 0 0 5 [(2, v0)] [] Cz) (C : Cn) (h : B_Re_readDigits_5 n v0 Q kz5 C) : AW p l e R s m args below meth c E M_Re_readDigits true (fun r C2 n2 => n2 = n ∧ Q r C2) n 0 0 5 [(2, v0)] [] C := by
  unfold B_Re_readDigits_5 at h
  refine AW.ra_n (dc hd_Re_readDigits 3 rfl) rfl rfl rfl ?_
  obtain ⟨g_3, h⟩ := h
  refine AW.getf fl_3_26 (dc hd_Re_readDigits 4 rfl) g_3 ?_
  refine AW.ra_n (dc hd_Re_readDigits 5 rfl) rfl rfl rfl ?_
  refine AW.getf fl_3_46 (dc hd_Re_readDigits 6 rfl) g_3 ?_
  refine AW.icmp_ge (t := 69) (dc hd_Re_readDigits 7 rfl) (by decide) (fun c_4 => ?_) (fun c_4 => ?_)
  · have h := h.1 c_4
    refine AW.fgt [(9, 0)] ⟨.inr rfl, trivial⟩ ?_
    exact aJ_Re_readDigits_69 n C Q h
  · have h := h.2 c_4
    refine AW.ra_n (dc hd_Re_readDigits 8 rfl) rfl rfl rfl ?_
    refine AW.ra_n (dc hd_Re_readDigits 9 rfl) rfl rfl rfl ?_
    refine AW.getf fl_3_26 (dc hd_Re_readDigits 10 rfl) g_3 ?_
    refine AW.callV (As := [(0, C v0.toNat 4)]) (rest := []) (ci := 3) (m_Re_isDigit l E n C v0 (C v0.toNat 4) _ h) cb_3_135 im_Re_isDigit se_Re_isDigit ⟨_, _, rfl⟩ (by decide) (dc hd_Re_readDigits 11 rfl) g_3 rfl rfl ⟨Nat.le_of_ble_eq_true rfl, Nat.le_of_ble_eq_true rfl⟩ ⟨(Nat.le_of_ble_eq_true rfl), (Nat.le_of_ble_eq_true rfl)⟩ (Nat.le_of_ble_eq_true rfl) (fun _ h => by cases h) (fun _ => rfl) (fun r_5 D_7 d_8 q_6 => ?_)
    obtain ⟨q_6a, q_6b, h⟩ := q_6
    subst D_7
    subst d_8
    show AW p l e _ s m args below meth c E M_Re_readDigits true _ n _ _ _ [(2, v0)] [(0, r_5)] C
    refine AW.if_eq (t := 69) (dc hd_Re_readDigits 12 rfl) (by decide) (fun c_9 => ?_) (fun c_9 => ?_)
    · have h := h.1 c_9
      refine AW.fgt [(9, 0)] ⟨.inr rfl, trivial⟩ ?_
      exact aJ_Re_readDigits_69 n C Q h
    · have h := h.2 c_9
      refine AW.ra_n (dc hd_Re_readDigits 13 rfl) rfl rfl rfl ?_
      refine AW.bipush (dc hd_Re_readDigits 14 rfl) (by decide) (by decide +kernel) ?_
      refine AW.bipush (dc hd_Re_readDigits 15 rfl) (by decide) (by decide +kernel) ?_
      refine AW.ra_n (dc hd_Re_readDigits 16 rfl) rfl rfl rfl ?_
      refine AW.getf fl_3_89 (dc hd_Re_readDigits 17 rfl) g_3 ?_
      refine AW.imul (dc hd_Re_readDigits 18 rfl) ?_
      refine AW.ra_n (dc hd_Re_readDigits 19 rfl) rfl rfl rfl ?_
      refine AW.getp fl_3_9 (dc hd_Re_readDigits 20 rfl) g_3 rfl ?_
      refine AW.ra_n (dc hd_Re_readDigits 21 rfl) rfl rfl rfl ?_
      refine AW.getf fl_3_26 (dc hd_Re_readDigits 22 rfl) g_3 ?_
      obtain ⟨g_10, h⟩ := h
      obtain ⟨g_11, h⟩ := h
      refine AW.bald (dc hd_Re_readDigits 23 rfl) g_10 g_11 ?_
      refine AW.iadd (dc hd_Re_readDigits 24 rfl) ?_
      refine AW.bipush (dc hd_Re_readDigits 25 rfl) (by decide) (by decide +kernel) ?_
      refine AW.isub (dc hd_Re_readDigits 26 rfl) ?_
      refine AW.mmin (dc hd_Re_readDigits 27 rfl) mt_3_141 (Nat.le_of_ble_eq_true rfl) (Nat.le_of_ble_eq_true rfl) (Nat.le_of_ble_eq_true rfl) (Nat.le_of_ble_eq_true rfl) (Nat.le_of_ble_eq_true rfl) ?_
      refine AW.nputI fl_3_89 (dc hd_Re_readDigits 28 rfl) g_3 (fun C_12 eC_12 => ?_)
      have h := h C_12 eC_12
      refine AW.ra_n (dc hd_Re_readDigits 29 rfl) rfl rfl rfl ?_
      refine AW.rdup (dc hd_Re_readDigits 30 rfl) rfl ?_
      refine AW.getf fl_3_26 (dc hd_Re_readDigits 31 rfl) g_3 ?_
      refine AW.iconst (dc hd_Re_readDigits 32 rfl) (by decide) ?_
      refine AW.iadd (dc hd_Re_readDigits 33 rfl) ?_
      refine AW.nputI fl_3_26 (dc hd_Re_readDigits 34 rfl) g_3 (fun C_13 eC_13 => ?_)
      have h := h C_13 eC_13
      refine AW.goto (t := 5) (dc hd_Re_readDigits 35 rfl) (by decide) ?_
      exact hkz5 C_13 h
theorem aB_Re_readDigits_5 (n : Nat) (v0 : Int) (Q : Int → Cn → Prop) : ∀ (f : Nat) (z : Cn), lp (B_Re_readDigits_5 n v0 Q) f z → AW p l e R s m args below meth c E M_Re_readDigits true (fun r C2 n2 => n2 = n ∧ Q r C2) n 0 0 5 [(2, v0)] [] z := by
  intro f
  induction f with
  | zero => intro z h; exact False.elim h
  | succ f ih => intro z h; exact bB_Re_readDigits_5 n v0 Q (lp (B_Re_readDigits_5 n v0 Q) f) (fun a0 h => ih a0 h) z h
def P_Re_readDigits (n : Nat) (C : Cn) (v0 : Int) (Q : Int → Cn → Prop) : Prop :=
  okO n v0 3 ∧ (∀ C_2 : Cn, C_2 = wr C v0.toNat 5 0 → (∃ f_14 : Nat, lp (B_Re_readDigits_5 n v0 Q) f_14 C_2))
theorem m_Re_readDigits (l : Launch) (E : Ev) (n : Nat) (C : Cn) (v0 : Int) (Q : Int → Cn → Prop) (h : P_Re_readDigits n C v0 Q) : MA l y_Re_readDigits M_Re_readDigits E true C n [(2, v0)] (fun r C2 n2 => n2 = n ∧ Q r C2) := by
  refine MA.of (by decide) rfl rfl 0 rfl (fun p e s m args below meth c => ?_)
  show AW p l e _ s m args below meth c E M_Re_readDigits true _ n 0 0 0 [(2, v0)] [] C
  unfold P_Re_readDigits at h
  refine AW.ra_n (dc hd_Re_readDigits 0 rfl) rfl rfl rfl ?_
  refine AW.iconst (dc hd_Re_readDigits 1 rfl) (by decide) ?_
  obtain ⟨g_1, h⟩ := h
  refine AW.nputI fl_3_89 (dc hd_Re_readDigits 2 rfl) g_1 (fun C_2 eC_2 => ?_)
  have h := h C_2 eC_2
  obtain ⟨f_14, h⟩ := h
  exact aB_Re_readDigits_5 n v0 Q f_14 C_2 h
def J_Re_step_185 (n : Nat) (C : Cn) (v0 s0 s1 : Int) (Q : Int → Cn → Prop) : Prop :=
  okO n s0 3 ∧ (∀ C_23 : Cn, C_23 = wr C s0.toNat 2 s1 → (okO n v0 3 ∧ (∀ C_25 : Cn, C_25 = wr C_23 v0.toNat 4 (w32 (C_23 v0.toNat 4 + 1)) → (Q 0 C_25))))
theorem aJ_Re_step_185 (n : Nat) (C : Cn) (v0 s0 s1 : Int) (Q : Int → Cn → Prop) (h : J_Re_step_185 n C v0 s0 s1 Q) : AW p l e R s m args below meth c E M_Re_step true (fun r C2 n2 => n2 = n ∧ Q r C2) n 0 0 185 [(2, v0)] [(0, s1), (2, s0)] C := by
  unfold J_Re_step_185 at h
  obtain ⟨g_22, h⟩ := h
  refine AW.nputI fl_3_40 (dc hd_Re_step 92 rfl) g_22 (fun C_23 eC_23 => ?_)
  have h := h C_23 eC_23
  refine AW.ra_n (dc hd_Re_step 93 rfl) rfl rfl rfl ?_
  refine AW.rdup (dc hd_Re_step 94 rfl) rfl ?_
  obtain ⟨g_24, h⟩ := h
  refine AW.getf fl_3_26 (dc hd_Re_step 95 rfl) g_24 ?_
  refine AW.iconst (dc hd_Re_step 96 rfl) (by decide) ?_
  refine AW.iadd (dc hd_Re_step 97 rfl) ?_
  refine AW.nputI fl_3_26 (dc hd_Re_step 98 rfl) g_24 (fun C_25 eC_25 => ?_)
  have h := h C_25 eC_25
  exact AW.vret (dc hd_Re_step 99 rfl) rfl rfl (Nat.le_of_ble_eq_true rfl) (Nat.le_of_ble_eq_true rfl) ⟨rfl, h⟩
def J_Re_step_198 (n : Nat) (C : Cn) (Q : Int → Cn → Prop) : Prop :=
  Q 0 C
theorem aJ_Re_step_198 (n : Nat) (C : Cn) (Q : Int → Cn → Prop) (h : J_Re_step_198 n C Q) : AW p l e R s m args below meth c E M_Re_step true (fun r C2 n2 => n2 = n ∧ Q r C2) n 0 0 198 [(9, 0)] [] C := by
  unfold J_Re_step_198 at h
  exact AW.vret (dc hd_Re_step 99 rfl) rfl rfl (Nat.le_of_ble_eq_true rfl) (Nat.le_of_ble_eq_true rfl) ⟨rfl, h⟩
def B_Re_step_89 (n : Nat) (v0 : Int) (Q : Int → Cn → Prop) (kz89 : Cn → Prop) (C : Cn) : Prop :=
  okO n v0 3 ∧ ((C v0.toNat 1 ≤ C v0.toNat 4 → (J_Re_step_198 n C Q)) ∧ (¬ C v0.toNat 1 ≤ C v0.toNat 4 → (P_Re_isLetter n C v0 (C v0.toNat 4) (fun (r_34 : Int) => (r_34 = 0 → (J_Re_step_198 n C Q)) ∧ (¬ r_34 = 0 → (∀ C_39 : Cn, C_39 = wr C v0.toNat 4 (w32 (C v0.toNat 4 + 1)) → (kz89 C_39)))))))
theorem bB_Re_step_89 (n : Nat) (v0 : Int) (Q : Int → Cn → Prop) (kz89 : Cn → Prop) (hkz89 : ∀ (Cz : Cn), kz89 Cz → AW p l e R s m args below meth c E M_Re_step true (fun r C2 n2 => n2 = n ∧ Q r C2) n 0 0 89 [(2, v0)] [] Cz) (C : Cn) (h : B_Re_step_89 n v0 Q kz89 C) : AW p l e R s m args below meth c E M_Re_step true (fun r C2 n2 => n2 = n ∧ Q r C2) n 0 0 89 [(2, v0)] [] C := by
  unfold B_Re_step_89 at h
  refine AW.ra_n (dc hd_Re_step 44 rfl) rfl rfl rfl ?_
  obtain ⟨g_32, h⟩ := h
  refine AW.getf fl_3_26 (dc hd_Re_step 45 rfl) g_32 ?_
  refine AW.ra_n (dc hd_Re_step 46 rfl) rfl rfl rfl ?_
  refine AW.getf fl_3_46 (dc hd_Re_step 47 rfl) g_32 ?_
  refine AW.icmp_ge (t := 198) (dc hd_Re_step 48 rfl) (by decide) (fun c_33 => ?_) (fun c_33 => ?_)
  · have h := h.1 c_33
    refine AW.fgt [(9, 0)] ⟨.inr rfl, trivial⟩ ?_
    exact aJ_Re_step_198 n C Q h
  · have h := h.2 c_33
    refine AW.ra_n (dc hd_Re_step 49 rfl) rfl rfl rfl ?_
    refine AW.ra_n (dc hd_Re_step 50 rfl) rfl rfl rfl ?_
    refine AW.getf fl_3_26 (dc hd_Re_step 51 rfl) g_32 ?_
    refine AW.callV (As := [(0, C v0.toNat 4)]) (rest := []) (ci := 3) (m_Re_isLetter l E n C v0 (C v0.toNat 4) _ h) cb_3_132 im_Re_isLetter se_Re_isLetter ⟨_, _, rfl⟩ (by decide) (dc hd_Re_step 52 rfl) g_32 rfl rfl ⟨Nat.le_of_ble_eq_true rfl, Nat.le_of_ble_eq_true rfl⟩ ⟨(Nat.le_of_ble_eq_true rfl), (Nat.le_of_ble_eq_true rfl)⟩ (Nat.le_of_ble_eq_true rfl) (fun _ h => by cases h) (fun _ => rfl) (fun r_34 D_36 d_37 q_35 => ?_)
    obtain ⟨q_35a, q_35b, h⟩ := q_35
    subst D_36
    subst d_37
    show AW p l e _ s m args below meth c E M_Re_step true _ n _ _ _ [(2, v0)] [(0, r_34)] C
    refine AW.if_eq (t := 198) (dc hd_Re_step 53 rfl) (by decide) (fun c_38 => ?_) (fun c_38 => ?_)
    · have h := h.1 c_38
      refine AW.fgt [(9, 0)] ⟨.inr rfl, trivial⟩ ?_
      exact aJ_Re_step_198 n C Q h
    · have h := h.2 c_38
      refine AW.ra_n (dc hd_Re_step 54 rfl) rfl rfl rfl ?_
      refine AW.rdup (dc hd_Re_step 55 rfl) rfl ?_
      refine AW.getf fl_3_26 (dc hd_Re_step 56 rfl) g_32 ?_
      refine AW.iconst (dc hd_Re_step 57 rfl) (by decide) ?_
      refine AW.iadd (dc hd_Re_step 58 rfl) ?_
      refine AW.nputI fl_3_26 (dc hd_Re_step 59 rfl) g_32 (fun C_39 eC_39 => ?_)
      have h := h C_39 eC_39
      refine AW.goto (t := 89) (dc hd_Re_step 60 rfl) (by decide) ?_
      exact hkz89 C_39 h
theorem aB_Re_step_89 (n : Nat) (v0 : Int) (Q : Int → Cn → Prop) : ∀ (f : Nat) (z : Cn), lp (B_Re_step_89 n v0 Q) f z → AW p l e R s m args below meth c E M_Re_step true (fun r C2 n2 => n2 = n ∧ Q r C2) n 0 0 89 [(2, v0)] [] z := by
  intro f
  induction f with
  | zero => intro z h; exact False.elim h
  | succ f ih => intro z h; exact bB_Re_step_89 n v0 Q (lp (B_Re_step_89 n v0 Q) f) (fun a0 h => ih a0 h) z h
def J_Re_step_46 (n : Nat) (C : Cn) (v0 : Int) (Q : Int → Cn → Prop) : Prop :=
  okO n v0 3 ∧ (∀ C_6 : Cn, C_6 = wr C v0.toNat 4 (C v0.toNat 3) → ((C_6 v0.toNat 3 < C_6 v0.toNat 1 → (P_Re_isLetter n C_6 v0 (C_6 v0.toNat 3) (fun (r_8 : Int) => (r_8 = 0 → (P_Re_isDigit n C_6 v0 (C_6 v0.toNat 3) (fun (r_13 : Int) => (r_13 = 0 → (okO n (PT v0.toNat 0) 11 ∧ (okI (PT v0.toNat 0) (C_6 v0.toNat 3) ∧ ((C_6 (PT v0.toNat 0).toNat (C_6 v0.toNat 3).toNat = 59 → (J_Re_step_185 n C_6 v0 v0 3 Q)) ∧ (¬ C_6 (PT v0.toNat 0).toNat (C_6 v0.toNat 3).toNat = 59 → (J_Re_step_185 n C_6 v0 v0 (if C_6 (PT v0.toNat 0).toNat (C_6 v0.toNat 3).toNat = 45 then 4 else 5) Q)))))) ∧ (¬ r_13 = 0 → (∀ C_26 : Cn, C_26 = wr C_6 v0.toNat 2 2 → (P_Re_readDigits n C_26 v0 (fun (_ : Int) (C_27 : Cn) => Q 0 C_27))))))) ∧ (¬ r_8 = 0 → (∀ C_31 : Cn, C_31 = wr C_6 v0.toNat 2 1 → (∃ f_40 : Nat, lp (B_Re_step_89 n v0 Q) f_40 C_31)))))) ∧ (¬ C_6 v0.toNat 3 < C_6 v0.toNat 1 → (∀ C_41 : Cn, C_41 = wr C_6 v0.toNat 2 0 → (Q 0 C_41)))))
theorem aJ_Re_step_46 (n : Nat) (C : Cn) (v0 : Int) (Q : Int → Cn → Prop) (h : J_Re_step_46 n C v0 Q) : AW p l e R s m args below meth c E M_Re_step true (fun r C2 n2 => n2 = n ∧ Q r C2) n 0 0 46 [(2, v0)] [] C := by
  unfold J_Re_step_46 at h
  refine AW.ra_n (dc hd_Re_step 23 rfl) rfl rfl rfl ?_
  refine AW.ra_n (dc hd_Re_step 24 rfl) rfl rfl rfl ?_
  obtain ⟨g_5, h⟩ := h
  refine AW.getf fl_3_43 (dc hd_Re_step 25 rfl) g_5 ?_
  refine AW.nputI fl_3_26 (dc hd_Re_step 26 rfl) g_5 (fun C_6 eC_6 => ?_)
  have h := h C_6 eC_6
  refine AW.ra_n (dc hd_Re_step 27 rfl) rfl rfl rfl ?_
  refine AW.getf fl_3_43 (dc hd_Re_step 28 rfl) g_5 ?_
  refine AW.ra_n (dc hd_Re_step 29 rfl) rfl rfl rfl ?_
  refine AW.getf fl_3_46 (dc hd_Re_step 30 rfl) g_5 ?_
  refine AW.icmp_lt (t := 73) (dc hd_Re_step 31 rfl) (by decide) (fun c_7 => ?_) (fun c_7 => ?_)
  · have h := h.1 c_7
    refine AW.ra_n (dc hd_Re_step 36 rfl) rfl rfl rfl ?_
    refine AW.ra_n (dc hd_Re_step 37 rfl) rfl rfl rfl ?_
    refine AW.getf fl_3_43 (dc hd_Re_step 38 rfl) g_5 ?_
    refine AW.callV (As := [(0, C_6 v0.toNat 3)]) (rest := []) (ci := 3) (m_Re_isLetter l E n C_6 v0 (C_6 v0.toNat 3) _ h) cb_3_132 im_Re_isLetter se_Re_isLetter ⟨_, _, rfl⟩ (by decide) (dc hd_Re_step 39 rfl) g_5 rfl rfl ⟨Nat.le_of_ble_eq_true rfl, Nat.le_of_ble_eq_true rfl⟩ ⟨(Nat.le_of_ble_eq_true rfl), (Nat.le_of_ble_eq_true rfl)⟩ (Nat.le_of_ble_eq_true rfl) (fun _ h => by cases h) (fun _ => rfl) (fun r_8 D_10 d_11 q_9 => ?_)
    obtain ⟨q_9a, q_9b, h⟩ := q_9
    subst D_10
    subst d_11
    show AW p l e _ s m args below meth c E M_Re_step true _ n _ _ _ [(2, v0)] [(0, r_8)] C_6
    refine AW.if_eq (t := 124) (dc hd_Re_step 40 rfl) (by decide) (fun c_12 => ?_) (fun c_12 => ?_)
    · have h := h.1 c_12
      refine AW.ra_n (dc hd_Re_step 61 rfl) rfl rfl rfl ?_
      refine AW.ra_n (dc hd_Re_step 62 rfl) rfl rfl rfl ?_
      refine AW.getf fl_3_43 (dc hd_Re_step 63 rfl) g_5 ?_
      refine AW.callV (As := [(0, C_6 v0.toNat 3)]) (rest := []) (ci := 3) (m_Re_isDigit l E n C_6 v0 (C_6 v0.toNat 3) _ h) cb_3_135 im_Re_isDigit se_Re_isDigit ⟨_, _, rfl⟩ (by decide) (dc hd_Re_step 64 rfl) g_5 rfl rfl ⟨Nat.le_of_ble_eq_true rfl, Nat.le_of_ble_eq_true rfl⟩ ⟨(Nat.le_of_ble_eq_true rfl), (Nat.le_of_ble_eq_true rfl)⟩ (Nat.le_of_ble_eq_true rfl) (fun _ h => by cases h) (fun _ => rfl) (fun r_13 D_15 d_16 q_14 => ?_)
      obtain ⟨q_14a, q_14b, h⟩ := q_14
      subst D_15
      subst d_16
      show AW p l e _ s m args below meth c E M_Re_step true _ n _ _ _ [(2, v0)] [(0, r_13)] C_6
      refine AW.if_eq (t := 147) (dc hd_Re_step 65 rfl) (by decide) (fun c_17 => ?_) (fun c_17 => ?_)
      · have h := h.1 c_17
        refine AW.ra_n (dc hd_Re_step 72 rfl) rfl rfl rfl ?_
        refine AW.ra_n (dc hd_Re_step 73 rfl) rfl rfl rfl ?_
        refine AW.getp fl_3_9 (dc hd_Re_step 74 rfl) g_5 rfl ?_
        refine AW.ra_n (dc hd_Re_step 75 rfl) rfl rfl rfl ?_
        refine AW.getf fl_3_43 (dc hd_Re_step 76 rfl) g_5 ?_
        obtain ⟨g_18, h⟩ := h
        obtain ⟨g_19, h⟩ := h
        refine AW.bald (dc hd_Re_step 77 rfl) g_18 g_19 ?_
        refine AW.bipush (dc hd_Re_step 78 rfl) (by decide) (by decide +kernel) ?_
        refine AW.icmp_ne (t := 166) (dc hd_Re_step 79 rfl) (by decide) (fun c_20 => ?_) (fun c_20 => ?_)
        · have h := h.2 c_20
          refine AW.ra_n (dc hd_Re_step 82 rfl) rfl rfl rfl ?_
          refine AW.getp fl_3_9 (dc hd_Re_step 83 rfl) g_5 rfl ?_
          refine AW.ra_n (dc hd_Re_step 84 rfl) rfl rfl rfl ?_
          refine AW.getf fl_3_43 (dc hd_Re_step 85 rfl) g_5 ?_
          refine AW.bald (dc hd_Re_step 86 rfl) g_18 g_19 ?_
          refine AW.bipush (dc hd_Re_step 87 rfl) (by decide) (by decide +kernel) ?_
          refine AW.icmp_ne (t := 184) (dc hd_Re_step 88 rfl) (by decide) (fun c_21 => ?_) (fun c_21 => ?_)
          · simp only [if_neg (show ¬ (C_6 (PT v0.toNat 0).toNat (C_6 v0.toNat 3).toNat = 45) from c_21)] at h
            refine AW.iconst (dc hd_Re_step 91 rfl) (by decide) ?_
            exact aJ_Re_step_185 n C_6 _ _ _ Q h
          · simp only [if_pos (show C_6 (PT v0.toNat 0).toNat (C_6 v0.toNat 3).toNat = 45 from c_21)] at h
            refine AW.iconst (dc hd_Re_step 89 rfl) (by decide) ?_
            refine AW.goto (t := 185) (dc hd_Re_step 90 rfl) (by decide) ?_
            exact aJ_Re_step_185 n C_6 _ _ _ Q h
        · have h := h.1 c_20
          refine AW.iconst (dc hd_Re_step 80 rfl) (by decide) ?_
          refine AW.goto (t := 185) (dc hd_Re_step 81 rfl) (by decide) ?_
          exact aJ_Re_step_185 n C_6 v0 v0 3 Q h
      · have h := h.2 c_17
        refine AW.ra_n (dc hd_Re_step 66 rfl) rfl rfl rfl ?_
        refine AW.iconst (dc hd_Re_step 67 rfl) (by decide) ?_
        refine AW.nputI fl_3_40 (dc hd_Re_step 68 rfl) g_5 (fun C_26 eC_26 => ?_)
        have h := h C_26 eC_26
        refine AW.ra_n (dc hd_Re_step 69 rfl) rfl rfl rfl ?_
        refine AW.callV (As := []) (rest := []) (ci := 3) (m_Re_readDigits l E n C_26 v0 _ h) cb_3_138 im_Re_readDigits se_Re_readDigits ⟨_, _, rfl⟩ (by decide) (dc hd_Re_step 70 rfl) g_5 rfl rfl ⟨Nat.le_of_ble_eq_true rfl, Nat.le_of_ble_eq_true rfl⟩ ⟨(Nat.le_of_ble_eq_true rfl), (Nat.le_of_ble_eq_true rfl)⟩ (Nat.le_of_ble_eq_true rfl) (fun _ h => by cases h) (fun _ => rfl) (fun u_29 C_27 d_30 q_28 => ?_)
        obtain ⟨q_28a, h⟩ := q_28
        subst d_30
        show AW p l e _ s m args below meth c E M_Re_step true _ n _ _ _ [(2, v0)] [] C_27
        refine AW.goto (t := 198) (dc hd_Re_step 71 rfl) (by decide) ?_
        exact AW.vret (dc hd_Re_step 99 rfl) rfl rfl (Nat.le_of_ble_eq_true rfl) (Nat.le_of_ble_eq_true rfl) ⟨rfl, h⟩
    · have h := h.2 c_12
      refine AW.ra_n (dc hd_Re_step 41 rfl) rfl rfl rfl ?_
      refine AW.iconst (dc hd_Re_step 42 rfl) (by decide) ?_
      refine AW.nputI fl_3_40 (dc hd_Re_step 43 rfl) g_5 (fun C_31 eC_31 => ?_)
      have h := h C_31 eC_31
      obtain ⟨f_40, h⟩ := h
      exact aB_Re_step_89 n v0 Q f_40 C_31 h
  · have h := h.2 c_7
    refine AW.ra_n (dc hd_Re_step 32 rfl) rfl rfl rfl ?_
    refine AW.iconst (dc hd_Re_step 33 rfl) (by decide) ?_
    refine AW.nputI fl_3_40 (dc hd_Re_step 34 rfl) g_5 (fun C_41 eC_41 => ?_)
    have h := h C_41 eC_41
    refine AW.goto (t := 198) (dc hd_Re_step 35 rfl) (by decide) ?_
    exact AW.vret (dc hd_Re_step 99 rfl) rfl rfl (Nat.le_of_ble_eq_true rfl) (Nat.le_of_ble_eq_true rfl) ⟨rfl, h⟩
def B_Re_step_8 (n : Nat) (v0 : Int) (Q : Int → Cn → Prop) (kz8 : Cn → Prop) (C : Cn) : Prop :=
  okO n v0 3 ∧ ((C v0.toNat 1 ≤ C v0.toNat 3 → (J_Re_step_46 n C v0 Q)) ∧ (¬ C v0.toNat 1 ≤ C v0.toNat 3 → (okO n (PT v0.toNat 0) 11 ∧ (okI (PT v0.toNat 0) (C v0.toNat 3) ∧ ((C (PT v0.toNat 0).toNat (C v0.toNat 3).toNat = 32 → (∀ C_45 : Cn, C_45 = wr C v0.toNat 3 (w32 (C v0.toNat 3 + 1)) → (kz8 C_45))) ∧ (¬ C (PT v0.toNat 0).toNat (C v0.toNat 3).toNat = 32 → (J_Re_step_46 n C v0 Q)))))))
theorem bB_Re_step_8 (n : Nat) (v0 : Int) (Q : Int → Cn → Prop) (kz8 : Cn → Prop) (hkz8 : ∀ (Cz : Cn), kz8 Cz → AW p l e R s m args below meth c E M_Re_step true (fun r C2 n2 => n2 = n ∧ Q r C2) n 0 0 8 [(2, v0)] [] Cz) (C : Cn) (h : B_Re_step_8 n v0 Q kz8 C) : AW p l e R s m args below meth c E M_Re_step true (fun r C2 n2 => n2 = n ∧ Q r C2) n 0 0 8 [(2, v0)] [] C := by
  unfold B_Re_step_8 at h
  refine AW.ra_n (dc hd_Re_step 4 rfl) rfl rfl rfl ?_
  obtain ⟨g_3, h⟩ := h
  refine AW.getf fl_3_43 (dc hd_Re_step 5 rfl) g_3 ?_
  refine AW.ra_n (dc hd_Re_step 6 rfl) rfl rfl rfl ?_
  refine AW.getf fl_3_46 (dc hd_Re_step 7 rfl) g_3 ?_
  refine AW.icmp_ge (t := 46) (dc hd_Re_step 8 rfl) (by decide) (fun c_4 => ?_) (fun c_4 => ?_)
  · have h := h.1 c_4
    exact aJ_Re_step_46 n C v0 Q h
  · have h := h.2 c_4
    refine AW.ra_n (dc hd_Re_step 9 rfl) rfl rfl rfl ?_
    refine AW.getp fl_3_9 (dc hd_Re_step 10 rfl) g_3 rfl ?_
    refine AW.ra_n (dc hd_Re_step 11 rfl) rfl rfl rfl ?_
    refine AW.getf fl_3_43 (dc hd_Re_step 12 rfl) g_3 ?_
    obtain ⟨g_42, h⟩ := h
    obtain ⟨g_43, h⟩ := h
    refine AW.bald (dc hd_Re_step 13 rfl) g_42 g_43 ?_
    refine AW.bipush (dc hd_Re_step 14 rfl) (by decide) (by decide +kernel) ?_
    refine AW.icmp_ne (t := 46) (dc hd_Re_step 15 rfl) (by decide) (fun c_44 => ?_) (fun c_44 => ?_)
    · have h := h.2 c_44
      exact aJ_Re_step_46 n C v0 Q h
    · have h := h.1 c_44
      refine AW.ra_n (dc hd_Re_step 16 rfl) rfl rfl rfl ?_
      refine AW.rdup (dc hd_Re_step 17 rfl) rfl ?_
      refine AW.getf fl_3_43 (dc hd_Re_step 18 rfl) g_3 ?_
      refine AW.iconst (dc hd_Re_step 19 rfl) (by decide) ?_
      refine AW.iadd (dc hd_Re_step 20 rfl) ?_
      refine AW.nputI fl_3_43 (dc hd_Re_step 21 rfl) g_3 (fun C_45 eC_45 => ?_)
      have h := h C_45 eC_45
      refine AW.goto (t := 8) (dc hd_Re_step 22 rfl) (by decide) ?_
      exact hkz8 C_45 h
theorem aB_Re_step_8 (n : Nat) (v0 : Int) (Q : Int → Cn → Prop) : ∀ (f : Nat) (z : Cn), lp (B_Re_step_8 n v0 Q) f z → AW p l e R s m args below meth c E M_Re_step true (fun r C2 n2 => n2 = n ∧ Q r C2) n 0 0 8 [(2, v0)] [] z := by
  intro f
  induction f with
  | zero => intro z h; exact False.elim h
  | succ f ih => intro z h; exact bB_Re_step_8 n v0 Q (lp (B_Re_step_8 n v0 Q) f) (fun a0 h => ih a0 h) z h
def P_Re_step (n : Nat) (C : Cn) (v0 : Int) (Q : Int → Cn → Prop) : Prop :=
  okO n v0 3 ∧ (∀ C_2 : Cn, C_2 = wr C v0.toNat 3 (C v0.toNat 4) → (∃ f_46 : Nat, lp (B_Re_step_8 n v0 Q) f_46 C_2))
theorem m_Re_step (l : Launch) (E : Ev) (n : Nat) (C : Cn) (v0 : Int) (Q : Int → Cn → Prop) (h : P_Re_step n C v0 Q) : MA l y_Re_step M_Re_step E true C n [(2, v0)] (fun r C2 n2 => n2 = n ∧ Q r C2) := by
  refine MA.of (by decide) rfl rfl 0 rfl (fun p e s m args below meth c => ?_)
  show AW p l e _ s m args below meth c E M_Re_step true _ n 0 0 0 [(2, v0)] [] C
  unfold P_Re_step at h
  refine AW.ra_n (dc hd_Re_step 0 rfl) rfl rfl rfl ?_
  refine AW.ra_n (dc hd_Re_step 1 rfl) rfl rfl rfl ?_
  obtain ⟨g_1, h⟩ := h
  refine AW.getf fl_3_26 (dc hd_Re_step 2 rfl) g_1 ?_
  refine AW.nputI fl_3_43 (dc hd_Re_step 3 rfl) g_1 (fun C_2 eC_2 => ?_)
  have h := h C_2 eC_2
  obtain ⟨f_46, h⟩ := h
  exact aB_Re_step_8 n v0 Q f_46 C_2 h
def J_Re_isNumber_21 (n : Nat) (C : Cn) (s0 : Int) (Q : Int → Prop) : Prop :=
  (s0 = 0 ∨ s0 = 1) ∧ (Q s0)
theorem aJ_Re_isNumber_21 (n : Nat) (C : Cn) (s0 : Int) (Q : Int → Prop) (h : J_Re_isNumber_21 n C s0 Q) : AW p l e R s m args below meth c E M_Re_isNumber true (fun r C2 n2 => C2 = C ∧ n2 = n ∧ Q r) n 0 0 21 [(9, 0), (9, 0)] [(0, s0)] C := by
  unfold J_Re_isNumber_21 at h
  obtain ⟨g_4, h⟩ := h
  exact AW.zret (dc hd_Re_isNumber 11 rfl) rfl rfl (Nat.le_of_ble_eq_true rfl) (Nat.le_of_ble_eq_true rfl) g_4 ⟨rfl, rfl, h⟩
def P_Re_isNumber (n : Nat) (C : Cn) (v0 v1 : Int) (Q : Int → Prop) : Prop :=
  okO n v0 3 ∧ (J_Re_isNumber_21 n C (if C v0.toNat 2 = 2 then (if v1 < C v0.toNat 5 then 0 else 1) else 0) Q)
theorem m_Re_isNumber (l : Launch) (E : Ev) (n : Nat) (C : Cn) (v0 v1 : Int) (Q : Int → Prop) (h : P_Re_isNumber n C v0 v1 Q) : MA l y_Re_isNumber M_Re_isNumber E true C n [(2, v0), (0, v1)] (fun r C2 n2 => C2 = C ∧ n2 = n ∧ Q r) := by
  refine MA.of (by decide) rfl rfl 0 rfl (fun p e s m args below meth c => ?_)
  show AW p l e _ s m args below meth c E M_Re_isNumber true _ n 0 0 0 [(2, v0), (0, v1)] [] C
  unfold P_Re_isNumber at h
  refine AW.ra_n (dc hd_Re_isNumber 0 rfl) rfl rfl rfl ?_
  obtain ⟨g_1, h⟩ := h
  refine AW.getf fl_3_40 (dc hd_Re_isNumber 1 rfl) g_1 ?_
  refine AW.iconst (dc hd_Re_isNumber 2 rfl) (by decide) ?_
  refine AW.icmp_ne (t := 20) (dc hd_Re_isNumber 3 rfl) (by decide) (fun c_2 => ?_) (fun c_2 => ?_)
  · simp only [if_neg (show ¬ (C v0.toNat 2 = 2) from c_2)] at h
    refine AW.iconst (dc hd_Re_isNumber 10 rfl) (by decide) ?_
    refine AW.fgt [(9, 0), (9, 0)] ⟨.inr rfl, .inr rfl, trivial⟩ ?_
    exact aJ_Re_isNumber_21 n C _ Q h
  · simp only [if_pos (show C v0.toNat 2 = 2 from c_2)] at h
    refine AW.ra_n (dc hd_Re_isNumber 4 rfl) rfl rfl rfl ?_
    refine AW.getf fl_3_89 (dc hd_Re_isNumber 5 rfl) g_1 ?_
    refine AW.iload_n (dc hd_Re_isNumber 6 rfl) rfl ?_
    refine AW.icmp_gt (t := 20) (dc hd_Re_isNumber 7 rfl) (by decide) (fun c_3 => ?_) (fun c_3 => ?_)
    · simp only [if_pos (show v1 < C v0.toNat 5 from c_3)] at h
      refine AW.iconst (dc hd_Re_isNumber 10 rfl) (by decide) ?_
      refine AW.fgt [(9, 0), (9, 0)] ⟨.inr rfl, .inr rfl, trivial⟩ ?_
      exact aJ_Re_isNumber_21 n C _ Q h
    · simp only [if_neg (show ¬ (v1 < C v0.toNat 5) from c_3)] at h
      refine AW.iconst (dc hd_Re_isNumber 8 rfl) (by decide) ?_
      refine AW.goto (t := 21) (dc hd_Re_isNumber 9 rfl) (by decide) ?_
      refine AW.fgt [(9, 0), (9, 0)] ⟨.inr rfl, .inr rfl, trivial⟩ ?_
      exact aJ_Re_isNumber_21 n C _ Q h
def P_Re_failsHere (n : Nat) (C : Cn) (v0 : Int) (Q : Int → Cn → Prop) : Prop :=
  okO n v0 3 ∧ (∀ C_2 : Cn, C_2 = wr C v0.toNat 6 (C v0.toNat 3) → (Q 0 C_2))
theorem m_Re_failsHere (l : Launch) (E : Ev) (n : Nat) (C : Cn) (v0 : Int) (Q : Int → Cn → Prop) (h : P_Re_failsHere n C v0 Q) : MA l y_Re_failsHere M_Re_failsHere E true C n [(2, v0)] (fun r C2 n2 => n2 = n ∧ Q r C2) := by
  refine MA.of (by decide) rfl rfl 0 rfl (fun p e s m args below meth c => ?_)
  show AW p l e _ s m args below meth c E M_Re_failsHere true _ n 0 0 0 [(2, v0)] [] C
  unfold P_Re_failsHere at h
  refine AW.ra_n (dc hd_Re_failsHere 0 rfl) rfl rfl rfl ?_
  refine AW.ra_n (dc hd_Re_failsHere 1 rfl) rfl rfl rfl ?_
  obtain ⟨g_1, h⟩ := h
  refine AW.getf fl_3_43 (dc hd_Re_failsHere 2 rfl) g_1 ?_
  refine AW.nputI fl_3_37 (dc hd_Re_failsHere 3 rfl) g_1 (fun C_2 eC_2 => ?_)
  have h := h C_2 eC_2
  refine AW.iconst (dc hd_Re_failsHere 4 rfl) (by decide) ?_
  exact AW.zret (dc hd_Re_failsHere 5 rfl) rfl rfl (Nat.le_of_ble_eq_true rfl) (Nat.le_of_ble_eq_true rfl) (by decide) ⟨rfl, h⟩
def P_Re_readTide (n : Nat) (C : Cn) (v0 v1 : Int) (Q : Int → Cn → Prop) : Prop :=
  okO n v0 3 ∧ (P_Re_step n C v0 (fun (_ : Int) (C_2 : Cn) => P_Re_isNumber n C_2 v0 3 (fun (r_6 : Int) => (r_6 = 0 → (P_Re_failsHere n C_2 v0 (fun (r_13 : Int) (C_14 : Cn) => (r_13 = 0 ∨ r_13 = 1) ∧ (Q r_13 C_14)))) ∧ (¬ r_6 = 0 → (okO n v1 1 ∧ (∀ C_12 : Cn, C_12 = wr C_2 v1.toNat 2 (C_2 v0.toNat 5) → (Q 1 C_12)))))))
theorem m_Re_readTide (l : Launch) (E : Ev) (n : Nat) (C : Cn) (v0 v1 : Int) (Q : Int → Cn → Prop) (h : P_Re_readTide n C v0 v1 Q) : MA l y_Re_readTide M_Re_readTide E true C n [(2, v0), (2, v1)] (fun r C2 n2 => n2 = n ∧ Q r C2) := by
  refine MA.of (by decide) rfl rfl 0 rfl (fun p e s m args below meth c => ?_)
  show AW p l e _ s m args below meth c E M_Re_readTide true _ n 0 0 0 [(2, v0), (2, v1)] [] C
  unfold P_Re_readTide at h
  refine AW.ra_n (dc hd_Re_readTide 0 rfl) rfl rfl rfl ?_
  obtain ⟨g_1, h⟩ := h
  refine AW.callV (As := []) (rest := []) (ci := 3) (m_Re_step l E n C v0 _ h) cb_3_30 im_Re_step se_Re_step ⟨_, _, rfl⟩ (by decide) (dc hd_Re_readTide 1 rfl) g_1 rfl rfl ⟨Nat.le_of_ble_eq_true rfl, Nat.le_of_ble_eq_true rfl⟩ ⟨(Nat.le_of_ble_eq_true rfl), (Nat.le_of_ble_eq_true rfl)⟩ (Nat.le_of_ble_eq_true rfl) (fun _ h => by cases h) (fun _ => rfl) (fun u_4 C_2 d_5 q_3 => ?_)
  obtain ⟨q_3a, h⟩ := q_3
  subst d_5
  show AW p l e _ s m args below meth c E M_Re_readTide true _ n _ _ _ [(2, v0), (2, v1)] [] C_2
  refine AW.ra_n (dc hd_Re_readTide 2 rfl) rfl rfl rfl ?_
  refine AW.iconst (dc hd_Re_readTide 3 rfl) (by decide) ?_
  refine AW.callV (As := [(0, 3)]) (rest := []) (ci := 3) (m_Re_isNumber l E n C_2 v0 3 _ h) cb_3_86 im_Re_isNumber se_Re_isNumber ⟨_, _, rfl⟩ (by decide) (dc hd_Re_readTide 4 rfl) g_1 rfl rfl ⟨Nat.le_of_ble_eq_true rfl, Nat.le_of_ble_eq_true rfl⟩ ⟨(Nat.le_of_ble_eq_true rfl), (Nat.le_of_ble_eq_true rfl)⟩ (Nat.le_of_ble_eq_true rfl) (fun _ h => by cases h) (fun _ => rfl) (fun r_6 D_8 d_9 q_7 => ?_)
  obtain ⟨q_7a, q_7b, h⟩ := q_7
  subst D_8
  subst d_9
  show AW p l e _ s m args below meth c E M_Re_readTide true _ n _ _ _ [(2, v0), (2, v1)] [(0, r_6)] C_2
  refine AW.if_ne (t := 17) (dc hd_Re_readTide 5 rfl) (by decide) (fun c_10 => ?_) (fun c_10 => ?_)
  · have h := h.2 c_10
    refine AW.ra_n (dc hd_Re_readTide 9 rfl) rfl rfl rfl ?_
    refine AW.ra_n (dc hd_Re_readTide 10 rfl) rfl rfl rfl ?_
    refine AW.getf fl_3_89 (dc hd_Re_readTide 11 rfl) g_1 ?_
    obtain ⟨g_11, h⟩ := h
    refine AW.nputI fl_3_92 (dc hd_Re_readTide 12 rfl) g_11 (fun C_12 eC_12 => ?_)
    have h := h C_12 eC_12
    refine AW.iconst (dc hd_Re_readTide 13 rfl) (by decide) ?_
    exact AW.zret (dc hd_Re_readTide 14 rfl) rfl rfl (Nat.le_of_ble_eq_true rfl) (Nat.le_of_ble_eq_true rfl) (by decide) ⟨rfl, h⟩
  · have h := h.1 c_10
    refine AW.ra_n (dc hd_Re_readTide 6 rfl) rfl rfl rfl ?_
    refine AW.callV (As := []) (rest := []) (ci := 3) (m_Re_failsHere l E n C_2 v0 _ h) cb_3_68 im_Re_failsHere se_Re_failsHere ⟨_, _, rfl⟩ (by decide) (dc hd_Re_readTide 7 rfl) g_1 rfl rfl ⟨Nat.le_of_ble_eq_true rfl, Nat.le_of_ble_eq_true rfl⟩ ⟨(Nat.le_of_ble_eq_true rfl), (Nat.le_of_ble_eq_true rfl)⟩ (Nat.le_of_ble_eq_true rfl) (fun _ h => by cases h) (fun _ => rfl) (fun r_13 C_14 d_16 q_15 => ?_)
    obtain ⟨q_15a, h⟩ := q_15
    subst d_16
    show AW p l e _ s m args below meth c E M_Re_readTide true _ n _ _ _ [(2, v0), (2, v1)] [(0, r_13)] C_14
    obtain ⟨g_17, h⟩ := h
    exact AW.zret (dc hd_Re_readTide 8 rfl) rfl rfl (Nat.le_of_ble_eq_true rfl) (Nat.le_of_ble_eq_true rfl) g_17 ⟨rfl, h⟩
end
