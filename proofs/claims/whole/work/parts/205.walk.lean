section
variable {p : Program} {l : Launch} {e : Env} {R : Room} {s : State} {m : MethodId} {args : Array Value} {below : List Frame} {meth : Method} {c : Code} {E : Ev}
def B_Sp_manyFull_4 (n : Nat) (C : Cn) (v0 v1 : Int) (Q : Int → Prop) (kz4 : Int × Int → Prop) (z : Int × Int) : Prop := match z with
  | (v2, v3) => (10 ≤ v3 → (Q v2)) ∧ (¬ 10 ≤ v3 → (okO n v0 6 ∧ (P_Sp_isFull n C v0 v3 v1 (fun (r_2 : Int) => (r_2 = 0 → (kz4 (v2, w32 (v3 + 1)))) ∧ (¬ r_2 = 0 → (kz4 (w32 (v2 + 1), w32 (v3 + 1))))))))
theorem bB_Sp_manyFull_4 (n : Nat) (C : Cn) (v0 v1 : Int) (Q : Int → Prop) (kz4 : Int × Int → Prop) (hkz4 : ∀ (z2 : Int) (z3 : Int), kz4 (z2, z3) → AW p l e R s m args below meth c E M_Sp_manyFull true (fun r C2 n2 => C2 = C ∧ n2 = n ∧ Q r) n 0 0 4 [(2, v0), (0, v1), (0, z2), (0, z3)] [] C) (v2 : Int) (v3 : Int) (h : B_Sp_manyFull_4 n C v0 v1 Q kz4 (v2, v3)) : AW p l e R s m args below meth c E M_Sp_manyFull true (fun r C2 n2 => C2 = C ∧ n2 = n ∧ Q r) n 0 0 4 [(2, v0), (0, v1), (0, v2), (0, v3)] [] C := by
  unfold B_Sp_manyFull_4 at h
  dsimp only at h
  refine AW.iload_n (dc hd_Sp_manyFull 4 rfl) rfl ?_
  refine AW.bipush (dc hd_Sp_manyFull 5 rfl) (by decide) (by decide +kernel) ?_
  refine AW.icmp_ge (t := 28) (dc hd_Sp_manyFull 6 rfl) (by decide) (fun c_1 => ?_) (fun c_1 => ?_)
  · have h := h.1 c_1
    refine AW.iload_n (dc hd_Sp_manyFull 15 rfl) rfl ?_
    exact AW.iret (dc hd_Sp_manyFull 16 rfl) rfl rfl (Nat.le_of_ble_eq_true rfl) (Nat.le_of_ble_eq_true rfl) ⟨rfl, rfl, h⟩
  · have h := h.2 c_1
    refine AW.ra_n (dc hd_Sp_manyFull 7 rfl) rfl rfl rfl ?_
    refine AW.iload_n (dc hd_Sp_manyFull 8 rfl) rfl ?_
    refine AW.iload_n (dc hd_Sp_manyFull 9 rfl) rfl ?_
    obtain ⟨g_3, h⟩ := h
    refine AW.callV (As := [(0, v3), (0, v1)]) (rest := []) (ci := 6) (m_Sp_isFull l E n C v0 v3 v1 _ h) cb_6_18 im_Sp_isFull se_Sp_isFull ⟨_, _, rfl⟩ (by decide) (dc hd_Sp_manyFull 10 rfl) g_3 rfl rfl ⟨Nat.le_of_ble_eq_true rfl, Nat.le_of_ble_eq_true rfl⟩ ⟨(Nat.le_of_ble_eq_true rfl), (Nat.le_of_ble_eq_true rfl)⟩ (Nat.le_of_ble_eq_true rfl) (fun _ h => by cases h) (fun _ => rfl) (fun r_2 D_5 d_6 q_4 => ?_)
    obtain ⟨q_4a, q_4b, h⟩ := q_4
    subst D_5
    subst d_6
    show AW p l e _ s m args below meth c E M_Sp_manyFull true _ n _ _ _ [(2, v0), (0, v1), (0, v2), (0, v3)] [(0, r_2)] C
    refine AW.if_eq (t := 22) (dc hd_Sp_manyFull 11 rfl) (by decide) (fun c_7 => ?_) (fun c_7 => ?_)
    · have h := h.1 c_7
      refine AW.iinc [(2, v0), (0, v1), (0, v2), (0, w32 (v3 + 1))] (dc hd_Sp_manyFull 13 rfl) rfl (Nat.le_of_ble_eq_true rfl) rfl rfl ?_
      refine AW.goto (t := 4) (dc hd_Sp_manyFull 14 rfl) (by decide) ?_
      exact hkz4 v2 (w32 (v3 + 1)) h
    · have h := h.2 c_7
      refine AW.iinc [(2, v0), (0, v1), (0, w32 (v2 + 1)), (0, v3)] (dc hd_Sp_manyFull 12 rfl) rfl (Nat.le_of_ble_eq_true rfl) rfl rfl ?_
      refine AW.iinc [(2, v0), (0, v1), (0, w32 (v2 + 1)), (0, w32 (v3 + 1))] (dc hd_Sp_manyFull 13 rfl) rfl (Nat.le_of_ble_eq_true rfl) rfl rfl ?_
      refine AW.goto (t := 4) (dc hd_Sp_manyFull 14 rfl) (by decide) ?_
      exact hkz4 (w32 (v2 + 1)) (w32 (v3 + 1)) h
theorem aB_Sp_manyFull_4 (n : Nat) (C : Cn) (v0 v1 : Int) (Q : Int → Prop) : ∀ (f : Nat) (z : Int × Int), lp (B_Sp_manyFull_4 n C v0 v1 Q) f z → AW p l e R s m args below meth c E M_Sp_manyFull true (fun r C2 n2 => C2 = C ∧ n2 = n ∧ Q r) n 0 0 4 [(2, v0), (0, v1), (0, z.1), (0, z.2)] [] C := by
  intro f
  induction f with
  | zero => intro z h; exact False.elim h
  | succ f ih => intro z h; exact bB_Sp_manyFull_4 n C v0 v1 Q (lp (B_Sp_manyFull_4 n C v0 v1 Q) f) (fun a0 a1 h => ih (a0, a1) h) z.1 z.2 h
def P_Sp_manyFull (n : Nat) (C : Cn) (v0 v1 : Int) (Q : Int → Prop) : Prop :=
  ∃ f_8 : Nat, lp (B_Sp_manyFull_4 n C v0 v1 Q) f_8 (0, 0)
theorem m_Sp_manyFull (l : Launch) (E : Ev) (n : Nat) (C : Cn) (v0 v1 : Int) (Q : Int → Prop) (h : P_Sp_manyFull n C v0 v1 Q) : MA l y_Sp_manyFull M_Sp_manyFull E true C n [(2, v0), (0, v1)] (fun r C2 n2 => C2 = C ∧ n2 = n ∧ Q r) := by
  refine MA.of (by decide) rfl rfl 2 rfl (fun p e s m args below meth c => ?_)
  show AW p l e _ s m args below meth c E M_Sp_manyFull true _ n 0 0 0 [(2, v0), (0, v1), (9, 0), (9, 0)] [] C
  unfold P_Sp_manyFull at h
  refine AW.iconst (dc hd_Sp_manyFull 0 rfl) (by decide) ?_
  refine AW.istore_n [(2, v0), (0, v1), (0, 0), (9, 0)] (dc hd_Sp_manyFull 1 rfl) (Nat.le_of_ble_eq_true rfl) rfl rfl ?_
  refine AW.iconst (dc hd_Sp_manyFull 2 rfl) (by decide) ?_
  refine AW.istore_n [(2, v0), (0, v1), (0, 0), (0, 0)] (dc hd_Sp_manyFull 3 rfl) (Nat.le_of_ble_eq_true rfl) rfl rfl ?_
  obtain ⟨f_8, h⟩ := h
  exact aB_Sp_manyFull_4 n C v0 v1 Q f_8 (0, 0) h
def J_Wa_isUnder_39 (n : Nat) (C : Cn) (Q : Int → Prop) : Prop :=
  Q 0
theorem aJ_Wa_isUnder_39 (n : Nat) (C : Cn) (Q : Int → Prop) (h : J_Wa_isUnder_39 n C Q) : AW p l e R s m args below meth c E M_Wa_isUnder true (fun r C2 n2 => C2 = C ∧ n2 = n ∧ Q r) n 0 0 39 [(9, 0), (9, 0), (9, 0), (9, 0)] [] C := by
  unfold J_Wa_isUnder_39 at h
  refine AW.iconst (dc hd_Wa_isUnder 23 rfl) (by decide) ?_
  exact AW.zret (dc hd_Wa_isUnder 24 rfl) rfl rfl (Nat.le_of_ble_eq_true rfl) (Nat.le_of_ble_eq_true rfl) (by decide) ⟨rfl, rfl, h⟩
def B_Wa_isUnder_4 (n : Nat) (C : Cn) (v1 : Int) (Q : Int → Prop) (kz4 : Int × Int → Prop) (z : Int × Int) : Prop := match z with
  | (v2, v3) => (6 ≤ v3 → (J_Wa_isUnder_39 n C Q)) ∧ (¬ 6 ≤ v3 → ((v2 < 0 → (J_Wa_isUnder_39 n C Q)) ∧ (¬ v2 < 0 → ((6 ≤ v2 → (J_Wa_isUnder_39 n C Q)) ∧ (¬ 6 ≤ v2 → ((v2 = v1 → (Q 1)) ∧ (¬ v2 = v1 → (0 ≤ v2 ∧ (v2 < SAL 1 ∧ (∀ v2_7 : Int, v2_7 = ((SAV 1).getD v2.toNat 0).toInt → (kz4 (v2_7, w32 (v3 + 1)))))))))))))
theorem bB_Wa_isUnder_4 (n : Nat) (C : Cn) (v1 : Int) (Q : Int → Prop) (kz4 : Int × Int → Prop) (hkz4 : ∀ (z2 : Int) (z3 : Int), kz4 (z2, z3) → AW p l e R s m args below meth c E M_Wa_isUnder true (fun r C2 n2 => C2 = C ∧ n2 = n ∧ Q r) n 0 0 4 [(9, 0), (0, v1), (0, z2), (0, z3)] [] C) (v2 : Int) (v3 : Int) (h : B_Wa_isUnder_4 n C v1 Q kz4 (v2, v3)) : AW p l e R s m args below meth c E M_Wa_isUnder true (fun r C2 n2 => C2 = C ∧ n2 = n ∧ Q r) n 0 0 4 [(9, 0), (0, v1), (0, v2), (0, v3)] [] C := by
  unfold B_Wa_isUnder_4 at h
  dsimp only at h
  refine AW.iload_n (dc hd_Wa_isUnder 4 rfl) rfl ?_
  refine AW.bipush (dc hd_Wa_isUnder 5 rfl) (by decide) (by decide +kernel) ?_
  refine AW.icmp_ge (t := 39) (dc hd_Wa_isUnder 6 rfl) (by decide) (fun c_1 => ?_) (fun c_1 => ?_)
  · have h := h.1 c_1
    refine AW.fgt [(9, 0), (9, 0), (9, 0), (9, 0)] ⟨.inl rfl, .inr rfl, .inr rfl, .inr rfl, trivial⟩ ?_
    exact aJ_Wa_isUnder_39 n C Q h
  · have h := h.2 c_1
    refine AW.iload_n (dc hd_Wa_isUnder 7 rfl) rfl ?_
    refine AW.if_lt (t := 39) (dc hd_Wa_isUnder 8 rfl) (by decide) (fun c_2 => ?_) (fun c_2 => ?_)
    · have h := h.1 c_2
      refine AW.fgt [(9, 0), (9, 0), (9, 0), (9, 0)] ⟨.inl rfl, .inr rfl, .inr rfl, .inr rfl, trivial⟩ ?_
      exact aJ_Wa_isUnder_39 n C Q h
    · have h := h.2 c_2
      refine AW.iload_n (dc hd_Wa_isUnder 9 rfl) rfl ?_
      refine AW.bipush (dc hd_Wa_isUnder 10 rfl) (by decide) (by decide +kernel) ?_
      refine AW.icmp_ge (t := 39) (dc hd_Wa_isUnder 11 rfl) (by decide) (fun c_3 => ?_) (fun c_3 => ?_)
      · have h := h.1 c_3
        refine AW.fgt [(9, 0), (9, 0), (9, 0), (9, 0)] ⟨.inl rfl, .inr rfl, .inr rfl, .inr rfl, trivial⟩ ?_
        exact aJ_Wa_isUnder_39 n C Q h
      · have h := h.2 c_3
        refine AW.iload_n (dc hd_Wa_isUnder 12 rfl) rfl ?_
        refine AW.iload_n (dc hd_Wa_isUnder 13 rfl) rfl ?_
        refine AW.icmp_ne (t := 27) (dc hd_Wa_isUnder 14 rfl) (by decide) (fun c_4 => ?_) (fun c_4 => ?_)
        · have h := h.2 c_4
          refine AW.gets (t := 1) gs_7_9 (Or.inr ⟨rfl, rfl, rfl⟩) (dc hd_Wa_isUnder 17 rfl) ?_
          refine AW.iload_n (dc hd_Wa_isUnder 18 rfl) rfl ?_
          obtain ⟨g_5, h⟩ := h
          obtain ⟨g_6, h⟩ := h
          refine AW.sald (t := 1) (by decide) (dc hd_Wa_isUnder 19 rfl) g_5 g_6 ?_
          refine AW.nm (fun v2_7 ev2_7 => ?_)
          have h := h v2_7 ev2_7
          refine AW.istore_n [(9, 0), (0, v1), (0, v2_7), (0, v3)] (dc hd_Wa_isUnder 20 rfl) (Nat.le_of_ble_eq_true rfl) rfl rfl ?_
          refine AW.iinc [(9, 0), (0, v1), (0, v2_7), (0, w32 (v3 + 1))] (dc hd_Wa_isUnder 21 rfl) rfl (Nat.le_of_ble_eq_true rfl) rfl rfl ?_
          refine AW.goto (t := 4) (dc hd_Wa_isUnder 22 rfl) (by decide) ?_
          exact hkz4 v2_7 (w32 (v3 + 1)) h
        · have h := h.1 c_4
          refine AW.iconst (dc hd_Wa_isUnder 15 rfl) (by decide) ?_
          exact AW.zret (dc hd_Wa_isUnder 16 rfl) rfl rfl (Nat.le_of_ble_eq_true rfl) (Nat.le_of_ble_eq_true rfl) (by decide) ⟨rfl, rfl, h⟩
theorem aB_Wa_isUnder_4 (n : Nat) (C : Cn) (v1 : Int) (Q : Int → Prop) : ∀ (f : Nat) (z : Int × Int), lp (B_Wa_isUnder_4 n C v1 Q) f z → AW p l e R s m args below meth c E M_Wa_isUnder true (fun r C2 n2 => C2 = C ∧ n2 = n ∧ Q r) n 0 0 4 [(9, 0), (0, v1), (0, z.1), (0, z.2)] [] C := by
  intro f
  induction f with
  | zero => intro z h; exact False.elim h
  | succ f ih => intro z h; exact bB_Wa_isUnder_4 n C v1 Q (lp (B_Wa_isUnder_4 n C v1 Q) f) (fun a0 a1 h => ih (a0, a1) h) z.1 z.2 h
def P_Wa_isUnder (n : Nat) (C : Cn) (v0 v1 : Int) (Q : Int → Prop) : Prop :=
  ∃ f_8 : Nat, lp (B_Wa_isUnder_4 n C v1 Q) f_8 (v0, 0)
theorem m_Wa_isUnder (l : Launch) (E : Ev) (n : Nat) (C : Cn) (v0 v1 : Int) (Q : Int → Prop) (h : P_Wa_isUnder n C v0 v1 Q) : MA l y_Wa_isUnder M_Wa_isUnder E true C n [(0, v0), (0, v1)] (fun r C2 n2 => C2 = C ∧ n2 = n ∧ Q r) := by
  refine MA.of (by decide) rfl rfl 2 rfl (fun p e s m args below meth c => ?_)
  show AW p l e _ s m args below meth c E M_Wa_isUnder true _ n 0 0 0 [(0, v0), (0, v1), (9, 0), (9, 0)] [] C
  unfold P_Wa_isUnder at h
  refine AW.iload_n (dc hd_Wa_isUnder 0 rfl) rfl ?_
  refine AW.istore_n [(0, v0), (0, v1), (0, v0), (9, 0)] (dc hd_Wa_isUnder 1 rfl) (Nat.le_of_ble_eq_true rfl) rfl rfl ?_
  refine AW.iconst (dc hd_Wa_isUnder 2 rfl) (by decide) ?_
  refine AW.istore_n [(0, v0), (0, v1), (0, v0), (0, 0)] (dc hd_Wa_isUnder 3 rfl) (Nat.le_of_ble_eq_true rfl) rfl rfl ?_
  obtain ⟨f_8, h⟩ := h
  refine AW.fgt [(9, 0), (0, v1), (0, v0), (0, 0)] ⟨.inr rfl, .inl rfl, .inl rfl, .inl rfl, trivial⟩ ?_
  exact aB_Wa_isUnder_4 n C v1 Q f_8 (v0, 0) h
def P_Wa_tollOf (n : Nat) (C : Cn) (v0 v1 v2 : Int) (Q : Int → Prop) : Prop :=
  (v0 = 1 → (Q (w32 (v1 + 2)))) ∧ (v0 = 2 → (Q (w32 (v1 * (w32 (v2 + 1)))))) ∧ (v0 = 3 → (Q (w32 (2 * (w32 (v1 + 2)))))) ∧ (v0 = 4 → (Q (imax 0 (w32 (w32 (v1 * (w32 (v2 + 1))) - 3))))) ∧ (v0 = 5 → (Q (w32 (Int.tdiv v1 2)))) ∧ ((v0 < 1 ∨ 5 < v0) → (Q v1))
theorem m_Wa_tollOf (l : Launch) (E : Ev) (n : Nat) (C : Cn) (v0 v1 v2 : Int) (Q : Int → Prop) (h : P_Wa_tollOf n C v0 v1 v2 Q) : MA l y_Wa_tollOf M_Wa_tollOf E true C n [(0, v0), (0, v1), (0, v2)] (fun r C2 n2 => C2 = C ∧ n2 = n ∧ Q r) := by
  refine MA.of (by decide) rfl rfl 0 rfl (fun p e s m args below meth c => ?_)
  show AW p l e _ s m args below meth c E M_Wa_tollOf true _ n 0 0 0 [(0, v0), (0, v1), (0, v2)] [] C
  unfold P_Wa_tollOf at h
  refine AW.iload_n (dc hd_Wa_tollOf 0 rfl) rfl ?_
  refine AW.tsw (td := 68) (dc hd_Wa_tollOf 1 rfl) [36, 40, 46, 52, 64] (by decide +kernel) (by decide) (by decide) (fun j t hj hx => ?_) (fun q_1 => ?_)
  · match j, hj with
    | 0, hj =>
      cases hj
      have h := h.1 (hx.trans (by decide))
      refine AW.iload_n (dc hd_Wa_tollOf 2 rfl) rfl ?_
      refine AW.iconst (dc hd_Wa_tollOf 3 rfl) (by decide) ?_
      refine AW.iadd (dc hd_Wa_tollOf 4 rfl) ?_
      exact AW.iret (dc hd_Wa_tollOf 5 rfl) rfl rfl (Nat.le_of_ble_eq_true rfl) (Nat.le_of_ble_eq_true rfl) ⟨rfl, rfl, h⟩
    | 1, hj =>
      cases hj
      have h := h.2.1 (hx.trans (by decide))
      refine AW.iload_n (dc hd_Wa_tollOf 6 rfl) rfl ?_
      refine AW.iload_n (dc hd_Wa_tollOf 7 rfl) rfl ?_
      refine AW.iconst (dc hd_Wa_tollOf 8 rfl) (by decide) ?_
      refine AW.iadd (dc hd_Wa_tollOf 9 rfl) ?_
      refine AW.imul (dc hd_Wa_tollOf 10 rfl) ?_
      exact AW.iret (dc hd_Wa_tollOf 11 rfl) rfl rfl (Nat.le_of_ble_eq_true rfl) (Nat.le_of_ble_eq_true rfl) ⟨rfl, rfl, h⟩
    | 2, hj =>
      cases hj
      have h := h.2.2.1 (hx.trans (by decide))
      refine AW.iconst (dc hd_Wa_tollOf 12 rfl) (by decide) ?_
      refine AW.iload_n (dc hd_Wa_tollOf 13 rfl) rfl ?_
      refine AW.iconst (dc hd_Wa_tollOf 14 rfl) (by decide) ?_
      refine AW.iadd (dc hd_Wa_tollOf 15 rfl) ?_
      refine AW.imul (dc hd_Wa_tollOf 16 rfl) ?_
      exact AW.iret (dc hd_Wa_tollOf 17 rfl) rfl rfl (Nat.le_of_ble_eq_true rfl) (Nat.le_of_ble_eq_true rfl) ⟨rfl, rfl, h⟩
    | 3, hj =>
      cases hj
      have h := h.2.2.2.1 (hx.trans (by decide))
      refine AW.iconst (dc hd_Wa_tollOf 18 rfl) (by decide) ?_
      refine AW.iload_n (dc hd_Wa_tollOf 19 rfl) rfl ?_
      refine AW.iload_n (dc hd_Wa_tollOf 20 rfl) rfl ?_
      refine AW.iconst (dc hd_Wa_tollOf 21 rfl) (by decide) ?_
      refine AW.iadd (dc hd_Wa_tollOf 22 rfl) ?_
      refine AW.imul (dc hd_Wa_tollOf 23 rfl) ?_
      refine AW.iconst (dc hd_Wa_tollOf 24 rfl) (by decide) ?_
      refine AW.isub (dc hd_Wa_tollOf 25 rfl) ?_
      refine AW.mmax (dc hd_Wa_tollOf 26 rfl) mt_7_15 (Nat.le_of_ble_eq_true rfl) (Nat.le_of_ble_eq_true rfl) (Nat.le_of_ble_eq_true rfl) (Nat.le_of_ble_eq_true rfl) (Nat.le_of_ble_eq_true rfl) ?_
      exact AW.iret (dc hd_Wa_tollOf 27 rfl) rfl rfl (Nat.le_of_ble_eq_true rfl) (Nat.le_of_ble_eq_true rfl) ⟨rfl, rfl, h⟩
    | 4, hj =>
      cases hj
      have h := h.2.2.2.2.1 (hx.trans (by decide))
      refine AW.iload_n (dc hd_Wa_tollOf 28 rfl) rfl ?_
      refine AW.iconst (dc hd_Wa_tollOf 29 rfl) (by decide) ?_
      refine AW.idiv (dc hd_Wa_tollOf 30 rfl) (by decide) ?_
      exact AW.iret (dc hd_Wa_tollOf 31 rfl) rfl rfl (Nat.le_of_ble_eq_true rfl) (Nat.le_of_ble_eq_true rfl) ⟨rfl, rfl, h⟩
    | j + 5, hj => exact absurd hj (by simp)
  · have h := h.2.2.2.2.2 q_1
    refine AW.iload_n (dc hd_Wa_tollOf 32 rfl) rfl ?_
    exact AW.iret (dc hd_Wa_tollOf 33 rfl) rfl rfl (Nat.le_of_ble_eq_true rfl) (Nat.le_of_ble_eq_true rfl) ⟨rfl, rfl, h⟩
def J_Wa_meets_21 (n : Nat) (C : Cn) (s0 : Int) (Q : Int → Prop) : Prop :=
  (s0 = 0 ∨ s0 = 1) ∧ (Q s0)
theorem aJ_Wa_meets_21 (n : Nat) (C : Cn) (s0 : Int) (Q : Int → Prop) (h : J_Wa_meets_21 n C s0 Q) : AW p l e R s m args below meth c E M_Wa_meets true (fun r C2 n2 => C2 = C ∧ n2 = n ∧ Q r) n 0 0 21 [(9, 0), (9, 0)] [(0, s0)] C := by
  unfold J_Wa_meets_21 at h
  obtain ⟨g_12, h⟩ := h
  exact AW.zret (dc hd_Wa_meets 11 rfl) rfl rfl (Nat.le_of_ble_eq_true rfl) (Nat.le_of_ble_eq_true rfl) g_12 ⟨rfl, rfl, h⟩
def P_Wa_meets (n : Nat) (C : Cn) (v0 v1 : Int) (Q : Int → Prop) : Prop :=
  okO n v0 7 ∧ (P_Wa_touches n C v0 v1 (fun (r_1 : Int) => (r_1 = 0 → (P_Wa_crosses n C v0 v1 (fun (r_7 : Int) => J_Wa_meets_21 n C (if r_7 = 0 then 0 else 1) Q))) ∧ (¬ r_1 = 0 → (Q 1))))
theorem m_Wa_meets (l : Launch) (E : Ev) (n : Nat) (C : Cn) (v0 v1 : Int) (Q : Int → Prop) (h : P_Wa_meets n C v0 v1 Q) : MA l y_Wa_meets M_Wa_meets E true C n [(2, v0), (2, v1)] (fun r C2 n2 => C2 = C ∧ n2 = n ∧ Q r) := by
  refine MA.of (by decide) rfl rfl 0 rfl (fun p e s m args below meth c => ?_)
  show AW p l e _ s m args below meth c E M_Wa_meets true _ n 0 0 0 [(2, v0), (2, v1)] [] C
  unfold P_Wa_meets at h
  refine AW.ra_n (dc hd_Wa_meets 0 rfl) rfl rfl rfl ?_
  refine AW.ra_n (dc hd_Wa_meets 1 rfl) rfl rfl rfl ?_
  obtain ⟨g_2, h⟩ := h
  refine AW.callV (As := [(2, v1)]) (rest := []) (ci := 7) (m_Wa_touches l E n C v0 v1 _ h) cb_7_54 im_Wa_touches se_Wa_touches ⟨_, _, rfl⟩ (by decide) (dc hd_Wa_meets 2 rfl) g_2 rfl rfl ⟨Nat.le_of_ble_eq_true rfl, Nat.le_of_ble_eq_true rfl⟩ ⟨(Nat.le_of_ble_eq_true rfl), (Nat.le_of_ble_eq_true rfl)⟩ (Nat.le_of_ble_eq_true rfl) (fun _ h => by cases h) (fun _ => rfl) (fun r_1 D_4 d_5 q_3 => ?_)
  obtain ⟨q_3a, q_3b, h⟩ := q_3
  subst D_4
  subst d_5
  show AW p l e _ s m args below meth c E M_Wa_meets true _ n _ _ _ [(2, v0), (2, v1)] [(0, r_1)] C
  refine AW.if_ne (t := 16) (dc hd_Wa_meets 3 rfl) (by decide) (fun c_6 => ?_) (fun c_6 => ?_)
  · have h := h.2 c_6
    refine AW.iconst (dc hd_Wa_meets 8 rfl) (by decide) ?_
    refine AW.goto (t := 21) (dc hd_Wa_meets 9 rfl) (by decide) ?_
    exact AW.zret (dc hd_Wa_meets 11 rfl) rfl rfl (Nat.le_of_ble_eq_true rfl) (Nat.le_of_ble_eq_true rfl) (by decide) ⟨rfl, rfl, h⟩
  · have h := h.1 c_6
    refine AW.ra_n (dc hd_Wa_meets 4 rfl) rfl rfl rfl ?_
    refine AW.ra_n (dc hd_Wa_meets 5 rfl) rfl rfl rfl ?_
    refine AW.callV (As := [(2, v1)]) (rest := []) (ci := 7) (m_Wa_crosses l E n C v0 v1 _ h) cb_7_58 im_Wa_crosses se_Wa_crosses ⟨_, _, rfl⟩ (by decide) (dc hd_Wa_meets 6 rfl) g_2 rfl rfl ⟨Nat.le_of_ble_eq_true rfl, Nat.le_of_ble_eq_true rfl⟩ ⟨(Nat.le_of_ble_eq_true rfl), (Nat.le_of_ble_eq_true rfl)⟩ (Nat.le_of_ble_eq_true rfl) (fun _ h => by cases h) (fun _ => rfl) (fun r_7 D_9 d_10 q_8 => ?_)
    obtain ⟨q_8a, q_8b, h⟩ := q_8
    subst D_9
    subst d_10
    show AW p l e _ s m args below meth c E M_Wa_meets true _ n _ _ _ [(2, v0), (2, v1)] [(0, r_7)] C
    refine AW.if_eq (t := 20) (dc hd_Wa_meets 7 rfl) (by decide) (fun c_11 => ?_) (fun c_11 => ?_)
    · simp only [if_pos (show r_7 = 0 from c_11)] at h
      refine AW.iconst (dc hd_Wa_meets 10 rfl) (by decide) ?_
      refine AW.fgt [(9, 0), (9, 0)] ⟨.inr rfl, .inr rfl, trivial⟩ ?_
      exact aJ_Wa_meets_21 n C _ Q h
    · simp only [if_neg (show ¬ (r_7 = 0) from c_11)] at h
      refine AW.iconst (dc hd_Wa_meets 8 rfl) (by decide) ?_
      refine AW.goto (t := 21) (dc hd_Wa_meets 9 rfl) (by decide) ?_
      refine AW.fgt [(9, 0), (9, 0)] ⟨.inr rfl, .inr rfl, trivial⟩ ?_
      exact aJ_Wa_meets_21 n C _ Q h
def B_Ws_takeTolls_2 (n : Nat) (v0 v1 : Int) (Q : Int → Cn → Prop) (kz2 : Cn × Int → Prop) (z : Cn × Int) : Prop := match z with
  | (C, v2) => okO n v1 1 ∧ ((C v1.toNat 1 ≤ v2 → (Q 0 C)) ∧ (¬ C v1.toNat 1 ≤ v2 → (okO n (PT v1.toNat 0) 16 ∧ (okI (PT v1.toNat 0) v2 ∧ (okO n v0 8 ∧ (okO n (PT (PT v1.toNat 0).toNat v2.toNat) 7 ∧ (P_Wa_tollOf n C (C (PT (PT v1.toNat 0).toNat v2.toNat).toNat 0) (C (PT (PT v1.toNat 0).toNat v2.toNat).toNat 1) (C v1.toNat 2) (fun (r_7 : Int) => okO n (PT v0.toNat 0) 12 ∧ (okI (PT v0.toNat 0) v2 ∧ (∀ C_13 : Cn, C_13 = wr C (PT v0.toNat 0).toNat v2.toNat r_7 → (kz2 (C_13, w32 (v2 + 1)))))))))))))
theorem bB_Ws_takeTolls_2 (n : Nat) (v0 v1 : Int) (Q : Int → Cn → Prop) (kz2 : Cn × Int → Prop) (hkz2 : ∀ (Cz : Cn) (z2 : Int), kz2 (Cz, z2) → AW p l e R s m args below meth c E M_Ws_takeTolls true (fun r C2 n2 => n2 = n ∧ Q r C2) n 0 0 2 [(2, v0), (2, v1), (0, z2), (9, 0)] [] Cz) (C : Cn) (v2 : Int) (h : B_Ws_takeTolls_2 n v0 v1 Q kz2 (C, v2)) : AW p l e R s m args below meth c E M_Ws_takeTolls true (fun r C2 n2 => n2 = n ∧ Q r C2) n 0 0 2 [(2, v0), (2, v1), (0, v2), (9, 0)] [] C := by
  unfold B_Ws_takeTolls_2 at h
  dsimp only at h
  refine AW.iload_n (dc hd_Ws_takeTolls 2 rfl) rfl ?_
  refine AW.ra_n (dc hd_Ws_takeTolls 3 rfl) rfl rfl rfl ?_
  obtain ⟨g_1, h⟩ := h
  refine AW.getf fl_8_22 (dc hd_Ws_takeTolls 4 rfl) g_1 ?_
  refine AW.icmp_ge (t := 44) (dc hd_Ws_takeTolls 5 rfl) (by decide) (fun c_2 => ?_) (fun c_2 => ?_)
  · have h := h.1 c_2
    exact AW.vret (dc hd_Ws_takeTolls 24 rfl) rfl rfl (Nat.le_of_ble_eq_true rfl) (Nat.le_of_ble_eq_true rfl) ⟨rfl, h⟩
  · have h := h.2 c_2
    refine AW.ra_n (dc hd_Ws_takeTolls 6 rfl) rfl rfl rfl ?_
    refine AW.getp fl_8_28 (dc hd_Ws_takeTolls 7 rfl) g_1 rfl ?_
    refine AW.iload_n (dc hd_Ws_takeTolls 8 rfl) rfl ?_
    obtain ⟨g_3, h⟩ := h
    obtain ⟨g_4, h⟩ := h
    refine AW.aaldp (by decide) (dc hd_Ws_takeTolls 9 rfl) g_3 g_4 rfl ?_
    refine AW.rs_n [(2, v0), (2, v1), (0, v2), (2, PT (PT v1.toNat 0).toNat v2.toNat)] (dc hd_Ws_takeTolls 10 rfl) (Nat.le_of_ble_eq_true rfl) rfl rfl rfl ?_
    refine AW.ra_n (dc hd_Ws_takeTolls 11 rfl) rfl rfl rfl ?_
    obtain ⟨g_5, h⟩ := h
    refine AW.getp fl_8_9 (dc hd_Ws_takeTolls 12 rfl) g_5 rfl ?_
    refine AW.iload_n (dc hd_Ws_takeTolls 13 rfl) rfl ?_
    refine AW.ra_n (dc hd_Ws_takeTolls 14 rfl) rfl rfl rfl ?_
    obtain ⟨g_6, h⟩ := h
    refine AW.getf fl_8_32 (dc hd_Ws_takeTolls 15 rfl) g_6 ?_
    refine AW.ra_n (dc hd_Ws_takeTolls 16 rfl) rfl rfl rfl ?_
    refine AW.getf fl_8_37 (dc hd_Ws_takeTolls 17 rfl) g_6 ?_
    refine AW.ra_n (dc hd_Ws_takeTolls 18 rfl) rfl rfl rfl ?_
    refine AW.getf fl_8_40 (dc hd_Ws_takeTolls 19 rfl) g_1 ?_
    refine AW.callS (As := [(0, C (PT (PT v1.toNat 0).toNat v2.toNat).toNat 0), (0, C (PT (PT v1.toNat 0).toNat v2.toNat).toNat 1), (0, C v1.toNat 2)]) (rest := [(0, v2), (2, PT v0.toNat 0)]) (m_Wa_tollOf l E n C (C (PT (PT v1.toNat 0).toNat v2.toNat).toNat 0) (C (PT (PT v1.toNat 0).toNat v2.toNat).toNat 1) (C v1.toNat 2) _ h) cb_8_43 sm_Wa_tollOf (dc hd_Ws_takeTolls 20 rfl) rfl rfl ⟨Nat.le_of_ble_eq_true rfl, Nat.le_of_ble_eq_true rfl⟩ ⟨(Nat.le_of_ble_eq_true rfl), (Nat.le_of_ble_eq_true rfl)⟩ (Nat.le_of_ble_eq_true rfl) (fun _ h => by cases h) (fun _ => rfl) (fun r_7 D_9 d_10 q_8 => ?_)
    obtain ⟨q_8a, q_8b, h⟩ := q_8
    subst D_9
    subst d_10
    show AW p l e _ s m args below meth c E M_Ws_takeTolls true _ n _ _ _ [(2, v0), (2, v1), (0, v2), (2, PT (PT v1.toNat 0).toNat v2.toNat)] [(0, r_7), (0, v2), (2, PT v0.toNat 0)] C
    obtain ⟨g_11, h⟩ := h
    obtain ⟨g_12, h⟩ := h
    refine AW.niast (dc hd_Ws_takeTolls 21 rfl) g_11 g_12 (fun C_13 eC_13 => ?_)
    have h := h C_13 eC_13
    refine AW.iinc [(2, v0), (2, v1), (0, w32 (v2 + 1)), (2, PT (PT v1.toNat 0).toNat v2.toNat)] (dc hd_Ws_takeTolls 22 rfl) rfl (Nat.le_of_ble_eq_true rfl) rfl rfl ?_
    refine AW.goto (t := 2) (dc hd_Ws_takeTolls 23 rfl) (by decide) ?_
    refine AW.fgt [(2, v0), (2, v1), (0, w32 (v2 + 1)), (9, 0)] ⟨.inl rfl, .inl rfl, .inl rfl, .inr rfl, trivial⟩ ?_
    exact hkz2 C_13 (w32 (v2 + 1)) h
theorem aB_Ws_takeTolls_2 (n : Nat) (v0 v1 : Int) (Q : Int → Cn → Prop) : ∀ (f : Nat) (z : Cn × Int), lp (B_Ws_takeTolls_2 n v0 v1 Q) f z → AW p l e R s m args below meth c E M_Ws_takeTolls true (fun r C2 n2 => n2 = n ∧ Q r C2) n 0 0 2 [(2, v0), (2, v1), (0, z.2), (9, 0)] [] (z.1) := by
  intro f
  induction f with
  | zero => intro z h; exact False.elim h
  | succ f ih => intro z h; exact bB_Ws_takeTolls_2 n v0 v1 Q (lp (B_Ws_takeTolls_2 n v0 v1 Q) f) (fun a0 a1 h => ih (a0, a1) h) z.1 z.2 h
def P_Ws_takeTolls (n : Nat) (C : Cn) (v0 v1 : Int) (Q : Int → Cn → Prop) : Prop :=
  ∃ f_14 : Nat, lp (B_Ws_takeTolls_2 n v0 v1 Q) f_14 (C, 0)
theorem m_Ws_takeTolls (l : Launch) (E : Ev) (n : Nat) (C : Cn) (v0 v1 : Int) (Q : Int → Cn → Prop) (h : P_Ws_takeTolls n C v0 v1 Q) : MA l y_Ws_takeTolls M_Ws_takeTolls E true C n [(2, v0), (2, v1)] (fun r C2 n2 => n2 = n ∧ Q r C2) := by
  refine MA.of (by decide) rfl rfl 2 rfl (fun p e s m args below meth c => ?_)
  show AW p l e _ s m args below meth c E M_Ws_takeTolls true _ n 0 0 0 [(2, v0), (2, v1), (9, 0), (9, 0)] [] C
  unfold P_Ws_takeTolls at h
  refine AW.iconst (dc hd_Ws_takeTolls 0 rfl) (by decide) ?_
  refine AW.istore_n [(2, v0), (2, v1), (0, 0), (9, 0)] (dc hd_Ws_takeTolls 1 rfl) (Nat.le_of_ble_eq_true rfl) rfl rfl ?_
  obtain ⟨f_14, h⟩ := h
  exact aB_Ws_takeTolls_2 n v0 v1 Q f_14 (C, 0) h
def B_Ws_nearestUnsure_8 (n : Nat) (C : Cn) (v0 v1 : Int) (Q : Int → Prop) (kz8 : Int × Int × Int → Prop) (z : Int × Int × Int) : Prop := match z with
  | (v2, v3, v4) => okO n v1 2 ∧ ((C v1.toNat 14 ≤ v4 → (Q v2)) ∧ (¬ C v1.toNat 14 ≤ v4 → (okO n v0 8 ∧ (okO n (PT v0.toNat 2) 14 ∧ (okI (PT v0.toNat 2) v4 ∧ ((C (PT v0.toNat 2).toNat v4.toNat = 0 → (okO n (PT v0.toNat 1) 12 ∧ (okI (PT v0.toNat 1) v4 ∧ ((v3 ≤ C (PT v0.toNat 1).toNat v4.toNat → (kz8 (v2, v3, w32 (v4 + 1)))) ∧ (¬ v3 ≤ C (PT v0.toNat 1).toNat v4.toNat → (∀ v3_10 : Int, v3_10 = C (PT v0.toNat 1).toNat v4.toNat → (kz8 (v4, v3_10, w32 (v4 + 1))))))))) ∧ (¬ C (PT v0.toNat 2).toNat v4.toNat = 0 → (kz8 (v2, v3, w32 (v4 + 1))))))))))
theorem bB_Ws_nearestUnsure_8 (n : Nat) (C : Cn) (v0 v1 : Int) (Q : Int → Prop) (kz8 : Int × Int × Int → Prop) (hkz8 : ∀ (z2 : Int) (z3 : Int) (z4 : Int), kz8 (z2, z3, z4) → AW p l e R s m args below meth c E M_Ws_nearestUnsure true (fun r C2 n2 => C2 = C ∧ n2 = n ∧ Q r) n 0 0 8 [(2, v0), (2, v1), (0, z2), (0, z3), (0, z4)] [] C) (v2 : Int) (v3 : Int) (v4 : Int) (h : B_Ws_nearestUnsure_8 n C v0 v1 Q kz8 (v2, v3, v4)) : AW p l e R s m args below meth c E M_Ws_nearestUnsure true (fun r C2 n2 => C2 = C ∧ n2 = n ∧ Q r) n 0 0 8 [(2, v0), (2, v1), (0, v2), (0, v3), (0, v4)] [] C := by
  unfold B_Ws_nearestUnsure_8 at h
  dsimp only at h
  refine AW.iload (dc hd_Ws_nearestUnsure 6 rfl) rfl ?_
  refine AW.ra_n (dc hd_Ws_nearestUnsure 7 rfl) rfl rfl rfl ?_
  obtain ⟨g_1, h⟩ := h
  refine AW.getf fl_8_51 (dc hd_Ws_nearestUnsure 8 rfl) g_1 ?_
  refine AW.icmp_ge (t := 55) (dc hd_Ws_nearestUnsure 9 rfl) (by decide) (fun c_2 => ?_) (fun c_2 => ?_)
  · have h := h.1 c_2
    refine AW.iload_n (dc hd_Ws_nearestUnsure 30 rfl) rfl ?_
    exact AW.iret (dc hd_Ws_nearestUnsure 31 rfl) rfl rfl (Nat.le_of_ble_eq_true rfl) (Nat.le_of_ble_eq_true rfl) ⟨rfl, rfl, h⟩
  · have h := h.2 c_2
    refine AW.ra_n (dc hd_Ws_nearestUnsure 10 rfl) rfl rfl rfl ?_
    obtain ⟨g_3, h⟩ := h
    refine AW.getp fl_8_18 (dc hd_Ws_nearestUnsure 11 rfl) g_3 rfl ?_
    refine AW.iload (dc hd_Ws_nearestUnsure 12 rfl) rfl ?_
    obtain ⟨g_4, h⟩ := h
    obtain ⟨g_5, h⟩ := h
    refine AW.zald (dc hd_Ws_nearestUnsure 13 rfl) g_4 g_5 ?_
    refine AW.if_ne (t := 49) (dc hd_Ws_nearestUnsure 14 rfl) (by decide) (fun c_6 => ?_) (fun c_6 => ?_)
    · have h := h.2 c_6
      refine AW.iinc [(2, v0), (2, v1), (0, v2), (0, v3), (0, w32 (v4 + 1))] (dc hd_Ws_nearestUnsure 28 rfl) rfl (Nat.le_of_ble_eq_true rfl) rfl rfl ?_
      refine AW.goto (t := 8) (dc hd_Ws_nearestUnsure 29 rfl) (by decide) ?_
      exact hkz8 v2 v3 (w32 (v4 + 1)) h
    · have h := h.1 c_6
      refine AW.ra_n (dc hd_Ws_nearestUnsure 15 rfl) rfl rfl rfl ?_
      refine AW.getp fl_8_15 (dc hd_Ws_nearestUnsure 16 rfl) g_3 rfl ?_
      refine AW.iload (dc hd_Ws_nearestUnsure 17 rfl) rfl ?_
      obtain ⟨g_7, h⟩ := h
      obtain ⟨g_8, h⟩ := h
      refine AW.iald (dc hd_Ws_nearestUnsure 18 rfl) g_7 g_8 ?_
      refine AW.iload_n (dc hd_Ws_nearestUnsure 19 rfl) rfl ?_
      refine AW.icmp_ge (t := 49) (dc hd_Ws_nearestUnsure 20 rfl) (by decide) (fun c_9 => ?_) (fun c_9 => ?_)
      · have h := h.1 c_9
        refine AW.iinc [(2, v0), (2, v1), (0, v2), (0, v3), (0, w32 (v4 + 1))] (dc hd_Ws_nearestUnsure 28 rfl) rfl (Nat.le_of_ble_eq_true rfl) rfl rfl ?_
        refine AW.goto (t := 8) (dc hd_Ws_nearestUnsure 29 rfl) (by decide) ?_
        exact hkz8 v2 v3 (w32 (v4 + 1)) h
      · have h := h.2 c_9
        refine AW.ra_n (dc hd_Ws_nearestUnsure 21 rfl) rfl rfl rfl ?_
        refine AW.getp fl_8_15 (dc hd_Ws_nearestUnsure 22 rfl) g_3 rfl ?_
        refine AW.iload (dc hd_Ws_nearestUnsure 23 rfl) rfl ?_
        refine AW.iald (dc hd_Ws_nearestUnsure 24 rfl) g_7 g_8 ?_
        refine AW.nm (fun v3_10 ev3_10 => ?_)
        have h := h v3_10 ev3_10
        refine AW.istore_n [(2, v0), (2, v1), (0, v2), (0, v3_10), (0, v4)] (dc hd_Ws_nearestUnsure 25 rfl) (Nat.le_of_ble_eq_true rfl) rfl rfl ?_
        refine AW.iload (dc hd_Ws_nearestUnsure 26 rfl) rfl ?_
        refine AW.istore_n [(2, v0), (2, v1), (0, v4), (0, v3_10), (0, v4)] (dc hd_Ws_nearestUnsure 27 rfl) (Nat.le_of_ble_eq_true rfl) rfl rfl ?_
        refine AW.iinc [(2, v0), (2, v1), (0, v4), (0, v3_10), (0, w32 (v4 + 1))] (dc hd_Ws_nearestUnsure 28 rfl) rfl (Nat.le_of_ble_eq_true rfl) rfl rfl ?_
        refine AW.goto (t := 8) (dc hd_Ws_nearestUnsure 29 rfl) (by decide) ?_
        exact hkz8 v4 v3_10 (w32 (v4 + 1)) h
theorem aB_Ws_nearestUnsure_8 (n : Nat) (C : Cn) (v0 v1 : Int) (Q : Int → Prop) : ∀ (f : Nat) (z : Int × Int × Int), lp (B_Ws_nearestUnsure_8 n C v0 v1 Q) f z → AW p l e R s m args below meth c E M_Ws_nearestUnsure true (fun r C2 n2 => C2 = C ∧ n2 = n ∧ Q r) n 0 0 8 [(2, v0), (2, v1), (0, z.1), (0, z.2.1), (0, z.2.2)] [] C := by
  intro f
  induction f with
  | zero => intro z h; exact False.elim h
  | succ f ih => intro z h; exact bB_Ws_nearestUnsure_8 n C v0 v1 Q (lp (B_Ws_nearestUnsure_8 n C v0 v1 Q) f) (fun a0 a1 a2 h => ih (a0, a1, a2) h) z.1 z.2.1 z.2.2 h
def P_Ws_nearestUnsure (n : Nat) (C : Cn) (v0 v1 : Int) (Q : Int → Prop) : Prop :=
  ∃ f_11 : Nat, lp (B_Ws_nearestUnsure_8 n C v0 v1 Q) f_11 (0, 2147483647, 0)
theorem m_Ws_nearestUnsure (l : Launch) (E : Ev) (n : Nat) (C : Cn) (v0 v1 : Int) (Q : Int → Prop) (h : P_Ws_nearestUnsure n C v0 v1 Q) : MA l y_Ws_nearestUnsure M_Ws_nearestUnsure E true C n [(2, v0), (2, v1)] (fun r C2 n2 => C2 = C ∧ n2 = n ∧ Q r) := by
  refine MA.of (by decide) rfl rfl 3 rfl (fun p e s m args below meth c => ?_)
  show AW p l e _ s m args below meth c E M_Ws_nearestUnsure true _ n 0 0 0 [(2, v0), (2, v1), (9, 0), (9, 0), (9, 0)] [] C
  unfold P_Ws_nearestUnsure at h
  refine AW.iconst (dc hd_Ws_nearestUnsure 0 rfl) (by decide) ?_
  refine AW.istore_n [(2, v0), (2, v1), (0, 0), (9, 0), (9, 0)] (dc hd_Ws_nearestUnsure 1 rfl) (Nat.le_of_ble_eq_true rfl) rfl rfl ?_
  refine AW.ldc (v := 2147483647) (dc hd_Ws_nearestUnsure 2 rfl) ck_8_64 (by decide) rfl ?_
  refine AW.istore_n [(2, v0), (2, v1), (0, 0), (0, 2147483647), (9, 0)] (dc hd_Ws_nearestUnsure 3 rfl) (Nat.le_of_ble_eq_true rfl) rfl rfl ?_
  refine AW.iconst (dc hd_Ws_nearestUnsure 4 rfl) (by decide) ?_
  refine AW.istore [(2, v0), (2, v1), (0, 0), (0, 2147483647), (0, 0)] (dc hd_Ws_nearestUnsure 5 rfl) (Nat.le_of_ble_eq_true rfl) rfl rfl ?_
  obtain ⟨f_11, h⟩ := h
  exact aB_Ws_nearestUnsure_8 n C v0 v1 Q f_11 (0, 2147483647, 0) h
def B_Ws_goOnFrom_2 (n : Nat) (v0 v1 v2 : Int) (Q : Int → Cn → Prop) (kz2 : Cn × Int → Prop) (z : Cn × Int) : Prop := match z with
  | (C, v3) => okO n v1 2 ∧ ((C v1.toNat 14 ≤ v3 → (Q 0 C)) ∧ (¬ C v1.toNat 14 ≤ v3 → (okO n v0 8 ∧ (P_La_tollBetween n C v1 v2 v3 (PT v0.toNat 0) (fun (r_4 : Int) => (r_4 < 0 → (kz2 (C, w32 (v3 + 1)))) ∧ (¬ r_4 < 0 → (okO n (PT v0.toNat 1) 12 ∧ (okI (PT v0.toNat 1) v3 ∧ (okI (PT v0.toNat 1) v2 ∧ (∀ C_12 : Cn, C_12 = wr C (PT v0.toNat 1).toNat v3.toNat (imin (C (PT v0.toNat 1).toNat v3.toNat) (w32 (C (PT v0.toNat 1).toNat v2.toNat + r_4))) → (kz2 (C_12, w32 (v3 + 1)))))))))))))
theorem bB_Ws_goOnFrom_2 (n : Nat) (v0 v1 v2 : Int) (Q : Int → Cn → Prop) (kz2 : Cn × Int → Prop) (hkz2 : ∀ (Cz : Cn) (z3 : Int), kz2 (Cz, z3) → AW p l e R s m args below meth c E M_Ws_goOnFrom true (fun r C2 n2 => n2 = n ∧ Q r C2) n 0 0 2 [(2, v0), (2, v1), (0, v2), (0, z3), (9, 0)] [] Cz) (C : Cn) (v3 : Int) (h : B_Ws_goOnFrom_2 n v0 v1 v2 Q kz2 (C, v3)) : AW p l e R s m args below meth c E M_Ws_goOnFrom true (fun r C2 n2 => n2 = n ∧ Q r C2) n 0 0 2 [(2, v0), (2, v1), (0, v2), (0, v3), (9, 0)] [] C := by
  unfold B_Ws_goOnFrom_2 at h
  dsimp only at h
  refine AW.iload_n (dc hd_Ws_goOnFrom 2 rfl) rfl ?_
  refine AW.ra_n (dc hd_Ws_goOnFrom 3 rfl) rfl rfl rfl ?_
  obtain ⟨g_1, h⟩ := h
  refine AW.getf fl_8_51 (dc hd_Ws_goOnFrom 4 rfl) g_1 ?_
  refine AW.icmp_ge (t := 57) (dc hd_Ws_goOnFrom 5 rfl) (by decide) (fun c_2 => ?_) (fun c_2 => ?_)
  · have h := h.1 c_2
    exact AW.vret (dc hd_Ws_goOnFrom 32 rfl) rfl rfl (Nat.le_of_ble_eq_true rfl) (Nat.le_of_ble_eq_true rfl) ⟨rfl, h⟩
  · have h := h.2 c_2
    refine AW.ra_n (dc hd_Ws_goOnFrom 6 rfl) rfl rfl rfl ?_
    refine AW.iload_n (dc hd_Ws_goOnFrom 7 rfl) rfl ?_
    refine AW.iload_n (dc hd_Ws_goOnFrom 8 rfl) rfl ?_
    refine AW.ra_n (dc hd_Ws_goOnFrom 9 rfl) rfl rfl rfl ?_
    obtain ⟨g_3, h⟩ := h
    refine AW.getp fl_8_9 (dc hd_Ws_goOnFrom 10 rfl) g_3 rfl ?_
    refine AW.callV (As := [(0, v2), (0, v3), (2, PT v0.toNat 0)]) (rest := []) (ci := 2) (m_La_tollBetween l E n C v1 v2 v3 (PT v0.toNat 0) _ h) cb_8_65 im_La_tollBetween se_La_tollBetween ⟨_, _, rfl⟩ (by decide) (dc hd_Ws_goOnFrom 11 rfl) g_1 rfl rfl ⟨Nat.le_of_ble_eq_true rfl, Nat.le_of_ble_eq_true rfl⟩ ⟨(Nat.le_of_ble_eq_true rfl), (Nat.le_of_ble_eq_true rfl)⟩ (Nat.le_of_ble_eq_true rfl) (fun _ h => by cases h) (fun _ => rfl) (fun r_4 D_6 d_7 q_5 => ?_)
    obtain ⟨q_5a, q_5b, h⟩ := q_5
    subst D_6
    subst d_7
    show AW p l e _ s m args below meth c E M_Ws_goOnFrom true _ n _ _ _ [(2, v0), (2, v1), (0, v2), (0, v3), (9, 0)] [(0, r_4)] C
    refine AW.istore [(2, v0), (2, v1), (0, v2), (0, v3), (0, r_4)] (dc hd_Ws_goOnFrom 12 rfl) (Nat.le_of_ble_eq_true rfl) rfl rfl ?_
    refine AW.iload (dc hd_Ws_goOnFrom 13 rfl) rfl ?_
    refine AW.if_lt (t := 51) (dc hd_Ws_goOnFrom 14 rfl) (by decide) (fun c_8 => ?_) (fun c_8 => ?_)
    · have h := h.1 c_8
      refine AW.iinc [(2, v0), (2, v1), (0, v2), (0, w32 (v3 + 1)), (0, r_4)] (dc hd_Ws_goOnFrom 30 rfl) rfl (Nat.le_of_ble_eq_true rfl) rfl rfl ?_
      refine AW.goto (t := 2) (dc hd_Ws_goOnFrom 31 rfl) (by decide) ?_
      refine AW.fgt [(2, v0), (2, v1), (0, v2), (0, w32 (v3 + 1)), (9, 0)] ⟨.inl rfl, .inl rfl, .inl rfl, .inl rfl, .inr rfl, trivial⟩ ?_
      exact hkz2 C (w32 (v3 + 1)) h
    · have h := h.2 c_8
      refine AW.ra_n (dc hd_Ws_goOnFrom 15 rfl) rfl rfl rfl ?_
      refine AW.getp fl_8_15 (dc hd_Ws_goOnFrom 16 rfl) g_3 rfl ?_
      refine AW.iload_n (dc hd_Ws_goOnFrom 17 rfl) rfl ?_
      refine AW.ra_n (dc hd_Ws_goOnFrom 18 rfl) rfl rfl rfl ?_
      refine AW.getp fl_8_15 (dc hd_Ws_goOnFrom 19 rfl) g_3 rfl ?_
      refine AW.iload_n (dc hd_Ws_goOnFrom 20 rfl) rfl ?_
      obtain ⟨g_9, h⟩ := h
      obtain ⟨g_10, h⟩ := h
      refine AW.iald (dc hd_Ws_goOnFrom 21 rfl) g_9 g_10 ?_
      refine AW.ra_n (dc hd_Ws_goOnFrom 22 rfl) rfl rfl rfl ?_
      refine AW.getp fl_8_15 (dc hd_Ws_goOnFrom 23 rfl) g_3 rfl ?_
      refine AW.iload_n (dc hd_Ws_goOnFrom 24 rfl) rfl ?_
      obtain ⟨g_11, h⟩ := h
      refine AW.iald (dc hd_Ws_goOnFrom 25 rfl) g_9 g_11 ?_
      refine AW.iload (dc hd_Ws_goOnFrom 26 rfl) rfl ?_
      refine AW.iadd (dc hd_Ws_goOnFrom 27 rfl) ?_
      refine AW.mmin (dc hd_Ws_goOnFrom 28 rfl) mt_8_69 (Nat.le_of_ble_eq_true rfl) (Nat.le_of_ble_eq_true rfl) (Nat.le_of_ble_eq_true rfl) (Nat.le_of_ble_eq_true rfl) (Nat.le_of_ble_eq_true rfl) ?_
      refine AW.niast (dc hd_Ws_goOnFrom 29 rfl) g_9 g_10 (fun C_12 eC_12 => ?_)
      have h := h C_12 eC_12
      refine AW.iinc [(2, v0), (2, v1), (0, v2), (0, w32 (v3 + 1)), (0, r_4)] (dc hd_Ws_goOnFrom 30 rfl) rfl (Nat.le_of_ble_eq_true rfl) rfl rfl ?_
      refine AW.goto (t := 2) (dc hd_Ws_goOnFrom 31 rfl) (by decide) ?_
      refine AW.fgt [(2, v0), (2, v1), (0, v2), (0, w32 (v3 + 1)), (9, 0)] ⟨.inl rfl, .inl rfl, .inl rfl, .inl rfl, .inr rfl, trivial⟩ ?_
      exact hkz2 C_12 (w32 (v3 + 1)) h
theorem aB_Ws_goOnFrom_2 (n : Nat) (v0 v1 v2 : Int) (Q : Int → Cn → Prop) : ∀ (f : Nat) (z : Cn × Int), lp (B_Ws_goOnFrom_2 n v0 v1 v2 Q) f z → AW p l e R s m args below meth c E M_Ws_goOnFrom true (fun r C2 n2 => n2 = n ∧ Q r C2) n 0 0 2 [(2, v0), (2, v1), (0, v2), (0, z.2), (9, 0)] [] (z.1) := by
  intro f
  induction f with
  | zero => intro z h; exact False.elim h
  | succ f ih => intro z h; exact bB_Ws_goOnFrom_2 n v0 v1 v2 Q (lp (B_Ws_goOnFrom_2 n v0 v1 v2 Q) f) (fun a0 a1 h => ih (a0, a1) h) z.1 z.2 h
def P_Ws_goOnFrom (n : Nat) (C : Cn) (v0 v1 v2 : Int) (Q : Int → Cn → Prop) : Prop :=
  ∃ f_13 : Nat, lp (B_Ws_goOnFrom_2 n v0 v1 v2 Q) f_13 (C, 0)
theorem m_Ws_goOnFrom (l : Launch) (E : Ev) (n : Nat) (C : Cn) (v0 v1 v2 : Int) (Q : Int → Cn → Prop) (h : P_Ws_goOnFrom n C v0 v1 v2 Q) : MA l y_Ws_goOnFrom M_Ws_goOnFrom E true C n [(2, v0), (2, v1), (0, v2)] (fun r C2 n2 => n2 = n ∧ Q r C2) := by
  refine MA.of (by decide) rfl rfl 2 rfl (fun p e s m args below meth c => ?_)
  show AW p l e _ s m args below meth c E M_Ws_goOnFrom true _ n 0 0 0 [(2, v0), (2, v1), (0, v2), (9, 0), (9, 0)] [] C
  unfold P_Ws_goOnFrom at h
  refine AW.iconst (dc hd_Ws_goOnFrom 0 rfl) (by decide) ?_
  refine AW.istore_n [(2, v0), (2, v1), (0, v2), (0, 0), (9, 0)] (dc hd_Ws_goOnFrom 1 rfl) (Nat.le_of_ble_eq_true rfl) rfl rfl ?_
  obtain ⟨f_13, h⟩ := h
  exact aB_Ws_goOnFrom_2 n v0 v1 v2 Q f_13 (C, 0) h
def B_Ws_spread_40 (n : Nat) (v0 v1 : Int) (Q : Int → Cn → Prop) (kz40 : Cn × Int → Prop) (z : Cn × Int) : Prop := match z with
  | (C, v3) => okO n v1 2 ∧ ((C v1.toNat 14 ≤ v3 → (Q 0 C)) ∧ (¬ C v1.toNat 14 ≤ v3 → (okO n v0 8 ∧ (P_Ws_nearestUnsure n C v0 v1 (fun (r_9 : Int) => okO n (PT v0.toNat 2) 14 ∧ (okI (PT v0.toNat 2) r_9 ∧ (∀ C_16 : Cn, C_16 = wr C (PT v0.toNat 2).toNat r_9.toNat 1 → (P_Ws_goOnFrom n C_16 v0 v1 r_9 (fun (_ : Int) (C_17 : Cn) => kz40 (C_17, w32 (v3 + 1)))))))))))
theorem bB_Ws_spread_40 (n : Nat) (v0 v1 : Int) (Q : Int → Cn → Prop) (kz40 : Cn × Int → Prop) (hkz40 : ∀ (Cz : Cn) (z3 : Int), kz40 (Cz, z3) → AW p l e R s m args below meth c E M_Ws_spread true (fun r C2 n2 => n2 = n ∧ Q r C2) n 0 0 40 [(2, v0), (2, v1), (9, 0), (0, z3), (9, 0)] [] Cz) (C : Cn) (v3 : Int) (h : B_Ws_spread_40 n v0 v1 Q kz40 (C, v3)) : AW p l e R s m args below meth c E M_Ws_spread true (fun r C2 n2 => n2 = n ∧ Q r C2) n 0 0 40 [(2, v0), (2, v1), (9, 0), (0, v3), (9, 0)] [] C := by
  unfold B_Ws_spread_40 at h
  dsimp only at h
  refine AW.iload_n (dc hd_Ws_spread 25 rfl) rfl ?_
  refine AW.ra_n (dc hd_Ws_spread 26 rfl) rfl rfl rfl ?_
  obtain ⟨g_7, h⟩ := h
  refine AW.getf fl_8_51 (dc hd_Ws_spread 27 rfl) g_7 ?_
  refine AW.icmp_ge (t := 76) (dc hd_Ws_spread 28 rfl) (by decide) (fun c_8 => ?_) (fun c_8 => ?_)
  · have h := h.1 c_8
    exact AW.vret (dc hd_Ws_spread 44 rfl) rfl rfl (Nat.le_of_ble_eq_true rfl) (Nat.le_of_ble_eq_true rfl) ⟨rfl, h⟩
  · have h := h.2 c_8
    refine AW.ra_n (dc hd_Ws_spread 29 rfl) rfl rfl rfl ?_
    refine AW.ra_n (dc hd_Ws_spread 30 rfl) rfl rfl rfl ?_
    obtain ⟨g_10, h⟩ := h
    refine AW.callV (As := [(2, v1)]) (rest := []) (ci := 8) (m_Ws_nearestUnsure l E n C v0 v1 _ h) cb_8_57 im_Ws_nearestUnsure se_Ws_nearestUnsure ⟨_, _, rfl⟩ (by decide) (dc hd_Ws_spread 31 rfl) g_10 rfl rfl ⟨Nat.le_of_ble_eq_true rfl, Nat.le_of_ble_eq_true rfl⟩ ⟨(Nat.le_of_ble_eq_true rfl), (Nat.le_of_ble_eq_true rfl)⟩ (Nat.le_of_ble_eq_true rfl) (fun _ h => by cases h) (fun _ => rfl) (fun r_9 D_12 d_13 q_11 => ?_)
    obtain ⟨q_11a, q_11b, h⟩ := q_11
    subst D_12
    subst d_13
    show AW p l e _ s m args below meth c E M_Ws_spread true _ n _ _ _ [(2, v0), (2, v1), (9, 0), (0, v3), (9, 0)] [(0, r_9)] C
    refine AW.istore [(2, v0), (2, v1), (9, 0), (0, v3), (0, r_9)] (dc hd_Ws_spread 32 rfl) (Nat.le_of_ble_eq_true rfl) rfl rfl ?_
    refine AW.ra_n (dc hd_Ws_spread 33 rfl) rfl rfl rfl ?_
    refine AW.getp fl_8_18 (dc hd_Ws_spread 34 rfl) g_10 rfl ?_
    refine AW.iload (dc hd_Ws_spread 35 rfl) rfl ?_
    refine AW.iconst (dc hd_Ws_spread 36 rfl) (by decide) ?_
    obtain ⟨g_14, h⟩ := h
    obtain ⟨g_15, h⟩ := h
    refine AW.nzast (dc hd_Ws_spread 37 rfl) g_14 g_15 (by decide) (fun C_16 eC_16 => ?_)
    have h := h C_16 eC_16
    refine AW.ra_n (dc hd_Ws_spread 38 rfl) rfl rfl rfl ?_
    refine AW.ra_n (dc hd_Ws_spread 39 rfl) rfl rfl rfl ?_
    refine AW.iload (dc hd_Ws_spread 40 rfl) rfl ?_
    refine AW.callV (As := [(2, v1), (0, r_9)]) (rest := []) (ci := 8) (m_Ws_goOnFrom l E n C_16 v0 v1 r_9 _ h) cb_8_61 im_Ws_goOnFrom se_Ws_goOnFrom ⟨_, _, rfl⟩ (by decide) (dc hd_Ws_spread 41 rfl) g_10 rfl rfl ⟨Nat.le_of_ble_eq_true rfl, Nat.le_of_ble_eq_true rfl⟩ ⟨(Nat.le_of_ble_eq_true rfl), (Nat.le_of_ble_eq_true rfl)⟩ (Nat.le_of_ble_eq_true rfl) (fun _ h => by cases h) (fun _ => rfl) (fun u_19 C_17 d_20 q_18 => ?_)
    obtain ⟨q_18a, h⟩ := q_18
    subst d_20
    show AW p l e _ s m args below meth c E M_Ws_spread true _ n _ _ _ [(2, v0), (2, v1), (9, 0), (0, v3), (0, r_9)] [] C_17
    refine AW.iinc [(2, v0), (2, v1), (9, 0), (0, w32 (v3 + 1)), (0, r_9)] (dc hd_Ws_spread 42 rfl) rfl (Nat.le_of_ble_eq_true rfl) rfl rfl ?_
    refine AW.goto (t := 40) (dc hd_Ws_spread 43 rfl) (by decide) ?_
    refine AW.fgt [(2, v0), (2, v1), (9, 0), (0, w32 (v3 + 1)), (9, 0)] ⟨.inl rfl, .inl rfl, .inl rfl, .inl rfl, .inr rfl, trivial⟩ ?_
    exact hkz40 C_17 (w32 (v3 + 1)) h
theorem aB_Ws_spread_40 (n : Nat) (v0 v1 : Int) (Q : Int → Cn → Prop) : ∀ (f : Nat) (z : Cn × Int), lp (B_Ws_spread_40 n v0 v1 Q) f z → AW p l e R s m args below meth c E M_Ws_spread true (fun r C2 n2 => n2 = n ∧ Q r C2) n 0 0 40 [(2, v0), (2, v1), (9, 0), (0, z.2), (9, 0)] [] (z.1) := by
  intro f
  induction f with
  | zero => intro z h; exact False.elim h
  | succ f ih => intro z h; exact bB_Ws_spread_40 n v0 v1 Q (lp (B_Ws_spread_40 n v0 v1 Q) f) (fun a0 a1 h => ih (a0, a1) h) z.1 z.2 h
def B_Ws_spread_2 (n : Nat) (v0 v1 v2 : Int) (Q : Int → Cn → Prop) (kz2 : Cn × Int → Prop) (z : Cn × Int) : Prop := match z with
  | (C, v3) => okO n v1 2 ∧ ((C v1.toNat 14 ≤ v3 → (okO n v0 8 ∧ (okO n (PT v0.toNat 1) 12 ∧ (okI (PT v0.toNat 1) v2 ∧ (∀ C_6 : Cn, C_6 = wr C (PT v0.toNat 1).toNat v2.toNat 0 → (∃ f_21 : Nat, lp (B_Ws_spread_40 n v0 v1 Q) f_21 (C_6, 0))))))) ∧ (¬ C v1.toNat 14 ≤ v3 → (okO n v0 8 ∧ (okO n (PT v0.toNat 1) 12 ∧ (okI (PT v0.toNat 1) v3 ∧ (∀ C_25 : Cn, C_25 = wr C (PT v0.toNat 1).toNat v3.toNat 1000000 → (okO n (PT v0.toNat 2) 14 ∧ (okI (PT v0.toNat 2) v3 ∧ (∀ C_28 : Cn, C_28 = wr C_25 (PT v0.toNat 2).toNat v3.toNat 0 → (kz2 (C_28, w32 (v3 + 1))))))))))))
theorem bB_Ws_spread_2 (n : Nat) (v0 v1 v2 : Int) (Q : Int → Cn → Prop) (kz2 : Cn × Int → Prop) (hkz2 : ∀ (Cz : Cn) (z3 : Int), kz2 (Cz, z3) → AW p l e R s m args below meth c E M_Ws_spread true (fun r C2 n2 => n2 = n ∧ Q r C2) n 0 0 2 [(2, v0), (2, v1), (0, v2), (0, z3), (9, 0)] [] Cz) (C : Cn) (v3 : Int) (h : B_Ws_spread_2 n v0 v1 v2 Q kz2 (C, v3)) : AW p l e R s m args below meth c E M_Ws_spread true (fun r C2 n2 => n2 = n ∧ Q r C2) n 0 0 2 [(2, v0), (2, v1), (0, v2), (0, v3), (9, 0)] [] C := by
  unfold B_Ws_spread_2 at h
  dsimp only at h
  refine AW.iload_n (dc hd_Ws_spread 2 rfl) rfl ?_
  refine AW.ra_n (dc hd_Ws_spread 3 rfl) rfl rfl rfl ?_
  obtain ⟨g_1, h⟩ := h
  refine AW.getf fl_8_51 (dc hd_Ws_spread 4 rfl) g_1 ?_
  refine AW.icmp_ge (t := 31) (dc hd_Ws_spread 5 rfl) (by decide) (fun c_2 => ?_) (fun c_2 => ?_)
  · have h := h.1 c_2
    refine AW.ra_n (dc hd_Ws_spread 18 rfl) rfl rfl rfl ?_
    obtain ⟨g_3, h⟩ := h
    refine AW.getp fl_8_15 (dc hd_Ws_spread 19 rfl) g_3 rfl ?_
    refine AW.iload_n (dc hd_Ws_spread 20 rfl) rfl ?_
    refine AW.iconst (dc hd_Ws_spread 21 rfl) (by decide) ?_
    obtain ⟨g_4, h⟩ := h
    obtain ⟨g_5, h⟩ := h
    refine AW.niast (dc hd_Ws_spread 22 rfl) g_4 g_5 (fun C_6 eC_6 => ?_)
    have h := h C_6 eC_6
    refine AW.iconst (dc hd_Ws_spread 23 rfl) (by decide) ?_
    refine AW.istore_n [(2, v0), (2, v1), (0, v2), (0, 0), (9, 0)] (dc hd_Ws_spread 24 rfl) (Nat.le_of_ble_eq_true rfl) rfl rfl ?_
    obtain ⟨f_21, h⟩ := h
    refine AW.fgt [(2, v0), (2, v1), (9, 0), (0, 0), (9, 0)] ⟨.inl rfl, .inl rfl, .inr rfl, .inl rfl, .inl rfl, trivial⟩ ?_
    exact aB_Ws_spread_40 n v0 v1 Q f_21 (C_6, 0) h
  · have h := h.2 c_2
    refine AW.ra_n (dc hd_Ws_spread 6 rfl) rfl rfl rfl ?_
    obtain ⟨g_22, h⟩ := h
    refine AW.getp fl_8_15 (dc hd_Ws_spread 7 rfl) g_22 rfl ?_
    refine AW.iload_n (dc hd_Ws_spread 8 rfl) rfl ?_
    refine AW.ldc (v := 1000000) (dc hd_Ws_spread 9 rfl) ck_8_56 (by decide) rfl ?_
    obtain ⟨g_23, h⟩ := h
    obtain ⟨g_24, h⟩ := h
    refine AW.niast (dc hd_Ws_spread 10 rfl) g_23 g_24 (fun C_25 eC_25 => ?_)
    have h := h C_25 eC_25
    refine AW.ra_n (dc hd_Ws_spread 11 rfl) rfl rfl rfl ?_
    refine AW.getp fl_8_18 (dc hd_Ws_spread 12 rfl) g_22 rfl ?_
    refine AW.iload_n (dc hd_Ws_spread 13 rfl) rfl ?_
    refine AW.iconst (dc hd_Ws_spread 14 rfl) (by decide) ?_
    obtain ⟨g_26, h⟩ := h
    obtain ⟨g_27, h⟩ := h
    refine AW.nzast (dc hd_Ws_spread 15 rfl) g_26 g_27 (by decide) (fun C_28 eC_28 => ?_)
    have h := h C_28 eC_28
    refine AW.iinc [(2, v0), (2, v1), (0, v2), (0, w32 (v3 + 1)), (9, 0)] (dc hd_Ws_spread 16 rfl) rfl (Nat.le_of_ble_eq_true rfl) rfl rfl ?_
    refine AW.goto (t := 2) (dc hd_Ws_spread 17 rfl) (by decide) ?_
    exact hkz2 C_28 (w32 (v3 + 1)) h
theorem aB_Ws_spread_2 (n : Nat) (v0 v1 v2 : Int) (Q : Int → Cn → Prop) : ∀ (f : Nat) (z : Cn × Int), lp (B_Ws_spread_2 n v0 v1 v2 Q) f z → AW p l e R s m args below meth c E M_Ws_spread true (fun r C2 n2 => n2 = n ∧ Q r C2) n 0 0 2 [(2, v0), (2, v1), (0, v2), (0, z.2), (9, 0)] [] (z.1) := by
  intro f
  induction f with
  | zero => intro z h; exact False.elim h
  | succ f ih => intro z h; exact bB_Ws_spread_2 n v0 v1 v2 Q (lp (B_Ws_spread_2 n v0 v1 v2 Q) f) (fun a0 a1 h => ih (a0, a1) h) z.1 z.2 h
def P_Ws_spread (n : Nat) (C : Cn) (v0 v1 v2 : Int) (Q : Int → Cn → Prop) : Prop :=
  ∃ f_29 : Nat, lp (B_Ws_spread_2 n v0 v1 v2 Q) f_29 (C, 0)
theorem m_Ws_spread (l : Launch) (E : Ev) (n : Nat) (C : Cn) (v0 v1 v2 : Int) (Q : Int → Cn → Prop) (h : P_Ws_spread n C v0 v1 v2 Q) : MA l y_Ws_spread M_Ws_spread E true C n [(2, v0), (2, v1), (0, v2)] (fun r C2 n2 => n2 = n ∧ Q r C2) := by
  refine MA.of (by decide) rfl rfl 2 rfl (fun p e s m args below meth c => ?_)
  show AW p l e _ s m args below meth c E M_Ws_spread true _ n 0 0 0 [(2, v0), (2, v1), (0, v2), (9, 0), (9, 0)] [] C
  unfold P_Ws_spread at h
  refine AW.iconst (dc hd_Ws_spread 0 rfl) (by decide) ?_
  refine AW.istore_n [(2, v0), (2, v1), (0, v2), (0, 0), (9, 0)] (dc hd_Ws_spread 1 rfl) (Nat.le_of_ble_eq_true rfl) rfl rfl ?_
  obtain ⟨f_29, h⟩ := h
  exact aB_Ws_spread_2 n v0 v1 v2 Q f_29 (C, 0) h
def P_Ws_costOf (n : Nat) (C : Cn) (v0 v1 v2 v3 : Int) (Q : Int → Cn → Prop) : Prop :=
  okO n v0 8 ∧ (P_Ws_spread n C v0 v1 v2 (fun (_ : Int) (C_2 : Cn) => okO n (PT v0.toNat 1) 12 ∧ (okI (PT v0.toNat 1) v3 ∧ (Q (C_2 (PT v0.toNat 1).toNat v3.toNat) C_2))))
theorem m_Ws_costOf (l : Launch) (E : Ev) (n : Nat) (C : Cn) (v0 v1 v2 v3 : Int) (Q : Int → Cn → Prop) (h : P_Ws_costOf n C v0 v1 v2 v3 Q) : MA l y_Ws_costOf M_Ws_costOf E true C n [(2, v0), (2, v1), (0, v2), (0, v3)] (fun r C2 n2 => n2 = n ∧ Q r C2) := by
  refine MA.of (by decide) rfl rfl 0 rfl (fun p e s m args below meth c => ?_)
  show AW p l e _ s m args below meth c E M_Ws_costOf true _ n 0 0 0 [(2, v0), (2, v1), (0, v2), (0, v3)] [] C
  unfold P_Ws_costOf at h
  refine AW.ra_n (dc hd_Ws_costOf 0 rfl) rfl rfl rfl ?_
  refine AW.ra_n (dc hd_Ws_costOf 1 rfl) rfl rfl rfl ?_
  refine AW.iload_n (dc hd_Ws_costOf 2 rfl) rfl ?_
  obtain ⟨g_1, h⟩ := h
  refine AW.callV (As := [(2, v1), (0, v2)]) (rest := []) (ci := 8) (m_Ws_spread l E n C v0 v1 v2 _ h) cb_8_47 im_Ws_spread se_Ws_spread ⟨_, _, rfl⟩ (by decide) (dc hd_Ws_costOf 3 rfl) g_1 rfl rfl ⟨Nat.le_of_ble_eq_true rfl, Nat.le_of_ble_eq_true rfl⟩ ⟨(Nat.le_of_ble_eq_true rfl), (Nat.le_of_ble_eq_true rfl)⟩ (Nat.le_of_ble_eq_true rfl) (fun _ h => by cases h) (fun _ => rfl) (fun u_4 C_2 d_5 q_3 => ?_)
  obtain ⟨q_3a, h⟩ := q_3
  subst d_5
  show AW p l e _ s m args below meth c E M_Ws_costOf true _ n _ _ _ [(2, v0), (2, v1), (0, v2), (0, v3)] [] C_2
  refine AW.ra_n (dc hd_Ws_costOf 4 rfl) rfl rfl rfl ?_
  refine AW.getp fl_8_15 (dc hd_Ws_costOf 5 rfl) g_1 rfl ?_
  refine AW.iload_n (dc hd_Ws_costOf 6 rfl) rfl ?_
  obtain ⟨g_6, h⟩ := h
  obtain ⟨g_7, h⟩ := h
  refine AW.iald (dc hd_Ws_costOf 7 rfl) g_6 g_7 ?_
  exact AW.iret (dc hd_Ws_costOf 8 rfl) rfl rfl (Nat.le_of_ble_eq_true rfl) (Nat.le_of_ble_eq_true rfl) ⟨rfl, h⟩
def B_Ws_firstBy_2 (n : Nat) (C : Cn) (v0 v1 v2 : Int) (Q : Int → Prop) (kz2 : Int → Prop) (v3 : Int) : Prop :=
  okO n v1 2 ∧ ((C v1.toNat 14 ≤ v3 → (Q v2)) ∧ (¬ C v1.toNat 14 ≤ v3 → (okO n v0 8 ∧ (P_La_tollBetween n C v1 v2 v3 (PT v0.toNat 0) (fun (r_4 : Int) => (v3 = v2 → (kz2 (w32 (v3 + 1)))) ∧ (¬ v3 = v2 → ((r_4 < 0 → (kz2 (w32 (v3 + 1)))) ∧ (¬ r_4 < 0 → (okO n (PT v0.toNat 1) 12 ∧ (okI (PT v0.toNat 1) v3 ∧ (okI (PT v0.toNat 1) v2 ∧ ((w32 (r_4 + C (PT v0.toNat 1).toNat v3.toNat) = C (PT v0.toNat 1).toNat v2.toNat → (Q v3)) ∧ (¬ w32 (r_4 + C (PT v0.toNat 1).toNat v3.toNat) = C (PT v0.toNat 1).toNat v2.toNat → (kz2 (w32 (v3 + 1))))))))))))))))
theorem bB_Ws_firstBy_2 (n : Nat) (C : Cn) (v0 v1 v2 : Int) (Q : Int → Prop) (kz2 : Int → Prop) (hkz2 : ∀ (z3 : Int), kz2 z3 → AW p l e R s m args below meth c E M_Ws_firstBy true (fun r C2 n2 => C2 = C ∧ n2 = n ∧ Q r) n 0 0 2 [(2, v0), (2, v1), (0, v2), (0, z3), (9, 0)] [] C) (v3 : Int) (h : B_Ws_firstBy_2 n C v0 v1 v2 Q kz2 v3) : AW p l e R s m args below meth c E M_Ws_firstBy true (fun r C2 n2 => C2 = C ∧ n2 = n ∧ Q r) n 0 0 2 [(2, v0), (2, v1), (0, v2), (0, v3), (9, 0)] [] C := by
  unfold B_Ws_firstBy_2 at h
  refine AW.iload_n (dc hd_Ws_firstBy 2 rfl) rfl ?_
  refine AW.ra_n (dc hd_Ws_firstBy 3 rfl) rfl rfl rfl ?_
  obtain ⟨g_1, h⟩ := h
  refine AW.getf fl_8_51 (dc hd_Ws_firstBy 4 rfl) g_1 ?_
  refine AW.icmp_ge (t := 58) (dc hd_Ws_firstBy 5 rfl) (by decide) (fun c_2 => ?_) (fun c_2 => ?_)
  · have h := h.1 c_2
    refine AW.iload_n (dc hd_Ws_firstBy 33 rfl) rfl ?_
    exact AW.iret (dc hd_Ws_firstBy 34 rfl) rfl rfl (Nat.le_of_ble_eq_true rfl) (Nat.le_of_ble_eq_true rfl) ⟨rfl, rfl, h⟩
  · have h := h.2 c_2
    refine AW.ra_n (dc hd_Ws_firstBy 6 rfl) rfl rfl rfl ?_
    refine AW.iload_n (dc hd_Ws_firstBy 7 rfl) rfl ?_
    refine AW.iload_n (dc hd_Ws_firstBy 8 rfl) rfl ?_
    refine AW.ra_n (dc hd_Ws_firstBy 9 rfl) rfl rfl rfl ?_
    obtain ⟨g_3, h⟩ := h
    refine AW.getp fl_8_9 (dc hd_Ws_firstBy 10 rfl) g_3 rfl ?_
    refine AW.callV (As := [(0, v2), (0, v3), (2, PT v0.toNat 0)]) (rest := []) (ci := 2) (m_La_tollBetween l E n C v1 v2 v3 (PT v0.toNat 0) _ h) cb_8_65 im_La_tollBetween se_La_tollBetween ⟨_, _, rfl⟩ (by decide) (dc hd_Ws_firstBy 11 rfl) g_1 rfl rfl ⟨Nat.le_of_ble_eq_true rfl, Nat.le_of_ble_eq_true rfl⟩ ⟨(Nat.le_of_ble_eq_true rfl), (Nat.le_of_ble_eq_true rfl)⟩ (Nat.le_of_ble_eq_true rfl) (fun _ h => by cases h) (fun _ => rfl) (fun r_4 D_6 d_7 q_5 => ?_)
    obtain ⟨q_5a, q_5b, h⟩ := q_5
    subst D_6
    subst d_7
    show AW p l e _ s m args below meth c E M_Ws_firstBy true _ n _ _ _ [(2, v0), (2, v1), (0, v2), (0, v3), (9, 0)] [(0, r_4)] C
    refine AW.istore [(2, v0), (2, v1), (0, v2), (0, v3), (0, r_4)] (dc hd_Ws_firstBy 12 rfl) (Nat.le_of_ble_eq_true rfl) rfl rfl ?_
    refine AW.iload_n (dc hd_Ws_firstBy 13 rfl) rfl ?_
    refine AW.iload_n (dc hd_Ws_firstBy 14 rfl) rfl ?_
    refine AW.icmp_eq (t := 52) (dc hd_Ws_firstBy 15 rfl) (by decide) (fun c_8 => ?_) (fun c_8 => ?_)
    · have h := h.1 c_8
      refine AW.iinc [(2, v0), (2, v1), (0, v2), (0, w32 (v3 + 1)), (0, r_4)] (dc hd_Ws_firstBy 31 rfl) rfl (Nat.le_of_ble_eq_true rfl) rfl rfl ?_
      refine AW.goto (t := 2) (dc hd_Ws_firstBy 32 rfl) (by decide) ?_
      refine AW.fgt [(2, v0), (2, v1), (0, v2), (0, w32 (v3 + 1)), (9, 0)] ⟨.inl rfl, .inl rfl, .inl rfl, .inl rfl, .inr rfl, trivial⟩ ?_
      exact hkz2 (w32 (v3 + 1)) h
    · have h := h.2 c_8
      refine AW.iload (dc hd_Ws_firstBy 16 rfl) rfl ?_
      refine AW.if_lt (t := 52) (dc hd_Ws_firstBy 17 rfl) (by decide) (fun c_9 => ?_) (fun c_9 => ?_)
      · have h := h.1 c_9
        refine AW.iinc [(2, v0), (2, v1), (0, v2), (0, w32 (v3 + 1)), (0, r_4)] (dc hd_Ws_firstBy 31 rfl) rfl (Nat.le_of_ble_eq_true rfl) rfl rfl ?_
        refine AW.goto (t := 2) (dc hd_Ws_firstBy 32 rfl) (by decide) ?_
        refine AW.fgt [(2, v0), (2, v1), (0, v2), (0, w32 (v3 + 1)), (9, 0)] ⟨.inl rfl, .inl rfl, .inl rfl, .inl rfl, .inr rfl, trivial⟩ ?_
        exact hkz2 (w32 (v3 + 1)) h
      · have h := h.2 c_9
        refine AW.iload (dc hd_Ws_firstBy 18 rfl) rfl ?_
        refine AW.ra_n (dc hd_Ws_firstBy 19 rfl) rfl rfl rfl ?_
        refine AW.getp fl_8_15 (dc hd_Ws_firstBy 20 rfl) g_3 rfl ?_
        refine AW.iload_n (dc hd_Ws_firstBy 21 rfl) rfl ?_
        obtain ⟨g_10, h⟩ := h
        obtain ⟨g_11, h⟩ := h
        refine AW.iald (dc hd_Ws_firstBy 22 rfl) g_10 g_11 ?_
        refine AW.iadd (dc hd_Ws_firstBy 23 rfl) ?_
        refine AW.ra_n (dc hd_Ws_firstBy 24 rfl) rfl rfl rfl ?_
        refine AW.getp fl_8_15 (dc hd_Ws_firstBy 25 rfl) g_3 rfl ?_
        refine AW.iload_n (dc hd_Ws_firstBy 26 rfl) rfl ?_
        obtain ⟨g_12, h⟩ := h
        refine AW.iald (dc hd_Ws_firstBy 27 rfl) g_10 g_12 ?_
        refine AW.icmp_ne (t := 52) (dc hd_Ws_firstBy 28 rfl) (by decide) (fun c_13 => ?_) (fun c_13 => ?_)
        · have h := h.2 c_13
          refine AW.iinc [(2, v0), (2, v1), (0, v2), (0, w32 (v3 + 1)), (0, r_4)] (dc hd_Ws_firstBy 31 rfl) rfl (Nat.le_of_ble_eq_true rfl) rfl rfl ?_
          refine AW.goto (t := 2) (dc hd_Ws_firstBy 32 rfl) (by decide) ?_
          refine AW.fgt [(2, v0), (2, v1), (0, v2), (0, w32 (v3 + 1)), (9, 0)] ⟨.inl rfl, .inl rfl, .inl rfl, .inl rfl, .inr rfl, trivial⟩ ?_
          exact hkz2 (w32 (v3 + 1)) h
        · have h := h.1 c_13
          refine AW.iload_n (dc hd_Ws_firstBy 29 rfl) rfl ?_
          exact AW.iret (dc hd_Ws_firstBy 30 rfl) rfl rfl (Nat.le_of_ble_eq_true rfl) (Nat.le_of_ble_eq_true rfl) ⟨rfl, rfl, h⟩
theorem aB_Ws_firstBy_2 (n : Nat) (C : Cn) (v0 v1 v2 : Int) (Q : Int → Prop) : ∀ (f : Nat) (z : Int), lp (B_Ws_firstBy_2 n C v0 v1 v2 Q) f z → AW p l e R s m args below meth c E M_Ws_firstBy true (fun r C2 n2 => C2 = C ∧ n2 = n ∧ Q r) n 0 0 2 [(2, v0), (2, v1), (0, v2), (0, z), (9, 0)] [] C := by
  intro f
  induction f with
  | zero => intro z h; exact False.elim h
  | succ f ih => intro z h; exact bB_Ws_firstBy_2 n C v0 v1 v2 Q (lp (B_Ws_firstBy_2 n C v0 v1 v2 Q) f) (fun a0 h => ih a0 h) z h
def P_Ws_firstBy (n : Nat) (C : Cn) (v0 v1 v2 : Int) (Q : Int → Prop) : Prop :=
  ∃ f_14 : Nat, lp (B_Ws_firstBy_2 n C v0 v1 v2 Q) f_14 0
theorem m_Ws_firstBy (l : Launch) (E : Ev) (n : Nat) (C : Cn) (v0 v1 v2 : Int) (Q : Int → Prop) (h : P_Ws_firstBy n C v0 v1 v2 Q) : MA l y_Ws_firstBy M_Ws_firstBy E true C n [(2, v0), (2, v1), (0, v2)] (fun r C2 n2 => C2 = C ∧ n2 = n ∧ Q r) := by
  refine MA.of (by decide) rfl rfl 2 rfl (fun p e s m args below meth c => ?_)
  show AW p l e _ s m args below meth c E M_Ws_firstBy true _ n 0 0 0 [(2, v0), (2, v1), (0, v2), (9, 0), (9, 0)] [] C
  unfold P_Ws_firstBy at h
  refine AW.iconst (dc hd_Ws_firstBy 0 rfl) (by decide) ?_
  refine AW.istore_n [(2, v0), (2, v1), (0, v2), (0, 0), (9, 0)] (dc hd_Ws_firstBy 1 rfl) (Nat.le_of_ble_eq_true rfl) rfl rfl ?_
  obtain ⟨f_14, h⟩ := h
  exact aB_Ws_firstBy_2 n C v0 v1 v2 Q f_14 0 h
def P_F_settle (n : Nat) (C : Cn) (v0 : Int) (Q : Int → Cn → Prop) : Prop :=
  okO n v0 9 ∧ (okO n (PT v0.toNat 3) 2 ∧ (P_La_survey n C (PT v0.toNat 3) (PT v0.toNat 0) (fun (_ : Int) (C_3 : Cn) => okO n (PT v0.toNat 5) 4 ∧ (P_Se_study n C_3 (PT v0.toNat 5) (fun (_ : Int) (C_8 : Cn) => Q 0 C_8)))))
theorem m_F_settle (l : Launch) (E : Ev) (n : Nat) (C : Cn) (v0 : Int) (Q : Int → Cn → Prop) (h : P_F_settle n C v0 Q) : MA l y_F_settle M_F_settle E true C n [(2, v0)] (fun r C2 n2 => n2 = n ∧ Q r C2) := by
  refine MA.of (by decide) rfl rfl 0 rfl (fun p e s m args below meth c => ?_)
  show AW p l e _ s m args below meth c E M_F_settle true _ n 0 0 0 [(2, v0)] [] C
  unfold P_F_settle at h
  refine AW.ra_n (dc hd_F_settle 0 rfl) rfl rfl rfl ?_
  obtain ⟨g_1, h⟩ := h
  refine AW.getp fl_9_25 (dc hd_F_settle 1 rfl) g_1 rfl ?_
  refine AW.ra_n (dc hd_F_settle 2 rfl) rfl rfl rfl ?_
  refine AW.getp fl_9_12 (dc hd_F_settle 3 rfl) g_1 rfl ?_
  obtain ⟨g_2, h⟩ := h
  refine AW.callV (As := [(2, PT v0.toNat 0)]) (rest := []) (ci := 2) (m_La_survey l E n C (PT v0.toNat 3) (PT v0.toNat 0) _ h) cb_9_297 im_La_survey se_La_survey ⟨_, _, rfl⟩ (by decide) (dc hd_F_settle 4 rfl) g_2 rfl rfl ⟨Nat.le_of_ble_eq_true rfl, Nat.le_of_ble_eq_true rfl⟩ ⟨(Nat.le_of_ble_eq_true rfl), (Nat.le_of_ble_eq_true rfl)⟩ (Nat.le_of_ble_eq_true rfl) (fun _ h => by cases h) (fun _ => rfl) (fun u_5 C_3 d_6 q_4 => ?_)
  obtain ⟨q_4a, h⟩ := q_4
  subst d_6
  show AW p l e _ s m args below meth c E M_F_settle true _ n _ _ _ [(2, v0)] [] C_3
  refine AW.ra_n (dc hd_F_settle 5 rfl) rfl rfl rfl ?_
  refine AW.getp fl_9_37 (dc hd_F_settle 6 rfl) g_1 rfl ?_
  obtain ⟨g_7, h⟩ := h
  refine AW.callV (As := []) (rest := []) (ci := 4) (m_Se_study l E n C_3 (PT v0.toNat 5) _ h) cb_9_424 im_Se_study se_Se_study ⟨_, _, rfl⟩ (by decide) (dc hd_F_settle 7 rfl) g_7 rfl rfl ⟨Nat.le_of_ble_eq_true rfl, Nat.le_of_ble_eq_true rfl⟩ ⟨(Nat.le_of_ble_eq_true rfl), (Nat.le_of_ble_eq_true rfl)⟩ (Nat.le_of_ble_eq_true rfl) (fun _ h => by cases h) (fun _ => rfl) (fun u_10 C_8 d_11 q_9 => ?_)
  obtain ⟨q_9a, h⟩ := q_9
  subst d_11
  show AW p l e _ s m args below meth c E M_F_settle true _ n _ _ _ [(2, v0)] [] C_8
  exact AW.vret (dc hd_F_settle 8 rfl) rfl rfl (Nat.le_of_ble_eq_true rfl) (Nat.le_of_ble_eq_true rfl) ⟨rfl, h⟩
def J_F_isIn_15 (n : Nat) (C : Cn) (s0 : Int) (Q : Int → Prop) : Prop :=
  (s0 = 0 ∨ s0 = 1) ∧ (Q s0)
theorem aJ_F_isIn_15 (n : Nat) (C : Cn) (s0 : Int) (Q : Int → Prop) (h : J_F_isIn_15 n C s0 Q) : AW p l e R s m args below meth c E M_F_isIn true (fun r C2 n2 => C2 = C ∧ n2 = n ∧ Q r) n 0 0 15 [(9, 0), (9, 0), (9, 0)] [(0, s0)] C := by
  unfold J_F_isIn_15 at h
  obtain ⟨g_3, h⟩ := h
  exact AW.zret (dc hd_F_isIn 9 rfl) rfl rfl (Nat.le_of_ble_eq_true rfl) (Nat.le_of_ble_eq_true rfl) g_3 ⟨rfl, rfl, h⟩
def P_F_isIn (n : Nat) (C : Cn) (v0 v1 v2 : Int) (Q : Int → Prop) : Prop :=
  J_F_isIn_15 n C (if v0 < v1 then 0 else (if v2 < v0 then 0 else 1)) Q
theorem m_F_isIn (l : Launch) (E : Ev) (n : Nat) (C : Cn) (v0 v1 v2 : Int) (Q : Int → Prop) (h : P_F_isIn n C v0 v1 v2 Q) : MA l y_F_isIn M_F_isIn E true C n [(0, v0), (0, v1), (0, v2)] (fun r C2 n2 => C2 = C ∧ n2 = n ∧ Q r) := by
  refine MA.of (by decide) rfl rfl 0 rfl (fun p e s m args below meth c => ?_)
  show AW p l e _ s m args below meth c E M_F_isIn true _ n 0 0 0 [(0, v0), (0, v1), (0, v2)] [] C
  unfold P_F_isIn at h
  refine AW.iload_n (dc hd_F_isIn 0 rfl) rfl ?_
  refine AW.iload_n (dc hd_F_isIn 1 rfl) rfl ?_
  refine AW.icmp_gt (t := 14) (dc hd_F_isIn 2 rfl) (by decide) (fun c_1 => ?_) (fun c_1 => ?_)
  · simp only [if_pos (show v0 < v1 from c_1)] at h
    refine AW.iconst (dc hd_F_isIn 8 rfl) (by decide) ?_
    refine AW.fgt [(9, 0), (9, 0), (9, 0)] ⟨.inr rfl, .inr rfl, .inr rfl, trivial⟩ ?_
    exact aJ_F_isIn_15 n C _ Q h
  · simp only [if_neg (show ¬ (v0 < v1) from c_1)] at h
    refine AW.iload_n (dc hd_F_isIn 3 rfl) rfl ?_
    refine AW.iload_n (dc hd_F_isIn 4 rfl) rfl ?_
    refine AW.icmp_gt (t := 14) (dc hd_F_isIn 5 rfl) (by decide) (fun c_2 => ?_) (fun c_2 => ?_)
    · simp only [if_pos (show v2 < v0 from c_2)] at h
      refine AW.iconst (dc hd_F_isIn 8 rfl) (by decide) ?_
      refine AW.fgt [(9, 0), (9, 0), (9, 0)] ⟨.inr rfl, .inr rfl, .inr rfl, trivial⟩ ?_
      exact aJ_F_isIn_15 n C _ Q h
    · simp only [if_neg (show ¬ (v2 < v0) from c_2)] at h
      refine AW.iconst (dc hd_F_isIn 6 rfl) (by decide) ?_
      refine AW.goto (t := 15) (dc hd_F_isIn 7 rfl) (by decide) ?_
      refine AW.fgt [(9, 0), (9, 0), (9, 0)] ⟨.inr rfl, .inr rfl, .inr rfl, trivial⟩ ?_
      exact aJ_F_isIn_15 n C _ Q h
def P_F_isKm (n : Nat) (C : Cn) (v0 : Int) (Q : Int → Prop) : Prop :=
  P_F_isIn n C v0 0 59 (fun (r_1 : Int) => (r_1 = 0 ∨ r_1 = 1) ∧ (Q r_1))
theorem m_F_isKm (l : Launch) (E : Ev) (n : Nat) (C : Cn) (v0 : Int) (Q : Int → Prop) (h : P_F_isKm n C v0 Q) : MA l y_F_isKm M_F_isKm E true C n [(0, v0)] (fun r C2 n2 => C2 = C ∧ n2 = n ∧ Q r) := by
  refine MA.of (by decide) rfl rfl 0 rfl (fun p e s m args below meth c => ?_)
  show AW p l e _ s m args below meth c E M_F_isKm true _ n 0 0 0 [(0, v0)] [] C
  unfold P_F_isKm at h
  refine AW.iload_n (dc hd_F_isKm 0 rfl) rfl ?_
  refine AW.iconst (dc hd_F_isKm 1 rfl) (by decide) ?_
  refine AW.bipush (dc hd_F_isKm 2 rfl) (by decide) (by decide +kernel) ?_
  refine AW.callS (As := [(0, v0), (0, 0), (0, 59)]) (rest := []) (m_F_isIn l E n C v0 0 59 _ h) cb_9_167 sm_F_isIn (dc hd_F_isKm 3 rfl) rfl rfl ⟨Nat.le_of_ble_eq_true rfl, Nat.le_of_ble_eq_true rfl⟩ ⟨(Nat.le_of_ble_eq_true rfl), (Nat.le_of_ble_eq_true rfl)⟩ (Nat.le_of_ble_eq_true rfl) (fun _ h => by cases h) (fun _ => rfl) (fun r_1 D_3 d_4 q_2 => ?_)
  obtain ⟨q_2a, q_2b, h⟩ := q_2
  subst D_3
  subst d_4
  show AW p l e _ s m args below meth c E M_F_isKm true _ n _ _ _ [(0, v0)] [(0, r_1)] C
  obtain ⟨g_5, h⟩ := h
  exact AW.zret (dc hd_F_isKm 4 rfl) rfl rfl (Nat.le_of_ble_eq_true rfl) (Nat.le_of_ble_eq_true rfl) g_5 ⟨rfl, rfl, h⟩
def J_F_isFew_21 (n : Nat) (C : Cn) (s0 : Int) (Q : Int → Prop) : Prop :=
  (s0 = 0 ∨ s0 = 1) ∧ (Q s0)
theorem aJ_F_isFew_21 (n : Nat) (C : Cn) (s0 : Int) (Q : Int → Prop) (h : J_F_isFew_21 n C s0 Q) : AW p l e R s m args below meth c E M_F_isFew true (fun r C2 n2 => C2 = C ∧ n2 = n ∧ Q r) n 0 0 21 [(9, 0), (9, 0)] [(0, s0)] C := by
  unfold J_F_isFew_21 at h
  obtain ⟨g_3, h⟩ := h
  exact AW.zret (dc hd_F_isFew 11 rfl) rfl rfl (Nat.le_of_ble_eq_true rfl) (Nat.le_of_ble_eq_true rfl) g_3 ⟨rfl, rfl, h⟩
def P_F_isFew (n : Nat) (C : Cn) (v0 : Int) (Q : Int → Prop) : Prop :=
  (v0 < (-99) → (Q 0)) ∧ (¬ v0 < (-99) → (J_F_isFew_21 n C (if 99 < v0 then 0 else 1) Q))
theorem m_F_isFew (l : Launch) (E : Ev) (n : Nat) (C : Cn) (v0 : Int) (Q : Int → Prop) (h : P_F_isFew n C v0 Q) : MA l y_F_isFew M_F_isFew E true C n [(1, v0)] (fun r C2 n2 => C2 = C ∧ n2 = n ∧ Q r) := by
  refine MA.of (by decide) rfl rfl 0 rfl (fun p e s m args below meth c => ?_)
  show AW p l e _ s m args below meth c E M_F_isFew true _ n 0 0 0 [(1, v0), (9, 0)] [] C
  unfold P_F_isFew at h
  refine AW.ldc2 (v := -99) (dc hd_F_isFew 0 rfl) ck_9_427 (by decide) rfl ?_
  refine AW.lload_n (dc hd_F_isFew 1 rfl) rfl ?_
  refine AW.lc (dc hd_F_isFew 2 rfl) ?_
  refine AW.if_gt (t := 20) (dc hd_F_isFew 3 rfl) (by decide) (fun c_1 => ?_) (fun c_1 => ?_)
  · replace c_1 := (lc_gt _ _).mp c_1
    have h := h.1 c_1
    refine AW.iconst (dc hd_F_isFew 10 rfl) (by decide) ?_
    exact AW.zret (dc hd_F_isFew 11 rfl) rfl rfl (Nat.le_of_ble_eq_true rfl) (Nat.le_of_ble_eq_true rfl) (by decide) ⟨rfl, rfl, h⟩
  · replace c_1 : ¬ v0 < (-99) := fun q => c_1 ((lc_gt _ _).mpr q)
    have h := h.2 c_1
    refine AW.lload_n (dc hd_F_isFew 4 rfl) rfl ?_
    refine AW.ldc2 (v := 99) (dc hd_F_isFew 5 rfl) ck_9_429 (by decide) rfl ?_
    refine AW.lc (dc hd_F_isFew 6 rfl) ?_
    refine AW.if_gt (t := 20) (dc hd_F_isFew 7 rfl) (by decide) (fun c_2 => ?_) (fun c_2 => ?_)
    · replace c_2 := (lc_gt _ _).mp c_2
      simp only [if_pos (show 99 < v0 from c_2)] at h
      refine AW.iconst (dc hd_F_isFew 10 rfl) (by decide) ?_
      refine AW.fgt [(9, 0), (9, 0)] ⟨.inr rfl, .inl rfl, trivial⟩ ?_
      exact aJ_F_isFew_21 n C _ Q h
    · replace c_2 : ¬ 99 < v0 := fun q => c_2 ((lc_gt _ _).mpr q)
      simp only [if_neg (show ¬ (99 < v0) from c_2)] at h
      refine AW.iconst (dc hd_F_isFew 8 rfl) (by decide) ?_
      refine AW.goto (t := 21) (dc hd_F_isFew 9 rfl) (by decide) ?_
      refine AW.fgt [(9, 0), (9, 0)] ⟨.inr rfl, .inl rfl, trivial⟩ ?_
      exact aJ_F_isFew_21 n C _ Q h
def J_F_isPoint_21 (n : Nat) (C : Cn) (s0 : Int) (Q : Int → Prop) : Prop :=
  (s0 = 0 ∨ s0 = 1) ∧ (Q s0)
theorem aJ_F_isPoint_21 (n : Nat) (C : Cn) (s0 : Int) (Q : Int → Prop) (h : J_F_isPoint_21 n C s0 Q) : AW p l e R s m args below meth c E M_F_isPoint true (fun r C2 n2 => C2 = C ∧ n2 = n ∧ Q r) n 0 0 21 [(9, 0), (9, 0)] [(0, s0)] C := by
  unfold J_F_isPoint_21 at h
  obtain ⟨g_11, h⟩ := h
  exact AW.zret (dc hd_F_isPoint 11 rfl) rfl rfl (Nat.le_of_ble_eq_true rfl) (Nat.le_of_ble_eq_true rfl) g_11 ⟨rfl, rfl, h⟩
def P_F_isPoint (n : Nat) (C : Cn) (v0 v1 : Int) (Q : Int → Prop) : Prop :=
  P_F_isFew n C v0 (fun (r_1 : Int) => (r_1 = 0 → (Q 0)) ∧ (¬ r_1 = 0 → (P_F_isFew n C v1 (fun (r_6 : Int) => J_F_isPoint_21 n C (if r_6 = 0 then 0 else 1) Q))))
theorem m_F_isPoint (l : Launch) (E : Ev) (n : Nat) (C : Cn) (v0 v1 : Int) (Q : Int → Prop) (h : P_F_isPoint n C v0 v1 Q) : MA l y_F_isPoint M_F_isPoint E true C n [(0, v0), (0, v1)] (fun r C2 n2 => C2 = C ∧ n2 = n ∧ Q r) := by
  refine MA.of (by decide) rfl rfl 0 rfl (fun p e s m args below meth c => ?_)
  show AW p l e _ s m args below meth c E M_F_isPoint true _ n 0 0 0 [(0, v0), (0, v1)] [] C
  unfold P_F_isPoint at h
  refine AW.iload_n (dc hd_F_isPoint 0 rfl) rfl ?_
  refine AW.i2l (dc hd_F_isPoint 1 rfl) ?_
  refine AW.callS (As := [(1, v0)]) (rest := []) (m_F_isFew l E n C v0 _ h) cb_9_324 sm_F_isFew (dc hd_F_isPoint 2 rfl) rfl rfl ⟨Nat.le_of_ble_eq_true rfl, Nat.le_of_ble_eq_true rfl⟩ ⟨(Nat.le_of_ble_eq_true rfl), (Nat.le_of_ble_eq_true rfl)⟩ (Nat.le_of_ble_eq_true rfl) (fun _ h => by cases h) (fun _ => rfl) (fun r_1 D_3 d_4 q_2 => ?_)
  obtain ⟨q_2a, q_2b, h⟩ := q_2
  subst D_3
  subst d_4
  show AW p l e _ s m args below meth c E M_F_isPoint true _ n _ _ _ [(0, v0), (0, v1)] [(0, r_1)] C
  refine AW.if_eq (t := 20) (dc hd_F_isPoint 3 rfl) (by decide) (fun c_5 => ?_) (fun c_5 => ?_)
  · have h := h.1 c_5
    refine AW.iconst (dc hd_F_isPoint 10 rfl) (by decide) ?_
    exact AW.zret (dc hd_F_isPoint 11 rfl) rfl rfl (Nat.le_of_ble_eq_true rfl) (Nat.le_of_ble_eq_true rfl) (by decide) ⟨rfl, rfl, h⟩
  · have h := h.2 c_5
    refine AW.iload_n (dc hd_F_isPoint 4 rfl) rfl ?_
    refine AW.i2l (dc hd_F_isPoint 5 rfl) ?_
    refine AW.callS (As := [(1, v1)]) (rest := []) (m_F_isFew l E n C v1 _ h) cb_9_324 sm_F_isFew (dc hd_F_isPoint 6 rfl) rfl rfl ⟨Nat.le_of_ble_eq_true rfl, Nat.le_of_ble_eq_true rfl⟩ ⟨(Nat.le_of_ble_eq_true rfl), (Nat.le_of_ble_eq_true rfl)⟩ (Nat.le_of_ble_eq_true rfl) (fun _ h => by cases h) (fun _ => rfl) (fun r_6 D_8 d_9 q_7 => ?_)
    obtain ⟨q_7a, q_7b, h⟩ := q_7
    subst D_8
    subst d_9
    show AW p l e _ s m args below meth c E M_F_isPoint true _ n _ _ _ [(0, v0), (0, v1)] [(0, r_6)] C
    refine AW.if_eq (t := 20) (dc hd_F_isPoint 7 rfl) (by decide) (fun c_10 => ?_) (fun c_10 => ?_)
    · simp only [if_pos (show r_6 = 0 from c_10)] at h
      refine AW.iconst (dc hd_F_isPoint 10 rfl) (by decide) ?_
      refine AW.fgt [(9, 0), (9, 0)] ⟨.inr rfl, .inr rfl, trivial⟩ ?_
      exact aJ_F_isPoint_21 n C _ Q h
    · simp only [if_neg (show ¬ (r_6 = 0) from c_10)] at h
      refine AW.iconst (dc hd_F_isPoint 8 rfl) (by decide) ?_
      refine AW.goto (t := 21) (dc hd_F_isPoint 9 rfl) (by decide) ?_
      refine AW.fgt [(9, 0), (9, 0)] ⟨.inr rfl, .inr rfl, trivial⟩ ?_
      exact aJ_F_isPoint_21 n C _ Q h
def J_F_areTwoPoints_31 (n : Nat) (C : Cn) (s0 : Int) (Q : Int → Prop) : Prop :=
  (s0 = 0 ∨ s0 = 1) ∧ (Q s0)
theorem aJ_F_areTwoPoints_31 (n : Nat) (C : Cn) (s0 : Int) (Q : Int → Prop) (h : J_F_areTwoPoints_31 n C s0 Q) : AW p l e R s m args below meth c E M_F_areTwoPoints true (fun r C2 n2 => C2 = C ∧ n2 = n ∧ Q r) n 0 0 31 [(9, 0), (9, 0), (9, 0), (9, 0)] [(0, s0)] C := by
  unfold J_F_areTwoPoints_31 at h
  obtain ⟨g_13, h⟩ := h
  exact AW.zret (dc hd_F_areTwoPoints 17 rfl) rfl rfl (Nat.le_of_ble_eq_true rfl) (Nat.le_of_ble_eq_true rfl) g_13 ⟨rfl, rfl, h⟩
def P_F_areTwoPoints (n : Nat) (C : Cn) (v0 v1 v2 v3 : Int) (Q : Int → Prop) : Prop :=
  P_F_isPoint n C v0 v1 (fun (r_1 : Int) => (r_1 = 0 → (Q 0)) ∧ (¬ r_1 = 0 → (P_F_isPoint n C v2 v3 (fun (r_6 : Int) => J_F_areTwoPoints_31 n C (if r_6 = 0 then 0 else (if v0 = v2 then (if v1 = v3 then 0 else 1) else 1)) Q))))
theorem m_F_areTwoPoints (l : Launch) (E : Ev) (n : Nat) (C : Cn) (v0 v1 v2 v3 : Int) (Q : Int → Prop) (h : P_F_areTwoPoints n C v0 v1 v2 v3 Q) : MA l y_F_areTwoPoints M_F_areTwoPoints E true C n [(0, v0), (0, v1), (0, v2), (0, v3)] (fun r C2 n2 => C2 = C ∧ n2 = n ∧ Q r) := by
  refine MA.of (by decide) rfl rfl 0 rfl (fun p e s m args below meth c => ?_)
  show AW p l e _ s m args below meth c E M_F_areTwoPoints true _ n 0 0 0 [(0, v0), (0, v1), (0, v2), (0, v3)] [] C
  unfold P_F_areTwoPoints at h
  refine AW.iload_n (dc hd_F_areTwoPoints 0 rfl) rfl ?_
  refine AW.iload_n (dc hd_F_areTwoPoints 1 rfl) rfl ?_
  refine AW.callS (As := [(0, v0), (0, v1)]) (rest := []) (m_F_isPoint l E n C v0 v1 _ h) cb_9_222 sm_F_isPoint (dc hd_F_areTwoPoints 2 rfl) rfl rfl ⟨Nat.le_of_ble_eq_true rfl, Nat.le_of_ble_eq_true rfl⟩ ⟨(Nat.le_of_ble_eq_true rfl), (Nat.le_of_ble_eq_true rfl)⟩ (Nat.le_of_ble_eq_true rfl) (fun _ h => by cases h) (fun _ => rfl) (fun r_1 D_3 d_4 q_2 => ?_)
  obtain ⟨q_2a, q_2b, h⟩ := q_2
  subst D_3
  subst d_4
  show AW p l e _ s m args below meth c E M_F_areTwoPoints true _ n _ _ _ [(0, v0), (0, v1), (0, v2), (0, v3)] [(0, r_1)] C
  refine AW.if_eq (t := 30) (dc hd_F_areTwoPoints 3 rfl) (by decide) (fun c_5 => ?_) (fun c_5 => ?_)
  · have h := h.1 c_5
    refine AW.iconst (dc hd_F_areTwoPoints 16 rfl) (by decide) ?_
    exact AW.zret (dc hd_F_areTwoPoints 17 rfl) rfl rfl (Nat.le_of_ble_eq_true rfl) (Nat.le_of_ble_eq_true rfl) (by decide) ⟨rfl, rfl, h⟩
  · have h := h.2 c_5
    refine AW.iload_n (dc hd_F_areTwoPoints 4 rfl) rfl ?_
    refine AW.iload_n (dc hd_F_areTwoPoints 5 rfl) rfl ?_
    refine AW.callS (As := [(0, v2), (0, v3)]) (rest := []) (m_F_isPoint l E n C v2 v3 _ h) cb_9_222 sm_F_isPoint (dc hd_F_areTwoPoints 6 rfl) rfl rfl ⟨Nat.le_of_ble_eq_true rfl, Nat.le_of_ble_eq_true rfl⟩ ⟨(Nat.le_of_ble_eq_true rfl), (Nat.le_of_ble_eq_true rfl)⟩ (Nat.le_of_ble_eq_true rfl) (fun _ h => by cases h) (fun _ => rfl) (fun r_6 D_8 d_9 q_7 => ?_)
    obtain ⟨q_7a, q_7b, h⟩ := q_7
    subst D_8
    subst d_9
    show AW p l e _ s m args below meth c E M_F_areTwoPoints true _ n _ _ _ [(0, v0), (0, v1), (0, v2), (0, v3)] [(0, r_6)] C
    refine AW.if_eq (t := 30) (dc hd_F_areTwoPoints 7 rfl) (by decide) (fun c_10 => ?_) (fun c_10 => ?_)
    · simp only [if_pos (show r_6 = 0 from c_10)] at h
      refine AW.iconst (dc hd_F_areTwoPoints 16 rfl) (by decide) ?_
      refine AW.fgt [(9, 0), (9, 0), (9, 0), (9, 0)] ⟨.inr rfl, .inr rfl, .inr rfl, .inr rfl, trivial⟩ ?_
      exact aJ_F_areTwoPoints_31 n C _ Q h
    · simp only [if_neg (show ¬ (r_6 = 0) from c_10)] at h
      refine AW.iload_n (dc hd_F_areTwoPoints 8 rfl) rfl ?_
      refine AW.iload_n (dc hd_F_areTwoPoints 9 rfl) rfl ?_
      refine AW.icmp_ne (t := 26) (dc hd_F_areTwoPoints 10 rfl) (by decide) (fun c_11 => ?_) (fun c_11 => ?_)
      · simp only [if_neg (show ¬ (v0 = v2) from c_11)] at h
        refine AW.iconst (dc hd_F_areTwoPoints 14 rfl) (by decide) ?_
        refine AW.goto (t := 31) (dc hd_F_areTwoPoints 15 rfl) (by decide) ?_
        refine AW.fgt [(9, 0), (9, 0), (9, 0), (9, 0)] ⟨.inr rfl, .inr rfl, .inr rfl, .inr rfl, trivial⟩ ?_
        exact aJ_F_areTwoPoints_31 n C _ Q h
      · simp only [if_pos (show v0 = v2 from c_11)] at h
        refine AW.iload_n (dc hd_F_areTwoPoints 11 rfl) rfl ?_
        refine AW.iload_n (dc hd_F_areTwoPoints 12 rfl) rfl ?_
        refine AW.icmp_eq (t := 30) (dc hd_F_areTwoPoints 13 rfl) (by decide) (fun c_12 => ?_) (fun c_12 => ?_)
        · simp only [if_pos (show v1 = v3 from c_12)] at h
          refine AW.iconst (dc hd_F_areTwoPoints 16 rfl) (by decide) ?_
          refine AW.fgt [(9, 0), (9, 0), (9, 0), (9, 0)] ⟨.inr rfl, .inr rfl, .inr rfl, .inr rfl, trivial⟩ ?_
          exact aJ_F_areTwoPoints_31 n C _ Q h
        · simp only [if_neg (show ¬ (v1 = v3) from c_12)] at h
          refine AW.iconst (dc hd_F_areTwoPoints 14 rfl) (by decide) ?_
          refine AW.goto (t := 31) (dc hd_F_areTwoPoints 15 rfl) (by decide) ?_
          refine AW.fgt [(9, 0), (9, 0), (9, 0), (9, 0)] ⟨.inr rfl, .inr rfl, .inr rfl, .inr rfl, trivial⟩ ?_
          exact aJ_F_areTwoPoints_31 n C _ Q h
def P_F_tell (n : Nat) (C : Cn) (v0 v1 : Int) (Q : Int → Cn → Prop) : Prop :=
  okO n v0 9 ∧ (okO n (PT v0.toNat 13) 12 ∧ (okI (PT v0.toNat 13) v1 ∧ (∀ C_4 : Cn, C_4 = wr C (PT v0.toNat 13).toNat v1.toNat (w32 (C (PT v0.toNat 13).toNat v1.toNat + 1)) → (Q (w32 ((-1000001) - v1)) C_4))))
theorem m_F_tell (l : Launch) (E : Ev) (n : Nat) (C : Cn) (v0 v1 : Int) (Q : Int → Cn → Prop) (h : P_F_tell n C v0 v1 Q) : MA l y_F_tell M_F_tell E true C n [(2, v0), (0, v1)] (fun r C2 n2 => n2 = n ∧ Q r C2) := by
  refine MA.of (by decide) rfl rfl 0 rfl (fun p e s m args below meth c => ?_)
  show AW p l e _ s m args below meth c E M_F_tell true _ n 0 0 0 [(2, v0), (0, v1)] [] C
  unfold P_F_tell at h
  refine AW.ra_n (dc hd_F_tell 0 rfl) rfl rfl rfl ?_
  obtain ⟨g_1, h⟩ := h
  refine AW.getp fl_9_86 (dc hd_F_tell 1 rfl) g_1 rfl ?_
  refine AW.iload_n (dc hd_F_tell 2 rfl) rfl ?_
  refine AW.rdup2 (dc hd_F_tell 3 rfl) rfl rfl ?_
  obtain ⟨g_2, h⟩ := h
  obtain ⟨g_3, h⟩ := h
  refine AW.iald (dc hd_F_tell 4 rfl) g_2 g_3 ?_
  refine AW.iconst (dc hd_F_tell 5 rfl) (by decide) ?_
  refine AW.iadd (dc hd_F_tell 6 rfl) ?_
  refine AW.niast (dc hd_F_tell 7 rfl) g_2 g_3 (fun C_4 eC_4 => ?_)
  have h := h C_4 eC_4
  refine AW.ldc_w (v := -1000001) (dc hd_F_tell 8 rfl) ck_9_421 (by decide) rfl ?_
  refine AW.iload_n (dc hd_F_tell 9 rfl) rfl ?_
  refine AW.isub (dc hd_F_tell 10 rfl) ?_
  exact AW.iret (dc hd_F_tell 11 rfl) rfl rfl (Nat.le_of_ble_eq_true rfl) (Nat.le_of_ble_eq_true rfl) ⟨rfl, h⟩
def P_F_segment (n : Nat) (C : Cn) (v0 v1 v2 v3 v4 v5 : Int) (Q : Int → Cn → Prop) : Prop :=
  P_F_isKm n C v1 (fun (r_1 : Int) => (r_1 = 0 → (okO n v0 9 ∧ (P_F_tell n C v0 0 (fun (r_6 : Int) (C_8 : Cn) => Q r_6 C_8)))) ∧ (¬ r_1 = 0 → (P_F_areTwoPoints n C v2 v3 v4 v5 (fun (r_11 : Int) => (r_11 = 0 → (okO n v0 9 ∧ (P_F_tell n C v0 0 (fun (r_50 : Int) (C_52 : Cn) => Q r_50 C_52)))) ∧ (¬ r_11 = 0 → (okO n v0 9 ∧ (okO n (PT v0.toNat 0) 1 ∧ ((C (PT v0.toNat 0).toNat 1 < 6 → (okO n (PT v0.toNat 9) 7 ∧ (P_Wa_beOf n C (PT v0.toNat 9) (w32 (Int.tdiv v1 10)) (w32 (Int.tmod v1 10)) (fun (_ : Int) (C_20 : Cn) => P_Wa_lay n C_20 (PT v0.toNat 9) v2 v3 v4 v5 (fun (_ : Int) (C_24 : Cn) => okO n (PT v0.toNat 7) 0 ∧ (P_Bl_allows n C_24 (PT v0.toNat 7) (PT v0.toNat 0) (-1) (PT v0.toNat 9) 0 (fun (r_28 : Int) (C_30 : Cn) => (r_28 = 0 → (P_F_tell n C_30 v0 4 (fun (r_42 : Int) (C_43 : Cn) => Q r_42 C_43))) ∧ (¬ r_28 = 0 → (P_Es_add n C_30 (PT v0.toNat 0) (PT v0.toNat 9) (fun (_ : Int) (C_34 : Cn) => P_F_settle n C_34 v0 (fun (_ : Int) (C_38 : Cn) => Q (w32 (C_38 (PT v0.toNat 0).toNat 1 - 1)) C_38))))))))))) ∧ (¬ C (PT v0.toNat 0).toNat 1 < 6 → (P_F_tell n C v0 1 (fun (r_46 : Int) (C_47 : Cn) => Q r_46 C_47)))))))))))
theorem m_F_segment (l : Launch) (E : Ev) (n : Nat) (C : Cn) (v0 v1 v2 v3 v4 v5 : Int) (Q : Int → Cn → Prop) (h : P_F_segment n C v0 v1 v2 v3 v4 v5 Q) : MA l y_F_segment M_F_segment E true C n [(2, v0), (0, v1), (0, v2), (0, v3), (0, v4), (0, v5)] (fun r C2 n2 => n2 = n ∧ Q r C2) := by
  refine MA.of (by decide) rfl rfl 0 rfl (fun p e s m args below meth c => ?_)
  show AW p l e _ s m args below meth c E M_F_segment true _ n 0 0 0 [(2, v0), (0, v1), (0, v2), (0, v3), (0, v4), (0, v5)] [] C
  unfold P_F_segment at h
  refine AW.iload_n (dc hd_F_segment 0 rfl) rfl ?_
  refine AW.callS (As := [(0, v1)]) (rest := []) (m_F_isKm l E n C v1 _ h) cb_9_93 sm_F_isKm (dc hd_F_segment 1 rfl) rfl rfl ⟨Nat.le_of_ble_eq_true rfl, Nat.le_of_ble_eq_true rfl⟩ ⟨(Nat.le_of_ble_eq_true rfl), (Nat.le_of_ble_eq_true rfl)⟩ (Nat.le_of_ble_eq_true rfl) (fun _ h => by cases h) (fun _ => rfl) (fun r_1 D_3 d_4 q_2 => ?_)
  obtain ⟨q_2a, q_2b, h⟩ := q_2
  subst D_3
  subst d_4
  show AW p l e _ s m args below meth c E M_F_segment true _ n _ _ _ [(2, v0), (0, v1), (0, v2), (0, v3), (0, v4), (0, v5)] [(0, r_1)] C
  refine AW.if_eq (t := 19) (dc hd_F_segment 2 rfl) (by decide) (fun c_5 => ?_) (fun c_5 => ?_)
  · have h := h.1 c_5
    refine AW.ra_n (dc hd_F_segment 9 rfl) rfl rfl rfl ?_
    refine AW.iconst (dc hd_F_segment 10 rfl) (by decide) ?_
    obtain ⟨g_7, h⟩ := h
    refine AW.callV (As := [(0, 0)]) (rest := []) (ci := 9) (m_F_tell l E n C v0 0 _ h) cb_9_101 im_F_tell se_F_tell ⟨_, _, rfl⟩ (by decide) (dc hd_F_segment 11 rfl) g_7 rfl rfl ⟨Nat.le_of_ble_eq_true rfl, Nat.le_of_ble_eq_true rfl⟩ ⟨(Nat.le_of_ble_eq_true rfl), (Nat.le_of_ble_eq_true rfl)⟩ (Nat.le_of_ble_eq_true rfl) (fun _ h => by cases h) (fun _ => rfl) (fun r_6 C_8 d_10 q_9 => ?_)
    obtain ⟨q_9a, h⟩ := q_9
    subst d_10
    show AW p l e _ s m args below meth c E M_F_segment true _ n _ _ _ [(2, v0), (0, v1), (0, v2), (0, v3), (0, v4), (0, v5)] [(0, r_6)] C_8
    exact AW.iret (dc hd_F_segment 12 rfl) rfl rfl (Nat.le_of_ble_eq_true rfl) (Nat.le_of_ble_eq_true rfl) ⟨rfl, h⟩
  · have h := h.2 c_5
    refine AW.iload_n (dc hd_F_segment 3 rfl) rfl ?_
    refine AW.iload_n (dc hd_F_segment 4 rfl) rfl ?_
    refine AW.iload (dc hd_F_segment 5 rfl) rfl ?_
    refine AW.iload (dc hd_F_segment 6 rfl) rfl ?_
    refine AW.callS (As := [(0, v2), (0, v3), (0, v4), (0, v5)]) (rest := []) (m_F_areTwoPoints l E n C v2 v3 v4 v5 _ h) cb_9_97 sm_F_areTwoPoints (dc hd_F_segment 7 rfl) rfl rfl ⟨Nat.le_of_ble_eq_true rfl, Nat.le_of_ble_eq_true rfl⟩ ⟨(Nat.le_of_ble_eq_true rfl), (Nat.le_of_ble_eq_true rfl)⟩ (Nat.le_of_ble_eq_true rfl) (fun _ h => by cases h) (fun _ => rfl) (fun r_11 D_13 d_14 q_12 => ?_)
    obtain ⟨q_12a, q_12b, h⟩ := q_12
    subst D_13
    subst d_14
    show AW p l e _ s m args below meth c E M_F_segment true _ n _ _ _ [(2, v0), (0, v1), (0, v2), (0, v3), (0, v4), (0, v5)] [(0, r_11)] C
    refine AW.if_ne (t := 25) (dc hd_F_segment 8 rfl) (by decide) (fun c_15 => ?_) (fun c_15 => ?_)
    · have h := h.2 c_15
      refine AW.ra_n (dc hd_F_segment 13 rfl) rfl rfl rfl ?_
      obtain ⟨g_16, h⟩ := h
      refine AW.getp fl_9_12 (dc hd_F_segment 14 rfl) g_16 rfl ?_
      obtain ⟨g_17, h⟩ := h
      refine AW.getf fl_9_105 (dc hd_F_segment 15 rfl) g_17 ?_
      refine AW.bipush (dc hd_F_segment 16 rfl) (by decide) (by decide +kernel) ?_
      refine AW.icmp_lt (t := 43) (dc hd_F_segment 17 rfl) (by decide) (fun c_18 => ?_) (fun c_18 => ?_)
      · have h := h.1 c_18
        refine AW.ra_n (dc hd_F_segment 22 rfl) rfl rfl rfl ?_
        refine AW.getp fl_9_65 (dc hd_F_segment 23 rfl) g_16 rfl ?_
        refine AW.iload_n (dc hd_F_segment 24 rfl) rfl ?_
        refine AW.bipush (dc hd_F_segment 25 rfl) (by decide) (by decide +kernel) ?_
        refine AW.idiv (dc hd_F_segment 26 rfl) (by decide) ?_
        refine AW.iload_n (dc hd_F_segment 27 rfl) rfl ?_
        refine AW.bipush (dc hd_F_segment 28 rfl) (by decide) (by decide +kernel) ?_
        refine AW.irem (dc hd_F_segment 29 rfl) (by decide) ?_
        obtain ⟨g_19, h⟩ := h
        refine AW.callV (As := [(0, w32 (Int.tdiv v1 10)), (0, w32 (Int.tmod v1 10))]) (rest := []) (ci := 7) (m_Wa_beOf l E n C (PT v0.toNat 9) (w32 (Int.tdiv v1 10)) (w32 (Int.tmod v1 10)) _ h) cb_9_109 im_Wa_beOf se_Wa_beOf ⟨_, _, rfl⟩ (by decide) (dc hd_F_segment 30 rfl) g_19 rfl rfl ⟨Nat.le_of_ble_eq_true rfl, Nat.le_of_ble_eq_true rfl⟩ ⟨(Nat.le_of_ble_eq_true rfl), (Nat.le_of_ble_eq_true rfl)⟩ (Nat.le_of_ble_eq_true rfl) (fun _ h => by cases h) (fun _ => rfl) (fun u_22 C_20 d_23 q_21 => ?_)
        obtain ⟨q_21a, h⟩ := q_21
        subst d_23
        show AW p l e _ s m args below meth c E M_F_segment true _ n _ _ _ [(2, v0), (0, v1), (0, v2), (0, v3), (0, v4), (0, v5)] [] C_20
        refine AW.ra_n (dc hd_F_segment 31 rfl) rfl rfl rfl ?_
        refine AW.getp fl_9_65 (dc hd_F_segment 32 rfl) g_16 rfl ?_
        refine AW.iload_n (dc hd_F_segment 33 rfl) rfl ?_
        refine AW.iload_n (dc hd_F_segment 34 rfl) rfl ?_
        refine AW.iload (dc hd_F_segment 35 rfl) rfl ?_
        refine AW.iload (dc hd_F_segment 36 rfl) rfl ?_
        refine AW.callV (As := [(0, v2), (0, v3), (0, v4), (0, v5)]) (rest := []) (ci := 7) (m_Wa_lay l E n C_20 (PT v0.toNat 9) v2 v3 v4 v5 _ h) cb_9_113 im_Wa_lay se_Wa_lay ⟨_, _, rfl⟩ (by decide) (dc hd_F_segment 37 rfl) g_19 rfl rfl ⟨Nat.le_of_ble_eq_true rfl, Nat.le_of_ble_eq_true rfl⟩ ⟨(Nat.le_of_ble_eq_true rfl), (Nat.le_of_ble_eq_true rfl)⟩ (Nat.le_of_ble_eq_true rfl) (fun _ h => by cases h) (fun _ => rfl) (fun u_26 C_24 d_27 q_25 => ?_)
        obtain ⟨q_25a, h⟩ := q_25
        subst d_27
        show AW p l e _ s m args below meth c E M_F_segment true _ n _ _ _ [(2, v0), (0, v1), (0, v2), (0, v3), (0, v4), (0, v5)] [] C_24
        refine AW.ra_n (dc hd_F_segment 38 rfl) rfl rfl rfl ?_
        refine AW.getp fl_9_51 (dc hd_F_segment 39 rfl) g_16 rfl ?_
        refine AW.ra_n (dc hd_F_segment 40 rfl) rfl rfl rfl ?_
        refine AW.getp fl_9_12 (dc hd_F_segment 41 rfl) g_16 rfl ?_
        refine AW.iconst (dc hd_F_segment 42 rfl) (by decide) ?_
        refine AW.ra_n (dc hd_F_segment 43 rfl) rfl rfl rfl ?_
        refine AW.getp fl_9_65 (dc hd_F_segment 44 rfl) g_16 rfl ?_
        refine AW.iconst (dc hd_F_segment 45 rfl) (by decide) ?_
        obtain ⟨g_29, h⟩ := h
        refine AW.callV (As := [(2, PT v0.toNat 0), (0, (-1)), (2, PT v0.toNat 9), (0, 0)]) (rest := []) (ci := 0) (m_Bl_allows l E n C_24 (PT v0.toNat 7) (PT v0.toNat 0) (-1) (PT v0.toNat 9) 0 _ h) cb_9_117 im_Bl_allows se_Bl_allows ⟨_, _, rfl⟩ (by decide) (dc hd_F_segment 46 rfl) g_29 rfl rfl ⟨Nat.le_of_ble_eq_true rfl, Nat.le_of_ble_eq_true rfl⟩ ⟨(Nat.le_of_ble_eq_true rfl), (Nat.le_of_ble_eq_true rfl)⟩ (Nat.le_of_ble_eq_true rfl) (fun _ h => by cases h) (fun _ => rfl) (fun r_28 C_30 d_32 q_31 => ?_)
        obtain ⟨q_31a, h⟩ := q_31
        subst d_32
        show AW p l e _ s m args below meth c E M_F_segment true _ n _ _ _ [(2, v0), (0, v1), (0, v2), (0, v3), (0, v4), (0, v5)] [(0, r_28)] C_30
        refine AW.if_ne (t := 97) (dc hd_F_segment 47 rfl) (by decide) (fun c_33 => ?_) (fun c_33 => ?_)
        · have h := h.2 c_33
          refine AW.ra_n (dc hd_F_segment 52 rfl) rfl rfl rfl ?_
          refine AW.getp fl_9_12 (dc hd_F_segment 53 rfl) g_16 rfl ?_
          refine AW.ra_n (dc hd_F_segment 54 rfl) rfl rfl rfl ?_
          refine AW.getp fl_9_65 (dc hd_F_segment 55 rfl) g_16 rfl ?_
          refine AW.callV (As := [(2, PT v0.toNat 9)]) (rest := []) (ci := 1) (m_Es_add l E n C_30 (PT v0.toNat 0) (PT v0.toNat 9) _ h) cb_9_121 im_Es_add se_Es_add ⟨_, _, rfl⟩ (by decide) (dc hd_F_segment 56 rfl) g_17 rfl rfl ⟨Nat.le_of_ble_eq_true rfl, Nat.le_of_ble_eq_true rfl⟩ ⟨(Nat.le_of_ble_eq_true rfl), (Nat.le_of_ble_eq_true rfl)⟩ (Nat.le_of_ble_eq_true rfl) (fun _ h => by cases h) (fun _ => rfl) (fun u_36 C_34 d_37 q_35 => ?_)
          obtain ⟨q_35a, h⟩ := q_35
          subst d_37
          show AW p l e _ s m args below meth c E M_F_segment true _ n _ _ _ [(2, v0), (0, v1), (0, v2), (0, v3), (0, v4), (0, v5)] [] C_34
          refine AW.ra_n (dc hd_F_segment 57 rfl) rfl rfl rfl ?_
          refine AW.callV (As := []) (rest := []) (ci := 9) (m_F_settle l E n C_34 v0 _ h) cb_9_90 im_F_settle se_F_settle ⟨_, _, rfl⟩ (by decide) (dc hd_F_segment 58 rfl) g_16 rfl rfl ⟨Nat.le_of_ble_eq_true rfl, Nat.le_of_ble_eq_true rfl⟩ ⟨(Nat.le_of_ble_eq_true rfl), (Nat.le_of_ble_eq_true rfl)⟩ (Nat.le_of_ble_eq_true rfl) (fun _ h => by cases h) (fun _ => rfl) (fun u_40 C_38 d_41 q_39 => ?_)
          obtain ⟨q_39a, h⟩ := q_39
          subst d_41
          show AW p l e _ s m args below meth c E M_F_segment true _ n _ _ _ [(2, v0), (0, v1), (0, v2), (0, v3), (0, v4), (0, v5)] [] C_38
          refine AW.ra_n (dc hd_F_segment 59 rfl) rfl rfl rfl ?_
          refine AW.getp fl_9_12 (dc hd_F_segment 60 rfl) g_16 rfl ?_
          refine AW.getf fl_9_105 (dc hd_F_segment 61 rfl) g_17 ?_
          refine AW.iconst (dc hd_F_segment 62 rfl) (by decide) ?_
          refine AW.isub (dc hd_F_segment 63 rfl) ?_
          exact AW.iret (dc hd_F_segment 64 rfl) rfl rfl (Nat.le_of_ble_eq_true rfl) (Nat.le_of_ble_eq_true rfl) ⟨rfl, h⟩
        · have h := h.1 c_33
          refine AW.ra_n (dc hd_F_segment 48 rfl) rfl rfl rfl ?_
          refine AW.iconst (dc hd_F_segment 49 rfl) (by decide) ?_
          refine AW.callV (As := [(0, 4)]) (rest := []) (ci := 9) (m_F_tell l E n C_30 v0 4 _ h) cb_9_101 im_F_tell se_F_tell ⟨_, _, rfl⟩ (by decide) (dc hd_F_segment 50 rfl) g_16 rfl rfl ⟨Nat.le_of_ble_eq_true rfl, Nat.le_of_ble_eq_true rfl⟩ ⟨(Nat.le_of_ble_eq_true rfl), (Nat.le_of_ble_eq_true rfl)⟩ (Nat.le_of_ble_eq_true rfl) (fun _ h => by cases h) (fun _ => rfl) (fun r_42 C_43 d_45 q_44 => ?_)
          obtain ⟨q_44a, h⟩ := q_44
          subst d_45
          show AW p l e _ s m args below meth c E M_F_segment true _ n _ _ _ [(2, v0), (0, v1), (0, v2), (0, v3), (0, v4), (0, v5)] [(0, r_42)] C_43
          exact AW.iret (dc hd_F_segment 51 rfl) rfl rfl (Nat.le_of_ble_eq_true rfl) (Nat.le_of_ble_eq_true rfl) ⟨rfl, h⟩
      · have h := h.2 c_18
        refine AW.ra_n (dc hd_F_segment 18 rfl) rfl rfl rfl ?_
        refine AW.iconst (dc hd_F_segment 19 rfl) (by decide) ?_
        refine AW.callV (As := [(0, 1)]) (rest := []) (ci := 9) (m_F_tell l E n C v0 1 _ h) cb_9_101 im_F_tell se_F_tell ⟨_, _, rfl⟩ (by decide) (dc hd_F_segment 20 rfl) g_16 rfl rfl ⟨Nat.le_of_ble_eq_true rfl, Nat.le_of_ble_eq_true rfl⟩ ⟨(Nat.le_of_ble_eq_true rfl), (Nat.le_of_ble_eq_true rfl)⟩ (Nat.le_of_ble_eq_true rfl) (fun _ h => by cases h) (fun _ => rfl) (fun r_46 C_47 d_49 q_48 => ?_)
        obtain ⟨q_48a, h⟩ := q_48
        subst d_49
        show AW p l e _ s m args below meth c E M_F_segment true _ n _ _ _ [(2, v0), (0, v1), (0, v2), (0, v3), (0, v4), (0, v5)] [(0, r_46)] C_47
        exact AW.iret (dc hd_F_segment 21 rfl) rfl rfl (Nat.le_of_ble_eq_true rfl) (Nat.le_of_ble_eq_true rfl) ⟨rfl, h⟩
    · have h := h.1 c_15
      refine AW.ra_n (dc hd_F_segment 9 rfl) rfl rfl rfl ?_
      refine AW.iconst (dc hd_F_segment 10 rfl) (by decide) ?_
      obtain ⟨g_51, h⟩ := h
      refine AW.callV (As := [(0, 0)]) (rest := []) (ci := 9) (m_F_tell l E n C v0 0 _ h) cb_9_101 im_F_tell se_F_tell ⟨_, _, rfl⟩ (by decide) (dc hd_F_segment 11 rfl) g_51 rfl rfl ⟨Nat.le_of_ble_eq_true rfl, Nat.le_of_ble_eq_true rfl⟩ ⟨(Nat.le_of_ble_eq_true rfl), (Nat.le_of_ble_eq_true rfl)⟩ (Nat.le_of_ble_eq_true rfl) (fun _ h => by cases h) (fun _ => rfl) (fun r_50 C_52 d_54 q_53 => ?_)
      obtain ⟨q_53a, h⟩ := q_53
      subst d_54
      show AW p l e _ s m args below meth c E M_F_segment true _ n _ _ _ [(2, v0), (0, v1), (0, v2), (0, v3), (0, v4), (0, v5)] [(0, r_50)] C_52
      exact AW.iret (dc hd_F_segment 12 rfl) rfl rfl (Nat.le_of_ble_eq_true rfl) (Nat.le_of_ble_eq_true rfl) ⟨rfl, h⟩
def P_F_isSegment (n : Nat) (C : Cn) (v0 v1 : Int) (Q : Int → Prop) : Prop :=
  okO n v0 9 ∧ (okO n (PT v0.toNat 0) 1 ∧ (P_F_isIn n C v1 0 (w32 (C (PT v0.toNat 0).toNat 1 - 1)) (fun (r_3 : Int) => (r_3 = 0 ∨ r_3 = 1) ∧ (Q r_3))))
theorem m_F_isSegment (l : Launch) (E : Ev) (n : Nat) (C : Cn) (v0 v1 : Int) (Q : Int → Prop) (h : P_F_isSegment n C v0 v1 Q) : MA l y_F_isSegment M_F_isSegment E true C n [(2, v0), (0, v1)] (fun r C2 n2 => C2 = C ∧ n2 = n ∧ Q r) := by
  refine MA.of (by decide) rfl rfl 0 rfl (fun p e s m args below meth c => ?_)
  show AW p l e _ s m args below meth c E M_F_isSegment true _ n 0 0 0 [(2, v0), (0, v1)] [] C
  unfold P_F_isSegment at h
  refine AW.iload_n (dc hd_F_isSegment 0 rfl) rfl ?_
  refine AW.iconst (dc hd_F_isSegment 1 rfl) (by decide) ?_
  refine AW.ra_n (dc hd_F_isSegment 2 rfl) rfl rfl rfl ?_
  obtain ⟨g_1, h⟩ := h
  refine AW.getp fl_9_12 (dc hd_F_isSegment 3 rfl) g_1 rfl ?_
  obtain ⟨g_2, h⟩ := h
  refine AW.getf fl_9_105 (dc hd_F_isSegment 4 rfl) g_2 ?_
  refine AW.iconst (dc hd_F_isSegment 5 rfl) (by decide) ?_
  refine AW.isub (dc hd_F_isSegment 6 rfl) ?_
  refine AW.callS (As := [(0, v1), (0, 0), (0, w32 (C (PT v0.toNat 0).toNat 1 - 1))]) (rest := []) (m_F_isIn l E n C v1 0 (w32 (C (PT v0.toNat 0).toNat 1 - 1)) _ h) cb_9_167 sm_F_isIn (dc hd_F_isSegment 7 rfl) rfl rfl ⟨Nat.le_of_ble_eq_true rfl, Nat.le_of_ble_eq_true rfl⟩ ⟨(Nat.le_of_ble_eq_true rfl), (Nat.le_of_ble_eq_true rfl)⟩ (Nat.le_of_ble_eq_true rfl) (fun _ h => by cases h) (fun _ => rfl) (fun r_3 D_5 d_6 q_4 => ?_)
  obtain ⟨q_4a, q_4b, h⟩ := q_4
  subst D_5
  subst d_6
  show AW p l e _ s m args below meth c E M_F_isSegment true _ n _ _ _ [(2, v0), (0, v1)] [(0, r_3)] C
  obtain ⟨g_7, h⟩ := h
  exact AW.zret (dc hd_F_isSegment 8 rfl) rfl rfl (Nat.le_of_ble_eq_true rfl) (Nat.le_of_ble_eq_true rfl) g_7 ⟨rfl, rfl, h⟩
def P_F_move (n : Nat) (C : Cn) (v0 v1 v2 v3 v4 v5 : Int) (Q : Int → Cn → Prop) : Prop :=
  okO n v0 9 ∧ (P_F_isSegment n C v0 v1 (fun (r_1 : Int) => (r_1 = 0 → (P_F_tell n C v0 0 (fun (r_7 : Int) (C_8 : Cn) => Q r_7 C_8))) ∧ (¬ r_1 = 0 → (P_F_areTwoPoints n C v2 v3 v4 v5 (fun (r_11 : Int) => (r_11 = 0 → (P_F_tell n C v0 0 (fun (r_43 : Int) (C_44 : Cn) => Q r_43 C_44))) ∧ (¬ r_11 = 0 → (okO n (PT v0.toNat 9) 7 ∧ (P_Wa_lay n C (PT v0.toNat 9) v2 v3 v4 v5 (fun (_ : Int) (C_17 : Cn) => okO n (PT v0.toNat 7) 0 ∧ (P_Bl_allows n C_17 (PT v0.toNat 7) (PT v0.toNat 0) v1 (PT v0.toNat 9) 0 (fun (r_21 : Int) (C_23 : Cn) => (r_21 = 0 → (P_F_tell n C_23 v0 4 (fun (r_39 : Int) (C_40 : Cn) => Q r_39 C_40))) ∧ (¬ r_21 = 0 → (okO n (PT v0.toNat 0) 1 ∧ (okO n (PT (PT v0.toNat 0).toNat 0) 16 ∧ (okI (PT (PT v0.toNat 0).toNat 0) v1 ∧ (okO n (PT (PT (PT v0.toNat 0).toNat 0).toNat v1.toNat) 7 ∧ (P_Wa_lay n C_23 (PT (PT (PT v0.toNat 0).toNat 0).toNat v1.toNat) v2 v3 v4 v5 (fun (_ : Int) (C_31 : Cn) => P_F_settle n C_31 v0 (fun (_ : Int) (C_35 : Cn) => Q 1 C_35)))))))))))))))))))
theorem m_F_move (l : Launch) (E : Ev) (n : Nat) (C : Cn) (v0 v1 v2 v3 v4 v5 : Int) (Q : Int → Cn → Prop) (h : P_F_move n C v0 v1 v2 v3 v4 v5 Q) : MA l y_F_move M_F_move E true C n [(2, v0), (0, v1), (0, v2), (0, v3), (0, v4), (0, v5)] (fun r C2 n2 => n2 = n ∧ Q r C2) := by
  refine MA.of (by decide) rfl rfl 0 rfl (fun p e s m args below meth c => ?_)
  show AW p l e _ s m args below meth c E M_F_move true _ n 0 0 0 [(2, v0), (0, v1), (0, v2), (0, v3), (0, v4), (0, v5)] [] C
  unfold P_F_move at h
  refine AW.ra_n (dc hd_F_move 0 rfl) rfl rfl rfl ?_
  refine AW.iload_n (dc hd_F_move 1 rfl) rfl ?_
  obtain ⟨g_2, h⟩ := h
  refine AW.callV (As := [(0, v1)]) (rest := []) (ci := 9) (m_F_isSegment l E n C v0 v1 _ h) cb_9_125 im_F_isSegment se_F_isSegment ⟨_, _, rfl⟩ (by decide) (dc hd_F_move 2 rfl) g_2 rfl rfl ⟨Nat.le_of_ble_eq_true rfl, Nat.le_of_ble_eq_true rfl⟩ ⟨(Nat.le_of_ble_eq_true rfl), (Nat.le_of_ble_eq_true rfl)⟩ (Nat.le_of_ble_eq_true rfl) (fun _ h => by cases h) (fun _ => rfl) (fun r_1 D_4 d_5 q_3 => ?_)
  obtain ⟨q_3a, q_3b, h⟩ := q_3
  subst D_4
  subst d_5
  show AW p l e _ s m args below meth c E M_F_move true _ n _ _ _ [(2, v0), (0, v1), (0, v2), (0, v3), (0, v4), (0, v5)] [(0, r_1)] C
  refine AW.if_eq (t := 20) (dc hd_F_move 3 rfl) (by decide) (fun c_6 => ?_) (fun c_6 => ?_)
  · have h := h.1 c_6
    refine AW.ra_n (dc hd_F_move 10 rfl) rfl rfl rfl ?_
    refine AW.iconst (dc hd_F_move 11 rfl) (by decide) ?_
    refine AW.callV (As := [(0, 0)]) (rest := []) (ci := 9) (m_F_tell l E n C v0 0 _ h) cb_9_101 im_F_tell se_F_tell ⟨_, _, rfl⟩ (by decide) (dc hd_F_move 12 rfl) g_2 rfl rfl ⟨Nat.le_of_ble_eq_true rfl, Nat.le_of_ble_eq_true rfl⟩ ⟨(Nat.le_of_ble_eq_true rfl), (Nat.le_of_ble_eq_true rfl)⟩ (Nat.le_of_ble_eq_true rfl) (fun _ h => by cases h) (fun _ => rfl) (fun r_7 C_8 d_10 q_9 => ?_)
    obtain ⟨q_9a, h⟩ := q_9
    subst d_10
    show AW p l e _ s m args below meth c E M_F_move true _ n _ _ _ [(2, v0), (0, v1), (0, v2), (0, v3), (0, v4), (0, v5)] [(0, r_7)] C_8
    exact AW.iret (dc hd_F_move 13 rfl) rfl rfl (Nat.le_of_ble_eq_true rfl) (Nat.le_of_ble_eq_true rfl) ⟨rfl, h⟩
  · have h := h.2 c_6
    refine AW.iload_n (dc hd_F_move 4 rfl) rfl ?_
    refine AW.iload_n (dc hd_F_move 5 rfl) rfl ?_
    refine AW.iload (dc hd_F_move 6 rfl) rfl ?_
    refine AW.iload (dc hd_F_move 7 rfl) rfl ?_
    refine AW.callS (As := [(0, v2), (0, v3), (0, v4), (0, v5)]) (rest := []) (m_F_areTwoPoints l E n C v2 v3 v4 v5 _ h) cb_9_97 sm_F_areTwoPoints (dc hd_F_move 8 rfl) rfl rfl ⟨Nat.le_of_ble_eq_true rfl, Nat.le_of_ble_eq_true rfl⟩ ⟨(Nat.le_of_ble_eq_true rfl), (Nat.le_of_ble_eq_true rfl)⟩ (Nat.le_of_ble_eq_true rfl) (fun _ h => by cases h) (fun _ => rfl) (fun r_11 D_13 d_14 q_12 => ?_)
    obtain ⟨q_12a, q_12b, h⟩ := q_12
    subst D_13
    subst d_14
    show AW p l e _ s m args below meth c E M_F_move true _ n _ _ _ [(2, v0), (0, v1), (0, v2), (0, v3), (0, v4), (0, v5)] [(0, r_11)] C
    refine AW.if_ne (t := 26) (dc hd_F_move 9 rfl) (by decide) (fun c_15 => ?_) (fun c_15 => ?_)
    · have h := h.2 c_15
      refine AW.ra_n (dc hd_F_move 14 rfl) rfl rfl rfl ?_
      refine AW.getp fl_9_65 (dc hd_F_move 15 rfl) g_2 rfl ?_
      refine AW.iload_n (dc hd_F_move 16 rfl) rfl ?_
      refine AW.iload_n (dc hd_F_move 17 rfl) rfl ?_
      refine AW.iload (dc hd_F_move 18 rfl) rfl ?_
      refine AW.iload (dc hd_F_move 19 rfl) rfl ?_
      obtain ⟨g_16, h⟩ := h
      refine AW.callV (As := [(0, v2), (0, v3), (0, v4), (0, v5)]) (rest := []) (ci := 7) (m_Wa_lay l E n C (PT v0.toNat 9) v2 v3 v4 v5 _ h) cb_9_113 im_Wa_lay se_Wa_lay ⟨_, _, rfl⟩ (by decide) (dc hd_F_move 20 rfl) g_16 rfl rfl ⟨Nat.le_of_ble_eq_true rfl, Nat.le_of_ble_eq_true rfl⟩ ⟨(Nat.le_of_ble_eq_true rfl), (Nat.le_of_ble_eq_true rfl)⟩ (Nat.le_of_ble_eq_true rfl) (fun _ h => by cases h) (fun _ => rfl) (fun u_19 C_17 d_20 q_18 => ?_)
      obtain ⟨q_18a, h⟩ := q_18
      subst d_20
      show AW p l e _ s m args below meth c E M_F_move true _ n _ _ _ [(2, v0), (0, v1), (0, v2), (0, v3), (0, v4), (0, v5)] [] C_17
      refine AW.ra_n (dc hd_F_move 21 rfl) rfl rfl rfl ?_
      refine AW.getp fl_9_51 (dc hd_F_move 22 rfl) g_2 rfl ?_
      refine AW.ra_n (dc hd_F_move 23 rfl) rfl rfl rfl ?_
      refine AW.getp fl_9_12 (dc hd_F_move 24 rfl) g_2 rfl ?_
      refine AW.iload_n (dc hd_F_move 25 rfl) rfl ?_
      refine AW.ra_n (dc hd_F_move 26 rfl) rfl rfl rfl ?_
      refine AW.getp fl_9_65 (dc hd_F_move 27 rfl) g_2 rfl ?_
      refine AW.iconst (dc hd_F_move 28 rfl) (by decide) ?_
      obtain ⟨g_22, h⟩ := h
      refine AW.callV (As := [(2, PT v0.toNat 0), (0, v1), (2, PT v0.toNat 9), (0, 0)]) (rest := []) (ci := 0) (m_Bl_allows l E n C_17 (PT v0.toNat 7) (PT v0.toNat 0) v1 (PT v0.toNat 9) 0 _ h) cb_9_117 im_Bl_allows se_Bl_allows ⟨_, _, rfl⟩ (by decide) (dc hd_F_move 29 rfl) g_22 rfl rfl ⟨Nat.le_of_ble_eq_true rfl, Nat.le_of_ble_eq_true rfl⟩ ⟨(Nat.le_of_ble_eq_true rfl), (Nat.le_of_ble_eq_true rfl)⟩ (Nat.le_of_ble_eq_true rfl) (fun _ h => by cases h) (fun _ => rfl) (fun r_21 C_23 d_25 q_24 => ?_)
      obtain ⟨q_24a, h⟩ := q_24
      subst d_25
      show AW p l e _ s m args below meth c E M_F_move true _ n _ _ _ [(2, v0), (0, v1), (0, v2), (0, v3), (0, v4), (0, v5)] [(0, r_21)] C_23
      refine AW.if_ne (t := 65) (dc hd_F_move 30 rfl) (by decide) (fun c_26 => ?_) (fun c_26 => ?_)
      · have h := h.2 c_26
        refine AW.ra_n (dc hd_F_move 35 rfl) rfl rfl rfl ?_
        refine AW.getp fl_9_12 (dc hd_F_move 36 rfl) g_2 rfl ?_
        obtain ⟨g_27, h⟩ := h
        refine AW.getp fl_9_128 (dc hd_F_move 37 rfl) g_27 rfl ?_
        refine AW.iload_n (dc hd_F_move 38 rfl) rfl ?_
        obtain ⟨g_28, h⟩ := h
        obtain ⟨g_29, h⟩ := h
        refine AW.aaldp (by decide) (dc hd_F_move 39 rfl) g_28 g_29 rfl ?_
        refine AW.iload_n (dc hd_F_move 40 rfl) rfl ?_
        refine AW.iload_n (dc hd_F_move 41 rfl) rfl ?_
        refine AW.iload (dc hd_F_move 42 rfl) rfl ?_
        refine AW.iload (dc hd_F_move 43 rfl) rfl ?_
        obtain ⟨g_30, h⟩ := h
        refine AW.callV (As := [(0, v2), (0, v3), (0, v4), (0, v5)]) (rest := []) (ci := 7) (m_Wa_lay l E n C_23 (PT (PT (PT v0.toNat 0).toNat 0).toNat v1.toNat) v2 v3 v4 v5 _ h) cb_9_113 im_Wa_lay se_Wa_lay ⟨_, _, rfl⟩ (by decide) (dc hd_F_move 44 rfl) g_30 rfl rfl ⟨Nat.le_of_ble_eq_true rfl, Nat.le_of_ble_eq_true rfl⟩ ⟨(Nat.le_of_ble_eq_true rfl), (Nat.le_of_ble_eq_true rfl)⟩ (Nat.le_of_ble_eq_true rfl) (fun _ h => by cases h) (fun _ => rfl) (fun u_33 C_31 d_34 q_32 => ?_)
        obtain ⟨q_32a, h⟩ := q_32
        subst d_34
        show AW p l e _ s m args below meth c E M_F_move true _ n _ _ _ [(2, v0), (0, v1), (0, v2), (0, v3), (0, v4), (0, v5)] [] C_31
        refine AW.ra_n (dc hd_F_move 45 rfl) rfl rfl rfl ?_
        refine AW.callV (As := []) (rest := []) (ci := 9) (m_F_settle l E n C_31 v0 _ h) cb_9_90 im_F_settle se_F_settle ⟨_, _, rfl⟩ (by decide) (dc hd_F_move 46 rfl) g_2 rfl rfl ⟨Nat.le_of_ble_eq_true rfl, Nat.le_of_ble_eq_true rfl⟩ ⟨(Nat.le_of_ble_eq_true rfl), (Nat.le_of_ble_eq_true rfl)⟩ (Nat.le_of_ble_eq_true rfl) (fun _ h => by cases h) (fun _ => rfl) (fun u_37 C_35 d_38 q_36 => ?_)
        obtain ⟨q_36a, h⟩ := q_36
        subst d_38
        show AW p l e _ s m args below meth c E M_F_move true _ n _ _ _ [(2, v0), (0, v1), (0, v2), (0, v3), (0, v4), (0, v5)] [] C_35
        refine AW.iconst (dc hd_F_move 47 rfl) (by decide) ?_
        exact AW.iret (dc hd_F_move 48 rfl) rfl rfl (Nat.le_of_ble_eq_true rfl) (Nat.le_of_ble_eq_true rfl) ⟨rfl, h⟩
      · have h := h.1 c_26
        refine AW.ra_n (dc hd_F_move 31 rfl) rfl rfl rfl ?_
        refine AW.iconst (dc hd_F_move 32 rfl) (by decide) ?_
        refine AW.callV (As := [(0, 4)]) (rest := []) (ci := 9) (m_F_tell l E n C_23 v0 4 _ h) cb_9_101 im_F_tell se_F_tell ⟨_, _, rfl⟩ (by decide) (dc hd_F_move 33 rfl) g_2 rfl rfl ⟨Nat.le_of_ble_eq_true rfl, Nat.le_of_ble_eq_true rfl⟩ ⟨(Nat.le_of_ble_eq_true rfl), (Nat.le_of_ble_eq_true rfl)⟩ (Nat.le_of_ble_eq_true rfl) (fun _ h => by cases h) (fun _ => rfl) (fun r_39 C_40 d_42 q_41 => ?_)
        obtain ⟨q_41a, h⟩ := q_41
        subst d_42
        show AW p l e _ s m args below meth c E M_F_move true _ n _ _ _ [(2, v0), (0, v1), (0, v2), (0, v3), (0, v4), (0, v5)] [(0, r_39)] C_40
        exact AW.iret (dc hd_F_move 34 rfl) rfl rfl (Nat.le_of_ble_eq_true rfl) (Nat.le_of_ble_eq_true rfl) ⟨rfl, h⟩
    · have h := h.1 c_15
      refine AW.ra_n (dc hd_F_move 10 rfl) rfl rfl rfl ?_
      refine AW.iconst (dc hd_F_move 11 rfl) (by decide) ?_
      refine AW.callV (As := [(0, 0)]) (rest := []) (ci := 9) (m_F_tell l E n C v0 0 _ h) cb_9_101 im_F_tell se_F_tell ⟨_, _, rfl⟩ (by decide) (dc hd_F_move 12 rfl) g_2 rfl rfl ⟨Nat.le_of_ble_eq_true rfl, Nat.le_of_ble_eq_true rfl⟩ ⟨(Nat.le_of_ble_eq_true rfl), (Nat.le_of_ble_eq_true rfl)⟩ (Nat.le_of_ble_eq_true rfl) (fun _ h => by cases h) (fun _ => rfl) (fun r_43 C_44 d_46 q_45 => ?_)
      obtain ⟨q_45a, h⟩ := q_45
      subst d_46
      show AW p l e _ s m args below meth c E M_F_move true _ n _ _ _ [(2, v0), (0, v1), (0, v2), (0, v3), (0, v4), (0, v5)] [(0, r_43)] C_44
      exact AW.iret (dc hd_F_move 13 rfl) rfl rfl (Nat.le_of_ble_eq_true rfl) (Nat.le_of_ble_eq_true rfl) ⟨rfl, h⟩
end
