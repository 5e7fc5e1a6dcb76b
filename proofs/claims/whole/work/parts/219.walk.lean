section
variable {p : Program} {l : Launch} {e : Env} {R : Room} {s : State} {m : MethodId} {args : Array Value} {below : List Frame} {meth : Method} {c : Code} {E : Ev}
def J_G_count_86 (n : Nat) (C : Cn) (v0 v3 s0 s1 : Int) (k66 : Int × Int → Prop) (Q : Int → Cn → Prop) : Prop :=
  k66 (w32 (s0 + s1), w32 (v3 + 1))
theorem aJ_G_count_86 (n : Nat) (C : Cn) (v0 v3 s0 s1 : Int) (k66 : Int × Int → Prop) (Q : Int → Cn → Prop) (hk66 : ∀ (z2 : Int) (z3 : Int), k66 (z2, z3) → AW p l e R s m args below meth c E M_G_count true (fun r C2 n2 => n2 = n ∧ Q r C2) n 0 0 66 [(2, v0), (9, 0), (0, z2), (0, z3)] [] C) (h : J_G_count_86 n C v0 v3 s0 s1 k66 Q) : AW p l e R s m args below meth c E M_G_count true (fun r C2 n2 => n2 = n ∧ Q r C2) n 0 0 86 [(2, v0), (9, 0), (9, 0), (0, v3)] [(0, s1), (0, s0)] C := by
  unfold J_G_count_86 at h
  refine AW.iadd (dc hd_G_count 29 rfl) ?_
  refine AW.istore_n [(2, v0), (9, 0), (0, w32 (s0 + s1)), (0, v3)] (dc hd_G_count 30 rfl) (Nat.le_of_ble_eq_true rfl) rfl rfl ?_
  refine AW.iinc [(2, v0), (9, 0), (0, w32 (s0 + s1)), (0, w32 (v3 + 1))] (dc hd_G_count 31 rfl) rfl (Nat.le_of_ble_eq_true rfl) rfl rfl ?_
  refine AW.goto (t := 66) (dc hd_G_count 32 rfl) (by decide) ?_
  exact hk66 (w32 (s0 + s1), w32 (v3 + 1)) h
def B_G_count_66 (n : Nat) (C : Cn) (v0 : Int) (Q : Int → Cn → Prop) (k66 : Int × Int → Prop) (z : Int × Int) : Prop := match z with
  | (v2, v3) => (10 ≤ v3 → (Q v2 C)) ∧ (¬ 10 ≤ v3 → (okO n v0 10 ∧ (P_G_holds n C v0 v3 (fun (r_7 : Int) => J_G_count_86 n C v0 v3 v2 (if r_7 = 0 then 0 else 1) k66 Q))))
theorem aB_G_count_66 (n : Nat) (C : Cn) (v0 : Int) (Q : Int → Cn → Prop) : ∀ (f : Nat) (z : Int × Int), lp (B_G_count_66 n C v0 Q) f z → AW p l e R s m args below meth c E M_G_count true (fun r C2 n2 => n2 = n ∧ Q r C2) n 0 0 66 [(2, v0), (9, 0), (0, z.1), (0, z.2)] [] C := by
  intro f
  induction f with
  | zero => intro z h; exact False.elim h
  | succ f ih =>
    intro z h
    obtain ⟨v2, v3⟩ := z
    have h : B_G_count_66 n C v0 Q (lp (B_G_count_66 n C v0 Q) f) (v2, v3) := h
    unfold B_G_count_66 at h
    dsimp only at h
    have hk66 : ∀ z : Int × Int, lp (B_G_count_66 n C v0 Q) f z → _ := ih
    refine AW.iload_n (dc hd_G_count 18 rfl) rfl ?_
    refine AW.bipush (dc hd_G_count 19 rfl) (by decide) (by decide +kernel) ?_
    refine AW.icmp_ge (t := 94) (dc hd_G_count 20 rfl) (by decide) (fun c_6 => ?_) (fun c_6 => ?_)
    · have h := h.1 c_6
      refine AW.iload_n (dc hd_G_count 33 rfl) rfl ?_
      exact AW.iret (dc hd_G_count 34 rfl) rfl rfl (Nat.le_of_ble_eq_true rfl) (Nat.le_of_ble_eq_true rfl) ⟨rfl, h⟩
    · have h := h.2 c_6
      refine AW.iload_n (dc hd_G_count 21 rfl) rfl ?_
      refine AW.ra_n (dc hd_G_count 22 rfl) rfl rfl rfl ?_
      refine AW.iload_n (dc hd_G_count 23 rfl) rfl ?_
      obtain ⟨g_8, h⟩ := h
      refine AW.callV (As := [(0, v3)]) (rest := [(0, v2)]) (ci := 10) (m_G_holds l E n C v0 v3 _ h) cb_10_501 im_G_holds se_G_holds ⟨_, _, rfl⟩ (by decide) (dc hd_G_count 24 rfl) g_8 rfl rfl ⟨Nat.le_of_ble_eq_true rfl, Nat.le_of_ble_eq_true rfl⟩ ⟨(Nat.le_of_ble_eq_true rfl), (Nat.le_of_ble_eq_true rfl)⟩ (Nat.le_of_ble_eq_true rfl) (fun _ h => by cases h) (fun _ => rfl) (fun r_7 D_10 d_11 q_9 => ?_)
      obtain ⟨q_9a, q_9b, h⟩ := q_9
      subst D_10
      subst d_11
      show AW p l e _ s m args below meth c E M_G_count true _ n _ _ _ [(2, v0), (9, 0), (0, v2), (0, v3)] [(0, r_7), (0, v2)] C
      refine AW.if_eq (t := 85) (dc hd_G_count 25 rfl) (by decide) (fun c_12 => ?_) (fun c_12 => ?_)
      · simp only [if_pos c_12] at h
        refine AW.iconst (dc hd_G_count 28 rfl) (by decide) ?_
        refine AW.fgt [(2, v0), (9, 0), (9, 0), (0, v3)] ⟨.inl rfl, .inl rfl, .inr rfl, .inl rfl, trivial⟩ ?_
        exact aJ_G_count_86 n C _ _ _ _ k66 Q hk66 h
      · simp only [if_neg c_12] at h
        refine AW.iconst (dc hd_G_count 26 rfl) (by decide) ?_
        refine AW.goto (t := 86) (dc hd_G_count 27 rfl) (by decide) ?_
        refine AW.fgt [(2, v0), (9, 0), (9, 0), (0, v3)] ⟨.inl rfl, .inl rfl, .inr rfl, .inl rfl, trivial⟩ ?_
        exact aJ_G_count_86 n C _ _ _ _ k66 Q hk66 h
def P_G_count (n : Nat) (C : Cn) (v0 v1 : Int) (Q : Int → Cn → Prop) : Prop :=
  (v1 = 0 → (okO n v0 10 ∧ (Q (C v0.toNat 0) C))) ∧ (v1 = 1 → (okO n v0 10 ∧ (Q (C v0.toNat 2) C))) ∧ (v1 = 2 → (okO n v0 10 ∧ (Q (C v0.toNat 4) C))) ∧ (v1 = 3 → (okO n v0 10 ∧ (Q (C v0.toNat 35) C))) ∧ (v1 = 4 → (∃ f_13 : Nat, lp (B_G_count_66 n C v0 Q) f_13 (0, 0))) ∧ (v1 = 5 → (okO n v0 10 ∧ (Q (C v0.toNat 38) C))) ∧ (v1 = 6 → (okO n v0 10 ∧ ((C v0.toNat 3 = w32 (C v0.toNat 3) → (Q (w32 (C v0.toNat 3)) C)) ∧ (¬ C v0.toNat 3 = w32 (C v0.toNat 3) → (P_G_finds n C v0 7 (fun (r_17 : Int) (C_18 : Cn) => Q r_17 C_18)))))) ∧ ((v1 < 0 ∨ 6 < v1) → (okO n v0 10 ∧ (P_G_finds n C v0 0 (fun (r_21 : Int) (C_23 : Cn) => Q r_21 C_23))))
theorem m_G_count (l : Launch) (E : Ev) (n : Nat) (C : Cn) (v0 v1 : Int) (Q : Int → Cn → Prop) (h : P_G_count n C v0 v1 Q) : MA l y_G_count M_G_count E true C n [(2, v0), (0, v1)] (fun r C2 n2 => n2 = n ∧ Q r C2) := by
  refine MA.of (by decide) rfl rfl 2 rfl (fun p e s m args below meth c => ?_)
  show AW p l e _ s m args below meth c E M_G_count true _ n 0 0 0 [(2, v0), (0, v1), (9, 0), (9, 0)] [] C
  unfold P_G_count at h
  refine AW.iconst (dc hd_G_count 0 rfl) (by decide) ?_
  refine AW.istore_n [(2, v0), (0, v1), (0, 0), (9, 0)] (dc hd_G_count 1 rfl) (Nat.le_of_ble_eq_true rfl) rfl rfl ?_
  refine AW.iload_n (dc hd_G_count 2 rfl) rfl ?_
  refine AW.tsw (dc hd_G_count 3 rfl) [44, 49, 54, 59, 64, 96, 101] (by decide +kernel) (by decide) (by decide) (fun j t hj hx => ?_) (fun q_1 => ?_)
  · match j, hj with
    | 0, hj =>
      cases hj
      have h := h.1 (by rw [hx]; decide)
      refine AW.ra_n (dc hd_G_count 4 rfl) rfl rfl rfl ?_
      obtain ⟨g_2, h⟩ := h
      refine AW.getf fl_10_117 (dc hd_G_count 5 rfl) g_2 ?_
      exact AW.iret (dc hd_G_count 6 rfl) rfl rfl (Nat.le_of_ble_eq_true rfl) (Nat.le_of_ble_eq_true rfl) ⟨rfl, h⟩
    | 1, hj =>
      cases hj
      have h := h.2.1 (by rw [hx]; decide)
      refine AW.ra_n (dc hd_G_count 7 rfl) rfl rfl rfl ?_
      obtain ⟨g_3, h⟩ := h
      refine AW.getf fl_10_158 (dc hd_G_count 8 rfl) g_3 ?_
      exact AW.iret (dc hd_G_count 9 rfl) rfl rfl (Nat.le_of_ble_eq_true rfl) (Nat.le_of_ble_eq_true rfl) ⟨rfl, h⟩
    | 2, hj =>
      cases hj
      have h := h.2.2.1 (by rw [hx]; decide)
      refine AW.ra_n (dc hd_G_count 10 rfl) rfl rfl rfl ?_
      obtain ⟨g_4, h⟩ := h
      refine AW.getf fl_10_14 (dc hd_G_count 11 rfl) g_4 ?_
      exact AW.iret (dc hd_G_count 12 rfl) rfl rfl (Nat.le_of_ble_eq_true rfl) (Nat.le_of_ble_eq_true rfl) ⟨rfl, h⟩
    | 3, hj =>
      cases hj
      have h := h.2.2.2.1 (by rw [hx]; decide)
      refine AW.ra_n (dc hd_G_count 13 rfl) rfl rfl rfl ?_
      obtain ⟨g_5, h⟩ := h
      refine AW.getf fl_10_403 (dc hd_G_count 14 rfl) g_5 ?_
      exact AW.iret (dc hd_G_count 15 rfl) rfl rfl (Nat.le_of_ble_eq_true rfl) (Nat.le_of_ble_eq_true rfl) ⟨rfl, h⟩
    | 4, hj =>
      cases hj
      have h := h.2.2.2.2.1 (by rw [hx]; decide)
      refine AW.iconst (dc hd_G_count 16 rfl) (by decide) ?_
      refine AW.istore_n [(2, v0), (0, v1), (0, 0), (0, 0)] (dc hd_G_count 17 rfl) (Nat.le_of_ble_eq_true rfl) rfl rfl ?_
      obtain ⟨f_13, h⟩ := h
      refine AW.fgt [(2, v0), (9, 0), (0, 0), (0, 0)] ⟨.inl rfl, .inr rfl, .inl rfl, .inl rfl, trivial⟩ ?_
      exact aB_G_count_66 n C v0 Q f_13 (0, 0) h
    | 5, hj =>
      cases hj
      have h := h.2.2.2.2.2.1 (by rw [hx]; decide)
      refine AW.ra_n (dc hd_G_count 35 rfl) rfl rfl rfl ?_
      obtain ⟨g_14, h⟩ := h
      refine AW.getf fl_10_412 (dc hd_G_count 36 rfl) g_14 ?_
      exact AW.iret (dc hd_G_count 37 rfl) rfl rfl (Nat.le_of_ble_eq_true rfl) (Nat.le_of_ble_eq_true rfl) ⟨rfl, h⟩
    | 6, hj =>
      cases hj
      have h := h.2.2.2.2.2.2.1 (by rw [hx]; decide)
      refine AW.ra_n (dc hd_G_count 38 rfl) rfl rfl rfl ?_
      obtain ⟨g_15, h⟩ := h
      refine AW.getf fl_10_379 (dc hd_G_count 39 rfl) g_15 ?_
      refine AW.ra_n (dc hd_G_count 40 rfl) rfl rfl rfl ?_
      refine AW.getf fl_10_379 (dc hd_G_count 41 rfl) g_15 ?_
      refine AW.l2i (dc hd_G_count 42 rfl) ?_
      refine AW.i2l (dc hd_G_count 43 rfl) ?_
      refine AW.lc (dc hd_G_count 44 rfl) ?_
      refine AW.if_ne (t := 123) (dc hd_G_count 45 rfl) (by decide) (fun c_16 => ?_) (fun c_16 => ?_)
      · replace c_16 : ¬ C v0.toNat 3 = w32 (C v0.toNat 3) := fun q => c_16 ((lc_eq _ _).mpr q)
        have h := h.2 c_16
        refine AW.ra_n (dc hd_G_count 50 rfl) rfl rfl rfl ?_
        refine AW.bipush (dc hd_G_count 51 rfl) (by decide) (by decide +kernel) ?_
        refine AW.callV (As := [(0, 7)]) (rest := []) (ci := 10) (m_G_finds l E n C v0 7 _ h) cb_10_186 im_G_finds se_G_finds ⟨_, _, rfl⟩ (by decide) (dc hd_G_count 52 rfl) g_15 rfl rfl ⟨Nat.le_of_ble_eq_true rfl, Nat.le_of_ble_eq_true rfl⟩ ⟨(Nat.le_of_ble_eq_true rfl), (Nat.le_of_ble_eq_true rfl)⟩ (Nat.le_of_ble_eq_true rfl) (fun _ h => by cases h) (fun _ => rfl) (fun r_17 C_18 d_20 q_19 => ?_)
        obtain ⟨q_19a, h⟩ := q_19
        subst d_20
        show AW p l e _ s m args below meth c E M_G_count true _ n _ _ _ [(2, v0), (0, v1), (0, 0), (9, 0)] [(0, r_17)] C_18
        exact AW.iret (dc hd_G_count 53 rfl) rfl rfl (Nat.le_of_ble_eq_true rfl) (Nat.le_of_ble_eq_true rfl) ⟨rfl, h⟩
      · replace c_16 := (lc_eq _ _).mp c_16
        have h := h.1 c_16
        refine AW.ra_n (dc hd_G_count 46 rfl) rfl rfl rfl ?_
        refine AW.getf fl_10_379 (dc hd_G_count 47 rfl) g_15 ?_
        refine AW.l2i (dc hd_G_count 48 rfl) ?_
        refine AW.goto (t := 129) (dc hd_G_count 49 rfl) (by decide) ?_
        exact AW.iret (dc hd_G_count 53 rfl) rfl rfl (Nat.le_of_ble_eq_true rfl) (Nat.le_of_ble_eq_true rfl) ⟨rfl, h⟩
    | j + 7, hj => exact absurd hj (by simp)
  · have h := h.2.2.2.2.2.2.2 q_1
    refine AW.ra_n (dc hd_G_count 54 rfl) rfl rfl rfl ?_
    refine AW.iconst (dc hd_G_count 55 rfl) (by decide) ?_
    obtain ⟨g_22, h⟩ := h
    refine AW.callV (As := [(0, 0)]) (rest := []) (ci := 10) (m_G_finds l E n C v0 0 _ h) cb_10_186 im_G_finds se_G_finds ⟨_, _, rfl⟩ (by decide) (dc hd_G_count 56 rfl) g_22 rfl rfl ⟨Nat.le_of_ble_eq_true rfl, Nat.le_of_ble_eq_true rfl⟩ ⟨(Nat.le_of_ble_eq_true rfl), (Nat.le_of_ble_eq_true rfl)⟩ (Nat.le_of_ble_eq_true rfl) (fun _ h => by cases h) (fun _ => rfl) (fun r_21 C_23 d_25 q_24 => ?_)
    obtain ⟨q_24a, h⟩ := q_24
    subst d_25
    show AW p l e _ s m args below meth c E M_G_count true _ n _ _ _ [(2, v0), (0, v1), (0, 0), (9, 0)] [(0, r_21)] C_23
    exact AW.iret (dc hd_G_count 57 rfl) rfl rfl (Nat.le_of_ble_eq_true rfl) (Nat.le_of_ble_eq_true rfl) ⟨rfl, h⟩
def J_G_status_40 (n : Nat) (C : Cn) (v0 v1 v3 s0 : Int) (k24 : Int × Int → Prop) (Q : Int → Cn → Prop) : Prop :=
  okO n v0 10 ∧ (okO n (PT v0.toNat 5) 12 ∧ (okI (PT v0.toNat 5) v3 ∧ (∀ v2_11 : Int, v2_11 = w32 (s0 + C (PT v0.toNat 5).toNat v3.toNat) → (k24 (v2_11, w32 (v3 + 1))))))
theorem aJ_G_status_40 (n : Nat) (C : Cn) (v0 v1 v3 s0 : Int) (k24 : Int × Int → Prop) (Q : Int → Cn → Prop) (hk24 : ∀ (z2 : Int) (z3 : Int), k24 (z2, z3) → AW p l e R s m args below meth c E M_G_status true (fun r C2 n2 => n2 = n ∧ Q r C2) n 0 0 24 [(2, v0), (0, v1), (0, z2), (0, z3)] [] C) (h : J_G_status_40 n C v0 v1 v3 s0 k24 Q) : AW p l e R s m args below meth c E M_G_status true (fun r C2 n2 => n2 = n ∧ Q r C2) n 0 0 40 [(2, v0), (0, v1), (9, 0), (0, v3)] [(0, s0)] C := by
  unfold J_G_status_40 at h
  refine AW.ra_n (dc hd_G_status 23 rfl) rfl rfl rfl ?_
  obtain ⟨g_8, h⟩ := h
  refine AW.getp fl_10_18 (dc hd_G_status 24 rfl) g_8 rfl ?_
  refine AW.iload_n (dc hd_G_status 25 rfl) rfl ?_
  obtain ⟨g_9, h⟩ := h
  obtain ⟨g_10, h⟩ := h
  refine AW.iald (dc hd_G_status 26 rfl) g_9 g_10 ?_
  refine AW.goto (t := 50) (dc hd_G_status 27 rfl) (by decide) ?_
  refine AW.iadd (dc hd_G_status 29 rfl) ?_
  refine AW.nm (fun v2_11 ev2_11 => ?_)
  have h := h v2_11 ev2_11
  refine AW.istore_n [(2, v0), (0, v1), (0, v2_11), (0, v3)] (dc hd_G_status 30 rfl) (Nat.le_of_ble_eq_true rfl) rfl rfl ?_
  refine AW.iinc [(2, v0), (0, v1), (0, v2_11), (0, w32 (v3 + 1))] (dc hd_G_status 31 rfl) rfl (Nat.le_of_ble_eq_true rfl) rfl rfl ?_
  refine AW.goto (t := 24) (dc hd_G_status 32 rfl) (by decide) ?_
  exact hk24 (v2_11, w32 (v3 + 1)) h
def B_G_status_24 (n : Nat) (C : Cn) (v0 v1 : Int) (Q : Int → Cn → Prop) (k24 : Int × Int → Prop) (z : Int × Int) : Prop := match z with
  | (v2, v3) => (8 ≤ v3 → (Q v2 C)) ∧ (¬ 8 ≤ v3 → ((v1 < 0 → (J_G_status_40 n C v0 v1 v3 v2 k24 Q)) ∧ (¬ v1 < 0 → ((v1 = v3 → (J_G_status_40 n C v0 v1 v3 v2 k24 Q)) ∧ (¬ v1 = v3 → (k24 (w32 (v2 + 0), w32 (v3 + 1))))))))
theorem aB_G_status_24 (n : Nat) (C : Cn) (v0 v1 : Int) (Q : Int → Cn → Prop) : ∀ (f : Nat) (z : Int × Int), lp (B_G_status_24 n C v0 v1 Q) f z → AW p l e R s m args below meth c E M_G_status true (fun r C2 n2 => n2 = n ∧ Q r C2) n 0 0 24 [(2, v0), (0, v1), (0, z.1), (0, z.2)] [] C := by
  intro f
  induction f with
  | zero => intro z h; exact False.elim h
  | succ f ih =>
    intro z h
    obtain ⟨v2, v3⟩ := z
    have h : B_G_status_24 n C v0 v1 Q (lp (B_G_status_24 n C v0 v1 Q) f) (v2, v3) := h
    unfold B_G_status_24 at h
    dsimp only at h
    have hk24 : ∀ z : Int × Int, lp (B_G_status_24 n C v0 v1 Q) f z → _ := ih
    refine AW.iload_n (dc hd_G_status 14 rfl) rfl ?_
    refine AW.bipush (dc hd_G_status 15 rfl) (by decide) (by decide +kernel) ?_
    refine AW.icmp_ge (t := 58) (dc hd_G_status 16 rfl) (by decide) (fun c_6 => ?_) (fun c_6 => ?_)
    · have h := h.1 c_6
      refine AW.iload_n (dc hd_G_status 33 rfl) rfl ?_
      exact AW.iret (dc hd_G_status 34 rfl) rfl rfl (Nat.le_of_ble_eq_true rfl) (Nat.le_of_ble_eq_true rfl) ⟨rfl, h⟩
    · have h := h.2 c_6
      refine AW.iload_n (dc hd_G_status 17 rfl) rfl ?_
      refine AW.iload_n (dc hd_G_status 18 rfl) rfl ?_
      refine AW.if_lt (t := 40) (dc hd_G_status 19 rfl) (by decide) (fun c_7 => ?_) (fun c_7 => ?_)
      · have h := h.1 c_7
        refine AW.fgt [(2, v0), (0, v1), (9, 0), (0, v3)] ⟨.inl rfl, .inl rfl, .inr rfl, .inl rfl, trivial⟩ ?_
        exact aJ_G_status_40 n C v0 v1 v3 v2 k24 Q hk24 h
      · have h := h.2 c_7
        refine AW.iload_n (dc hd_G_status 20 rfl) rfl ?_
        refine AW.iload_n (dc hd_G_status 21 rfl) rfl ?_
        refine AW.icmp_ne (t := 49) (dc hd_G_status 22 rfl) (by decide) (fun c_12 => ?_) (fun c_12 => ?_)
        · have h := h.2 c_12
          refine AW.iconst (dc hd_G_status 28 rfl) (by decide) ?_
          refine AW.iadd (dc hd_G_status 29 rfl) ?_
          refine AW.istore_n [(2, v0), (0, v1), (0, w32 (v2 + 0)), (0, v3)] (dc hd_G_status 30 rfl) (Nat.le_of_ble_eq_true rfl) rfl rfl ?_
          refine AW.iinc [(2, v0), (0, v1), (0, w32 (v2 + 0)), (0, w32 (v3 + 1))] (dc hd_G_status 31 rfl) rfl (Nat.le_of_ble_eq_true rfl) rfl rfl ?_
          refine AW.goto (t := 24) (dc hd_G_status 32 rfl) (by decide) ?_
          exact hk24 (w32 (v2 + 0), w32 (v3 + 1)) h
        · have h := h.1 c_12
          refine AW.fgt [(2, v0), (0, v1), (9, 0), (0, v3)] ⟨.inl rfl, .inl rfl, .inr rfl, .inl rfl, trivial⟩ ?_
          exact aJ_G_status_40 n C v0 v1 v3 v2 k24 Q hk24 h
def P_G_status (n : Nat) (C : Cn) (v0 v1 : Int) (Q : Int → Cn → Prop) : Prop :=
  P_G_in n C v1 (-1) 7 (fun (r_1 : Int) => (r_1 = 0 → (okO n v0 10 ∧ (P_G_finds n C v0 0 (fun (r_14 : Int) (C_16 : Cn) => Q r_14 C_16)))) ∧ (¬ r_1 = 0 → (∃ f_13 : Nat, lp (B_G_status_24 n C v0 v1 Q) f_13 (0, 0))))
theorem m_G_status (l : Launch) (E : Ev) (n : Nat) (C : Cn) (v0 v1 : Int) (Q : Int → Cn → Prop) (h : P_G_status n C v0 v1 Q) : MA l y_G_status M_G_status E true C n [(2, v0), (0, v1)] (fun r C2 n2 => n2 = n ∧ Q r C2) := by
  refine MA.of (by decide) rfl rfl 2 rfl (fun p e s m args below meth c => ?_)
  show AW p l e _ s m args below meth c E M_G_status true _ n 0 0 0 [(2, v0), (0, v1), (9, 0), (9, 0)] [] C
  unfold P_G_status at h
  refine AW.iload_n (dc hd_G_status 0 rfl) rfl ?_
  refine AW.i2l (dc hd_G_status 1 rfl) ?_
  refine AW.ldc2 (v := -1) (dc hd_G_status 2 rfl) ck_10_390 (by decide) rfl ?_
  refine AW.ldc2 (v := 7) (dc hd_G_status 3 rfl) ck_10_499 (by decide) rfl ?_
  refine AW.callS (As := [(1, v1), (1, (-1)), (1, 7)]) (rest := []) (m_G_in l E n C v1 (-1) 7 _ h) cb_10_113 sm_G_in (dc hd_G_status 4 rfl) rfl rfl ⟨Nat.le_of_ble_eq_true rfl, Nat.le_of_ble_eq_true rfl⟩ ⟨(Nat.le_of_ble_eq_true rfl), (Nat.le_of_ble_eq_true rfl)⟩ (Nat.le_of_ble_eq_true rfl) (fun _ h => by cases h) (fun _ => rfl) (fun r_1 D_3 d_4 q_2 => ?_)
  obtain ⟨q_2a, q_2b, h⟩ := q_2
  subst D_3
  subst d_4
  show AW p l e _ s m args below meth c E M_G_status true _ n _ _ _ [(2, v0), (0, v1), (9, 0), (9, 0)] [(0, r_1)] C
  refine AW.if_ne (t := 20) (dc hd_G_status 5 rfl) (by decide) (fun c_5 => ?_) (fun c_5 => ?_)
  · have h := h.2 c_5
    refine AW.iconst (dc hd_G_status 10 rfl) (by decide) ?_
    refine AW.istore_n [(2, v0), (0, v1), (0, 0), (9, 0)] (dc hd_G_status 11 rfl) (Nat.le_of_ble_eq_true rfl) rfl rfl ?_
    refine AW.iconst (dc hd_G_status 12 rfl) (by decide) ?_
    refine AW.istore_n [(2, v0), (0, v1), (0, 0), (0, 0)] (dc hd_G_status 13 rfl) (Nat.le_of_ble_eq_true rfl) rfl rfl ?_
    obtain ⟨f_13, h⟩ := h
    exact aB_G_status_24 n C v0 v1 Q f_13 (0, 0) h
  · have h := h.1 c_5
    refine AW.ra_n (dc hd_G_status 6 rfl) rfl rfl rfl ?_
    refine AW.iconst (dc hd_G_status 7 rfl) (by decide) ?_
    obtain ⟨g_15, h⟩ := h
    refine AW.callV (As := [(0, 0)]) (rest := []) (ci := 10) (m_G_finds l E n C v0 0 _ h) cb_10_186 im_G_finds se_G_finds ⟨_, _, rfl⟩ (by decide) (dc hd_G_status 8 rfl) g_15 rfl rfl ⟨Nat.le_of_ble_eq_true rfl, Nat.le_of_ble_eq_true rfl⟩ ⟨(Nat.le_of_ble_eq_true rfl), (Nat.le_of_ble_eq_true rfl)⟩ (Nat.le_of_ble_eq_true rfl) (fun _ h => by cases h) (fun _ => rfl) (fun r_14 C_16 d_18 q_17 => ?_)
    obtain ⟨q_17a, h⟩ := q_17
    subst d_18
    show AW p l e _ s m args below meth c E M_G_status true _ n _ _ _ [(2, v0), (0, v1), (9, 0), (9, 0)] [(0, r_14)] C_16
    exact AW.iret (dc hd_G_status 9 rfl) rfl rfl (Nat.le_of_ble_eq_true rfl) (Nat.le_of_ble_eq_true rfl) ⟨rfl, h⟩
end
