section
variable {p : Program} {l : Launch} {e : Env} {R : Room} {s : State} {m : MethodId} {args : Array Value} {below : List Frame} {meth : Method} {c : Code} {E : Ev}
def J_G_kindFor_128 (n : Nat) (C : Cn) (v0 v1 v6 v7 : Int) (Q : Int → Cn → Prop) : Prop :=
  okO n v0 10 ∧ (okO n (PT v0.toNat 1) 17 ∧ (okI (PT v0.toNat 1) v1 ∧ (okO n (PT (PT v0.toNat 1).toNat v1.toNat) 12 ∧ (okI (PT (PT v0.toNat 1).toNat v1.toNat) 0 ∧ (∀ C_41 : Cn, C_41 = wr C (PT (PT v0.toNat 1).toNat v1.toNat).toNat 0 v6 → (Q v7 C_41))))))
theorem aJ_G_kindFor_128 (n : Nat) (C : Cn) (v0 v1 v6 v7 : Int) (Q : Int → Cn → Prop) (h : J_G_kindFor_128 n C v0 v1 v6 v7 Q) : AW p l e R s m args below meth c E M_G_kindFor true (fun r C2 n2 => n2 = n ∧ Q r C2) n 0 0 128 [(2, v0), (0, v1), (9, 0), (9, 0), (9, 0), (9, 0), (0, v6), (0, v7), (9, 0), (9, 0), (9, 0)] [] C := by
  unfold J_G_kindFor_128 at h
  refine AW.ra_n (dc hd_G_kindFor 69 rfl) rfl rfl rfl ?_
  obtain ⟨g_36, h⟩ := h
  refine AW.getp fl_10_11 (dc hd_G_kindFor 70 rfl) g_36 rfl ?_
  refine AW.iload_n (dc hd_G_kindFor 71 rfl) rfl ?_
  obtain ⟨g_37, h⟩ := h
  obtain ⟨g_38, h⟩ := h
  refine AW.aaldp (by decide) (dc hd_G_kindFor 72 rfl) g_37 g_38 rfl ?_
  refine AW.iconst (dc hd_G_kindFor 73 rfl) (by decide) ?_
  refine AW.iload (dc hd_G_kindFor 74 rfl) rfl ?_
  obtain ⟨g_39, h⟩ := h
  obtain ⟨g_40, h⟩ := h
  refine AW.niast (dc hd_G_kindFor 75 rfl) g_39 g_40 (fun C_41 eC_41 => ?_)
  have h := h C_41 eC_41
  refine AW.iload (dc hd_G_kindFor 76 rfl) rfl ?_
  exact AW.iret (dc hd_G_kindFor 77 rfl) rfl rfl (Nat.le_of_ble_eq_true rfl) (Nat.le_of_ble_eq_true rfl) ⟨rfl, h⟩
def B_G_kindFor_70 (n : Nat) (v0 v1 v2 v3 v4 v5 v6 : Int) (Q : Int → Cn → Prop) (kz70 : Cn × Int × Int × Int → Prop) (z : Cn × Int × Int × Int) : Prop := match z with
  | (C, v7, v8, v9) => (6 ≤ v9 → (J_G_kindFor_128 n C v0 v1 v6 v7 Q)) ∧ (¬ 6 ≤ v9 → (okO n v0 10 ∧ (okO n (PT v0.toNat 1) 17 ∧ (okI (PT v0.toNat 1) v1 ∧ (okO n (PT (PT v0.toNat 1).toNat v1.toNat) 12 ∧ (okI (PT (PT v0.toNat 1).toNat v1.toNat) 0 ∧ (∀ C_47 : Cn, C_47 = wr C (PT (PT v0.toNat 1).toNat v1.toNat).toNat 0 v9 → (P_G_costBetween n C_47 v0 v2 v3 v4 v5 (fun (r_48 : Int) (C_49 : Cn) => (v7 < 0 → (kz70 (C_49, v9, r_48, w32 (v9 + 1)))) ∧ (¬ v7 < 0 → ((r_48 < v8 → (kz70 (C_49, v9, r_48, w32 (v9 + 1)))) ∧ (¬ r_48 < v8 → (kz70 (C_49, v7, v8, w32 (v9 + 1)))))))))))))))
theorem bB_G_kindFor_70 (n : Nat) (v0 v1 v2 v3 v4 v5 v6 : Int) (Q : Int → Cn → Prop) (kz70 : Cn × Int × Int × Int → Prop) (hkz70 : ∀ (Cz : Cn) (z7 : Int) (z8 : Int) (z9 : Int), kz70 (Cz, z7, z8, z9) → AW p l e R s m args below meth c E M_G_kindFor true (fun r C2 n2 => n2 = n ∧ Q r C2) n 0 0 70 [(2, v0), (0, v1), (0, v2), (0, v3), (0, v4), (0, v5), (0, v6), (0, z7), (0, z8), (0, z9), (9, 0)] [] Cz) (C : Cn) (v7 : Int) (v8 : Int) (v9 : Int) (h : B_G_kindFor_70 n v0 v1 v2 v3 v4 v5 v6 Q kz70 (C, v7, v8, v9)) : AW p l e R s m args below meth c E M_G_kindFor true (fun r C2 n2 => n2 = n ∧ Q r C2) n 0 0 70 [(2, v0), (0, v1), (0, v2), (0, v3), (0, v4), (0, v5), (0, v6), (0, v7), (0, v8), (0, v9), (9, 0)] [] C := by
  unfold B_G_kindFor_70 at h
  dsimp only at h
  refine AW.iload (dc hd_G_kindFor 40 rfl) rfl ?_
  refine AW.bipush (dc hd_G_kindFor 41 rfl) (by decide) (by decide +kernel) ?_
  refine AW.icmp_ge (t := 128) (dc hd_G_kindFor 42 rfl) (by decide) (fun c_35 => ?_) (fun c_35 => ?_)
  · have h := h.1 c_35
    refine AW.fgt [(2, v0), (0, v1), (9, 0), (9, 0), (9, 0), (9, 0), (0, v6), (0, v7), (9, 0), (9, 0), (9, 0)] ⟨.inl rfl, .inl rfl, .inr rfl, .inr rfl, .inr rfl, .inr rfl, .inl rfl, .inl rfl, .inr rfl, .inr rfl, .inl rfl, trivial⟩ ?_
    exact aJ_G_kindFor_128 n C v0 v1 v6 v7 Q h
  · have h := h.2 c_35
    refine AW.ra_n (dc hd_G_kindFor 43 rfl) rfl rfl rfl ?_
    obtain ⟨g_42, h⟩ := h
    refine AW.getp fl_10_11 (dc hd_G_kindFor 44 rfl) g_42 rfl ?_
    refine AW.iload_n (dc hd_G_kindFor 45 rfl) rfl ?_
    obtain ⟨g_43, h⟩ := h
    obtain ⟨g_44, h⟩ := h
    refine AW.aaldp (by decide) (dc hd_G_kindFor 46 rfl) g_43 g_44 rfl ?_
    refine AW.iconst (dc hd_G_kindFor 47 rfl) (by decide) ?_
    refine AW.iload (dc hd_G_kindFor 48 rfl) rfl ?_
    obtain ⟨g_45, h⟩ := h
    obtain ⟨g_46, h⟩ := h
    refine AW.niast (dc hd_G_kindFor 49 rfl) g_45 g_46 (fun C_47 eC_47 => ?_)
    have h := h C_47 eC_47
    refine AW.ra_n (dc hd_G_kindFor 50 rfl) rfl rfl rfl ?_
    refine AW.iload_n (dc hd_G_kindFor 51 rfl) rfl ?_
    refine AW.iload_n (dc hd_G_kindFor 52 rfl) rfl ?_
    refine AW.iload (dc hd_G_kindFor 53 rfl) rfl ?_
    refine AW.iload (dc hd_G_kindFor 54 rfl) rfl ?_
    refine AW.callV (As := [(0, v2), (0, v3), (0, v4), (0, v5)]) (rest := []) (ci := 10) (m_G_costBetween l E n C_47 v0 v2 v3 v4 v5 _ h) cb_10_363 im_G_costBetween se_G_costBetween ⟨_, _, rfl⟩ (by decide) (dc hd_G_kindFor 55 rfl) g_42 rfl rfl ⟨Nat.le_of_ble_eq_true rfl, Nat.le_of_ble_eq_true rfl⟩ ⟨(Nat.le_of_ble_eq_true rfl), (Nat.le_of_ble_eq_true rfl)⟩ (Nat.le_of_ble_eq_true rfl) (fun _ h => by cases h) (fun _ => rfl) (fun r_48 C_49 d_51 q_50 => ?_)
    obtain ⟨q_50a, h⟩ := q_50
    subst d_51
    show AW p l e _ s m args below meth c E M_G_kindFor true _ n _ _ _ [(2, v0), (0, v1), (0, v2), (0, v3), (0, v4), (0, v5), (0, v6), (0, v7), (0, v8), (0, v9), (9, 0)] [(0, r_48)] C_49
    refine AW.istore [(2, v0), (0, v1), (0, v2), (0, v3), (0, v4), (0, v5), (0, v6), (0, v7), (0, v8), (0, v9), (0, r_48)] (dc hd_G_kindFor 56 rfl) (Nat.le_of_ble_eq_true rfl) rfl rfl ?_
    refine AW.iload (dc hd_G_kindFor 57 rfl) rfl ?_
    refine AW.if_lt (t := 114) (dc hd_G_kindFor 58 rfl) (by decide) (fun c_52 => ?_) (fun c_52 => ?_)
    · have h := h.1 c_52
      refine AW.iload (dc hd_G_kindFor 63 rfl) rfl ?_
      refine AW.istore [(2, v0), (0, v1), (0, v2), (0, v3), (0, v4), (0, v5), (0, v6), (0, v9), (0, v8), (0, v9), (0, r_48)] (dc hd_G_kindFor 64 rfl) (Nat.le_of_ble_eq_true rfl) rfl rfl ?_
      refine AW.iload (dc hd_G_kindFor 65 rfl) rfl ?_
      refine AW.istore [(2, v0), (0, v1), (0, v2), (0, v3), (0, v4), (0, v5), (0, v6), (0, v9), (0, r_48), (0, v9), (0, r_48)] (dc hd_G_kindFor 66 rfl) (Nat.le_of_ble_eq_true rfl) rfl rfl ?_
      refine AW.iinc [(2, v0), (0, v1), (0, v2), (0, v3), (0, v4), (0, v5), (0, v6), (0, v9), (0, r_48), (0, w32 (v9 + 1)), (0, r_48)] (dc hd_G_kindFor 67 rfl) rfl (Nat.le_of_ble_eq_true rfl) rfl rfl ?_
      refine AW.goto (t := 70) (dc hd_G_kindFor 68 rfl) (by decide) ?_
      refine AW.fgt [(2, v0), (0, v1), (0, v2), (0, v3), (0, v4), (0, v5), (0, v6), (0, v9), (0, r_48), (0, w32 (v9 + 1)), (9, 0)] ⟨.inl rfl, .inl rfl, .inl rfl, .inl rfl, .inl rfl, .inl rfl, .inl rfl, .inl rfl, .inl rfl, .inl rfl, .inr rfl, trivial⟩ ?_
      exact hkz70 C_49 v9 r_48 (w32 (v9 + 1)) h
    · have h := h.2 c_52
      refine AW.iload (dc hd_G_kindFor 59 rfl) rfl ?_
      refine AW.iload (dc hd_G_kindFor 60 rfl) rfl ?_
      refine AW.icmp_lt (t := 114) (dc hd_G_kindFor 61 rfl) (by decide) (fun c_53 => ?_) (fun c_53 => ?_)
      · have h := h.1 c_53
        refine AW.iload (dc hd_G_kindFor 63 rfl) rfl ?_
        refine AW.istore [(2, v0), (0, v1), (0, v2), (0, v3), (0, v4), (0, v5), (0, v6), (0, v9), (0, v8), (0, v9), (0, r_48)] (dc hd_G_kindFor 64 rfl) (Nat.le_of_ble_eq_true rfl) rfl rfl ?_
        refine AW.iload (dc hd_G_kindFor 65 rfl) rfl ?_
        refine AW.istore [(2, v0), (0, v1), (0, v2), (0, v3), (0, v4), (0, v5), (0, v6), (0, v9), (0, r_48), (0, v9), (0, r_48)] (dc hd_G_kindFor 66 rfl) (Nat.le_of_ble_eq_true rfl) rfl rfl ?_
        refine AW.iinc [(2, v0), (0, v1), (0, v2), (0, v3), (0, v4), (0, v5), (0, v6), (0, v9), (0, r_48), (0, w32 (v9 + 1)), (0, r_48)] (dc hd_G_kindFor 67 rfl) rfl (Nat.le_of_ble_eq_true rfl) rfl rfl ?_
        refine AW.goto (t := 70) (dc hd_G_kindFor 68 rfl) (by decide) ?_
        refine AW.fgt [(2, v0), (0, v1), (0, v2), (0, v3), (0, v4), (0, v5), (0, v6), (0, v9), (0, r_48), (0, w32 (v9 + 1)), (9, 0)] ⟨.inl rfl, .inl rfl, .inl rfl, .inl rfl, .inl rfl, .inl rfl, .inl rfl, .inl rfl, .inl rfl, .inl rfl, .inr rfl, trivial⟩ ?_
        exact hkz70 C_49 v9 r_48 (w32 (v9 + 1)) h
      · have h := h.2 c_53
        refine AW.goto (t := 122) (dc hd_G_kindFor 62 rfl) (by decide) ?_
        refine AW.iinc [(2, v0), (0, v1), (0, v2), (0, v3), (0, v4), (0, v5), (0, v6), (0, v7), (0, v8), (0, w32 (v9 + 1)), (0, r_48)] (dc hd_G_kindFor 67 rfl) rfl (Nat.le_of_ble_eq_true rfl) rfl rfl ?_
        refine AW.goto (t := 70) (dc hd_G_kindFor 68 rfl) (by decide) ?_
        refine AW.fgt [(2, v0), (0, v1), (0, v2), (0, v3), (0, v4), (0, v5), (0, v6), (0, v7), (0, v8), (0, w32 (v9 + 1)), (9, 0)] ⟨.inl rfl, .inl rfl, .inl rfl, .inl rfl, .inl rfl, .inl rfl, .inl rfl, .inl rfl, .inl rfl, .inl rfl, .inr rfl, trivial⟩ ?_
        exact hkz70 C_49 v7 v8 (w32 (v9 + 1)) h
theorem aB_G_kindFor_70 (n : Nat) (v0 v1 v2 v3 v4 v5 v6 : Int) (Q : Int → Cn → Prop) : ∀ (f : Nat) (z : Cn × Int × Int × Int), lp (B_G_kindFor_70 n v0 v1 v2 v3 v4 v5 v6 Q) f z → AW p l e R s m args below meth c E M_G_kindFor true (fun r C2 n2 => n2 = n ∧ Q r C2) n 0 0 70 [(2, v0), (0, v1), (0, v2), (0, v3), (0, v4), (0, v5), (0, v6), (0, z.2.1), (0, z.2.2.1), (0, z.2.2.2), (9, 0)] [] (z.1) := by
  intro f
  induction f with
  | zero => intro z h; exact False.elim h
  | succ f ih => intro z h; exact bB_G_kindFor_70 n v0 v1 v2 v3 v4 v5 v6 Q (lp (B_G_kindFor_70 n v0 v1 v2 v3 v4 v5 v6 Q) f) (fun a0 a1 a2 a3 h => ih (a0, a1, a2, a3) h) z.1 z.2.1 z.2.2.1 z.2.2.2 h
def P_G_kindFor (n : Nat) (C : Cn) (v0 v1 v2 v3 v4 v5 : Int) (Q : Int → Cn → Prop) : Prop :=
  okO n v0 10 ∧ (P_G_isSegment n C v0 v1 (fun (r_1 : Int) => (r_1 = 0 → (P_G_finds n C v0 0 (fun (r_7 : Int) (C_8 : Cn) => Q r_7 C_8))) ∧ (¬ r_1 = 0 → (P_G_isPoint n C v2 v3 (fun (r_11 : Int) => (r_11 = 0 → (P_G_finds n C v0 0 (fun (r_16 : Int) (C_17 : Cn) => Q r_16 C_17))) ∧ (¬ r_11 = 0 → (P_G_isPoint n C v4 v5 (fun (r_20 : Int) => (r_20 = 0 → (P_G_finds n C v0 0 (fun (r_59 : Int) (C_60 : Cn) => Q r_59 C_60))) ∧ (¬ r_20 = 0 → (P_G_areFree n C v0 v2 v3 v4 v5 (fun (r_25 : Int) (C_26 : Cn) => (r_25 = 0 → (P_G_finds n C_26 v0 4 (fun (r_55 : Int) (C_56 : Cn) => Q r_55 C_56))) ∧ (¬ r_25 = 0 → (okO n (PT v0.toNat 1) 17 ∧ (okI (PT v0.toNat 1) v1 ∧ (okO n (PT (PT v0.toNat 1).toNat v1.toNat) 12 ∧ (okI (PT (PT v0.toNat 1).toNat v1.toNat) 0 ∧ (∀ v6_34 : Int, v6_34 = C_26 (PT (PT v0.toNat 1).toNat v1.toNat).toNat 0 → (∃ f_54 : Nat, lp (B_G_kindFor_70 n v0 v1 v2 v3 v4 v5 v6_34 Q) f_54 (C_26, (-1), 0, 0)))))))))))))))))))
theorem m_G_kindFor (l : Launch) (E : Ev) (n : Nat) (C : Cn) (v0 v1 v2 v3 v4 v5 : Int) (Q : Int → Cn → Prop) (h : P_G_kindFor n C v0 v1 v2 v3 v4 v5 Q) : MA l y_G_kindFor M_G_kindFor E true C n [(2, v0), (0, v1), (0, v2), (0, v3), (0, v4), (0, v5)] (fun r C2 n2 => n2 = n ∧ Q r C2) := by
  refine MA.of (by decide) rfl rfl 5 rfl (fun p e s m args below meth c => ?_)
  show AW p l e _ s m args below meth c E M_G_kindFor true _ n 0 0 0 [(2, v0), (0, v1), (0, v2), (0, v3), (0, v4), (0, v5), (9, 0), (9, 0), (9, 0), (9, 0), (9, 0)] [] C
  unfold P_G_kindFor at h
  refine AW.ra_n (dc hd_G_kindFor 0 rfl) rfl rfl rfl ?_
  refine AW.iload_n (dc hd_G_kindFor 1 rfl) rfl ?_
  obtain ⟨g_2, h⟩ := h
  refine AW.callV (As := [(0, v1)]) (rest := []) (ci := 10) (m_G_isSegment l E n C v0 v1 _ h) cb_10_202 im_G_isSegment se_G_isSegment ⟨_, _, rfl⟩ (by decide) (dc hd_G_kindFor 2 rfl) g_2 rfl rfl ⟨Nat.le_of_ble_eq_true rfl, Nat.le_of_ble_eq_true rfl⟩ ⟨(Nat.le_of_ble_eq_true rfl), (Nat.le_of_ble_eq_true rfl)⟩ (Nat.le_of_ble_eq_true rfl) (fun _ h => by cases h) (fun _ => rfl) (fun r_1 D_4 d_5 q_3 => ?_)
  obtain ⟨q_3a, q_3b, h⟩ := q_3
  subst D_4
  subst d_5
  show AW p l e _ s m args below meth c E M_G_kindFor true _ n _ _ _ [(2, v0), (0, v1), (0, v2), (0, v3), (0, v4), (0, v5), (9, 0), (9, 0), (9, 0), (9, 0), (9, 0)] [(0, r_1)] C
  refine AW.if_eq (t := 26) (dc hd_G_kindFor 3 rfl) (by decide) (fun c_6 => ?_) (fun c_6 => ?_)
  · have h := h.1 c_6
    refine AW.ra_n (dc hd_G_kindFor 12 rfl) rfl rfl rfl ?_
    refine AW.iconst (dc hd_G_kindFor 13 rfl) (by decide) ?_
    refine AW.callV (As := [(0, 0)]) (rest := []) (ci := 10) (m_G_finds l E n C v0 0 _ h) cb_10_186 im_G_finds se_G_finds ⟨_, _, rfl⟩ (by decide) (dc hd_G_kindFor 14 rfl) g_2 rfl rfl ⟨Nat.le_of_ble_eq_true rfl, Nat.le_of_ble_eq_true rfl⟩ ⟨(Nat.le_of_ble_eq_true rfl), (Nat.le_of_ble_eq_true rfl)⟩ (Nat.le_of_ble_eq_true rfl) (fun _ h => by cases h) (fun _ => rfl) (fun r_7 C_8 d_10 q_9 => ?_)
    obtain ⟨q_9a, h⟩ := q_9
    subst d_10
    show AW p l e _ s m args below meth c E M_G_kindFor true _ n _ _ _ [(2, v0), (0, v1), (0, v2), (0, v3), (0, v4), (0, v5), (9, 0), (9, 0), (9, 0), (9, 0), (9, 0)] [(0, r_7)] C_8
    exact AW.iret (dc hd_G_kindFor 15 rfl) rfl rfl (Nat.le_of_ble_eq_true rfl) (Nat.le_of_ble_eq_true rfl) ⟨rfl, h⟩
  · have h := h.2 c_6
    refine AW.iload_n (dc hd_G_kindFor 4 rfl) rfl ?_
    refine AW.iload_n (dc hd_G_kindFor 5 rfl) rfl ?_
    refine AW.callS (As := [(0, v2), (0, v3)]) (rest := []) (m_G_isPoint l E n C v2 v3 _ h) cb_10_183 sm_G_isPoint (dc hd_G_kindFor 6 rfl) rfl rfl ⟨Nat.le_of_ble_eq_true rfl, Nat.le_of_ble_eq_true rfl⟩ ⟨(Nat.le_of_ble_eq_true rfl), (Nat.le_of_ble_eq_true rfl)⟩ (Nat.le_of_ble_eq_true rfl) (fun _ h => by cases h) (fun _ => rfl) (fun r_11 D_13 d_14 q_12 => ?_)
    obtain ⟨q_12a, q_12b, h⟩ := q_12
    subst D_13
    subst d_14
    show AW p l e _ s m args below meth c E M_G_kindFor true _ n _ _ _ [(2, v0), (0, v1), (0, v2), (0, v3), (0, v4), (0, v5), (9, 0), (9, 0), (9, 0), (9, 0), (9, 0)] [(0, r_11)] C
    refine AW.if_eq (t := 26) (dc hd_G_kindFor 7 rfl) (by decide) (fun c_15 => ?_) (fun c_15 => ?_)
    · have h := h.1 c_15
      refine AW.ra_n (dc hd_G_kindFor 12 rfl) rfl rfl rfl ?_
      refine AW.iconst (dc hd_G_kindFor 13 rfl) (by decide) ?_
      refine AW.callV (As := [(0, 0)]) (rest := []) (ci := 10) (m_G_finds l E n C v0 0 _ h) cb_10_186 im_G_finds se_G_finds ⟨_, _, rfl⟩ (by decide) (dc hd_G_kindFor 14 rfl) g_2 rfl rfl ⟨Nat.le_of_ble_eq_true rfl, Nat.le_of_ble_eq_true rfl⟩ ⟨(Nat.le_of_ble_eq_true rfl), (Nat.le_of_ble_eq_true rfl)⟩ (Nat.le_of_ble_eq_true rfl) (fun _ h => by cases h) (fun _ => rfl) (fun r_16 C_17 d_19 q_18 => ?_)
      obtain ⟨q_18a, h⟩ := q_18
      subst d_19
      show AW p l e _ s m args below meth c E M_G_kindFor true _ n _ _ _ [(2, v0), (0, v1), (0, v2), (0, v3), (0, v4), (0, v5), (9, 0), (9, 0), (9, 0), (9, 0), (9, 0)] [(0, r_16)] C_17
      exact AW.iret (dc hd_G_kindFor 15 rfl) rfl rfl (Nat.le_of_ble_eq_true rfl) (Nat.le_of_ble_eq_true rfl) ⟨rfl, h⟩
    · have h := h.2 c_15
      refine AW.iload (dc hd_G_kindFor 8 rfl) rfl ?_
      refine AW.iload (dc hd_G_kindFor 9 rfl) rfl ?_
      refine AW.callS (As := [(0, v4), (0, v5)]) (rest := []) (m_G_isPoint l E n C v4 v5 _ h) cb_10_183 sm_G_isPoint (dc hd_G_kindFor 10 rfl) rfl rfl ⟨Nat.le_of_ble_eq_true rfl, Nat.le_of_ble_eq_true rfl⟩ ⟨(Nat.le_of_ble_eq_true rfl), (Nat.le_of_ble_eq_true rfl)⟩ (Nat.le_of_ble_eq_true rfl) (fun _ h => by cases h) (fun _ => rfl) (fun r_20 D_22 d_23 q_21 => ?_)
      obtain ⟨q_21a, q_21b, h⟩ := q_21
      subst D_22
      subst d_23
      show AW p l e _ s m args below meth c E M_G_kindFor true _ n _ _ _ [(2, v0), (0, v1), (0, v2), (0, v3), (0, v4), (0, v5), (9, 0), (9, 0), (9, 0), (9, 0), (9, 0)] [(0, r_20)] C
      refine AW.if_ne (t := 32) (dc hd_G_kindFor 11 rfl) (by decide) (fun c_24 => ?_) (fun c_24 => ?_)
      · have h := h.2 c_24
        refine AW.ra_n (dc hd_G_kindFor 16 rfl) rfl rfl rfl ?_
        refine AW.iload_n (dc hd_G_kindFor 17 rfl) rfl ?_
        refine AW.iload_n (dc hd_G_kindFor 18 rfl) rfl ?_
        refine AW.iload (dc hd_G_kindFor 19 rfl) rfl ?_
        refine AW.iload (dc hd_G_kindFor 20 rfl) rfl ?_
        refine AW.callV (As := [(0, v2), (0, v3), (0, v4), (0, v5)]) (rest := []) (ci := 10) (m_G_areFree l E n C v0 v2 v3 v4 v5 _ h) cb_10_357 im_G_areFree se_G_areFree ⟨_, _, rfl⟩ (by decide) (dc hd_G_kindFor 21 rfl) g_2 rfl rfl ⟨Nat.le_of_ble_eq_true rfl, Nat.le_of_ble_eq_true rfl⟩ ⟨(Nat.le_of_ble_eq_true rfl), (Nat.le_of_ble_eq_true rfl)⟩ (Nat.le_of_ble_eq_true rfl) (fun _ h => by cases h) (fun _ => rfl) (fun r_25 C_26 d_28 q_27 => ?_)
        obtain ⟨q_27a, h⟩ := q_27
        subst d_28
        show AW p l e _ s m args below meth c E M_G_kindFor true _ n _ _ _ [(2, v0), (0, v1), (0, v2), (0, v3), (0, v4), (0, v5), (9, 0), (9, 0), (9, 0), (9, 0), (9, 0)] [(0, r_25)] C_26
        refine AW.if_ne (t := 51) (dc hd_G_kindFor 22 rfl) (by decide) (fun c_29 => ?_) (fun c_29 => ?_)
        · have h := h.2 c_29
          refine AW.ra_n (dc hd_G_kindFor 27 rfl) rfl rfl rfl ?_
          refine AW.getp fl_10_11 (dc hd_G_kindFor 28 rfl) g_2 rfl ?_
          refine AW.iload_n (dc hd_G_kindFor 29 rfl) rfl ?_
          obtain ⟨g_30, h⟩ := h
          obtain ⟨g_31, h⟩ := h
          refine AW.aaldp (by decide) (dc hd_G_kindFor 30 rfl) g_30 g_31 rfl ?_
          refine AW.iconst (dc hd_G_kindFor 31 rfl) (by decide) ?_
          obtain ⟨g_32, h⟩ := h
          obtain ⟨g_33, h⟩ := h
          refine AW.iald (dc hd_G_kindFor 32 rfl) g_32 g_33 ?_
          refine AW.nm (fun v6_34 ev6_34 => ?_)
          have h := h v6_34 ev6_34
          refine AW.istore [(2, v0), (0, v1), (0, v2), (0, v3), (0, v4), (0, v5), (0, v6_34), (9, 0), (9, 0), (9, 0), (9, 0)] (dc hd_G_kindFor 33 rfl) (Nat.le_of_ble_eq_true rfl) rfl rfl ?_
          refine AW.iconst (dc hd_G_kindFor 34 rfl) (by decide) ?_
          refine AW.istore [(2, v0), (0, v1), (0, v2), (0, v3), (0, v4), (0, v5), (0, v6_34), (0, (-1)), (9, 0), (9, 0), (9, 0)] (dc hd_G_kindFor 35 rfl) (Nat.le_of_ble_eq_true rfl) rfl rfl ?_
          refine AW.iconst (dc hd_G_kindFor 36 rfl) (by decide) ?_
          refine AW.istore [(2, v0), (0, v1), (0, v2), (0, v3), (0, v4), (0, v5), (0, v6_34), (0, (-1)), (0, 0), (9, 0), (9, 0)] (dc hd_G_kindFor 37 rfl) (Nat.le_of_ble_eq_true rfl) rfl rfl ?_
          refine AW.iconst (dc hd_G_kindFor 38 rfl) (by decide) ?_
          refine AW.istore [(2, v0), (0, v1), (0, v2), (0, v3), (0, v4), (0, v5), (0, v6_34), (0, (-1)), (0, 0), (0, 0), (9, 0)] (dc hd_G_kindFor 39 rfl) (Nat.le_of_ble_eq_true rfl) rfl rfl ?_
          obtain ⟨f_54, h⟩ := h
          exact aB_G_kindFor_70 n v0 v1 v2 v3 v4 v5 v6_34 Q f_54 (C_26, (-1), 0, 0) h
        · have h := h.1 c_29
          refine AW.ra_n (dc hd_G_kindFor 23 rfl) rfl rfl rfl ?_
          refine AW.iconst (dc hd_G_kindFor 24 rfl) (by decide) ?_
          refine AW.callV (As := [(0, 4)]) (rest := []) (ci := 10) (m_G_finds l E n C_26 v0 4 _ h) cb_10_186 im_G_finds se_G_finds ⟨_, _, rfl⟩ (by decide) (dc hd_G_kindFor 25 rfl) g_2 rfl rfl ⟨Nat.le_of_ble_eq_true rfl, Nat.le_of_ble_eq_true rfl⟩ ⟨(Nat.le_of_ble_eq_true rfl), (Nat.le_of_ble_eq_true rfl)⟩ (Nat.le_of_ble_eq_true rfl) (fun _ h => by cases h) (fun _ => rfl) (fun r_55 C_56 d_58 q_57 => ?_)
          obtain ⟨q_57a, h⟩ := q_57
          subst d_58
          show AW p l e _ s m args below meth c E M_G_kindFor true _ n _ _ _ [(2, v0), (0, v1), (0, v2), (0, v3), (0, v4), (0, v5), (9, 0), (9, 0), (9, 0), (9, 0), (9, 0)] [(0, r_55)] C_56
          exact AW.iret (dc hd_G_kindFor 26 rfl) rfl rfl (Nat.le_of_ble_eq_true rfl) (Nat.le_of_ble_eq_true rfl) ⟨rfl, h⟩
      · have h := h.1 c_24
        refine AW.ra_n (dc hd_G_kindFor 12 rfl) rfl rfl rfl ?_
        refine AW.iconst (dc hd_G_kindFor 13 rfl) (by decide) ?_
        refine AW.callV (As := [(0, 0)]) (rest := []) (ci := 10) (m_G_finds l E n C v0 0 _ h) cb_10_186 im_G_finds se_G_finds ⟨_, _, rfl⟩ (by decide) (dc hd_G_kindFor 14 rfl) g_2 rfl rfl ⟨Nat.le_of_ble_eq_true rfl, Nat.le_of_ble_eq_true rfl⟩ ⟨(Nat.le_of_ble_eq_true rfl), (Nat.le_of_ble_eq_true rfl)⟩ (Nat.le_of_ble_eq_true rfl) (fun _ h => by cases h) (fun _ => rfl) (fun r_59 C_60 d_62 q_61 => ?_)
        obtain ⟨q_61a, h⟩ := q_61
        subst d_62
        show AW p l e _ s m args below meth c E M_G_kindFor true _ n _ _ _ [(2, v0), (0, v1), (0, v2), (0, v3), (0, v4), (0, v5), (9, 0), (9, 0), (9, 0), (9, 0), (9, 0)] [(0, r_59)] C_60
        exact AW.iret (dc hd_G_kindFor 15 rfl) rfl rfl (Nat.le_of_ble_eq_true rfl) (Nat.le_of_ble_eq_true rfl) ⟨rfl, h⟩
def P_G_isSheet (n : Nat) (C : Cn) (v0 : Int) (Q : Int → Prop) : Prop :=
  P_G_in n C v0 0 3 (fun (r_1 : Int) => (r_1 = 0 ∨ r_1 = 1) ∧ (Q r_1))
theorem m_G_isSheet (l : Launch) (E : Ev) (n : Nat) (C : Cn) (v0 : Int) (Q : Int → Prop) (h : P_G_isSheet n C v0 Q) : MA l y_G_isSheet M_G_isSheet E true C n [(0, v0)] (fun r C2 n2 => C2 = C ∧ n2 = n ∧ Q r) := by
  refine MA.of (by decide) rfl rfl 0 rfl (fun p e s m args below meth c => ?_)
  show AW p l e _ s m args below meth c E M_G_isSheet true _ n 0 0 0 [(0, v0)] [] C
  unfold P_G_isSheet at h
  refine AW.iload_n (dc hd_G_isSheet 0 rfl) rfl ?_
  refine AW.i2l (dc hd_G_isSheet 1 rfl) ?_
  refine AW.lconst (v := 0) (dc hd_G_isSheet 2 rfl) (by decide) (by decide +kernel) ?_
  refine AW.ldc2 (v := 3) (dc hd_G_isSheet 3 rfl) ck_10_217 (by decide) rfl ?_
  refine AW.callS (As := [(1, v0), (1, 0), (1, 3)]) (rest := []) (m_G_in l E n C v0 0 3 _ h) cb_10_113 sm_G_in (dc hd_G_isSheet 4 rfl) rfl rfl ⟨Nat.le_of_ble_eq_true rfl, Nat.le_of_ble_eq_true rfl⟩ ⟨(Nat.le_of_ble_eq_true rfl), (Nat.le_of_ble_eq_true rfl)⟩ (Nat.le_of_ble_eq_true rfl) (fun _ h => by cases h) (fun _ => rfl) (fun r_1 D_3 d_4 q_2 => ?_)
  obtain ⟨q_2a, q_2b, h⟩ := q_2
  subst D_3
  subst d_4
  show AW p l e _ s m args below meth c E M_G_isSheet true _ n _ _ _ [(0, v0)] [(0, r_1)] C
  obtain ⟨g_5, h⟩ := h
  exact AW.zret (dc hd_G_isSheet 5 rfl) rfl rfl (Nat.le_of_ble_eq_true rfl) (Nat.le_of_ble_eq_true rfl) g_5 ⟨rfl, rfl, h⟩
def J_G_cut_23 (n : Nat) (C : Cn) (s0 : Int) (Q : Int → Prop) : Prop :=
  Q s0
theorem aJ_G_cut_23 (n : Nat) (C : Cn) (s0 : Int) (Q : Int → Prop) (h : J_G_cut_23 n C s0 Q) : AW p l e R s m args below meth c E M_G_cut true (fun r C2 n2 => C2 = C ∧ n2 = n ∧ Q r) n 0 0 23 [(9, 0), (9, 0), (9, 0)] [(1, s0)] C := by
  unfold J_G_cut_23 at h
  exact AW.lret (dc hd_G_cut 15 rfl) rfl rfl (Nat.le_of_ble_eq_true rfl) (Nat.le_of_ble_eq_true rfl) ⟨rfl, rfl, h⟩
def P_G_cut (n : Nat) (C : Cn) (v0 v1 : Int) (Q : Int → Prop) : Prop :=
  J_G_cut_23 n C (if v0 = 0 then w8 (w32 v1) else (if v0 = 1 then w32 v1 else v1)) Q
theorem m_G_cut (l : Launch) (E : Ev) (n : Nat) (C : Cn) (v0 v1 : Int) (Q : Int → Prop) (h : P_G_cut n C v0 v1 Q) : MA l y_G_cut M_G_cut E true C n [(0, v0), (1, v1)] (fun r C2 n2 => C2 = C ∧ n2 = n ∧ Q r) := by
  refine MA.of (by decide) rfl rfl 0 rfl (fun p e s m args below meth c => ?_)
  show AW p l e _ s m args below meth c E M_G_cut true _ n 0 0 0 [(0, v0), (1, v1), (9, 0)] [] C
  unfold P_G_cut at h
  refine AW.iload_n (dc hd_G_cut 0 rfl) rfl ?_
  refine AW.if_ne (t := 11) (dc hd_G_cut 1 rfl) (by decide) (fun c_1 => ?_) (fun c_1 => ?_)
  · simp only [if_neg (show ¬ (v0 = 0) from c_1)] at h
    refine AW.iload_n (dc hd_G_cut 7 rfl) rfl ?_
    refine AW.iconst (dc hd_G_cut 8 rfl) (by decide) ?_
    refine AW.icmp_ne (t := 22) (dc hd_G_cut 9 rfl) (by decide) (fun c_2 => ?_) (fun c_2 => ?_)
    · simp only [if_neg (show ¬ (v0 = 1) from c_2)] at h
      refine AW.lload_n (dc hd_G_cut 14 rfl) rfl ?_
      refine AW.fgt [(9, 0), (9, 0), (9, 0)] ⟨.inr rfl, .inr rfl, .inl rfl, trivial⟩ ?_
      exact aJ_G_cut_23 n C _ Q h
    · simp only [if_pos (show v0 = 1 from c_2)] at h
      refine AW.lload_n (dc hd_G_cut 10 rfl) rfl ?_
      refine AW.l2i (dc hd_G_cut 11 rfl) ?_
      refine AW.i2l (dc hd_G_cut 12 rfl) ?_
      refine AW.goto (t := 23) (dc hd_G_cut 13 rfl) (by decide) ?_
      refine AW.fgt [(9, 0), (9, 0), (9, 0)] ⟨.inr rfl, .inr rfl, .inl rfl, trivial⟩ ?_
      exact aJ_G_cut_23 n C _ Q h
  · simp only [if_pos (show v0 = 0 from c_1)] at h
    refine AW.lload_n (dc hd_G_cut 2 rfl) rfl ?_
    refine AW.l2i (dc hd_G_cut 3 rfl) ?_
    refine AW.i2b (dc hd_G_cut 4 rfl) ?_
    refine AW.i2l (dc hd_G_cut 5 rfl) ?_
    refine AW.goto (t := 23) (dc hd_G_cut 6 rfl) (by decide) ?_
    refine AW.fgt [(9, 0), (9, 0), (9, 0)] ⟨.inr rfl, .inr rfl, .inl rfl, trivial⟩ ?_
    exact aJ_G_cut_23 n C _ Q h
def J_G_asks_164 (n : Nat) (C : Cn) (v3 : Int) (Q : Int → Cn → Prop) : Prop :=
  Q v3 C
theorem aJ_G_asks_164 (n : Nat) (C : Cn) (v3 : Int) (Q : Int → Cn → Prop) (h : J_G_asks_164 n C v3 Q) : AW p l e R s m args below meth c E M_G_asks true (fun r C2 n2 => n2 = n ∧ Q r C2) n 0 0 164 [(9, 0), (9, 0), (9, 0), (0, v3), (9, 0), (9, 0), (9, 0), (9, 0)] [] C := by
  unfold J_G_asks_164 at h
  refine AW.iload_n (dc hd_G_asks 96 rfl) rfl ?_
  exact AW.iret (dc hd_G_asks 97 rfl) rfl rfl (Nat.le_of_ble_eq_true rfl) (Nat.le_of_ble_eq_true rfl) ⟨rfl, h⟩
def J_G_asks_128 (n : Nat) (C : Cn) (v3 : Int) (Q : Int → Cn → Prop) : Prop :=
  Q v3 C
theorem aJ_G_asks_128 (n : Nat) (C : Cn) (v3 : Int) (Q : Int → Cn → Prop) (h : J_G_asks_128 n C v3 Q) : AW p l e R s m args below meth c E M_G_asks true (fun r C2 n2 => n2 = n ∧ Q r C2) n 0 0 128 [(9, 0), (9, 0), (9, 0), (0, v3), (9, 0), (9, 0), (9, 0), (9, 0)] [] C := by
  unfold J_G_asks_128 at h
  refine AW.iload_n (dc hd_G_asks 74 rfl) rfl ?_
  exact AW.iret (dc hd_G_asks 75 rfl) rfl rfl (Nat.le_of_ble_eq_true rfl) (Nat.le_of_ble_eq_true rfl) ⟨rfl, h⟩
def B_G_asks_50 (n : Nat) (v0 v1 v2 : Int) (Q : Int → Cn → Prop) (kz50 : Cn × Int → Prop) (z : Cn × Int) : Prop := match z with
  | (C, v3) => okO n v0 10 ∧ (okO n (PT v0.toNat 45) 12 ∧ (okI (PT v0.toNat 45) v1 ∧ ((C (PT v0.toNat 45).toNat v1.toNat ≤ w32 (w32 (2 * v3) + 1) → (J_G_asks_164 n C v3 Q)) ∧ (¬ C (PT v0.toNat 45).toNat v1.toNat ≤ w32 (w32 (2 * v3) + 1) → (okI (PT v0.toNat 45) v2 ∧ ((C (PT v0.toNat 45).toNat v2.toNat ≤ v3 → (J_G_asks_164 n C v3 Q)) ∧ (¬ C (PT v0.toNat 45).toNat v2.toNat ≤ v3 → (okO n (PT v0.toNat 46) 18 ∧ (okI (PT v0.toNat 46) v1 ∧ (okO n (PT (PT v0.toNat 46).toNat v1.toNat) 13 ∧ (okI (PT (PT v0.toNat 46).toNat v1.toNat) (w32 (2 * v3)) ∧ (∀ v4_40 : Int, v4_40 = C (PT (PT v0.toNat 46).toNat v1.toNat).toNat (w32 (2 * v3)).toNat → (okI (PT (PT v0.toNat 46).toNat v1.toNat) (w32 (w32 (2 * v3) + 1)) ∧ (∀ v6_42 : Int, v6_42 = C (PT (PT v0.toNat 46).toNat v1.toNat).toNat (w32 (w32 (2 * v3) + 1)).toNat → (P_G_in n C v4_40 (-99) 99 (fun (r_43 : Int) => (r_43 = 0 → (J_G_asks_128 n C v3 Q)) ∧ (¬ r_43 = 0 → (P_G_in n C v6_42 (-99) 99 (fun (r_48 : Int) => (r_48 = 0 → (J_G_asks_128 n C v3 Q)) ∧ (¬ r_48 = 0 → (okI (PT v0.toNat 46) v2 ∧ (okO n (PT v0.toNat 44) 12 ∧ (okI (PT v0.toNat 44) v2 ∧ (P_G_isIn n C v0 (w32 v4_40) (w32 v6_42) (fun (r_56 : Int) (C_57 : Cn) => P_G_cut n C_57 (C (PT v0.toNat 44).toNat v2.toNat) r_56 (fun (r_60 : Int) => okO n (PT (PT v0.toNat 46).toNat v2.toNat) 13 ∧ (okI (PT (PT v0.toNat 46).toNat v2.toNat) v3 ∧ (∀ C_66 : Cn, C_66 = wr C_57 (PT (PT v0.toNat 46).toNat v2.toNat).toNat v3.toNat r_60 → (kz50 (C_66, w32 (v3 + 1)))))))))))))))))))))))))))))))
theorem bB_G_asks_50 (n : Nat) (v0 v1 v2 : Int) (Q : Int → Cn → Prop) (kz50 : Cn × Int → Prop) (hkz50 : ∀ (Cz : Cn) (z3 : Int), kz50 (Cz, z3) → AW p l e R s m args below meth c E M_G_asks true (fun r C2 n2 => n2 = n ∧ Q r C2) n 0 0 50 [(2, v0), (0, v1), (0, v2), (0, z3), (9, 0), (9, 0), (9, 0), (9, 0)] [] Cz) (C : Cn) (v3 : Int) (h : B_G_asks_50 n v0 v1 v2 Q kz50 (C, v3)) : AW p l e R s m args below meth c E M_G_asks true (fun r C2 n2 => n2 = n ∧ Q r C2) n 0 0 50 [(2, v0), (0, v1), (0, v2), (0, v3), (9, 0), (9, 0), (9, 0), (9, 0)] [] C := by
  unfold B_G_asks_50 at h
  dsimp only at h
  refine AW.iconst (dc hd_G_asks 28 rfl) (by decide) ?_
  refine AW.iload_n (dc hd_G_asks 29 rfl) rfl ?_
  refine AW.imul (dc hd_G_asks 30 rfl) ?_
  refine AW.iconst (dc hd_G_asks 31 rfl) (by decide) ?_
  refine AW.iadd (dc hd_G_asks 32 rfl) ?_
  refine AW.ra_n (dc hd_G_asks 33 rfl) rfl rfl rfl ?_
  obtain ⟨g_30, h⟩ := h
  refine AW.getp fl_10_85 (dc hd_G_asks 34 rfl) g_30 rfl ?_
  refine AW.iload_n (dc hd_G_asks 35 rfl) rfl ?_
  obtain ⟨g_31, h⟩ := h
  obtain ⟨g_32, h⟩ := h
  refine AW.iald (dc hd_G_asks 36 rfl) g_31 g_32 ?_
  refine AW.icmp_ge (t := 164) (dc hd_G_asks 37 rfl) (by decide) (fun c_33 => ?_) (fun c_33 => ?_)
  · have h := h.1 c_33
    refine AW.fgt [(9, 0), (9, 0), (9, 0), (0, v3), (9, 0), (9, 0), (9, 0), (9, 0)] ⟨.inr rfl, .inr rfl, .inr rfl, .inl rfl, .inl rfl, .inl rfl, .inl rfl, .inl rfl, trivial⟩ ?_
    exact aJ_G_asks_164 n C v3 Q h
  · have h := h.2 c_33
    refine AW.iload_n (dc hd_G_asks 38 rfl) rfl ?_
    refine AW.ra_n (dc hd_G_asks 39 rfl) rfl rfl rfl ?_
    refine AW.getp fl_10_85 (dc hd_G_asks 40 rfl) g_30 rfl ?_
    refine AW.iload_n (dc hd_G_asks 41 rfl) rfl ?_
    obtain ⟨g_34, h⟩ := h
    refine AW.iald (dc hd_G_asks 42 rfl) g_31 g_34 ?_
    refine AW.icmp_ge (t := 164) (dc hd_G_asks 43 rfl) (by decide) (fun c_35 => ?_) (fun c_35 => ?_)
    · have h := h.1 c_35
      refine AW.fgt [(9, 0), (9, 0), (9, 0), (0, v3), (9, 0), (9, 0), (9, 0), (9, 0)] ⟨.inr rfl, .inr rfl, .inr rfl, .inl rfl, .inl rfl, .inl rfl, .inl rfl, .inl rfl, trivial⟩ ?_
      exact aJ_G_asks_164 n C v3 Q h
    · have h := h.2 c_35
      refine AW.ra_n (dc hd_G_asks 44 rfl) rfl rfl rfl ?_
      refine AW.getp fl_10_90 (dc hd_G_asks 45 rfl) g_30 rfl ?_
      refine AW.iload_n (dc hd_G_asks 46 rfl) rfl ?_
      obtain ⟨g_36, h⟩ := h
      obtain ⟨g_37, h⟩ := h
      refine AW.aaldp (by decide) (dc hd_G_asks 47 rfl) g_36 g_37 rfl ?_
      refine AW.iconst (dc hd_G_asks 48 rfl) (by decide) ?_
      refine AW.iload_n (dc hd_G_asks 49 rfl) rfl ?_
      refine AW.imul (dc hd_G_asks 50 rfl) ?_
      obtain ⟨g_38, h⟩ := h
      obtain ⟨g_39, h⟩ := h
      refine AW.lald (dc hd_G_asks 51 rfl) g_38 g_39 ?_
      refine AW.nm (fun v4_40 ev4_40 => ?_)
      have h := h v4_40 ev4_40
      refine AW.lstore [(2, v0), (0, v1), (0, v2), (0, v3), (1, v4_40), (9, 0), (9, 0), (9, 0)] (dc hd_G_asks 52 rfl) (Nat.le_of_ble_eq_true rfl) rfl rfl ?_
      refine AW.ra_n (dc hd_G_asks 53 rfl) rfl rfl rfl ?_
      refine AW.getp fl_10_90 (dc hd_G_asks 54 rfl) g_30 rfl ?_
      refine AW.iload_n (dc hd_G_asks 55 rfl) rfl ?_
      refine AW.aaldp (by decide) (dc hd_G_asks 56 rfl) g_36 g_37 rfl ?_
      refine AW.iconst (dc hd_G_asks 57 rfl) (by decide) ?_
      refine AW.iload_n (dc hd_G_asks 58 rfl) rfl ?_
      refine AW.imul (dc hd_G_asks 59 rfl) ?_
      refine AW.iconst (dc hd_G_asks 60 rfl) (by decide) ?_
      refine AW.iadd (dc hd_G_asks 61 rfl) ?_
      obtain ⟨g_41, h⟩ := h
      refine AW.lald (dc hd_G_asks 62 rfl) g_38 g_41 ?_
      refine AW.nm (fun v6_42 ev6_42 => ?_)
      have h := h v6_42 ev6_42
      refine AW.lstore [(2, v0), (0, v1), (0, v2), (0, v3), (1, v4_40), (9, 0), (1, v6_42), (9, 0)] (dc hd_G_asks 63 rfl) (Nat.le_of_ble_eq_true rfl) rfl rfl ?_
      refine AW.lload (dc hd_G_asks 64 rfl) rfl ?_
      refine AW.ldc2 (v := -99) (dc hd_G_asks 65 rfl) ck_10_109 (by decide) rfl ?_
      refine AW.ldc2 (v := 99) (dc hd_G_asks 66 rfl) ck_10_111 (by decide) rfl ?_
      refine AW.callS (As := [(1, v4_40), (1, (-99)), (1, 99)]) (rest := []) (m_G_in l E n C v4_40 (-99) 99 _ h) cb_10_113 sm_G_in (dc hd_G_asks 67 rfl) rfl rfl ⟨Nat.le_of_ble_eq_true rfl, Nat.le_of_ble_eq_true rfl⟩ ⟨(Nat.le_of_ble_eq_true rfl), (Nat.le_of_ble_eq_true rfl)⟩ (Nat.le_of_ble_eq_true rfl) (fun _ h => by cases h) (fun _ => rfl) (fun r_43 D_45 d_46 q_44 => ?_)
      obtain ⟨q_44a, q_44b, h⟩ := q_44
      subst D_45
      subst d_46
      show AW p l e _ s m args below meth c E M_G_asks true _ n _ _ _ [(2, v0), (0, v1), (0, v2), (0, v3), (1, v4_40), (9, 0), (1, v6_42), (9, 0)] [(0, r_43)] C
      refine AW.if_eq (t := 128) (dc hd_G_asks 68 rfl) (by decide) (fun c_47 => ?_) (fun c_47 => ?_)
      · have h := h.1 c_47
        refine AW.fgt [(9, 0), (9, 0), (9, 0), (0, v3), (9, 0), (9, 0), (9, 0), (9, 0)] ⟨.inr rfl, .inr rfl, .inr rfl, .inl rfl, .inr rfl, .inl rfl, .inr rfl, .inl rfl, trivial⟩ ?_
        exact aJ_G_asks_128 n C v3 Q h
      · have h := h.2 c_47
        refine AW.lload (dc hd_G_asks 69 rfl) rfl ?_
        refine AW.ldc2 (v := -99) (dc hd_G_asks 70 rfl) ck_10_109 (by decide) rfl ?_
        refine AW.ldc2 (v := 99) (dc hd_G_asks 71 rfl) ck_10_111 (by decide) rfl ?_
        refine AW.callS (As := [(1, v6_42), (1, (-99)), (1, 99)]) (rest := []) (m_G_in l E n C v6_42 (-99) 99 _ h) cb_10_113 sm_G_in (dc hd_G_asks 72 rfl) rfl rfl ⟨Nat.le_of_ble_eq_true rfl, Nat.le_of_ble_eq_true rfl⟩ ⟨(Nat.le_of_ble_eq_true rfl), (Nat.le_of_ble_eq_true rfl)⟩ (Nat.le_of_ble_eq_true rfl) (fun _ h => by cases h) (fun _ => rfl) (fun r_48 D_50 d_51 q_49 => ?_)
        obtain ⟨q_49a, q_49b, h⟩ := q_49
        subst D_50
        subst d_51
        show AW p l e _ s m args below meth c E M_G_asks true _ n _ _ _ [(2, v0), (0, v1), (0, v2), (0, v3), (1, v4_40), (9, 0), (1, v6_42), (9, 0)] [(0, r_48)] C
        refine AW.if_ne (t := 130) (dc hd_G_asks 73 rfl) (by decide) (fun c_52 => ?_) (fun c_52 => ?_)
        · have h := h.2 c_52
          refine AW.ra_n (dc hd_G_asks 76 rfl) rfl rfl rfl ?_
          refine AW.getp fl_10_90 (dc hd_G_asks 77 rfl) g_30 rfl ?_
          refine AW.iload_n (dc hd_G_asks 78 rfl) rfl ?_
          obtain ⟨g_53, h⟩ := h
          refine AW.aaldp (by decide) (dc hd_G_asks 79 rfl) g_36 g_53 rfl ?_
          refine AW.iload_n (dc hd_G_asks 80 rfl) rfl ?_
          refine AW.ra_n (dc hd_G_asks 81 rfl) rfl rfl rfl ?_
          refine AW.getp fl_10_82 (dc hd_G_asks 82 rfl) g_30 rfl ?_
          refine AW.iload_n (dc hd_G_asks 83 rfl) rfl ?_
          obtain ⟨g_54, h⟩ := h
          obtain ⟨g_55, h⟩ := h
          refine AW.iald (dc hd_G_asks 84 rfl) g_54 g_55 ?_
          refine AW.ra_n (dc hd_G_asks 85 rfl) rfl rfl rfl ?_
          refine AW.lload (dc hd_G_asks 86 rfl) rfl ?_
          refine AW.l2i (dc hd_G_asks 87 rfl) ?_
          refine AW.lload (dc hd_G_asks 88 rfl) rfl ?_
          refine AW.l2i (dc hd_G_asks 89 rfl) ?_
          refine AW.callV (As := [(0, w32 v4_40), (0, w32 v6_42)]) (rest := [(0, C (PT v0.toNat 44).toNat v2.toNat), (0, v3), (2, PT (PT v0.toNat 46).toNat v2.toNat)]) (ci := 10) (m_G_isIn l E n C v0 (w32 v4_40) (w32 v6_42) _ h) cb_10_281 im_G_isIn se_G_isIn ⟨_, _, rfl⟩ (by decide) (dc hd_G_asks 90 rfl) g_30 rfl rfl ⟨Nat.le_of_ble_eq_true rfl, Nat.le_of_ble_eq_true rfl⟩ ⟨(Nat.le_of_ble_eq_true rfl), (Nat.le_of_ble_eq_true rfl)⟩ (Nat.le_of_ble_eq_true rfl) (fun _ h => by cases h) (fun _ => rfl) (fun r_56 C_57 d_59 q_58 => ?_)
          obtain ⟨q_58a, h⟩ := q_58
          subst d_59
          show AW p l e _ s m args below meth c E M_G_asks true _ n _ _ _ [(2, v0), (0, v1), (0, v2), (0, v3), (1, v4_40), (9, 0), (1, v6_42), (9, 0)] [(0, r_56), (0, C (PT v0.toNat 44).toNat v2.toNat), (0, v3), (2, PT (PT v0.toNat 46).toNat v2.toNat)] C_57
          refine AW.i2l (dc hd_G_asks 91 rfl) ?_
          refine AW.callS (As := [(0, C (PT v0.toNat 44).toNat v2.toNat), (1, r_56)]) (rest := [(0, v3), (2, PT (PT v0.toNat 46).toNat v2.toNat)]) (m_G_cut l E n C_57 (C (PT v0.toNat 44).toNat v2.toNat) r_56 _ h) cb_10_372 sm_G_cut (dc hd_G_asks 92 rfl) rfl rfl ⟨Nat.le_of_ble_eq_true rfl, Nat.le_of_ble_eq_true rfl⟩ ⟨(Nat.le_of_ble_eq_true rfl), (Nat.le_of_ble_eq_true rfl)⟩ (Nat.le_of_ble_eq_true rfl) (fun _ h => by cases h) (fun _ => rfl) (fun r_60 D_62 d_63 q_61 => ?_)
          obtain ⟨q_61a, q_61b, h⟩ := q_61
          subst D_62
          subst d_63
          show AW p l e _ s m args below meth c E M_G_asks true _ n _ _ _ [(2, v0), (0, v1), (0, v2), (0, v3), (1, v4_40), (9, 0), (1, v6_42), (9, 0)] [(1, r_60), (0, v3), (2, PT (PT v0.toNat 46).toNat v2.toNat)] C_57
          obtain ⟨g_64, h⟩ := h
          obtain ⟨g_65, h⟩ := h
          refine AW.nlast (dc hd_G_asks 93 rfl) g_64 g_65 (fun C_66 eC_66 => ?_)
          have h := h C_66 eC_66
          refine AW.iinc [(2, v0), (0, v1), (0, v2), (0, w32 (v3 + 1)), (1, v4_40), (9, 0), (1, v6_42), (9, 0)] (dc hd_G_asks 94 rfl) rfl (Nat.le_of_ble_eq_true rfl) rfl rfl ?_
          refine AW.goto (t := 50) (dc hd_G_asks 95 rfl) (by decide) ?_
          refine AW.fgt [(2, v0), (0, v1), (0, v2), (0, w32 (v3 + 1)), (9, 0), (9, 0), (9, 0), (9, 0)] ⟨.inl rfl, .inl rfl, .inl rfl, .inl rfl, .inr rfl, .inl rfl, .inr rfl, .inl rfl, trivial⟩ ?_
          exact hkz50 C_66 (w32 (v3 + 1)) h
        · have h := h.1 c_52
          refine AW.fgt [(9, 0), (9, 0), (9, 0), (0, v3), (9, 0), (9, 0), (9, 0), (9, 0)] ⟨.inr rfl, .inr rfl, .inr rfl, .inl rfl, .inr rfl, .inl rfl, .inr rfl, .inl rfl, trivial⟩ ?_
          exact aJ_G_asks_128 n C v3 Q h
theorem aB_G_asks_50 (n : Nat) (v0 v1 v2 : Int) (Q : Int → Cn → Prop) : ∀ (f : Nat) (z : Cn × Int), lp (B_G_asks_50 n v0 v1 v2 Q) f z → AW p l e R s m args below meth c E M_G_asks true (fun r C2 n2 => n2 = n ∧ Q r C2) n 0 0 50 [(2, v0), (0, v1), (0, v2), (0, z.2), (9, 0), (9, 0), (9, 0), (9, 0)] [] (z.1) := by
  intro f
  induction f with
  | zero => intro z h; exact False.elim h
  | succ f ih => intro z h; exact bB_G_asks_50 n v0 v1 v2 Q (lp (B_G_asks_50 n v0 v1 v2 Q) f) (fun a0 a1 h => ih (a0, a1) h) z.1 z.2 h
def P_G_asks (n : Nat) (C : Cn) (v0 v1 v2 : Int) (Q : Int → Cn → Prop) : Prop :=
  P_G_isSheet n C v1 (fun (r_1 : Int) => (r_1 = 0 → (okO n v0 10 ∧ (P_G_finds n C v0 0 (fun (r_6 : Int) (C_8 : Cn) => Q r_6 C_8)))) ∧ (¬ r_1 = 0 → (P_G_isSheet n C v2 (fun (r_11 : Int) => (r_11 = 0 → (okO n v0 10 ∧ (P_G_finds n C v0 0 (fun (r_72 : Int) (C_74 : Cn) => Q r_72 C_74)))) ∧ (¬ r_11 = 0 → (okO n v0 10 ∧ (okO n (PT v0.toNat 44) 12 ∧ (okI (PT v0.toNat 44) v1 ∧ ((C (PT v0.toNat 44).toNat v1.toNat < 0 → (P_G_finds n C v0 5 (fun (r_20 : Int) (C_21 : Cn) => Q r_20 C_21))) ∧ (¬ C (PT v0.toNat 44).toNat v1.toNat < 0 → (okI (PT v0.toNat 44) v2 ∧ ((0 ≤ C (PT v0.toNat 44).toNat v2.toNat → (P_G_maps n C v0 (fun (_ : Int) (C_26 : Cn) => ∃ f_67 : Nat, lp (B_G_asks_50 n v0 v1 v2 Q) f_67 (C_26, 0)))) ∧ (¬ 0 ≤ C (PT v0.toNat 44).toNat v2.toNat → (P_G_finds n C v0 5 (fun (r_68 : Int) (C_69 : Cn) => Q r_68 C_69)))))))))))))))
theorem m_G_asks (l : Launch) (E : Ev) (n : Nat) (C : Cn) (v0 v1 v2 : Int) (Q : Int → Cn → Prop) (h : P_G_asks n C v0 v1 v2 Q) : MA l y_G_asks M_G_asks E true C n [(2, v0), (0, v1), (0, v2)] (fun r C2 n2 => n2 = n ∧ Q r C2) := by
  refine MA.of (by decide) rfl rfl 5 rfl (fun p e s m args below meth c => ?_)
  show AW p l e _ s m args below meth c E M_G_asks true _ n 0 0 0 [(2, v0), (0, v1), (0, v2), (9, 0), (9, 0), (9, 0), (9, 0), (9, 0)] [] C
  unfold P_G_asks at h
  refine AW.iload_n (dc hd_G_asks 0 rfl) rfl ?_
  refine AW.callS (As := [(0, v1)]) (rest := []) (m_G_isSheet l E n C v1 _ h) cb_10_369 sm_G_isSheet (dc hd_G_asks 1 rfl) rfl rfl ⟨Nat.le_of_ble_eq_true rfl, Nat.le_of_ble_eq_true rfl⟩ ⟨(Nat.le_of_ble_eq_true rfl), (Nat.le_of_ble_eq_true rfl)⟩ (Nat.le_of_ble_eq_true rfl) (fun _ h => by cases h) (fun _ => rfl) (fun r_1 D_3 d_4 q_2 => ?_)
  obtain ⟨q_2a, q_2b, h⟩ := q_2
  subst D_3
  subst d_4
  show AW p l e _ s m args below meth c E M_G_asks true _ n _ _ _ [(2, v0), (0, v1), (0, v2), (9, 0), (9, 0), (9, 0), (9, 0), (9, 0)] [(0, r_1)] C
  refine AW.if_eq (t := 14) (dc hd_G_asks 2 rfl) (by decide) (fun c_5 => ?_) (fun c_5 => ?_)
  · have h := h.1 c_5
    refine AW.ra_n (dc hd_G_asks 6 rfl) rfl rfl rfl ?_
    refine AW.iconst (dc hd_G_asks 7 rfl) (by decide) ?_
    obtain ⟨g_7, h⟩ := h
    refine AW.callV (As := [(0, 0)]) (rest := []) (ci := 10) (m_G_finds l E n C v0 0 _ h) cb_10_186 im_G_finds se_G_finds ⟨_, _, rfl⟩ (by decide) (dc hd_G_asks 8 rfl) g_7 rfl rfl ⟨Nat.le_of_ble_eq_true rfl, Nat.le_of_ble_eq_true rfl⟩ ⟨(Nat.le_of_ble_eq_true rfl), (Nat.le_of_ble_eq_true rfl)⟩ (Nat.le_of_ble_eq_true rfl) (fun _ h => by cases h) (fun _ => rfl) (fun r_6 C_8 d_10 q_9 => ?_)
    obtain ⟨q_9a, h⟩ := q_9
    subst d_10
    show AW p l e _ s m args below meth c E M_G_asks true _ n _ _ _ [(2, v0), (0, v1), (0, v2), (9, 0), (9, 0), (9, 0), (9, 0), (9, 0)] [(0, r_6)] C_8
    exact AW.iret (dc hd_G_asks 9 rfl) rfl rfl (Nat.le_of_ble_eq_true rfl) (Nat.le_of_ble_eq_true rfl) ⟨rfl, h⟩
  · have h := h.2 c_5
    refine AW.iload_n (dc hd_G_asks 3 rfl) rfl ?_
    refine AW.callS (As := [(0, v2)]) (rest := []) (m_G_isSheet l E n C v2 _ h) cb_10_369 sm_G_isSheet (dc hd_G_asks 4 rfl) rfl rfl ⟨Nat.le_of_ble_eq_true rfl, Nat.le_of_ble_eq_true rfl⟩ ⟨(Nat.le_of_ble_eq_true rfl), (Nat.le_of_ble_eq_true rfl)⟩ (Nat.le_of_ble_eq_true rfl) (fun _ h => by cases h) (fun _ => rfl) (fun r_11 D_13 d_14 q_12 => ?_)
    obtain ⟨q_12a, q_12b, h⟩ := q_12
    subst D_13
    subst d_14
    show AW p l e _ s m args below meth c E M_G_asks true _ n _ _ _ [(2, v0), (0, v1), (0, v2), (9, 0), (9, 0), (9, 0), (9, 0), (9, 0)] [(0, r_11)] C
    refine AW.if_ne (t := 20) (dc hd_G_asks 5 rfl) (by decide) (fun c_15 => ?_) (fun c_15 => ?_)
    · have h := h.2 c_15
      refine AW.ra_n (dc hd_G_asks 10 rfl) rfl rfl rfl ?_
      obtain ⟨g_16, h⟩ := h
      refine AW.getp fl_10_82 (dc hd_G_asks 11 rfl) g_16 rfl ?_
      refine AW.iload_n (dc hd_G_asks 12 rfl) rfl ?_
      obtain ⟨g_17, h⟩ := h
      obtain ⟨g_18, h⟩ := h
      refine AW.iald (dc hd_G_asks 13 rfl) g_17 g_18 ?_
      refine AW.if_lt (t := 38) (dc hd_G_asks 14 rfl) (by decide) (fun c_19 => ?_) (fun c_19 => ?_)
      · have h := h.1 c_19
        refine AW.ra_n (dc hd_G_asks 20 rfl) rfl rfl rfl ?_
        refine AW.iconst (dc hd_G_asks 21 rfl) (by decide) ?_
        refine AW.callV (As := [(0, 5)]) (rest := []) (ci := 10) (m_G_finds l E n C v0 5 _ h) cb_10_186 im_G_finds se_G_finds ⟨_, _, rfl⟩ (by decide) (dc hd_G_asks 22 rfl) g_16 rfl rfl ⟨Nat.le_of_ble_eq_true rfl, Nat.le_of_ble_eq_true rfl⟩ ⟨(Nat.le_of_ble_eq_true rfl), (Nat.le_of_ble_eq_true rfl)⟩ (Nat.le_of_ble_eq_true rfl) (fun _ h => by cases h) (fun _ => rfl) (fun r_20 C_21 d_23 q_22 => ?_)
        obtain ⟨q_22a, h⟩ := q_22
        subst d_23
        show AW p l e _ s m args below meth c E M_G_asks true _ n _ _ _ [(2, v0), (0, v1), (0, v2), (9, 0), (9, 0), (9, 0), (9, 0), (9, 0)] [(0, r_20)] C_21
        exact AW.iret (dc hd_G_asks 23 rfl) rfl rfl (Nat.le_of_ble_eq_true rfl) (Nat.le_of_ble_eq_true rfl) ⟨rfl, h⟩
      · have h := h.2 c_19
        refine AW.ra_n (dc hd_G_asks 15 rfl) rfl rfl rfl ?_
        refine AW.getp fl_10_82 (dc hd_G_asks 16 rfl) g_16 rfl ?_
        refine AW.iload_n (dc hd_G_asks 17 rfl) rfl ?_
        obtain ⟨g_24, h⟩ := h
        refine AW.iald (dc hd_G_asks 18 rfl) g_17 g_24 ?_
        refine AW.if_ge (t := 44) (dc hd_G_asks 19 rfl) (by decide) (fun c_25 => ?_) (fun c_25 => ?_)
        · have h := h.1 c_25
          refine AW.ra_n (dc hd_G_asks 24 rfl) rfl rfl rfl ?_
          refine AW.callV (As := []) (rest := []) (ci := 10) (m_G_maps l E n C v0 _ h) cb_10_211 im_G_maps se_G_maps ⟨_, _, rfl⟩ (by decide) (dc hd_G_asks 25 rfl) g_16 rfl rfl ⟨Nat.le_of_ble_eq_true rfl, Nat.le_of_ble_eq_true rfl⟩ ⟨(Nat.le_of_ble_eq_true rfl), (Nat.le_of_ble_eq_true rfl)⟩ (Nat.le_of_ble_eq_true rfl) (fun _ h => by cases h) (fun _ => rfl) (fun u_28 C_26 d_29 q_27 => ?_)
          obtain ⟨q_27a, h⟩ := q_27
          subst d_29
          show AW p l e _ s m args below meth c E M_G_asks true _ n _ _ _ [(2, v0), (0, v1), (0, v2), (9, 0), (9, 0), (9, 0), (9, 0), (9, 0)] [] C_26
          refine AW.iconst (dc hd_G_asks 26 rfl) (by decide) ?_
          refine AW.istore_n [(2, v0), (0, v1), (0, v2), (0, 0), (9, 0), (9, 0), (9, 0), (9, 0)] (dc hd_G_asks 27 rfl) (Nat.le_of_ble_eq_true rfl) rfl rfl ?_
          obtain ⟨f_67, h⟩ := h
          exact aB_G_asks_50 n v0 v1 v2 Q f_67 (C_26, 0) h
        · have h := h.2 c_25
          refine AW.ra_n (dc hd_G_asks 20 rfl) rfl rfl rfl ?_
          refine AW.iconst (dc hd_G_asks 21 rfl) (by decide) ?_
          refine AW.callV (As := [(0, 5)]) (rest := []) (ci := 10) (m_G_finds l E n C v0 5 _ h) cb_10_186 im_G_finds se_G_finds ⟨_, _, rfl⟩ (by decide) (dc hd_G_asks 22 rfl) g_16 rfl rfl ⟨Nat.le_of_ble_eq_true rfl, Nat.le_of_ble_eq_true rfl⟩ ⟨(Nat.le_of_ble_eq_true rfl), (Nat.le_of_ble_eq_true rfl)⟩ (Nat.le_of_ble_eq_true rfl) (fun _ h => by cases h) (fun _ => rfl) (fun r_68 C_69 d_71 q_70 => ?_)
          obtain ⟨q_70a, h⟩ := q_70
          subst d_71
          show AW p l e _ s m args below meth c E M_G_asks true _ n _ _ _ [(2, v0), (0, v1), (0, v2), (9, 0), (9, 0), (9, 0), (9, 0), (9, 0)] [(0, r_68)] C_69
          exact AW.iret (dc hd_G_asks 23 rfl) rfl rfl (Nat.le_of_ble_eq_true rfl) (Nat.le_of_ble_eq_true rfl) ⟨rfl, h⟩
    · have h := h.1 c_15
      refine AW.ra_n (dc hd_G_asks 6 rfl) rfl rfl rfl ?_
      refine AW.iconst (dc hd_G_asks 7 rfl) (by decide) ?_
      obtain ⟨g_73, h⟩ := h
      refine AW.callV (As := [(0, 0)]) (rest := []) (ci := 10) (m_G_finds l E n C v0 0 _ h) cb_10_186 im_G_finds se_G_finds ⟨_, _, rfl⟩ (by decide) (dc hd_G_asks 8 rfl) g_73 rfl rfl ⟨Nat.le_of_ble_eq_true rfl, Nat.le_of_ble_eq_true rfl⟩ ⟨(Nat.le_of_ble_eq_true rfl), (Nat.le_of_ble_eq_true rfl)⟩ (Nat.le_of_ble_eq_true rfl) (fun _ h => by cases h) (fun _ => rfl) (fun r_72 C_74 d_76 q_75 => ?_)
      obtain ⟨q_75a, h⟩ := q_75
      subst d_76
      show AW p l e _ s m args below meth c E M_G_asks true _ n _ _ _ [(2, v0), (0, v1), (0, v2), (9, 0), (9, 0), (9, 0), (9, 0), (9, 0)] [(0, r_72)] C_74
      exact AW.iret (dc hd_G_asks 9 rfl) rfl rfl (Nat.le_of_ble_eq_true rfl) (Nat.le_of_ble_eq_true rfl) ⟨rfl, h⟩
def J_G_isTooMuch_24 (n : Nat) (C : Cn) (s0 : Int) (Q : Int → Prop) : Prop :=
  (s0 = 0 ∨ s0 = 1) ∧ (Q s0)
theorem aJ_G_isTooMuch_24 (n : Nat) (C : Cn) (s0 : Int) (Q : Int → Prop) (h : J_G_isTooMuch_24 n C s0 Q) : AW p l e R s m args below meth c E M_G_isTooMuch true (fun r C2 n2 => C2 = C ∧ n2 = n ∧ Q r) n 0 0 24 [(9, 0), (9, 0), (9, 0), (9, 0), (9, 0), (9, 0)] [(0, s0)] C := by
  unfold J_G_isTooMuch_24 at h
  obtain ⟨g_2, h⟩ := h
  exact AW.zret (dc hd_G_isTooMuch 17 rfl) rfl rfl (Nat.le_of_ble_eq_true rfl) (Nat.le_of_ble_eq_true rfl) g_2 ⟨rfl, rfl, h⟩
def P_G_isTooMuch (n : Nat) (C : Cn) (v0 v2 : Int) (Q : Int → Prop) : Prop :=
  J_G_isTooMuch_24 n C (if 0 ≤ and64 (xor64 v0 (w64 (v0 + v2))) (xor64 v2 (w64 (v0 + v2))) then 0 else 1) Q
theorem m_G_isTooMuch (l : Launch) (E : Ev) (n : Nat) (C : Cn) (v0 v2 : Int) (Q : Int → Prop) (h : P_G_isTooMuch n C v0 v2 Q) : MA l y_G_isTooMuch M_G_isTooMuch E true C n [(1, v0), (1, v2)] (fun r C2 n2 => C2 = C ∧ n2 = n ∧ Q r) := by
  refine MA.of (by decide) rfl rfl 2 rfl (fun p e s m args below meth c => ?_)
  show AW p l e _ s m args below meth c E M_G_isTooMuch true _ n 0 0 0 [(1, v0), (9, 0), (1, v2), (9, 0), (9, 0), (9, 0)] [] C
  unfold P_G_isTooMuch at h
  refine AW.lload_n (dc hd_G_isTooMuch 0 rfl) rfl ?_
  refine AW.lload_n (dc hd_G_isTooMuch 1 rfl) rfl ?_
  refine AW.ladd (dc hd_G_isTooMuch 2 rfl) ?_
  refine AW.lstore [(1, v0), (9, 0), (1, v2), (9, 0), (1, w64 (v0 + v2)), (9, 0)] (dc hd_G_isTooMuch 3 rfl) (Nat.le_of_ble_eq_true rfl) rfl rfl ?_
  refine AW.lload_n (dc hd_G_isTooMuch 4 rfl) rfl ?_
  refine AW.lload (dc hd_G_isTooMuch 5 rfl) rfl ?_
  refine AW.lxor (dc hd_G_isTooMuch 6 rfl) ?_
  refine AW.lload_n (dc hd_G_isTooMuch 7 rfl) rfl ?_
  refine AW.lload (dc hd_G_isTooMuch 8 rfl) rfl ?_
  refine AW.lxor (dc hd_G_isTooMuch 9 rfl) ?_
  refine AW.land (dc hd_G_isTooMuch 10 rfl) ?_
  refine AW.lconst (v := 0) (dc hd_G_isTooMuch 11 rfl) (by decide) (by decide +kernel) ?_
  refine AW.lc (dc hd_G_isTooMuch 12 rfl) ?_
  refine AW.if_ge (t := 23) (dc hd_G_isTooMuch 13 rfl) (by decide) (fun c_1 => ?_) (fun c_1 => ?_)
  · replace c_1 := (lc_ge _ _).mp c_1
    simp only [if_pos (show 0 ≤ and64 (xor64 v0 (w64 (v0 + v2))) (xor64 v2 (w64 (v0 + v2))) from c_1)] at h
    refine AW.iconst (dc hd_G_isTooMuch 16 rfl) (by decide) ?_
    refine AW.fgt [(9, 0), (9, 0), (9, 0), (9, 0), (9, 0), (9, 0)] ⟨.inr rfl, .inl rfl, .inr rfl, .inl rfl, .inr rfl, .inl rfl, trivial⟩ ?_
    exact aJ_G_isTooMuch_24 n C _ Q h
  · replace c_1 : ¬ 0 ≤ and64 (xor64 v0 (w64 (v0 + v2))) (xor64 v2 (w64 (v0 + v2))) := fun q => c_1 ((lc_ge _ _).mpr q)
    simp only [if_neg (show ¬ (0 ≤ and64 (xor64 v0 (w64 (v0 + v2))) (xor64 v2 (w64 (v0 + v2)))) from c_1)] at h
    refine AW.iconst (dc hd_G_isTooMuch 14 rfl) (by decide) ?_
    refine AW.goto (t := 24) (dc hd_G_isTooMuch 15 rfl) (by decide) ?_
    refine AW.fgt [(9, 0), (9, 0), (9, 0), (9, 0), (9, 0), (9, 0)] ⟨.inr rfl, .inl rfl, .inr rfl, .inl rfl, .inr rfl, .inl rfl, trivial⟩ ?_
    exact aJ_G_isTooMuch_24 n C _ Q h
def P_G_drawn (n : Nat) (C : Cn) (v0 : Int) (Q : Int → Cn → Prop) : Prop :=
  okO n v0 10 ∧ (∀ C_2 : Cn, C_2 = wr C v0.toNat 4 (w32 (w32 ((C v0.toNat 4) * 1103515245) + 12345)) → (Q (w32 (w32 (Int.tmod (ushr32 (C_2 v0.toNat 4) 8) 199) - 99)) C_2))
theorem m_G_drawn (l : Launch) (E : Ev) (n : Nat) (C : Cn) (v0 : Int) (Q : Int → Cn → Prop) (h : P_G_drawn n C v0 Q) : MA l y_G_drawn M_G_drawn E true C n [(2, v0)] (fun r C2 n2 => n2 = n ∧ Q r C2) := by
  refine MA.of (by decide) rfl rfl 0 rfl (fun p e s m args below meth c => ?_)
  show AW p l e _ s m args below meth c E M_G_drawn true _ n 0 0 0 [(2, v0)] [] C
  unfold P_G_drawn at h
  refine AW.ra_n (dc hd_G_drawn 0 rfl) rfl rfl rfl ?_
  refine AW.ra_n (dc hd_G_drawn 1 rfl) rfl rfl rfl ?_
  obtain ⟨g_1, h⟩ := h
  refine AW.getf fl_10_14 (dc hd_G_drawn 2 rfl) g_1 ?_
  refine AW.ldc_w (v := 1103515245) (dc hd_G_drawn 3 rfl) ck_10_376 (by decide) rfl ?_
  refine AW.imul (dc hd_G_drawn 4 rfl) ?_
  refine AW.sipush (dc hd_G_drawn 5 rfl) (by decide) (by decide +kernel) ?_
  refine AW.iadd (dc hd_G_drawn 6 rfl) ?_
  refine AW.nputI fl_10_14 (dc hd_G_drawn 7 rfl) g_1 (fun C_2 eC_2 => ?_)
  have h := h C_2 eC_2
  refine AW.ra_n (dc hd_G_drawn 8 rfl) rfl rfl rfl ?_
  refine AW.getf fl_10_14 (dc hd_G_drawn 9 rfl) g_1 ?_
  refine AW.bipush (dc hd_G_drawn 10 rfl) (by decide) (by decide +kernel) ?_
  refine AW.iushr (dc hd_G_drawn 11 rfl) ?_
  refine AW.sipush (dc hd_G_drawn 12 rfl) (by decide) (by decide +kernel) ?_
  refine AW.irem (dc hd_G_drawn 13 rfl) (by decide) ?_
  refine AW.bipush (dc hd_G_drawn 14 rfl) (by decide) (by decide +kernel) ?_
  refine AW.isub (dc hd_G_drawn 15 rfl) ?_
  exact AW.iret (dc hd_G_drawn 16 rfl) rfl rfl (Nat.le_of_ble_eq_true rfl) (Nat.le_of_ble_eq_true rfl) ⟨rfl, h⟩
def J_G_loose_147 (n : Nat) (C : Cn) (v0 v1 v2 v3 v6 s0 s1 : Int) (kz42 : Cn × Int × Int → Prop) (Q : Int → Cn → Prop) : Prop :=
  kz42 (C, w32 (s0 + s1), w32 (v6 + 1))
theorem aJ_G_loose_147 (n : Nat) (C : Cn) (v0 v1 v2 v3 v6 s0 s1 : Int) (kz42 : Cn × Int × Int → Prop) (Q : Int → Cn → Prop) (hkz42 : ∀ (Cz : Cn) (z5 : Int) (z6 : Int), kz42 (Cz, z5, z6) → AW p l e R s m args below meth c E M_G_loose true (fun r C2 n2 => n2 = n ∧ Q r C2) n 0 0 42 [(2, v0), (0, v1), (0, v2), (1, v3), (9, 0), (0, z5), (0, z6), (9, 0), (9, 0), (9, 0), (9, 0)] [] Cz) (h : J_G_loose_147 n C v0 v1 v2 v3 v6 s0 s1 kz42 Q) : AW p l e R s m args below meth c E M_G_loose true (fun r C2 n2 => n2 = n ∧ Q r C2) n 0 0 147 [(2, v0), (0, v1), (0, v2), (1, v3), (9, 0), (9, 0), (0, v6), (9, 0), (9, 0), (9, 0), (9, 0)] [(0, s1), (0, s0)] C := by
  unfold J_G_loose_147 at h
  refine AW.iadd (dc hd_G_loose 78 rfl) ?_
  refine AW.istore [(2, v0), (0, v1), (0, v2), (1, v3), (9, 0), (0, w32 (s0 + s1)), (0, v6), (9, 0), (9, 0), (9, 0), (9, 0)] (dc hd_G_loose 79 rfl) (Nat.le_of_ble_eq_true rfl) rfl rfl ?_
  refine AW.iinc [(2, v0), (0, v1), (0, v2), (1, v3), (9, 0), (0, w32 (s0 + s1)), (0, w32 (v6 + 1)), (9, 0), (9, 0), (9, 0), (9, 0)] (dc hd_G_loose 80 rfl) rfl (Nat.le_of_ble_eq_true rfl) rfl rfl ?_
  refine AW.goto (t := 42) (dc hd_G_loose 81 rfl) (by decide) ?_
  exact hkz42 C (w32 (s0 + s1)) (w32 (v6 + 1)) h
def J_G_loose_106 (n : Nat) (C : Cn) (v0 v2 v3 : Int) (Q : Int → Cn → Prop) : Prop :=
  okO n v0 10 ∧ (∀ C_41 : Cn, C_41 = wr C v0.toNat 4 v2 → (∀ C_42 : Cn, C_42 = wr C_41 v0.toNat 3 v3 → (P_G_finds n C_42 v0 7 (fun (r_43 : Int) (C_44 : Cn) => Q r_43 C_44))))
theorem aJ_G_loose_106 (n : Nat) (C : Cn) (v0 v2 v3 : Int) (Q : Int → Cn → Prop) (h : J_G_loose_106 n C v0 v2 v3 Q) : AW p l e R s m args below meth c E M_G_loose true (fun r C2 n2 => n2 = n ∧ Q r C2) n 0 0 106 [(2, v0), (9, 0), (0, v2), (1, v3), (9, 0), (9, 0), (9, 0), (9, 0), (9, 0), (9, 0), (9, 0)] [] C := by
  unfold J_G_loose_106 at h
  refine AW.ra_n (dc hd_G_loose 55 rfl) rfl rfl rfl ?_
  refine AW.iload_n (dc hd_G_loose 56 rfl) rfl ?_
  obtain ⟨g_40, h⟩ := h
  refine AW.nputI fl_10_14 (dc hd_G_loose 57 rfl) g_40 (fun C_41 eC_41 => ?_)
  have h := h C_41 eC_41
  refine AW.ra_n (dc hd_G_loose 58 rfl) rfl rfl rfl ?_
  refine AW.lload_n (dc hd_G_loose 59 rfl) rfl ?_
  refine AW.nputJ fl_10_379 (dc hd_G_loose 60 rfl) g_40 (fun C_42 eC_42 => ?_)
  have h := h C_42 eC_42
  refine AW.ra_n (dc hd_G_loose 61 rfl) rfl rfl rfl ?_
  refine AW.bipush (dc hd_G_loose 62 rfl) (by decide) (by decide +kernel) ?_
  refine AW.callV (As := [(0, 7)]) (rest := []) (ci := 10) (m_G_finds l E n C_42 v0 7 _ h) cb_10_186 im_G_finds se_G_finds ⟨_, _, rfl⟩ (by decide) (dc hd_G_loose 63 rfl) g_40 rfl rfl ⟨Nat.le_of_ble_eq_true rfl, Nat.le_of_ble_eq_true rfl⟩ ⟨(Nat.le_of_ble_eq_true rfl), (Nat.le_of_ble_eq_true rfl)⟩ (Nat.le_of_ble_eq_true rfl) (fun _ h => by cases h) (fun _ => rfl) (fun r_43 C_44 d_46 q_45 => ?_)
  obtain ⟨q_45a, h⟩ := q_45
  subst d_46
  show AW p l e _ s m args below meth c E M_G_loose true _ n _ _ _ [(2, v0), (9, 0), (0, v2), (1, v3), (9, 0), (9, 0), (9, 0), (9, 0), (9, 0), (9, 0), (9, 0)] [(0, r_43)] C_44
  exact AW.iret (dc hd_G_loose 64 rfl) rfl rfl (Nat.le_of_ble_eq_true rfl) (Nat.le_of_ble_eq_true rfl) ⟨rfl, h⟩
def J_G_loose_91 (n : Nat) (C : Cn) (v0 v1 v2 v3 v5 v6 v9 s0 : Int) (kz42 : Cn × Int × Int → Prop) (Q : Int → Cn → Prop) : Prop :=
  okO n v0 10 ∧ (P_G_isTooMuch n C (C v0.toNat 3) s0 (fun (r_33 : Int) => (r_33 = 0 → (∀ C_38 : Cn, C_38 = wr C v0.toNat 3 (w64 (C v0.toNat 3 + s0)) → (J_G_loose_147 n C_38 v0 v1 v2 v3 v6 v5 (if v9 = 0 then 0 else 1) kz42 Q))) ∧ (¬ r_33 = 0 → (J_G_loose_106 n C v0 v2 v3 Q))))
theorem aJ_G_loose_91 (n : Nat) (C : Cn) (v0 v1 v2 v3 v5 v6 v9 s0 : Int) (kz42 : Cn × Int × Int → Prop) (Q : Int → Cn → Prop) (hkz42 : ∀ (Cz : Cn) (z5 : Int) (z6 : Int), kz42 (Cz, z5, z6) → AW p l e R s m args below meth c E M_G_loose true (fun r C2 n2 => n2 = n ∧ Q r C2) n 0 0 42 [(2, v0), (0, v1), (0, v2), (1, v3), (9, 0), (0, z5), (0, z6), (9, 0), (9, 0), (9, 0), (9, 0)] [] Cz) (h : J_G_loose_91 n C v0 v1 v2 v3 v5 v6 v9 s0 kz42 Q) : AW p l e R s m args below meth c E M_G_loose true (fun r C2 n2 => n2 = n ∧ Q r C2) n 0 0 91 [(2, v0), (0, v1), (0, v2), (1, v3), (9, 0), (0, v5), (0, v6), (9, 0), (9, 0), (0, v9), (9, 0)] [(0, s0)] C := by
  unfold J_G_loose_91 at h
  refine AW.istore [(2, v0), (0, v1), (0, v2), (1, v3), (9, 0), (0, v5), (0, v6), (9, 0), (9, 0), (0, v9), (0, s0)] (dc hd_G_loose 48 rfl) (Nat.le_of_ble_eq_true rfl) rfl rfl ?_
  refine AW.ra_n (dc hd_G_loose 49 rfl) rfl rfl rfl ?_
  obtain ⟨g_32, h⟩ := h
  refine AW.getf fl_10_379 (dc hd_G_loose 50 rfl) g_32 ?_
  refine AW.iload (dc hd_G_loose 51 rfl) rfl ?_
  refine AW.i2l (dc hd_G_loose 52 rfl) ?_
  refine AW.callS (As := [(1, C v0.toNat 3), (1, s0)]) (rest := []) (m_G_isTooMuch l E n C (C v0.toNat 3) s0 _ h) cb_10_386 sm_G_isTooMuch (dc hd_G_loose 53 rfl) rfl rfl ⟨Nat.le_of_ble_eq_true rfl, Nat.le_of_ble_eq_true rfl⟩ ⟨(Nat.le_of_ble_eq_true rfl), (Nat.le_of_ble_eq_true rfl)⟩ (Nat.le_of_ble_eq_true rfl) (fun _ h => by cases h) (fun _ => rfl) (fun r_33 D_35 d_36 q_34 => ?_)
  obtain ⟨q_34a, q_34b, h⟩ := q_34
  subst D_35
  subst d_36
  show AW p l e _ s m args below meth c E M_G_loose true _ n _ _ _ [(2, v0), (0, v1), (0, v2), (1, v3), (9, 0), (0, v5), (0, v6), (9, 0), (9, 0), (0, v9), (0, s0)] [(0, r_33)] C
  refine AW.if_eq (t := 123) (dc hd_G_loose 54 rfl) (by decide) (fun c_37 => ?_) (fun c_37 => ?_)
  · have h := h.1 c_37
    refine AW.ra_n (dc hd_G_loose 65 rfl) rfl rfl rfl ?_
    refine AW.rdup (dc hd_G_loose 66 rfl) rfl ?_
    refine AW.getf fl_10_379 (dc hd_G_loose 67 rfl) g_32 ?_
    refine AW.iload (dc hd_G_loose 68 rfl) rfl ?_
    refine AW.i2l (dc hd_G_loose 69 rfl) ?_
    refine AW.ladd (dc hd_G_loose 70 rfl) ?_
    refine AW.nputJ fl_10_379 (dc hd_G_loose 71 rfl) g_32 (fun C_38 eC_38 => ?_)
    have h := h C_38 eC_38
    refine AW.iload (dc hd_G_loose 72 rfl) rfl ?_
    refine AW.iload (dc hd_G_loose 73 rfl) rfl ?_
    refine AW.if_eq (t := 146) (dc hd_G_loose 74 rfl) (by decide) (fun c_39 => ?_) (fun c_39 => ?_)
    · simp only [if_pos (show v9 = 0 from c_39)] at h
      refine AW.iconst (dc hd_G_loose 77 rfl) (by decide) ?_
      refine AW.fgt [(2, v0), (0, v1), (0, v2), (1, v3), (9, 0), (9, 0), (0, v6), (9, 0), (9, 0), (9, 0), (9, 0)] ⟨.inl rfl, .inl rfl, .inl rfl, .inl rfl, .inl rfl, .inr rfl, .inl rfl, .inl rfl, .inl rfl, .inr rfl, .inr rfl, trivial⟩ ?_
      exact aJ_G_loose_147 n C_38 _ _ _ _ _ _ _ kz42 Q hkz42 h
    · simp only [if_neg (show ¬ (v9 = 0) from c_39)] at h
      refine AW.iconst (dc hd_G_loose 75 rfl) (by decide) ?_
      refine AW.goto (t := 147) (dc hd_G_loose 76 rfl) (by decide) ?_
      refine AW.fgt [(2, v0), (0, v1), (0, v2), (1, v3), (9, 0), (9, 0), (0, v6), (9, 0), (9, 0), (9, 0), (9, 0)] ⟨.inl rfl, .inl rfl, .inl rfl, .inl rfl, .inl rfl, .inr rfl, .inl rfl, .inl rfl, .inl rfl, .inr rfl, .inr rfl, trivial⟩ ?_
      exact aJ_G_loose_147 n C_38 _ _ _ _ _ _ _ kz42 Q hkz42 h
  · have h := h.2 c_37
    refine AW.fgt [(2, v0), (9, 0), (0, v2), (1, v3), (9, 0), (9, 0), (9, 0), (9, 0), (9, 0), (9, 0), (9, 0)] ⟨.inl rfl, .inr rfl, .inl rfl, .inl rfl, .inl rfl, .inr rfl, .inr rfl, .inl rfl, .inl rfl, .inr rfl, .inr rfl, trivial⟩ ?_
    exact aJ_G_loose_106 n C v0 v2 v3 Q h
def B_G_loose_42 (n : Nat) (v0 v1 v2 v3 : Int) (Q : Int → Cn → Prop) (kz42 : Cn × Int × Int → Prop) (z : Cn × Int × Int) : Prop := match z with
  | (C, v5, v6) => (v1 ≤ v6 → (Q v5 C)) ∧ (¬ v1 ≤ v6 → (okO n v0 10 ∧ (P_G_drawn n C v0 (fun (r_18 : Int) (C_20 : Cn) => P_G_drawn n C_20 v0 (fun (r_23 : Int) (C_24 : Cn) => P_G_isFree n C_24 v0 r_18 r_23 (fun (r_27 : Int) (C_28 : Cn) => (r_27 = 0 → (J_G_loose_91 n C_28 v0 v1 v2 v3 v5 v6 r_27 1 kz42 Q)) ∧ (¬ r_27 = 0 → (P_G_searched n C_28 v0 (C_28 v0.toNat 23) (C_28 v0.toNat 24) (fun (r_47 : Int) (C_48 : Cn) => J_G_loose_91 n C_48 v0 v1 v2 v3 v5 v6 r_27 r_47 kz42 Q)))))))))
theorem bB_G_loose_42 (n : Nat) (v0 v1 v2 v3 : Int) (Q : Int → Cn → Prop) (kz42 : Cn × Int × Int → Prop) (hkz42 : ∀ (Cz : Cn) (z5 : Int) (z6 : Int), kz42 (Cz, z5, z6) → AW p l e R s m args below meth c E M_G_loose true (fun r C2 n2 => n2 = n ∧ Q r C2) n 0 0 42 [(2, v0), (0, v1), (0, v2), (1, v3), (9, 0), (0, z5), (0, z6), (9, 0), (9, 0), (9, 0), (9, 0)] [] Cz) (C : Cn) (v5 : Int) (v6 : Int) (h : B_G_loose_42 n v0 v1 v2 v3 Q kz42 (C, v5, v6)) : AW p l e R s m args below meth c E M_G_loose true (fun r C2 n2 => n2 = n ∧ Q r C2) n 0 0 42 [(2, v0), (0, v1), (0, v2), (1, v3), (9, 0), (0, v5), (0, v6), (9, 0), (9, 0), (9, 0), (9, 0)] [] C := by
  unfold B_G_loose_42 at h
  dsimp only at h
  refine AW.iload (dc hd_G_loose 24 rfl) rfl ?_
  refine AW.iload_n (dc hd_G_loose 25 rfl) rfl ?_
  refine AW.icmp_ge (t := 156) (dc hd_G_loose 26 rfl) (by decide) (fun c_17 => ?_) (fun c_17 => ?_)
  · have h := h.1 c_17
    refine AW.iload (dc hd_G_loose 82 rfl) rfl ?_
    exact AW.iret (dc hd_G_loose 83 rfl) rfl rfl (Nat.le_of_ble_eq_true rfl) (Nat.le_of_ble_eq_true rfl) ⟨rfl, h⟩
  · have h := h.2 c_17
    refine AW.ra_n (dc hd_G_loose 27 rfl) rfl rfl rfl ?_
    obtain ⟨g_19, h⟩ := h
    refine AW.callV (As := []) (rest := []) (ci := 10) (m_G_drawn l E n C v0 _ h) cb_10_383 im_G_drawn se_G_drawn ⟨_, _, rfl⟩ (by decide) (dc hd_G_loose 28 rfl) g_19 rfl rfl ⟨Nat.le_of_ble_eq_true rfl, Nat.le_of_ble_eq_true rfl⟩ ⟨(Nat.le_of_ble_eq_true rfl), (Nat.le_of_ble_eq_true rfl)⟩ (Nat.le_of_ble_eq_true rfl) (fun _ h => by cases h) (fun _ => rfl) (fun r_18 C_20 d_22 q_21 => ?_)
    obtain ⟨q_21a, h⟩ := q_21
    subst d_22
    show AW p l e _ s m args below meth c E M_G_loose true _ n _ _ _ [(2, v0), (0, v1), (0, v2), (1, v3), (9, 0), (0, v5), (0, v6), (9, 0), (9, 0), (9, 0), (9, 0)] [(0, r_18)] C_20
    refine AW.istore [(2, v0), (0, v1), (0, v2), (1, v3), (9, 0), (0, v5), (0, v6), (0, r_18), (9, 0), (9, 0), (9, 0)] (dc hd_G_loose 29 rfl) (Nat.le_of_ble_eq_true rfl) rfl rfl ?_
    refine AW.ra_n (dc hd_G_loose 30 rfl) rfl rfl rfl ?_
    refine AW.callV (As := []) (rest := []) (ci := 10) (m_G_drawn l E n C_20 v0 _ h) cb_10_383 im_G_drawn se_G_drawn ⟨_, _, rfl⟩ (by decide) (dc hd_G_loose 31 rfl) g_19 rfl rfl ⟨Nat.le_of_ble_eq_true rfl, Nat.le_of_ble_eq_true rfl⟩ ⟨(Nat.le_of_ble_eq_true rfl), (Nat.le_of_ble_eq_true rfl)⟩ (Nat.le_of_ble_eq_true rfl) (fun _ h => by cases h) (fun _ => rfl) (fun r_23 C_24 d_26 q_25 => ?_)
    obtain ⟨q_25a, h⟩ := q_25
    subst d_26
    show AW p l e _ s m args below meth c E M_G_loose true _ n _ _ _ [(2, v0), (0, v1), (0, v2), (1, v3), (9, 0), (0, v5), (0, v6), (0, r_18), (9, 0), (9, 0), (9, 0)] [(0, r_23)] C_24
    refine AW.istore [(2, v0), (0, v1), (0, v2), (1, v3), (9, 0), (0, v5), (0, v6), (0, r_18), (0, r_23), (9, 0), (9, 0)] (dc hd_G_loose 32 rfl) (Nat.le_of_ble_eq_true rfl) rfl rfl ?_
    refine AW.ra_n (dc hd_G_loose 33 rfl) rfl rfl rfl ?_
    refine AW.iload (dc hd_G_loose 34 rfl) rfl ?_
    refine AW.iload (dc hd_G_loose 35 rfl) rfl ?_
    refine AW.callV (As := [(0, r_18), (0, r_23)]) (rest := []) (ci := 10) (m_G_isFree l E n C_24 v0 r_18 r_23 _ h) cb_10_284 im_G_isFree se_G_isFree ⟨_, _, rfl⟩ (by decide) (dc hd_G_loose 36 rfl) g_19 rfl rfl ⟨Nat.le_of_ble_eq_true rfl, Nat.le_of_ble_eq_true rfl⟩ ⟨(Nat.le_of_ble_eq_true rfl), (Nat.le_of_ble_eq_true rfl)⟩ (Nat.le_of_ble_eq_true rfl) (fun _ h => by cases h) (fun _ => rfl) (fun r_27 C_28 d_30 q_29 => ?_)
    obtain ⟨q_29a, h⟩ := q_29
    subst d_30
    show AW p l e _ s m args below meth c E M_G_loose true _ n _ _ _ [(2, v0), (0, v1), (0, v2), (1, v3), (9, 0), (0, v5), (0, v6), (0, r_18), (0, r_23), (9, 0), (9, 0)] [(0, r_27)] C_28
    refine AW.istore [(2, v0), (0, v1), (0, v2), (1, v3), (9, 0), (0, v5), (0, v6), (0, r_18), (0, r_23), (0, r_27), (9, 0)] (dc hd_G_loose 37 rfl) (Nat.le_of_ble_eq_true rfl) rfl rfl ?_
    refine AW.iload (dc hd_G_loose 38 rfl) rfl ?_
    refine AW.if_eq (t := 90) (dc hd_G_loose 39 rfl) (by decide) (fun c_31 => ?_) (fun c_31 => ?_)
    · have h := h.1 c_31
      refine AW.iconst (dc hd_G_loose 47 rfl) (by decide) ?_
      refine AW.fgt [(2, v0), (0, v1), (0, v2), (1, v3), (9, 0), (0, v5), (0, v6), (9, 0), (9, 0), (0, r_27), (9, 0)] ⟨.inl rfl, .inl rfl, .inl rfl, .inl rfl, .inl rfl, .inl rfl, .inl rfl, .inr rfl, .inr rfl, .inl rfl, .inl rfl, trivial⟩ ?_
      exact aJ_G_loose_91 n C_28 v0 v1 v2 v3 v5 v6 r_27 1 kz42 Q hkz42 h
    · have h := h.2 c_31
      refine AW.ra_n (dc hd_G_loose 40 rfl) rfl rfl rfl ?_
      refine AW.ra_n (dc hd_G_loose 41 rfl) rfl rfl rfl ?_
      refine AW.getf fl_10_275 (dc hd_G_loose 42 rfl) g_19 ?_
      refine AW.ra_n (dc hd_G_loose 43 rfl) rfl rfl rfl ?_
      refine AW.getf fl_10_278 (dc hd_G_loose 44 rfl) g_19 ?_
      refine AW.callV (As := [(0, C_28 v0.toNat 23), (0, C_28 v0.toNat 24)]) (rest := []) (ci := 10) (m_G_searched l E n C_28 v0 (C_28 v0.toNat 23) (C_28 v0.toNat 24) _ h) cb_10_313 im_G_searched se_G_searched ⟨_, _, rfl⟩ (by decide) (dc hd_G_loose 45 rfl) g_19 rfl rfl ⟨Nat.le_of_ble_eq_true rfl, Nat.le_of_ble_eq_true rfl⟩ ⟨(Nat.le_of_ble_eq_true rfl), (Nat.le_of_ble_eq_true rfl)⟩ (Nat.le_of_ble_eq_true rfl) (fun _ h => by cases h) (fun _ => rfl) (fun r_47 C_48 d_50 q_49 => ?_)
      obtain ⟨q_49a, h⟩ := q_49
      subst d_50
      show AW p l e _ s m args below meth c E M_G_loose true _ n _ _ _ [(2, v0), (0, v1), (0, v2), (1, v3), (9, 0), (0, v5), (0, v6), (0, r_18), (0, r_23), (0, r_27), (9, 0)] [(0, r_47)] C_48
      refine AW.goto (t := 91) (dc hd_G_loose 46 rfl) (by decide) ?_
      refine AW.fgt [(2, v0), (0, v1), (0, v2), (1, v3), (9, 0), (0, v5), (0, v6), (9, 0), (9, 0), (0, r_27), (9, 0)] ⟨.inl rfl, .inl rfl, .inl rfl, .inl rfl, .inl rfl, .inl rfl, .inl rfl, .inr rfl, .inr rfl, .inl rfl, .inl rfl, trivial⟩ ?_
      exact aJ_G_loose_91 n C_48 v0 v1 v2 v3 v5 v6 r_27 r_47 kz42 Q hkz42 h
theorem aB_G_loose_42 (n : Nat) (v0 v1 v2 v3 : Int) (Q : Int → Cn → Prop) : ∀ (f : Nat) (z : Cn × Int × Int), lp (B_G_loose_42 n v0 v1 v2 v3 Q) f z → AW p l e R s m args below meth c E M_G_loose true (fun r C2 n2 => n2 = n ∧ Q r C2) n 0 0 42 [(2, v0), (0, v1), (0, v2), (1, v3), (9, 0), (0, z.2.1), (0, z.2.2), (9, 0), (9, 0), (9, 0), (9, 0)] [] (z.1) := by
  intro f
  induction f with
  | zero => intro z h; exact False.elim h
  | succ f ih => intro z h; exact bB_G_loose_42 n v0 v1 v2 v3 Q (lp (B_G_loose_42 n v0 v1 v2 v3 Q) f) (fun a0 a1 a2 h => ih (a0, a1, a2) h) z.1 z.2.1 z.2.2 h
def P_G_loose (n : Nat) (C : Cn) (v0 v1 : Int) (Q : Int → Cn → Prop) : Prop :=
  P_G_in n C v1 1 20 (fun (r_1 : Int) => (r_1 = 0 → (okO n v0 10 ∧ (P_G_finds n C v0 0 (fun (r_52 : Int) (C_54 : Cn) => Q r_52 C_54)))) ∧ (¬ r_1 = 0 → (okO n v0 10 ∧ (P_G_maps n C v0 (fun (_ : Int) (C_7 : Cn) => P_G_asNumbered n C_7 v0 (fun (_ : Int) (C_11 : Cn) => ∀ v2_15 : Int, v2_15 = C_11 v0.toNat 4 → (∀ v3_16 : Int, v3_16 = C_11 v0.toNat 3 → (∃ f_51 : Nat, lp (B_G_loose_42 n v0 v1 v2_15 v3_16 Q) f_51 (C_11, 0, 0)))))))))
theorem m_G_loose (l : Launch) (E : Ev) (n : Nat) (C : Cn) (v0 v1 : Int) (Q : Int → Cn → Prop) (h : P_G_loose n C v0 v1 Q) : MA l y_G_loose M_G_loose E true C n [(2, v0), (0, v1)] (fun r C2 n2 => n2 = n ∧ Q r C2) := by
  refine MA.of (by decide) rfl rfl 9 rfl (fun p e s m args below meth c => ?_)
  show AW p l e _ s m args below meth c E M_G_loose true _ n 0 0 0 [(2, v0), (0, v1), (9, 0), (9, 0), (9, 0), (9, 0), (9, 0), (9, 0), (9, 0), (9, 0), (9, 0)] [] C
  unfold P_G_loose at h
  refine AW.iload_n (dc hd_G_loose 0 rfl) rfl ?_
  refine AW.i2l (dc hd_G_loose 1 rfl) ?_
  refine AW.lconst (v := 1) (dc hd_G_loose 2 rfl) (by decide) (by decide +kernel) ?_
  refine AW.ldc2 (v := 20) (dc hd_G_loose 3 rfl) ck_10_377 (by decide) rfl ?_
  refine AW.callS (As := [(1, v1), (1, 1), (1, 20)]) (rest := []) (m_G_in l E n C v1 1 20 _ h) cb_10_113 sm_G_in (dc hd_G_loose 4 rfl) rfl rfl ⟨Nat.le_of_ble_eq_true rfl, Nat.le_of_ble_eq_true rfl⟩ ⟨(Nat.le_of_ble_eq_true rfl), (Nat.le_of_ble_eq_true rfl)⟩ (Nat.le_of_ble_eq_true rfl) (fun _ h => by cases h) (fun _ => rfl) (fun r_1 D_3 d_4 q_2 => ?_)
  obtain ⟨q_2a, q_2b, h⟩ := q_2
  subst D_3
  subst d_4
  show AW p l e _ s m args below meth c E M_G_loose true _ n _ _ _ [(2, v0), (0, v1), (9, 0), (9, 0), (9, 0), (9, 0), (9, 0), (9, 0), (9, 0), (9, 0), (9, 0)] [(0, r_1)] C
  refine AW.if_ne (t := 18) (dc hd_G_loose 5 rfl) (by decide) (fun c_5 => ?_) (fun c_5 => ?_)
  · have h := h.2 c_5
    refine AW.ra_n (dc hd_G_loose 10 rfl) rfl rfl rfl ?_
    obtain ⟨g_6, h⟩ := h
    refine AW.callV (As := []) (rest := []) (ci := 10) (m_G_maps l E n C v0 _ h) cb_10_211 im_G_maps se_G_maps ⟨_, _, rfl⟩ (by decide) (dc hd_G_loose 11 rfl) g_6 rfl rfl ⟨Nat.le_of_ble_eq_true rfl, Nat.le_of_ble_eq_true rfl⟩ ⟨(Nat.le_of_ble_eq_true rfl), (Nat.le_of_ble_eq_true rfl)⟩ (Nat.le_of_ble_eq_true rfl) (fun _ h => by cases h) (fun _ => rfl) (fun u_9 C_7 d_10 q_8 => ?_)
    obtain ⟨q_8a, h⟩ := q_8
    subst d_10
    show AW p l e _ s m args below meth c E M_G_loose true _ n _ _ _ [(2, v0), (0, v1), (9, 0), (9, 0), (9, 0), (9, 0), (9, 0), (9, 0), (9, 0), (9, 0), (9, 0)] [] C_7
    refine AW.ra_n (dc hd_G_loose 12 rfl) rfl rfl rfl ?_
    refine AW.callV (As := []) (rest := []) (ci := 10) (m_G_asNumbered l E n C_7 v0 _ h) cb_10_310 im_G_asNumbered se_G_asNumbered ⟨_, _, rfl⟩ (by decide) (dc hd_G_loose 13 rfl) g_6 rfl rfl ⟨Nat.le_of_ble_eq_true rfl, Nat.le_of_ble_eq_true rfl⟩ ⟨(Nat.le_of_ble_eq_true rfl), (Nat.le_of_ble_eq_true rfl)⟩ (Nat.le_of_ble_eq_true rfl) (fun _ h => by cases h) (fun _ => rfl) (fun u_13 C_11 d_14 q_12 => ?_)
    obtain ⟨q_12a, h⟩ := q_12
    subst d_14
    show AW p l e _ s m args below meth c E M_G_loose true _ n _ _ _ [(2, v0), (0, v1), (9, 0), (9, 0), (9, 0), (9, 0), (9, 0), (9, 0), (9, 0), (9, 0), (9, 0)] [] C_11
    refine AW.ra_n (dc hd_G_loose 14 rfl) rfl rfl rfl ?_
    refine AW.getf fl_10_14 (dc hd_G_loose 15 rfl) g_6 ?_
    refine AW.nm (fun v2_15 ev2_15 => ?_)
    have h := h v2_15 ev2_15
    refine AW.istore_n [(2, v0), (0, v1), (0, v2_15), (9, 0), (9, 0), (9, 0), (9, 0), (9, 0), (9, 0), (9, 0), (9, 0)] (dc hd_G_loose 16 rfl) (Nat.le_of_ble_eq_true rfl) rfl rfl ?_
    refine AW.ra_n (dc hd_G_loose 17 rfl) rfl rfl rfl ?_
    refine AW.getf fl_10_379 (dc hd_G_loose 18 rfl) g_6 ?_
    refine AW.nm (fun v3_16 ev3_16 => ?_)
    have h := h v3_16 ev3_16
    refine AW.lstore_n [(2, v0), (0, v1), (0, v2_15), (1, v3_16), (9, 0), (9, 0), (9, 0), (9, 0), (9, 0), (9, 0), (9, 0)] (dc hd_G_loose 19 rfl) (Nat.le_of_ble_eq_true rfl) rfl rfl ?_
    refine AW.iconst (dc hd_G_loose 20 rfl) (by decide) ?_
    refine AW.istore [(2, v0), (0, v1), (0, v2_15), (1, v3_16), (9, 0), (0, 0), (9, 0), (9, 0), (9, 0), (9, 0), (9, 0)] (dc hd_G_loose 21 rfl) (Nat.le_of_ble_eq_true rfl) rfl rfl ?_
    refine AW.iconst (dc hd_G_loose 22 rfl) (by decide) ?_
    refine AW.istore [(2, v0), (0, v1), (0, v2_15), (1, v3_16), (9, 0), (0, 0), (0, 0), (9, 0), (9, 0), (9, 0), (9, 0)] (dc hd_G_loose 23 rfl) (Nat.le_of_ble_eq_true rfl) rfl rfl ?_
    obtain ⟨f_51, h⟩ := h
    exact aB_G_loose_42 n v0 v1 v2_15 v3_16 Q f_51 (C_11, 0, 0) h
  · have h := h.1 c_5
    refine AW.ra_n (dc hd_G_loose 6 rfl) rfl rfl rfl ?_
    refine AW.iconst (dc hd_G_loose 7 rfl) (by decide) ?_
    obtain ⟨g_53, h⟩ := h
    refine AW.callV (As := [(0, 0)]) (rest := []) (ci := 10) (m_G_finds l E n C v0 0 _ h) cb_10_186 im_G_finds se_G_finds ⟨_, _, rfl⟩ (by decide) (dc hd_G_loose 8 rfl) g_53 rfl rfl ⟨Nat.le_of_ble_eq_true rfl, Nat.le_of_ble_eq_true rfl⟩ ⟨(Nat.le_of_ble_eq_true rfl), (Nat.le_of_ble_eq_true rfl)⟩ (Nat.le_of_ble_eq_true rfl) (fun _ h => by cases h) (fun _ => rfl) (fun r_52 C_54 d_56 q_55 => ?_)
    obtain ⟨q_55a, h⟩ := q_55
    subst d_56
    show AW p l e _ s m args below meth c E M_G_loose true _ n _ _ _ [(2, v0), (0, v1), (9, 0), (9, 0), (9, 0), (9, 0), (9, 0), (9, 0), (9, 0), (9, 0), (9, 0)] [(0, r_52)] C_54
    exact AW.iret (dc hd_G_loose 9 rfl) rfl rfl (Nat.le_of_ble_eq_true rfl) (Nat.le_of_ble_eq_true rfl) ⟨rfl, h⟩
def J_G_isTimesTooMuch_41 (n : Nat) (C : Cn) (s0 : Int) (Q : Int → Prop) : Prop :=
  (s0 = 0 ∨ s0 = 1) ∧ (Q s0)
theorem aJ_G_isTimesTooMuch_41 (n : Nat) (C : Cn) (s0 : Int) (Q : Int → Prop) (h : J_G_isTimesTooMuch_41 n C s0 Q) : AW p l e R s m args below meth c E M_G_isTimesTooMuch true (fun r C2 n2 => C2 = C ∧ n2 = n ∧ Q r) n 0 0 41 [(9, 0), (9, 0), (9, 0), (9, 0), (9, 0), (9, 0)] [(0, s0)] C := by
  unfold J_G_isTimesTooMuch_41 at h
  obtain ⟨g_5, h⟩ := h
  exact AW.zret (dc hd_G_isTimesTooMuch 25 rfl) rfl rfl (Nat.le_of_ble_eq_true rfl) (Nat.le_of_ble_eq_true rfl) g_5 ⟨rfl, rfl, h⟩
def J_G_isTimesTooMuch_27 (n : Nat) (C : Cn) (v0 v2 v4 : Int) (Q : Int → Prop) : Prop :=
  v0 ≠ 0 ∧ (J_G_isTimesTooMuch_41 n C (if w64 (Int.tdiv v4 v0) = v2 then 0 else 1) Q)
theorem aJ_G_isTimesTooMuch_27 (n : Nat) (C : Cn) (v0 v2 v4 : Int) (Q : Int → Prop) (h : J_G_isTimesTooMuch_27 n C v0 v2 v4 Q) : AW p l e R s m args below meth c E M_G_isTimesTooMuch true (fun r C2 n2 => C2 = C ∧ n2 = n ∧ Q r) n 0 0 27 [(1, v0), (9, 0), (1, v2), (9, 0), (1, v4), (9, 0)] [] C := by
  unfold J_G_isTimesTooMuch_27 at h
  refine AW.lload (dc hd_G_isTimesTooMuch 16 rfl) rfl ?_
  refine AW.lload_n (dc hd_G_isTimesTooMuch 17 rfl) rfl ?_
  obtain ⟨g_3, h⟩ := h
  refine AW.ldiv (dc hd_G_isTimesTooMuch 18 rfl) g_3 ?_
  refine AW.lload_n (dc hd_G_isTimesTooMuch 19 rfl) rfl ?_
  refine AW.lc (dc hd_G_isTimesTooMuch 20 rfl) ?_
  refine AW.if_eq (t := 40) (dc hd_G_isTimesTooMuch 21 rfl) (by decide) (fun c_4 => ?_) (fun c_4 => ?_)
  · replace c_4 := (lc_eq _ _).mp c_4
    simp only [if_pos (show w64 (Int.tdiv v4 v0) = v2 from c_4)] at h
    refine AW.iconst (dc hd_G_isTimesTooMuch 24 rfl) (by decide) ?_
    refine AW.fgt [(9, 0), (9, 0), (9, 0), (9, 0), (9, 0), (9, 0)] ⟨.inr rfl, .inl rfl, .inr rfl, .inl rfl, .inr rfl, .inl rfl, trivial⟩ ?_
    exact aJ_G_isTimesTooMuch_41 n C _ Q h
  · replace c_4 : ¬ w64 (Int.tdiv v4 v0) = v2 := fun q => c_4 ((lc_eq _ _).mpr q)
    simp only [if_neg (show ¬ (w64 (Int.tdiv v4 v0) = v2) from c_4)] at h
    refine AW.iconst (dc hd_G_isTimesTooMuch 22 rfl) (by decide) ?_
    refine AW.goto (t := 41) (dc hd_G_isTimesTooMuch 23 rfl) (by decide) ?_
    refine AW.fgt [(9, 0), (9, 0), (9, 0), (9, 0), (9, 0), (9, 0)] ⟨.inr rfl, .inl rfl, .inr rfl, .inl rfl, .inr rfl, .inl rfl, trivial⟩ ?_
    exact aJ_G_isTimesTooMuch_41 n C _ Q h
def P_G_isTimesTooMuch (n : Nat) (C : Cn) (v0 v2 : Int) (Q : Int → Prop) : Prop :=
  (v0 = 0 → (Q 0)) ∧ (¬ v0 = 0 → ((v0 = (-1) → ((v2 = (-9223372036854775808) → (Q 1)) ∧ (¬ v2 = (-9223372036854775808) → (J_G_isTimesTooMuch_27 n C v0 v2 (w64 (v0 * v2)) Q)))) ∧ (¬ v0 = (-1) → (J_G_isTimesTooMuch_27 n C v0 v2 (w64 (v0 * v2)) Q))))
theorem m_G_isTimesTooMuch (l : Launch) (E : Ev) (n : Nat) (C : Cn) (v0 v2 : Int) (Q : Int → Prop) (h : P_G_isTimesTooMuch n C v0 v2 Q) : MA l y_G_isTimesTooMuch M_G_isTimesTooMuch E true C n [(1, v0), (1, v2)] (fun r C2 n2 => C2 = C ∧ n2 = n ∧ Q r) := by
  refine MA.of (by decide) rfl rfl 2 rfl (fun p e s m args below meth c => ?_)
  show AW p l e _ s m args below meth c E M_G_isTimesTooMuch true _ n 0 0 0 [(1, v0), (9, 0), (1, v2), (9, 0), (9, 0), (9, 0)] [] C
  unfold P_G_isTimesTooMuch at h
  refine AW.lload_n (dc hd_G_isTimesTooMuch 0 rfl) rfl ?_
  refine AW.lload_n (dc hd_G_isTimesTooMuch 1 rfl) rfl ?_
  refine AW.lmul (dc hd_G_isTimesTooMuch 2 rfl) ?_
  refine AW.lstore [(1, v0), (9, 0), (1, v2), (9, 0), (1, w64 (v0 * v2)), (9, 0)] (dc hd_G_isTimesTooMuch 3 rfl) (Nat.le_of_ble_eq_true rfl) rfl rfl ?_
  refine AW.lload_n (dc hd_G_isTimesTooMuch 4 rfl) rfl ?_
  refine AW.lconst (v := 0) (dc hd_G_isTimesTooMuch 5 rfl) (by decide) (by decide +kernel) ?_
  refine AW.lc (dc hd_G_isTimesTooMuch 6 rfl) ?_
  refine AW.if_eq (t := 40) (dc hd_G_isTimesTooMuch 7 rfl) (by decide) (fun c_1 => ?_) (fun c_1 => ?_)
  · replace c_1 := (lc_eq _ _).mp c_1
    have h := h.1 c_1
    refine AW.iconst (dc hd_G_isTimesTooMuch 24 rfl) (by decide) ?_
    exact AW.zret (dc hd_G_isTimesTooMuch 25 rfl) rfl rfl (Nat.le_of_ble_eq_true rfl) (Nat.le_of_ble_eq_true rfl) (by decide) ⟨rfl, rfl, h⟩
  · replace c_1 : ¬ v0 = 0 := fun q => c_1 ((lc_eq _ _).mpr q)
    have h := h.2 c_1
    refine AW.lload_n (dc hd_G_isTimesTooMuch 8 rfl) rfl ?_
    refine AW.ldc2 (v := -1) (dc hd_G_isTimesTooMuch 9 rfl) ck_10_390 (by decide) rfl ?_
    refine AW.lc (dc hd_G_isTimesTooMuch 10 rfl) ?_
    refine AW.if_ne (t := 27) (dc hd_G_isTimesTooMuch 11 rfl) (by decide) (fun c_2 => ?_) (fun c_2 => ?_)
    · replace c_2 : ¬ v0 = (-1) := fun q => c_2 ((lc_eq _ _).mpr q)
      have h := h.2 c_2
      exact aJ_G_isTimesTooMuch_27 n C v0 v2 (w64 (v0 * v2)) Q h
    · replace c_2 := (lc_eq _ _).mp c_2
      have h := h.1 c_2
      refine AW.lload_n (dc hd_G_isTimesTooMuch 12 rfl) rfl ?_
      refine AW.ldc2 (v := -9223372036854775808) (dc hd_G_isTimesTooMuch 13 rfl) ck_10_394 (by decide) rfl ?_
      refine AW.lc (dc hd_G_isTimesTooMuch 14 rfl) ?_
      refine AW.if_eq (t := 36) (dc hd_G_isTimesTooMuch 15 rfl) (by decide) (fun c_6 => ?_) (fun c_6 => ?_)
      · replace c_6 := (lc_eq _ _).mp c_6
        have h := h.1 c_6
        refine AW.iconst (dc hd_G_isTimesTooMuch 22 rfl) (by decide) ?_
        refine AW.goto (t := 41) (dc hd_G_isTimesTooMuch 23 rfl) (by decide) ?_
        exact AW.zret (dc hd_G_isTimesTooMuch 25 rfl) rfl rfl (Nat.le_of_ble_eq_true rfl) (Nat.le_of_ble_eq_true rfl) (by decide) ⟨rfl, rfl, h⟩
      · replace c_6 : ¬ v2 = (-9223372036854775808) := fun q => c_6 ((lc_eq _ _).mpr q)
        have h := h.2 c_6
        exact aJ_G_isTimesTooMuch_27 n C v0 v2 (w64 (v0 * v2)) Q h
def J_G_book_52 (n : Nat) (C : Cn) (v0 v1 v2 : Int) (Q : Int → Cn → Prop) : Prop :=
  (v1 = 0 → (okO n v0 10 ∧ (∀ C_19 : Cn, C_19 = wr C v0.toNat 3 (w64 (C v0.toNat 3 + v2)) → (Q (C_19 v0.toNat 3) C_19)))) ∧ (¬ v1 = 0 → (okO n v0 10 ∧ (∀ C_17 : Cn, C_17 = wr C v0.toNat 3 (w64 ((C v0.toNat 3) * v2)) → (Q (C_17 v0.toNat 3) C_17))))
theorem aJ_G_book_52 (n : Nat) (C : Cn) (v0 v1 v2 : Int) (Q : Int → Cn → Prop) (h : J_G_book_52 n C v0 v1 v2 Q) : AW p l e R s m args below meth c E M_G_book true (fun r C2 n2 => n2 = n ∧ Q r C2) n 0 0 52 [(2, v0), (0, v1), (1, v2), (9, 0)] [] C := by
  unfold J_G_book_52 at h
  refine AW.ra_n (dc hd_G_book 27 rfl) rfl rfl rfl ?_
  refine AW.iload_n (dc hd_G_book 28 rfl) rfl ?_
  refine AW.if_ne (t := 66) (dc hd_G_book 29 rfl) (by decide) (fun c_15 => ?_) (fun c_15 => ?_)
  · have h := h.2 c_15
    refine AW.ra_n (dc hd_G_book 35 rfl) rfl rfl rfl ?_
    obtain ⟨g_16, h⟩ := h
    refine AW.getf fl_10_379 (dc hd_G_book 36 rfl) g_16 ?_
    refine AW.lload_n (dc hd_G_book 37 rfl) rfl ?_
    refine AW.lmul (dc hd_G_book 38 rfl) ?_
    refine AW.nputJ fl_10_379 (dc hd_G_book 39 rfl) g_16 (fun C_17 eC_17 => ?_)
    have h := h C_17 eC_17
    refine AW.ra_n (dc hd_G_book 40 rfl) rfl rfl rfl ?_
    refine AW.getf fl_10_379 (dc hd_G_book 41 rfl) g_16 ?_
    exact AW.lret (dc hd_G_book 42 rfl) rfl rfl (Nat.le_of_ble_eq_true rfl) (Nat.le_of_ble_eq_true rfl) ⟨rfl, h⟩
  · have h := h.1 c_15
    refine AW.ra_n (dc hd_G_book 30 rfl) rfl rfl rfl ?_
    obtain ⟨g_18, h⟩ := h
    refine AW.getf fl_10_379 (dc hd_G_book 31 rfl) g_18 ?_
    refine AW.lload_n (dc hd_G_book 32 rfl) rfl ?_
    refine AW.ladd (dc hd_G_book 33 rfl) ?_
    refine AW.goto (t := 72) (dc hd_G_book 34 rfl) (by decide) ?_
    refine AW.nputJ fl_10_379 (dc hd_G_book 39 rfl) g_18 (fun C_19 eC_19 => ?_)
    have h := h C_19 eC_19
    refine AW.ra_n (dc hd_G_book 40 rfl) rfl rfl rfl ?_
    refine AW.getf fl_10_379 (dc hd_G_book 41 rfl) g_18 ?_
    exact AW.lret (dc hd_G_book 42 rfl) rfl rfl (Nat.le_of_ble_eq_true rfl) (Nat.le_of_ble_eq_true rfl) ⟨rfl, h⟩
def P_G_book (n : Nat) (C : Cn) (v0 v1 v2 : Int) (Q : Int → Cn → Prop) : Prop :=
  P_G_in n C v1 0 1 (fun (r_1 : Int) => (r_1 = 0 → (okO n v0 10 ∧ (P_G_findsLong n C v0 0 (fun (r_35 : Int) (C_37 : Cn) => Q r_35 C_37)))) ∧ (¬ r_1 = 0 → ((v1 = 0 → (okO n v0 10 ∧ (P_G_isTooMuch n C (C v0.toNat 3) v2 (fun (r_25 : Int) => (r_25 = 0 → (J_G_book_52 n C v0 v1 v2 Q)) ∧ (¬ r_25 = 0 → (P_G_findsLong n C v0 7 (fun (r_31 : Int) (C_32 : Cn) => Q r_31 C_32))))))) ∧ (¬ v1 = 0 → (okO n v0 10 ∧ (P_G_isTimesTooMuch n C (C v0.toNat 3) v2 (fun (r_9 : Int) => (r_9 = 0 → (J_G_book_52 n C v0 v1 v2 Q)) ∧ (¬ r_9 = 0 → (P_G_findsLong n C v0 7 (fun (r_20 : Int) (C_21 : Cn) => Q r_20 C_21))))))))))
theorem m_G_book (l : Launch) (E : Ev) (n : Nat) (C : Cn) (v0 v1 v2 : Int) (Q : Int → Cn → Prop) (h : P_G_book n C v0 v1 v2 Q) : MA l y_G_book M_G_book E true C n [(2, v0), (0, v1), (1, v2)] (fun r C2 n2 => n2 = n ∧ Q r C2) := by
  refine MA.of (by decide) rfl rfl 0 rfl (fun p e s m args below meth c => ?_)
  show AW p l e _ s m args below meth c E M_G_book true _ n 0 0 0 [(2, v0), (0, v1), (1, v2), (9, 0)] [] C
  unfold P_G_book at h
  refine AW.iload_n (dc hd_G_book 0 rfl) rfl ?_
  refine AW.i2l (dc hd_G_book 1 rfl) ?_
  refine AW.lconst (v := 0) (dc hd_G_book 2 rfl) (by decide) (by decide +kernel) ?_
  refine AW.lconst (v := 1) (dc hd_G_book 3 rfl) (by decide) (by decide +kernel) ?_
  refine AW.callS (As := [(1, v1), (1, 0), (1, 1)]) (rest := []) (m_G_in l E n C v1 0 1 _ h) cb_10_113 sm_G_in (dc hd_G_book 4 rfl) rfl rfl ⟨Nat.le_of_ble_eq_true rfl, Nat.le_of_ble_eq_true rfl⟩ ⟨(Nat.le_of_ble_eq_true rfl), (Nat.le_of_ble_eq_true rfl)⟩ (Nat.le_of_ble_eq_true rfl) (fun _ h => by cases h) (fun _ => rfl) (fun r_1 D_3 d_4 q_2 => ?_)
  obtain ⟨q_2a, q_2b, h⟩ := q_2
  subst D_3
  subst d_4
  show AW p l e _ s m args below meth c E M_G_book true _ n _ _ _ [(2, v0), (0, v1), (1, v2), (9, 0)] [(0, r_1)] C
  refine AW.if_ne (t := 16) (dc hd_G_book 5 rfl) (by decide) (fun c_5 => ?_) (fun c_5 => ?_)
  · have h := h.2 c_5
    refine AW.iload_n (dc hd_G_book 10 rfl) rfl ?_
    refine AW.if_ne (t := 34) (dc hd_G_book 11 rfl) (by decide) (fun c_7 => ?_) (fun c_7 => ?_)
    · have h := h.2 c_7
      refine AW.ra_n (dc hd_G_book 18 rfl) rfl rfl rfl ?_
      obtain ⟨g_8, h⟩ := h
      refine AW.getf fl_10_379 (dc hd_G_book 19 rfl) g_8 ?_
      refine AW.lload_n (dc hd_G_book 20 rfl) rfl ?_
      refine AW.callS (As := [(1, C v0.toNat 3), (1, v2)]) (rest := []) (m_G_isTimesTooMuch l E n C (C v0.toNat 3) v2 _ h) cb_10_400 sm_G_isTimesTooMuch (dc hd_G_book 21 rfl) rfl rfl ⟨Nat.le_of_ble_eq_true rfl, Nat.le_of_ble_eq_true rfl⟩ ⟨(Nat.le_of_ble_eq_true rfl), (Nat.le_of_ble_eq_true rfl)⟩ (Nat.le_of_ble_eq_true rfl) (fun _ h => by cases h) (fun _ => rfl) (fun r_9 D_11 d_12 q_10 => ?_)
      obtain ⟨q_10a, q_10b, h⟩ := q_10
      subst D_11
      subst d_12
      show AW p l e _ s m args below meth c E M_G_book true _ n _ _ _ [(2, v0), (0, v1), (1, v2), (9, 0)] [(0, r_9)] C
      refine AW.if_eq (t := 52) (dc hd_G_book 22 rfl) (by decide) (fun c_13 => ?_) (fun c_13 => ?_)
      · have h := h.1 c_13
        exact aJ_G_book_52 n C v0 v1 v2 Q h
      · have h := h.2 c_13
        refine AW.ra_n (dc hd_G_book 23 rfl) rfl rfl rfl ?_
        refine AW.bipush (dc hd_G_book 24 rfl) (by decide) (by decide +kernel) ?_
        refine AW.callV (As := [(0, 7)]) (rest := []) (ci := 10) (m_G_findsLong l E n C v0 7 _ h) cb_10_396 im_G_findsLong se_G_findsLong ⟨_, _, rfl⟩ (by decide) (dc hd_G_book 25 rfl) g_8 rfl rfl ⟨Nat.le_of_ble_eq_true rfl, Nat.le_of_ble_eq_true rfl⟩ ⟨(Nat.le_of_ble_eq_true rfl), (Nat.le_of_ble_eq_true rfl)⟩ (Nat.le_of_ble_eq_true rfl) (fun _ h => by cases h) (fun _ => rfl) (fun r_20 C_21 d_23 q_22 => ?_)
        obtain ⟨q_22a, h⟩ := q_22
        subst d_23
        show AW p l e _ s m args below meth c E M_G_book true _ n _ _ _ [(2, v0), (0, v1), (1, v2), (9, 0)] [(1, r_20)] C_21
        exact AW.lret (dc hd_G_book 26 rfl) rfl rfl (Nat.le_of_ble_eq_true rfl) (Nat.le_of_ble_eq_true rfl) ⟨rfl, h⟩
    · have h := h.1 c_7
      refine AW.ra_n (dc hd_G_book 12 rfl) rfl rfl rfl ?_
      obtain ⟨g_24, h⟩ := h
      refine AW.getf fl_10_379 (dc hd_G_book 13 rfl) g_24 ?_
      refine AW.lload_n (dc hd_G_book 14 rfl) rfl ?_
      refine AW.callS (As := [(1, C v0.toNat 3), (1, v2)]) (rest := []) (m_G_isTooMuch l E n C (C v0.toNat 3) v2 _ h) cb_10_386 sm_G_isTooMuch (dc hd_G_book 15 rfl) rfl rfl ⟨Nat.le_of_ble_eq_true rfl, Nat.le_of_ble_eq_true rfl⟩ ⟨(Nat.le_of_ble_eq_true rfl), (Nat.le_of_ble_eq_true rfl)⟩ (Nat.le_of_ble_eq_true rfl) (fun _ h => by cases h) (fun _ => rfl) (fun r_25 D_27 d_28 q_26 => ?_)
      obtain ⟨q_26a, q_26b, h⟩ := q_26
      subst D_27
      subst d_28
      show AW p l e _ s m args below meth c E M_G_book true _ n _ _ _ [(2, v0), (0, v1), (1, v2), (9, 0)] [(0, r_25)] C
      refine AW.if_eq (t := 52) (dc hd_G_book 16 rfl) (by decide) (fun c_29 => ?_) (fun c_29 => ?_)
      · have h := h.1 c_29
        exact aJ_G_book_52 n C v0 v1 v2 Q h
      · have h := h.2 c_29
        refine AW.goto (t := 45) (dc hd_G_book 17 rfl) (by decide) ?_
        refine AW.ra_n (dc hd_G_book 23 rfl) rfl rfl rfl ?_
        refine AW.bipush (dc hd_G_book 24 rfl) (by decide) (by decide +kernel) ?_
        refine AW.callV (As := [(0, 7)]) (rest := []) (ci := 10) (m_G_findsLong l E n C v0 7 _ h) cb_10_396 im_G_findsLong se_G_findsLong ⟨_, _, rfl⟩ (by decide) (dc hd_G_book 25 rfl) g_24 rfl rfl ⟨Nat.le_of_ble_eq_true rfl, Nat.le_of_ble_eq_true rfl⟩ ⟨(Nat.le_of_ble_eq_true rfl), (Nat.le_of_ble_eq_true rfl)⟩ (Nat.le_of_ble_eq_true rfl) (fun _ h => by cases h) (fun _ => rfl) (fun r_31 C_32 d_34 q_33 => ?_)
        obtain ⟨q_33a, h⟩ := q_33
        subst d_34
        show AW p l e _ s m args below meth c E M_G_book true _ n _ _ _ [(2, v0), (0, v1), (1, v2), (9, 0)] [(1, r_31)] C_32
        exact AW.lret (dc hd_G_book 26 rfl) rfl rfl (Nat.le_of_ble_eq_true rfl) (Nat.le_of_ble_eq_true rfl) ⟨rfl, h⟩
  · have h := h.1 c_5
    refine AW.ra_n (dc hd_G_book 6 rfl) rfl rfl rfl ?_
    refine AW.iconst (dc hd_G_book 7 rfl) (by decide) ?_
    obtain ⟨g_36, h⟩ := h
    refine AW.callV (As := [(0, 0)]) (rest := []) (ci := 10) (m_G_findsLong l E n C v0 0 _ h) cb_10_396 im_G_findsLong se_G_findsLong ⟨_, _, rfl⟩ (by decide) (dc hd_G_book 8 rfl) g_36 rfl rfl ⟨Nat.le_of_ble_eq_true rfl, Nat.le_of_ble_eq_true rfl⟩ ⟨(Nat.le_of_ble_eq_true rfl), (Nat.le_of_ble_eq_true rfl)⟩ (Nat.le_of_ble_eq_true rfl) (fun _ h => by cases h) (fun _ => rfl) (fun r_35 C_37 d_39 q_38 => ?_)
    obtain ⟨q_38a, h⟩ := q_38
    subst d_39
    show AW p l e _ s m args below meth c E M_G_book true _ n _ _ _ [(2, v0), (0, v1), (1, v2), (9, 0)] [(1, r_35)] C_37
    exact AW.lret (dc hd_G_book 9 rfl) rfl rfl (Nat.le_of_ble_eq_true rfl) (Nat.le_of_ble_eq_true rfl) ⟨rfl, h⟩
def P_G_seed (n : Nat) (C : Cn) (v0 v1 : Int) (Q : Int → Cn → Prop) : Prop :=
  okO n v0 10 ∧ (∀ C_2 : Cn, C_2 = wr C v0.toNat 4 v1 → (Q (C v0.toNat 4) C_2))
theorem m_G_seed (l : Launch) (E : Ev) (n : Nat) (C : Cn) (v0 v1 : Int) (Q : Int → Cn → Prop) (h : P_G_seed n C v0 v1 Q) : MA l y_G_seed M_G_seed E true C n [(2, v0), (0, v1)] (fun r C2 n2 => n2 = n ∧ Q r C2) := by
  refine MA.of (by decide) rfl rfl 1 rfl (fun p e s m args below meth c => ?_)
  show AW p l e _ s m args below meth c E M_G_seed true _ n 0 0 0 [(2, v0), (0, v1), (9, 0)] [] C
  unfold P_G_seed at h
  refine AW.ra_n (dc hd_G_seed 0 rfl) rfl rfl rfl ?_
  obtain ⟨g_1, h⟩ := h
  refine AW.getf fl_10_14 (dc hd_G_seed 1 rfl) g_1 ?_
  refine AW.istore_n [(2, v0), (0, v1), (0, C v0.toNat 4)] (dc hd_G_seed 2 rfl) (Nat.le_of_ble_eq_true rfl) rfl rfl ?_
  refine AW.ra_n (dc hd_G_seed 3 rfl) rfl rfl rfl ?_
  refine AW.iload_n (dc hd_G_seed 4 rfl) rfl ?_
  refine AW.nputI fl_10_14 (dc hd_G_seed 5 rfl) g_1 (fun C_2 eC_2 => ?_)
  have h := h C_2 eC_2
  refine AW.iload_n (dc hd_G_seed 6 rfl) rfl ?_
  exact AW.iret (dc hd_G_seed 7 rfl) rfl rfl (Nat.le_of_ble_eq_true rfl) (Nat.le_of_ble_eq_true rfl) ⟨rfl, h⟩
def P_G_fieldIs (n : Nat) (C : Cn) (v0 v1 v2 : Int) (Q : Int → Prop) : Prop :=
  (v2 = 0 → (okO n v0 10 ∧ (okO n (PT v0.toNat 19) 12 ∧ (okI (PT v0.toNat 19) v1 ∧ (Q (C (PT v0.toNat 19).toNat v1.toNat)))))) ∧ (¬ v2 = 0 → ((v2 = 1 → (okO n v0 10 ∧ (okO n (PT v0.toNat 20) 12 ∧ (okI (PT v0.toNat 20) v1 ∧ (Q (C (PT v0.toNat 20).toNat v1.toNat)))))) ∧ (¬ v2 = 1 → ((v2 = 2 → (okO n v0 10 ∧ (okO n (PT v0.toNat 21) 12 ∧ (okI (PT v0.toNat 21) v1 ∧ (Q (w32 (C (PT v0.toNat 21).toNat v1.toNat - 1))))))) ∧ (¬ v2 = 2 → (okO n v0 10 ∧ (P_G_closeOf n C v0 v1 (fun (r_7 : Int) => Q r_7))))))))
theorem m_G_fieldIs (l : Launch) (E : Ev) (n : Nat) (C : Cn) (v0 v1 v2 : Int) (Q : Int → Prop) (h : P_G_fieldIs n C v0 v1 v2 Q) : MA l y_G_fieldIs M_G_fieldIs E true C n [(2, v0), (0, v1), (0, v2)] (fun r C2 n2 => C2 = C ∧ n2 = n ∧ Q r) := by
  refine MA.of (by decide) rfl rfl 0 rfl (fun p e s m args below meth c => ?_)
  show AW p l e _ s m args below meth c E M_G_fieldIs true _ n 0 0 0 [(2, v0), (0, v1), (0, v2)] [] C
  unfold P_G_fieldIs at h
  refine AW.iload_n (dc hd_G_fieldIs 0 rfl) rfl ?_
  refine AW.if_ne (t := 13) (dc hd_G_fieldIs 1 rfl) (by decide) (fun c_1 => ?_) (fun c_1 => ?_)
  · have h := h.2 c_1
    refine AW.iload_n (dc hd_G_fieldIs 7 rfl) rfl ?_
    refine AW.iconst (dc hd_G_fieldIs 8 rfl) (by decide) ?_
    refine AW.icmp_ne (t := 27) (dc hd_G_fieldIs 9 rfl) (by decide) (fun c_4 => ?_) (fun c_4 => ?_)
    · have h := h.2 c_4
      refine AW.iload_n (dc hd_G_fieldIs 15 rfl) rfl ?_
      refine AW.iconst (dc hd_G_fieldIs 16 rfl) (by decide) ?_
      refine AW.icmp_ne (t := 43) (dc hd_G_fieldIs 17 rfl) (by decide) (fun c_6 => ?_) (fun c_6 => ?_)
      · have h := h.2 c_6
        refine AW.ra_n (dc hd_G_fieldIs 25 rfl) rfl rfl rfl ?_
        refine AW.iload_n (dc hd_G_fieldIs 26 rfl) rfl ?_
        obtain ⟨g_8, h⟩ := h
        refine AW.callV (As := [(0, v1)]) (rest := []) (ci := 10) (m_G_closeOf l E n C v0 v1 _ h) cb_10_269 im_G_closeOf se_G_closeOf ⟨_, _, rfl⟩ (by decide) (dc hd_G_fieldIs 27 rfl) g_8 rfl rfl ⟨Nat.le_of_ble_eq_true rfl, Nat.le_of_ble_eq_true rfl⟩ ⟨(Nat.le_of_ble_eq_true rfl), (Nat.le_of_ble_eq_true rfl)⟩ (Nat.le_of_ble_eq_true rfl) (fun _ h => by cases h) (fun _ => rfl) (fun r_7 D_10 d_11 q_9 => ?_)
        obtain ⟨q_9a, q_9b, h⟩ := q_9
        subst D_10
        subst d_11
        show AW p l e _ s m args below meth c E M_G_fieldIs true _ n _ _ _ [(2, v0), (0, v1), (0, v2)] [(0, r_7)] C
        exact AW.iret (dc hd_G_fieldIs 28 rfl) rfl rfl (Nat.le_of_ble_eq_true rfl) (Nat.le_of_ble_eq_true rfl) ⟨rfl, rfl, h⟩
      · have h := h.1 c_6
        refine AW.ra_n (dc hd_G_fieldIs 18 rfl) rfl rfl rfl ?_
        obtain ⟨g_12, h⟩ := h
        refine AW.getp fl_10_55 (dc hd_G_fieldIs 19 rfl) g_12 rfl ?_
        refine AW.iload_n (dc hd_G_fieldIs 20 rfl) rfl ?_
        obtain ⟨g_13, h⟩ := h
        obtain ⟨g_14, h⟩ := h
        refine AW.iald (dc hd_G_fieldIs 21 rfl) g_13 g_14 ?_
        refine AW.iconst (dc hd_G_fieldIs 22 rfl) (by decide) ?_
        refine AW.isub (dc hd_G_fieldIs 23 rfl) ?_
        refine AW.goto (t := 48) (dc hd_G_fieldIs 24 rfl) (by decide) ?_
        exact AW.iret (dc hd_G_fieldIs 28 rfl) rfl rfl (Nat.le_of_ble_eq_true rfl) (Nat.le_of_ble_eq_true rfl) ⟨rfl, rfl, h⟩
    · have h := h.1 c_4
      refine AW.ra_n (dc hd_G_fieldIs 10 rfl) rfl rfl rfl ?_
      obtain ⟨g_15, h⟩ := h
      refine AW.getp fl_10_52 (dc hd_G_fieldIs 11 rfl) g_15 rfl ?_
      refine AW.iload_n (dc hd_G_fieldIs 12 rfl) rfl ?_
      obtain ⟨g_16, h⟩ := h
      obtain ⟨g_17, h⟩ := h
      refine AW.iald (dc hd_G_fieldIs 13 rfl) g_16 g_17 ?_
      refine AW.goto (t := 48) (dc hd_G_fieldIs 14 rfl) (by decide) ?_
      exact AW.iret (dc hd_G_fieldIs 28 rfl) rfl rfl (Nat.le_of_ble_eq_true rfl) (Nat.le_of_ble_eq_true rfl) ⟨rfl, rfl, h⟩
  · have h := h.1 c_1
    refine AW.ra_n (dc hd_G_fieldIs 2 rfl) rfl rfl rfl ?_
    obtain ⟨g_18, h⟩ := h
    refine AW.getp fl_10_49 (dc hd_G_fieldIs 3 rfl) g_18 rfl ?_
    refine AW.iload_n (dc hd_G_fieldIs 4 rfl) rfl ?_
    obtain ⟨g_19, h⟩ := h
    obtain ⟨g_20, h⟩ := h
    refine AW.iald (dc hd_G_fieldIs 5 rfl) g_19 g_20 ?_
    refine AW.goto (t := 48) (dc hd_G_fieldIs 6 rfl) (by decide) ?_
    exact AW.iret (dc hd_G_fieldIs 28 rfl) rfl rfl (Nat.le_of_ble_eq_true rfl) (Nat.le_of_ble_eq_true rfl) ⟨rfl, rfl, h⟩
def B_G_prove_24 (n : Nat) (v0 v1 : Int) (kz14 : Cn × Int → Prop) (Q : Int → Cn → Prop) (kz24 : Cn × Int → Prop) (z : Cn × Int) : Prop := match z with
  | (C, v2) => (4 ≤ v2 → (kz14 (C, w32 (v1 + 1)))) ∧ (¬ 4 ≤ v2 → (okO n v0 10 ∧ (okO n (PT v0.toNat 36) 17 ∧ (okI (PT v0.toNat 36) v1 ∧ (P_G_fieldIs n C v0 v1 v2 (fun (r_13 : Int) => okO n (PT (PT v0.toNat 36).toNat v1.toNat) 12 ∧ (okI (PT (PT v0.toNat 36).toNat v1.toNat) v2 ∧ (∀ C_19 : Cn, C_19 = wr C (PT (PT v0.toNat 36).toNat v1.toNat).toNat v2.toNat r_13 → (kz24 (C_19, w32 (v2 + 1)))))))))))
theorem bB_G_prove_24 (n : Nat) (v0 v1 : Int) (kz14 : Cn × Int → Prop) (Q : Int → Cn → Prop) (hkz14 : ∀ (Cz : Cn) (z1 : Int), kz14 (Cz, z1) → AW p l e R s m args below meth c E M_G_prove true (fun r C2 n2 => n2 = n ∧ Q r C2) n 0 0 14 [(2, v0), (0, z1), (9, 0)] [] Cz) (kz24 : Cn × Int → Prop) (hkz24 : ∀ (Cz : Cn) (z2 : Int), kz24 (Cz, z2) → AW p l e R s m args below meth c E M_G_prove true (fun r C2 n2 => n2 = n ∧ Q r C2) n 0 0 24 [(2, v0), (0, v1), (0, z2)] [] Cz) (C : Cn) (v2 : Int) (h : B_G_prove_24 n v0 v1 kz14 Q kz24 (C, v2)) : AW p l e R s m args below meth c E M_G_prove true (fun r C2 n2 => n2 = n ∧ Q r C2) n 0 0 24 [(2, v0), (0, v1), (0, v2)] [] C := by
  unfold B_G_prove_24 at h
  dsimp only at h
  refine AW.iload_n (dc hd_G_prove 14 rfl) rfl ?_
  refine AW.iconst (dc hd_G_prove 15 rfl) (by decide) ?_
  refine AW.icmp_ge (t := 49) (dc hd_G_prove 16 rfl) (by decide) (fun c_9 => ?_) (fun c_9 => ?_)
  · have h := h.1 c_9
    refine AW.iinc [(2, v0), (0, w32 (v1 + 1)), (0, v2)] (dc hd_G_prove 29 rfl) rfl (Nat.le_of_ble_eq_true rfl) rfl rfl ?_
    refine AW.goto (t := 14) (dc hd_G_prove 30 rfl) (by decide) ?_
    refine AW.fgt [(2, v0), (0, w32 (v1 + 1)), (9, 0)] ⟨.inl rfl, .inl rfl, .inr rfl, trivial⟩ ?_
    exact hkz14 C (w32 (v1 + 1)) h
  · have h := h.2 c_9
    refine AW.ra_n (dc hd_G_prove 17 rfl) rfl rfl rfl ?_
    obtain ⟨g_10, h⟩ := h
    refine AW.getp fl_10_76 (dc hd_G_prove 18 rfl) g_10 rfl ?_
    refine AW.iload_n (dc hd_G_prove 19 rfl) rfl ?_
    obtain ⟨g_11, h⟩ := h
    obtain ⟨g_12, h⟩ := h
    refine AW.aaldp (by decide) (dc hd_G_prove 20 rfl) g_11 g_12 rfl ?_
    refine AW.iload_n (dc hd_G_prove 21 rfl) rfl ?_
    refine AW.ra_n (dc hd_G_prove 22 rfl) rfl rfl rfl ?_
    refine AW.iload_n (dc hd_G_prove 23 rfl) rfl ?_
    refine AW.iload_n (dc hd_G_prove 24 rfl) rfl ?_
    refine AW.callV (As := [(0, v1), (0, v2)]) (rest := [(0, v2), (2, PT (PT v0.toNat 36).toNat v1.toNat)]) (ci := 10) (m_G_fieldIs l E n C v0 v1 v2 _ h) cb_10_406 im_G_fieldIs se_G_fieldIs ⟨_, _, rfl⟩ (by decide) (dc hd_G_prove 25 rfl) g_10 rfl rfl ⟨Nat.le_of_ble_eq_true rfl, Nat.le_of_ble_eq_true rfl⟩ ⟨(Nat.le_of_ble_eq_true rfl), (Nat.le_of_ble_eq_true rfl)⟩ (Nat.le_of_ble_eq_true rfl) (fun _ h => by cases h) (fun _ => rfl) (fun r_13 D_15 d_16 q_14 => ?_)
    obtain ⟨q_14a, q_14b, h⟩ := q_14
    subst D_15
    subst d_16
    show AW p l e _ s m args below meth c E M_G_prove true _ n _ _ _ [(2, v0), (0, v1), (0, v2)] [(0, r_13), (0, v2), (2, PT (PT v0.toNat 36).toNat v1.toNat)] C
    obtain ⟨g_17, h⟩ := h
    obtain ⟨g_18, h⟩ := h
    refine AW.niast (dc hd_G_prove 26 rfl) g_17 g_18 (fun C_19 eC_19 => ?_)
    have h := h C_19 eC_19
    refine AW.iinc [(2, v0), (0, v1), (0, w32 (v2 + 1))] (dc hd_G_prove 27 rfl) rfl (Nat.le_of_ble_eq_true rfl) rfl rfl ?_
    refine AW.goto (t := 24) (dc hd_G_prove 28 rfl) (by decide) ?_
    exact hkz24 C_19 (w32 (v2 + 1)) h
theorem aB_G_prove_24 (n : Nat) (v0 v1 : Int) (kz14 : Cn × Int → Prop) (Q : Int → Cn → Prop) (hkz14 : ∀ (Cz : Cn) (z1 : Int), kz14 (Cz, z1) → AW p l e R s m args below meth c E M_G_prove true (fun r C2 n2 => n2 = n ∧ Q r C2) n 0 0 14 [(2, v0), (0, z1), (9, 0)] [] Cz) : ∀ (f : Nat) (z : Cn × Int), lp (B_G_prove_24 n v0 v1 kz14 Q) f z → AW p l e R s m args below meth c E M_G_prove true (fun r C2 n2 => n2 = n ∧ Q r C2) n 0 0 24 [(2, v0), (0, v1), (0, z.2)] [] (z.1) := by
  intro f
  induction f with
  | zero => intro z h; exact False.elim h
  | succ f ih => intro z h; exact bB_G_prove_24 n v0 v1 kz14 Q hkz14 (lp (B_G_prove_24 n v0 v1 kz14 Q) f) (fun a0 a1 h => ih (a0, a1) h) z.1 z.2 h
def B_G_prove_14 (n : Nat) (v0 : Int) (Q : Int → Cn → Prop) (kz14 : Cn × Int → Prop) (z : Cn × Int) : Prop := match z with
  | (C, v1) => okO n v0 10 ∧ ((C v0.toNat 18 ≤ v1 → (Q (C v0.toNat 35) C)) ∧ (¬ C v0.toNat 18 ≤ v1 → (∃ f_20 : Nat, lp (B_G_prove_24 n v0 v1 kz14 Q) f_20 (C, 0))))
theorem bB_G_prove_14 (n : Nat) (v0 : Int) (Q : Int → Cn → Prop) (kz14 : Cn × Int → Prop) (hkz14 : ∀ (Cz : Cn) (z1 : Int), kz14 (Cz, z1) → AW p l e R s m args below meth c E M_G_prove true (fun r C2 n2 => n2 = n ∧ Q r C2) n 0 0 14 [(2, v0), (0, z1), (9, 0)] [] Cz) (C : Cn) (v1 : Int) (h : B_G_prove_14 n v0 Q kz14 (C, v1)) : AW p l e R s m args below meth c E M_G_prove true (fun r C2 n2 => n2 = n ∧ Q r C2) n 0 0 14 [(2, v0), (0, v1), (9, 0)] [] C := by
  unfold B_G_prove_14 at h
  dsimp only at h
  refine AW.iload_n (dc hd_G_prove 8 rfl) rfl ?_
  refine AW.ra_n (dc hd_G_prove 9 rfl) rfl rfl rfl ?_
  obtain ⟨g_7, h⟩ := h
  refine AW.getf fl_10_214 (dc hd_G_prove 10 rfl) g_7 ?_
  refine AW.icmp_ge (t := 55) (dc hd_G_prove 11 rfl) (by decide) (fun c_8 => ?_) (fun c_8 => ?_)
  · have h := h.1 c_8
    refine AW.ra_n (dc hd_G_prove 31 rfl) rfl rfl rfl ?_
    refine AW.getf fl_10_403 (dc hd_G_prove 32 rfl) g_7 ?_
    exact AW.iret (dc hd_G_prove 33 rfl) rfl rfl (Nat.le_of_ble_eq_true rfl) (Nat.le_of_ble_eq_true rfl) ⟨rfl, h⟩
  · have h := h.2 c_8
    refine AW.iconst (dc hd_G_prove 12 rfl) (by decide) ?_
    refine AW.istore_n [(2, v0), (0, v1), (0, 0)] (dc hd_G_prove 13 rfl) (Nat.le_of_ble_eq_true rfl) rfl rfl ?_
    obtain ⟨f_20, h⟩ := h
    exact aB_G_prove_24 n v0 v1 kz14 Q hkz14 f_20 (C, 0) h
theorem aB_G_prove_14 (n : Nat) (v0 : Int) (Q : Int → Cn → Prop) : ∀ (f : Nat) (z : Cn × Int), lp (B_G_prove_14 n v0 Q) f z → AW p l e R s m args below meth c E M_G_prove true (fun r C2 n2 => n2 = n ∧ Q r C2) n 0 0 14 [(2, v0), (0, z.2), (9, 0)] [] (z.1) := by
  intro f
  induction f with
  | zero => intro z h; exact False.elim h
  | succ f ih => intro z h; exact bB_G_prove_14 n v0 Q (lp (B_G_prove_14 n v0 Q) f) (fun a0 a1 h => ih (a0, a1) h) z.1 z.2 h
def P_G_prove (n : Nat) (C : Cn) (v0 : Int) (Q : Int → Cn → Prop) : Prop :=
  okO n v0 10 ∧ (P_G_maps n C v0 (fun (_ : Int) (C_2 : Cn) => ∀ C_6 : Cn, C_6 = wr C_2 v0.toNat 35 (C_2 v0.toNat 18) → (∃ f_21 : Nat, lp (B_G_prove_14 n v0 Q) f_21 (C_6, 0))))
theorem m_G_prove (l : Launch) (E : Ev) (n : Nat) (C : Cn) (v0 : Int) (Q : Int → Cn → Prop) (h : P_G_prove n C v0 Q) : MA l y_G_prove M_G_prove E true C n [(2, v0)] (fun r C2 n2 => n2 = n ∧ Q r C2) := by
  refine MA.of (by decide) rfl rfl 2 rfl (fun p e s m args below meth c => ?_)
  show AW p l e _ s m args below meth c E M_G_prove true _ n 0 0 0 [(2, v0), (9, 0), (9, 0)] [] C
  unfold P_G_prove at h
  refine AW.ra_n (dc hd_G_prove 0 rfl) rfl rfl rfl ?_
  obtain ⟨g_1, h⟩ := h
  refine AW.callV (As := []) (rest := []) (ci := 10) (m_G_maps l E n C v0 _ h) cb_10_211 im_G_maps se_G_maps ⟨_, _, rfl⟩ (by decide) (dc hd_G_prove 1 rfl) g_1 rfl rfl ⟨Nat.le_of_ble_eq_true rfl, Nat.le_of_ble_eq_true rfl⟩ ⟨(Nat.le_of_ble_eq_true rfl), (Nat.le_of_ble_eq_true rfl)⟩ (Nat.le_of_ble_eq_true rfl) (fun _ h => by cases h) (fun _ => rfl) (fun u_4 C_2 d_5 q_3 => ?_)
  obtain ⟨q_3a, h⟩ := q_3
  subst d_5
  show AW p l e _ s m args below meth c E M_G_prove true _ n _ _ _ [(2, v0), (9, 0), (9, 0)] [] C_2
  refine AW.ra_n (dc hd_G_prove 2 rfl) rfl rfl rfl ?_
  refine AW.ra_n (dc hd_G_prove 3 rfl) rfl rfl rfl ?_
  refine AW.getf fl_10_214 (dc hd_G_prove 4 rfl) g_1 ?_
  refine AW.nputI fl_10_403 (dc hd_G_prove 5 rfl) g_1 (fun C_6 eC_6 => ?_)
  have h := h C_6 eC_6
  refine AW.iconst (dc hd_G_prove 6 rfl) (by decide) ?_
  refine AW.istore_n [(2, v0), (0, 0), (9, 0)] (dc hd_G_prove 7 rfl) (Nat.le_of_ble_eq_true rfl) rfl rfl ?_
  obtain ⟨f_21, h⟩ := h
  exact aB_G_prove_14 n v0 Q f_21 (C_6, 0) h
end
