section
variable {p : Program} {l : Launch} {e : Env} {R : Room} {s : State} {m : MethodId} {args : Array Value} {below : List Frame} {meth : Method} {c : Code} {E : Ev}
def P_G_item (n : Nat) (C : Cn) (v0 v1 v2 : Int) (Q : Int → Cn → Prop) : Prop :=
  okO n v0 10 ∧ (P_G_whyNot n C v0 v1 v2 (fun (r_1 : Int) => (r_1 < 0 → (okO n (PT v0.toNat 46) 18 ∧ (okI (PT v0.toNat 46) v1 ∧ (okO n (PT (PT v0.toNat 46).toNat v1.toNat) 13 ∧ (okI (PT (PT v0.toNat 46).toNat v1.toNat) v2 ∧ (Q (C (PT (PT v0.toNat 46).toNat v1.toNat).toNat v2.toNat) C)))))) ∧ (¬ r_1 < 0 → (P_G_findsLong n C v0 r_1 (fun (r_11 : Int) (C_12 : Cn) => Q r_11 C_12)))))
theorem m_G_item (l : Launch) (E : Ev) (n : Nat) (C : Cn) (v0 v1 v2 : Int) (Q : Int → Cn → Prop) (h : P_G_item n C v0 v1 v2 Q) : MA l y_G_item M_G_item E true C n [(2, v0), (0, v1), (0, v2)] (fun r C2 n2 => n2 = n ∧ Q r C2) := by
  refine MA.of (by decide) rfl rfl 1 rfl (fun p e s m args below meth c => ?_)
  show AW p l e _ s m args below meth c E M_G_item true _ n 0 0 0 [(2, v0), (0, v1), (0, v2), (9, 0)] [] C
  unfold P_G_item at h
  refine AW.ra_n (dc hd_G_item 0 rfl) rfl rfl rfl ?_
  refine AW.iload_n (dc hd_G_item 1 rfl) rfl ?_
  refine AW.iload_n (dc hd_G_item 2 rfl) rfl ?_
  obtain ⟨g_2, h⟩ := h
  refine AW.callV (As := [(0, v1), (0, v2)]) (rest := []) (ci := 10) (m_G_whyNot l E n C v0 v1 v2 _ h) cb_10_494 im_G_whyNot se_G_whyNot ⟨_, _, rfl⟩ (by decide) (dc hd_G_item 3 rfl) g_2 rfl rfl ⟨Nat.le_of_ble_eq_true rfl, Nat.le_of_ble_eq_true rfl⟩ ⟨(Nat.le_of_ble_eq_true rfl), (Nat.le_of_ble_eq_true rfl)⟩ (Nat.le_of_ble_eq_true rfl) (fun _ h => by cases h) (fun _ => rfl) (fun r_1 D_4 d_5 q_3 => ?_)
  obtain ⟨q_3a, q_3b, h⟩ := q_3
  subst D_4
  subst d_5
  show AW p l e _ s m args below meth c E M_G_item true _ n _ _ _ [(2, v0), (0, v1), (0, v2), (9, 0)] [(0, r_1)] C
  refine AW.istore_n [(2, v0), (0, v1), (0, v2), (0, r_1)] (dc hd_G_item 4 rfl) (Nat.le_of_ble_eq_true rfl) rfl rfl ?_
  refine AW.iload_n (dc hd_G_item 5 rfl) rfl ?_
  refine AW.if_lt (t := 19) (dc hd_G_item 6 rfl) (by decide) (fun c_6 => ?_) (fun c_6 => ?_)
  · have h := h.1 c_6
    refine AW.ra_n (dc hd_G_item 11 rfl) rfl rfl rfl ?_
    refine AW.getp fl_10_90 (dc hd_G_item 12 rfl) g_2 rfl ?_
    refine AW.iload_n (dc hd_G_item 13 rfl) rfl ?_
    obtain ⟨g_7, h⟩ := h
    obtain ⟨g_8, h⟩ := h
    refine AW.aaldp (by decide) (dc hd_G_item 14 rfl) g_7 g_8 rfl ?_
    refine AW.iload_n (dc hd_G_item 15 rfl) rfl ?_
    obtain ⟨g_9, h⟩ := h
    obtain ⟨g_10, h⟩ := h
    refine AW.lald (dc hd_G_item 16 rfl) g_9 g_10 ?_
    exact AW.lret (dc hd_G_item 17 rfl) rfl rfl (Nat.le_of_ble_eq_true rfl) (Nat.le_of_ble_eq_true rfl) ⟨rfl, h⟩
  · have h := h.2 c_6
    refine AW.ra_n (dc hd_G_item 7 rfl) rfl rfl rfl ?_
    refine AW.iload_n (dc hd_G_item 8 rfl) rfl ?_
    refine AW.callV (As := [(0, r_1)]) (rest := []) (ci := 10) (m_G_findsLong l E n C v0 r_1 _ h) cb_10_396 im_G_findsLong se_G_findsLong ⟨_, _, rfl⟩ (by decide) (dc hd_G_item 9 rfl) g_2 rfl rfl ⟨Nat.le_of_ble_eq_true rfl, Nat.le_of_ble_eq_true rfl⟩ ⟨(Nat.le_of_ble_eq_true rfl), (Nat.le_of_ble_eq_true rfl)⟩ (Nat.le_of_ble_eq_true rfl) (fun _ h => by cases h) (fun _ => rfl) (fun r_11 C_12 d_14 q_13 => ?_)
    obtain ⟨q_13a, h⟩ := q_13
    subst d_14
    show AW p l e _ s m args below meth c E M_G_item true _ n _ _ _ [(2, v0), (0, v1), (0, v2), (0, r_1)] [(1, r_11)] C_12
    refine AW.goto (t := 27) (dc hd_G_item 10 rfl) (by decide) ?_
    exact AW.lret (dc hd_G_item 17 rfl) rfl rfl (Nat.le_of_ble_eq_true rfl) (Nat.le_of_ble_eq_true rfl) ⟨rfl, h⟩
def B_G_copy_157 (n : Nat) (v0 v3 v4 v5 : Int) (Q : Int → Cn → Prop) (kz157 : Cn × Int → Prop) (z : Cn × Int) : Prop := match z with
  | (C, v6) => (v5 ≤ v6 → (Q v5 C)) ∧ (¬ v5 ≤ v6 → (okO n v0 10 ∧ (okO n (PT v0.toNat 46) 18 ∧ (okI (PT v0.toNat 46) v3 ∧ (okO n (PT v0.toNat 47) 13 ∧ (okI (PT v0.toNat 47) v6 ∧ (okO n (PT (PT v0.toNat 46).toNat v3.toNat) 13 ∧ (okI (PT (PT v0.toNat 46).toNat v3.toNat) (w32 (v4 + v6)) ∧ (∀ C_61 : Cn, C_61 = wr C (PT (PT v0.toNat 46).toNat v3.toNat).toNat (w32 (v4 + v6)).toNat (C (PT v0.toNat 47).toNat v6.toNat) → (kz157 (C_61, w32 (v6 + 1))))))))))))
theorem bB_G_copy_157 (n : Nat) (v0 v3 v4 v5 : Int) (Q : Int → Cn → Prop) (kz157 : Cn × Int → Prop) (hkz157 : ∀ (Cz : Cn) (z6 : Int), kz157 (Cz, z6) → AW p l e R s m args below meth c E M_G_copy true (fun r C2 n2 => n2 = n ∧ Q r C2) n 0 0 157 [(2, v0), (9, 0), (9, 0), (0, v3), (0, v4), (0, v5), (0, z6)] [] Cz) (C : Cn) (v6 : Int) (h : B_G_copy_157 n v0 v3 v4 v5 Q kz157 (C, v6)) : AW p l e R s m args below meth c E M_G_copy true (fun r C2 n2 => n2 = n ∧ Q r C2) n 0 0 157 [(2, v0), (9, 0), (9, 0), (0, v3), (0, v4), (0, v5), (0, v6)] [] C := by
  unfold B_G_copy_157 at h
  dsimp only at h
  refine AW.iload (dc hd_G_copy 92 rfl) rfl ?_
  refine AW.iload (dc hd_G_copy 93 rfl) rfl ?_
  refine AW.icmp_ge (t := 189) (dc hd_G_copy 94 rfl) (by decide) (fun c_53 => ?_) (fun c_53 => ?_)
  · have h := h.1 c_53
    refine AW.iload (dc hd_G_copy 109 rfl) rfl ?_
    exact AW.iret (dc hd_G_copy 110 rfl) rfl rfl (Nat.le_of_ble_eq_true rfl) (Nat.le_of_ble_eq_true rfl) ⟨rfl, h⟩
  · have h := h.2 c_53
    refine AW.ra_n (dc hd_G_copy 95 rfl) rfl rfl rfl ?_
    obtain ⟨g_54, h⟩ := h
    refine AW.getp fl_10_90 (dc hd_G_copy 96 rfl) g_54 rfl ?_
    refine AW.iload_n (dc hd_G_copy 97 rfl) rfl ?_
    obtain ⟨g_55, h⟩ := h
    obtain ⟨g_56, h⟩ := h
    refine AW.aaldp (by decide) (dc hd_G_copy 98 rfl) g_55 g_56 rfl ?_
    refine AW.iload (dc hd_G_copy 99 rfl) rfl ?_
    refine AW.iload (dc hd_G_copy 100 rfl) rfl ?_
    refine AW.iadd (dc hd_G_copy 101 rfl) ?_
    refine AW.ra_n (dc hd_G_copy 102 rfl) rfl rfl rfl ?_
    refine AW.getp fl_10_93 (dc hd_G_copy 103 rfl) g_54 rfl ?_
    refine AW.iload (dc hd_G_copy 104 rfl) rfl ?_
    obtain ⟨g_57, h⟩ := h
    obtain ⟨g_58, h⟩ := h
    refine AW.lald (dc hd_G_copy 105 rfl) g_57 g_58 ?_
    obtain ⟨g_59, h⟩ := h
    obtain ⟨g_60, h⟩ := h
    refine AW.nlast (dc hd_G_copy 106 rfl) g_59 g_60 (fun C_61 eC_61 => ?_)
    have h := h C_61 eC_61
    refine AW.iinc [(2, v0), (9, 0), (9, 0), (0, v3), (0, v4), (0, v5), (0, w32 (v6 + 1))] (dc hd_G_copy 107 rfl) rfl (Nat.le_of_ble_eq_true rfl) rfl rfl ?_
    refine AW.goto (t := 157) (dc hd_G_copy 108 rfl) (by decide) ?_
    exact hkz157 C_61 (w32 (v6 + 1)) h
theorem aB_G_copy_157 (n : Nat) (v0 v3 v4 v5 : Int) (Q : Int → Cn → Prop) : ∀ (f : Nat) (z : Cn × Int), lp (B_G_copy_157 n v0 v3 v4 v5 Q) f z → AW p l e R s m args below meth c E M_G_copy true (fun r C2 n2 => n2 = n ∧ Q r C2) n 0 0 157 [(2, v0), (9, 0), (9, 0), (0, v3), (0, v4), (0, v5), (0, z.2)] [] (z.1) := by
  intro f
  induction f with
  | zero => intro z h; exact False.elim h
  | succ f ih => intro z h; exact bB_G_copy_157 n v0 v3 v4 v5 Q (lp (B_G_copy_157 n v0 v3 v4 v5 Q) f) (fun a0 a1 h => ih (a0, a1) h) z.1 z.2 h
def B_G_copy_123 (n : Nat) (v0 v1 v2 v3 v4 v5 : Int) (Q : Int → Cn → Prop) (kz123 : Cn × Int → Prop) (z : Cn × Int) : Prop := match z with
  | (C, v6) => (v5 ≤ v6 → (∃ f_62 : Nat, lp (B_G_copy_157 n v0 v3 v4 v5 Q) f_62 (C, 0))) ∧ (¬ v5 ≤ v6 → (okO n v0 10 ∧ (okO n (PT v0.toNat 46) 18 ∧ (okI (PT v0.toNat 46) v1 ∧ (okO n (PT (PT v0.toNat 46).toNat v1.toNat) 13 ∧ (okI (PT (PT v0.toNat 46).toNat v1.toNat) (w32 (v2 + v6)) ∧ (okO n (PT v0.toNat 47) 13 ∧ (okI (PT v0.toNat 47) v6 ∧ (∀ C_70 : Cn, C_70 = wr C (PT v0.toNat 47).toNat v6.toNat (C (PT (PT v0.toNat 46).toNat v1.toNat).toNat (w32 (v2 + v6)).toNat) → (kz123 (C_70, w32 (v6 + 1))))))))))))
theorem bB_G_copy_123 (n : Nat) (v0 v1 v2 v3 v4 v5 : Int) (Q : Int → Cn → Prop) (kz123 : Cn × Int → Prop) (hkz123 : ∀ (Cz : Cn) (z6 : Int), kz123 (Cz, z6) → AW p l e R s m args below meth c E M_G_copy true (fun r C2 n2 => n2 = n ∧ Q r C2) n 0 0 123 [(2, v0), (0, v1), (0, v2), (0, v3), (0, v4), (0, v5), (0, z6)] [] Cz) (C : Cn) (v6 : Int) (h : B_G_copy_123 n v0 v1 v2 v3 v4 v5 Q kz123 (C, v6)) : AW p l e R s m args below meth c E M_G_copy true (fun r C2 n2 => n2 = n ∧ Q r C2) n 0 0 123 [(2, v0), (0, v1), (0, v2), (0, v3), (0, v4), (0, v5), (0, v6)] [] C := by
  unfold B_G_copy_123 at h
  dsimp only at h
  refine AW.iload (dc hd_G_copy 73 rfl) rfl ?_
  refine AW.iload (dc hd_G_copy 74 rfl) rfl ?_
  refine AW.icmp_ge (t := 154) (dc hd_G_copy 75 rfl) (by decide) (fun c_52 => ?_) (fun c_52 => ?_)
  · have h := h.1 c_52
    refine AW.iconst (dc hd_G_copy 90 rfl) (by decide) ?_
    refine AW.istore [(2, v0), (0, v1), (0, v2), (0, v3), (0, v4), (0, v5), (0, 0)] (dc hd_G_copy 91 rfl) (Nat.le_of_ble_eq_true rfl) rfl rfl ?_
    obtain ⟨f_62, h⟩ := h
    refine AW.fgt [(2, v0), (9, 0), (9, 0), (0, v3), (0, v4), (0, v5), (0, 0)] ⟨.inl rfl, .inr rfl, .inr rfl, .inl rfl, .inl rfl, .inl rfl, .inl rfl, trivial⟩ ?_
    exact aB_G_copy_157 n v0 v3 v4 v5 Q f_62 (C, 0) h
  · have h := h.2 c_52
    refine AW.ra_n (dc hd_G_copy 76 rfl) rfl rfl rfl ?_
    obtain ⟨g_63, h⟩ := h
    refine AW.getp fl_10_93 (dc hd_G_copy 77 rfl) g_63 rfl ?_
    refine AW.iload (dc hd_G_copy 78 rfl) rfl ?_
    refine AW.ra_n (dc hd_G_copy 79 rfl) rfl rfl rfl ?_
    refine AW.getp fl_10_90 (dc hd_G_copy 80 rfl) g_63 rfl ?_
    refine AW.iload_n (dc hd_G_copy 81 rfl) rfl ?_
    obtain ⟨g_64, h⟩ := h
    obtain ⟨g_65, h⟩ := h
    refine AW.aaldp (by decide) (dc hd_G_copy 82 rfl) g_64 g_65 rfl ?_
    refine AW.iload_n (dc hd_G_copy 83 rfl) rfl ?_
    refine AW.iload (dc hd_G_copy 84 rfl) rfl ?_
    refine AW.iadd (dc hd_G_copy 85 rfl) ?_
    obtain ⟨g_66, h⟩ := h
    obtain ⟨g_67, h⟩ := h
    refine AW.lald (dc hd_G_copy 86 rfl) g_66 g_67 ?_
    obtain ⟨g_68, h⟩ := h
    obtain ⟨g_69, h⟩ := h
    refine AW.nlast (dc hd_G_copy 87 rfl) g_68 g_69 (fun C_70 eC_70 => ?_)
    have h := h C_70 eC_70
    refine AW.iinc [(2, v0), (0, v1), (0, v2), (0, v3), (0, v4), (0, v5), (0, w32 (v6 + 1))] (dc hd_G_copy 88 rfl) rfl (Nat.le_of_ble_eq_true rfl) rfl rfl ?_
    refine AW.goto (t := 123) (dc hd_G_copy 89 rfl) (by decide) ?_
    exact hkz123 C_70 (w32 (v6 + 1)) h
theorem aB_G_copy_123 (n : Nat) (v0 v1 v2 v3 v4 v5 : Int) (Q : Int → Cn → Prop) : ∀ (f : Nat) (z : Cn × Int), lp (B_G_copy_123 n v0 v1 v2 v3 v4 v5 Q) f z → AW p l e R s m args below meth c E M_G_copy true (fun r C2 n2 => n2 = n ∧ Q r C2) n 0 0 123 [(2, v0), (0, v1), (0, v2), (0, v3), (0, v4), (0, v5), (0, z.2)] [] (z.1) := by
  intro f
  induction f with
  | zero => intro z h; exact False.elim h
  | succ f ih => intro z h; exact bB_G_copy_123 n v0 v1 v2 v3 v4 v5 Q (lp (B_G_copy_123 n v0 v1 v2 v3 v4 v5 Q) f) (fun a0 a1 h => ih (a0, a1) h) z.1 z.2 h
def P_G_copy (n : Nat) (C : Cn) (v0 v1 v2 v3 v4 v5 : Int) (Q : Int → Cn → Prop) : Prop :=
  P_G_isSheet n C v1 (fun (r_1 : Int) => (r_1 = 0 → (okO n v0 10 ∧ (P_G_finds n C v0 0 (fun (r_6 : Int) (C_8 : Cn) => Q r_6 C_8)))) ∧ (¬ r_1 = 0 → (P_G_isSheet n C v3 (fun (r_11 : Int) => (r_11 = 0 → (okO n v0 10 ∧ (P_G_finds n C v0 0 (fun (r_84 : Int) (C_86 : Cn) => Q r_84 C_86)))) ∧ (¬ r_11 = 0 → (okO n v0 10 ∧ (okO n (PT v0.toNat 44) 12 ∧ (okI (PT v0.toNat 44) v1 ∧ ((C (PT v0.toNat 44).toNat v1.toNat < 0 → (P_G_finds n C v0 5 (fun (r_20 : Int) (C_21 : Cn) => Q r_20 C_21))) ∧ (¬ C (PT v0.toNat 44).toNat v1.toNat < 0 → (okI (PT v0.toNat 44) v3 ∧ ((0 ≤ C (PT v0.toNat 44).toNat v3.toNat → ((C (PT v0.toNat 44).toNat v1.toNat = C (PT v0.toNat 44).toNat v3.toNat → ((v2 < 0 → (P_G_finds n C v0 0 (fun (r_29 : Int) (C_30 : Cn) => Q r_29 C_30))) ∧ (¬ v2 < 0 → ((v4 < 0 → (P_G_finds n C v0 0 (fun (r_34 : Int) (C_35 : Cn) => Q r_34 C_35))) ∧ (¬ v4 < 0 → ((v5 < 0 → (P_G_finds n C v0 0 (fun (r_39 : Int) (C_40 : Cn) => Q r_39 C_40))) ∧ (¬ v5 < 0 → (okO n (PT v0.toNat 45) 12 ∧ (okI (PT v0.toNat 45) v1 ∧ ((C (PT v0.toNat 45).toNat v1.toNat < w64 (v2 + v5) → (P_G_finds n C v0 0 (fun (r_46 : Int) (C_47 : Cn) => Q r_46 C_47))) ∧ (¬ C (PT v0.toNat 45).toNat v1.toNat < w64 (v2 + v5) → (okI (PT v0.toNat 45) v3 ∧ ((w64 (v4 + v5) ≤ C (PT v0.toNat 45).toNat v3.toNat → (∃ f_71 : Nat, lp (B_G_copy_123 n v0 v1 v2 v3 v4 v5 Q) f_71 (C, 0))) ∧ (¬ w64 (v4 + v5) ≤ C (PT v0.toNat 45).toNat v3.toNat → (P_G_finds n C v0 0 (fun (r_72 : Int) (C_73 : Cn) => Q r_72 C_73)))))))))))))))) ∧ (¬ C (PT v0.toNat 44).toNat v1.toNat = C (PT v0.toNat 44).toNat v3.toNat → (P_G_finds n C v0 2 (fun (r_76 : Int) (C_77 : Cn) => Q r_76 C_77))))) ∧ (¬ 0 ≤ C (PT v0.toNat 44).toNat v3.toNat → (P_G_finds n C v0 5 (fun (r_80 : Int) (C_81 : Cn) => Q r_80 C_81)))))))))))))))
theorem m_G_copy (l : Launch) (E : Ev) (n : Nat) (C : Cn) (v0 v1 v2 v3 v4 v5 : Int) (Q : Int → Cn → Prop) (h : P_G_copy n C v0 v1 v2 v3 v4 v5 Q) : MA l y_G_copy M_G_copy E true C n [(2, v0), (0, v1), (0, v2), (0, v3), (0, v4), (0, v5)] (fun r C2 n2 => n2 = n ∧ Q r C2) := by
  refine MA.of (by decide) rfl rfl 1 rfl (fun p e s m args below meth c => ?_)
  show AW p l e _ s m args below meth c E M_G_copy true _ n 0 0 0 [(2, v0), (0, v1), (0, v2), (0, v3), (0, v4), (0, v5), (9, 0)] [] C
  unfold P_G_copy at h
  refine AW.iload_n (dc hd_G_copy 0 rfl) rfl ?_
  refine AW.callS (As := [(0, v1)]) (rest := []) (m_G_isSheet l E n C v1 _ h) cb_10_369 sm_G_isSheet (dc hd_G_copy 1 rfl) rfl rfl ⟨Nat.le_of_ble_eq_true rfl, Nat.le_of_ble_eq_true rfl⟩ ⟨(Nat.le_of_ble_eq_true rfl), (Nat.le_of_ble_eq_true rfl)⟩ (Nat.le_of_ble_eq_true rfl) (fun _ h => by cases h) (fun _ => rfl) (fun r_1 D_3 d_4 q_2 => ?_)
  obtain ⟨q_2a, q_2b, h⟩ := q_2
  subst D_3
  subst d_4
  show AW p l e _ s m args below meth c E M_G_copy true _ n _ _ _ [(2, v0), (0, v1), (0, v2), (0, v3), (0, v4), (0, v5), (9, 0)] [(0, r_1)] C
  refine AW.if_eq (t := 14) (dc hd_G_copy 2 rfl) (by decide) (fun c_5 => ?_) (fun c_5 => ?_)
  · have h := h.1 c_5
    refine AW.ra_n (dc hd_G_copy 6 rfl) rfl rfl rfl ?_
    refine AW.iconst (dc hd_G_copy 7 rfl) (by decide) ?_
    obtain ⟨g_7, h⟩ := h
    refine AW.callV (As := [(0, 0)]) (rest := []) (ci := 10) (m_G_finds l E n C v0 0 _ h) cb_10_186 im_G_finds se_G_finds ⟨_, _, rfl⟩ (by decide) (dc hd_G_copy 8 rfl) g_7 rfl rfl ⟨Nat.le_of_ble_eq_true rfl, Nat.le_of_ble_eq_true rfl⟩ ⟨(Nat.le_of_ble_eq_true rfl), (Nat.le_of_ble_eq_true rfl)⟩ (Nat.le_of_ble_eq_true rfl) (fun _ h => by cases h) (fun _ => rfl) (fun r_6 C_8 d_10 q_9 => ?_)
    obtain ⟨q_9a, h⟩ := q_9
    subst d_10
    show AW p l e _ s m args below meth c E M_G_copy true _ n _ _ _ [(2, v0), (0, v1), (0, v2), (0, v3), (0, v4), (0, v5), (9, 0)] [(0, r_6)] C_8
    exact AW.iret (dc hd_G_copy 9 rfl) rfl rfl (Nat.le_of_ble_eq_true rfl) (Nat.le_of_ble_eq_true rfl) ⟨rfl, h⟩
  · have h := h.2 c_5
    refine AW.iload_n (dc hd_G_copy 3 rfl) rfl ?_
    refine AW.callS (As := [(0, v3)]) (rest := []) (m_G_isSheet l E n C v3 _ h) cb_10_369 sm_G_isSheet (dc hd_G_copy 4 rfl) rfl rfl ⟨Nat.le_of_ble_eq_true rfl, Nat.le_of_ble_eq_true rfl⟩ ⟨(Nat.le_of_ble_eq_true rfl), (Nat.le_of_ble_eq_true rfl)⟩ (Nat.le_of_ble_eq_true rfl) (fun _ h => by cases h) (fun _ => rfl) (fun r_11 D_13 d_14 q_12 => ?_)
    obtain ⟨q_12a, q_12b, h⟩ := q_12
    subst D_13
    subst d_14
    show AW p l e _ s m args below meth c E M_G_copy true _ n _ _ _ [(2, v0), (0, v1), (0, v2), (0, v3), (0, v4), (0, v5), (9, 0)] [(0, r_11)] C
    refine AW.if_ne (t := 20) (dc hd_G_copy 5 rfl) (by decide) (fun c_15 => ?_) (fun c_15 => ?_)
    · have h := h.2 c_15
      refine AW.ra_n (dc hd_G_copy 10 rfl) rfl rfl rfl ?_
      obtain ⟨g_16, h⟩ := h
      refine AW.getp fl_10_82 (dc hd_G_copy 11 rfl) g_16 rfl ?_
      refine AW.iload_n (dc hd_G_copy 12 rfl) rfl ?_
      obtain ⟨g_17, h⟩ := h
      obtain ⟨g_18, h⟩ := h
      refine AW.iald (dc hd_G_copy 13 rfl) g_17 g_18 ?_
      refine AW.if_lt (t := 38) (dc hd_G_copy 14 rfl) (by decide) (fun c_19 => ?_) (fun c_19 => ?_)
      · have h := h.1 c_19
        refine AW.ra_n (dc hd_G_copy 20 rfl) rfl rfl rfl ?_
        refine AW.iconst (dc hd_G_copy 21 rfl) (by decide) ?_
        refine AW.callV (As := [(0, 5)]) (rest := []) (ci := 10) (m_G_finds l E n C v0 5 _ h) cb_10_186 im_G_finds se_G_finds ⟨_, _, rfl⟩ (by decide) (dc hd_G_copy 22 rfl) g_16 rfl rfl ⟨Nat.le_of_ble_eq_true rfl, Nat.le_of_ble_eq_true rfl⟩ ⟨(Nat.le_of_ble_eq_true rfl), (Nat.le_of_ble_eq_true rfl)⟩ (Nat.le_of_ble_eq_true rfl) (fun _ h => by cases h) (fun _ => rfl) (fun r_20 C_21 d_23 q_22 => ?_)
        obtain ⟨q_22a, h⟩ := q_22
        subst d_23
        show AW p l e _ s m args below meth c E M_G_copy true _ n _ _ _ [(2, v0), (0, v1), (0, v2), (0, v3), (0, v4), (0, v5), (9, 0)] [(0, r_20)] C_21
        exact AW.iret (dc hd_G_copy 23 rfl) rfl rfl (Nat.le_of_ble_eq_true rfl) (Nat.le_of_ble_eq_true rfl) ⟨rfl, h⟩
      · have h := h.2 c_19
        refine AW.ra_n (dc hd_G_copy 15 rfl) rfl rfl rfl ?_
        refine AW.getp fl_10_82 (dc hd_G_copy 16 rfl) g_16 rfl ?_
        refine AW.iload_n (dc hd_G_copy 17 rfl) rfl ?_
        obtain ⟨g_24, h⟩ := h
        refine AW.iald (dc hd_G_copy 18 rfl) g_17 g_24 ?_
        refine AW.if_ge (t := 44) (dc hd_G_copy 19 rfl) (by decide) (fun c_25 => ?_) (fun c_25 => ?_)
        · have h := h.1 c_25
          refine AW.ra_n (dc hd_G_copy 24 rfl) rfl rfl rfl ?_
          refine AW.getp fl_10_82 (dc hd_G_copy 25 rfl) g_16 rfl ?_
          refine AW.iload_n (dc hd_G_copy 26 rfl) rfl ?_
          refine AW.iald (dc hd_G_copy 27 rfl) g_17 g_18 ?_
          refine AW.ra_n (dc hd_G_copy 28 rfl) rfl rfl rfl ?_
          refine AW.getp fl_10_82 (dc hd_G_copy 29 rfl) g_16 rfl ?_
          refine AW.iload_n (dc hd_G_copy 30 rfl) rfl ?_
          refine AW.iald (dc hd_G_copy 31 rfl) g_17 g_24 ?_
          refine AW.icmp_eq (t := 65) (dc hd_G_copy 32 rfl) (by decide) (fun c_26 => ?_) (fun c_26 => ?_)
          · have h := h.1 c_26
            refine AW.iload_n (dc hd_G_copy 37 rfl) rfl ?_
            refine AW.if_lt (t := 114) (dc hd_G_copy 38 rfl) (by decide) (fun c_28 => ?_) (fun c_28 => ?_)
            · have h := h.1 c_28
              refine AW.ra_n (dc hd_G_copy 67 rfl) rfl rfl rfl ?_
              refine AW.iconst (dc hd_G_copy 68 rfl) (by decide) ?_
              refine AW.callV (As := [(0, 0)]) (rest := []) (ci := 10) (m_G_finds l E n C v0 0 _ h) cb_10_186 im_G_finds se_G_finds ⟨_, _, rfl⟩ (by decide) (dc hd_G_copy 69 rfl) g_16 rfl rfl ⟨Nat.le_of_ble_eq_true rfl, Nat.le_of_ble_eq_true rfl⟩ ⟨(Nat.le_of_ble_eq_true rfl), (Nat.le_of_ble_eq_true rfl)⟩ (Nat.le_of_ble_eq_true rfl) (fun _ h => by cases h) (fun _ => rfl) (fun r_29 C_30 d_32 q_31 => ?_)
              obtain ⟨q_31a, h⟩ := q_31
              subst d_32
              show AW p l e _ s m args below meth c E M_G_copy true _ n _ _ _ [(2, v0), (0, v1), (0, v2), (0, v3), (0, v4), (0, v5), (9, 0)] [(0, r_29)] C_30
              exact AW.iret (dc hd_G_copy 70 rfl) rfl rfl (Nat.le_of_ble_eq_true rfl) (Nat.le_of_ble_eq_true rfl) ⟨rfl, h⟩
            · have h := h.2 c_28
              refine AW.iload (dc hd_G_copy 39 rfl) rfl ?_
              refine AW.if_lt (t := 114) (dc hd_G_copy 40 rfl) (by decide) (fun c_33 => ?_) (fun c_33 => ?_)
              · have h := h.1 c_33
                refine AW.ra_n (dc hd_G_copy 67 rfl) rfl rfl rfl ?_
                refine AW.iconst (dc hd_G_copy 68 rfl) (by decide) ?_
                refine AW.callV (As := [(0, 0)]) (rest := []) (ci := 10) (m_G_finds l E n C v0 0 _ h) cb_10_186 im_G_finds se_G_finds ⟨_, _, rfl⟩ (by decide) (dc hd_G_copy 69 rfl) g_16 rfl rfl ⟨Nat.le_of_ble_eq_true rfl, Nat.le_of_ble_eq_true rfl⟩ ⟨(Nat.le_of_ble_eq_true rfl), (Nat.le_of_ble_eq_true rfl)⟩ (Nat.le_of_ble_eq_true rfl) (fun _ h => by cases h) (fun _ => rfl) (fun r_34 C_35 d_37 q_36 => ?_)
                obtain ⟨q_36a, h⟩ := q_36
                subst d_37
                show AW p l e _ s m args below meth c E M_G_copy true _ n _ _ _ [(2, v0), (0, v1), (0, v2), (0, v3), (0, v4), (0, v5), (9, 0)] [(0, r_34)] C_35
                exact AW.iret (dc hd_G_copy 70 rfl) rfl rfl (Nat.le_of_ble_eq_true rfl) (Nat.le_of_ble_eq_true rfl) ⟨rfl, h⟩
              · have h := h.2 c_33
                refine AW.iload (dc hd_G_copy 41 rfl) rfl ?_
                refine AW.if_lt (t := 114) (dc hd_G_copy 42 rfl) (by decide) (fun c_38 => ?_) (fun c_38 => ?_)
                · have h := h.1 c_38
                  refine AW.ra_n (dc hd_G_copy 67 rfl) rfl rfl rfl ?_
                  refine AW.iconst (dc hd_G_copy 68 rfl) (by decide) ?_
                  refine AW.callV (As := [(0, 0)]) (rest := []) (ci := 10) (m_G_finds l E n C v0 0 _ h) cb_10_186 im_G_finds se_G_finds ⟨_, _, rfl⟩ (by decide) (dc hd_G_copy 69 rfl) g_16 rfl rfl ⟨Nat.le_of_ble_eq_true rfl, Nat.le_of_ble_eq_true rfl⟩ ⟨(Nat.le_of_ble_eq_true rfl), (Nat.le_of_ble_eq_true rfl)⟩ (Nat.le_of_ble_eq_true rfl) (fun _ h => by cases h) (fun _ => rfl) (fun r_39 C_40 d_42 q_41 => ?_)
                  obtain ⟨q_41a, h⟩ := q_41
                  subst d_42
                  show AW p l e _ s m args below meth c E M_G_copy true _ n _ _ _ [(2, v0), (0, v1), (0, v2), (0, v3), (0, v4), (0, v5), (9, 0)] [(0, r_39)] C_40
                  exact AW.iret (dc hd_G_copy 70 rfl) rfl rfl (Nat.le_of_ble_eq_true rfl) (Nat.le_of_ble_eq_true rfl) ⟨rfl, h⟩
                · have h := h.2 c_38
                  refine AW.iload_n (dc hd_G_copy 43 rfl) rfl ?_
                  refine AW.i2l (dc hd_G_copy 44 rfl) ?_
                  refine AW.iload (dc hd_G_copy 45 rfl) rfl ?_
                  refine AW.i2l (dc hd_G_copy 46 rfl) ?_
                  refine AW.ladd (dc hd_G_copy 47 rfl) ?_
                  refine AW.ra_n (dc hd_G_copy 48 rfl) rfl rfl rfl ?_
                  refine AW.getp fl_10_85 (dc hd_G_copy 49 rfl) g_16 rfl ?_
                  refine AW.iload_n (dc hd_G_copy 50 rfl) rfl ?_
                  obtain ⟨g_43, h⟩ := h
                  obtain ⟨g_44, h⟩ := h
                  refine AW.iald (dc hd_G_copy 51 rfl) g_43 g_44 ?_
                  refine AW.i2l (dc hd_G_copy 52 rfl) ?_
                  refine AW.lc (dc hd_G_copy 53 rfl) ?_
                  refine AW.if_gt (t := 114) (dc hd_G_copy 54 rfl) (by decide) (fun c_45 => ?_) (fun c_45 => ?_)
                  · replace c_45 := (lc_gt _ _).mp c_45
                    have h := h.1 c_45
                    refine AW.ra_n (dc hd_G_copy 67 rfl) rfl rfl rfl ?_
                    refine AW.iconst (dc hd_G_copy 68 rfl) (by decide) ?_
                    refine AW.callV (As := [(0, 0)]) (rest := []) (ci := 10) (m_G_finds l E n C v0 0 _ h) cb_10_186 im_G_finds se_G_finds ⟨_, _, rfl⟩ (by decide) (dc hd_G_copy 69 rfl) g_16 rfl rfl ⟨Nat.le_of_ble_eq_true rfl, Nat.le_of_ble_eq_true rfl⟩ ⟨(Nat.le_of_ble_eq_true rfl), (Nat.le_of_ble_eq_true rfl)⟩ (Nat.le_of_ble_eq_true rfl) (fun _ h => by cases h) (fun _ => rfl) (fun r_46 C_47 d_49 q_48 => ?_)
                    obtain ⟨q_48a, h⟩ := q_48
                    subst d_49
                    show AW p l e _ s m args below meth c E M_G_copy true _ n _ _ _ [(2, v0), (0, v1), (0, v2), (0, v3), (0, v4), (0, v5), (9, 0)] [(0, r_46)] C_47
                    exact AW.iret (dc hd_G_copy 70 rfl) rfl rfl (Nat.le_of_ble_eq_true rfl) (Nat.le_of_ble_eq_true rfl) ⟨rfl, h⟩
                  · replace c_45 : ¬ C (PT v0.toNat 45).toNat v1.toNat < w64 (v2 + v5) := fun q => c_45 ((lc_gt _ _).mpr q)
                    have h := h.2 c_45
                    refine AW.iload (dc hd_G_copy 55 rfl) rfl ?_
                    refine AW.i2l (dc hd_G_copy 56 rfl) ?_
                    refine AW.iload (dc hd_G_copy 57 rfl) rfl ?_
                    refine AW.i2l (dc hd_G_copy 58 rfl) ?_
                    refine AW.ladd (dc hd_G_copy 59 rfl) ?_
                    refine AW.ra_n (dc hd_G_copy 60 rfl) rfl rfl rfl ?_
                    refine AW.getp fl_10_85 (dc hd_G_copy 61 rfl) g_16 rfl ?_
                    refine AW.iload_n (dc hd_G_copy 62 rfl) rfl ?_
                    obtain ⟨g_50, h⟩ := h
                    refine AW.iald (dc hd_G_copy 63 rfl) g_43 g_50 ?_
                    refine AW.i2l (dc hd_G_copy 64 rfl) ?_
                    refine AW.lc (dc hd_G_copy 65 rfl) ?_
                    refine AW.if_le (t := 120) (dc hd_G_copy 66 rfl) (by decide) (fun c_51 => ?_) (fun c_51 => ?_)
                    · replace c_51 := (lc_le _ _).mp c_51
                      have h := h.1 c_51
                      refine AW.iconst (dc hd_G_copy 71 rfl) (by decide) ?_
                      refine AW.istore [(2, v0), (0, v1), (0, v2), (0, v3), (0, v4), (0, v5), (0, 0)] (dc hd_G_copy 72 rfl) (Nat.le_of_ble_eq_true rfl) rfl rfl ?_
                      obtain ⟨f_71, h⟩ := h
                      exact aB_G_copy_123 n v0 v1 v2 v3 v4 v5 Q f_71 (C, 0) h
                    · replace c_51 : ¬ w64 (v4 + v5) ≤ C (PT v0.toNat 45).toNat v3.toNat := fun q => c_51 ((lc_le _ _).mpr q)
                      have h := h.2 c_51
                      refine AW.ra_n (dc hd_G_copy 67 rfl) rfl rfl rfl ?_
                      refine AW.iconst (dc hd_G_copy 68 rfl) (by decide) ?_
                      refine AW.callV (As := [(0, 0)]) (rest := []) (ci := 10) (m_G_finds l E n C v0 0 _ h) cb_10_186 im_G_finds se_G_finds ⟨_, _, rfl⟩ (by decide) (dc hd_G_copy 69 rfl) g_16 rfl rfl ⟨Nat.le_of_ble_eq_true rfl, Nat.le_of_ble_eq_true rfl⟩ ⟨(Nat.le_of_ble_eq_true rfl), (Nat.le_of_ble_eq_true rfl)⟩ (Nat.le_of_ble_eq_true rfl) (fun _ h => by cases h) (fun _ => rfl) (fun r_72 C_73 d_75 q_74 => ?_)
                      obtain ⟨q_74a, h⟩ := q_74
                      subst d_75
                      show AW p l e _ s m args below meth c E M_G_copy true _ n _ _ _ [(2, v0), (0, v1), (0, v2), (0, v3), (0, v4), (0, v5), (9, 0)] [(0, r_72)] C_73
                      exact AW.iret (dc hd_G_copy 70 rfl) rfl rfl (Nat.le_of_ble_eq_true rfl) (Nat.le_of_ble_eq_true rfl) ⟨rfl, h⟩
          · have h := h.2 c_26
            refine AW.ra_n (dc hd_G_copy 33 rfl) rfl rfl rfl ?_
            refine AW.iconst (dc hd_G_copy 34 rfl) (by decide) ?_
            refine AW.callV (As := [(0, 2)]) (rest := []) (ci := 10) (m_G_finds l E n C v0 2 _ h) cb_10_186 im_G_finds se_G_finds ⟨_, _, rfl⟩ (by decide) (dc hd_G_copy 35 rfl) g_16 rfl rfl ⟨Nat.le_of_ble_eq_true rfl, Nat.le_of_ble_eq_true rfl⟩ ⟨(Nat.le_of_ble_eq_true rfl), (Nat.le_of_ble_eq_true rfl)⟩ (Nat.le_of_ble_eq_true rfl) (fun _ h => by cases h) (fun _ => rfl) (fun r_76 C_77 d_79 q_78 => ?_)
            obtain ⟨q_78a, h⟩ := q_78
            subst d_79
            show AW p l e _ s m args below meth c E M_G_copy true _ n _ _ _ [(2, v0), (0, v1), (0, v2), (0, v3), (0, v4), (0, v5), (9, 0)] [(0, r_76)] C_77
            exact AW.iret (dc hd_G_copy 36 rfl) rfl rfl (Nat.le_of_ble_eq_true rfl) (Nat.le_of_ble_eq_true rfl) ⟨rfl, h⟩
        · have h := h.2 c_25
          refine AW.ra_n (dc hd_G_copy 20 rfl) rfl rfl rfl ?_
          refine AW.iconst (dc hd_G_copy 21 rfl) (by decide) ?_
          refine AW.callV (As := [(0, 5)]) (rest := []) (ci := 10) (m_G_finds l E n C v0 5 _ h) cb_10_186 im_G_finds se_G_finds ⟨_, _, rfl⟩ (by decide) (dc hd_G_copy 22 rfl) g_16 rfl rfl ⟨Nat.le_of_ble_eq_true rfl, Nat.le_of_ble_eq_true rfl⟩ ⟨(Nat.le_of_ble_eq_true rfl), (Nat.le_of_ble_eq_true rfl)⟩ (Nat.le_of_ble_eq_true rfl) (fun _ h => by cases h) (fun _ => rfl) (fun r_80 C_81 d_83 q_82 => ?_)
          obtain ⟨q_82a, h⟩ := q_82
          subst d_83
          show AW p l e _ s m args below meth c E M_G_copy true _ n _ _ _ [(2, v0), (0, v1), (0, v2), (0, v3), (0, v4), (0, v5), (9, 0)] [(0, r_80)] C_81
          exact AW.iret (dc hd_G_copy 23 rfl) rfl rfl (Nat.le_of_ble_eq_true rfl) (Nat.le_of_ble_eq_true rfl) ⟨rfl, h⟩
    · have h := h.1 c_15
      refine AW.ra_n (dc hd_G_copy 6 rfl) rfl rfl rfl ?_
      refine AW.iconst (dc hd_G_copy 7 rfl) (by decide) ?_
      obtain ⟨g_85, h⟩ := h
      refine AW.callV (As := [(0, 0)]) (rest := []) (ci := 10) (m_G_finds l E n C v0 0 _ h) cb_10_186 im_G_finds se_G_finds ⟨_, _, rfl⟩ (by decide) (dc hd_G_copy 8 rfl) g_85 rfl rfl ⟨Nat.le_of_ble_eq_true rfl, Nat.le_of_ble_eq_true rfl⟩ ⟨(Nat.le_of_ble_eq_true rfl), (Nat.le_of_ble_eq_true rfl)⟩ (Nat.le_of_ble_eq_true rfl) (fun _ h => by cases h) (fun _ => rfl) (fun r_84 C_86 d_88 q_87 => ?_)
      obtain ⟨q_87a, h⟩ := q_87
      subst d_88
      show AW p l e _ s m args below meth c E M_G_copy true _ n _ _ _ [(2, v0), (0, v1), (0, v2), (0, v3), (0, v4), (0, v5), (9, 0)] [(0, r_84)] C_86
      exact AW.iret (dc hd_G_copy 9 rfl) rfl rfl (Nat.le_of_ble_eq_true rfl) (Nat.le_of_ble_eq_true rfl) ⟨rfl, h⟩
def J_G_hold_109 (n : Nat) (C : Cn) (s0 s1 s2 : Int) (Q : Int → Cn → Prop) : Prop :=
  okO n s0 12 ∧ (okI s0 s1 ∧ (∀ C_35 : Cn, C_35 = wr C s0.toNat s1.toNat s2 → (Q 1 C_35)))
theorem aJ_G_hold_109 (n : Nat) (C : Cn) (s0 s1 s2 : Int) (Q : Int → Cn → Prop) (h : J_G_hold_109 n C s0 s1 s2 Q) : AW p l e R s m args below meth c E M_G_hold true (fun r C2 n2 => n2 = n ∧ Q r C2) n 0 0 109 [(9, 0), (9, 0), (9, 0), (9, 0), (9, 0)] [(0, s2), (0, s1), (2, s0)] C := by
  unfold J_G_hold_109 at h
  obtain ⟨g_33, h⟩ := h
  obtain ⟨g_34, h⟩ := h
  refine AW.niast (dc hd_G_hold 56 rfl) g_33 g_34 (fun C_35 eC_35 => ?_)
  have h := h C_35 eC_35
  refine AW.iconst (dc hd_G_hold 57 rfl) (by decide) ?_
  exact AW.iret (dc hd_G_hold 58 rfl) rfl rfl (Nat.le_of_ble_eq_true rfl) (Nat.le_of_ble_eq_true rfl) ⟨rfl, h⟩
def J_G_hold_67 (n : Nat) (C : Cn) (v0 v1 v2 v3 v4 s0 s1 s2 : Int) (Q : Int → Cn → Prop) : Prop :=
  okO n s0 12 ∧ (okI s0 s1 ∧ (∀ C_29 : Cn, C_29 = wr C s0.toNat s1.toNat s2 → (okO n v0 10 ∧ (J_G_hold_109 n C_29 (PT v0.toNat 49) v1 (if 100 ≤ v4 then (if 200 ≤ v4 then w32 (v4 - 200) else w32 (w32 (1000 * v2) + v3)) else v4) Q))))
theorem aJ_G_hold_67 (n : Nat) (C : Cn) (v0 v1 v2 v3 v4 s0 s1 s2 : Int) (Q : Int → Cn → Prop) (h : J_G_hold_67 n C v0 v1 v2 v3 v4 s0 s1 s2 Q) : AW p l e R s m args below meth c E M_G_hold true (fun r C2 n2 => n2 = n ∧ Q r C2) n 0 0 67 [(2, v0), (0, v1), (0, v2), (0, v3), (0, v4)] [(0, s2), (0, s1), (2, s0)] C := by
  unfold J_G_hold_67 at h
  obtain ⟨g_27, h⟩ := h
  obtain ⟨g_28, h⟩ := h
  refine AW.niast (dc hd_G_hold 35 rfl) g_27 g_28 (fun C_29 eC_29 => ?_)
  have h := h C_29 eC_29
  refine AW.ra_n (dc hd_G_hold 36 rfl) rfl rfl rfl ?_
  obtain ⟨g_30, h⟩ := h
  refine AW.getp fl_10_100 (dc hd_G_hold 37 rfl) g_30 rfl ?_
  refine AW.iload_n (dc hd_G_hold 38 rfl) rfl ?_
  refine AW.iload (dc hd_G_hold 39 rfl) rfl ?_
  refine AW.bipush (dc hd_G_hold 40 rfl) (by decide) (by decide +kernel) ?_
  refine AW.icmp_ge (t := 85) (dc hd_G_hold 41 rfl) (by decide) (fun c_31 => ?_) (fun c_31 => ?_)
  · simp only [if_pos (show 100 ≤ v4 from c_31)] at h
    refine AW.iload (dc hd_G_hold 44 rfl) rfl ?_
    refine AW.sipush (dc hd_G_hold 45 rfl) (by decide) (by decide +kernel) ?_
    refine AW.icmp_ge (t := 103) (dc hd_G_hold 46 rfl) (by decide) (fun c_32 => ?_) (fun c_32 => ?_)
    · simp only [if_pos (show 200 ≤ v4 from c_32)] at h
      refine AW.iload (dc hd_G_hold 53 rfl) rfl ?_
      refine AW.sipush (dc hd_G_hold 54 rfl) (by decide) (by decide +kernel) ?_
      refine AW.isub (dc hd_G_hold 55 rfl) ?_
      refine AW.fgt [(9, 0), (9, 0), (9, 0), (9, 0), (9, 0)] ⟨.inr rfl, .inr rfl, .inr rfl, .inr rfl, .inr rfl, trivial⟩ ?_
      exact aJ_G_hold_109 n C_29 _ _ _ Q h
    · simp only [if_neg (show ¬ (200 ≤ v4) from c_32)] at h
      refine AW.sipush (dc hd_G_hold 47 rfl) (by decide) (by decide +kernel) ?_
      refine AW.iload_n (dc hd_G_hold 48 rfl) rfl ?_
      refine AW.imul (dc hd_G_hold 49 rfl) ?_
      refine AW.iload_n (dc hd_G_hold 50 rfl) rfl ?_
      refine AW.iadd (dc hd_G_hold 51 rfl) ?_
      refine AW.goto (t := 109) (dc hd_G_hold 52 rfl) (by decide) ?_
      refine AW.fgt [(9, 0), (9, 0), (9, 0), (9, 0), (9, 0)] ⟨.inr rfl, .inr rfl, .inr rfl, .inr rfl, .inr rfl, trivial⟩ ?_
      exact aJ_G_hold_109 n C_29 _ _ _ Q h
  · simp only [if_neg (show ¬ (100 ≤ v4) from c_31)] at h
    refine AW.iload (dc hd_G_hold 42 rfl) rfl ?_
    refine AW.goto (t := 109) (dc hd_G_hold 43 rfl) (by decide) ?_
    refine AW.fgt [(9, 0), (9, 0), (9, 0), (9, 0), (9, 0)] ⟨.inr rfl, .inr rfl, .inr rfl, .inr rfl, .inr rfl, trivial⟩ ?_
    exact aJ_G_hold_109 n C_29 _ _ _ Q h
def P_G_hold (n : Nat) (C : Cn) (v0 v1 v2 v3 : Int) (Q : Int → Cn → Prop) : Prop :=
  P_G_in n C v1 0 9 (fun (r_1 : Int) => (r_1 = 0 → (okO n v0 10 ∧ (P_G_finds n C v0 0 (fun (r_6 : Int) (C_8 : Cn) => Q r_6 C_8)))) ∧ (¬ r_1 = 0 → (P_G_isPoint n C v2 v3 (fun (r_11 : Int) => (r_11 = 0 → (okO n v0 10 ∧ (P_G_finds n C v0 0 (fun (r_36 : Int) (C_38 : Cn) => Q r_36 C_38)))) ∧ (¬ r_11 = 0 → (okO n v0 10 ∧ (P_G_maps n C v0 (fun (_ : Int) (C_17 : Cn) => P_G_isIn n C_17 v0 v2 v3 (fun (r_21 : Int) (C_22 : Cn) => J_G_hold_67 n C_22 v0 v1 v2 v3 r_21 (PT v0.toNat 48) v1 (if 100 ≤ r_21 then (if 200 ≤ r_21 then 1 else 3) else 2) Q)))))))))
theorem m_G_hold (l : Launch) (E : Ev) (n : Nat) (C : Cn) (v0 v1 v2 v3 : Int) (Q : Int → Cn → Prop) (h : P_G_hold n C v0 v1 v2 v3 Q) : MA l y_G_hold M_G_hold E true C n [(2, v0), (0, v1), (0, v2), (0, v3)] (fun r C2 n2 => n2 = n ∧ Q r C2) := by
  refine MA.of (by decide) rfl rfl 1 rfl (fun p e s m args below meth c => ?_)
  show AW p l e _ s m args below meth c E M_G_hold true _ n 0 0 0 [(2, v0), (0, v1), (0, v2), (0, v3), (9, 0)] [] C
  unfold P_G_hold at h
  refine AW.iload_n (dc hd_G_hold 0 rfl) rfl ?_
  refine AW.i2l (dc hd_G_hold 1 rfl) ?_
  refine AW.lconst (v := 0) (dc hd_G_hold 2 rfl) (by decide) (by decide +kernel) ?_
  refine AW.ldc2 (v := 9) (dc hd_G_hold 3 rfl) ck_10_497 (by decide) rfl ?_
  refine AW.callS (As := [(1, v1), (1, 0), (1, 9)]) (rest := []) (m_G_in l E n C v1 0 9 _ h) cb_10_113 sm_G_in (dc hd_G_hold 4 rfl) rfl rfl ⟨Nat.le_of_ble_eq_true rfl, Nat.le_of_ble_eq_true rfl⟩ ⟨(Nat.le_of_ble_eq_true rfl), (Nat.le_of_ble_eq_true rfl)⟩ (Nat.le_of_ble_eq_true rfl) (fun _ h => by cases h) (fun _ => rfl) (fun r_1 D_3 d_4 q_2 => ?_)
  obtain ⟨q_2a, q_2b, h⟩ := q_2
  subst D_3
  subst d_4
  show AW p l e _ s m args below meth c E M_G_hold true _ n _ _ _ [(2, v0), (0, v1), (0, v2), (0, v3), (9, 0)] [(0, r_1)] C
  refine AW.if_eq (t := 20) (dc hd_G_hold 5 rfl) (by decide) (fun c_5 => ?_) (fun c_5 => ?_)
  · have h := h.1 c_5
    refine AW.ra_n (dc hd_G_hold 10 rfl) rfl rfl rfl ?_
    refine AW.iconst (dc hd_G_hold 11 rfl) (by decide) ?_
    obtain ⟨g_7, h⟩ := h
    refine AW.callV (As := [(0, 0)]) (rest := []) (ci := 10) (m_G_finds l E n C v0 0 _ h) cb_10_186 im_G_finds se_G_finds ⟨_, _, rfl⟩ (by decide) (dc hd_G_hold 12 rfl) g_7 rfl rfl ⟨Nat.le_of_ble_eq_true rfl, Nat.le_of_ble_eq_true rfl⟩ ⟨(Nat.le_of_ble_eq_true rfl), (Nat.le_of_ble_eq_true rfl)⟩ (Nat.le_of_ble_eq_true rfl) (fun _ h => by cases h) (fun _ => rfl) (fun r_6 C_8 d_10 q_9 => ?_)
    obtain ⟨q_9a, h⟩ := q_9
    subst d_10
    show AW p l e _ s m args below meth c E M_G_hold true _ n _ _ _ [(2, v0), (0, v1), (0, v2), (0, v3), (9, 0)] [(0, r_6)] C_8
    exact AW.iret (dc hd_G_hold 13 rfl) rfl rfl (Nat.le_of_ble_eq_true rfl) (Nat.le_of_ble_eq_true rfl) ⟨rfl, h⟩
  · have h := h.2 c_5
    refine AW.iload_n (dc hd_G_hold 6 rfl) rfl ?_
    refine AW.iload_n (dc hd_G_hold 7 rfl) rfl ?_
    refine AW.callS (As := [(0, v2), (0, v3)]) (rest := []) (m_G_isPoint l E n C v2 v3 _ h) cb_10_183 sm_G_isPoint (dc hd_G_hold 8 rfl) rfl rfl ⟨Nat.le_of_ble_eq_true rfl, Nat.le_of_ble_eq_true rfl⟩ ⟨(Nat.le_of_ble_eq_true rfl), (Nat.le_of_ble_eq_true rfl)⟩ (Nat.le_of_ble_eq_true rfl) (fun _ h => by cases h) (fun _ => rfl) (fun r_11 D_13 d_14 q_12 => ?_)
    obtain ⟨q_12a, q_12b, h⟩ := q_12
    subst D_13
    subst d_14
    show AW p l e _ s m args below meth c E M_G_hold true _ n _ _ _ [(2, v0), (0, v1), (0, v2), (0, v3), (9, 0)] [(0, r_11)] C
    refine AW.if_ne (t := 26) (dc hd_G_hold 9 rfl) (by decide) (fun c_15 => ?_) (fun c_15 => ?_)
    · have h := h.2 c_15
      refine AW.ra_n (dc hd_G_hold 14 rfl) rfl rfl rfl ?_
      obtain ⟨g_16, h⟩ := h
      refine AW.callV (As := []) (rest := []) (ci := 10) (m_G_maps l E n C v0 _ h) cb_10_211 im_G_maps se_G_maps ⟨_, _, rfl⟩ (by decide) (dc hd_G_hold 15 rfl) g_16 rfl rfl ⟨Nat.le_of_ble_eq_true rfl, Nat.le_of_ble_eq_true rfl⟩ ⟨(Nat.le_of_ble_eq_true rfl), (Nat.le_of_ble_eq_true rfl)⟩ (Nat.le_of_ble_eq_true rfl) (fun _ h => by cases h) (fun _ => rfl) (fun u_19 C_17 d_20 q_18 => ?_)
      obtain ⟨q_18a, h⟩ := q_18
      subst d_20
      show AW p l e _ s m args below meth c E M_G_hold true _ n _ _ _ [(2, v0), (0, v1), (0, v2), (0, v3), (9, 0)] [] C_17
      refine AW.ra_n (dc hd_G_hold 16 rfl) rfl rfl rfl ?_
      refine AW.iload_n (dc hd_G_hold 17 rfl) rfl ?_
      refine AW.iload_n (dc hd_G_hold 18 rfl) rfl ?_
      refine AW.callV (As := [(0, v2), (0, v3)]) (rest := []) (ci := 10) (m_G_isIn l E n C_17 v0 v2 v3 _ h) cb_10_281 im_G_isIn se_G_isIn ⟨_, _, rfl⟩ (by decide) (dc hd_G_hold 19 rfl) g_16 rfl rfl ⟨Nat.le_of_ble_eq_true rfl, Nat.le_of_ble_eq_true rfl⟩ ⟨(Nat.le_of_ble_eq_true rfl), (Nat.le_of_ble_eq_true rfl)⟩ (Nat.le_of_ble_eq_true rfl) (fun _ h => by cases h) (fun _ => rfl) (fun r_21 C_22 d_24 q_23 => ?_)
      obtain ⟨q_23a, h⟩ := q_23
      subst d_24
      show AW p l e _ s m args below meth c E M_G_hold true _ n _ _ _ [(2, v0), (0, v1), (0, v2), (0, v3), (9, 0)] [(0, r_21)] C_22
      refine AW.istore [(2, v0), (0, v1), (0, v2), (0, v3), (0, r_21)] (dc hd_G_hold 20 rfl) (Nat.le_of_ble_eq_true rfl) rfl rfl ?_
      refine AW.ra_n (dc hd_G_hold 21 rfl) rfl rfl rfl ?_
      refine AW.getp fl_10_97 (dc hd_G_hold 22 rfl) g_16 rfl ?_
      refine AW.iload_n (dc hd_G_hold 23 rfl) rfl ?_
      refine AW.iload (dc hd_G_hold 24 rfl) rfl ?_
      refine AW.bipush (dc hd_G_hold 25 rfl) (by decide) (by decide +kernel) ?_
      refine AW.icmp_ge (t := 54) (dc hd_G_hold 26 rfl) (by decide) (fun c_25 => ?_) (fun c_25 => ?_)
      · simp only [if_pos (show 100 ≤ r_21 from c_25)] at h
        refine AW.iload (dc hd_G_hold 29 rfl) rfl ?_
        refine AW.sipush (dc hd_G_hold 30 rfl) (by decide) (by decide +kernel) ?_
        refine AW.icmp_ge (t := 66) (dc hd_G_hold 31 rfl) (by decide) (fun c_26 => ?_) (fun c_26 => ?_)
        · simp only [if_pos (show 200 ≤ r_21 from c_26)] at h
          refine AW.iconst (dc hd_G_hold 34 rfl) (by decide) ?_
          exact aJ_G_hold_67 n C_22 _ _ _ _ _ _ _ _ Q h
        · simp only [if_neg (show ¬ (200 ≤ r_21) from c_26)] at h
          refine AW.iconst (dc hd_G_hold 32 rfl) (by decide) ?_
          refine AW.goto (t := 67) (dc hd_G_hold 33 rfl) (by decide) ?_
          exact aJ_G_hold_67 n C_22 _ _ _ _ _ _ _ _ Q h
      · simp only [if_neg (show ¬ (100 ≤ r_21) from c_25)] at h
        refine AW.iconst (dc hd_G_hold 27 rfl) (by decide) ?_
        refine AW.goto (t := 67) (dc hd_G_hold 28 rfl) (by decide) ?_
        exact aJ_G_hold_67 n C_22 _ _ _ _ _ _ _ _ Q h
    · have h := h.1 c_15
      refine AW.ra_n (dc hd_G_hold 10 rfl) rfl rfl rfl ?_
      refine AW.iconst (dc hd_G_hold 11 rfl) (by decide) ?_
      obtain ⟨g_37, h⟩ := h
      refine AW.callV (As := [(0, 0)]) (rest := []) (ci := 10) (m_G_finds l E n C v0 0 _ h) cb_10_186 im_G_finds se_G_finds ⟨_, _, rfl⟩ (by decide) (dc hd_G_hold 12 rfl) g_37 rfl rfl ⟨Nat.le_of_ble_eq_true rfl, Nat.le_of_ble_eq_true rfl⟩ ⟨(Nat.le_of_ble_eq_true rfl), (Nat.le_of_ble_eq_true rfl)⟩ (Nat.le_of_ble_eq_true rfl) (fun _ h => by cases h) (fun _ => rfl) (fun r_36 C_38 d_40 q_39 => ?_)
      obtain ⟨q_39a, h⟩ := q_39
      subst d_40
      show AW p l e _ s m args below meth c E M_G_hold true _ n _ _ _ [(2, v0), (0, v1), (0, v2), (0, v3), (9, 0)] [(0, r_36)] C_38
      exact AW.iret (dc hd_G_hold 13 rfl) rfl rfl (Nat.le_of_ble_eq_true rfl) (Nat.le_of_ble_eq_true rfl) ⟨rfl, h⟩
def J_G_holds_38 (n : Nat) (C : Cn) (s0 : Int) (Q : Int → Prop) : Prop :=
  (s0 = 0 ∨ s0 = 1) ∧ (Q s0)
theorem aJ_G_holds_38 (n : Nat) (C : Cn) (s0 : Int) (Q : Int → Prop) (h : J_G_holds_38 n C s0 Q) : AW p l e R s m args below meth c E M_G_holds true (fun r C2 n2 => C2 = C ∧ n2 = n ∧ Q r) n 0 0 38 [(9, 0), (9, 0)] [(0, s0)] C := by
  unfold J_G_holds_38 at h
  obtain ⟨g_9, h⟩ := h
  exact AW.zret (dc hd_G_holds 22 rfl) rfl rfl (Nat.le_of_ble_eq_true rfl) (Nat.le_of_ble_eq_true rfl) g_9 ⟨rfl, rfl, h⟩
def P_G_holds (n : Nat) (C : Cn) (v0 v1 : Int) (Q : Int → Prop) : Prop :=
  okO n v0 10 ∧ (okO n (PT v0.toNat 48) 12 ∧ (okI (PT v0.toNat 48) v1 ∧ ((1 < C (PT v0.toNat 48).toNat v1.toNat → (Q 1)) ∧ (¬ 1 < C (PT v0.toNat 48).toNat v1.toNat → ((C (PT v0.toNat 48).toNat v1.toNat = 1 → (okO n (PT v0.toNat 49) 12 ∧ (okI (PT v0.toNat 49) v1 ∧ (J_G_holds_38 n C (if C v0.toNat 0 ≤ C (PT v0.toNat 49).toNat v1.toNat then 0 else 1) Q)))) ∧ (¬ C (PT v0.toNat 48).toNat v1.toNat = 1 → (Q 0)))))))
theorem m_G_holds (l : Launch) (E : Ev) (n : Nat) (C : Cn) (v0 v1 : Int) (Q : Int → Prop) (h : P_G_holds n C v0 v1 Q) : MA l y_G_holds M_G_holds E true C n [(2, v0), (0, v1)] (fun r C2 n2 => C2 = C ∧ n2 = n ∧ Q r) := by
  refine MA.of (by decide) rfl rfl 0 rfl (fun p e s m args below meth c => ?_)
  show AW p l e _ s m args below meth c E M_G_holds true _ n 0 0 0 [(2, v0), (0, v1)] [] C
  unfold P_G_holds at h
  refine AW.ra_n (dc hd_G_holds 0 rfl) rfl rfl rfl ?_
  obtain ⟨g_1, h⟩ := h
  refine AW.getp fl_10_97 (dc hd_G_holds 1 rfl) g_1 rfl ?_
  refine AW.iload_n (dc hd_G_holds 2 rfl) rfl ?_
  obtain ⟨g_2, h⟩ := h
  obtain ⟨g_3, h⟩ := h
  refine AW.iald (dc hd_G_holds 3 rfl) g_2 g_3 ?_
  refine AW.iconst (dc hd_G_holds 4 rfl) (by decide) ?_
  refine AW.icmp_gt (t := 33) (dc hd_G_holds 5 rfl) (by decide) (fun c_4 => ?_) (fun c_4 => ?_)
  · have h := h.1 c_4
    refine AW.iconst (dc hd_G_holds 19 rfl) (by decide) ?_
    refine AW.goto (t := 38) (dc hd_G_holds 20 rfl) (by decide) ?_
    exact AW.zret (dc hd_G_holds 22 rfl) rfl rfl (Nat.le_of_ble_eq_true rfl) (Nat.le_of_ble_eq_true rfl) (by decide) ⟨rfl, rfl, h⟩
  · have h := h.2 c_4
    refine AW.ra_n (dc hd_G_holds 6 rfl) rfl rfl rfl ?_
    refine AW.getp fl_10_97 (dc hd_G_holds 7 rfl) g_1 rfl ?_
    refine AW.iload_n (dc hd_G_holds 8 rfl) rfl ?_
    refine AW.iald (dc hd_G_holds 9 rfl) g_2 g_3 ?_
    refine AW.iconst (dc hd_G_holds 10 rfl) (by decide) ?_
    refine AW.icmp_ne (t := 37) (dc hd_G_holds 11 rfl) (by decide) (fun c_5 => ?_) (fun c_5 => ?_)
    · have h := h.2 c_5
      refine AW.iconst (dc hd_G_holds 21 rfl) (by decide) ?_
      exact AW.zret (dc hd_G_holds 22 rfl) rfl rfl (Nat.le_of_ble_eq_true rfl) (Nat.le_of_ble_eq_true rfl) (by decide) ⟨rfl, rfl, h⟩
    · have h := h.1 c_5
      refine AW.ra_n (dc hd_G_holds 12 rfl) rfl rfl rfl ?_
      refine AW.getp fl_10_100 (dc hd_G_holds 13 rfl) g_1 rfl ?_
      refine AW.iload_n (dc hd_G_holds 14 rfl) rfl ?_
      obtain ⟨g_6, h⟩ := h
      obtain ⟨g_7, h⟩ := h
      refine AW.iald (dc hd_G_holds 15 rfl) g_6 g_7 ?_
      refine AW.ra_n (dc hd_G_holds 16 rfl) rfl rfl rfl ?_
      refine AW.getf fl_10_117 (dc hd_G_holds 17 rfl) g_1 ?_
      refine AW.icmp_ge (t := 37) (dc hd_G_holds 18 rfl) (by decide) (fun c_8 => ?_) (fun c_8 => ?_)
      · simp only [if_pos (show C v0.toNat 0 ≤ C (PT v0.toNat 49).toNat v1.toNat from c_8)] at h
        refine AW.iconst (dc hd_G_holds 21 rfl) (by decide) ?_
        refine AW.fgt [(9, 0), (9, 0)] ⟨.inr rfl, .inr rfl, trivial⟩ ?_
        exact aJ_G_holds_38 n C _ Q h
      · simp only [if_neg (show ¬ (C v0.toNat 0 ≤ C (PT v0.toNat 49).toNat v1.toNat) from c_8)] at h
        refine AW.iconst (dc hd_G_holds 19 rfl) (by decide) ?_
        refine AW.goto (t := 38) (dc hd_G_holds 20 rfl) (by decide) ?_
        refine AW.fgt [(9, 0), (9, 0)] ⟨.inr rfl, .inr rfl, trivial⟩ ?_
        exact aJ_G_holds_38 n C _ Q h
def J_G_isUnder_34 (n : Nat) (C : Cn) (s0 : Int) (Q : Int → Prop) : Prop :=
  (s0 = 0 ∨ s0 = 1) ∧ (Q s0)
theorem aJ_G_isUnder_34 (n : Nat) (C : Cn) (s0 : Int) (Q : Int → Prop) (h : J_G_isUnder_34 n C s0 Q) : AW p l e R s m args below meth c E M_G_isUnder true (fun r C2 n2 => C2 = C ∧ n2 = n ∧ Q r) n 0 0 34 [(9, 0), (9, 0)] [(0, s0)] C := by
  unfold J_G_isUnder_34 at h
  obtain ⟨g_9, h⟩ := h
  exact AW.zret (dc hd_G_isUnder 20 rfl) rfl rfl (Nat.le_of_ble_eq_true rfl) (Nat.le_of_ble_eq_true rfl) g_9 ⟨rfl, rfl, h⟩
def P_G_isUnder (n : Nat) (C : Cn) (v0 v1 : Int) (Q : Int → Prop) : Prop :=
  J_G_isUnder_34 n C (if v1 = 0 then 1 else (if v1 = v0 then 1 else (if v0 = 3 then (if v1 = 1 then 1 else (if v0 = 4 then (if v1 = 2 then 1 else 0) else 0)) else (if v0 = 4 then (if v1 = 2 then 1 else 0) else 0)))) Q
theorem m_G_isUnder (l : Launch) (E : Ev) (n : Nat) (C : Cn) (v0 v1 : Int) (Q : Int → Prop) (h : P_G_isUnder n C v0 v1 Q) : MA l y_G_isUnder M_G_isUnder E true C n [(0, v0), (0, v1)] (fun r C2 n2 => C2 = C ∧ n2 = n ∧ Q r) := by
  refine MA.of (by decide) rfl rfl 0 rfl (fun p e s m args below meth c => ?_)
  show AW p l e _ s m args below meth c E M_G_isUnder true _ n 0 0 0 [(0, v0), (0, v1)] [] C
  unfold P_G_isUnder at h
  refine AW.iload_n (dc hd_G_isUnder 0 rfl) rfl ?_
  refine AW.if_eq (t := 29) (dc hd_G_isUnder 1 rfl) (by decide) (fun c_1 => ?_) (fun c_1 => ?_)
  · simp only [if_pos (show v1 = 0 from c_1)] at h
    refine AW.iconst (dc hd_G_isUnder 17 rfl) (by decide) ?_
    refine AW.goto (t := 34) (dc hd_G_isUnder 18 rfl) (by decide) ?_
    refine AW.fgt [(9, 0), (9, 0)] ⟨.inr rfl, .inr rfl, trivial⟩ ?_
    exact aJ_G_isUnder_34 n C _ Q h
  · simp only [if_neg (show ¬ (v1 = 0) from c_1)] at h
    refine AW.iload_n (dc hd_G_isUnder 2 rfl) rfl ?_
    refine AW.iload_n (dc hd_G_isUnder 3 rfl) rfl ?_
    refine AW.icmp_eq (t := 29) (dc hd_G_isUnder 4 rfl) (by decide) (fun c_2 => ?_) (fun c_2 => ?_)
    · simp only [if_pos (show v1 = v0 from c_2)] at h
      refine AW.iconst (dc hd_G_isUnder 17 rfl) (by decide) ?_
      refine AW.goto (t := 34) (dc hd_G_isUnder 18 rfl) (by decide) ?_
      refine AW.fgt [(9, 0), (9, 0)] ⟨.inr rfl, .inr rfl, trivial⟩ ?_
      exact aJ_G_isUnder_34 n C _ Q h
    · simp only [if_neg (show ¬ (v1 = v0) from c_2)] at h
      refine AW.iload_n (dc hd_G_isUnder 5 rfl) rfl ?_
      refine AW.iconst (dc hd_G_isUnder 6 rfl) (by decide) ?_
      refine AW.icmp_ne (t := 19) (dc hd_G_isUnder 7 rfl) (by decide) (fun c_3 => ?_) (fun c_3 => ?_)
      · simp only [if_neg (show ¬ (v0 = 3) from c_3)] at h
        refine AW.iload_n (dc hd_G_isUnder 11 rfl) rfl ?_
        refine AW.iconst (dc hd_G_isUnder 12 rfl) (by decide) ?_
        refine AW.icmp_ne (t := 33) (dc hd_G_isUnder 13 rfl) (by decide) (fun c_4 => ?_) (fun c_4 => ?_)
        · simp only [if_neg (show ¬ (v0 = 4) from c_4)] at h
          refine AW.iconst (dc hd_G_isUnder 19 rfl) (by decide) ?_
          refine AW.fgt [(9, 0), (9, 0)] ⟨.inr rfl, .inr rfl, trivial⟩ ?_
          exact aJ_G_isUnder_34 n C _ Q h
        · simp only [if_pos (show v0 = 4 from c_4)] at h
          refine AW.iload_n (dc hd_G_isUnder 14 rfl) rfl ?_
          refine AW.iconst (dc hd_G_isUnder 15 rfl) (by decide) ?_
          refine AW.icmp_ne (t := 33) (dc hd_G_isUnder 16 rfl) (by decide) (fun c_5 => ?_) (fun c_5 => ?_)
          · simp only [if_neg (show ¬ (v1 = 2) from c_5)] at h
            refine AW.iconst (dc hd_G_isUnder 19 rfl) (by decide) ?_
            refine AW.fgt [(9, 0), (9, 0)] ⟨.inr rfl, .inr rfl, trivial⟩ ?_
            exact aJ_G_isUnder_34 n C _ Q h
          · simp only [if_pos (show v1 = 2 from c_5)] at h
            refine AW.iconst (dc hd_G_isUnder 17 rfl) (by decide) ?_
            refine AW.goto (t := 34) (dc hd_G_isUnder 18 rfl) (by decide) ?_
            refine AW.fgt [(9, 0), (9, 0)] ⟨.inr rfl, .inr rfl, trivial⟩ ?_
            exact aJ_G_isUnder_34 n C _ Q h
      · simp only [if_pos (show v0 = 3 from c_3)] at h
        refine AW.iload_n (dc hd_G_isUnder 8 rfl) rfl ?_
        refine AW.iconst (dc hd_G_isUnder 9 rfl) (by decide) ?_
        refine AW.icmp_eq (t := 29) (dc hd_G_isUnder 10 rfl) (by decide) (fun c_6 => ?_) (fun c_6 => ?_)
        · simp only [if_pos (show v1 = 1 from c_6)] at h
          refine AW.iconst (dc hd_G_isUnder 17 rfl) (by decide) ?_
          refine AW.goto (t := 34) (dc hd_G_isUnder 18 rfl) (by decide) ?_
          refine AW.fgt [(9, 0), (9, 0)] ⟨.inr rfl, .inr rfl, trivial⟩ ?_
          exact aJ_G_isUnder_34 n C _ Q h
        · simp only [if_neg (show ¬ (v1 = 1) from c_6)] at h
          refine AW.iload_n (dc hd_G_isUnder 11 rfl) rfl ?_
          refine AW.iconst (dc hd_G_isUnder 12 rfl) (by decide) ?_
          refine AW.icmp_ne (t := 33) (dc hd_G_isUnder 13 rfl) (by decide) (fun c_7 => ?_) (fun c_7 => ?_)
          · simp only [if_neg (show ¬ (v0 = 4) from c_7)] at h
            refine AW.iconst (dc hd_G_isUnder 19 rfl) (by decide) ?_
            refine AW.fgt [(9, 0), (9, 0)] ⟨.inr rfl, .inr rfl, trivial⟩ ?_
            exact aJ_G_isUnder_34 n C _ Q h
          · simp only [if_pos (show v0 = 4 from c_7)] at h
            refine AW.iload_n (dc hd_G_isUnder 14 rfl) rfl ?_
            refine AW.iconst (dc hd_G_isUnder 15 rfl) (by decide) ?_
            refine AW.icmp_ne (t := 33) (dc hd_G_isUnder 16 rfl) (by decide) (fun c_8 => ?_) (fun c_8 => ?_)
            · simp only [if_neg (show ¬ (v1 = 2) from c_8)] at h
              refine AW.iconst (dc hd_G_isUnder 19 rfl) (by decide) ?_
              refine AW.fgt [(9, 0), (9, 0)] ⟨.inr rfl, .inr rfl, trivial⟩ ?_
              exact aJ_G_isUnder_34 n C _ Q h
            · simp only [if_pos (show v1 = 2 from c_8)] at h
              refine AW.iconst (dc hd_G_isUnder 17 rfl) (by decide) ?_
              refine AW.goto (t := 34) (dc hd_G_isUnder 18 rfl) (by decide) ?_
              refine AW.fgt [(9, 0), (9, 0)] ⟨.inr rfl, .inr rfl, trivial⟩ ?_
              exact aJ_G_isUnder_34 n C _ Q h
def J_G_taken_102 (n : Nat) (C : Cn) (v0 v1 s0 : Int) (Q : Int → Cn → Prop) : Prop :=
  (s0 = 0 → (okO n v0 10 ∧ (P_G_finds n C v0 2 (fun (r_30 : Int) (C_32 : Cn) => Q r_30 C_32)))) ∧ (¬ s0 = 0 → (okO n v0 10 ∧ (okO n (PT v0.toNat 49) 12 ∧ (okI (PT v0.toNat 49) v1 ∧ (Q (C (PT v0.toNat 49).toNat v1.toNat) C)))))
theorem aJ_G_taken_102 (n : Nat) (C : Cn) (v0 v1 s0 : Int) (Q : Int → Cn → Prop) (h : J_G_taken_102 n C v0 v1 s0 Q) : AW p l e R s m args below meth c E M_G_taken true (fun r C2 n2 => n2 = n ∧ Q r C2) n 0 0 102 [(2, v0), (0, v1), (9, 0), (9, 0), (9, 0)] [(0, s0)] C := by
  unfold J_G_taken_102 at h
  refine AW.istore [(2, v0), (0, v1), (9, 0), (9, 0), (0, s0)] (dc hd_G_taken 59 rfl) (Nat.le_of_ble_eq_true rfl) rfl rfl ?_
  refine AW.iload (dc hd_G_taken 60 rfl) rfl ?_
  refine AW.if_eq (t := 118) (dc hd_G_taken 61 rfl) (by decide) (fun c_29 => ?_) (fun c_29 => ?_)
  · have h := h.1 c_29
    refine AW.ra_n (dc hd_G_taken 67 rfl) rfl rfl rfl ?_
    refine AW.iconst (dc hd_G_taken 68 rfl) (by decide) ?_
    obtain ⟨g_31, h⟩ := h
    refine AW.callV (As := [(0, 2)]) (rest := []) (ci := 10) (m_G_finds l E n C v0 2 _ h) cb_10_186 im_G_finds se_G_finds ⟨_, _, rfl⟩ (by decide) (dc hd_G_taken 69 rfl) g_31 rfl rfl ⟨Nat.le_of_ble_eq_true rfl, Nat.le_of_ble_eq_true rfl⟩ ⟨(Nat.le_of_ble_eq_true rfl), (Nat.le_of_ble_eq_true rfl)⟩ (Nat.le_of_ble_eq_true rfl) (fun _ h => by cases h) (fun _ => rfl) (fun r_30 C_32 d_34 q_33 => ?_)
    obtain ⟨q_33a, h⟩ := q_33
    subst d_34
    show AW p l e _ s m args below meth c E M_G_taken true _ n _ _ _ [(2, v0), (0, v1), (9, 0), (9, 0), (0, s0)] [(0, r_30)] C_32
    exact AW.iret (dc hd_G_taken 70 rfl) rfl rfl (Nat.le_of_ble_eq_true rfl) (Nat.le_of_ble_eq_true rfl) ⟨rfl, h⟩
  · have h := h.2 c_29
    refine AW.ra_n (dc hd_G_taken 62 rfl) rfl rfl rfl ?_
    obtain ⟨g_35, h⟩ := h
    refine AW.getp fl_10_100 (dc hd_G_taken 63 rfl) g_35 rfl ?_
    refine AW.iload_n (dc hd_G_taken 64 rfl) rfl ?_
    obtain ⟨g_36, h⟩ := h
    obtain ⟨g_37, h⟩ := h
    refine AW.iald (dc hd_G_taken 65 rfl) g_36 g_37 ?_
    refine AW.goto (t := 123) (dc hd_G_taken 66 rfl) (by decide) ?_
    exact AW.iret (dc hd_G_taken 70 rfl) rfl rfl (Nat.le_of_ble_eq_true rfl) (Nat.le_of_ble_eq_true rfl) ⟨rfl, h⟩
def J_G_taken_86 (n : Nat) (C : Cn) (v0 v1 : Int) (Q : Int → Cn → Prop) : Prop :=
  J_G_taken_102 n C v0 v1 0 Q
theorem aJ_G_taken_86 (n : Nat) (C : Cn) (v0 v1 : Int) (Q : Int → Cn → Prop) (h : J_G_taken_86 n C v0 v1 Q) : AW p l e R s m args below meth c E M_G_taken true (fun r C2 n2 => n2 = n ∧ Q r C2) n 0 0 86 [(2, v0), (0, v1), (9, 0), (9, 0), (9, 0)] [] C := by
  unfold J_G_taken_86 at h
  refine AW.iconst (dc hd_G_taken 49 rfl) (by decide) ?_
  refine AW.goto (t := 102) (dc hd_G_taken 50 rfl) (by decide) ?_
  exact aJ_G_taken_102 n C v0 v1 0 Q h
def P_G_taken (n : Nat) (C : Cn) (v0 v1 v2 : Int) (Q : Int → Cn → Prop) : Prop :=
  P_G_in n C v1 0 9 (fun (r_1 : Int) => (r_1 = 0 → (okO n v0 10 ∧ (P_G_finds n C v0 0 (fun (r_6 : Int) (C_8 : Cn) => Q r_6 C_8)))) ∧ (¬ r_1 = 0 → (P_G_in n C v2 0 7 (fun (r_11 : Int) => (r_11 = 0 → (okO n v0 10 ∧ (P_G_finds n C v0 0 (fun (r_54 : Int) (C_56 : Cn) => Q r_54 C_56)))) ∧ (¬ r_11 = 0 → (okO n v0 10 ∧ (P_G_holds n C v0 v1 (fun (r_16 : Int) => (r_16 = 0 → (P_G_finds n C v0 5 (fun (r_50 : Int) (C_51 : Cn) => Q r_50 C_51))) ∧ (¬ r_16 = 0 → (okO n (PT v0.toNat 48) 12 ∧ (okI (PT v0.toNat 48) v1 ∧ (∀ v3_24 : Int, v3_24 = C (PT v0.toNat 48).toNat v1.toNat → ((6 ≤ v2 → (J_G_taken_102 n C v0 v1 (if v3_24 = w32 (v2 - 4) then 1 else 0) Q)) ∧ (¬ 6 ≤ v2 → ((v3_24 = 1 → (okO n (PT v0.toNat 49) 12 ∧ (okI (PT v0.toNat 49) v1 ∧ (okO n (PT v0.toNat 1) 17 ∧ (okI (PT v0.toNat 1) (C (PT v0.toNat 49).toNat v1.toNat) ∧ (okO n (PT (PT v0.toNat 1).toNat (C (PT v0.toNat 49).toNat v1.toNat).toNat) 12 ∧ (okI (PT (PT v0.toNat 1).toNat (C (PT v0.toNat 49).toNat v1.toNat).toNat) 0 ∧ (P_G_isUnder n C (C (PT (PT v0.toNat 1).toNat (C (PT v0.toNat 49).toNat v1.toNat).toNat).toNat 0) v2 (fun (r_45 : Int) => J_G_taken_102 n C v0 v1 (if r_45 = 0 then 0 else 1) Q))))))))) ∧ (¬ v3_24 = 1 → (J_G_taken_86 n C v0 v1 Q)))))))))))))))))
theorem m_G_taken (l : Launch) (E : Ev) (n : Nat) (C : Cn) (v0 v1 v2 : Int) (Q : Int → Cn → Prop) (h : P_G_taken n C v0 v1 v2 Q) : MA l y_G_taken M_G_taken E true C n [(2, v0), (0, v1), (0, v2)] (fun r C2 n2 => n2 = n ∧ Q r C2) := by
  refine MA.of (by decide) rfl rfl 2 rfl (fun p e s m args below meth c => ?_)
  show AW p l e _ s m args below meth c E M_G_taken true _ n 0 0 0 [(2, v0), (0, v1), (0, v2), (9, 0), (9, 0)] [] C
  unfold P_G_taken at h
  refine AW.iload_n (dc hd_G_taken 0 rfl) rfl ?_
  refine AW.i2l (dc hd_G_taken 1 rfl) ?_
  refine AW.lconst (v := 0) (dc hd_G_taken 2 rfl) (by decide) (by decide +kernel) ?_
  refine AW.ldc2 (v := 9) (dc hd_G_taken 3 rfl) ck_10_497 (by decide) rfl ?_
  refine AW.callS (As := [(1, v1), (1, 0), (1, 9)]) (rest := []) (m_G_in l E n C v1 0 9 _ h) cb_10_113 sm_G_in (dc hd_G_taken 4 rfl) rfl rfl ⟨Nat.le_of_ble_eq_true rfl, Nat.le_of_ble_eq_true rfl⟩ ⟨(Nat.le_of_ble_eq_true rfl), (Nat.le_of_ble_eq_true rfl)⟩ (Nat.le_of_ble_eq_true rfl) (fun _ h => by cases h) (fun _ => rfl) (fun r_1 D_3 d_4 q_2 => ?_)
  obtain ⟨q_2a, q_2b, h⟩ := q_2
  subst D_3
  subst d_4
  show AW p l e _ s m args below meth c E M_G_taken true _ n _ _ _ [(2, v0), (0, v1), (0, v2), (9, 0), (9, 0)] [(0, r_1)] C
  refine AW.if_eq (t := 24) (dc hd_G_taken 5 rfl) (by decide) (fun c_5 => ?_) (fun c_5 => ?_)
  · have h := h.1 c_5
    refine AW.ra_n (dc hd_G_taken 12 rfl) rfl rfl rfl ?_
    refine AW.iconst (dc hd_G_taken 13 rfl) (by decide) ?_
    obtain ⟨g_7, h⟩ := h
    refine AW.callV (As := [(0, 0)]) (rest := []) (ci := 10) (m_G_finds l E n C v0 0 _ h) cb_10_186 im_G_finds se_G_finds ⟨_, _, rfl⟩ (by decide) (dc hd_G_taken 14 rfl) g_7 rfl rfl ⟨Nat.le_of_ble_eq_true rfl, Nat.le_of_ble_eq_true rfl⟩ ⟨(Nat.le_of_ble_eq_true rfl), (Nat.le_of_ble_eq_true rfl)⟩ (Nat.le_of_ble_eq_true rfl) (fun _ h => by cases h) (fun _ => rfl) (fun r_6 C_8 d_10 q_9 => ?_)
    obtain ⟨q_9a, h⟩ := q_9
    subst d_10
    show AW p l e _ s m args below meth c E M_G_taken true _ n _ _ _ [(2, v0), (0, v1), (0, v2), (9, 0), (9, 0)] [(0, r_6)] C_8
    exact AW.iret (dc hd_G_taken 15 rfl) rfl rfl (Nat.le_of_ble_eq_true rfl) (Nat.le_of_ble_eq_true rfl) ⟨rfl, h⟩
  · have h := h.2 c_5
    refine AW.iload_n (dc hd_G_taken 6 rfl) rfl ?_
    refine AW.i2l (dc hd_G_taken 7 rfl) ?_
    refine AW.lconst (v := 0) (dc hd_G_taken 8 rfl) (by decide) (by decide +kernel) ?_
    refine AW.ldc2 (v := 7) (dc hd_G_taken 9 rfl) ck_10_499 (by decide) rfl ?_
    refine AW.callS (As := [(1, v2), (1, 0), (1, 7)]) (rest := []) (m_G_in l E n C v2 0 7 _ h) cb_10_113 sm_G_in (dc hd_G_taken 10 rfl) rfl rfl ⟨Nat.le_of_ble_eq_true rfl, Nat.le_of_ble_eq_true rfl⟩ ⟨(Nat.le_of_ble_eq_true rfl), (Nat.le_of_ble_eq_true rfl)⟩ (Nat.le_of_ble_eq_true rfl) (fun _ h => by cases h) (fun _ => rfl) (fun r_11 D_13 d_14 q_12 => ?_)
    obtain ⟨q_12a, q_12b, h⟩ := q_12
    subst D_13
    subst d_14
    show AW p l e _ s m args below meth c E M_G_taken true _ n _ _ _ [(2, v0), (0, v1), (0, v2), (9, 0), (9, 0)] [(0, r_11)] C
    refine AW.if_ne (t := 30) (dc hd_G_taken 11 rfl) (by decide) (fun c_15 => ?_) (fun c_15 => ?_)
    · have h := h.2 c_15
      refine AW.ra_n (dc hd_G_taken 16 rfl) rfl rfl rfl ?_
      refine AW.iload_n (dc hd_G_taken 17 rfl) rfl ?_
      obtain ⟨g_17, h⟩ := h
      refine AW.callV (As := [(0, v1)]) (rest := []) (ci := 10) (m_G_holds l E n C v0 v1 _ h) cb_10_501 im_G_holds se_G_holds ⟨_, _, rfl⟩ (by decide) (dc hd_G_taken 18 rfl) g_17 rfl rfl ⟨Nat.le_of_ble_eq_true rfl, Nat.le_of_ble_eq_true rfl⟩ ⟨(Nat.le_of_ble_eq_true rfl), (Nat.le_of_ble_eq_true rfl)⟩ (Nat.le_of_ble_eq_true rfl) (fun _ h => by cases h) (fun _ => rfl) (fun r_16 D_19 d_20 q_18 => ?_)
      obtain ⟨q_18a, q_18b, h⟩ := q_18
      subst D_19
      subst d_20
      show AW p l e _ s m args below meth c E M_G_taken true _ n _ _ _ [(2, v0), (0, v1), (0, v2), (9, 0), (9, 0)] [(0, r_16)] C
      refine AW.if_ne (t := 44) (dc hd_G_taken 19 rfl) (by decide) (fun c_21 => ?_) (fun c_21 => ?_)
      · have h := h.2 c_21
        refine AW.ra_n (dc hd_G_taken 24 rfl) rfl rfl rfl ?_
        refine AW.getp fl_10_97 (dc hd_G_taken 25 rfl) g_17 rfl ?_
        refine AW.iload_n (dc hd_G_taken 26 rfl) rfl ?_
        obtain ⟨g_22, h⟩ := h
        obtain ⟨g_23, h⟩ := h
        refine AW.iald (dc hd_G_taken 27 rfl) g_22 g_23 ?_
        refine AW.nm (fun v3_24 ev3_24 => ?_)
        have h := h v3_24 ev3_24
        refine AW.istore_n [(2, v0), (0, v1), (0, v2), (0, v3_24), (9, 0)] (dc hd_G_taken 28 rfl) (Nat.le_of_ble_eq_true rfl) rfl rfl ?_
        refine AW.iload_n (dc hd_G_taken 29 rfl) rfl ?_
        refine AW.bipush (dc hd_G_taken 30 rfl) (by decide) (by decide +kernel) ?_
        refine AW.icmp_ge (t := 90) (dc hd_G_taken 31 rfl) (by decide) (fun c_25 => ?_) (fun c_25 => ?_)
        · have h := h.1 c_25
          refine AW.iload_n (dc hd_G_taken 51 rfl) rfl ?_
          refine AW.iload_n (dc hd_G_taken 52 rfl) rfl ?_
          refine AW.iconst (dc hd_G_taken 53 rfl) (by decide) ?_
          refine AW.isub (dc hd_G_taken 54 rfl) ?_
          refine AW.icmp_ne (t := 101) (dc hd_G_taken 55 rfl) (by decide) (fun c_28 => ?_) (fun c_28 => ?_)
          · simp only [if_neg (show ¬ (v3_24 = w32 (v2 - 4)) from c_28)] at h
            refine AW.iconst (dc hd_G_taken 58 rfl) (by decide) ?_
            refine AW.fgt [(2, v0), (0, v1), (9, 0), (9, 0), (9, 0)] ⟨.inl rfl, .inl rfl, .inr rfl, .inr rfl, .inl rfl, trivial⟩ ?_
            exact aJ_G_taken_102 n C _ _ _ Q h
          · simp only [if_pos (show v3_24 = w32 (v2 - 4) from c_28)] at h
            refine AW.iconst (dc hd_G_taken 56 rfl) (by decide) ?_
            refine AW.goto (t := 102) (dc hd_G_taken 57 rfl) (by decide) ?_
            refine AW.fgt [(2, v0), (0, v1), (9, 0), (9, 0), (9, 0)] ⟨.inl rfl, .inl rfl, .inr rfl, .inr rfl, .inl rfl, trivial⟩ ?_
            exact aJ_G_taken_102 n C _ _ _ Q h
        · have h := h.2 c_25
          refine AW.iload_n (dc hd_G_taken 32 rfl) rfl ?_
          refine AW.iconst (dc hd_G_taken 33 rfl) (by decide) ?_
          refine AW.icmp_ne (t := 86) (dc hd_G_taken 34 rfl) (by decide) (fun c_38 => ?_) (fun c_38 => ?_)
          · have h := h.2 c_38
            refine AW.fgt [(2, v0), (0, v1), (9, 0), (9, 0), (9, 0)] ⟨.inl rfl, .inl rfl, .inr rfl, .inr rfl, .inl rfl, trivial⟩ ?_
            exact aJ_G_taken_86 n C v0 v1 Q h
          · have h := h.1 c_38
            refine AW.ra_n (dc hd_G_taken 35 rfl) rfl rfl rfl ?_
            refine AW.getp fl_10_11 (dc hd_G_taken 36 rfl) g_17 rfl ?_
            refine AW.ra_n (dc hd_G_taken 37 rfl) rfl rfl rfl ?_
            refine AW.getp fl_10_100 (dc hd_G_taken 38 rfl) g_17 rfl ?_
            refine AW.iload_n (dc hd_G_taken 39 rfl) rfl ?_
            obtain ⟨g_39, h⟩ := h
            obtain ⟨g_40, h⟩ := h
            refine AW.iald (dc hd_G_taken 40 rfl) g_39 g_40 ?_
            obtain ⟨g_41, h⟩ := h
            obtain ⟨g_42, h⟩ := h
            refine AW.aaldp (by decide) (dc hd_G_taken 41 rfl) g_41 g_42 rfl ?_
            refine AW.iconst (dc hd_G_taken 42 rfl) (by decide) ?_
            obtain ⟨g_43, h⟩ := h
            obtain ⟨g_44, h⟩ := h
            refine AW.iald (dc hd_G_taken 43 rfl) g_43 g_44 ?_
            refine AW.iload_n (dc hd_G_taken 44 rfl) rfl ?_
            refine AW.callS (As := [(0, C (PT (PT v0.toNat 1).toNat (C (PT v0.toNat 49).toNat v1.toNat).toNat).toNat 0), (0, v2)]) (rest := []) (m_G_isUnder l E n C (C (PT (PT v0.toNat 1).toNat (C (PT v0.toNat 49).toNat v1.toNat).toNat).toNat 0) v2 _ h) cb_10_504 sm_G_isUnder (dc hd_G_taken 45 rfl) rfl rfl ⟨Nat.le_of_ble_eq_true rfl, Nat.le_of_ble_eq_true rfl⟩ ⟨(Nat.le_of_ble_eq_true rfl), (Nat.le_of_ble_eq_true rfl)⟩ (Nat.le_of_ble_eq_true rfl) (fun _ h => by cases h) (fun _ => rfl) (fun r_45 D_47 d_48 q_46 => ?_)
            obtain ⟨q_46a, q_46b, h⟩ := q_46
            subst D_47
            subst d_48
            show AW p l e _ s m args below meth c E M_G_taken true _ n _ _ _ [(2, v0), (0, v1), (0, v2), (0, v3_24), (9, 0)] [(0, r_45)] C
            refine AW.if_eq (t := 86) (dc hd_G_taken 46 rfl) (by decide) (fun c_49 => ?_) (fun c_49 => ?_)
            · simp only [if_pos (show r_45 = 0 from c_49)] at h
              refine AW.iconst (dc hd_G_taken 49 rfl) (by decide) ?_
              refine AW.goto (t := 102) (dc hd_G_taken 50 rfl) (by decide) ?_
              refine AW.fgt [(2, v0), (0, v1), (9, 0), (9, 0), (9, 0)] ⟨.inl rfl, .inl rfl, .inr rfl, .inr rfl, .inl rfl, trivial⟩ ?_
              exact aJ_G_taken_102 n C _ _ _ Q h
            · simp only [if_neg (show ¬ (r_45 = 0) from c_49)] at h
              refine AW.iconst (dc hd_G_taken 47 rfl) (by decide) ?_
              refine AW.goto (t := 102) (dc hd_G_taken 48 rfl) (by decide) ?_
              refine AW.fgt [(2, v0), (0, v1), (9, 0), (9, 0), (9, 0)] ⟨.inl rfl, .inl rfl, .inr rfl, .inr rfl, .inl rfl, trivial⟩ ?_
              exact aJ_G_taken_102 n C _ _ _ Q h
      · have h := h.1 c_21
        refine AW.ra_n (dc hd_G_taken 20 rfl) rfl rfl rfl ?_
        refine AW.iconst (dc hd_G_taken 21 rfl) (by decide) ?_
        refine AW.callV (As := [(0, 5)]) (rest := []) (ci := 10) (m_G_finds l E n C v0 5 _ h) cb_10_186 im_G_finds se_G_finds ⟨_, _, rfl⟩ (by decide) (dc hd_G_taken 22 rfl) g_17 rfl rfl ⟨Nat.le_of_ble_eq_true rfl, Nat.le_of_ble_eq_true rfl⟩ ⟨(Nat.le_of_ble_eq_true rfl), (Nat.le_of_ble_eq_true rfl)⟩ (Nat.le_of_ble_eq_true rfl) (fun _ h => by cases h) (fun _ => rfl) (fun r_50 C_51 d_53 q_52 => ?_)
        obtain ⟨q_52a, h⟩ := q_52
        subst d_53
        show AW p l e _ s m args below meth c E M_G_taken true _ n _ _ _ [(2, v0), (0, v1), (0, v2), (9, 0), (9, 0)] [(0, r_50)] C_51
        exact AW.iret (dc hd_G_taken 23 rfl) rfl rfl (Nat.le_of_ble_eq_true rfl) (Nat.le_of_ble_eq_true rfl) ⟨rfl, h⟩
    · have h := h.1 c_15
      refine AW.ra_n (dc hd_G_taken 12 rfl) rfl rfl rfl ?_
      refine AW.iconst (dc hd_G_taken 13 rfl) (by decide) ?_
      obtain ⟨g_55, h⟩ := h
      refine AW.callV (As := [(0, 0)]) (rest := []) (ci := 10) (m_G_finds l E n C v0 0 _ h) cb_10_186 im_G_finds se_G_finds ⟨_, _, rfl⟩ (by decide) (dc hd_G_taken 14 rfl) g_55 rfl rfl ⟨Nat.le_of_ble_eq_true rfl, Nat.le_of_ble_eq_true rfl⟩ ⟨(Nat.le_of_ble_eq_true rfl), (Nat.le_of_ble_eq_true rfl)⟩ (Nat.le_of_ble_eq_true rfl) (fun _ h => by cases h) (fun _ => rfl) (fun r_54 C_56 d_58 q_57 => ?_)
      obtain ⟨q_57a, h⟩ := q_57
      subst d_58
      show AW p l e _ s m args below meth c E M_G_taken true _ n _ _ _ [(2, v0), (0, v1), (0, v2), (9, 0), (9, 0)] [(0, r_54)] C_56
      exact AW.iret (dc hd_G_taken 15 rfl) rfl rfl (Nat.le_of_ble_eq_true rfl) (Nat.le_of_ble_eq_true rfl) ⟨rfl, h⟩
def J_G_image_42 (n : Nat) (C : Cn) (v0 : Int) (Q : Int → Cn → Prop) : Prop :=
  okO n v0 10 ∧ (∀ C_6 : Cn, C_6 = wr C v0.toNat 53 (C v0.toNat 2) → (∀ C_7 : Cn, C_7 = wr C_6 v0.toNat 54 (C_6 v0.toNat 3) → (∀ C_8 : Cn, C_8 = wr C_7 v0.toNat 55 (C_7 v0.toNat 4) → (Q 1 C_8))))
theorem aJ_G_image_42 (n : Nat) (C : Cn) (v0 : Int) (Q : Int → Cn → Prop) (h : J_G_image_42 n C v0 Q) : AW p l e R s m args below meth c E M_G_image true (fun r C2 n2 => n2 = n ∧ Q r C2) n 0 0 42 [(2, v0), (9, 0)] [] C := by
  unfold J_G_image_42 at h
  refine AW.ra_n (dc hd_G_image 23 rfl) rfl rfl rfl ?_
  refine AW.ra_n (dc hd_G_image 24 rfl) rfl rfl rfl ?_
  obtain ⟨g_5, h⟩ := h
  refine AW.getf fl_10_158 (dc hd_G_image 25 rfl) g_5 ?_
  refine AW.nputI fl_10_514 (dc hd_G_image 26 rfl) g_5 (fun C_6 eC_6 => ?_)
  have h := h C_6 eC_6
  refine AW.ra_n (dc hd_G_image 27 rfl) rfl rfl rfl ?_
  refine AW.ra_n (dc hd_G_image 28 rfl) rfl rfl rfl ?_
  refine AW.getf fl_10_379 (dc hd_G_image 29 rfl) g_5 ?_
  refine AW.nputJ fl_10_517 (dc hd_G_image 30 rfl) g_5 (fun C_7 eC_7 => ?_)
  have h := h C_7 eC_7
  refine AW.ra_n (dc hd_G_image 31 rfl) rfl rfl rfl ?_
  refine AW.ra_n (dc hd_G_image 32 rfl) rfl rfl rfl ?_
  refine AW.getf fl_10_14 (dc hd_G_image 33 rfl) g_5 ?_
  refine AW.nputI fl_10_520 (dc hd_G_image 34 rfl) g_5 (fun C_8 eC_8 => ?_)
  have h := h C_8 eC_8
  refine AW.iconst (dc hd_G_image 35 rfl) (by decide) ?_
  exact AW.iret (dc hd_G_image 36 rfl) rfl rfl (Nat.le_of_ble_eq_true rfl) (Nat.le_of_ble_eq_true rfl) ⟨rfl, h⟩
def B_G_image_15 (n : Nat) (v0 : Int) (Q : Int → Cn → Prop) (kz15 : Cn × Int → Prop) (z : Cn × Int) : Prop := match z with
  | (C, v1) => (6 ≤ v1 → (J_G_image_42 n C v0 Q)) ∧ (¬ 6 ≤ v1 → (okO n v0 10 ∧ (okO n (PT v0.toNat 1) 17 ∧ (okI (PT v0.toNat 1) v1 ∧ (okO n (PT v0.toNat 52) 17 ∧ (okI (PT v0.toNat 52) v1 ∧ (P_G_copies n C (PT (PT v0.toNat 1).toNat v1.toNat) (PT (PT v0.toNat 52).toNat v1.toNat) (fun (_ : Int) (C_14 : Cn) => kz15 (C_14, w32 (v1 + 1))))))))))
theorem bB_G_image_15 (n : Nat) (v0 : Int) (Q : Int → Cn → Prop) (kz15 : Cn × Int → Prop) (hkz15 : ∀ (Cz : Cn) (z1 : Int), kz15 (Cz, z1) → AW p l e R s m args below meth c E M_G_image true (fun r C2 n2 => n2 = n ∧ Q r C2) n 0 0 15 [(2, v0), (0, z1)] [] Cz) (C : Cn) (v1 : Int) (h : B_G_image_15 n v0 Q kz15 (C, v1)) : AW p l e R s m args below meth c E M_G_image true (fun r C2 n2 => n2 = n ∧ Q r C2) n 0 0 15 [(2, v0), (0, v1)] [] C := by
  unfold B_G_image_15 at h
  dsimp only at h
  refine AW.iload_n (dc hd_G_image 9 rfl) rfl ?_
  refine AW.bipush (dc hd_G_image 10 rfl) (by decide) (by decide +kernel) ?_
  refine AW.icmp_ge (t := 42) (dc hd_G_image 11 rfl) (by decide) (fun c_4 => ?_) (fun c_4 => ?_)
  · have h := h.1 c_4
    refine AW.fgt [(2, v0), (9, 0)] ⟨.inl rfl, .inr rfl, trivial⟩ ?_
    exact aJ_G_image_42 n C v0 Q h
  · have h := h.2 c_4
    refine AW.ra_n (dc hd_G_image 12 rfl) rfl rfl rfl ?_
    obtain ⟨g_9, h⟩ := h
    refine AW.getp fl_10_11 (dc hd_G_image 13 rfl) g_9 rfl ?_
    refine AW.iload_n (dc hd_G_image 14 rfl) rfl ?_
    obtain ⟨g_10, h⟩ := h
    obtain ⟨g_11, h⟩ := h
    refine AW.aaldp (by decide) (dc hd_G_image 15 rfl) g_10 g_11 rfl ?_
    refine AW.ra_n (dc hd_G_image 16 rfl) rfl rfl rfl ?_
    refine AW.getp fl_10_103 (dc hd_G_image 17 rfl) g_9 rfl ?_
    refine AW.iload_n (dc hd_G_image 18 rfl) rfl ?_
    obtain ⟨g_12, h⟩ := h
    obtain ⟨g_13, h⟩ := h
    refine AW.aaldp (by decide) (dc hd_G_image 19 rfl) g_12 g_13 rfl ?_
    refine AW.callS (As := [(2, PT (PT v0.toNat 1).toNat v1.toNat), (2, PT (PT v0.toNat 52).toNat v1.toNat)]) (rest := []) (m_G_copies l E n C (PT (PT v0.toNat 1).toNat v1.toNat) (PT (PT v0.toNat 52).toNat v1.toNat) _ h) cb_10_198 sm_G_copies (dc hd_G_image 20 rfl) rfl rfl ⟨Nat.le_of_ble_eq_true rfl, Nat.le_of_ble_eq_true rfl⟩ ⟨(Nat.le_of_ble_eq_true rfl), (Nat.le_of_ble_eq_true rfl)⟩ (Nat.le_of_ble_eq_true rfl) (fun _ h => by cases h) (fun _ => rfl) (fun u_16 C_14 d_17 q_15 => ?_)
    obtain ⟨q_15a, h⟩ := q_15
    subst d_17
    show AW p l e _ s m args below meth c E M_G_image true _ n _ _ _ [(2, v0), (0, v1)] [] C_14
    refine AW.iinc [(2, v0), (0, w32 (v1 + 1))] (dc hd_G_image 21 rfl) rfl (Nat.le_of_ble_eq_true rfl) rfl rfl ?_
    refine AW.goto (t := 15) (dc hd_G_image 22 rfl) (by decide) ?_
    exact hkz15 C_14 (w32 (v1 + 1)) h
theorem aB_G_image_15 (n : Nat) (v0 : Int) (Q : Int → Cn → Prop) : ∀ (f : Nat) (z : Cn × Int), lp (B_G_image_15 n v0 Q) f z → AW p l e R s m args below meth c E M_G_image true (fun r C2 n2 => n2 = n ∧ Q r C2) n 0 0 15 [(2, v0), (0, z.2)] [] (z.1) := by
  intro f
  induction f with
  | zero => intro z h; exact False.elim h
  | succ f ih => intro z h; exact bB_G_image_15 n v0 Q (lp (B_G_image_15 n v0 Q) f) (fun a0 a1 h => ih (a0, a1) h) z.1 z.2 h
def P_G_image (n : Nat) (C : Cn) (v0 : Int) (Q : Int → Cn → Prop) : Prop :=
  okO n v0 10 ∧ (∀ C_2 : Cn, C_2 = wr C v0.toNat 50 1 → (∀ C_3 : Cn, C_3 = wr C_2 v0.toNat 51 (C_2 v0.toNat 0) → (∃ f_18 : Nat, lp (B_G_image_15 n v0 Q) f_18 (C_3, 0))))
theorem m_G_image (l : Launch) (E : Ev) (n : Nat) (C : Cn) (v0 : Int) (Q : Int → Cn → Prop) (h : P_G_image n C v0 Q) : MA l y_G_image M_G_image E true C n [(2, v0)] (fun r C2 n2 => n2 = n ∧ Q r C2) := by
  refine MA.of (by decide) rfl rfl 1 rfl (fun p e s m args below meth c => ?_)
  show AW p l e _ s m args below meth c E M_G_image true _ n 0 0 0 [(2, v0), (9, 0)] [] C
  unfold P_G_image at h
  refine AW.ra_n (dc hd_G_image 0 rfl) rfl rfl rfl ?_
  refine AW.iconst (dc hd_G_image 1 rfl) (by decide) ?_
  obtain ⟨g_1, h⟩ := h
  refine AW.nputZ fl_10_507 (dc hd_G_image 2 rfl) g_1 (by decide) (fun C_2 eC_2 => ?_)
  have h := h C_2 eC_2
  refine AW.ra_n (dc hd_G_image 3 rfl) rfl rfl rfl ?_
  refine AW.ra_n (dc hd_G_image 4 rfl) rfl rfl rfl ?_
  refine AW.getf fl_10_117 (dc hd_G_image 5 rfl) g_1 ?_
  refine AW.nputI fl_10_511 (dc hd_G_image 6 rfl) g_1 (fun C_3 eC_3 => ?_)
  have h := h C_3 eC_3
  refine AW.iconst (dc hd_G_image 7 rfl) (by decide) ?_
  refine AW.istore_n [(2, v0), (0, 0)] (dc hd_G_image 8 rfl) (Nat.le_of_ble_eq_true rfl) rfl rfl ?_
  obtain ⟨f_18, h⟩ := h
  exact aB_G_image_15 n v0 Q f_18 (C_3, 0) h
def J_G_back_50 (n : Nat) (C : Cn) (v0 : Int) (Q : Int → Cn → Prop) : Prop :=
  okO n v0 10 ∧ (∀ C_6 : Cn, C_6 = wr C v0.toNat 2 (C v0.toNat 53) → (∀ C_7 : Cn, C_7 = wr C_6 v0.toNat 3 (C_6 v0.toNat 54) → (∀ C_8 : Cn, C_8 = wr C_7 v0.toNat 4 (C_7 v0.toNat 55) → (Q (C_8 v0.toNat 0) C_8))))
theorem aJ_G_back_50 (n : Nat) (C : Cn) (v0 : Int) (Q : Int → Cn → Prop) (h : J_G_back_50 n C v0 Q) : AW p l e R s m args below meth c E M_G_back true (fun r C2 n2 => n2 = n ∧ Q r C2) n 0 0 50 [(2, v0), (9, 0)] [] C := by
  unfold J_G_back_50 at h
  refine AW.ra_n (dc hd_G_back 27 rfl) rfl rfl rfl ?_
  refine AW.ra_n (dc hd_G_back 28 rfl) rfl rfl rfl ?_
  obtain ⟨g_5, h⟩ := h
  refine AW.getf fl_10_514 (dc hd_G_back 29 rfl) g_5 ?_
  refine AW.nputI fl_10_158 (dc hd_G_back 30 rfl) g_5 (fun C_6 eC_6 => ?_)
  have h := h C_6 eC_6
  refine AW.ra_n (dc hd_G_back 31 rfl) rfl rfl rfl ?_
  refine AW.ra_n (dc hd_G_back 32 rfl) rfl rfl rfl ?_
  refine AW.getf fl_10_517 (dc hd_G_back 33 rfl) g_5 ?_
  refine AW.nputJ fl_10_379 (dc hd_G_back 34 rfl) g_5 (fun C_7 eC_7 => ?_)
  have h := h C_7 eC_7
  refine AW.ra_n (dc hd_G_back 35 rfl) rfl rfl rfl ?_
  refine AW.ra_n (dc hd_G_back 36 rfl) rfl rfl rfl ?_
  refine AW.getf fl_10_520 (dc hd_G_back 37 rfl) g_5 ?_
  refine AW.nputI fl_10_14 (dc hd_G_back 38 rfl) g_5 (fun C_8 eC_8 => ?_)
  have h := h C_8 eC_8
  refine AW.ra_n (dc hd_G_back 39 rfl) rfl rfl rfl ?_
  refine AW.getf fl_10_117 (dc hd_G_back 40 rfl) g_5 ?_
  exact AW.iret (dc hd_G_back 41 rfl) rfl rfl (Nat.le_of_ble_eq_true rfl) (Nat.le_of_ble_eq_true rfl) ⟨rfl, h⟩
def B_G_back_23 (n : Nat) (v0 : Int) (Q : Int → Cn → Prop) (kz23 : Cn × Int → Prop) (z : Cn × Int) : Prop := match z with
  | (C, v1) => (6 ≤ v1 → (J_G_back_50 n C v0 Q)) ∧ (¬ 6 ≤ v1 → (okO n v0 10 ∧ (okO n (PT v0.toNat 52) 17 ∧ (okI (PT v0.toNat 52) v1 ∧ (okO n (PT v0.toNat 1) 17 ∧ (okI (PT v0.toNat 1) v1 ∧ (P_G_copies n C (PT (PT v0.toNat 52).toNat v1.toNat) (PT (PT v0.toNat 1).toNat v1.toNat) (fun (_ : Int) (C_14 : Cn) => kz23 (C_14, w32 (v1 + 1))))))))))
theorem bB_G_back_23 (n : Nat) (v0 : Int) (Q : Int → Cn → Prop) (kz23 : Cn × Int → Prop) (hkz23 : ∀ (Cz : Cn) (z1 : Int), kz23 (Cz, z1) → AW p l e R s m args below meth c E M_G_back true (fun r C2 n2 => n2 = n ∧ Q r C2) n 0 0 23 [(2, v0), (0, z1)] [] Cz) (C : Cn) (v1 : Int) (h : B_G_back_23 n v0 Q kz23 (C, v1)) : AW p l e R s m args below meth c E M_G_back true (fun r C2 n2 => n2 = n ∧ Q r C2) n 0 0 23 [(2, v0), (0, v1)] [] C := by
  unfold B_G_back_23 at h
  dsimp only at h
  refine AW.iload_n (dc hd_G_back 13 rfl) rfl ?_
  refine AW.bipush (dc hd_G_back 14 rfl) (by decide) (by decide +kernel) ?_
  refine AW.icmp_ge (t := 50) (dc hd_G_back 15 rfl) (by decide) (fun c_4 => ?_) (fun c_4 => ?_)
  · have h := h.1 c_4
    refine AW.fgt [(2, v0), (9, 0)] ⟨.inl rfl, .inr rfl, trivial⟩ ?_
    exact aJ_G_back_50 n C v0 Q h
  · have h := h.2 c_4
    refine AW.ra_n (dc hd_G_back 16 rfl) rfl rfl rfl ?_
    obtain ⟨g_9, h⟩ := h
    refine AW.getp fl_10_103 (dc hd_G_back 17 rfl) g_9 rfl ?_
    refine AW.iload_n (dc hd_G_back 18 rfl) rfl ?_
    obtain ⟨g_10, h⟩ := h
    obtain ⟨g_11, h⟩ := h
    refine AW.aaldp (by decide) (dc hd_G_back 19 rfl) g_10 g_11 rfl ?_
    refine AW.ra_n (dc hd_G_back 20 rfl) rfl rfl rfl ?_
    refine AW.getp fl_10_11 (dc hd_G_back 21 rfl) g_9 rfl ?_
    refine AW.iload_n (dc hd_G_back 22 rfl) rfl ?_
    obtain ⟨g_12, h⟩ := h
    obtain ⟨g_13, h⟩ := h
    refine AW.aaldp (by decide) (dc hd_G_back 23 rfl) g_12 g_13 rfl ?_
    refine AW.callS (As := [(2, PT (PT v0.toNat 52).toNat v1.toNat), (2, PT (PT v0.toNat 1).toNat v1.toNat)]) (rest := []) (m_G_copies l E n C (PT (PT v0.toNat 52).toNat v1.toNat) (PT (PT v0.toNat 1).toNat v1.toNat) _ h) cb_10_198 sm_G_copies (dc hd_G_back 24 rfl) rfl rfl ⟨Nat.le_of_ble_eq_true rfl, Nat.le_of_ble_eq_true rfl⟩ ⟨(Nat.le_of_ble_eq_true rfl), (Nat.le_of_ble_eq_true rfl)⟩ (Nat.le_of_ble_eq_true rfl) (fun _ h => by cases h) (fun _ => rfl) (fun u_16 C_14 d_17 q_15 => ?_)
    obtain ⟨q_15a, h⟩ := q_15
    subst d_17
    show AW p l e _ s m args below meth c E M_G_back true _ n _ _ _ [(2, v0), (0, v1)] [] C_14
    refine AW.iinc [(2, v0), (0, w32 (v1 + 1))] (dc hd_G_back 25 rfl) rfl (Nat.le_of_ble_eq_true rfl) rfl rfl ?_
    refine AW.goto (t := 23) (dc hd_G_back 26 rfl) (by decide) ?_
    exact hkz23 C_14 (w32 (v1 + 1)) h
theorem aB_G_back_23 (n : Nat) (v0 : Int) (Q : Int → Cn → Prop) : ∀ (f : Nat) (z : Cn × Int), lp (B_G_back_23 n v0 Q) f z → AW p l e R s m args below meth c E M_G_back true (fun r C2 n2 => n2 = n ∧ Q r C2) n 0 0 23 [(2, v0), (0, z.2)] [] (z.1) := by
  intro f
  induction f with
  | zero => intro z h; exact False.elim h
  | succ f ih => intro z h; exact bB_G_back_23 n v0 Q (lp (B_G_back_23 n v0 Q) f) (fun a0 a1 h => ih (a0, a1) h) z.1 z.2 h
def P_G_back (n : Nat) (C : Cn) (v0 : Int) (Q : Int → Cn → Prop) : Prop :=
  okO n v0 10 ∧ ((C v0.toNat 50 = 0 → (P_G_finds n C v0 3 (fun (r_19 : Int) (C_20 : Cn) => Q r_19 C_20))) ∧ (¬ C v0.toNat 50 = 0 → (∀ C_3 : Cn, C_3 = wr C v0.toNat 0 (C v0.toNat 51) → (∃ f_18 : Nat, lp (B_G_back_23 n v0 Q) f_18 (C_3, 0)))))
theorem m_G_back (l : Launch) (E : Ev) (n : Nat) (C : Cn) (v0 : Int) (Q : Int → Cn → Prop) (h : P_G_back n C v0 Q) : MA l y_G_back M_G_back E true C n [(2, v0)] (fun r C2 n2 => n2 = n ∧ Q r C2) := by
  refine MA.of (by decide) rfl rfl 1 rfl (fun p e s m args below meth c => ?_)
  show AW p l e _ s m args below meth c E M_G_back true _ n 0 0 0 [(2, v0), (9, 0)] [] C
  unfold P_G_back at h
  refine AW.ra_n (dc hd_G_back 0 rfl) rfl rfl rfl ?_
  obtain ⟨g_1, h⟩ := h
  refine AW.getf fl_10_507 (dc hd_G_back 1 rfl) g_1 ?_
  refine AW.if_ne (t := 13) (dc hd_G_back 2 rfl) (by decide) (fun c_2 => ?_) (fun c_2 => ?_)
  · have h := h.2 c_2
    refine AW.ra_n (dc hd_G_back 7 rfl) rfl rfl rfl ?_
    refine AW.ra_n (dc hd_G_back 8 rfl) rfl rfl rfl ?_
    refine AW.getf fl_10_511 (dc hd_G_back 9 rfl) g_1 ?_
    refine AW.nputI fl_10_117 (dc hd_G_back 10 rfl) g_1 (fun C_3 eC_3 => ?_)
    have h := h C_3 eC_3
    refine AW.iconst (dc hd_G_back 11 rfl) (by decide) ?_
    refine AW.istore_n [(2, v0), (0, 0)] (dc hd_G_back 12 rfl) (Nat.le_of_ble_eq_true rfl) rfl rfl ?_
    obtain ⟨f_18, h⟩ := h
    exact aB_G_back_23 n v0 Q f_18 (C_3, 0) h
  · have h := h.1 c_2
    refine AW.ra_n (dc hd_G_back 3 rfl) rfl rfl rfl ?_
    refine AW.iconst (dc hd_G_back 4 rfl) (by decide) ?_
    refine AW.callV (As := [(0, 3)]) (rest := []) (ci := 10) (m_G_finds l E n C v0 3 _ h) cb_10_186 im_G_finds se_G_finds ⟨_, _, rfl⟩ (by decide) (dc hd_G_back 5 rfl) g_1 rfl rfl ⟨Nat.le_of_ble_eq_true rfl, Nat.le_of_ble_eq_true rfl⟩ ⟨(Nat.le_of_ble_eq_true rfl), (Nat.le_of_ble_eq_true rfl)⟩ (Nat.le_of_ble_eq_true rfl) (fun _ h => by cases h) (fun _ => rfl) (fun r_19 C_20 d_22 q_21 => ?_)
    obtain ⟨q_21a, h⟩ := q_21
    subst d_22
    show AW p l e _ s m args below meth c E M_G_back true _ n _ _ _ [(2, v0), (9, 0)] [(0, r_19)] C_20
    exact AW.iret (dc hd_G_back 6 rfl) rfl rfl (Nat.le_of_ble_eq_true rfl) (Nat.le_of_ble_eq_true rfl) ⟨rfl, h⟩
def J_G_count_86 (n : Nat) (C : Cn) (v0 v3 s0 s1 : Int) (kz66 : Int × Int → Prop) (Q : Int → Cn → Prop) : Prop :=
  kz66 (w32 (s0 + s1), w32 (v3 + 1))
theorem aJ_G_count_86 (n : Nat) (C : Cn) (v0 v3 s0 s1 : Int) (kz66 : Int × Int → Prop) (Q : Int → Cn → Prop) (hkz66 : ∀ (z2 : Int) (z3 : Int), kz66 (z2, z3) → AW p l e R s m args below meth c E M_G_count true (fun r C2 n2 => n2 = n ∧ Q r C2) n 0 0 66 [(2, v0), (9, 0), (0, z2), (0, z3)] [] C) (h : J_G_count_86 n C v0 v3 s0 s1 kz66 Q) : AW p l e R s m args below meth c E M_G_count true (fun r C2 n2 => n2 = n ∧ Q r C2) n 0 0 86 [(2, v0), (9, 0), (9, 0), (0, v3)] [(0, s1), (0, s0)] C := by
  unfold J_G_count_86 at h
  refine AW.iadd (dc hd_G_count 29 rfl) ?_
  refine AW.istore_n [(2, v0), (9, 0), (0, w32 (s0 + s1)), (0, v3)] (dc hd_G_count 30 rfl) (Nat.le_of_ble_eq_true rfl) rfl rfl ?_
  refine AW.iinc [(2, v0), (9, 0), (0, w32 (s0 + s1)), (0, w32 (v3 + 1))] (dc hd_G_count 31 rfl) rfl (Nat.le_of_ble_eq_true rfl) rfl rfl ?_
  refine AW.goto (t := 66) (dc hd_G_count 32 rfl) (by decide) ?_
  exact hkz66 (w32 (s0 + s1)) (w32 (v3 + 1)) h
def B_G_count_66 (n : Nat) (C : Cn) (v0 : Int) (Q : Int → Cn → Prop) (kz66 : Int × Int → Prop) (z : Int × Int) : Prop := match z with
  | (v2, v3) => (10 ≤ v3 → (Q v2 C)) ∧ (¬ 10 ≤ v3 → (okO n v0 10 ∧ (P_G_holds n C v0 v3 (fun (r_7 : Int) => J_G_count_86 n C v0 v3 v2 (if r_7 = 0 then 0 else 1) kz66 Q))))
theorem bB_G_count_66 (n : Nat) (C : Cn) (v0 : Int) (Q : Int → Cn → Prop) (kz66 : Int × Int → Prop) (hkz66 : ∀ (z2 : Int) (z3 : Int), kz66 (z2, z3) → AW p l e R s m args below meth c E M_G_count true (fun r C2 n2 => n2 = n ∧ Q r C2) n 0 0 66 [(2, v0), (9, 0), (0, z2), (0, z3)] [] C) (v2 : Int) (v3 : Int) (h : B_G_count_66 n C v0 Q kz66 (v2, v3)) : AW p l e R s m args below meth c E M_G_count true (fun r C2 n2 => n2 = n ∧ Q r C2) n 0 0 66 [(2, v0), (9, 0), (0, v2), (0, v3)] [] C := by
  unfold B_G_count_66 at h
  dsimp only at h
  refine AW.iload_n (dc hd_G_count 18 rfl) rfl ?_
  refine AW.bipush (dc hd_G_count 19 rfl) (by decide) (by decide +kernel) ?_
  refine AW.icmp_ge (t := 94) (dc hd_G_count 20 rfl) (by decide) (fun c_6 => ?_) (fun c_6 => ?_)
  · have h := h.1 c_6
    refine AW.iload_n (dc hd_G_count 33 rfl) rfl ?_
    exact AW.iret (dc hd_G_count 34 rfl) rfl rfl (Nat.le_of_ble_eq_true rfl) (Nat.le_of_ble_eq_true rfl) ⟨rfl, h⟩
  · have h := h.2 c_6
    refine AW.iload_n (dc hd_G_count 21 rfl) rfl ?_
    refine AW.ra_n (dc hd_G_count 22 rfl) rfl rfl rfl ?_
    refine AW.iload_n (dc hd_G_count 23 rfl) rfl ?_
    obtain ⟨g_8, h⟩ := h
    refine AW.callV (As := [(0, v3)]) (rest := [(0, v2)]) (ci := 10) (m_G_holds l E n C v0 v3 _ h) cb_10_501 im_G_holds se_G_holds ⟨_, _, rfl⟩ (by decide) (dc hd_G_count 24 rfl) g_8 rfl rfl ⟨Nat.le_of_ble_eq_true rfl, Nat.le_of_ble_eq_true rfl⟩ ⟨(Nat.le_of_ble_eq_true rfl), (Nat.le_of_ble_eq_true rfl)⟩ (Nat.le_of_ble_eq_true rfl) (fun _ h => by cases h) (fun _ => rfl) (fun r_7 D_10 d_11 q_9 => ?_)
    obtain ⟨q_9a, q_9b, h⟩ := q_9
    subst D_10
    subst d_11
    show AW p l e _ s m args below meth c E M_G_count true _ n _ _ _ [(2, v0), (9, 0), (0, v2), (0, v3)] [(0, r_7), (0, v2)] C
    refine AW.if_eq (t := 85) (dc hd_G_count 25 rfl) (by decide) (fun c_12 => ?_) (fun c_12 => ?_)
    · simp only [if_pos (show r_7 = 0 from c_12)] at h
      refine AW.iconst (dc hd_G_count 28 rfl) (by decide) ?_
      refine AW.fgt [(2, v0), (9, 0), (9, 0), (0, v3)] ⟨.inl rfl, .inl rfl, .inr rfl, .inl rfl, trivial⟩ ?_
      exact aJ_G_count_86 n C _ _ _ _ kz66 Q hkz66 h
    · simp only [if_neg (show ¬ (r_7 = 0) from c_12)] at h
      refine AW.iconst (dc hd_G_count 26 rfl) (by decide) ?_
      refine AW.goto (t := 86) (dc hd_G_count 27 rfl) (by decide) ?_
      refine AW.fgt [(2, v0), (9, 0), (9, 0), (0, v3)] ⟨.inl rfl, .inl rfl, .inr rfl, .inl rfl, trivial⟩ ?_
      exact aJ_G_count_86 n C _ _ _ _ kz66 Q hkz66 h
theorem aB_G_count_66 (n : Nat) (C : Cn) (v0 : Int) (Q : Int → Cn → Prop) : ∀ (f : Nat) (z : Int × Int), lp (B_G_count_66 n C v0 Q) f z → AW p l e R s m args below meth c E M_G_count true (fun r C2 n2 => n2 = n ∧ Q r C2) n 0 0 66 [(2, v0), (9, 0), (0, z.1), (0, z.2)] [] C := by
  intro f
  induction f with
  | zero => intro z h; exact False.elim h
  | succ f ih => intro z h; exact bB_G_count_66 n C v0 Q (lp (B_G_count_66 n C v0 Q) f) (fun a0 a1 h => ih (a0, a1) h) z.1 z.2 h
def P_G_count (n : Nat) (C : Cn) (v0 v1 : Int) (Q : Int → Cn → Prop) : Prop :=
  (v1 = 0 → (okO n v0 10 ∧ (Q (C v0.toNat 0) C))) ∧ (v1 = 1 → (okO n v0 10 ∧ (Q (C v0.toNat 2) C))) ∧ (v1 = 2 → (okO n v0 10 ∧ (Q (C v0.toNat 4) C))) ∧ (v1 = 3 → (okO n v0 10 ∧ (Q (C v0.toNat 35) C))) ∧ (v1 = 4 → (∃ f_13 : Nat, lp (B_G_count_66 n C v0 Q) f_13 (0, 0))) ∧ (v1 = 5 → (okO n v0 10 ∧ (Q (C v0.toNat 38) C))) ∧ (v1 = 6 → (okO n v0 10 ∧ ((C v0.toNat 3 = w32 (C v0.toNat 3) → (Q (w32 (C v0.toNat 3)) C)) ∧ (¬ C v0.toNat 3 = w32 (C v0.toNat 3) → (P_G_finds n C v0 7 (fun (r_17 : Int) (C_18 : Cn) => Q r_17 C_18)))))) ∧ ((v1 < 0 ∨ 6 < v1) → (okO n v0 10 ∧ (P_G_finds n C v0 0 (fun (r_21 : Int) (C_23 : Cn) => Q r_21 C_23))))
theorem m_G_count (l : Launch) (E : Ev) (n : Nat) (C : Cn) (v0 v1 : Int) (Q : Int → Cn → Prop) (h : P_G_count n C v0 v1 Q) : MA l y_G_count M_G_count E true C n [(2, v0), (0, v1)] (fun r C2 n2 => n2 = n ∧ Q r C2) := by
  refine MA.of (by decide) rfl rfl 2 rfl (fun p e s m args below meth c => ?_)
  show AW p l e _ s m args below meth c E M_G_count true _ n 0 0 0 [(2, v0), (0, v1), (9, 0), (9, 0)] [] C
  unfold P_G_count at h
  refine AW.iconst (dc hd_G_count 0 rfl) (by decide) ?_
  refine AW.istore_n [(2, v0), (0, v1), (0, 0), (9, 0)] (dc hd_G_count 1 rfl) (Nat.le_of_ble_eq_true rfl) rfl rfl ?_
  refine AW.iload_n (dc hd_G_count 2 rfl) rfl ?_
  refine AW.tsw (td := 130) (dc hd_G_count 3 rfl) [44, 49, 54, 59, 64, 96, 101] (by decide +kernel) (by decide) (by decide) (fun j t hj hx => ?_) (fun q_1 => ?_)
  · match j, hj with
    | 0, hj =>
      cases hj
      have h := h.1 (hx.trans (by decide))
      refine AW.ra_n (dc hd_G_count 4 rfl) rfl rfl rfl ?_
      obtain ⟨g_2, h⟩ := h
      refine AW.getf fl_10_117 (dc hd_G_count 5 rfl) g_2 ?_
      exact AW.iret (dc hd_G_count 6 rfl) rfl rfl (Nat.le_of_ble_eq_true rfl) (Nat.le_of_ble_eq_true rfl) ⟨rfl, h⟩
    | 1, hj =>
      cases hj
      have h := h.2.1 (hx.trans (by decide))
      refine AW.ra_n (dc hd_G_count 7 rfl) rfl rfl rfl ?_
      obtain ⟨g_3, h⟩ := h
      refine AW.getf fl_10_158 (dc hd_G_count 8 rfl) g_3 ?_
      exact AW.iret (dc hd_G_count 9 rfl) rfl rfl (Nat.le_of_ble_eq_true rfl) (Nat.le_of_ble_eq_true rfl) ⟨rfl, h⟩
    | 2, hj =>
      cases hj
      have h := h.2.2.1 (hx.trans (by decide))
      refine AW.ra_n (dc hd_G_count 10 rfl) rfl rfl rfl ?_
      obtain ⟨g_4, h⟩ := h
      refine AW.getf fl_10_14 (dc hd_G_count 11 rfl) g_4 ?_
      exact AW.iret (dc hd_G_count 12 rfl) rfl rfl (Nat.le_of_ble_eq_true rfl) (Nat.le_of_ble_eq_true rfl) ⟨rfl, h⟩
    | 3, hj =>
      cases hj
      have h := h.2.2.2.1 (hx.trans (by decide))
      refine AW.ra_n (dc hd_G_count 13 rfl) rfl rfl rfl ?_
      obtain ⟨g_5, h⟩ := h
      refine AW.getf fl_10_403 (dc hd_G_count 14 rfl) g_5 ?_
      exact AW.iret (dc hd_G_count 15 rfl) rfl rfl (Nat.le_of_ble_eq_true rfl) (Nat.le_of_ble_eq_true rfl) ⟨rfl, h⟩
    | 4, hj =>
      cases hj
      have h := h.2.2.2.2.1 (hx.trans (by decide))
      refine AW.iconst (dc hd_G_count 16 rfl) (by decide) ?_
      refine AW.istore_n [(2, v0), (0, v1), (0, 0), (0, 0)] (dc hd_G_count 17 rfl) (Nat.le_of_ble_eq_true rfl) rfl rfl ?_
      obtain ⟨f_13, h⟩ := h
      refine AW.fgt [(2, v0), (9, 0), (0, 0), (0, 0)] ⟨.inl rfl, .inr rfl, .inl rfl, .inl rfl, trivial⟩ ?_
      exact aB_G_count_66 n C v0 Q f_13 (0, 0) h
    | 5, hj =>
      cases hj
      have h := h.2.2.2.2.2.1 (hx.trans (by decide))
      refine AW.ra_n (dc hd_G_count 35 rfl) rfl rfl rfl ?_
      obtain ⟨g_14, h⟩ := h
      refine AW.getf fl_10_412 (dc hd_G_count 36 rfl) g_14 ?_
      exact AW.iret (dc hd_G_count 37 rfl) rfl rfl (Nat.le_of_ble_eq_true rfl) (Nat.le_of_ble_eq_true rfl) ⟨rfl, h⟩
    | 6, hj =>
      cases hj
      have h := h.2.2.2.2.2.2.1 (hx.trans (by decide))
      refine AW.ra_n (dc hd_G_count 38 rfl) rfl rfl rfl ?_
      obtain ⟨g_15, h⟩ := h
      refine AW.getf fl_10_379 (dc hd_G_count 39 rfl) g_15 ?_
      refine AW.ra_n (dc hd_G_count 40 rfl) rfl rfl rfl ?_
      refine AW.getf fl_10_379 (dc hd_G_count 41 rfl) g_15 ?_
      refine AW.l2i (dc hd_G_count 42 rfl) ?_
      refine AW.i2l (dc hd_G_count 43 rfl) ?_
      refine AW.lc (dc hd_G_count 44 rfl) ?_
      refine AW.if_ne (t := 123) (dc hd_G_count 45 rfl) (by decide) (fun c_16 => ?_) (fun c_16 => ?_)
      · replace c_16 : ¬ C v0.toNat 3 = w32 (C v0.toNat 3) := fun q => c_16 ((lc_eq _ _).mpr q)
        have h := h.2 c_16
        refine AW.ra_n (dc hd_G_count 50 rfl) rfl rfl rfl ?_
        refine AW.bipush (dc hd_G_count 51 rfl) (by decide) (by decide +kernel) ?_
        refine AW.callV (As := [(0, 7)]) (rest := []) (ci := 10) (m_G_finds l E n C v0 7 _ h) cb_10_186 im_G_finds se_G_finds ⟨_, _, rfl⟩ (by decide) (dc hd_G_count 52 rfl) g_15 rfl rfl ⟨Nat.le_of_ble_eq_true rfl, Nat.le_of_ble_eq_true rfl⟩ ⟨(Nat.le_of_ble_eq_true rfl), (Nat.le_of_ble_eq_true rfl)⟩ (Nat.le_of_ble_eq_true rfl) (fun _ h => by cases h) (fun _ => rfl) (fun r_17 C_18 d_20 q_19 => ?_)
        obtain ⟨q_19a, h⟩ := q_19
        subst d_20
        show AW p l e _ s m args below meth c E M_G_count true _ n _ _ _ [(2, v0), (0, v1), (0, 0), (9, 0)] [(0, r_17)] C_18
        exact AW.iret (dc hd_G_count 53 rfl) rfl rfl (Nat.le_of_ble_eq_true rfl) (Nat.le_of_ble_eq_true rfl) ⟨rfl, h⟩
      · replace c_16 := (lc_eq _ _).mp c_16
        have h := h.1 c_16
        refine AW.ra_n (dc hd_G_count 46 rfl) rfl rfl rfl ?_
        refine AW.getf fl_10_379 (dc hd_G_count 47 rfl) g_15 ?_
        refine AW.l2i (dc hd_G_count 48 rfl) ?_
        refine AW.goto (t := 129) (dc hd_G_count 49 rfl) (by decide) ?_
        exact AW.iret (dc hd_G_count 53 rfl) rfl rfl (Nat.le_of_ble_eq_true rfl) (Nat.le_of_ble_eq_true rfl) ⟨rfl, h⟩
    | j + 7, hj => exact absurd hj (by simp)
  · have h := h.2.2.2.2.2.2.2 q_1
    refine AW.ra_n (dc hd_G_count 54 rfl) rfl rfl rfl ?_
    refine AW.iconst (dc hd_G_count 55 rfl) (by decide) ?_
    obtain ⟨g_22, h⟩ := h
    refine AW.callV (As := [(0, 0)]) (rest := []) (ci := 10) (m_G_finds l E n C v0 0 _ h) cb_10_186 im_G_finds se_G_finds ⟨_, _, rfl⟩ (by decide) (dc hd_G_count 56 rfl) g_22 rfl rfl ⟨Nat.le_of_ble_eq_true rfl, Nat.le_of_ble_eq_true rfl⟩ ⟨(Nat.le_of_ble_eq_true rfl), (Nat.le_of_ble_eq_true rfl)⟩ (Nat.le_of_ble_eq_true rfl) (fun _ h => by cases h) (fun _ => rfl) (fun r_21 C_23 d_25 q_24 => ?_)
    obtain ⟨q_24a, h⟩ := q_24
    subst d_25
    show AW p l e _ s m args below meth c E M_G_count true _ n _ _ _ [(2, v0), (0, v1), (0, 0), (9, 0)] [(0, r_21)] C_23
    exact AW.iret (dc hd_G_count 57 rfl) rfl rfl (Nat.le_of_ble_eq_true rfl) (Nat.le_of_ble_eq_true rfl) ⟨rfl, h⟩
def J_G_status_40 (n : Nat) (C : Cn) (v0 v1 v3 s0 : Int) (kz24 : Int × Int → Prop) (Q : Int → Cn → Prop) : Prop :=
  okO n v0 10 ∧ (okO n (PT v0.toNat 5) 12 ∧ (okI (PT v0.toNat 5) v3 ∧ (∀ v2_11 : Int, v2_11 = w32 (s0 + C (PT v0.toNat 5).toNat v3.toNat) → (kz24 (v2_11, w32 (v3 + 1))))))
theorem aJ_G_status_40 (n : Nat) (C : Cn) (v0 v1 v3 s0 : Int) (kz24 : Int × Int → Prop) (Q : Int → Cn → Prop) (hkz24 : ∀ (z2 : Int) (z3 : Int), kz24 (z2, z3) → AW p l e R s m args below meth c E M_G_status true (fun r C2 n2 => n2 = n ∧ Q r C2) n 0 0 24 [(2, v0), (0, v1), (0, z2), (0, z3)] [] C) (h : J_G_status_40 n C v0 v1 v3 s0 kz24 Q) : AW p l e R s m args below meth c E M_G_status true (fun r C2 n2 => n2 = n ∧ Q r C2) n 0 0 40 [(2, v0), (0, v1), (9, 0), (0, v3)] [(0, s0)] C := by
  unfold J_G_status_40 at h
  refine AW.ra_n (dc hd_G_status 23 rfl) rfl rfl rfl ?_
  obtain ⟨g_8, h⟩ := h
  refine AW.getp fl_10_18 (dc hd_G_status 24 rfl) g_8 rfl ?_
  refine AW.iload_n (dc hd_G_status 25 rfl) rfl ?_
  obtain ⟨g_9, h⟩ := h
  obtain ⟨g_10, h⟩ := h
  refine AW.iald (dc hd_G_status 26 rfl) g_9 g_10 ?_
  refine AW.goto (t := 50) (dc hd_G_status 27 rfl) (by decide) ?_
  refine AW.iadd (dc hd_G_status 29 rfl) ?_
  refine AW.nm (fun v2_11 ev2_11 => ?_)
  have h := h v2_11 ev2_11
  refine AW.istore_n [(2, v0), (0, v1), (0, v2_11), (0, v3)] (dc hd_G_status 30 rfl) (Nat.le_of_ble_eq_true rfl) rfl rfl ?_
  refine AW.iinc [(2, v0), (0, v1), (0, v2_11), (0, w32 (v3 + 1))] (dc hd_G_status 31 rfl) rfl (Nat.le_of_ble_eq_true rfl) rfl rfl ?_
  refine AW.goto (t := 24) (dc hd_G_status 32 rfl) (by decide) ?_
  exact hkz24 v2_11 (w32 (v3 + 1)) h
def B_G_status_24 (n : Nat) (C : Cn) (v0 v1 : Int) (Q : Int → Cn → Prop) (kz24 : Int × Int → Prop) (z : Int × Int) : Prop := match z with
  | (v2, v3) => (8 ≤ v3 → (Q v2 C)) ∧ (¬ 8 ≤ v3 → ((v1 < 0 → (J_G_status_40 n C v0 v1 v3 v2 kz24 Q)) ∧ (¬ v1 < 0 → ((v1 = v3 → (J_G_status_40 n C v0 v1 v3 v2 kz24 Q)) ∧ (¬ v1 = v3 → (kz24 (w32 (v2 + 0), w32 (v3 + 1))))))))
theorem bB_G_status_24 (n : Nat) (C : Cn) (v0 v1 : Int) (Q : Int → Cn → Prop) (kz24 : Int × Int → Prop) (hkz24 : ∀ (z2 : Int) (z3 : Int), kz24 (z2, z3) → AW p l e R s m args below meth c E M_G_status true (fun r C2 n2 => n2 = n ∧ Q r C2) n 0 0 24 [(2, v0), (0, v1), (0, z2), (0, z3)] [] C) (v2 : Int) (v3 : Int) (h : B_G_status_24 n C v0 v1 Q kz24 (v2, v3)) : AW p l e R s m args below meth c E M_G_status true (fun r C2 n2 => n2 = n ∧ Q r C2) n 0 0 24 [(2, v0), (0, v1), (0, v2), (0, v3)] [] C := by
  unfold B_G_status_24 at h
  dsimp only at h
  refine AW.iload_n (dc hd_G_status 14 rfl) rfl ?_
  refine AW.bipush (dc hd_G_status 15 rfl) (by decide) (by decide +kernel) ?_
  refine AW.icmp_ge (t := 58) (dc hd_G_status 16 rfl) (by decide) (fun c_6 => ?_) (fun c_6 => ?_)
  · have h := h.1 c_6
    refine AW.iload_n (dc hd_G_status 33 rfl) rfl ?_
    exact AW.iret (dc hd_G_status 34 rfl) rfl rfl (Nat.le_of_ble_eq_true rfl) (Nat.le_of_ble_eq_true rfl) ⟨rfl, h⟩
  · have h := h.2 c_6
    refine AW.iload_n (dc hd_G_status 17 rfl) rfl ?_
    refine AW.iload_n (dc hd_G_status 18 rfl) rfl ?_
    refine AW.if_lt (t := 40) (dc hd_G_status 19 rfl) (by decide) (fun c_7 => ?_) (fun c_7 => ?_)
    · have h := h.1 c_7
      refine AW.fgt [(2, v0), (0, v1), (9, 0), (0, v3)] ⟨.inl rfl, .inl rfl, .inr rfl, .inl rfl, trivial⟩ ?_
      exact aJ_G_status_40 n C v0 v1 v3 v2 kz24 Q hkz24 h
    · have h := h.2 c_7
      refine AW.iload_n (dc hd_G_status 20 rfl) rfl ?_
      refine AW.iload_n (dc hd_G_status 21 rfl) rfl ?_
      refine AW.icmp_ne (t := 49) (dc hd_G_status 22 rfl) (by decide) (fun c_12 => ?_) (fun c_12 => ?_)
      · have h := h.2 c_12
        refine AW.iconst (dc hd_G_status 28 rfl) (by decide) ?_
        refine AW.iadd (dc hd_G_status 29 rfl) ?_
        refine AW.istore_n [(2, v0), (0, v1), (0, w32 (v2 + 0)), (0, v3)] (dc hd_G_status 30 rfl) (Nat.le_of_ble_eq_true rfl) rfl rfl ?_
        refine AW.iinc [(2, v0), (0, v1), (0, w32 (v2 + 0)), (0, w32 (v3 + 1))] (dc hd_G_status 31 rfl) rfl (Nat.le_of_ble_eq_true rfl) rfl rfl ?_
        refine AW.goto (t := 24) (dc hd_G_status 32 rfl) (by decide) ?_
        exact hkz24 (w32 (v2 + 0)) (w32 (v3 + 1)) h
      · have h := h.1 c_12
        refine AW.fgt [(2, v0), (0, v1), (9, 0), (0, v3)] ⟨.inl rfl, .inl rfl, .inr rfl, .inl rfl, trivial⟩ ?_
        exact aJ_G_status_40 n C v0 v1 v3 v2 kz24 Q hkz24 h
theorem aB_G_status_24 (n : Nat) (C : Cn) (v0 v1 : Int) (Q : Int → Cn → Prop) : ∀ (f : Nat) (z : Int × Int), lp (B_G_status_24 n C v0 v1 Q) f z → AW p l e R s m args below meth c E M_G_status true (fun r C2 n2 => n2 = n ∧ Q r C2) n 0 0 24 [(2, v0), (0, v1), (0, z.1), (0, z.2)] [] C := by
  intro f
  induction f with
  | zero => intro z h; exact False.elim h
  | succ f ih => intro z h; exact bB_G_status_24 n C v0 v1 Q (lp (B_G_status_24 n C v0 v1 Q) f) (fun a0 a1 h => ih (a0, a1) h) z.1 z.2 h
def P_G_status (n : Nat) (C : Cn) (v0 v1 : Int) (Q : Int → Cn → Prop) : Prop :=
  P_G_in n C v1 (-1) 7 (fun (r_1 : Int) => (r_1 = 0 → (okO n v0 10 ∧ (P_G_finds n C v0 0 (fun (r_14 : Int) (C_16 : Cn) => Q r_14 C_16)))) ∧ (¬ r_1 = 0 → (∃ f_13 : Nat, lp (B_G_status_24 n C v0 v1 Q) f_13 (0, 0))))
theorem m_G_status (l : Launch) (E : Ev) (n : Nat) (C : Cn) (v0 v1 : Int) (Q : Int → Cn → Prop) (h : P_G_status n C v0 v1 Q) : MA l y_G_status M_G_status E true C n [(2, v0), (0, v1)] (fun r C2 n2 => n2 = n ∧ Q r C2) := by
  refine MA.of (by decide) rfl rfl 2 rfl (fun p e s m args below meth c => ?_)
  show AW p l e _ s m args below meth c E M_G_status true _ n 0 0 0 [(2, v0), (0, v1), (9, 0), (9, 0)] [] C
  unfold P_G_status at h
  refine AW.iload_n (dc hd_G_status 0 rfl) rfl ?_
  refine AW.i2l (dc hd_G_status 1 rfl) ?_
  refine AW.ldc2 (v := -1) (dc hd_G_status 2 rfl) ck_10_390 (by decide) rfl ?_
  refine AW.ldc2 (v := 7) (dc hd_G_status 3 rfl) ck_10_499 (by decide) rfl ?_
  refine AW.callS (As := [(1, v1), (1, (-1)), (1, 7)]) (rest := []) (m_G_in l E n C v1 (-1) 7 _ h) cb_10_113 sm_G_in (dc hd_G_status 4 rfl) rfl rfl ⟨Nat.le_of_ble_eq_true rfl, Nat.le_of_ble_eq_true rfl⟩ ⟨(Nat.le_of_ble_eq_true rfl), (Nat.le_of_ble_eq_true rfl)⟩ (Nat.le_of_ble_eq_true rfl) (fun _ h => by cases h) (fun _ => rfl) (fun r_1 D_3 d_4 q_2 => ?_)
  obtain ⟨q_2a, q_2b, h⟩ := q_2
  subst D_3
  subst d_4
  show AW p l e _ s m args below meth c E M_G_status true _ n _ _ _ [(2, v0), (0, v1), (9, 0), (9, 0)] [(0, r_1)] C
  refine AW.if_ne (t := 20) (dc hd_G_status 5 rfl) (by decide) (fun c_5 => ?_) (fun c_5 => ?_)
  · have h := h.2 c_5
    refine AW.iconst (dc hd_G_status 10 rfl) (by decide) ?_
    refine AW.istore_n [(2, v0), (0, v1), (0, 0), (9, 0)] (dc hd_G_status 11 rfl) (Nat.le_of_ble_eq_true rfl) rfl rfl ?_
    refine AW.iconst (dc hd_G_status 12 rfl) (by decide) ?_
    refine AW.istore_n [(2, v0), (0, v1), (0, 0), (0, 0)] (dc hd_G_status 13 rfl) (Nat.le_of_ble_eq_true rfl) rfl rfl ?_
    obtain ⟨f_13, h⟩ := h
    exact aB_G_status_24 n C v0 v1 Q f_13 (0, 0) h
  · have h := h.1 c_5
    refine AW.ra_n (dc hd_G_status 6 rfl) rfl rfl rfl ?_
    refine AW.iconst (dc hd_G_status 7 rfl) (by decide) ?_
    obtain ⟨g_15, h⟩ := h
    refine AW.callV (As := [(0, 0)]) (rest := []) (ci := 10) (m_G_finds l E n C v0 0 _ h) cb_10_186 im_G_finds se_G_finds ⟨_, _, rfl⟩ (by decide) (dc hd_G_status 8 rfl) g_15 rfl rfl ⟨Nat.le_of_ble_eq_true rfl, Nat.le_of_ble_eq_true rfl⟩ ⟨(Nat.le_of_ble_eq_true rfl), (Nat.le_of_ble_eq_true rfl)⟩ (Nat.le_of_ble_eq_true rfl) (fun _ h => by cases h) (fun _ => rfl) (fun r_14 C_16 d_18 q_17 => ?_)
    obtain ⟨q_17a, h⟩ := q_17
    subst d_18
    show AW p l e _ s m args below meth c E M_G_status true _ n _ _ _ [(2, v0), (0, v1), (9, 0), (9, 0)] [(0, r_14)] C_16
    exact AW.iret (dc hd_G_status 9 rfl) rfl rfl (Nat.le_of_ble_eq_true rfl) (Nat.le_of_ble_eq_true rfl) ⟨rfl, h⟩
end
