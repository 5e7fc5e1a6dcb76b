section
variable {p : Program} {l : Launch} {e : Env} {R : Room} {s : State} {m : MethodId} {args : Array Value} {below : List Frame} {meth : Method} {c : Code} {E : Ev}
def B_F_init_155 (v0 : Int) (Q : Int → Cn → Nat → Prop) (kz155 : Cn × Nat × Nat × Nat × Int → Prop) (z : Cn × Nat × Nat × Nat × Int) : Prop := match z with
  | (C, n, kc, ks, v1) => (4 ≤ v1 → (okO n v0 9 ∧ (kc ≤ 89 ∧ (ks ≤ 5709 ∧ (ptC C n ∧ (P_F_settle n C v0 (fun (_ : Int) (C_105 : Cn) => ptC C_105 n → (Q 0 C_105 n)))))))) ∧ (¬ 4 ≤ v1 → (okO n v0 9 ∧ (LAY n = (5, 3) ∧ ((kc + 1) ≤ 89 ∧ ((ks + 3) ≤ 5709 ∧ ((0 : Int) < ((n : Nat) : Int) ∧ (((kc + 1) + 1) ≤ 89 ∧ (((ks + 3) + 40) ≤ 5709 ∧ (P_Sh_init (n + 1) C ((n : Nat) : Int) (fun (_ : Int) (C_117 : Cn) (n_118 : Nat) => okO n_118 (C v0.toNat 10) 15 ∧ (okI (C v0.toNat 10) v1 ∧ (okO n_118 ((n : Nat) : Int) 5 ∧ (∀ C_124 : Cn, C_124 = wr C_117 (C v0.toNat 10).toNat v1.toNat ((n : Nat) : Int) → (kz155 (C_124, n_118, ((kc + 1) + 1), ((ks + 3) + 40), w32 (v1 + 1))))))))))))))))
theorem bB_F_init_155 (v0 : Int) (Q : Int → Cn → Nat → Prop) (kz155 : Cn × Nat × Nat × Nat × Int → Prop) (hkz155 : ∀ (Cz : Cn) (nz : Nat) (kcz : Nat) (ksz : Nat) (z1 : Int), kz155 (Cz, nz, kcz, ksz, z1) → AW p l e R s m args below meth c E M_F_init false Q nz kcz ksz 155 [(2, v0), (0, z1)] [] Cz) (C : Cn) (n : Nat) (kc : Nat) (ks : Nat) (v1 : Int) (h : B_F_init_155 v0 Q kz155 (C, n, kc, ks, v1)) : AW p l e R s m args below meth c E M_F_init false Q n kc ks 155 [(2, v0), (0, v1)] [] C := by
  unfold B_F_init_155 at h
  dsimp only at h
  refine AW.iload_n (dc hd_F_init 73 rfl) rfl ?_
  refine AW.iconst (dc hd_F_init 74 rfl) (by decide) ?_
  refine AW.icmp_ge (t := 179) (dc hd_F_init 75 rfl) (by decide) (fun c_100 => ?_) (fun c_100 => ?_)
  · have h := h.1 c_100
    refine AW.ra_n (dc hd_F_init 85 rfl) rfl rfl rfl ?_
    obtain ⟨g_101, h⟩ := h
    obtain ⟨g_102, h⟩ := h
    obtain ⟨g_103, h⟩ := h
    obtain ⟨g_104, h⟩ := h
    refine AW.callVp (As := []) (rest := []) (ci := 9) (m_F_settle l E n C v0 _ h) cb_9_90 im_F_settle se_F_settle ⟨_, _, rfl⟩ (by decide) (dc hd_F_init 86 rfl) g_101 rfl rfl ⟨Nat.le_of_ble_eq_true rfl, Nat.le_of_ble_eq_true rfl⟩ ⟨g_102, g_103⟩ (Nat.le_of_ble_eq_true rfl) g_104 (fun u_107 C_105 d_108 q_106 p_109 => ?_)
    obtain ⟨q_106a, h⟩ := q_106
    subst d_108
    have h := h p_109
    show AW p l e _ s m args below meth c E M_F_init false _ n _ _ _ [(2, v0), (0, v1)] [] C_105
    exact AW.vret (dc hd_F_init 87 rfl) rfl rfl g_102 g_103 h
  · have h := h.2 c_100
    refine AW.ra_n (dc hd_F_init 76 rfl) rfl rfl rfl ?_
    obtain ⟨g_110, h⟩ := h
    refine AW.getf fl_9_71 (dc hd_F_init 77 rfl) g_110 ?_
    refine AW.iload_n (dc hd_F_init 78 rfl) rfl ?_
    obtain ⟨g_111, h⟩ := h
    obtain ⟨g_112, h⟩ := h
    obtain ⟨g_113, h⟩ := h
    refine AW.new kfX5 dvX5 (dc hd_F_init 79 rfl) nw_9_69 g_111 (fun h => by cases h) g_112 g_113 ?_
    refine AW.rdup (dc hd_F_init 80 rfl) rfl ?_
    obtain ⟨g_114, h⟩ := h
    obtain ⟨g_115, h⟩ := h
    obtain ⟨g_116, h⟩ := h
    refine AW.callIN (As := []) (rest := [(2, ((n : Nat) : Int)), (0, v1), (2, C v0.toNat 10)]) (m_Sh_init l E (n + 1) C ((n : Nat) : Int) _ h) cb_9_89 rfl im_Sh_init rfl (dc hd_F_init 81 rfl) g_114 rfl rfl ⟨Nat.le_of_ble_eq_true rfl, Nat.le_of_ble_eq_true rfl⟩ ⟨g_115, g_116⟩ (Nat.le_of_ble_eq_true rfl) (fun h => by cases h) (fun h => by cases h) (fun u_120 C_117 n_118 q_119 => ?_)
    have h := q_119
    show AW p l e _ s m args below meth c E M_F_init false _ n_118 _ _ _ [(2, v0), (0, v1)] [(2, ((n : Nat) : Int)), (0, v1), (2, C v0.toNat 10)] C_117
    obtain ⟨g_121, h⟩ := h
    obtain ⟨g_122, h⟩ := h
    obtain ⟨g_123, h⟩ := h
    refine AW.naast15 (dc hd_F_init 82 rfl) g_121 g_122 g_123 rfl (fun C_124 eC_124 => ?_)
    have h := h C_124 eC_124
    refine AW.iinc [(2, v0), (0, w32 (v1 + 1))] (dc hd_F_init 83 rfl) rfl (Nat.le_of_ble_eq_true rfl) rfl rfl ?_
    refine AW.goto (t := 155) (dc hd_F_init 84 rfl) (by decide) ?_
    exact hkz155 C_124 n_118 ((kc + 1) + 1) ((ks + 3) + 40) (w32 (v1 + 1)) h
theorem aB_F_init_155 (v0 : Int) (Q : Int → Cn → Nat → Prop) : ∀ (f : Nat) (z : Cn × Nat × Nat × Nat × Int), lp (B_F_init_155 v0 Q) f z → AW p l e R s m args below meth c E M_F_init false Q z.2.1 z.2.2.1 z.2.2.2.1 155 [(2, v0), (0, z.2.2.2.2)] [] (z.1) := by
  intro f
  induction f with
  | zero => intro z h; exact False.elim h
  | succ f ih => intro z h; exact bB_F_init_155 v0 Q (lp (B_F_init_155 v0 Q) f) (fun a0 a1 a2 a3 a4 h => ih (a0, a1, a2, a3, a4) h) z.1 z.2.1 z.2.2.1 z.2.2.2.1 z.2.2.2.2 h
def P_F_init (n : Nat) (C : Cn) (v0 : Int) (Q : Int → Cn → Nat → Prop) : Prop :=
  (0 : Int) < v0 ∧ (LAY n = (1, 5) ∧ ((0 : Int) < ((n : Nat) : Int) ∧ (P_Es_init (n + 1) C ((n : Nat) : Int) (fun (_ : Int) (C_4 : Cn) (n_5 : Nat) => okO n_5 v0 9 ∧ (∀ C_9 : Cn, C_9 = wr C_4 v0.toNat 0 ((n : Nat) : Int) → (LAY n_5 = (1, 5) ∧ ((0 : Int) < ((n_5 : Nat) : Int) ∧ (P_Es_init (n_5 + 1) C_9 ((n_5 : Nat) : Int) (fun (_ : Int) (C_12 : Cn) (n_13 : Nat) => okO n_13 v0 9 ∧ (∀ C_17 : Cn, C_17 = wr C_12 v0.toNat 1 ((n_5 : Nat) : Int) → (LAY n_13 = (1, 5) ∧ ((0 : Int) < ((n_13 : Nat) : Int) ∧ (P_Es_init (n_13 + 1) C_17 ((n_13 : Nat) : Int) (fun (_ : Int) (C_20 : Cn) (n_21 : Nat) => okO n_21 v0 9 ∧ (∀ C_25 : Cn, C_25 = wr C_20 v0.toNat 2 ((n_13 : Nat) : Int) → (LAY n_21 = (2, 19) ∧ ((0 : Int) < ((n_21 : Nat) : Int) ∧ (P_La_init (n_21 + 1) C_25 ((n_21 : Nat) : Int) (fun (_ : Int) (C_28 : Cn) (n_29 : Nat) => okO n_29 v0 9 ∧ (∀ C_33 : Cn, C_33 = wr C_28 v0.toNat 3 ((n_21 : Nat) : Int) → (LAY n_29 = (2, 19) ∧ ((0 : Int) < ((n_29 : Nat) : Int) ∧ (P_La_init (n_29 + 1) C_33 ((n_29 : Nat) : Int) (fun (_ : Int) (C_36 : Cn) (n_37 : Nat) => okO n_37 v0 9 ∧ (∀ C_41 : Cn, C_41 = wr C_36 v0.toNat 4 ((n_29 : Nat) : Int) → (LAY n_37 = (4, 18) ∧ (okO (n_37 + 1) v0 9 ∧ ((0 : Int) < ((n_37 : Nat) : Int) ∧ (P_Se_init (n_37 + 1) C_41 ((n_37 : Nat) : Int) (C_41 v0.toNat 3) (fun (_ : Int) (C_45 : Cn) (n_46 : Nat) => okO n_46 v0 9 ∧ (∀ C_50 : Cn, C_50 = wr C_45 v0.toNat 5 ((n_37 : Nat) : Int) → (LAY n_46 = (8, 3) ∧ ((0 : Int) < ((n_46 : Nat) : Int) ∧ (P_Ws_init (n_46 + 1) C_50 ((n_46 : Nat) : Int) (fun (_ : Int) (C_53 : Cn) (n_54 : Nat) => okO n_54 v0 9 ∧ (∀ C_58 : Cn, C_58 = wr C_53 v0.toNat 6 ((n_46 : Nat) : Int) → (LAY n_54 = (0, 3) ∧ ((0 : Int) < ((n_54 : Nat) : Int) ∧ (P_Bl_init (n_54 + 1) C_58 ((n_54 : Nat) : Int) (fun (_ : Int) (C_61 : Cn) => okO (n_54 + 1) v0 9 ∧ (∀ C_66 : Cn, C_66 = wr C_61 v0.toNat 7 ((n_54 : Nat) : Int) → (LAY (n_54 + 1) = (3, 9) ∧ ((0 : Int) < (((n_54 + 1) : Nat) : Int) ∧ (P_Re_init ((n_54 + 1) + 1) C_66 (((n_54 + 1) : Nat) : Int) (fun (_ : Int) (C_69 : Cn) (n_70 : Nat) => okO n_70 v0 9 ∧ (∀ C_74 : Cn, C_74 = wr C_69 v0.toNat 8 (((n_54 + 1) : Nat) : Int) → (LAY n_70 = (7, 6) ∧ ((0 : Int) < ((n_70 : Nat) : Int) ∧ (P_Wa_init (n_70 + 1) C_74 ((n_70 : Nat) : Int) (fun (_ : Int) => okO (n_70 + 1) v0 9 ∧ (∀ C_82 : Cn, C_82 = wr C_74 v0.toNat 9 ((n_70 : Nat) : Int) → (LAY (n_70 + 1) = (15, 4) ∧ (okO ((n_70 + 1) + 1) v0 9 ∧ (∀ C_85 : Cn, C_85 = wr C_82 v0.toNat 10 (((n_70 + 1) : Nat) : Int) → (LAY ((n_70 + 1) + 1) = (6, 2) ∧ ((0 : Int) < ((((n_70 + 1) + 1) : Nat) : Int) ∧ (P_Sp_init (((n_70 + 1) + 1) + 1) C_85 ((((n_70 + 1) + 1) : Nat) : Int) (fun (_ : Int) (C_88 : Cn) (n_89 : Nat) => okO n_89 v0 9 ∧ (∀ C_93 : Cn, C_93 = wr C_88 v0.toNat 11 ((((n_70 + 1) + 1) : Nat) : Int) → (LAY n_89 = (12, 76) ∧ (okO (n_89 + 1) v0 9 ∧ (∀ C_96 : Cn, C_96 = wr C_93 v0.toNat 12 ((n_89 : Nat) : Int) → (LAY (n_89 + 1) = (12, 8) ∧ (okO ((n_89 + 1) + 1) v0 9 ∧ (∀ C_99 : Cn, C_99 = wr C_96 v0.toNat 13 (((n_89 + 1) : Nat) : Int) → (∃ f_125 : Nat, lp (B_F_init_155 v0 Q) f_125 (C_99, ((n_89 + 1) + 1), 81, 5537, 0)))))))))))))))))))))))))))))))))))))))))))))))))))))))))))))))))))
theorem m_F_init (l : Launch) (E : Ev) (n : Nat) (C : Cn) (v0 : Int) (Q : Int → Cn → Nat → Prop) (h : P_F_init n C v0 Q) : MA l y_F_init M_F_init E false C n [(2, v0)] Q := by
  refine MA.of (by decide) rfl rfl 1 rfl (fun p e s m args below meth c => ?_)
  show AW p l e _ s m args below meth c E M_F_init false _ n 0 0 0 [(2, v0), (9, 0)] [] C
  unfold P_F_init at h
  refine AW.ra_n (dc hd_F_init 0 rfl) rfl rfl rfl ?_
  obtain ⟨g_1, h⟩ := h
  refine AW.objI (dc hd_F_init 1 rfl) oi_9_3 g_1 (Nat.le_of_ble_eq_true rfl) (Nat.le_of_ble_eq_true rfl) (Nat.le_of_ble_eq_true rfl) ?_
  refine AW.ra_n (dc hd_F_init 2 rfl) rfl rfl rfl ?_
  obtain ⟨g_2, h⟩ := h
  refine AW.new kfX1 dvX1 (dc hd_F_init 3 rfl) nw_9_9 g_2 (fun h => by cases h) (Nat.le_of_ble_eq_true rfl) (Nat.le_of_ble_eq_true rfl) ?_
  refine AW.rdup (dc hd_F_init 4 rfl) rfl ?_
  obtain ⟨g_3, h⟩ := h
  refine AW.callI (As := []) (rest := [(2, ((n : Nat) : Int)), (2, v0)]) (m_Es_init l E (n + 1) C ((n : Nat) : Int) _ h) cb_9_11 rfl im_Es_init rfl (dc hd_F_init 5 rfl) g_3 rfl rfl ⟨Nat.le_of_ble_eq_true rfl, Nat.le_of_ble_eq_true rfl⟩ ⟨(Nat.le_of_ble_eq_true rfl), (Nat.le_of_ble_eq_true rfl)⟩ (Nat.le_of_ble_eq_true rfl) (fun h => by cases h) (fun h => by cases h) (fun u_7 C_4 n_5 q_6 => ?_)
  have h := q_6
  show AW p l e _ s m args below meth c E M_F_init false _ n_5 _ _ _ [(2, v0), (9, 0)] [(2, ((n : Nat) : Int)), (2, v0)] C_4
  obtain ⟨g_8, h⟩ := h
  refine AW.nputF fl_9_12 (dc hd_F_init 6 rfl) g_8 (fun _ _ _ h => by cases h; rfl) rfl (fun o => by cases o <;> rfl) (fun o => by cases o <;> rfl) rfl (fun C_9 eC_9 => ?_)
  have h := h C_9 eC_9
  refine AW.ra_n (dc hd_F_init 7 rfl) rfl rfl rfl ?_
  obtain ⟨g_10, h⟩ := h
  refine AW.new kfX1 dvX1 (dc hd_F_init 8 rfl) nw_9_9 g_10 (fun h => by cases h) (Nat.le_of_ble_eq_true rfl) (Nat.le_of_ble_eq_true rfl) ?_
  refine AW.rdup (dc hd_F_init 9 rfl) rfl ?_
  obtain ⟨g_11, h⟩ := h
  refine AW.callI (As := []) (rest := [(2, ((n_5 : Nat) : Int)), (2, v0)]) (m_Es_init l E (n_5 + 1) C_9 ((n_5 : Nat) : Int) _ h) cb_9_11 rfl im_Es_init rfl (dc hd_F_init 10 rfl) g_11 rfl rfl ⟨Nat.le_of_ble_eq_true rfl, Nat.le_of_ble_eq_true rfl⟩ ⟨(Nat.le_of_ble_eq_true rfl), (Nat.le_of_ble_eq_true rfl)⟩ (Nat.le_of_ble_eq_true rfl) (fun h => by cases h) (fun h => by cases h) (fun u_15 C_12 n_13 q_14 => ?_)
  have h := q_14
  show AW p l e _ s m args below meth c E M_F_init false _ n_13 _ _ _ [(2, v0), (9, 0)] [(2, ((n_5 : Nat) : Int)), (2, v0)] C_12
  obtain ⟨g_16, h⟩ := h
  refine AW.nputF fl_9_16 (dc hd_F_init 11 rfl) g_16 (fun _ _ _ h => by cases h; rfl) rfl (fun o => by cases o <;> rfl) (fun o => by cases o <;> rfl) rfl (fun C_17 eC_17 => ?_)
  have h := h C_17 eC_17
  refine AW.ra_n (dc hd_F_init 12 rfl) rfl rfl rfl ?_
  obtain ⟨g_18, h⟩ := h
  refine AW.new kfX1 dvX1 (dc hd_F_init 13 rfl) nw_9_9 g_18 (fun h => by cases h) (Nat.le_of_ble_eq_true rfl) (Nat.le_of_ble_eq_true rfl) ?_
  refine AW.rdup (dc hd_F_init 14 rfl) rfl ?_
  obtain ⟨g_19, h⟩ := h
  refine AW.callI (As := []) (rest := [(2, ((n_13 : Nat) : Int)), (2, v0)]) (m_Es_init l E (n_13 + 1) C_17 ((n_13 : Nat) : Int) _ h) cb_9_11 rfl im_Es_init rfl (dc hd_F_init 15 rfl) g_19 rfl rfl ⟨Nat.le_of_ble_eq_true rfl, Nat.le_of_ble_eq_true rfl⟩ ⟨(Nat.le_of_ble_eq_true rfl), (Nat.le_of_ble_eq_true rfl)⟩ (Nat.le_of_ble_eq_true rfl) (fun h => by cases h) (fun h => by cases h) (fun u_23 C_20 n_21 q_22 => ?_)
  have h := q_22
  show AW p l e _ s m args below meth c E M_F_init false _ n_21 _ _ _ [(2, v0), (9, 0)] [(2, ((n_13 : Nat) : Int)), (2, v0)] C_20
  obtain ⟨g_24, h⟩ := h
  refine AW.nputF fl_9_19 (dc hd_F_init 16 rfl) g_24 (fun _ _ _ h => by cases h; rfl) rfl (fun o => by cases o <;> rfl) (fun o => by cases o <;> rfl) rfl (fun C_25 eC_25 => ?_)
  have h := h C_25 eC_25
  refine AW.ra_n (dc hd_F_init 17 rfl) rfl rfl rfl ?_
  obtain ⟨g_26, h⟩ := h
  refine AW.new kfX2 dvX2 (dc hd_F_init 18 rfl) nw_9_22 g_26 (fun h => by cases h) (Nat.le_of_ble_eq_true rfl) (Nat.le_of_ble_eq_true rfl) ?_
  refine AW.rdup (dc hd_F_init 19 rfl) rfl ?_
  obtain ⟨g_27, h⟩ := h
  refine AW.callIN (As := []) (rest := [(2, ((n_21 : Nat) : Int)), (2, v0)]) (m_La_init l E (n_21 + 1) C_25 ((n_21 : Nat) : Int) _ h) cb_9_24 rfl im_La_init rfl (dc hd_F_init 20 rfl) g_27 rfl rfl ⟨Nat.le_of_ble_eq_true rfl, Nat.le_of_ble_eq_true rfl⟩ ⟨(Nat.le_of_ble_eq_true rfl), (Nat.le_of_ble_eq_true rfl)⟩ (Nat.le_of_ble_eq_true rfl) (fun h => by cases h) (fun h => by cases h) (fun u_31 C_28 n_29 q_30 => ?_)
  have h := q_30
  show AW p l e _ s m args below meth c E M_F_init false _ n_29 _ _ _ [(2, v0), (9, 0)] [(2, ((n_21 : Nat) : Int)), (2, v0)] C_28
  obtain ⟨g_32, h⟩ := h
  refine AW.nputF fl_9_25 (dc hd_F_init 21 rfl) g_32 (fun _ _ _ h => by cases h; rfl) rfl (fun o => by cases o <;> rfl) (fun o => by cases o <;> rfl) rfl (fun C_33 eC_33 => ?_)
  have h := h C_33 eC_33
  refine AW.ra_n (dc hd_F_init 22 rfl) rfl rfl rfl ?_
  obtain ⟨g_34, h⟩ := h
  refine AW.new kfX2 dvX2 (dc hd_F_init 23 rfl) nw_9_22 g_34 (fun h => by cases h) (Nat.le_of_ble_eq_true rfl) (Nat.le_of_ble_eq_true rfl) ?_
  refine AW.rdup (dc hd_F_init 24 rfl) rfl ?_
  obtain ⟨g_35, h⟩ := h
  refine AW.callIN (As := []) (rest := [(2, ((n_29 : Nat) : Int)), (2, v0)]) (m_La_init l E (n_29 + 1) C_33 ((n_29 : Nat) : Int) _ h) cb_9_24 rfl im_La_init rfl (dc hd_F_init 25 rfl) g_35 rfl rfl ⟨Nat.le_of_ble_eq_true rfl, Nat.le_of_ble_eq_true rfl⟩ ⟨(Nat.le_of_ble_eq_true rfl), (Nat.le_of_ble_eq_true rfl)⟩ (Nat.le_of_ble_eq_true rfl) (fun h => by cases h) (fun h => by cases h) (fun u_39 C_36 n_37 q_38 => ?_)
  have h := q_38
  show AW p l e _ s m args below meth c E M_F_init false _ n_37 _ _ _ [(2, v0), (9, 0)] [(2, ((n_29 : Nat) : Int)), (2, v0)] C_36
  obtain ⟨g_40, h⟩ := h
  refine AW.nputF fl_9_29 (dc hd_F_init 26 rfl) g_40 (fun _ _ _ h => by cases h; rfl) rfl (fun o => by cases o <;> rfl) (fun o => by cases o <;> rfl) rfl (fun C_41 eC_41 => ?_)
  have h := h C_41 eC_41
  refine AW.ra_n (dc hd_F_init 27 rfl) rfl rfl rfl ?_
  obtain ⟨g_42, h⟩ := h
  refine AW.new kfX4 dvX4 (dc hd_F_init 28 rfl) nw_9_32 g_42 (fun h => by cases h) (Nat.le_of_ble_eq_true rfl) (Nat.le_of_ble_eq_true rfl) ?_
  refine AW.rdup (dc hd_F_init 29 rfl) rfl ?_
  refine AW.ra_n (dc hd_F_init 30 rfl) rfl rfl rfl ?_
  obtain ⟨g_43, h⟩ := h
  refine AW.getf fl_9_25 (dc hd_F_init 31 rfl) g_43 ?_
  obtain ⟨g_44, h⟩ := h
  refine AW.callI (As := [(2, C_41 v0.toNat 3)]) (rest := [(2, ((n_37 : Nat) : Int)), (2, v0)]) (m_Se_init l E (n_37 + 1) C_41 ((n_37 : Nat) : Int) (C_41 v0.toNat 3) _ h) cb_9_34 rfl im_Se_init rfl (dc hd_F_init 32 rfl) g_44 rfl rfl ⟨Nat.le_of_ble_eq_true rfl, Nat.le_of_ble_eq_true rfl⟩ ⟨(Nat.le_of_ble_eq_true rfl), (Nat.le_of_ble_eq_true rfl)⟩ (Nat.le_of_ble_eq_true rfl) (fun h => by cases h) (fun h => by cases h) (fun u_48 C_45 n_46 q_47 => ?_)
  have h := q_47
  show AW p l e _ s m args below meth c E M_F_init false _ n_46 _ _ _ [(2, v0), (9, 0)] [(2, ((n_37 : Nat) : Int)), (2, v0)] C_45
  obtain ⟨g_49, h⟩ := h
  refine AW.nputF fl_9_37 (dc hd_F_init 33 rfl) g_49 (fun _ _ _ h => by cases h; rfl) rfl (fun o => by cases o <;> rfl) (fun o => by cases o <;> rfl) rfl (fun C_50 eC_50 => ?_)
  have h := h C_50 eC_50
  refine AW.ra_n (dc hd_F_init 34 rfl) rfl rfl rfl ?_
  obtain ⟨g_51, h⟩ := h
  refine AW.new kfX8 dvX8 (dc hd_F_init 35 rfl) nw_9_41 g_51 (fun h => by cases h) (Nat.le_of_ble_eq_true rfl) (Nat.le_of_ble_eq_true rfl) ?_
  refine AW.rdup (dc hd_F_init 36 rfl) rfl ?_
  obtain ⟨g_52, h⟩ := h
  refine AW.callIN (As := []) (rest := [(2, ((n_46 : Nat) : Int)), (2, v0)]) (m_Ws_init l E (n_46 + 1) C_50 ((n_46 : Nat) : Int) _ h) cb_9_43 rfl im_Ws_init rfl (dc hd_F_init 37 rfl) g_52 rfl rfl ⟨Nat.le_of_ble_eq_true rfl, Nat.le_of_ble_eq_true rfl⟩ ⟨(Nat.le_of_ble_eq_true rfl), (Nat.le_of_ble_eq_true rfl)⟩ (Nat.le_of_ble_eq_true rfl) (fun h => by cases h) (fun h => by cases h) (fun u_56 C_53 n_54 q_55 => ?_)
  have h := q_55
  show AW p l e _ s m args below meth c E M_F_init false _ n_54 _ _ _ [(2, v0), (9, 0)] [(2, ((n_46 : Nat) : Int)), (2, v0)] C_53
  obtain ⟨g_57, h⟩ := h
  refine AW.nputF fl_9_44 (dc hd_F_init 38 rfl) g_57 (fun _ _ _ h => by cases h; rfl) rfl (fun o => by cases o <;> rfl) (fun o => by cases o <;> rfl) rfl (fun C_58 eC_58 => ?_)
  have h := h C_58 eC_58
  refine AW.ra_n (dc hd_F_init 39 rfl) rfl rfl rfl ?_
  obtain ⟨g_59, h⟩ := h
  refine AW.new kfX0 dvX0 (dc hd_F_init 40 rfl) nw_9_48 g_59 (fun h => by cases h) (Nat.le_of_ble_eq_true rfl) (Nat.le_of_ble_eq_true rfl) ?_
  refine AW.rdup (dc hd_F_init 41 rfl) rfl ?_
  obtain ⟨g_60, h⟩ := h
  refine AW.callIN (As := []) (rest := [(2, ((n_54 : Nat) : Int)), (2, v0)]) (m_Bl_init l E (n_54 + 1) C_58 ((n_54 : Nat) : Int) _ h) cb_9_50 rfl im_Bl_init rfl (dc hd_F_init 42 rfl) g_60 rfl rfl ⟨Nat.le_of_ble_eq_true rfl, Nat.le_of_ble_eq_true rfl⟩ ⟨(Nat.le_of_ble_eq_true rfl), (Nat.le_of_ble_eq_true rfl)⟩ (Nat.le_of_ble_eq_true rfl) (fun h => by cases h) (fun h => by cases h) (fun u_63 C_61 d_64 q_62 => ?_)
  obtain ⟨q_62a, h⟩ := q_62
  subst d_64
  show AW p l e _ s m args below meth c E M_F_init false _ (n_54 + 1) _ _ _ [(2, v0), (9, 0)] [(2, ((n_54 : Nat) : Int)), (2, v0)] C_61
  obtain ⟨g_65, h⟩ := h
  refine AW.nputF fl_9_51 (dc hd_F_init 43 rfl) g_65 (fun _ _ _ h => by cases h; rfl) rfl (fun o => by cases o <;> rfl) (fun o => by cases o <;> rfl) rfl (fun C_66 eC_66 => ?_)
  have h := h C_66 eC_66
  refine AW.ra_n (dc hd_F_init 44 rfl) rfl rfl rfl ?_
  obtain ⟨g_67, h⟩ := h
  refine AW.new kfX3 dvX3 (dc hd_F_init 45 rfl) nw_9_55 g_67 (fun h => by cases h) (Nat.le_of_ble_eq_true rfl) (Nat.le_of_ble_eq_true rfl) ?_
  refine AW.rdup (dc hd_F_init 46 rfl) rfl ?_
  obtain ⟨g_68, h⟩ := h
  refine AW.callIN (As := []) (rest := [(2, (((n_54 + 1) : Nat) : Int)), (2, v0)]) (m_Re_init l E ((n_54 + 1) + 1) C_66 (((n_54 + 1) : Nat) : Int) _ h) cb_9_57 rfl im_Re_init rfl (dc hd_F_init 47 rfl) g_68 rfl rfl ⟨Nat.le_of_ble_eq_true rfl, Nat.le_of_ble_eq_true rfl⟩ ⟨(Nat.le_of_ble_eq_true rfl), (Nat.le_of_ble_eq_true rfl)⟩ (Nat.le_of_ble_eq_true rfl) (fun h => by cases h) (fun h => by cases h) (fun u_72 C_69 n_70 q_71 => ?_)
  have h := q_71
  show AW p l e _ s m args below meth c E M_F_init false _ n_70 _ _ _ [(2, v0), (9, 0)] [(2, (((n_54 + 1) : Nat) : Int)), (2, v0)] C_69
  obtain ⟨g_73, h⟩ := h
  refine AW.nputF fl_9_58 (dc hd_F_init 48 rfl) g_73 (fun _ _ _ h => by cases h; rfl) rfl (fun o => by cases o <;> rfl) (fun o => by cases o <;> rfl) rfl (fun C_74 eC_74 => ?_)
  have h := h C_74 eC_74
  refine AW.ra_n (dc hd_F_init 49 rfl) rfl rfl rfl ?_
  obtain ⟨g_75, h⟩ := h
  refine AW.new kfX7 dvX7 (dc hd_F_init 50 rfl) nw_9_62 g_75 (fun h => by cases h) (Nat.le_of_ble_eq_true rfl) (Nat.le_of_ble_eq_true rfl) ?_
  refine AW.rdup (dc hd_F_init 51 rfl) rfl ?_
  obtain ⟨g_76, h⟩ := h
  refine AW.callIN (As := []) (rest := [(2, ((n_70 : Nat) : Int)), (2, v0)]) (m_Wa_init l E (n_70 + 1) C_74 ((n_70 : Nat) : Int) _ h) cb_9_64 rfl im_Wa_init rfl (dc hd_F_init 52 rfl) g_76 rfl rfl ⟨Nat.le_of_ble_eq_true rfl, Nat.le_of_ble_eq_true rfl⟩ ⟨(Nat.le_of_ble_eq_true rfl), (Nat.le_of_ble_eq_true rfl)⟩ (Nat.le_of_ble_eq_true rfl) (fun h => by cases h) (fun h => by cases h) (fun u_78 D_79 d_80 q_77 => ?_)
  obtain ⟨q_77a, q_77b, h⟩ := q_77
  subst D_79
  subst d_80
  show AW p l e _ s m args below meth c E M_F_init false _ (n_70 + 1) _ _ _ [(2, v0), (9, 0)] [(2, ((n_70 : Nat) : Int)), (2, v0)] C_74
  obtain ⟨g_81, h⟩ := h
  refine AW.nputF fl_9_65 (dc hd_F_init 53 rfl) g_81 (fun _ _ _ h => by cases h; rfl) rfl (fun o => by cases o <;> rfl) (fun o => by cases o <;> rfl) rfl (fun C_82 eC_82 => ?_)
  have h := h C_82 eC_82
  refine AW.ra_n (dc hd_F_init 54 rfl) rfl rfl rfl ?_
  refine AW.iconst (dc hd_F_init 55 rfl) (by decide) ?_
  obtain ⟨g_83, h⟩ := h
  refine AW.anew15 (dc hd_F_init 56 rfl) nwa_9_69 g_83 (by decide) (fun h => by cases h) (Nat.le_of_ble_eq_true rfl) (Nat.le_of_ble_eq_true rfl) ?_
  obtain ⟨g_84, h⟩ := h
  refine AW.nputF fl_9_71 (dc hd_F_init 57 rfl) g_84 (fun _ _ _ h => by cases h; rfl) rfl (fun o => by cases o <;> rfl) (fun o => by cases o <;> rfl) rfl (fun C_85 eC_85 => ?_)
  have h := h C_85 eC_85
  refine AW.ra_n (dc hd_F_init 58 rfl) rfl rfl rfl ?_
  obtain ⟨g_86, h⟩ := h
  refine AW.new kfX6 dvX6 (dc hd_F_init 59 rfl) nw_9_75 g_86 (fun h => by cases h) (Nat.le_of_ble_eq_true rfl) (Nat.le_of_ble_eq_true rfl) ?_
  refine AW.rdup (dc hd_F_init 60 rfl) rfl ?_
  obtain ⟨g_87, h⟩ := h
  refine AW.callIN (As := []) (rest := [(2, ((((n_70 + 1) + 1) : Nat) : Int)), (2, v0)]) (m_Sp_init l E (((n_70 + 1) + 1) + 1) C_85 ((((n_70 + 1) + 1) : Nat) : Int) _ h) cb_9_77 rfl im_Sp_init rfl (dc hd_F_init 61 rfl) g_87 rfl rfl ⟨Nat.le_of_ble_eq_true rfl, Nat.le_of_ble_eq_true rfl⟩ ⟨(Nat.le_of_ble_eq_true rfl), (Nat.le_of_ble_eq_true rfl)⟩ (Nat.le_of_ble_eq_true rfl) (fun h => by cases h) (fun h => by cases h) (fun u_91 C_88 n_89 q_90 => ?_)
  have h := q_90
  show AW p l e _ s m args below meth c E M_F_init false _ n_89 _ _ _ [(2, v0), (9, 0)] [(2, ((((n_70 + 1) + 1) : Nat) : Int)), (2, v0)] C_88
  obtain ⟨g_92, h⟩ := h
  refine AW.nputF fl_9_78 (dc hd_F_init 62 rfl) g_92 (fun _ _ _ h => by cases h; rfl) rfl (fun o => by cases o <;> rfl) (fun o => by cases o <;> rfl) rfl (fun C_93 eC_93 => ?_)
  have h := h C_93 eC_93
  refine AW.ra_n (dc hd_F_init 63 rfl) rfl rfl rfl ?_
  refine AW.bipush (dc hd_F_init 64 rfl) (by decide) (by decide +kernel) ?_
  obtain ⟨g_94, h⟩ := h
  refine AW.newa12 (dc hd_F_init 65 rfl) g_94 (by decide) aw_12 (fun h => by cases h) (Nat.le_of_ble_eq_true rfl) (Nat.le_of_ble_eq_true rfl) ?_
  obtain ⟨g_95, h⟩ := h
  refine AW.nputF fl_9_82 (dc hd_F_init 66 rfl) g_95 (fun _ _ _ h => by cases h; rfl) rfl (fun o => by cases o <;> rfl) (fun o => by cases o <;> rfl) rfl (fun C_96 eC_96 => ?_)
  have h := h C_96 eC_96
  refine AW.ra_n (dc hd_F_init 67 rfl) rfl rfl rfl ?_
  refine AW.bipush (dc hd_F_init 68 rfl) (by decide) (by decide +kernel) ?_
  obtain ⟨g_97, h⟩ := h
  refine AW.newa12 (dc hd_F_init 69 rfl) g_97 (by decide) aw_12 (fun h => by cases h) (Nat.le_of_ble_eq_true rfl) (Nat.le_of_ble_eq_true rfl) ?_
  obtain ⟨g_98, h⟩ := h
  refine AW.nputF fl_9_86 (dc hd_F_init 70 rfl) g_98 (fun _ _ _ h => by cases h; rfl) rfl (fun o => by cases o <;> rfl) (fun o => by cases o <;> rfl) rfl (fun C_99 eC_99 => ?_)
  have h := h C_99 eC_99
  refine AW.iconst (dc hd_F_init 71 rfl) (by decide) ?_
  refine AW.istore_n [(2, v0), (0, 0)] (dc hd_F_init 72 rfl) (Nat.le_of_ble_eq_true rfl) rfl rfl ?_
  obtain ⟨f_125, h⟩ := h
  exact aB_F_init_155 v0 Q f_125 (C_99, ((n_89 + 1) + 1), 81, 5537, 0) h
def P_G_init (n : Nat) (C : Cn) (v0 : Int) (Q : Int → Cn → Nat → Prop) : Prop :=
  (0 : Int) < v0 ∧ (LAY n = (17, 6) ∧ ((∀ j, j < 6 → LAY (n + 1 + j) = (12, 6)) ∧ (∀ C_4 : Cn, C_4 = mrow C n 6 → (okO (n + 1 + 6) v0 10 ∧ (∀ C_6 : Cn, C_6 = wr C_4 v0.toNat 1 ((n : Nat) : Int) → (∀ C_7 : Cn, C_7 = wr C_6 v0.toNat 4 1 → (LAY (n + 1 + 6) = (12, 8) ∧ (okO ((n + 1 + 6) + 1) v0 10 ∧ (∀ C_10 : Cn, C_10 = wr C_7 v0.toNat 5 (((n + 1 + 6) : Nat) : Int) → (∀ C_11 : Cn, C_11 = wr C_10 v0.toNat 7 (-1) → (LAY ((n + 1 + 6) + 1) = (12, 6) ∧ (okO (((n + 1 + 6) + 1) + 1) v0 10 ∧ (∀ C_14 : Cn, C_14 = wr C_11 v0.toNat 9 ((((n + 1 + 6) + 1) : Nat) : Int) → (LAY (((n + 1 + 6) + 1) + 1) = (12, 12) ∧ (okO ((((n + 1 + 6) + 1) + 1) + 1) v0 10 ∧ (∀ C_17 : Cn, C_17 = wr C_14 v0.toNat 11 (((((n + 1 + 6) + 1) + 1) : Nat) : Int) → (LAY ((((n + 1 + 6) + 1) + 1) + 1) = (12, 12) ∧ (okO (((((n + 1 + 6) + 1) + 1) + 1) + 1) v0 10 ∧ (∀ C_20 : Cn, C_20 = wr C_17 v0.toNat 12 ((((((n + 1 + 6) + 1) + 1) + 1) : Nat) : Int) → (LAY (((((n + 1 + 6) + 1) + 1) + 1) + 1) = (12, 6) ∧ (okO ((((((n + 1 + 6) + 1) + 1) + 1) + 1) + 1) v0 10 ∧ (∀ C_23 : Cn, C_23 = wr C_20 v0.toNat 13 (((((((n + 1 + 6) + 1) + 1) + 1) + 1) : Nat) : Int) → (LAY ((((((n + 1 + 6) + 1) + 1) + 1) + 1) + 1) = (12, 6) ∧ (okO (((((((n + 1 + 6) + 1) + 1) + 1) + 1) + 1) + 1) v0 10 ∧ (∀ C_26 : Cn, C_26 = wr C_23 v0.toNat 14 ((((((((n + 1 + 6) + 1) + 1) + 1) + 1) + 1) : Nat) : Int) → (LAY (((((((n + 1 + 6) + 1) + 1) + 1) + 1) + 1) + 1) = (12, 13) ∧ (okO ((((((((n + 1 + 6) + 1) + 1) + 1) + 1) + 1) + 1) + 1) v0 10 ∧ (∀ C_29 : Cn, C_29 = wr C_26 v0.toNat 15 (((((((((n + 1 + 6) + 1) + 1) + 1) + 1) + 1) + 1) : Nat) : Int) → (LAY ((((((((n + 1 + 6) + 1) + 1) + 1) + 1) + 1) + 1) + 1) = (17, 13) ∧ ((∀ j, j < 13 → LAY (((((((((n + 1 + 6) + 1) + 1) + 1) + 1) + 1) + 1) + 1) + 1 + j) = (12, 6)) ∧ (∀ C_32 : Cn, C_32 = mrow C_29 ((((((((n + 1 + 6) + 1) + 1) + 1) + 1) + 1) + 1) + 1) 13 → (okO (((((((((n + 1 + 6) + 1) + 1) + 1) + 1) + 1) + 1) + 1) + 1 + 13) v0 10 ∧ (∀ C_34 : Cn, C_34 = wr C_32 v0.toNat 16 ((((((((((n + 1 + 6) + 1) + 1) + 1) + 1) + 1) + 1) + 1) : Nat) : Int) → (LAY (((((((((n + 1 + 6) + 1) + 1) + 1) + 1) + 1) + 1) + 1) + 1 + 13) = (17, 13) ∧ ((∀ j, j < 13 → LAY ((((((((((n + 1 + 6) + 1) + 1) + 1) + 1) + 1) + 1) + 1) + 1 + 13) + 1 + j) = (12, 7)) ∧ (∀ C_37 : Cn, C_37 = mrow C_34 (((((((((n + 1 + 6) + 1) + 1) + 1) + 1) + 1) + 1) + 1) + 1 + 13) 13 → (okO ((((((((((n + 1 + 6) + 1) + 1) + 1) + 1) + 1) + 1) + 1) + 1 + 13) + 1 + 13) v0 10 ∧ (∀ C_39 : Cn, C_39 = wr C_37 v0.toNat 17 (((((((((((n + 1 + 6) + 1) + 1) + 1) + 1) + 1) + 1) + 1) + 1 + 13) : Nat) : Int) → (LAY ((((((((((n + 1 + 6) + 1) + 1) + 1) + 1) + 1) + 1) + 1) + 1 + 13) + 1 + 13) = (12, 100) ∧ (okO (((((((((((n + 1 + 6) + 1) + 1) + 1) + 1) + 1) + 1) + 1) + 1 + 13) + 1 + 13) + 1) v0 10 ∧ (∀ C_42 : Cn, C_42 = wr C_39 v0.toNat 19 ((((((((((((n + 1 + 6) + 1) + 1) + 1) + 1) + 1) + 1) + 1) + 1 + 13) + 1 + 13) : Nat) : Int) → (LAY (((((((((((n + 1 + 6) + 1) + 1) + 1) + 1) + 1) + 1) + 1) + 1 + 13) + 1 + 13) + 1) = (12, 100) ∧ (okO ((((((((((((n + 1 + 6) + 1) + 1) + 1) + 1) + 1) + 1) + 1) + 1 + 13) + 1 + 13) + 1) + 1) v0 10 ∧ (∀ C_45 : Cn, C_45 = wr C_42 v0.toNat 20 (((((((((((((n + 1 + 6) + 1) + 1) + 1) + 1) + 1) + 1) + 1) + 1 + 13) + 1 + 13) + 1) : Nat) : Int) → (LAY ((((((((((((n + 1 + 6) + 1) + 1) + 1) + 1) + 1) + 1) + 1) + 1 + 13) + 1 + 13) + 1) + 1) = (12, 100) ∧ (okO (((((((((((((n + 1 + 6) + 1) + 1) + 1) + 1) + 1) + 1) + 1) + 1 + 13) + 1 + 13) + 1) + 1) + 1) v0 10 ∧ (∀ C_48 : Cn, C_48 = wr C_45 v0.toNat 21 ((((((((((((((n + 1 + 6) + 1) + 1) + 1) + 1) + 1) + 1) + 1) + 1 + 13) + 1 + 13) + 1) + 1) : Nat) : Int) → (LAY (((((((((((((n + 1 + 6) + 1) + 1) + 1) + 1) + 1) + 1) + 1) + 1 + 13) + 1 + 13) + 1) + 1) + 1) = (12, 100) ∧ (okO ((((((((((((((n + 1 + 6) + 1) + 1) + 1) + 1) + 1) + 1) + 1) + 1 + 13) + 1 + 13) + 1) + 1) + 1) + 1) v0 10 ∧ (∀ C_51 : Cn, C_51 = wr C_48 v0.toNat 22 (((((((((((((((n + 1 + 6) + 1) + 1) + 1) + 1) + 1) + 1) + 1) + 1 + 13) + 1 + 13) + 1) + 1) + 1) : Nat) : Int) → (LAY ((((((((((((((n + 1 + 6) + 1) + 1) + 1) + 1) + 1) + 1) + 1) + 1 + 13) + 1 + 13) + 1) + 1) + 1) + 1) = (12, 6) ∧ (okO (((((((((((((((n + 1 + 6) + 1) + 1) + 1) + 1) + 1) + 1) + 1) + 1 + 13) + 1 + 13) + 1) + 1) + 1) + 1) + 1) v0 10 ∧ (∀ C_54 : Cn, C_54 = wr C_51 v0.toNat 27 ((((((((((((((((n + 1 + 6) + 1) + 1) + 1) + 1) + 1) + 1) + 1) + 1 + 13) + 1 + 13) + 1) + 1) + 1) + 1) : Nat) : Int) → (LAY (((((((((((((((n + 1 + 6) + 1) + 1) + 1) + 1) + 1) + 1) + 1) + 1 + 13) + 1 + 13) + 1) + 1) + 1) + 1) + 1) = (17, 92) ∧ ((∀ j, j < 92 → LAY ((((((((((((((((n + 1 + 6) + 1) + 1) + 1) + 1) + 1) + 1) + 1) + 1 + 13) + 1 + 13) + 1) + 1) + 1) + 1) + 1) + 1 + j) = (12, 384)) ∧ (∀ C_57 : Cn, C_57 = mrow C_54 (((((((((((((((n + 1 + 6) + 1) + 1) + 1) + 1) + 1) + 1) + 1) + 1 + 13) + 1 + 13) + 1) + 1) + 1) + 1) + 1) 92 → (okO ((((((((((((((((n + 1 + 6) + 1) + 1) + 1) + 1) + 1) + 1) + 1) + 1 + 13) + 1 + 13) + 1) + 1) + 1) + 1) + 1) + 1 + 92) v0 10 ∧ (∀ C_59 : Cn, C_59 = wr C_57 v0.toNat 30 (((((((((((((((((n + 1 + 6) + 1) + 1) + 1) + 1) + 1) + 1) + 1) + 1 + 13) + 1 + 13) + 1) + 1) + 1) + 1) + 1) : Nat) : Int) → (LAY ((((((((((((((((n + 1 + 6) + 1) + 1) + 1) + 1) + 1) + 1) + 1) + 1 + 13) + 1 + 13) + 1) + 1) + 1) + 1) + 1) + 1 + 92) = (17, 6) ∧ ((∀ j, j < 6 → LAY (((((((((((((((((n + 1 + 6) + 1) + 1) + 1) + 1) + 1) + 1) + 1) + 1 + 13) + 1 + 13) + 1) + 1) + 1) + 1) + 1) + 1 + 92) + 1 + j) = (12, 6)) ∧ (∀ C_62 : Cn, C_62 = mrow C_59 ((((((((((((((((n + 1 + 6) + 1) + 1) + 1) + 1) + 1) + 1) + 1) + 1 + 13) + 1 + 13) + 1) + 1) + 1) + 1) + 1) + 1 + 92) 6 → (okO (((((((((((((((((n + 1 + 6) + 1) + 1) + 1) + 1) + 1) + 1) + 1) + 1 + 13) + 1 + 13) + 1) + 1) + 1) + 1) + 1) + 1 + 92) + 1 + 6) v0 10 ∧ (∀ C_64 : Cn, C_64 = wr C_62 v0.toNat 31 ((((((((((((((((((n + 1 + 6) + 1) + 1) + 1) + 1) + 1) + 1) + 1) + 1 + 13) + 1 + 13) + 1) + 1) + 1) + 1) + 1) + 1 + 92) : Nat) : Int) → (LAY (((((((((((((((((n + 1 + 6) + 1) + 1) + 1) + 1) + 1) + 1) + 1) + 1 + 13) + 1 + 13) + 1) + 1) + 1) + 1) + 1) + 1 + 92) + 1 + 6) = (17, 20) ∧ ((∀ j, j < 20 → LAY ((((((((((((((((((n + 1 + 6) + 1) + 1) + 1) + 1) + 1) + 1) + 1) + 1 + 13) + 1 + 13) + 1) + 1) + 1) + 1) + 1) + 1 + 92) + 1 + 6) + 1 + j) = (12, 20)) ∧ (∀ C_67 : Cn, C_67 = mrow C_64 (((((((((((((((((n + 1 + 6) + 1) + 1) + 1) + 1) + 1) + 1) + 1) + 1 + 13) + 1 + 13) + 1) + 1) + 1) + 1) + 1) + 1 + 92) + 1 + 6) 20 → (okO ((((((((((((((((((n + 1 + 6) + 1) + 1) + 1) + 1) + 1) + 1) + 1) + 1 + 13) + 1 + 13) + 1) + 1) + 1) + 1) + 1) + 1 + 92) + 1 + 6) + 1 + 20) v0 10 ∧ (∀ C_69 : Cn, C_69 = wr C_67 v0.toNat 32 (((((((((((((((((((n + 1 + 6) + 1) + 1) + 1) + 1) + 1) + 1) + 1) + 1 + 13) + 1 + 13) + 1) + 1) + 1) + 1) + 1) + 1 + 92) + 1 + 6) : Nat) : Int) → (LAY ((((((((((((((((((n + 1 + 6) + 1) + 1) + 1) + 1) + 1) + 1) + 1) + 1 + 13) + 1 + 13) + 1) + 1) + 1) + 1) + 1) + 1 + 92) + 1 + 6) + 1 + 20) = (17, 20) ∧ ((∀ j, j < 20 → LAY (((((((((((((((((((n + 1 + 6) + 1) + 1) + 1) + 1) + 1) + 1) + 1) + 1 + 13) + 1 + 13) + 1) + 1) + 1) + 1) + 1) + 1 + 92) + 1 + 6) + 1 + 20) + 1 + j) = (12, 20)) ∧ (∀ C_72 : Cn, C_72 = mrow C_69 ((((((((((((((((((n + 1 + 6) + 1) + 1) + 1) + 1) + 1) + 1) + 1) + 1 + 13) + 1 + 13) + 1) + 1) + 1) + 1) + 1) + 1 + 92) + 1 + 6) + 1 + 20) 20 → (okO (((((((((((((((((((n + 1 + 6) + 1) + 1) + 1) + 1) + 1) + 1) + 1) + 1 + 13) + 1 + 13) + 1) + 1) + 1) + 1) + 1) + 1 + 92) + 1 + 6) + 1 + 20) + 1 + 20) v0 10 ∧ (∀ C_74 : Cn, C_74 = wr C_72 v0.toNat 33 ((((((((((((((((((((n + 1 + 6) + 1) + 1) + 1) + 1) + 1) + 1) + 1) + 1 + 13) + 1 + 13) + 1) + 1) + 1) + 1) + 1) + 1 + 92) + 1 + 6) + 1 + 20) : Nat) : Int) → (LAY (((((((((((((((((((n + 1 + 6) + 1) + 1) + 1) + 1) + 1) + 1) + 1) + 1 + 13) + 1 + 13) + 1) + 1) + 1) + 1) + 1) + 1 + 92) + 1 + 6) + 1 + 20) + 1 + 20) = (17, 20) ∧ ((∀ j, j < 20 → LAY ((((((((((((((((((((n + 1 + 6) + 1) + 1) + 1) + 1) + 1) + 1) + 1) + 1 + 13) + 1 + 13) + 1) + 1) + 1) + 1) + 1) + 1 + 92) + 1 + 6) + 1 + 20) + 1 + 20) + 1 + j) = (12, 4)) ∧ (∀ C_77 : Cn, C_77 = mrow C_74 (((((((((((((((((((n + 1 + 6) + 1) + 1) + 1) + 1) + 1) + 1) + 1) + 1 + 13) + 1 + 13) + 1) + 1) + 1) + 1) + 1) + 1 + 92) + 1 + 6) + 1 + 20) + 1 + 20) 20 → (okO ((((((((((((((((((((n + 1 + 6) + 1) + 1) + 1) + 1) + 1) + 1) + 1) + 1 + 13) + 1 + 13) + 1) + 1) + 1) + 1) + 1) + 1 + 92) + 1 + 6) + 1 + 20) + 1 + 20) + 1 + 20) v0 10 ∧ (∀ C_79 : Cn, C_79 = wr C_77 v0.toNat 36 (((((((((((((((((((((n + 1 + 6) + 1) + 1) + 1) + 1) + 1) + 1) + 1) + 1 + 13) + 1 + 13) + 1) + 1) + 1) + 1) + 1) + 1 + 92) + 1 + 6) + 1 + 20) + 1 + 20) : Nat) : Int) → (LAY ((((((((((((((((((((n + 1 + 6) + 1) + 1) + 1) + 1) + 1) + 1) + 1) + 1 + 13) + 1 + 13) + 1) + 1) + 1) + 1) + 1) + 1 + 92) + 1 + 6) + 1 + 20) + 1 + 20) + 1 + 20) = (12, 120) ∧ (okO (((((((((((((((((((((n + 1 + 6) + 1) + 1) + 1) + 1) + 1) + 1) + 1) + 1 + 13) + 1 + 13) + 1) + 1) + 1) + 1) + 1) + 1 + 92) + 1 + 6) + 1 + 20) + 1 + 20) + 1 + 20) + 1) v0 10 ∧ (∀ C_82 : Cn, C_82 = wr C_79 v0.toNat 37 ((((((((((((((((((((((n + 1 + 6) + 1) + 1) + 1) + 1) + 1) + 1) + 1) + 1 + 13) + 1 + 13) + 1) + 1) + 1) + 1) + 1) + 1 + 92) + 1 + 6) + 1 + 20) + 1 + 20) + 1 + 20) : Nat) : Int) → (LAY (((((((((((((((((((((n + 1 + 6) + 1) + 1) + 1) + 1) + 1) + 1) + 1) + 1 + 13) + 1 + 13) + 1) + 1) + 1) + 1) + 1) + 1 + 92) + 1 + 6) + 1 + 20) + 1 + 20) + 1 + 20) + 1) = (12, 4) ∧ (okO ((((((((((((((((((((((n + 1 + 6) + 1) + 1) + 1) + 1) + 1) + 1) + 1) + 1 + 13) + 1 + 13) + 1) + 1) + 1) + 1) + 1) + 1 + 92) + 1 + 6) + 1 + 20) + 1 + 20) + 1 + 20) + 1) + 1) (((((((((((((((((((((((n + 1 + 6) + 1) + 1) + 1) + 1) + 1) + 1) + 1) + 1 + 13) + 1 + 13) + 1) + 1) + 1) + 1) + 1) + 1 + 92) + 1 + 6) + 1 + 20) + 1 + 20) + 1 + 20) + 1) : Nat) : Int) 12 ∧ (okI (((((((((((((((((((((((n + 1 + 6) + 1) + 1) + 1) + 1) + 1) + 1) + 1) + 1 + 13) + 1 + 13) + 1) + 1) + 1) + 1) + 1) + 1 + 92) + 1 + 6) + 1 + 20) + 1 + 20) + 1 + 20) + 1) : Nat) : Int) 0 ∧ (∀ C_86 : Cn, C_86 = wr C_82 ((((((((((((((((((((((((n + 1 + 6) + 1) + 1) + 1) + 1) + 1) + 1) + 1) + 1 + 13) + 1 + 13) + 1) + 1) + 1) + 1) + 1) + 1 + 92) + 1 + 6) + 1 + 20) + 1 + 20) + 1 + 20) + 1) : Nat) : Int)).toNat 0 (-1) → (okI (((((((((((((((((((((((n + 1 + 6) + 1) + 1) + 1) + 1) + 1) + 1) + 1) + 1 + 13) + 1 + 13) + 1) + 1) + 1) + 1) + 1) + 1 + 92) + 1 + 6) + 1 + 20) + 1 + 20) + 1 + 20) + 1) : Nat) : Int) 1 ∧ (∀ C_88 : Cn, C_88 = wr C_86 ((((((((((((((((((((((((n + 1 + 6) + 1) + 1) + 1) + 1) + 1) + 1) + 1) + 1 + 13) + 1 + 13) + 1) + 1) + 1) + 1) + 1) + 1 + 92) + 1 + 6) + 1 + 20) + 1 + 20) + 1 + 20) + 1) : Nat) : Int)).toNat 1 (-1) → (okI (((((((((((((((((((((((n + 1 + 6) + 1) + 1) + 1) + 1) + 1) + 1) + 1) + 1 + 13) + 1 + 13) + 1) + 1) + 1) + 1) + 1) + 1 + 92) + 1 + 6) + 1 + 20) + 1 + 20) + 1 + 20) + 1) : Nat) : Int) 2 ∧ (∀ C_90 : Cn, C_90 = wr C_88 ((((((((((((((((((((((((n + 1 + 6) + 1) + 1) + 1) + 1) + 1) + 1) + 1) + 1 + 13) + 1 + 13) + 1) + 1) + 1) + 1) + 1) + 1 + 92) + 1 + 6) + 1 + 20) + 1 + 20) + 1 + 20) + 1) : Nat) : Int)).toNat 2 (-1) → (okI (((((((((((((((((((((((n + 1 + 6) + 1) + 1) + 1) + 1) + 1) + 1) + 1) + 1 + 13) + 1 + 13) + 1) + 1) + 1) + 1) + 1) + 1 + 92) + 1 + 6) + 1 + 20) + 1 + 20) + 1 + 20) + 1) : Nat) : Int) 3 ∧ (∀ C_92 : Cn, C_92 = wr C_90 ((((((((((((((((((((((((n + 1 + 6) + 1) + 1) + 1) + 1) + 1) + 1) + 1) + 1 + 13) + 1 + 13) + 1) + 1) + 1) + 1) + 1) + 1 + 92) + 1 + 6) + 1 + 20) + 1 + 20) + 1 + 20) + 1) : Nat) : Int)).toNat 3 (-1) → (okO ((((((((((((((((((((((n + 1 + 6) + 1) + 1) + 1) + 1) + 1) + 1) + 1) + 1 + 13) + 1 + 13) + 1) + 1) + 1) + 1) + 1) + 1 + 92) + 1 + 6) + 1 + 20) + 1 + 20) + 1 + 20) + 1) + 1) v0 10 ∧ (∀ C_94 : Cn, C_94 = wr C_92 v0.toNat 44 (((((((((((((((((((((((n + 1 + 6) + 1) + 1) + 1) + 1) + 1) + 1) + 1) + 1 + 13) + 1 + 13) + 1) + 1) + 1) + 1) + 1) + 1 + 92) + 1 + 6) + 1 + 20) + 1 + 20) + 1 + 20) + 1) : Nat) : Int) → (LAY ((((((((((((((((((((((n + 1 + 6) + 1) + 1) + 1) + 1) + 1) + 1) + 1) + 1 + 13) + 1 + 13) + 1) + 1) + 1) + 1) + 1) + 1 + 92) + 1 + 6) + 1 + 20) + 1 + 20) + 1 + 20) + 1) + 1) = (12, 4) ∧ (okO (((((((((((((((((((((((n + 1 + 6) + 1) + 1) + 1) + 1) + 1) + 1) + 1) + 1 + 13) + 1 + 13) + 1) + 1) + 1) + 1) + 1) + 1 + 92) + 1 + 6) + 1 + 20) + 1 + 20) + 1 + 20) + 1) + 1) + 1) v0 10 ∧ (∀ C_97 : Cn, C_97 = wr C_94 v0.toNat 45 ((((((((((((((((((((((((n + 1 + 6) + 1) + 1) + 1) + 1) + 1) + 1) + 1) + 1 + 13) + 1 + 13) + 1) + 1) + 1) + 1) + 1) + 1 + 92) + 1 + 6) + 1 + 20) + 1 + 20) + 1 + 20) + 1) + 1) : Nat) : Int) → (LAY (((((((((((((((((((((((n + 1 + 6) + 1) + 1) + 1) + 1) + 1) + 1) + 1) + 1 + 13) + 1 + 13) + 1) + 1) + 1) + 1) + 1) + 1 + 92) + 1 + 6) + 1 + 20) + 1 + 20) + 1 + 20) + 1) + 1) + 1) = (18, 4) ∧ ((∀ j, j < 4 → LAY ((((((((((((((((((((((((n + 1 + 6) + 1) + 1) + 1) + 1) + 1) + 1) + 1) + 1 + 13) + 1 + 13) + 1) + 1) + 1) + 1) + 1) + 1 + 92) + 1 + 6) + 1 + 20) + 1 + 20) + 1 + 20) + 1) + 1) + 1) + 1 + j) = (13, 40)) ∧ (∀ C_100 : Cn, C_100 = mrow C_97 (((((((((((((((((((((((n + 1 + 6) + 1) + 1) + 1) + 1) + 1) + 1) + 1) + 1 + 13) + 1 + 13) + 1) + 1) + 1) + 1) + 1) + 1 + 92) + 1 + 6) + 1 + 20) + 1 + 20) + 1 + 20) + 1) + 1) + 1) 4 → (okO ((((((((((((((((((((((((n + 1 + 6) + 1) + 1) + 1) + 1) + 1) + 1) + 1) + 1 + 13) + 1 + 13) + 1) + 1) + 1) + 1) + 1) + 1 + 92) + 1 + 6) + 1 + 20) + 1 + 20) + 1 + 20) + 1) + 1) + 1) + 1 + 4) v0 10 ∧ (∀ C_102 : Cn, C_102 = wr C_100 v0.toNat 46 (((((((((((((((((((((((((n + 1 + 6) + 1) + 1) + 1) + 1) + 1) + 1) + 1) + 1 + 13) + 1 + 13) + 1) + 1) + 1) + 1) + 1) + 1 + 92) + 1 + 6) + 1 + 20) + 1 + 20) + 1 + 20) + 1) + 1) + 1) : Nat) : Int) → (LAY ((((((((((((((((((((((((n + 1 + 6) + 1) + 1) + 1) + 1) + 1) + 1) + 1) + 1 + 13) + 1 + 13) + 1) + 1) + 1) + 1) + 1) + 1 + 92) + 1 + 6) + 1 + 20) + 1 + 20) + 1 + 20) + 1) + 1) + 1) + 1 + 4) = (13, 40) ∧ (okO (((((((((((((((((((((((((n + 1 + 6) + 1) + 1) + 1) + 1) + 1) + 1) + 1) + 1 + 13) + 1 + 13) + 1) + 1) + 1) + 1) + 1) + 1 + 92) + 1 + 6) + 1 + 20) + 1 + 20) + 1 + 20) + 1) + 1) + 1) + 1 + 4) + 1) v0 10 ∧ (∀ C_105 : Cn, C_105 = wr C_102 v0.toNat 47 ((((((((((((((((((((((((((n + 1 + 6) + 1) + 1) + 1) + 1) + 1) + 1) + 1) + 1 + 13) + 1 + 13) + 1) + 1) + 1) + 1) + 1) + 1 + 92) + 1 + 6) + 1 + 20) + 1 + 20) + 1 + 20) + 1) + 1) + 1) + 1 + 4) : Nat) : Int) → (LAY (((((((((((((((((((((((((n + 1 + 6) + 1) + 1) + 1) + 1) + 1) + 1) + 1) + 1 + 13) + 1 + 13) + 1) + 1) + 1) + 1) + 1) + 1 + 92) + 1 + 6) + 1 + 20) + 1 + 20) + 1 + 20) + 1) + 1) + 1) + 1 + 4) + 1) = (12, 10) ∧ (okO ((((((((((((((((((((((((((n + 1 + 6) + 1) + 1) + 1) + 1) + 1) + 1) + 1) + 1 + 13) + 1 + 13) + 1) + 1) + 1) + 1) + 1) + 1 + 92) + 1 + 6) + 1 + 20) + 1 + 20) + 1 + 20) + 1) + 1) + 1) + 1 + 4) + 1) + 1) v0 10 ∧ (∀ C_108 : Cn, C_108 = wr C_105 v0.toNat 48 (((((((((((((((((((((((((((n + 1 + 6) + 1) + 1) + 1) + 1) + 1) + 1) + 1) + 1 + 13) + 1 + 13) + 1) + 1) + 1) + 1) + 1) + 1 + 92) + 1 + 6) + 1 + 20) + 1 + 20) + 1 + 20) + 1) + 1) + 1) + 1 + 4) + 1) : Nat) : Int) → (LAY ((((((((((((((((((((((((((n + 1 + 6) + 1) + 1) + 1) + 1) + 1) + 1) + 1) + 1 + 13) + 1 + 13) + 1) + 1) + 1) + 1) + 1) + 1 + 92) + 1 + 6) + 1 + 20) + 1 + 20) + 1 + 20) + 1) + 1) + 1) + 1 + 4) + 1) + 1) = (12, 10) ∧ (okO (((((((((((((((((((((((((((n + 1 + 6) + 1) + 1) + 1) + 1) + 1) + 1) + 1) + 1 + 13) + 1 + 13) + 1) + 1) + 1) + 1) + 1) + 1 + 92) + 1 + 6) + 1 + 20) + 1 + 20) + 1 + 20) + 1) + 1) + 1) + 1 + 4) + 1) + 1) + 1) v0 10 ∧ (∀ C_111 : Cn, C_111 = wr C_108 v0.toNat 49 ((((((((((((((((((((((((((((n + 1 + 6) + 1) + 1) + 1) + 1) + 1) + 1) + 1) + 1 + 13) + 1 + 13) + 1) + 1) + 1) + 1) + 1) + 1 + 92) + 1 + 6) + 1 + 20) + 1 + 20) + 1 + 20) + 1) + 1) + 1) + 1 + 4) + 1) + 1) : Nat) : Int) → (LAY (((((((((((((((((((((((((((n + 1 + 6) + 1) + 1) + 1) + 1) + 1) + 1) + 1) + 1 + 13) + 1 + 13) + 1) + 1) + 1) + 1) + 1) + 1 + 92) + 1 + 6) + 1 + 20) + 1 + 20) + 1 + 20) + 1) + 1) + 1) + 1 + 4) + 1) + 1) + 1) = (17, 6) ∧ ((∀ j, j < 6 → LAY ((((((((((((((((((((((((((((n + 1 + 6) + 1) + 1) + 1) + 1) + 1) + 1) + 1) + 1 + 13) + 1 + 13) + 1) + 1) + 1) + 1) + 1) + 1 + 92) + 1 + 6) + 1 + 20) + 1 + 20) + 1 + 20) + 1) + 1) + 1) + 1 + 4) + 1) + 1) + 1) + 1 + j) = (12, 6)) ∧ (∀ C_114 : Cn, C_114 = mrow C_111 (((((((((((((((((((((((((((n + 1 + 6) + 1) + 1) + 1) + 1) + 1) + 1) + 1) + 1 + 13) + 1 + 13) + 1) + 1) + 1) + 1) + 1) + 1 + 92) + 1 + 6) + 1 + 20) + 1 + 20) + 1 + 20) + 1) + 1) + 1) + 1 + 4) + 1) + 1) + 1) 6 → (okO ((((((((((((((((((((((((((((n + 1 + 6) + 1) + 1) + 1) + 1) + 1) + 1) + 1) + 1 + 13) + 1 + 13) + 1) + 1) + 1) + 1) + 1) + 1 + 92) + 1 + 6) + 1 + 20) + 1 + 20) + 1 + 20) + 1) + 1) + 1) + 1 + 4) + 1) + 1) + 1) + 1 + 6) v0 10 ∧ (∀ C_116 : Cn, C_116 = wr C_114 v0.toNat 52 (((((((((((((((((((((((((((((n + 1 + 6) + 1) + 1) + 1) + 1) + 1) + 1) + 1) + 1 + 13) + 1 + 13) + 1) + 1) + 1) + 1) + 1) + 1 + 92) + 1 + 6) + 1 + 20) + 1 + 20) + 1 + 20) + 1) + 1) + 1) + 1 + 4) + 1) + 1) + 1) : Nat) : Int) → (Q 0 C_116 ((((((((((((((((((((((((((((n + 1 + 6) + 1) + 1) + 1) + 1) + 1) + 1) + 1) + 1 + 13) + 1 + 13) + 1) + 1) + 1) + 1) + 1) + 1 + 92) + 1 + 6) + 1 + 20) + 1 + 20) + 1 + 20) + 1) + 1) + 1) + 1 + 4) + 1) + 1) + 1) + 1 + 6)))))))))))))))))))))))))))))))))))))))))))))))))))))))))))))))))))))))))))))))))))))))))))))))))))))))))))))))))))))
theorem m_G_init (l : Launch) (E : Ev) (n : Nat) (C : Cn) (v0 : Int) (Q : Int → Cn → Nat → Prop) (h : P_G_init n C v0 Q) : MA l y_G_init M_G_init E false C n [(2, v0)] Q := by
  refine MA.of (by decide) rfl rfl 0 rfl (fun p e s m args below meth c => ?_)
  show AW p l e _ s m args below meth c E M_G_init false _ n 0 0 0 [(2, v0)] [] C
  unfold P_G_init at h
  refine AW.ra_n (dc hd_G_init 0 rfl) rfl rfl rfl ?_
  obtain ⟨g_1, h⟩ := h
  refine AW.objI (dc hd_G_init 1 rfl) oi_10_1 g_1 (Nat.le_of_ble_eq_true rfl) (Nat.le_of_ble_eq_true rfl) (Nat.le_of_ble_eq_true rfl) ?_
  refine AW.ra_n (dc hd_G_init 2 rfl) rfl rfl rfl ?_
  refine AW.bipush (dc hd_G_init 3 rfl) (by decide) (by decide +kernel) ?_
  refine AW.bipush (dc hd_G_init 4 rfl) (by decide) (by decide +kernel) ?_
  obtain ⟨g_2, h⟩ := h
  obtain ⟨g_3, h⟩ := h
  refine AW.mnew17 (N := 6) (K := 6) (dc hd_G_init 5 rfl) nwa_10_9 aw_12 g_2 g_3 (by decide) (by decide) (by decide) rfl (Nat.le_of_ble_eq_true rfl) (Nat.le_of_ble_eq_true rfl) (fun C_4 eC_4 => ?_)
  have h := h C_4 eC_4
  obtain ⟨g_5, h⟩ := h
  refine AW.nputF fl_10_11 (dc hd_G_init 6 rfl) g_5 (fun _ _ _ h => by cases h; rfl) rfl (fun o => by cases o <;> rfl) (fun o => by cases o <;> rfl) rfl (fun C_6 eC_6 => ?_)
  have h := h C_6 eC_6
  refine AW.ra_n (dc hd_G_init 7 rfl) rfl rfl rfl ?_
  refine AW.iconst (dc hd_G_init 8 rfl) (by decide) ?_
  refine AW.nputI fl_10_14 (dc hd_G_init 9 rfl) g_5 (fun C_7 eC_7 => ?_)
  have h := h C_7 eC_7
  refine AW.ra_n (dc hd_G_init 10 rfl) rfl rfl rfl ?_
  refine AW.bipush (dc hd_G_init 11 rfl) (by decide) (by decide +kernel) ?_
  obtain ⟨g_8, h⟩ := h
  refine AW.newa12 (dc hd_G_init 12 rfl) g_8 (by decide) aw_12 (fun h => by cases h) (Nat.le_of_ble_eq_true rfl) (Nat.le_of_ble_eq_true rfl) ?_
  obtain ⟨g_9, h⟩ := h
  refine AW.nputF fl_10_18 (dc hd_G_init 13 rfl) g_9 (fun _ _ _ h => by cases h; rfl) rfl (fun o => by cases o <;> rfl) (fun o => by cases o <;> rfl) rfl (fun C_10 eC_10 => ?_)
  have h := h C_10 eC_10
  refine AW.ra_n (dc hd_G_init 14 rfl) rfl rfl rfl ?_
  refine AW.iconst (dc hd_G_init 15 rfl) (by decide) ?_
  refine AW.nputI fl_10_22 (dc hd_G_init 16 rfl) g_9 (fun C_11 eC_11 => ?_)
  have h := h C_11 eC_11
  refine AW.ra_n (dc hd_G_init 17 rfl) rfl rfl rfl ?_
  refine AW.bipush (dc hd_G_init 18 rfl) (by decide) (by decide +kernel) ?_
  obtain ⟨g_12, h⟩ := h
  refine AW.newa12 (dc hd_G_init 19 rfl) g_12 (by decide) aw_12 (fun h => by cases h) (Nat.le_of_ble_eq_true rfl) (Nat.le_of_ble_eq_true rfl) ?_
  obtain ⟨g_13, h⟩ := h
  refine AW.nputF fl_10_25 (dc hd_G_init 20 rfl) g_13 (fun _ _ _ h => by cases h; rfl) rfl (fun o => by cases o <;> rfl) (fun o => by cases o <;> rfl) rfl (fun C_14 eC_14 => ?_)
  have h := h C_14 eC_14
  refine AW.ra_n (dc hd_G_init 21 rfl) rfl rfl rfl ?_
  refine AW.bipush (dc hd_G_init 22 rfl) (by decide) (by decide +kernel) ?_
  obtain ⟨g_15, h⟩ := h
  refine AW.newa12 (dc hd_G_init 23 rfl) g_15 (by decide) aw_12 (fun h => by cases h) (Nat.le_of_ble_eq_true rfl) (Nat.le_of_ble_eq_true rfl) ?_
  obtain ⟨g_16, h⟩ := h
  refine AW.nputF fl_10_28 (dc hd_G_init 24 rfl) g_16 (fun _ _ _ h => by cases h; rfl) rfl (fun o => by cases o <;> rfl) (fun o => by cases o <;> rfl) rfl (fun C_17 eC_17 => ?_)
  have h := h C_17 eC_17
  refine AW.ra_n (dc hd_G_init 25 rfl) rfl rfl rfl ?_
  refine AW.bipush (dc hd_G_init 26 rfl) (by decide) (by decide +kernel) ?_
  obtain ⟨g_18, h⟩ := h
  refine AW.newa12 (dc hd_G_init 27 rfl) g_18 (by decide) aw_12 (fun h => by cases h) (Nat.le_of_ble_eq_true rfl) (Nat.le_of_ble_eq_true rfl) ?_
  obtain ⟨g_19, h⟩ := h
  refine AW.nputF fl_10_31 (dc hd_G_init 28 rfl) g_19 (fun _ _ _ h => by cases h; rfl) rfl (fun o => by cases o <;> rfl) (fun o => by cases o <;> rfl) rfl (fun C_20 eC_20 => ?_)
  have h := h C_20 eC_20
  refine AW.ra_n (dc hd_G_init 29 rfl) rfl rfl rfl ?_
  refine AW.bipush (dc hd_G_init 30 rfl) (by decide) (by decide +kernel) ?_
  obtain ⟨g_21, h⟩ := h
  refine AW.newa12 (dc hd_G_init 31 rfl) g_21 (by decide) aw_12 (fun h => by cases h) (Nat.le_of_ble_eq_true rfl) (Nat.le_of_ble_eq_true rfl) ?_
  obtain ⟨g_22, h⟩ := h
  refine AW.nputF fl_10_34 (dc hd_G_init 32 rfl) g_22 (fun _ _ _ h => by cases h; rfl) rfl (fun o => by cases o <;> rfl) (fun o => by cases o <;> rfl) rfl (fun C_23 eC_23 => ?_)
  have h := h C_23 eC_23
  refine AW.ra_n (dc hd_G_init 33 rfl) rfl rfl rfl ?_
  refine AW.bipush (dc hd_G_init 34 rfl) (by decide) (by decide +kernel) ?_
  obtain ⟨g_24, h⟩ := h
  refine AW.newa12 (dc hd_G_init 35 rfl) g_24 (by decide) aw_12 (fun h => by cases h) (Nat.le_of_ble_eq_true rfl) (Nat.le_of_ble_eq_true rfl) ?_
  obtain ⟨g_25, h⟩ := h
  refine AW.nputF fl_10_37 (dc hd_G_init 36 rfl) g_25 (fun _ _ _ h => by cases h; rfl) rfl (fun o => by cases o <;> rfl) (fun o => by cases o <;> rfl) rfl (fun C_26 eC_26 => ?_)
  have h := h C_26 eC_26
  refine AW.ra_n (dc hd_G_init 37 rfl) rfl rfl rfl ?_
  refine AW.bipush (dc hd_G_init 38 rfl) (by decide) (by decide +kernel) ?_
  obtain ⟨g_27, h⟩ := h
  refine AW.newa12 (dc hd_G_init 39 rfl) g_27 (by decide) aw_12 (fun h => by cases h) (Nat.le_of_ble_eq_true rfl) (Nat.le_of_ble_eq_true rfl) ?_
  obtain ⟨g_28, h⟩ := h
  refine AW.nputF fl_10_40 (dc hd_G_init 40 rfl) g_28 (fun _ _ _ h => by cases h; rfl) rfl (fun o => by cases o <;> rfl) (fun o => by cases o <;> rfl) rfl (fun C_29 eC_29 => ?_)
  have h := h C_29 eC_29
  refine AW.ra_n (dc hd_G_init 41 rfl) rfl rfl rfl ?_
  refine AW.bipush (dc hd_G_init 42 rfl) (by decide) (by decide +kernel) ?_
  refine AW.bipush (dc hd_G_init 43 rfl) (by decide) (by decide +kernel) ?_
  obtain ⟨g_30, h⟩ := h
  obtain ⟨g_31, h⟩ := h
  refine AW.mnew17 (N := 13) (K := 6) (dc hd_G_init 44 rfl) nwa_10_9 aw_12 g_30 g_31 (by decide) (by decide) (by decide) rfl (Nat.le_of_ble_eq_true rfl) (Nat.le_of_ble_eq_true rfl) (fun C_32 eC_32 => ?_)
  have h := h C_32 eC_32
  obtain ⟨g_33, h⟩ := h
  refine AW.nputF fl_10_43 (dc hd_G_init 45 rfl) g_33 (fun _ _ _ h => by cases h; rfl) rfl (fun o => by cases o <;> rfl) (fun o => by cases o <;> rfl) rfl (fun C_34 eC_34 => ?_)
  have h := h C_34 eC_34
  refine AW.ra_n (dc hd_G_init 46 rfl) rfl rfl rfl ?_
  refine AW.bipush (dc hd_G_init 47 rfl) (by decide) (by decide +kernel) ?_
  refine AW.bipush (dc hd_G_init 48 rfl) (by decide) (by decide +kernel) ?_
  obtain ⟨g_35, h⟩ := h
  obtain ⟨g_36, h⟩ := h
  refine AW.mnew17 (N := 13) (K := 7) (dc hd_G_init 49 rfl) nwa_10_9 aw_12 g_35 g_36 (by decide) (by decide) (by decide) rfl (Nat.le_of_ble_eq_true rfl) (Nat.le_of_ble_eq_true rfl) (fun C_37 eC_37 => ?_)
  have h := h C_37 eC_37
  obtain ⟨g_38, h⟩ := h
  refine AW.nputF fl_10_46 (dc hd_G_init 50 rfl) g_38 (fun _ _ _ h => by cases h; rfl) rfl (fun o => by cases o <;> rfl) (fun o => by cases o <;> rfl) rfl (fun C_39 eC_39 => ?_)
  have h := h C_39 eC_39
  refine AW.ra_n (dc hd_G_init 51 rfl) rfl rfl rfl ?_
  refine AW.bipush (dc hd_G_init 52 rfl) (by decide) (by decide +kernel) ?_
  obtain ⟨g_40, h⟩ := h
  refine AW.newa12 (dc hd_G_init 53 rfl) g_40 (by decide) aw_12 (fun h => by cases h) (Nat.le_of_ble_eq_true rfl) (Nat.le_of_ble_eq_true rfl) ?_
  obtain ⟨g_41, h⟩ := h
  refine AW.nputF fl_10_49 (dc hd_G_init 54 rfl) g_41 (fun _ _ _ h => by cases h; rfl) rfl (fun o => by cases o <;> rfl) (fun o => by cases o <;> rfl) rfl (fun C_42 eC_42 => ?_)
  have h := h C_42 eC_42
  refine AW.ra_n (dc hd_G_init 55 rfl) rfl rfl rfl ?_
  refine AW.bipush (dc hd_G_init 56 rfl) (by decide) (by decide +kernel) ?_
  obtain ⟨g_43, h⟩ := h
  refine AW.newa12 (dc hd_G_init 57 rfl) g_43 (by decide) aw_12 (fun h => by cases h) (Nat.le_of_ble_eq_true rfl) (Nat.le_of_ble_eq_true rfl) ?_
  obtain ⟨g_44, h⟩ := h
  refine AW.nputF fl_10_52 (dc hd_G_init 58 rfl) g_44 (fun _ _ _ h => by cases h; rfl) rfl (fun o => by cases o <;> rfl) (fun o => by cases o <;> rfl) rfl (fun C_45 eC_45 => ?_)
  have h := h C_45 eC_45
  refine AW.ra_n (dc hd_G_init 59 rfl) rfl rfl rfl ?_
  refine AW.bipush (dc hd_G_init 60 rfl) (by decide) (by decide +kernel) ?_
  obtain ⟨g_46, h⟩ := h
  refine AW.newa12 (dc hd_G_init 61 rfl) g_46 (by decide) aw_12 (fun h => by cases h) (Nat.le_of_ble_eq_true rfl) (Nat.le_of_ble_eq_true rfl) ?_
  obtain ⟨g_47, h⟩ := h
  refine AW.nputF fl_10_55 (dc hd_G_init 62 rfl) g_47 (fun _ _ _ h => by cases h; rfl) rfl (fun o => by cases o <;> rfl) (fun o => by cases o <;> rfl) rfl (fun C_48 eC_48 => ?_)
  have h := h C_48 eC_48
  refine AW.ra_n (dc hd_G_init 63 rfl) rfl rfl rfl ?_
  refine AW.bipush (dc hd_G_init 64 rfl) (by decide) (by decide +kernel) ?_
  obtain ⟨g_49, h⟩ := h
  refine AW.newa12 (dc hd_G_init 65 rfl) g_49 (by decide) aw_12 (fun h => by cases h) (Nat.le_of_ble_eq_true rfl) (Nat.le_of_ble_eq_true rfl) ?_
  obtain ⟨g_50, h⟩ := h
  refine AW.nputF fl_10_58 (dc hd_G_init 66 rfl) g_50 (fun _ _ _ h => by cases h; rfl) rfl (fun o => by cases o <;> rfl) (fun o => by cases o <;> rfl) rfl (fun C_51 eC_51 => ?_)
  have h := h C_51 eC_51
  refine AW.ra_n (dc hd_G_init 67 rfl) rfl rfl rfl ?_
  refine AW.bipush (dc hd_G_init 68 rfl) (by decide) (by decide +kernel) ?_
  obtain ⟨g_52, h⟩ := h
  refine AW.newa12 (dc hd_G_init 69 rfl) g_52 (by decide) aw_12 (fun h => by cases h) (Nat.le_of_ble_eq_true rfl) (Nat.le_of_ble_eq_true rfl) ?_
  obtain ⟨g_53, h⟩ := h
  refine AW.nputF fl_10_61 (dc hd_G_init 70 rfl) g_53 (fun _ _ _ h => by cases h; rfl) rfl (fun o => by cases o <;> rfl) (fun o => by cases o <;> rfl) rfl (fun C_54 eC_54 => ?_)
  have h := h C_54 eC_54
  refine AW.ra_n (dc hd_G_init 71 rfl) rfl rfl rfl ?_
  refine AW.bipush (dc hd_G_init 72 rfl) (by decide) (by decide +kernel) ?_
  refine AW.sipush (dc hd_G_init 73 rfl) (by decide) (by decide +kernel) ?_
  obtain ⟨g_55, h⟩ := h
  obtain ⟨g_56, h⟩ := h
  refine AW.mnew17 (N := 92) (K := 384) (dc hd_G_init 74 rfl) nwa_10_9 aw_12 g_55 g_56 (by decide) (by decide) (by decide) rfl (Nat.le_of_ble_eq_true rfl) (Nat.le_of_ble_eq_true rfl) (fun C_57 eC_57 => ?_)
  have h := h C_57 eC_57
  obtain ⟨g_58, h⟩ := h
  refine AW.nputF fl_10_64 (dc hd_G_init 75 rfl) g_58 (fun _ _ _ h => by cases h; rfl) rfl (fun o => by cases o <;> rfl) (fun o => by cases o <;> rfl) rfl (fun C_59 eC_59 => ?_)
  have h := h C_59 eC_59
  refine AW.ra_n (dc hd_G_init 76 rfl) rfl rfl rfl ?_
  refine AW.bipush (dc hd_G_init 77 rfl) (by decide) (by decide +kernel) ?_
  refine AW.bipush (dc hd_G_init 78 rfl) (by decide) (by decide +kernel) ?_
  obtain ⟨g_60, h⟩ := h
  obtain ⟨g_61, h⟩ := h
  refine AW.mnew17 (N := 6) (K := 6) (dc hd_G_init 79 rfl) nwa_10_9 aw_12 g_60 g_61 (by decide) (by decide) (by decide) rfl (Nat.le_of_ble_eq_true rfl) (Nat.le_of_ble_eq_true rfl) (fun C_62 eC_62 => ?_)
  have h := h C_62 eC_62
  obtain ⟨g_63, h⟩ := h
  refine AW.nputF fl_10_67 (dc hd_G_init 80 rfl) g_63 (fun _ _ _ h => by cases h; rfl) rfl (fun o => by cases o <;> rfl) (fun o => by cases o <;> rfl) rfl (fun C_64 eC_64 => ?_)
  have h := h C_64 eC_64
  refine AW.ra_n (dc hd_G_init 81 rfl) rfl rfl rfl ?_
  refine AW.bipush (dc hd_G_init 82 rfl) (by decide) (by decide +kernel) ?_
  refine AW.bipush (dc hd_G_init 83 rfl) (by decide) (by decide +kernel) ?_
  obtain ⟨g_65, h⟩ := h
  obtain ⟨g_66, h⟩ := h
  refine AW.mnew17 (N := 20) (K := 20) (dc hd_G_init 84 rfl) nwa_10_9 aw_12 g_65 g_66 (by decide) (by decide) (by decide) rfl (Nat.le_of_ble_eq_true rfl) (Nat.le_of_ble_eq_true rfl) (fun C_67 eC_67 => ?_)
  have h := h C_67 eC_67
  obtain ⟨g_68, h⟩ := h
  refine AW.nputF fl_10_70 (dc hd_G_init 85 rfl) g_68 (fun _ _ _ h => by cases h; rfl) rfl (fun o => by cases o <;> rfl) (fun o => by cases o <;> rfl) rfl (fun C_69 eC_69 => ?_)
  have h := h C_69 eC_69
  refine AW.ra_n (dc hd_G_init 86 rfl) rfl rfl rfl ?_
  refine AW.bipush (dc hd_G_init 87 rfl) (by decide) (by decide +kernel) ?_
  refine AW.bipush (dc hd_G_init 88 rfl) (by decide) (by decide +kernel) ?_
  obtain ⟨g_70, h⟩ := h
  obtain ⟨g_71, h⟩ := h
  refine AW.mnew17 (N := 20) (K := 20) (dc hd_G_init 89 rfl) nwa_10_9 aw_12 g_70 g_71 (by decide) (by decide) (by decide) rfl (Nat.le_of_ble_eq_true rfl) (Nat.le_of_ble_eq_true rfl) (fun C_72 eC_72 => ?_)
  have h := h C_72 eC_72
  obtain ⟨g_73, h⟩ := h
  refine AW.nputF fl_10_73 (dc hd_G_init 90 rfl) g_73 (fun _ _ _ h => by cases h; rfl) rfl (fun o => by cases o <;> rfl) (fun o => by cases o <;> rfl) rfl (fun C_74 eC_74 => ?_)
  have h := h C_74 eC_74
  refine AW.ra_n (dc hd_G_init 91 rfl) rfl rfl rfl ?_
  refine AW.bipush (dc hd_G_init 92 rfl) (by decide) (by decide +kernel) ?_
  refine AW.iconst (dc hd_G_init 93 rfl) (by decide) ?_
  obtain ⟨g_75, h⟩ := h
  obtain ⟨g_76, h⟩ := h
  refine AW.mnew17 (N := 20) (K := 4) (dc hd_G_init 94 rfl) nwa_10_9 aw_12 g_75 g_76 (by decide) (by decide) (by decide) rfl (Nat.le_of_ble_eq_true rfl) (Nat.le_of_ble_eq_true rfl) (fun C_77 eC_77 => ?_)
  have h := h C_77 eC_77
  obtain ⟨g_78, h⟩ := h
  refine AW.nputF fl_10_76 (dc hd_G_init 95 rfl) g_78 (fun _ _ _ h => by cases h; rfl) rfl (fun o => by cases o <;> rfl) (fun o => by cases o <;> rfl) rfl (fun C_79 eC_79 => ?_)
  have h := h C_79 eC_79
  refine AW.ra_n (dc hd_G_init 96 rfl) rfl rfl rfl ?_
  refine AW.bipush (dc hd_G_init 97 rfl) (by decide) (by decide +kernel) ?_
  obtain ⟨g_80, h⟩ := h
  refine AW.newa12 (dc hd_G_init 98 rfl) g_80 (by decide) aw_12 (fun h => by cases h) (Nat.le_of_ble_eq_true rfl) (Nat.le_of_ble_eq_true rfl) ?_
  obtain ⟨g_81, h⟩ := h
  refine AW.nputF fl_10_79 (dc hd_G_init 99 rfl) g_81 (fun _ _ _ h => by cases h; rfl) rfl (fun o => by cases o <;> rfl) (fun o => by cases o <;> rfl) rfl (fun C_82 eC_82 => ?_)
  have h := h C_82 eC_82
  refine AW.ra_n (dc hd_G_init 100 rfl) rfl rfl rfl ?_
  refine AW.iconst (dc hd_G_init 101 rfl) (by decide) ?_
  obtain ⟨g_83, h⟩ := h
  refine AW.newa12 (dc hd_G_init 102 rfl) g_83 (by decide) aw_12 (fun h => by cases h) (Nat.le_of_ble_eq_true rfl) (Nat.le_of_ble_eq_true rfl) ?_
  refine AW.rdup (dc hd_G_init 103 rfl) rfl ?_
  refine AW.iconst (dc hd_G_init 104 rfl) (by decide) ?_
  refine AW.iconst (dc hd_G_init 105 rfl) (by decide) ?_
  obtain ⟨g_84, h⟩ := h
  obtain ⟨g_85, h⟩ := h
  refine AW.niast (dc hd_G_init 106 rfl) g_84 g_85 (fun C_86 eC_86 => ?_)
  have h := h C_86 eC_86
  refine AW.rdup (dc hd_G_init 107 rfl) rfl ?_
  refine AW.iconst (dc hd_G_init 108 rfl) (by decide) ?_
  refine AW.iconst (dc hd_G_init 109 rfl) (by decide) ?_
  obtain ⟨g_87, h⟩ := h
  refine AW.niast (dc hd_G_init 110 rfl) g_84 g_87 (fun C_88 eC_88 => ?_)
  have h := h C_88 eC_88
  refine AW.rdup (dc hd_G_init 111 rfl) rfl ?_
  refine AW.iconst (dc hd_G_init 112 rfl) (by decide) ?_
  refine AW.iconst (dc hd_G_init 113 rfl) (by decide) ?_
  obtain ⟨g_89, h⟩ := h
  refine AW.niast (dc hd_G_init 114 rfl) g_84 g_89 (fun C_90 eC_90 => ?_)
  have h := h C_90 eC_90
  refine AW.rdup (dc hd_G_init 115 rfl) rfl ?_
  refine AW.iconst (dc hd_G_init 116 rfl) (by decide) ?_
  refine AW.iconst (dc hd_G_init 117 rfl) (by decide) ?_
  obtain ⟨g_91, h⟩ := h
  refine AW.niast (dc hd_G_init 118 rfl) g_84 g_91 (fun C_92 eC_92 => ?_)
  have h := h C_92 eC_92
  obtain ⟨g_93, h⟩ := h
  refine AW.nputF fl_10_82 (dc hd_G_init 119 rfl) g_93 (fun _ _ _ h => by cases h; rfl) rfl (fun o => by cases o <;> rfl) (fun o => by cases o <;> rfl) rfl (fun C_94 eC_94 => ?_)
  have h := h C_94 eC_94
  refine AW.ra_n (dc hd_G_init 120 rfl) rfl rfl rfl ?_
  refine AW.iconst (dc hd_G_init 121 rfl) (by decide) ?_
  obtain ⟨g_95, h⟩ := h
  refine AW.newa12 (dc hd_G_init 122 rfl) g_95 (by decide) aw_12 (fun h => by cases h) (Nat.le_of_ble_eq_true rfl) (Nat.le_of_ble_eq_true rfl) ?_
  obtain ⟨g_96, h⟩ := h
  refine AW.nputF fl_10_85 (dc hd_G_init 123 rfl) g_96 (fun _ _ _ h => by cases h; rfl) rfl (fun o => by cases o <;> rfl) (fun o => by cases o <;> rfl) rfl (fun C_97 eC_97 => ?_)
  have h := h C_97 eC_97
  refine AW.ra_n (dc hd_G_init 124 rfl) rfl rfl rfl ?_
  refine AW.iconst (dc hd_G_init 125 rfl) (by decide) ?_
  refine AW.bipush (dc hd_G_init 126 rfl) (by decide) (by decide +kernel) ?_
  obtain ⟨g_98, h⟩ := h
  obtain ⟨g_99, h⟩ := h
  refine AW.mnew18 (N := 4) (K := 40) (dc hd_G_init 127 rfl) nwa_10_88 aw_13 g_98 g_99 (by decide) (by decide) (by decide) rfl (Nat.le_of_ble_eq_true rfl) (Nat.le_of_ble_eq_true rfl) (fun C_100 eC_100 => ?_)
  have h := h C_100 eC_100
  obtain ⟨g_101, h⟩ := h
  refine AW.nputF fl_10_90 (dc hd_G_init 128 rfl) g_101 (fun _ _ _ h => by cases h; rfl) rfl (fun o => by cases o <;> rfl) (fun o => by cases o <;> rfl) rfl (fun C_102 eC_102 => ?_)
  have h := h C_102 eC_102
  refine AW.ra_n (dc hd_G_init 129 rfl) rfl rfl rfl ?_
  refine AW.bipush (dc hd_G_init 130 rfl) (by decide) (by decide +kernel) ?_
  obtain ⟨g_103, h⟩ := h
  refine AW.newa13 (dc hd_G_init 131 rfl) g_103 (by decide) aw_13 (fun h => by cases h) (Nat.le_of_ble_eq_true rfl) (Nat.le_of_ble_eq_true rfl) ?_
  obtain ⟨g_104, h⟩ := h
  refine AW.nputF fl_10_93 (dc hd_G_init 132 rfl) g_104 (fun _ _ _ h => by cases h; rfl) rfl (fun o => by cases o <;> rfl) (fun o => by cases o <;> rfl) rfl (fun C_105 eC_105 => ?_)
  have h := h C_105 eC_105
  refine AW.ra_n (dc hd_G_init 133 rfl) rfl rfl rfl ?_
  refine AW.bipush (dc hd_G_init 134 rfl) (by decide) (by decide +kernel) ?_
  obtain ⟨g_106, h⟩ := h
  refine AW.newa12 (dc hd_G_init 135 rfl) g_106 (by decide) aw_12 (fun h => by cases h) (Nat.le_of_ble_eq_true rfl) (Nat.le_of_ble_eq_true rfl) ?_
  obtain ⟨g_107, h⟩ := h
  refine AW.nputF fl_10_97 (dc hd_G_init 136 rfl) g_107 (fun _ _ _ h => by cases h; rfl) rfl (fun o => by cases o <;> rfl) (fun o => by cases o <;> rfl) rfl (fun C_108 eC_108 => ?_)
  have h := h C_108 eC_108
  refine AW.ra_n (dc hd_G_init 137 rfl) rfl rfl rfl ?_
  refine AW.bipush (dc hd_G_init 138 rfl) (by decide) (by decide +kernel) ?_
  obtain ⟨g_109, h⟩ := h
  refine AW.newa12 (dc hd_G_init 139 rfl) g_109 (by decide) aw_12 (fun h => by cases h) (Nat.le_of_ble_eq_true rfl) (Nat.le_of_ble_eq_true rfl) ?_
  obtain ⟨g_110, h⟩ := h
  refine AW.nputF fl_10_100 (dc hd_G_init 140 rfl) g_110 (fun _ _ _ h => by cases h; rfl) rfl (fun o => by cases o <;> rfl) (fun o => by cases o <;> rfl) rfl (fun C_111 eC_111 => ?_)
  have h := h C_111 eC_111
  refine AW.ra_n (dc hd_G_init 141 rfl) rfl rfl rfl ?_
  refine AW.bipush (dc hd_G_init 142 rfl) (by decide) (by decide +kernel) ?_
  refine AW.bipush (dc hd_G_init 143 rfl) (by decide) (by decide +kernel) ?_
  obtain ⟨g_112, h⟩ := h
  obtain ⟨g_113, h⟩ := h
  refine AW.mnew17 (N := 6) (K := 6) (dc hd_G_init 144 rfl) nwa_10_9 aw_12 g_112 g_113 (by decide) (by decide) (by decide) rfl (Nat.le_of_ble_eq_true rfl) (Nat.le_of_ble_eq_true rfl) (fun C_114 eC_114 => ?_)
  have h := h C_114 eC_114
  obtain ⟨g_115, h⟩ := h
  refine AW.nputF fl_10_103 (dc hd_G_init 145 rfl) g_115 (fun _ _ _ h => by cases h; rfl) rfl (fun o => by cases o <;> rfl) (fun o => by cases o <;> rfl) rfl (fun C_116 eC_116 => ?_)
  have h := h C_116 eC_116
  exact AW.vret (dc hd_G_init 146 rfl) rfl rfl (Nat.le_of_ble_eq_true rfl) (Nat.le_of_ble_eq_true rfl) h
end
