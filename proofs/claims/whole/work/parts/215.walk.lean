section
variable {p : Program} {l : Launch} {e : Env} {R : Room} {s : State} {m : MethodId} {args : Array Value} {below : List Frame} {meth : Method} {c : Code} {E : Ev}
def J_G_steps1_200 (n : Nat) (C : Cn) (v0 v1 v2 : Int) (k54 : Cn × Int → Prop) (k64 : Cn × Int → Prop) (Q : Int → Cn → Prop) : Prop :=
  k64 (C, w32 (v2 + 1))
theorem aJ_G_steps1_200 (n : Nat) (C : Cn) (v0 v1 v2 : Int) (k54 : Cn × Int → Prop) (k64 : Cn × Int → Prop) (Q : Int → Cn → Prop) (hk54 : ∀ (Cz : Cn) (z1 : Int), k54 (Cz, z1) → AW p l e R s m args below meth c E M_G_steps1 true (fun r C2 n2 => n2 = n ∧ Q r C2) n 0 0 54 [(2, v0), (0, z1), (9, 0), (9, 0)] [] Cz) (hk64 : ∀ (Cz : Cn) (z2 : Int), k64 (Cz, z2) → AW p l e R s m args below meth c E M_G_steps1 true (fun r C2 n2 => n2 = n ∧ Q r C2) n 0 0 64 [(2, v0), (0, v1), (0, z2), (9, 0)] [] Cz) (h : J_G_steps1_200 n C v0 v1 v2 k54 k64 Q) : AW p l e R s m args below meth c E M_G_steps1 true (fun r C2 n2 => n2 = n ∧ Q r C2) n 0 0 200 [(2, v0), (0, v1), (0, v2), (9, 0)] [] C := by
  unfold J_G_steps1_200 at h
  refine AW.iinc [(2, v0), (0, v1), (0, w32 (v2 + 1)), (9, 0)] (dc hd_G_steps1 126 rfl) rfl (Nat.le_of_ble_eq_true rfl) rfl rfl ?_
  refine AW.goto (t := 64) (dc hd_G_steps1 127 rfl) (by decide) ?_
  exact hk64 (C, w32 (v2 + 1)) h
def J_G_steps1_171 (n : Nat) (C : Cn) (v0 v1 v2 v3 : Int) (k54 : Cn × Int → Prop) (k64 : Cn × Int → Prop) (k121 : Cn × Int → Prop) (Q : Int → Cn → Prop) : Prop :=
  okO n v0 10 ∧ (okO n (PT v0.toNat 17) 17 ∧ (okI (PT v0.toNat 17) v1 ∧ (okO n (PT (PT v0.toNat 17).toNat v1.toNat) 12 ∧ (okI (PT (PT v0.toNat 17).toNat v1.toNat) v2 ∧ (okI (PT v0.toNat 17) (w32 (v1 - 1)) ∧ (okO n (PT (PT v0.toNat 17).toNat (w32 (v1 - 1)).toNat) 12 ∧ (okI (PT (PT v0.toNat 17).toNat (w32 (v1 - 1)).toNat) v3 ∧ (P_G_mayGo n C v0 (C (PT (PT v0.toNat 17).toNat v1.toNat).toNat v2.toNat) (C (PT (PT v0.toNat 17).toNat (w32 (v1 - 1)).toNat).toNat v3.toNat) 0 (fun (_ : Int) (C_32 : Cn) => k121 (C_32, w32 (v3 + 1)))))))))))
theorem aJ_G_steps1_171 (n : Nat) (C : Cn) (v0 v1 v2 v3 : Int) (k54 : Cn × Int → Prop) (k64 : Cn × Int → Prop) (k121 : Cn × Int → Prop) (Q : Int → Cn → Prop) (hk54 : ∀ (Cz : Cn) (z1 : Int), k54 (Cz, z1) → AW p l e R s m args below meth c E M_G_steps1 true (fun r C2 n2 => n2 = n ∧ Q r C2) n 0 0 54 [(2, v0), (0, z1), (9, 0), (9, 0)] [] Cz) (hk64 : ∀ (Cz : Cn) (z2 : Int), k64 (Cz, z2) → AW p l e R s m args below meth c E M_G_steps1 true (fun r C2 n2 => n2 = n ∧ Q r C2) n 0 0 64 [(2, v0), (0, v1), (0, z2), (9, 0)] [] Cz) (hk121 : ∀ (Cz : Cn) (z3 : Int), k121 (Cz, z3) → AW p l e R s m args below meth c E M_G_steps1 true (fun r C2 n2 => n2 = n ∧ Q r C2) n 0 0 121 [(2, v0), (0, v1), (0, v2), (0, z3)] [] Cz) (h : J_G_steps1_171 n C v0 v1 v2 v3 k54 k64 k121 Q) : AW p l e R s m args below meth c E M_G_steps1 true (fun r C2 n2 => n2 = n ∧ Q r C2) n 0 0 171 [(2, v0), (0, v1), (0, v2), (0, v3)] [] C := by
  unfold J_G_steps1_171 at h
  refine AW.ra_n (dc hd_G_steps1 107 rfl) rfl rfl rfl ?_
  refine AW.ra_n (dc hd_G_steps1 108 rfl) rfl rfl rfl ?_
  obtain ⟨g_24, h⟩ := h
  refine AW.getp fl_10_46 (dc hd_G_steps1 109 rfl) g_24 rfl ?_
  refine AW.iload_n (dc hd_G_steps1 110 rfl) rfl ?_
  obtain ⟨g_25, h⟩ := h
  obtain ⟨g_26, h⟩ := h
  refine AW.aaldp (by decide) (dc hd_G_steps1 111 rfl) g_25 g_26 rfl ?_
  refine AW.iload_n (dc hd_G_steps1 112 rfl) rfl ?_
  obtain ⟨g_27, h⟩ := h
  obtain ⟨g_28, h⟩ := h
  refine AW.iald (dc hd_G_steps1 113 rfl) g_27 g_28 ?_
  refine AW.ra_n (dc hd_G_steps1 114 rfl) rfl rfl rfl ?_
  refine AW.getp fl_10_46 (dc hd_G_steps1 115 rfl) g_24 rfl ?_
  refine AW.iload_n (dc hd_G_steps1 116 rfl) rfl ?_
  refine AW.iconst (dc hd_G_steps1 117 rfl) (by decide) ?_
  refine AW.isub (dc hd_G_steps1 118 rfl) ?_
  obtain ⟨g_29, h⟩ := h
  refine AW.aaldp (by decide) (dc hd_G_steps1 119 rfl) g_25 g_29 rfl ?_
  refine AW.iload_n (dc hd_G_steps1 120 rfl) rfl ?_
  obtain ⟨g_30, h⟩ := h
  obtain ⟨g_31, h⟩ := h
  refine AW.iald (dc hd_G_steps1 121 rfl) g_30 g_31 ?_
  refine AW.iconst (dc hd_G_steps1 122 rfl) (by decide) ?_
  refine AW.callV (As := [(0, C (PT (PT v0.toNat 17).toNat v1.toNat).toNat v2.toNat), (0, C (PT (PT v0.toNat 17).toNat (w32 (v1 - 1)).toNat).toNat v3.toNat), (0, 0)]) (rest := []) (ci := 10) (m_G_mayGo l E n C v0 (C (PT (PT v0.toNat 17).toNat v1.toNat).toNat v2.toNat) (C (PT (PT v0.toNat 17).toNat (w32 (v1 - 1)).toNat).toNat v3.toNat) 0 _ h) cb_10_340 im_G_mayGo se_G_mayGo ⟨_, _, rfl⟩ (by decide) (dc hd_G_steps1 123 rfl) g_24 rfl rfl ⟨Nat.le_of_ble_eq_true rfl, Nat.le_of_ble_eq_true rfl⟩ ⟨(Nat.le_of_ble_eq_true rfl), (Nat.le_of_ble_eq_true rfl)⟩ (Nat.le_of_ble_eq_true rfl) (fun _ h => by cases h) (fun _ => rfl) (fun u_34 C_32 d_35 q_33 => ?_)
  obtain ⟨q_33a, h⟩ := q_33
  subst d_35
  show AW p l e _ s m args below meth c E M_G_steps1 true _ n _ _ _ [(2, v0), (0, v1), (0, v2), (0, v3)] [] C_32
  refine AW.iinc [(2, v0), (0, v1), (0, v2), (0, w32 (v3 + 1))] (dc hd_G_steps1 124 rfl) rfl (Nat.le_of_ble_eq_true rfl) rfl rfl ?_
  refine AW.goto (t := 121) (dc hd_G_steps1 125 rfl) (by decide) ?_
  exact hk121 (C_32, w32 (v3 + 1)) h
def B_G_steps1_121 (n : Nat) (v0 v1 v2 : Int) (k54 : Cn × Int → Prop) (k64 : Cn × Int → Prop) (Q : Int → Cn → Prop) (k121 : Cn × Int → Prop) (z : Cn × Int) : Prop := match z with
  | (C, v3) => (v1 ≤ 0 → (J_G_steps1_200 n C v0 v1 v2 k54 k64 Q)) ∧ (¬ v1 ≤ 0 → (okO n v0 10 ∧ (okO n (PT v0.toNat 15) 12 ∧ (okI (PT v0.toNat 15) (w32 (v1 - 1)) ∧ ((C (PT v0.toNat 15).toNat (w32 (v1 - 1)).toNat < v3 → (J_G_steps1_200 n C v0 v1 v2 k54 k64 Q)) ∧ (¬ C (PT v0.toNat 15).toNat (w32 (v1 - 1)).toNat < v3 → (P_G_floorAt n C v0 v1 v2 (fun (r_15 : Int) => P_G_floorAt n C v0 (w32 (v1 - 1)) v3 (fun (r_19 : Int) => (r_15 = r_19 → (J_G_steps1_171 n C v0 v1 v2 v3 k54 k64 k121 Q)) ∧ (¬ r_15 = r_19 → (P_G_roofAt n C v0 v1 v2 (fun (r_36 : Int) => P_G_roofAt n C v0 (w32 (v1 - 1)) v3 (fun (r_40 : Int) => (r_36 = r_40 → (J_G_steps1_171 n C v0 v1 v2 v3 k54 k64 k121 Q)) ∧ (¬ r_36 = r_40 → (k121 (C, w32 (v3 + 1)))))))))))))))))
theorem aB_G_steps1_121 (n : Nat) (v0 v1 v2 : Int) (k54 : Cn × Int → Prop) (k64 : Cn × Int → Prop) (Q : Int → Cn → Prop) (hk54 : ∀ (Cz : Cn) (z1 : Int), k54 (Cz, z1) → AW p l e R s m args below meth c E M_G_steps1 true (fun r C2 n2 => n2 = n ∧ Q r C2) n 0 0 54 [(2, v0), (0, z1), (9, 0), (9, 0)] [] Cz) (hk64 : ∀ (Cz : Cn) (z2 : Int), k64 (Cz, z2) → AW p l e R s m args below meth c E M_G_steps1 true (fun r C2 n2 => n2 = n ∧ Q r C2) n 0 0 64 [(2, v0), (0, v1), (0, z2), (9, 0)] [] Cz) : ∀ (f : Nat) (z : Cn × Int), lp (B_G_steps1_121 n v0 v1 v2 k54 k64 Q) f z → AW p l e R s m args below meth c E M_G_steps1 true (fun r C2 n2 => n2 = n ∧ Q r C2) n 0 0 121 [(2, v0), (0, v1), (0, v2), (0, z.2)] [] (z.1) := by
  intro f
  induction f with
  | zero => intro z h; exact False.elim h
  | succ f ih =>
    intro z h
    obtain ⟨C, v3⟩ := z
    have h : B_G_steps1_121 n v0 v1 v2 k54 k64 Q (lp (B_G_steps1_121 n v0 v1 v2 k54 k64 Q) f) (C, v3) := h
    unfold B_G_steps1_121 at h
    dsimp only at h
    have hk121 : ∀ z : Cn × Int, lp (B_G_steps1_121 n v0 v1 v2 k54 k64 Q) f z → _ := ih
    refine AW.iload_n (dc hd_G_steps1 75 rfl) rfl ?_
    refine AW.if_le (t := 200) (dc hd_G_steps1 76 rfl) (by decide) (fun c_10 => ?_) (fun c_10 => ?_)
    · have h := h.1 c_10
      refine AW.fgt [(2, v0), (0, v1), (0, v2), (9, 0)] ⟨.inl rfl, .inl rfl, .inl rfl, .inr rfl, trivial⟩ ?_
      exact aJ_G_steps1_200 n C v0 v1 v2 k54 k64 Q hk54 hk64 h
    · have h := h.2 c_10
      refine AW.iload_n (dc hd_G_steps1 77 rfl) rfl ?_
      refine AW.ra_n (dc hd_G_steps1 78 rfl) rfl rfl rfl ?_
      obtain ⟨g_11, h⟩ := h
      refine AW.getp fl_10_40 (dc hd_G_steps1 79 rfl) g_11 rfl ?_
      refine AW.iload_n (dc hd_G_steps1 80 rfl) rfl ?_
      refine AW.iconst (dc hd_G_steps1 81 rfl) (by decide) ?_
      refine AW.isub (dc hd_G_steps1 82 rfl) ?_
      obtain ⟨g_12, h⟩ := h
      obtain ⟨g_13, h⟩ := h
      refine AW.iald (dc hd_G_steps1 83 rfl) g_12 g_13 ?_
      refine AW.icmp_gt (t := 200) (dc hd_G_steps1 84 rfl) (by decide) (fun c_14 => ?_) (fun c_14 => ?_)
      · have h := h.1 c_14
        refine AW.fgt [(2, v0), (0, v1), (0, v2), (9, 0)] ⟨.inl rfl, .inl rfl, .inl rfl, .inr rfl, trivial⟩ ?_
        exact aJ_G_steps1_200 n C v0 v1 v2 k54 k64 Q hk54 hk64 h
      · have h := h.2 c_14
        refine AW.ra_n (dc hd_G_steps1 85 rfl) rfl rfl rfl ?_
        refine AW.iload_n (dc hd_G_steps1 86 rfl) rfl ?_
        refine AW.iload_n (dc hd_G_steps1 87 rfl) rfl ?_
        refine AW.callV (As := [(0, v1), (0, v2)]) (rest := []) (ci := 10) (m_G_floorAt l E n C v0 v1 v2 _ h) cb_10_233 im_G_floorAt se_G_floorAt ⟨_, _, rfl⟩ (by decide) (dc hd_G_steps1 88 rfl) g_11 rfl rfl ⟨Nat.le_of_ble_eq_true rfl, Nat.le_of_ble_eq_true rfl⟩ ⟨(Nat.le_of_ble_eq_true rfl), (Nat.le_of_ble_eq_true rfl)⟩ (Nat.le_of_ble_eq_true rfl) (fun _ h => by cases h) (fun _ => rfl) (fun r_15 D_17 d_18 q_16 => ?_)
        obtain ⟨q_16a, q_16b, h⟩ := q_16
        subst D_17
        subst d_18
        show AW p l e _ s m args below meth c E M_G_steps1 true _ n _ _ _ [(2, v0), (0, v1), (0, v2), (0, v3)] [(0, r_15)] C
        refine AW.ra_n (dc hd_G_steps1 89 rfl) rfl rfl rfl ?_
        refine AW.iload_n (dc hd_G_steps1 90 rfl) rfl ?_
        refine AW.iconst (dc hd_G_steps1 91 rfl) (by decide) ?_
        refine AW.isub (dc hd_G_steps1 92 rfl) ?_
        refine AW.iload_n (dc hd_G_steps1 93 rfl) rfl ?_
        refine AW.callV (As := [(0, w32 (v1 - 1)), (0, v3)]) (rest := [(0, r_15)]) (ci := 10) (m_G_floorAt l E n C v0 (w32 (v1 - 1)) v3 _ h) cb_10_233 im_G_floorAt se_G_floorAt ⟨_, _, rfl⟩ (by decide) (dc hd_G_steps1 94 rfl) g_11 rfl rfl ⟨Nat.le_of_ble_eq_true rfl, Nat.le_of_ble_eq_true rfl⟩ ⟨(Nat.le_of_ble_eq_true rfl), (Nat.le_of_ble_eq_true rfl)⟩ (Nat.le_of_ble_eq_true rfl) (fun _ h => by cases h) (fun _ => rfl) (fun r_19 D_21 d_22 q_20 => ?_)
        obtain ⟨q_20a, q_20b, h⟩ := q_20
        subst D_21
        subst d_22
        show AW p l e _ s m args below meth c E M_G_steps1 true _ n _ _ _ [(2, v0), (0, v1), (0, v2), (0, v3)] [(0, r_19), (0, r_15)] C
        refine AW.icmp_eq (t := 171) (dc hd_G_steps1 95 rfl) (by decide) (fun c_23 => ?_) (fun c_23 => ?_)
        · have h := h.1 c_23
          exact aJ_G_steps1_171 n C v0 v1 v2 v3 k54 k64 k121 Q hk54 hk64 hk121 h
        · have h := h.2 c_23
          refine AW.ra_n (dc hd_G_steps1 96 rfl) rfl rfl rfl ?_
          refine AW.iload_n (dc hd_G_steps1 97 rfl) rfl ?_
          refine AW.iload_n (dc hd_G_steps1 98 rfl) rfl ?_
          refine AW.callV (As := [(0, v1), (0, v2)]) (rest := []) (ci := 10) (m_G_roofAt l E n C v0 v1 v2 _ h) cb_10_236 im_G_roofAt se_G_roofAt ⟨_, _, rfl⟩ (by decide) (dc hd_G_steps1 99 rfl) g_11 rfl rfl ⟨Nat.le_of_ble_eq_true rfl, Nat.le_of_ble_eq_true rfl⟩ ⟨(Nat.le_of_ble_eq_true rfl), (Nat.le_of_ble_eq_true rfl)⟩ (Nat.le_of_ble_eq_true rfl) (fun _ h => by cases h) (fun _ => rfl) (fun r_36 D_38 d_39 q_37 => ?_)
          obtain ⟨q_37a, q_37b, h⟩ := q_37
          subst D_38
          subst d_39
          show AW p l e _ s m args below meth c E M_G_steps1 true _ n _ _ _ [(2, v0), (0, v1), (0, v2), (0, v3)] [(0, r_36)] C
          refine AW.ra_n (dc hd_G_steps1 100 rfl) rfl rfl rfl ?_
          refine AW.iload_n (dc hd_G_steps1 101 rfl) rfl ?_
          refine AW.iconst (dc hd_G_steps1 102 rfl) (by decide) ?_
          refine AW.isub (dc hd_G_steps1 103 rfl) ?_
          refine AW.iload_n (dc hd_G_steps1 104 rfl) rfl ?_
          refine AW.callV (As := [(0, w32 (v1 - 1)), (0, v3)]) (rest := [(0, r_36)]) (ci := 10) (m_G_roofAt l E n C v0 (w32 (v1 - 1)) v3 _ h) cb_10_236 im_G_roofAt se_G_roofAt ⟨_, _, rfl⟩ (by decide) (dc hd_G_steps1 105 rfl) g_11 rfl rfl ⟨Nat.le_of_ble_eq_true rfl, Nat.le_of_ble_eq_true rfl⟩ ⟨(Nat.le_of_ble_eq_true rfl), (Nat.le_of_ble_eq_true rfl)⟩ (Nat.le_of_ble_eq_true rfl) (fun _ h => by cases h) (fun _ => rfl) (fun r_40 D_42 d_43 q_41 => ?_)
          obtain ⟨q_41a, q_41b, h⟩ := q_41
          subst D_42
          subst d_43
          show AW p l e _ s m args below meth c E M_G_steps1 true _ n _ _ _ [(2, v0), (0, v1), (0, v2), (0, v3)] [(0, r_40), (0, r_36)] C
          refine AW.icmp_ne (t := 194) (dc hd_G_steps1 106 rfl) (by decide) (fun c_44 => ?_) (fun c_44 => ?_)
          · have h := h.2 c_44
            refine AW.iinc [(2, v0), (0, v1), (0, v2), (0, w32 (v3 + 1))] (dc hd_G_steps1 124 rfl) rfl (Nat.le_of_ble_eq_true rfl) rfl rfl ?_
            refine AW.goto (t := 121) (dc hd_G_steps1 125 rfl) (by decide) ?_
            exact hk121 (C, w32 (v3 + 1)) h
          · have h := h.1 c_44
            exact aJ_G_steps1_171 n C v0 v1 v2 v3 k54 k64 k121 Q hk54 hk64 hk121 h
def B_G_steps1_64 (n : Nat) (v0 v1 : Int) (k54 : Cn × Int → Prop) (Q : Int → Cn → Prop) (k64 : Cn × Int → Prop) (z : Cn × Int) : Prop := match z with
  | (C, v2) => okO n v0 10 ∧ (okO n (PT v0.toNat 15) 12 ∧ (okI (PT v0.toNat 15) v1 ∧ ((C (PT v0.toNat 15).toNat v1.toNat < v2 → (k54 (C, w32 (v1 + 1)))) ∧ (¬ C (PT v0.toNat 15).toNat v1.toNat < v2 → ((v2 ≤ 0 → (∃ f_45 : Nat, lp (B_G_steps1_121 n v0 v1 v2 k54 k64 Q) f_45 (C, 0))) ∧ (¬ v2 ≤ 0 → (okO n (PT v0.toNat 17) 17 ∧ (okI (PT v0.toNat 17) v1 ∧ (okO n (PT (PT v0.toNat 17).toNat v1.toNat) 12 ∧ (okI (PT (PT v0.toNat 17).toNat v1.toNat) (w32 (v2 - 1)) ∧ (okI (PT (PT v0.toNat 17).toNat v1.toNat) v2 ∧ (okO n (PT v0.toNat 16) 17 ∧ (okI (PT v0.toNat 16) v1 ∧ (okO n (PT (PT v0.toNat 16).toNat v1.toNat) 12 ∧ (okI (PT (PT v0.toNat 16).toNat v1.toNat) (w32 (v2 - 1)) ∧ (okO n (PT v0.toNat 1) 17 ∧ (okI (PT v0.toNat 1) (C (PT (PT v0.toNat 16).toNat v1.toNat).toNat (w32 (v2 - 1)).toNat) ∧ (P_G_toll n C v0 (PT (PT v0.toNat 1).toNat (C (PT (PT v0.toNat 16).toNat v1.toNat).toNat (w32 (v2 - 1)).toNat).toNat) (fun (r_57 : Int) => P_G_mayGo n C v0 (C (PT (PT v0.toNat 17).toNat v1.toNat).toNat (w32 (v2 - 1)).toNat) (C (PT (PT v0.toNat 17).toNat v1.toNat).toNat v2.toNat) r_57 (fun (_ : Int) (C_61 : Cn) => ∃ f_65 : Nat, lp (B_G_steps1_121 n v0 v1 v2 k54 k64 Q) f_65 (C_61, 0)))))))))))))))))))))
theorem aB_G_steps1_64 (n : Nat) (v0 v1 : Int) (k54 : Cn × Int → Prop) (Q : Int → Cn → Prop) (hk54 : ∀ (Cz : Cn) (z1 : Int), k54 (Cz, z1) → AW p l e R s m args below meth c E M_G_steps1 true (fun r C2 n2 => n2 = n ∧ Q r C2) n 0 0 54 [(2, v0), (0, z1), (9, 0), (9, 0)] [] Cz) : ∀ (f : Nat) (z : Cn × Int), lp (B_G_steps1_64 n v0 v1 k54 Q) f z → AW p l e R s m args below meth c E M_G_steps1 true (fun r C2 n2 => n2 = n ∧ Q r C2) n 0 0 64 [(2, v0), (0, v1), (0, z.2), (9, 0)] [] (z.1) := by
  intro f
  induction f with
  | zero => intro z h; exact False.elim h
  | succ f ih =>
    intro z h
    obtain ⟨C, v2⟩ := z
    have h : B_G_steps1_64 n v0 v1 k54 Q (lp (B_G_steps1_64 n v0 v1 k54 Q) f) (C, v2) := h
    unfold B_G_steps1_64 at h
    dsimp only at h
    have hk64 : ∀ z : Cn × Int, lp (B_G_steps1_64 n v0 v1 k54 Q) f z → _ := ih
    refine AW.iload_n (dc hd_G_steps1 36 rfl) rfl ?_
    refine AW.ra_n (dc hd_G_steps1 37 rfl) rfl rfl rfl ?_
    obtain ⟨g_5, h⟩ := h
    refine AW.getp fl_10_40 (dc hd_G_steps1 38 rfl) g_5 rfl ?_
    refine AW.iload_n (dc hd_G_steps1 39 rfl) rfl ?_
    obtain ⟨g_6, h⟩ := h
    obtain ⟨g_7, h⟩ := h
    refine AW.iald (dc hd_G_steps1 40 rfl) g_6 g_7 ?_
    refine AW.icmp_gt (t := 206) (dc hd_G_steps1 41 rfl) (by decide) (fun c_8 => ?_) (fun c_8 => ?_)
    · have h := h.1 c_8
      refine AW.iinc [(2, v0), (0, w32 (v1 + 1)), (0, v2), (9, 0)] (dc hd_G_steps1 128 rfl) rfl (Nat.le_of_ble_eq_true rfl) rfl rfl ?_
      refine AW.goto (t := 54) (dc hd_G_steps1 129 rfl) (by decide) ?_
      refine AW.fgt [(2, v0), (0, w32 (v1 + 1)), (9, 0), (9, 0)] ⟨.inl rfl, .inl rfl, .inr rfl, .inl rfl, trivial⟩ ?_
      exact hk54 (C, w32 (v1 + 1)) h
    · have h := h.2 c_8
      refine AW.iload_n (dc hd_G_steps1 42 rfl) rfl ?_
      refine AW.if_le (t := 119) (dc hd_G_steps1 43 rfl) (by decide) (fun c_9 => ?_) (fun c_9 => ?_)
      · have h := h.1 c_9
        refine AW.iconst (dc hd_G_steps1 73 rfl) (by decide) ?_
        refine AW.istore_n [(2, v0), (0, v1), (0, v2), (0, 0)] (dc hd_G_steps1 74 rfl) (Nat.le_of_ble_eq_true rfl) rfl rfl ?_
        obtain ⟨f_45, h⟩ := h
        exact aB_G_steps1_121 n v0 v1 v2 k54 k64 Q hk54 hk64 f_45 (C, 0) h
      · have h := h.2 c_9
        refine AW.ra_n (dc hd_G_steps1 44 rfl) rfl rfl rfl ?_
        refine AW.ra_n (dc hd_G_steps1 45 rfl) rfl rfl rfl ?_
        refine AW.getp fl_10_46 (dc hd_G_steps1 46 rfl) g_5 rfl ?_
        refine AW.iload_n (dc hd_G_steps1 47 rfl) rfl ?_
        obtain ⟨g_46, h⟩ := h
        obtain ⟨g_47, h⟩ := h
        refine AW.aaldp (by decide) (dc hd_G_steps1 48 rfl) g_46 g_47 rfl ?_
        refine AW.iload_n (dc hd_G_steps1 49 rfl) rfl ?_
        refine AW.iconst (dc hd_G_steps1 50 rfl) (by decide) ?_
        refine AW.isub (dc hd_G_steps1 51 rfl) ?_
        obtain ⟨g_48, h⟩ := h
        obtain ⟨g_49, h⟩ := h
        refine AW.iald (dc hd_G_steps1 52 rfl) g_48 g_49 ?_
        refine AW.ra_n (dc hd_G_steps1 53 rfl) rfl rfl rfl ?_
        refine AW.getp fl_10_46 (dc hd_G_steps1 54 rfl) g_5 rfl ?_
        refine AW.iload_n (dc hd_G_steps1 55 rfl) rfl ?_
        refine AW.aaldp (by decide) (dc hd_G_steps1 56 rfl) g_46 g_47 rfl ?_
        refine AW.iload_n (dc hd_G_steps1 57 rfl) rfl ?_
        obtain ⟨g_50, h⟩ := h
        refine AW.iald (dc hd_G_steps1 58 rfl) g_48 g_50 ?_
        refine AW.ra_n (dc hd_G_steps1 59 rfl) rfl rfl rfl ?_
        refine AW.ra_n (dc hd_G_steps1 60 rfl) rfl rfl rfl ?_
        refine AW.getp fl_10_11 (dc hd_G_steps1 61 rfl) g_5 rfl ?_
        refine AW.ra_n (dc hd_G_steps1 62 rfl) rfl rfl rfl ?_
        refine AW.getp fl_10_43 (dc hd_G_steps1 63 rfl) g_5 rfl ?_
        refine AW.iload_n (dc hd_G_steps1 64 rfl) rfl ?_
        obtain ⟨g_51, h⟩ := h
        obtain ⟨g_52, h⟩ := h
        refine AW.aaldp (by decide) (dc hd_G_steps1 65 rfl) g_51 g_52 rfl ?_
        refine AW.iload_n (dc hd_G_steps1 66 rfl) rfl ?_
        refine AW.iconst (dc hd_G_steps1 67 rfl) (by decide) ?_
        refine AW.isub (dc hd_G_steps1 68 rfl) ?_
        obtain ⟨g_53, h⟩ := h
        obtain ⟨g_54, h⟩ := h
        refine AW.iald (dc hd_G_steps1 69 rfl) g_53 g_54 ?_
        obtain ⟨g_55, h⟩ := h
        obtain ⟨g_56, h⟩ := h
        refine AW.aaldp (by decide) (dc hd_G_steps1 70 rfl) g_55 g_56 rfl ?_
        refine AW.callV (As := [(2, PT (PT v0.toNat 1).toNat (C (PT (PT v0.toNat 16).toNat v1.toNat).toNat (w32 (v2 - 1)).toNat).toNat)]) (rest := [(0, C (PT (PT v0.toNat 17).toNat v1.toNat).toNat v2.toNat), (0, C (PT (PT v0.toNat 17).toNat v1.toNat).toNat (w32 (v2 - 1)).toNat), (2, v0)]) (ci := 10) (m_G_toll l E n C v0 (PT (PT v0.toNat 1).toNat (C (PT (PT v0.toNat 16).toNat v1.toNat).toNat (w32 (v2 - 1)).toNat).toNat) _ h) cb_10_207 im_G_toll se_G_toll ⟨_, _, rfl⟩ (by decide) (dc hd_G_steps1 71 rfl) g_5 rfl rfl ⟨Nat.le_of_ble_eq_true rfl, Nat.le_of_ble_eq_true rfl⟩ ⟨(Nat.le_of_ble_eq_true rfl), (Nat.le_of_ble_eq_true rfl)⟩ (Nat.le_of_ble_eq_true rfl) (fun _ h => by cases h) (fun _ => rfl) (fun r_57 D_59 d_60 q_58 => ?_)
        obtain ⟨q_58a, q_58b, h⟩ := q_58
        subst D_59
        subst d_60
        show AW p l e _ s m args below meth c E M_G_steps1 true _ n _ _ _ [(2, v0), (0, v1), (0, v2), (9, 0)] [(0, r_57), (0, C (PT (PT v0.toNat 17).toNat v1.toNat).toNat v2.toNat), (0, C (PT (PT v0.toNat 17).toNat v1.toNat).toNat (w32 (v2 - 1)).toNat), (2, v0)] C
        refine AW.callV (As := [(0, C (PT (PT v0.toNat 17).toNat v1.toNat).toNat (w32 (v2 - 1)).toNat), (0, C (PT (PT v0.toNat 17).toNat v1.toNat).toNat v2.toNat), (0, r_57)]) (rest := []) (ci := 10) (m_G_mayGo l E n C v0 (C (PT (PT v0.toNat 17).toNat v1.toNat).toNat (w32 (v2 - 1)).toNat) (C (PT (PT v0.toNat 17).toNat v1.toNat).toNat v2.toNat) r_57 _ h) cb_10_340 im_G_mayGo se_G_mayGo ⟨_, _, rfl⟩ (by decide) (dc hd_G_steps1 72 rfl) g_5 rfl rfl ⟨Nat.le_of_ble_eq_true rfl, Nat.le_of_ble_eq_true rfl⟩ ⟨(Nat.le_of_ble_eq_true rfl), (Nat.le_of_ble_eq_true rfl)⟩ (Nat.le_of_ble_eq_true rfl) (fun _ h => by cases h) (fun _ => rfl) (fun u_63 C_61 d_64 q_62 => ?_)
        obtain ⟨q_62a, h⟩ := q_62
        subst d_64
        show AW p l e _ s m args below meth c E M_G_steps1 true _ n _ _ _ [(2, v0), (0, v1), (0, v2), (9, 0)] [] C_61
        refine AW.iconst (dc hd_G_steps1 73 rfl) (by decide) ?_
        refine AW.istore_n [(2, v0), (0, v1), (0, v2), (0, 0)] (dc hd_G_steps1 74 rfl) (Nat.le_of_ble_eq_true rfl) rfl rfl ?_
        obtain ⟨f_65, h⟩ := h
        exact aB_G_steps1_121 n v0 v1 v2 k54 k64 Q hk54 hk64 f_65 (C_61, 0) h
def B_G_steps1_54 (n : Nat) (v0 : Int) (Q : Int → Cn → Prop) (k54 : Cn × Int → Prop) (z : Cn × Int) : Prop := match z with
  | (C, v1) => okO n v0 10 ∧ ((C v0.toNat 10 < v1 → (Q 0 C)) ∧ (¬ C v0.toNat 10 < v1 → (∃ f_66 : Nat, lp (B_G_steps1_64 n v0 v1 k54 Q) f_66 (C, 0))))
theorem aB_G_steps1_54 (n : Nat) (v0 : Int) (Q : Int → Cn → Prop) : ∀ (f : Nat) (z : Cn × Int), lp (B_G_steps1_54 n v0 Q) f z → AW p l e R s m args below meth c E M_G_steps1 true (fun r C2 n2 => n2 = n ∧ Q r C2) n 0 0 54 [(2, v0), (0, z.2), (9, 0), (9, 0)] [] (z.1) := by
  intro f
  induction f with
  | zero => intro z h; exact False.elim h
  | succ f ih =>
    intro z h
    obtain ⟨C, v1⟩ := z
    have h : B_G_steps1_54 n v0 Q (lp (B_G_steps1_54 n v0 Q) f) (C, v1) := h
    unfold B_G_steps1_54 at h
    dsimp only at h
    have hk54 : ∀ z : Cn × Int, lp (B_G_steps1_54 n v0 Q) f z → _ := ih
    refine AW.iload_n (dc hd_G_steps1 30 rfl) rfl ?_
    refine AW.ra_n (dc hd_G_steps1 31 rfl) rfl rfl rfl ?_
    obtain ⟨g_3, h⟩ := h
    refine AW.getf fl_10_221 (dc hd_G_steps1 32 rfl) g_3 ?_
    refine AW.icmp_gt (t := 212) (dc hd_G_steps1 33 rfl) (by decide) (fun c_4 => ?_) (fun c_4 => ?_)
    · have h := h.1 c_4
      exact AW.vret (dc hd_G_steps1 130 rfl) rfl rfl (Nat.le_of_ble_eq_true rfl) (Nat.le_of_ble_eq_true rfl) ⟨rfl, h⟩
    · have h := h.2 c_4
      refine AW.iconst (dc hd_G_steps1 34 rfl) (by decide) ?_
      refine AW.istore_n [(2, v0), (0, v1), (0, 0), (9, 0)] (dc hd_G_steps1 35 rfl) (Nat.le_of_ble_eq_true rfl) rfl rfl ?_
      obtain ⟨f_66, h⟩ := h
      exact aB_G_steps1_64 n v0 v1 k54 Q hk54 f_66 (C, 0) h
def B_G_steps1_12 (n : Nat) (v0 v1 : Int) (k2 : Cn × Int → Prop) (Q : Int → Cn → Prop) (k12 : Cn × Int → Prop) (z : Cn × Int) : Prop := match z with
  | (C, v2) => okO n v0 10 ∧ ((C v0.toNat 18 ≤ v2 → (k2 (C, w32 (v1 + 1)))) ∧ (¬ C v0.toNat 18 ≤ v2 → (okO n (PT v0.toNat 32) 17 ∧ (okI (PT v0.toNat 32) v1 ∧ ((v1 = v2 → (okO n (PT (PT v0.toNat 32).toNat v1.toNat) 12 ∧ (okI (PT (PT v0.toNat 32).toNat v1.toNat) v2 ∧ (∀ C_78 : Cn, C_78 = wr C (PT (PT v0.toNat 32).toNat v1.toNat).toNat v2.toNat 0 → (k12 (C_78, w32 (v2 + 1))))))) ∧ (¬ v1 = v2 → (okO n (PT (PT v0.toNat 32).toNat v1.toNat) 12 ∧ (okI (PT (PT v0.toNat 32).toNat v1.toNat) v2 ∧ (∀ C_75 : Cn, C_75 = wr C (PT (PT v0.toNat 32).toNat v1.toNat).toNat v2.toNat 1000000 → (k12 (C_75, w32 (v2 + 1))))))))))))
theorem aB_G_steps1_12 (n : Nat) (v0 v1 : Int) (k2 : Cn × Int → Prop) (Q : Int → Cn → Prop) (hk2 : ∀ (Cz : Cn) (z1 : Int), k2 (Cz, z1) → AW p l e R s m args below meth c E M_G_steps1 true (fun r C2 n2 => n2 = n ∧ Q r C2) n 0 0 2 [(2, v0), (0, z1), (9, 0), (9, 0)] [] Cz) : ∀ (f : Nat) (z : Cn × Int), lp (B_G_steps1_12 n v0 v1 k2 Q) f z → AW p l e R s m args below meth c E M_G_steps1 true (fun r C2 n2 => n2 = n ∧ Q r C2) n 0 0 12 [(2, v0), (0, v1), (0, z.2), (9, 0)] [] (z.1) := by
  intro f
  induction f with
  | zero => intro z h; exact False.elim h
  | succ f ih =>
    intro z h
    obtain ⟨C, v2⟩ := z
    have h : B_G_steps1_12 n v0 v1 k2 Q (lp (B_G_steps1_12 n v0 v1 k2 Q) f) (C, v2) := h
    unfold B_G_steps1_12 at h
    dsimp only at h
    have hk12 : ∀ z : Cn × Int, lp (B_G_steps1_12 n v0 v1 k2 Q) f z → _ := ih
    refine AW.iload_n (dc hd_G_steps1 8 rfl) rfl ?_
    refine AW.ra_n (dc hd_G_steps1 9 rfl) rfl rfl rfl ?_
    obtain ⟨g_68, h⟩ := h
    refine AW.getf fl_10_214 (dc hd_G_steps1 10 rfl) g_68 ?_
    refine AW.icmp_ge (t := 46) (dc hd_G_steps1 11 rfl) (by decide) (fun c_69 => ?_) (fun c_69 => ?_)
    · have h := h.1 c_69
      refine AW.iinc [(2, v0), (0, w32 (v1 + 1)), (0, v2), (9, 0)] (dc hd_G_steps1 26 rfl) rfl (Nat.le_of_ble_eq_true rfl) rfl rfl ?_
      refine AW.goto (t := 2) (dc hd_G_steps1 27 rfl) (by decide) ?_
      refine AW.fgt [(2, v0), (0, w32 (v1 + 1)), (9, 0), (9, 0)] ⟨.inl rfl, .inl rfl, .inr rfl, .inl rfl, trivial⟩ ?_
      exact hk2 (C, w32 (v1 + 1)) h
    · have h := h.2 c_69
      refine AW.ra_n (dc hd_G_steps1 12 rfl) rfl rfl rfl ?_
      refine AW.getp fl_10_70 (dc hd_G_steps1 13 rfl) g_68 rfl ?_
      refine AW.iload_n (dc hd_G_steps1 14 rfl) rfl ?_
      obtain ⟨g_70, h⟩ := h
      obtain ⟨g_71, h⟩ := h
      refine AW.aaldp (by decide) (dc hd_G_steps1 15 rfl) g_70 g_71 rfl ?_
      refine AW.iload_n (dc hd_G_steps1 16 rfl) rfl ?_
      refine AW.iload_n (dc hd_G_steps1 17 rfl) rfl ?_
      refine AW.iload_n (dc hd_G_steps1 18 rfl) rfl ?_
      refine AW.icmp_ne (t := 36) (dc hd_G_steps1 19 rfl) (by decide) (fun c_72 => ?_) (fun c_72 => ?_)
      · have h := h.2 c_72
        refine AW.ldc_w (v := 1000000) (dc hd_G_steps1 22 rfl) ck_10_339 (by decide) rfl ?_
        obtain ⟨g_73, h⟩ := h
        obtain ⟨g_74, h⟩ := h
        refine AW.niast (dc hd_G_steps1 23 rfl) g_73 g_74 (fun C_75 eC_75 => ?_)
        have h := h C_75 eC_75
        refine AW.iinc [(2, v0), (0, v1), (0, w32 (v2 + 1)), (9, 0)] (dc hd_G_steps1 24 rfl) rfl (Nat.le_of_ble_eq_true rfl) rfl rfl ?_
        refine AW.goto (t := 12) (dc hd_G_steps1 25 rfl) (by decide) ?_
        exact hk12 (C_75, w32 (v2 + 1)) h
      · have h := h.1 c_72
        refine AW.iconst (dc hd_G_steps1 20 rfl) (by decide) ?_
        refine AW.goto (t := 39) (dc hd_G_steps1 21 rfl) (by decide) ?_
        obtain ⟨g_76, h⟩ := h
        obtain ⟨g_77, h⟩ := h
        refine AW.niast (dc hd_G_steps1 23 rfl) g_76 g_77 (fun C_78 eC_78 => ?_)
        have h := h C_78 eC_78
        refine AW.iinc [(2, v0), (0, v1), (0, w32 (v2 + 1)), (9, 0)] (dc hd_G_steps1 24 rfl) rfl (Nat.le_of_ble_eq_true rfl) rfl rfl ?_
        refine AW.goto (t := 12) (dc hd_G_steps1 25 rfl) (by decide) ?_
        exact hk12 (C_78, w32 (v2 + 1)) h
def B_G_steps1_2 (n : Nat) (v0 : Int) (Q : Int → Cn → Prop) (k2 : Cn × Int → Prop) (z : Cn × Int) : Prop := match z with
  | (C, v1) => okO n v0 10 ∧ ((C v0.toNat 18 ≤ v1 → (∃ f_67 : Nat, lp (B_G_steps1_54 n v0 Q) f_67 (C, 0))) ∧ (¬ C v0.toNat 18 ≤ v1 → (∃ f_79 : Nat, lp (B_G_steps1_12 n v0 v1 k2 Q) f_79 (C, 0))))
theorem aB_G_steps1_2 (n : Nat) (v0 : Int) (Q : Int → Cn → Prop) : ∀ (f : Nat) (z : Cn × Int), lp (B_G_steps1_2 n v0 Q) f z → AW p l e R s m args below meth c E M_G_steps1 true (fun r C2 n2 => n2 = n ∧ Q r C2) n 0 0 2 [(2, v0), (0, z.2), (9, 0), (9, 0)] [] (z.1) := by
  intro f
  induction f with
  | zero => intro z h; exact False.elim h
  | succ f ih =>
    intro z h
    obtain ⟨C, v1⟩ := z
    have h : B_G_steps1_2 n v0 Q (lp (B_G_steps1_2 n v0 Q) f) (C, v1) := h
    unfold B_G_steps1_2 at h
    dsimp only at h
    have hk2 : ∀ z : Cn × Int, lp (B_G_steps1_2 n v0 Q) f z → _ := ih
    refine AW.iload_n (dc hd_G_steps1 2 rfl) rfl ?_
    refine AW.ra_n (dc hd_G_steps1 3 rfl) rfl rfl rfl ?_
    obtain ⟨g_1, h⟩ := h
    refine AW.getf fl_10_214 (dc hd_G_steps1 4 rfl) g_1 ?_
    refine AW.icmp_ge (t := 52) (dc hd_G_steps1 5 rfl) (by decide) (fun c_2 => ?_) (fun c_2 => ?_)
    · have h := h.1 c_2
      refine AW.iconst (dc hd_G_steps1 28 rfl) (by decide) ?_
      refine AW.istore_n [(2, v0), (0, 0), (9, 0), (9, 0)] (dc hd_G_steps1 29 rfl) (Nat.le_of_ble_eq_true rfl) rfl rfl ?_
      obtain ⟨f_67, h⟩ := h
      exact aB_G_steps1_54 n v0 Q f_67 (C, 0) h
    · have h := h.2 c_2
      refine AW.iconst (dc hd_G_steps1 6 rfl) (by decide) ?_
      refine AW.istore_n [(2, v0), (0, v1), (0, 0), (9, 0)] (dc hd_G_steps1 7 rfl) (Nat.le_of_ble_eq_true rfl) rfl rfl ?_
      obtain ⟨f_79, h⟩ := h
      exact aB_G_steps1_12 n v0 v1 k2 Q hk2 f_79 (C, 0) h
def P_G_steps1 (n : Nat) (C : Cn) (v0 : Int) (Q : Int → Cn → Prop) : Prop :=
  ∃ f_80 : Nat, lp (B_G_steps1_2 n v0 Q) f_80 (C, 0)
theorem m_G_steps1 (l : Launch) (E : Ev) (n : Nat) (C : Cn) (v0 : Int) (Q : Int → Cn → Prop) (h : P_G_steps1 n C v0 Q) : MA l y_G_steps1 M_G_steps1 E true C n [(2, v0)] (fun r C2 n2 => n2 = n ∧ Q r C2) := by
  refine MA.of (by decide) rfl rfl 3 rfl (fun p e s m args below meth c => ?_)
  show AW p l e _ s m args below meth c E M_G_steps1 true _ n 0 0 0 [(2, v0), (9, 0), (9, 0), (9, 0)] [] C
  unfold P_G_steps1 at h
  refine AW.iconst (dc hd_G_steps1 0 rfl) (by decide) ?_
  refine AW.istore_n [(2, v0), (0, 0), (9, 0), (9, 0)] (dc hd_G_steps1 1 rfl) (Nat.le_of_ble_eq_true rfl) rfl rfl ?_
  obtain ⟨f_80, h⟩ := h
  exact aB_G_steps1_2 n v0 Q f_80 (C, 0) h
def B_G_costs_78 (n : Nat) (v0 v1 v2 : Int) (k58 : Cn × Int → Prop) (k68 : Cn × Int → Prop) (Q : Int → Cn → Prop) (k78 : Cn × Int → Prop) (z : Cn × Int) : Prop := match z with
  | (C, v3) => okO n v0 10 ∧ ((C v0.toNat 18 ≤ v3 → (k68 (C, w32 (v2 + 1)))) ∧ (¬ C v0.toNat 18 ≤ v3 → (okO n (PT v0.toNat 32) 17 ∧ (okI (PT v0.toNat 32) v2 ∧ (okO n (PT (PT v0.toNat 32).toNat v2.toNat) 12 ∧ (okI (PT (PT v0.toNat 32).toNat v2.toNat) v3 ∧ (okI (PT (PT v0.toNat 32).toNat v2.toNat) v1 ∧ (okI (PT v0.toNat 32) v1 ∧ (okO n (PT (PT v0.toNat 32).toNat v1.toNat) 12 ∧ (okI (PT (PT v0.toNat 32).toNat v1.toNat) v3 ∧ (∀ C_26 : Cn, C_26 = wr C (PT (PT v0.toNat 32).toNat v2.toNat).toNat v3.toNat (imin (C (PT (PT v0.toNat 32).toNat v2.toNat).toNat v3.toNat) (w32 (C (PT (PT v0.toNat 32).toNat v2.toNat).toNat v1.toNat + C (PT (PT v0.toNat 32).toNat v1.toNat).toNat v3.toNat))) → (k78 (C_26, w32 (v3 + 1))))))))))))))
theorem aB_G_costs_78 (n : Nat) (v0 v1 v2 : Int) (k58 : Cn × Int → Prop) (k68 : Cn × Int → Prop) (Q : Int → Cn → Prop) (hk58 : ∀ (Cz : Cn) (z1 : Int), k58 (Cz, z1) → AW p l e R s m args below meth c E M_G_costs true (fun r C2 n2 => n2 = n ∧ Q r C2) n 0 0 58 [(2, v0), (0, z1), (9, 0), (9, 0)] [] Cz) (hk68 : ∀ (Cz : Cn) (z2 : Int), k68 (Cz, z2) → AW p l e R s m args below meth c E M_G_costs true (fun r C2 n2 => n2 = n ∧ Q r C2) n 0 0 68 [(2, v0), (0, v1), (0, z2), (9, 0)] [] Cz) : ∀ (f : Nat) (z : Cn × Int), lp (B_G_costs_78 n v0 v1 v2 k58 k68 Q) f z → AW p l e R s m args below meth c E M_G_costs true (fun r C2 n2 => n2 = n ∧ Q r C2) n 0 0 78 [(2, v0), (0, v1), (0, v2), (0, z.2)] [] (z.1) := by
  intro f
  induction f with
  | zero => intro z h; exact False.elim h
  | succ f ih =>
    intro z h
    obtain ⟨C, v3⟩ := z
    have h : B_G_costs_78 n v0 v1 v2 k58 k68 Q (lp (B_G_costs_78 n v0 v1 v2 k58 k68 Q) f) (C, v3) := h
    unfold B_G_costs_78 at h
    dsimp only at h
    have hk78 : ∀ z : Cn × Int, lp (B_G_costs_78 n v0 v1 v2 k58 k68 Q) f z → _ := ih
    refine AW.iload_n (dc hd_G_costs 46 rfl) rfl ?_
    refine AW.ra_n (dc hd_G_costs 47 rfl) rfl rfl rfl ?_
    obtain ⟨g_16, h⟩ := h
    refine AW.getf fl_10_214 (dc hd_G_costs 48 rfl) g_16 ?_
    refine AW.icmp_ge (t := 128) (dc hd_G_costs 49 rfl) (by decide) (fun c_17 => ?_) (fun c_17 => ?_)
    · have h := h.1 c_17
      refine AW.iinc [(2, v0), (0, v1), (0, w32 (v2 + 1)), (0, v3)] (dc hd_G_costs 78 rfl) rfl (Nat.le_of_ble_eq_true rfl) rfl rfl ?_
      refine AW.goto (t := 68) (dc hd_G_costs 79 rfl) (by decide) ?_
      refine AW.fgt [(2, v0), (0, v1), (0, w32 (v2 + 1)), (9, 0)] ⟨.inl rfl, .inl rfl, .inl rfl, .inr rfl, trivial⟩ ?_
      exact hk68 (C, w32 (v2 + 1)) h
    · have h := h.2 c_17
      refine AW.ra_n (dc hd_G_costs 50 rfl) rfl rfl rfl ?_
      refine AW.getp fl_10_70 (dc hd_G_costs 51 rfl) g_16 rfl ?_
      refine AW.iload_n (dc hd_G_costs 52 rfl) rfl ?_
      obtain ⟨g_18, h⟩ := h
      obtain ⟨g_19, h⟩ := h
      refine AW.aaldp (by decide) (dc hd_G_costs 53 rfl) g_18 g_19 rfl ?_
      refine AW.iload_n (dc hd_G_costs 54 rfl) rfl ?_
      refine AW.ra_n (dc hd_G_costs 55 rfl) rfl rfl rfl ?_
      refine AW.getp fl_10_70 (dc hd_G_costs 56 rfl) g_16 rfl ?_
      refine AW.iload_n (dc hd_G_costs 57 rfl) rfl ?_
      refine AW.aaldp (by decide) (dc hd_G_costs 58 rfl) g_18 g_19 rfl ?_
      refine AW.iload_n (dc hd_G_costs 59 rfl) rfl ?_
      obtain ⟨g_20, h⟩ := h
      obtain ⟨g_21, h⟩ := h
      refine AW.iald (dc hd_G_costs 60 rfl) g_20 g_21 ?_
      refine AW.ra_n (dc hd_G_costs 61 rfl) rfl rfl rfl ?_
      refine AW.getp fl_10_70 (dc hd_G_costs 62 rfl) g_16 rfl ?_
      refine AW.iload_n (dc hd_G_costs 63 rfl) rfl ?_
      refine AW.aaldp (by decide) (dc hd_G_costs 64 rfl) g_18 g_19 rfl ?_
      refine AW.iload_n (dc hd_G_costs 65 rfl) rfl ?_
      obtain ⟨g_22, h⟩ := h
      refine AW.iald (dc hd_G_costs 66 rfl) g_20 g_22 ?_
      refine AW.ra_n (dc hd_G_costs 67 rfl) rfl rfl rfl ?_
      refine AW.getp fl_10_70 (dc hd_G_costs 68 rfl) g_16 rfl ?_
      refine AW.iload_n (dc hd_G_costs 69 rfl) rfl ?_
      obtain ⟨g_23, h⟩ := h
      refine AW.aaldp (by decide) (dc hd_G_costs 70 rfl) g_18 g_23 rfl ?_
      refine AW.iload_n (dc hd_G_costs 71 rfl) rfl ?_
      obtain ⟨g_24, h⟩ := h
      obtain ⟨g_25, h⟩ := h
      refine AW.iald (dc hd_G_costs 72 rfl) g_24 g_25 ?_
      refine AW.iadd (dc hd_G_costs 73 rfl) ?_
      refine AW.mmmin (dc hd_G_costs 74 rfl) mt_10_346 (Nat.le_of_ble_eq_true rfl) (Nat.le_of_ble_eq_true rfl) (Nat.le_of_ble_eq_true rfl) (Nat.le_of_ble_eq_true rfl) (Nat.le_of_ble_eq_true rfl) ?_
      refine AW.niast (dc hd_G_costs 75 rfl) g_20 g_21 (fun C_26 eC_26 => ?_)
      have h := h C_26 eC_26
      refine AW.iinc [(2, v0), (0, v1), (0, v2), (0, w32 (v3 + 1))] (dc hd_G_costs 76 rfl) rfl (Nat.le_of_ble_eq_true rfl) rfl rfl ?_
      refine AW.goto (t := 78) (dc hd_G_costs 77 rfl) (by decide) ?_
      exact hk78 (C_26, w32 (v3 + 1)) h
def B_G_costs_68 (n : Nat) (v0 v1 : Int) (k58 : Cn × Int → Prop) (Q : Int → Cn → Prop) (k68 : Cn × Int → Prop) (z : Cn × Int) : Prop := match z with
  | (C, v2) => okO n v0 10 ∧ ((C v0.toNat 18 ≤ v2 → (k58 (C, w32 (v1 + 1)))) ∧ (¬ C v0.toNat 18 ≤ v2 → (∃ f_27 : Nat, lp (B_G_costs_78 n v0 v1 v2 k58 k68 Q) f_27 (C, 0))))
theorem aB_G_costs_68 (n : Nat) (v0 v1 : Int) (k58 : Cn × Int → Prop) (Q : Int → Cn → Prop) (hk58 : ∀ (Cz : Cn) (z1 : Int), k58 (Cz, z1) → AW p l e R s m args below meth c E M_G_costs true (fun r C2 n2 => n2 = n ∧ Q r C2) n 0 0 58 [(2, v0), (0, z1), (9, 0), (9, 0)] [] Cz) : ∀ (f : Nat) (z : Cn × Int), lp (B_G_costs_68 n v0 v1 k58 Q) f z → AW p l e R s m args below meth c E M_G_costs true (fun r C2 n2 => n2 = n ∧ Q r C2) n 0 0 68 [(2, v0), (0, v1), (0, z.2), (9, 0)] [] (z.1) := by
  intro f
  induction f with
  | zero => intro z h; exact False.elim h
  | succ f ih =>
    intro z h
    obtain ⟨C, v2⟩ := z
    have h : B_G_costs_68 n v0 v1 k58 Q (lp (B_G_costs_68 n v0 v1 k58 Q) f) (C, v2) := h
    unfold B_G_costs_68 at h
    dsimp only at h
    have hk68 : ∀ z : Cn × Int, lp (B_G_costs_68 n v0 v1 k58 Q) f z → _ := ih
    refine AW.iload_n (dc hd_G_costs 40 rfl) rfl ?_
    refine AW.ra_n (dc hd_G_costs 41 rfl) rfl rfl rfl ?_
    obtain ⟨g_14, h⟩ := h
    refine AW.getf fl_10_214 (dc hd_G_costs 42 rfl) g_14 ?_
    refine AW.icmp_ge (t := 134) (dc hd_G_costs 43 rfl) (by decide) (fun c_15 => ?_) (fun c_15 => ?_)
    · have h := h.1 c_15
      refine AW.iinc [(2, v0), (0, w32 (v1 + 1)), (0, v2), (9, 0)] (dc hd_G_costs 80 rfl) rfl (Nat.le_of_ble_eq_true rfl) rfl rfl ?_
      refine AW.goto (t := 58) (dc hd_G_costs 81 rfl) (by decide) ?_
      refine AW.fgt [(2, v0), (0, w32 (v1 + 1)), (9, 0), (9, 0)] ⟨.inl rfl, .inl rfl, .inr rfl, .inl rfl, trivial⟩ ?_
      exact hk58 (C, w32 (v1 + 1)) h
    · have h := h.2 c_15
      refine AW.iconst (dc hd_G_costs 44 rfl) (by decide) ?_
      refine AW.istore_n [(2, v0), (0, v1), (0, v2), (0, 0)] (dc hd_G_costs 45 rfl) (Nat.le_of_ble_eq_true rfl) rfl rfl ?_
      obtain ⟨f_27, h⟩ := h
      exact aB_G_costs_78 n v0 v1 v2 k58 k68 Q hk58 hk68 f_27 (C, 0) h
def B_G_costs_58 (n : Nat) (v0 : Int) (Q : Int → Cn → Prop) (k58 : Cn × Int → Prop) (z : Cn × Int) : Prop := match z with
  | (C, v1) => okO n v0 10 ∧ ((C v0.toNat 18 ≤ v1 → (Q 0 C)) ∧ (¬ C v0.toNat 18 ≤ v1 → (∃ f_28 : Nat, lp (B_G_costs_68 n v0 v1 k58 Q) f_28 (C, 0))))
theorem aB_G_costs_58 (n : Nat) (v0 : Int) (Q : Int → Cn → Prop) : ∀ (f : Nat) (z : Cn × Int), lp (B_G_costs_58 n v0 Q) f z → AW p l e R s m args below meth c E M_G_costs true (fun r C2 n2 => n2 = n ∧ Q r C2) n 0 0 58 [(2, v0), (0, z.2), (9, 0), (9, 0)] [] (z.1) := by
  intro f
  induction f with
  | zero => intro z h; exact False.elim h
  | succ f ih =>
    intro z h
    obtain ⟨C, v1⟩ := z
    have h : B_G_costs_58 n v0 Q (lp (B_G_costs_58 n v0 Q) f) (C, v1) := h
    unfold B_G_costs_58 at h
    dsimp only at h
    have hk58 : ∀ z : Cn × Int, lp (B_G_costs_58 n v0 Q) f z → _ := ih
    refine AW.iload_n (dc hd_G_costs 34 rfl) rfl ?_
    refine AW.ra_n (dc hd_G_costs 35 rfl) rfl rfl rfl ?_
    obtain ⟨g_12, h⟩ := h
    refine AW.getf fl_10_214 (dc hd_G_costs 36 rfl) g_12 ?_
    refine AW.icmp_ge (t := 140) (dc hd_G_costs 37 rfl) (by decide) (fun c_13 => ?_) (fun c_13 => ?_)
    · have h := h.1 c_13
      exact AW.vret (dc hd_G_costs 82 rfl) rfl rfl (Nat.le_of_ble_eq_true rfl) (Nat.le_of_ble_eq_true rfl) ⟨rfl, h⟩
    · have h := h.2 c_13
      refine AW.iconst (dc hd_G_costs 38 rfl) (by decide) ?_
      refine AW.istore_n [(2, v0), (0, v1), (0, 0), (9, 0)] (dc hd_G_costs 39 rfl) (Nat.le_of_ble_eq_true rfl) rfl rfl ?_
      obtain ⟨f_28, h⟩ := h
      exact aB_G_costs_68 n v0 v1 k58 Q hk58 f_28 (C, 0) h
def B_G_costs_20 (n : Nat) (v0 v1 : Int) (k10 : Cn × Int → Prop) (Q : Int → Cn → Prop) (k20 : Cn × Int → Prop) (z : Cn × Int) : Prop := match z with
  | (C, v2) => okO n v0 10 ∧ ((C v0.toNat 18 ≤ v2 → (k10 (C, w32 (v1 + 1)))) ∧ (¬ C v0.toNat 18 ≤ v2 → (okO n (PT v0.toNat 33) 17 ∧ (okI (PT v0.toNat 33) v1 ∧ (okO n (PT v0.toNat 32) 17 ∧ (okI (PT v0.toNat 32) v1 ∧ (okO n (PT (PT v0.toNat 32).toNat v1.toNat) 12 ∧ (okI (PT (PT v0.toNat 32).toNat v1.toNat) v2 ∧ (okO n (PT (PT v0.toNat 33).toNat v1.toNat) 12 ∧ (okI (PT (PT v0.toNat 33).toNat v1.toNat) v2 ∧ (∀ C_40 : Cn, C_40 = wr C (PT (PT v0.toNat 33).toNat v1.toNat).toNat v2.toNat (C (PT (PT v0.toNat 32).toNat v1.toNat).toNat v2.toNat) → (k20 (C_40, w32 (v2 + 1))))))))))))))
theorem aB_G_costs_20 (n : Nat) (v0 v1 : Int) (k10 : Cn × Int → Prop) (Q : Int → Cn → Prop) (hk10 : ∀ (Cz : Cn) (z1 : Int), k10 (Cz, z1) → AW p l e R s m args below meth c E M_G_costs true (fun r C2 n2 => n2 = n ∧ Q r C2) n 0 0 10 [(2, v0), (0, z1), (9, 0), (9, 0)] [] Cz) : ∀ (f : Nat) (z : Cn × Int), lp (B_G_costs_20 n v0 v1 k10 Q) f z → AW p l e R s m args below meth c E M_G_costs true (fun r C2 n2 => n2 = n ∧ Q r C2) n 0 0 20 [(2, v0), (0, v1), (0, z.2), (9, 0)] [] (z.1) := by
  intro f
  induction f with
  | zero => intro z h; exact False.elim h
  | succ f ih =>
    intro z h
    obtain ⟨C, v2⟩ := z
    have h : B_G_costs_20 n v0 v1 k10 Q (lp (B_G_costs_20 n v0 v1 k10 Q) f) (C, v2) := h
    unfold B_G_costs_20 at h
    dsimp only at h
    have hk20 : ∀ z : Cn × Int, lp (B_G_costs_20 n v0 v1 k10 Q) f z → _ := ih
    refine AW.iload_n (dc hd_G_costs 12 rfl) rfl ?_
    refine AW.ra_n (dc hd_G_costs 13 rfl) rfl rfl rfl ?_
    obtain ⟨g_30, h⟩ := h
    refine AW.getf fl_10_214 (dc hd_G_costs 14 rfl) g_30 ?_
    refine AW.icmp_ge (t := 50) (dc hd_G_costs 15 rfl) (by decide) (fun c_31 => ?_) (fun c_31 => ?_)
    · have h := h.1 c_31
      refine AW.iinc [(2, v0), (0, w32 (v1 + 1)), (0, v2), (9, 0)] (dc hd_G_costs 30 rfl) rfl (Nat.le_of_ble_eq_true rfl) rfl rfl ?_
      refine AW.goto (t := 10) (dc hd_G_costs 31 rfl) (by decide) ?_
      refine AW.fgt [(2, v0), (0, w32 (v1 + 1)), (9, 0), (9, 0)] ⟨.inl rfl, .inl rfl, .inr rfl, .inl rfl, trivial⟩ ?_
      exact hk10 (C, w32 (v1 + 1)) h
    · have h := h.2 c_31
      refine AW.ra_n (dc hd_G_costs 16 rfl) rfl rfl rfl ?_
      refine AW.getp fl_10_73 (dc hd_G_costs 17 rfl) g_30 rfl ?_
      refine AW.iload_n (dc hd_G_costs 18 rfl) rfl ?_
      obtain ⟨g_32, h⟩ := h
      obtain ⟨g_33, h⟩ := h
      refine AW.aaldp (by decide) (dc hd_G_costs 19 rfl) g_32 g_33 rfl ?_
      refine AW.iload_n (dc hd_G_costs 20 rfl) rfl ?_
      refine AW.ra_n (dc hd_G_costs 21 rfl) rfl rfl rfl ?_
      refine AW.getp fl_10_70 (dc hd_G_costs 22 rfl) g_30 rfl ?_
      refine AW.iload_n (dc hd_G_costs 23 rfl) rfl ?_
      obtain ⟨g_34, h⟩ := h
      obtain ⟨g_35, h⟩ := h
      refine AW.aaldp (by decide) (dc hd_G_costs 24 rfl) g_34 g_35 rfl ?_
      refine AW.iload_n (dc hd_G_costs 25 rfl) rfl ?_
      obtain ⟨g_36, h⟩ := h
      obtain ⟨g_37, h⟩ := h
      refine AW.iald (dc hd_G_costs 26 rfl) g_36 g_37 ?_
      obtain ⟨g_38, h⟩ := h
      obtain ⟨g_39, h⟩ := h
      refine AW.niast (dc hd_G_costs 27 rfl) g_38 g_39 (fun C_40 eC_40 => ?_)
      have h := h C_40 eC_40
      refine AW.iinc [(2, v0), (0, v1), (0, w32 (v2 + 1)), (9, 0)] (dc hd_G_costs 28 rfl) rfl (Nat.le_of_ble_eq_true rfl) rfl rfl ?_
      refine AW.goto (t := 20) (dc hd_G_costs 29 rfl) (by decide) ?_
      exact hk20 (C_40, w32 (v2 + 1)) h
def B_G_costs_10 (n : Nat) (v0 : Int) (Q : Int → Cn → Prop) (k10 : Cn × Int → Prop) (z : Cn × Int) : Prop := match z with
  | (C, v1) => okO n v0 10 ∧ ((C v0.toNat 18 ≤ v1 → (∃ f_29 : Nat, lp (B_G_costs_58 n v0 Q) f_29 (C, 0))) ∧ (¬ C v0.toNat 18 ≤ v1 → (∃ f_41 : Nat, lp (B_G_costs_20 n v0 v1 k10 Q) f_41 (C, 0))))
theorem aB_G_costs_10 (n : Nat) (v0 : Int) (Q : Int → Cn → Prop) : ∀ (f : Nat) (z : Cn × Int), lp (B_G_costs_10 n v0 Q) f z → AW p l e R s m args below meth c E M_G_costs true (fun r C2 n2 => n2 = n ∧ Q r C2) n 0 0 10 [(2, v0), (0, z.2), (9, 0), (9, 0)] [] (z.1) := by
  intro f
  induction f with
  | zero => intro z h; exact False.elim h
  | succ f ih =>
    intro z h
    obtain ⟨C, v1⟩ := z
    have h : B_G_costs_10 n v0 Q (lp (B_G_costs_10 n v0 Q) f) (C, v1) := h
    unfold B_G_costs_10 at h
    dsimp only at h
    have hk10 : ∀ z : Cn × Int, lp (B_G_costs_10 n v0 Q) f z → _ := ih
    refine AW.iload_n (dc hd_G_costs 6 rfl) rfl ?_
    refine AW.ra_n (dc hd_G_costs 7 rfl) rfl rfl rfl ?_
    obtain ⟨g_10, h⟩ := h
    refine AW.getf fl_10_214 (dc hd_G_costs 8 rfl) g_10 ?_
    refine AW.icmp_ge (t := 56) (dc hd_G_costs 9 rfl) (by decide) (fun c_11 => ?_) (fun c_11 => ?_)
    · have h := h.1 c_11
      refine AW.iconst (dc hd_G_costs 32 rfl) (by decide) ?_
      refine AW.istore_n [(2, v0), (0, 0), (9, 0), (9, 0)] (dc hd_G_costs 33 rfl) (Nat.le_of_ble_eq_true rfl) rfl rfl ?_
      obtain ⟨f_29, h⟩ := h
      exact aB_G_costs_58 n v0 Q f_29 (C, 0) h
    · have h := h.2 c_11
      refine AW.iconst (dc hd_G_costs 10 rfl) (by decide) ?_
      refine AW.istore_n [(2, v0), (0, v1), (0, 0), (9, 0)] (dc hd_G_costs 11 rfl) (Nat.le_of_ble_eq_true rfl) rfl rfl ?_
      obtain ⟨f_41, h⟩ := h
      exact aB_G_costs_20 n v0 v1 k10 Q hk10 f_41 (C, 0) h
def P_G_costs (n : Nat) (C : Cn) (v0 : Int) (Q : Int → Cn → Prop) : Prop :=
  okO n v0 10 ∧ (P_G_maps n C v0 (fun (_ : Int) (C_2 : Cn) => P_G_steps1 n C_2 v0 (fun (_ : Int) (C_6 : Cn) => ∃ f_42 : Nat, lp (B_G_costs_10 n v0 Q) f_42 (C_6, 0))))
theorem m_G_costs (l : Launch) (E : Ev) (n : Nat) (C : Cn) (v0 : Int) (Q : Int → Cn → Prop) (h : P_G_costs n C v0 Q) : MA l y_G_costs M_G_costs E true C n [(2, v0)] (fun r C2 n2 => n2 = n ∧ Q r C2) := by
  refine MA.of (by decide) rfl rfl 3 rfl (fun p e s m args below meth c => ?_)
  show AW p l e _ s m args below meth c E M_G_costs true _ n 0 0 0 [(2, v0), (9, 0), (9, 0), (9, 0)] [] C
  unfold P_G_costs at h
  refine AW.ra_n (dc hd_G_costs 0 rfl) rfl rfl rfl ?_
  obtain ⟨g_1, h⟩ := h
  refine AW.callV (As := []) (rest := []) (ci := 10) (m_G_maps l E n C v0 _ h) cb_10_211 im_G_maps se_G_maps ⟨_, _, rfl⟩ (by decide) (dc hd_G_costs 1 rfl) g_1 rfl rfl ⟨Nat.le_of_ble_eq_true rfl, Nat.le_of_ble_eq_true rfl⟩ ⟨(Nat.le_of_ble_eq_true rfl), (Nat.le_of_ble_eq_true rfl)⟩ (Nat.le_of_ble_eq_true rfl) (fun _ h => by cases h) (fun _ => rfl) (fun u_4 C_2 d_5 q_3 => ?_)
  obtain ⟨q_3a, h⟩ := q_3
  subst d_5
  show AW p l e _ s m args below meth c E M_G_costs true _ n _ _ _ [(2, v0), (9, 0), (9, 0), (9, 0)] [] C_2
  refine AW.ra_n (dc hd_G_costs 2 rfl) rfl rfl rfl ?_
  refine AW.callV (As := []) (rest := []) (ci := 10) (m_G_steps1 l E n C_2 v0 _ h) cb_10_343 im_G_steps1 se_G_steps1 ⟨_, _, rfl⟩ (by decide) (dc hd_G_costs 3 rfl) g_1 rfl rfl ⟨Nat.le_of_ble_eq_true rfl, Nat.le_of_ble_eq_true rfl⟩ ⟨(Nat.le_of_ble_eq_true rfl), (Nat.le_of_ble_eq_true rfl)⟩ (Nat.le_of_ble_eq_true rfl) (fun _ h => by cases h) (fun _ => rfl) (fun u_8 C_6 d_9 q_7 => ?_)
  obtain ⟨q_7a, h⟩ := q_7
  subst d_9
  show AW p l e _ s m args below meth c E M_G_costs true _ n _ _ _ [(2, v0), (9, 0), (9, 0), (9, 0)] [] C_6
  refine AW.iconst (dc hd_G_costs 4 rfl) (by decide) ?_
  refine AW.istore_n [(2, v0), (0, 0), (9, 0), (9, 0)] (dc hd_G_costs 5 rfl) (Nat.le_of_ble_eq_true rfl) rfl rfl ?_
  obtain ⟨f_42, h⟩ := h
  exact aB_G_costs_10 n v0 Q f_42 (C_6, 0) h
def P_G_cost (n : Nat) (C : Cn) (v0 v1 v2 : Int) (Q : Int → Cn → Prop) : Prop :=
  okO n v0 10 ∧ (P_G_costs n C v0 (fun (_ : Int) (C_2 : Cn) => P_G_isField n C_2 v0 v1 (fun (r_6 : Int) => (r_6 = 0 → (P_G_finds n C_2 v0 0 (fun (r_11 : Int) (C_12 : Cn) => Q r_11 C_12))) ∧ (¬ r_6 = 0 → (P_G_isField n C_2 v0 v2 (fun (r_15 : Int) => (r_15 = 0 → (P_G_finds n C_2 v0 0 (fun (r_20 : Int) (C_21 : Cn) => Q r_20 C_21))) ∧ (¬ r_15 = 0 → (okO n (PT v0.toNat 32) 17 ∧ (okI (PT v0.toNat 32) v1 ∧ (okO n (PT (PT v0.toNat 32).toNat v1.toNat) 12 ∧ (okI (PT (PT v0.toNat 32).toNat v1.toNat) v2 ∧ (Q (C_2 (PT (PT v0.toNat 32).toNat v1.toNat).toNat v2.toNat) C_2))))))))))))
theorem m_G_cost (l : Launch) (E : Ev) (n : Nat) (C : Cn) (v0 v1 v2 : Int) (Q : Int → Cn → Prop) (h : P_G_cost n C v0 v1 v2 Q) : MA l y_G_cost M_G_cost E true C n [(2, v0), (0, v1), (0, v2)] (fun r C2 n2 => n2 = n ∧ Q r C2) := by
  refine MA.of (by decide) rfl rfl 0 rfl (fun p e s m args below meth c => ?_)
  show AW p l e _ s m args below meth c E M_G_cost true _ n 0 0 0 [(2, v0), (0, v1), (0, v2)] [] C
  unfold P_G_cost at h
  refine AW.ra_n (dc hd_G_cost 0 rfl) rfl rfl rfl ?_
  obtain ⟨g_1, h⟩ := h
  refine AW.callV (As := []) (rest := []) (ci := 10) (m_G_costs l E n C v0 _ h) cb_10_349 im_G_costs se_G_costs ⟨_, _, rfl⟩ (by decide) (dc hd_G_cost 1 rfl) g_1 rfl rfl ⟨Nat.le_of_ble_eq_true rfl, Nat.le_of_ble_eq_true rfl⟩ ⟨(Nat.le_of_ble_eq_true rfl), (Nat.le_of_ble_eq_true rfl)⟩ (Nat.le_of_ble_eq_true rfl) (fun _ h => by cases h) (fun _ => rfl) (fun u_4 C_2 d_5 q_3 => ?_)
  obtain ⟨q_3a, h⟩ := q_3
  subst d_5
  show AW p l e _ s m args below meth c E M_G_cost true _ n _ _ _ [(2, v0), (0, v1), (0, v2)] [] C_2
  refine AW.ra_n (dc hd_G_cost 2 rfl) rfl rfl rfl ?_
  refine AW.iload_n (dc hd_G_cost 3 rfl) rfl ?_
  refine AW.callV (As := [(0, v1)]) (rest := []) (ci := 10) (m_G_isField l E n C_2 v0 v1 _ h) cb_10_264 im_G_isField se_G_isField ⟨_, _, rfl⟩ (by decide) (dc hd_G_cost 4 rfl) g_1 rfl rfl ⟨Nat.le_of_ble_eq_true rfl, Nat.le_of_ble_eq_true rfl⟩ ⟨(Nat.le_of_ble_eq_true rfl), (Nat.le_of_ble_eq_true rfl)⟩ (Nat.le_of_ble_eq_true rfl) (fun _ h => by cases h) (fun _ => rfl) (fun r_6 D_8 d_9 q_7 => ?_)
  obtain ⟨q_7a, q_7b, h⟩ := q_7
  subst D_8
  subst d_9
  show AW p l e _ s m args below meth c E M_G_cost true _ n _ _ _ [(2, v0), (0, v1), (0, v2)] [(0, r_6)] C_2
  refine AW.if_eq (t := 31) (dc hd_G_cost 5 rfl) (by decide) (fun c_10 => ?_) (fun c_10 => ?_)
  · have h := h.1 c_10
    refine AW.ra_n (dc hd_G_cost 17 rfl) rfl rfl rfl ?_
    refine AW.iconst (dc hd_G_cost 18 rfl) (by decide) ?_
    refine AW.callV (As := [(0, 0)]) (rest := []) (ci := 10) (m_G_finds l E n C_2 v0 0 _ h) cb_10_186 im_G_finds se_G_finds ⟨_, _, rfl⟩ (by decide) (dc hd_G_cost 19 rfl) g_1 rfl rfl ⟨Nat.le_of_ble_eq_true rfl, Nat.le_of_ble_eq_true rfl⟩ ⟨(Nat.le_of_ble_eq_true rfl), (Nat.le_of_ble_eq_true rfl)⟩ (Nat.le_of_ble_eq_true rfl) (fun _ h => by cases h) (fun _ => rfl) (fun r_11 C_12 d_14 q_13 => ?_)
    obtain ⟨q_13a, h⟩ := q_13
    subst d_14
    show AW p l e _ s m args below meth c E M_G_cost true _ n _ _ _ [(2, v0), (0, v1), (0, v2)] [(0, r_11)] C_12
    exact AW.iret (dc hd_G_cost 20 rfl) rfl rfl (Nat.le_of_ble_eq_true rfl) (Nat.le_of_ble_eq_true rfl) ⟨rfl, h⟩
  · have h := h.2 c_10
    refine AW.ra_n (dc hd_G_cost 6 rfl) rfl rfl rfl ?_
    refine AW.iload_n (dc hd_G_cost 7 rfl) rfl ?_
    refine AW.callV (As := [(0, v2)]) (rest := []) (ci := 10) (m_G_isField l E n C_2 v0 v2 _ h) cb_10_264 im_G_isField se_G_isField ⟨_, _, rfl⟩ (by decide) (dc hd_G_cost 8 rfl) g_1 rfl rfl ⟨Nat.le_of_ble_eq_true rfl, Nat.le_of_ble_eq_true rfl⟩ ⟨(Nat.le_of_ble_eq_true rfl), (Nat.le_of_ble_eq_true rfl)⟩ (Nat.le_of_ble_eq_true rfl) (fun _ h => by cases h) (fun _ => rfl) (fun r_15 D_17 d_18 q_16 => ?_)
    obtain ⟨q_16a, q_16b, h⟩ := q_16
    subst D_17
    subst d_18
    show AW p l e _ s m args below meth c E M_G_cost true _ n _ _ _ [(2, v0), (0, v1), (0, v2)] [(0, r_15)] C_2
    refine AW.if_eq (t := 31) (dc hd_G_cost 9 rfl) (by decide) (fun c_19 => ?_) (fun c_19 => ?_)
    · have h := h.1 c_19
      refine AW.ra_n (dc hd_G_cost 17 rfl) rfl rfl rfl ?_
      refine AW.iconst (dc hd_G_cost 18 rfl) (by decide) ?_
      refine AW.callV (As := [(0, 0)]) (rest := []) (ci := 10) (m_G_finds l E n C_2 v0 0 _ h) cb_10_186 im_G_finds se_G_finds ⟨_, _, rfl⟩ (by decide) (dc hd_G_cost 19 rfl) g_1 rfl rfl ⟨Nat.le_of_ble_eq_true rfl, Nat.le_of_ble_eq_true rfl⟩ ⟨(Nat.le_of_ble_eq_true rfl), (Nat.le_of_ble_eq_true rfl)⟩ (Nat.le_of_ble_eq_true rfl) (fun _ h => by cases h) (fun _ => rfl) (fun r_20 C_21 d_23 q_22 => ?_)
      obtain ⟨q_22a, h⟩ := q_22
      subst d_23
      show AW p l e _ s m args below meth c E M_G_cost true _ n _ _ _ [(2, v0), (0, v1), (0, v2)] [(0, r_20)] C_21
      exact AW.iret (dc hd_G_cost 20 rfl) rfl rfl (Nat.le_of_ble_eq_true rfl) (Nat.le_of_ble_eq_true rfl) ⟨rfl, h⟩
    · have h := h.2 c_19
      refine AW.ra_n (dc hd_G_cost 10 rfl) rfl rfl rfl ?_
      refine AW.getp fl_10_70 (dc hd_G_cost 11 rfl) g_1 rfl ?_
      refine AW.iload_n (dc hd_G_cost 12 rfl) rfl ?_
      obtain ⟨g_24, h⟩ := h
      obtain ⟨g_25, h⟩ := h
      refine AW.aaldp (by decide) (dc hd_G_cost 13 rfl) g_24 g_25 rfl ?_
      refine AW.iload_n (dc hd_G_cost 14 rfl) rfl ?_
      obtain ⟨g_26, h⟩ := h
      obtain ⟨g_27, h⟩ := h
      refine AW.iald (dc hd_G_cost 15 rfl) g_26 g_27 ?_
      refine AW.goto (t := 36) (dc hd_G_cost 16 rfl) (by decide) ?_
      exact AW.iret (dc hd_G_cost 20 rfl) rfl rfl (Nat.le_of_ble_eq_true rfl) (Nat.le_of_ble_eq_true rfl) ⟨rfl, h⟩
def J_G_next_96 (n : Nat) (C : Cn) (v0 : Int) (Q : Int → Cn → Prop) : Prop :=
  okO n v0 10 ∧ (P_G_finds n C v0 3 (fun (r_22 : Int) (C_24 : Cn) => Q r_22 C_24))
theorem aJ_G_next_96 (n : Nat) (C : Cn) (v0 : Int) (Q : Int → Cn → Prop) (h : J_G_next_96 n C v0 Q) : AW p l e R s m args below meth c E M_G_next true (fun r C2 n2 => n2 = n ∧ Q r C2) n 0 0 96 [(2, v0), (9, 0), (9, 0), (9, 0)] [] C := by
  unfold J_G_next_96 at h
  refine AW.ra_n (dc hd_G_next 58 rfl) rfl rfl rfl ?_
  refine AW.iconst (dc hd_G_next 59 rfl) (by decide) ?_
  obtain ⟨g_23, h⟩ := h
  refine AW.callV (As := [(0, 3)]) (rest := []) (ci := 10) (m_G_finds l E n C v0 3 _ h) cb_10_186 im_G_finds se_G_finds ⟨_, _, rfl⟩ (by decide) (dc hd_G_next 60 rfl) g_23 rfl rfl ⟨Nat.le_of_ble_eq_true rfl, Nat.le_of_ble_eq_true rfl⟩ ⟨(Nat.le_of_ble_eq_true rfl), (Nat.le_of_ble_eq_true rfl)⟩ (Nat.le_of_ble_eq_true rfl) (fun _ h => by cases h) (fun _ => rfl) (fun r_22 C_24 d_26 q_25 => ?_)
  obtain ⟨q_25a, h⟩ := q_25
  subst d_26
  show AW p l e _ s m args below meth c E M_G_next true _ n _ _ _ [(2, v0), (9, 0), (9, 0), (9, 0)] [(0, r_22)] C_24
  exact AW.iret (dc hd_G_next 61 rfl) rfl rfl (Nat.le_of_ble_eq_true rfl) (Nat.le_of_ble_eq_true rfl) ⟨rfl, h⟩
def B_G_next_28 (n : Nat) (C : Cn) (v0 v1 v2 : Int) (Q : Int → Cn → Prop) (k28 : Int → Prop) (v3 : Int) : Prop :=
  okO n v0 10 ∧ ((C v0.toNat 18 ≤ v3 → (J_G_next_96 n C v0 Q)) ∧ (¬ C v0.toNat 18 ≤ v3 → ((v1 = v2 → (J_G_next_96 n C v0 Q)) ∧ (¬ v1 = v2 → ((v3 = v1 → (k28 (w32 (v3 + 1)))) ∧ (¬ v3 = v1 → (okO n (PT v0.toNat 33) 17 ∧ (okI (PT v0.toNat 33) v1 ∧ (okO n (PT (PT v0.toNat 33).toNat v1.toNat) 12 ∧ (okI (PT (PT v0.toNat 33).toNat v1.toNat) v3 ∧ ((1000000 ≤ C (PT (PT v0.toNat 33).toNat v1.toNat).toNat v3.toNat → (k28 (w32 (v3 + 1)))) ∧ (¬ 1000000 ≤ C (PT (PT v0.toNat 33).toNat v1.toNat).toNat v3.toNat → (okO n (PT v0.toNat 32) 17 ∧ (okI (PT v0.toNat 32) v3 ∧ (okO n (PT (PT v0.toNat 32).toNat v3.toNat) 12 ∧ (okI (PT (PT v0.toNat 32).toNat v3.toNat) v2 ∧ (okI (PT v0.toNat 32) v1 ∧ (okO n (PT (PT v0.toNat 32).toNat v1.toNat) 12 ∧ (okI (PT (PT v0.toNat 32).toNat v1.toNat) v2 ∧ ((w32 (C (PT (PT v0.toNat 33).toNat v1.toNat).toNat v3.toNat + C (PT (PT v0.toNat 32).toNat v3.toNat).toNat v2.toNat) = C (PT (PT v0.toNat 32).toNat v1.toNat).toNat v2.toNat → (Q v3 C)) ∧ (¬ w32 (C (PT (PT v0.toNat 33).toNat v1.toNat).toNat v3.toNat + C (PT (PT v0.toNat 32).toNat v3.toNat).toNat v2.toNat) = C (PT (PT v0.toNat 32).toNat v1.toNat).toNat v2.toNat → (k28 (w32 (v3 + 1))))))))))))))))))))))))
theorem aB_G_next_28 (n : Nat) (C : Cn) (v0 v1 v2 : Int) (Q : Int → Cn → Prop) : ∀ (f : Nat) (z : Int), lp (B_G_next_28 n C v0 v1 v2 Q) f z → AW p l e R s m args below meth c E M_G_next true (fun r C2 n2 => n2 = n ∧ Q r C2) n 0 0 28 [(2, v0), (0, v1), (0, v2), (0, z)] [] C := by
  intro f
  induction f with
  | zero => intro z h; exact False.elim h
  | succ f ih =>
    intro z h
    obtain ⟨v3, rfl⟩ : ∃ q, q = z := ⟨z, rfl⟩
    have h : B_G_next_28 n C v0 v1 v2 Q (lp (B_G_next_28 n C v0 v1 v2 Q) f) v3 := h
    unfold B_G_next_28 at h
    have hk28 : ∀ z : Int, lp (B_G_next_28 n C v0 v1 v2 Q) f z → _ := ih
    refine AW.iload_n (dc hd_G_next 16 rfl) rfl ?_
    refine AW.ra_n (dc hd_G_next 17 rfl) rfl rfl rfl ?_
    obtain ⟨g_20, h⟩ := h
    refine AW.getf fl_10_214 (dc hd_G_next 18 rfl) g_20 ?_
    refine AW.icmp_ge (t := 96) (dc hd_G_next 19 rfl) (by decide) (fun c_21 => ?_) (fun c_21 => ?_)
    · have h := h.1 c_21
      refine AW.fgt [(2, v0), (9, 0), (9, 0), (9, 0)] ⟨.inl rfl, .inr rfl, .inr rfl, .inr rfl, trivial⟩ ?_
      exact aJ_G_next_96 n C v0 Q h
    · have h := h.2 c_21
      refine AW.iload_n (dc hd_G_next 20 rfl) rfl ?_
      refine AW.iload_n (dc hd_G_next 21 rfl) rfl ?_
      refine AW.icmp_eq (t := 96) (dc hd_G_next 22 rfl) (by decide) (fun c_27 => ?_) (fun c_27 => ?_)
      · have h := h.1 c_27
        refine AW.fgt [(2, v0), (9, 0), (9, 0), (9, 0)] ⟨.inl rfl, .inr rfl, .inr rfl, .inr rfl, trivial⟩ ?_
        exact aJ_G_next_96 n C v0 Q h
      · have h := h.2 c_27
        refine AW.iload_n (dc hd_G_next 23 rfl) rfl ?_
        refine AW.iload_n (dc hd_G_next 24 rfl) rfl ?_
        refine AW.icmp_eq (t := 90) (dc hd_G_next 25 rfl) (by decide) (fun c_28 => ?_) (fun c_28 => ?_)
        · have h := h.1 c_28
          refine AW.iinc [(2, v0), (0, v1), (0, v2), (0, w32 (v3 + 1))] (dc hd_G_next 56 rfl) rfl (Nat.le_of_ble_eq_true rfl) rfl rfl ?_
          refine AW.goto (t := 28) (dc hd_G_next 57 rfl) (by decide) ?_
          exact hk28 (w32 (v3 + 1)) h
        · have h := h.2 c_28
          refine AW.ra_n (dc hd_G_next 26 rfl) rfl rfl rfl ?_
          refine AW.getp fl_10_73 (dc hd_G_next 27 rfl) g_20 rfl ?_
          refine AW.iload_n (dc hd_G_next 28 rfl) rfl ?_
          obtain ⟨g_29, h⟩ := h
          obtain ⟨g_30, h⟩ := h
          refine AW.aaldp (by decide) (dc hd_G_next 29 rfl) g_29 g_30 rfl ?_
          refine AW.iload_n (dc hd_G_next 30 rfl) rfl ?_
          obtain ⟨g_31, h⟩ := h
          obtain ⟨g_32, h⟩ := h
          refine AW.iald (dc hd_G_next 31 rfl) g_31 g_32 ?_
          refine AW.ldc_w (v := 1000000) (dc hd_G_next 32 rfl) ck_10_339 (by decide) rfl ?_
          refine AW.icmp_ge (t := 90) (dc hd_G_next 33 rfl) (by decide) (fun c_33 => ?_) (fun c_33 => ?_)
          · have h := h.1 c_33
            refine AW.iinc [(2, v0), (0, v1), (0, v2), (0, w32 (v3 + 1))] (dc hd_G_next 56 rfl) rfl (Nat.le_of_ble_eq_true rfl) rfl rfl ?_
            refine AW.goto (t := 28) (dc hd_G_next 57 rfl) (by decide) ?_
            exact hk28 (w32 (v3 + 1)) h
          · have h := h.2 c_33
            refine AW.ra_n (dc hd_G_next 34 rfl) rfl rfl rfl ?_
            refine AW.getp fl_10_73 (dc hd_G_next 35 rfl) g_20 rfl ?_
            refine AW.iload_n (dc hd_G_next 36 rfl) rfl ?_
            refine AW.aaldp (by decide) (dc hd_G_next 37 rfl) g_29 g_30 rfl ?_
            refine AW.iload_n (dc hd_G_next 38 rfl) rfl ?_
            refine AW.iald (dc hd_G_next 39 rfl) g_31 g_32 ?_
            refine AW.ra_n (dc hd_G_next 40 rfl) rfl rfl rfl ?_
            refine AW.getp fl_10_70 (dc hd_G_next 41 rfl) g_20 rfl ?_
            refine AW.iload_n (dc hd_G_next 42 rfl) rfl ?_
            obtain ⟨g_34, h⟩ := h
            obtain ⟨g_35, h⟩ := h
            refine AW.aaldp (by decide) (dc hd_G_next 43 rfl) g_34 g_35 rfl ?_
            refine AW.iload_n (dc hd_G_next 44 rfl) rfl ?_
            obtain ⟨g_36, h⟩ := h
            obtain ⟨g_37, h⟩ := h
            refine AW.iald (dc hd_G_next 45 rfl) g_36 g_37 ?_
            refine AW.iadd (dc hd_G_next 46 rfl) ?_
            refine AW.ra_n (dc hd_G_next 47 rfl) rfl rfl rfl ?_
            refine AW.getp fl_10_70 (dc hd_G_next 48 rfl) g_20 rfl ?_
            refine AW.iload_n (dc hd_G_next 49 rfl) rfl ?_
            obtain ⟨g_38, h⟩ := h
            refine AW.aaldp (by decide) (dc hd_G_next 50 rfl) g_34 g_38 rfl ?_
            refine AW.iload_n (dc hd_G_next 51 rfl) rfl ?_
            obtain ⟨g_39, h⟩ := h
            obtain ⟨g_40, h⟩ := h
            refine AW.iald (dc hd_G_next 52 rfl) g_39 g_40 ?_
            refine AW.icmp_ne (t := 90) (dc hd_G_next 53 rfl) (by decide) (fun c_41 => ?_) (fun c_41 => ?_)
            · have h := h.2 c_41
              refine AW.iinc [(2, v0), (0, v1), (0, v2), (0, w32 (v3 + 1))] (dc hd_G_next 56 rfl) rfl (Nat.le_of_ble_eq_true rfl) rfl rfl ?_
              refine AW.goto (t := 28) (dc hd_G_next 57 rfl) (by decide) ?_
              exact hk28 (w32 (v3 + 1)) h
            · have h := h.1 c_41
              refine AW.iload_n (dc hd_G_next 54 rfl) rfl ?_
              exact AW.iret (dc hd_G_next 55 rfl) rfl rfl (Nat.le_of_ble_eq_true rfl) (Nat.le_of_ble_eq_true rfl) ⟨rfl, h⟩
def P_G_next (n : Nat) (C : Cn) (v0 v1 v2 : Int) (Q : Int → Cn → Prop) : Prop :=
  okO n v0 10 ∧ (P_G_costs n C v0 (fun (_ : Int) (C_2 : Cn) => P_G_isField n C_2 v0 v1 (fun (r_6 : Int) => (r_6 = 0 → (P_G_finds n C_2 v0 0 (fun (r_11 : Int) (C_12 : Cn) => Q r_11 C_12))) ∧ (¬ r_6 = 0 → (P_G_isField n C_2 v0 v2 (fun (r_15 : Int) => (r_15 = 0 → (P_G_finds n C_2 v0 0 (fun (r_43 : Int) (C_44 : Cn) => Q r_43 C_44))) ∧ (¬ r_15 = 0 → (∃ f_42 : Nat, lp (B_G_next_28 n C_2 v0 v1 v2 Q) f_42 0))))))))
theorem m_G_next (l : Launch) (E : Ev) (n : Nat) (C : Cn) (v0 v1 v2 : Int) (Q : Int → Cn → Prop) (h : P_G_next n C v0 v1 v2 Q) : MA l y_G_next M_G_next E true C n [(2, v0), (0, v1), (0, v2)] (fun r C2 n2 => n2 = n ∧ Q r C2) := by
  refine MA.of (by decide) rfl rfl 1 rfl (fun p e s m args below meth c => ?_)
  show AW p l e _ s m args below meth c E M_G_next true _ n 0 0 0 [(2, v0), (0, v1), (0, v2), (9, 0)] [] C
  unfold P_G_next at h
  refine AW.ra_n (dc hd_G_next 0 rfl) rfl rfl rfl ?_
  obtain ⟨g_1, h⟩ := h
  refine AW.callV (As := []) (rest := []) (ci := 10) (m_G_costs l E n C v0 _ h) cb_10_349 im_G_costs se_G_costs ⟨_, _, rfl⟩ (by decide) (dc hd_G_next 1 rfl) g_1 rfl rfl ⟨Nat.le_of_ble_eq_true rfl, Nat.le_of_ble_eq_true rfl⟩ ⟨(Nat.le_of_ble_eq_true rfl), (Nat.le_of_ble_eq_true rfl)⟩ (Nat.le_of_ble_eq_true rfl) (fun _ h => by cases h) (fun _ => rfl) (fun u_4 C_2 d_5 q_3 => ?_)
  obtain ⟨q_3a, h⟩ := q_3
  subst d_5
  show AW p l e _ s m args below meth c E M_G_next true _ n _ _ _ [(2, v0), (0, v1), (0, v2), (9, 0)] [] C_2
  refine AW.ra_n (dc hd_G_next 2 rfl) rfl rfl rfl ?_
  refine AW.iload_n (dc hd_G_next 3 rfl) rfl ?_
  refine AW.callV (As := [(0, v1)]) (rest := []) (ci := 10) (m_G_isField l E n C_2 v0 v1 _ h) cb_10_264 im_G_isField se_G_isField ⟨_, _, rfl⟩ (by decide) (dc hd_G_next 4 rfl) g_1 rfl rfl ⟨Nat.le_of_ble_eq_true rfl, Nat.le_of_ble_eq_true rfl⟩ ⟨(Nat.le_of_ble_eq_true rfl), (Nat.le_of_ble_eq_true rfl)⟩ (Nat.le_of_ble_eq_true rfl) (fun _ h => by cases h) (fun _ => rfl) (fun r_6 D_8 d_9 q_7 => ?_)
  obtain ⟨q_7a, q_7b, h⟩ := q_7
  subst D_8
  subst d_9
  show AW p l e _ s m args below meth c E M_G_next true _ n _ _ _ [(2, v0), (0, v1), (0, v2), (9, 0)] [(0, r_6)] C_2
  refine AW.if_eq (t := 20) (dc hd_G_next 5 rfl) (by decide) (fun c_10 => ?_) (fun c_10 => ?_)
  · have h := h.1 c_10
    refine AW.ra_n (dc hd_G_next 10 rfl) rfl rfl rfl ?_
    refine AW.iconst (dc hd_G_next 11 rfl) (by decide) ?_
    refine AW.callV (As := [(0, 0)]) (rest := []) (ci := 10) (m_G_finds l E n C_2 v0 0 _ h) cb_10_186 im_G_finds se_G_finds ⟨_, _, rfl⟩ (by decide) (dc hd_G_next 12 rfl) g_1 rfl rfl ⟨Nat.le_of_ble_eq_true rfl, Nat.le_of_ble_eq_true rfl⟩ ⟨(Nat.le_of_ble_eq_true rfl), (Nat.le_of_ble_eq_true rfl)⟩ (Nat.le_of_ble_eq_true rfl) (fun _ h => by cases h) (fun _ => rfl) (fun r_11 C_12 d_14 q_13 => ?_)
    obtain ⟨q_13a, h⟩ := q_13
    subst d_14
    show AW p l e _ s m args below meth c E M_G_next true _ n _ _ _ [(2, v0), (0, v1), (0, v2), (9, 0)] [(0, r_11)] C_12
    exact AW.iret (dc hd_G_next 13 rfl) rfl rfl (Nat.le_of_ble_eq_true rfl) (Nat.le_of_ble_eq_true rfl) ⟨rfl, h⟩
  · have h := h.2 c_10
    refine AW.ra_n (dc hd_G_next 6 rfl) rfl rfl rfl ?_
    refine AW.iload_n (dc hd_G_next 7 rfl) rfl ?_
    refine AW.callV (As := [(0, v2)]) (rest := []) (ci := 10) (m_G_isField l E n C_2 v0 v2 _ h) cb_10_264 im_G_isField se_G_isField ⟨_, _, rfl⟩ (by decide) (dc hd_G_next 8 rfl) g_1 rfl rfl ⟨Nat.le_of_ble_eq_true rfl, Nat.le_of_ble_eq_true rfl⟩ ⟨(Nat.le_of_ble_eq_true rfl), (Nat.le_of_ble_eq_true rfl)⟩ (Nat.le_of_ble_eq_true rfl) (fun _ h => by cases h) (fun _ => rfl) (fun r_15 D_17 d_18 q_16 => ?_)
    obtain ⟨q_16a, q_16b, h⟩ := q_16
    subst D_17
    subst d_18
    show AW p l e _ s m args below meth c E M_G_next true _ n _ _ _ [(2, v0), (0, v1), (0, v2), (9, 0)] [(0, r_15)] C_2
    refine AW.if_ne (t := 26) (dc hd_G_next 9 rfl) (by decide) (fun c_19 => ?_) (fun c_19 => ?_)
    · have h := h.2 c_19
      refine AW.iconst (dc hd_G_next 14 rfl) (by decide) ?_
      refine AW.istore_n [(2, v0), (0, v1), (0, v2), (0, 0)] (dc hd_G_next 15 rfl) (Nat.le_of_ble_eq_true rfl) rfl rfl ?_
      obtain ⟨f_42, h⟩ := h
      exact aB_G_next_28 n C_2 v0 v1 v2 Q f_42 0 h
    · have h := h.1 c_19
      refine AW.ra_n (dc hd_G_next 10 rfl) rfl rfl rfl ?_
      refine AW.iconst (dc hd_G_next 11 rfl) (by decide) ?_
      refine AW.callV (As := [(0, 0)]) (rest := []) (ci := 10) (m_G_finds l E n C_2 v0 0 _ h) cb_10_186 im_G_finds se_G_finds ⟨_, _, rfl⟩ (by decide) (dc hd_G_next 12 rfl) g_1 rfl rfl ⟨Nat.le_of_ble_eq_true rfl, Nat.le_of_ble_eq_true rfl⟩ ⟨(Nat.le_of_ble_eq_true rfl), (Nat.le_of_ble_eq_true rfl)⟩ (Nat.le_of_ble_eq_true rfl) (fun _ h => by cases h) (fun _ => rfl) (fun r_43 C_44 d_46 q_45 => ?_)
      obtain ⟨q_45a, h⟩ := q_45
      subst d_46
      show AW p l e _ s m args below meth c E M_G_next true _ n _ _ _ [(2, v0), (0, v1), (0, v2), (9, 0)] [(0, r_43)] C_44
      exact AW.iret (dc hd_G_next 13 rfl) rfl rfl (Nat.le_of_ble_eq_true rfl) (Nat.le_of_ble_eq_true rfl) ⟨rfl, h⟩
def J_G_within_63 (n : Nat) (C : Cn) (v0 v1 v2 v4 s0 s1 : Int) (k35 : Int × Int → Prop) (Q : Int → Cn → Prop) : Prop :=
  k35 (w32 (s0 + s1), w32 (v4 + 1))
theorem aJ_G_within_63 (n : Nat) (C : Cn) (v0 v1 v2 v4 s0 s1 : Int) (k35 : Int × Int → Prop) (Q : Int → Cn → Prop) (hk35 : ∀ (z3 : Int) (z4 : Int), k35 (z3, z4) → AW p l e R s m args below meth c E M_G_within true (fun r C2 n2 => n2 = n ∧ Q r C2) n 0 0 35 [(2, v0), (0, v1), (0, v2), (0, z3), (0, z4)] [] C) (h : J_G_within_63 n C v0 v1 v2 v4 s0 s1 k35 Q) : AW p l e R s m args below meth c E M_G_within true (fun r C2 n2 => n2 = n ∧ Q r C2) n 0 0 63 [(2, v0), (0, v1), (0, v2), (9, 0), (0, v4)] [(0, s1), (0, s0)] C := by
  unfold J_G_within_63 at h
  refine AW.iadd (dc hd_G_within 36 rfl) ?_
  refine AW.istore_n [(2, v0), (0, v1), (0, v2), (0, w32 (s0 + s1)), (0, v4)] (dc hd_G_within 37 rfl) (Nat.le_of_ble_eq_true rfl) rfl rfl ?_
  refine AW.iinc [(2, v0), (0, v1), (0, v2), (0, w32 (s0 + s1)), (0, w32 (v4 + 1))] (dc hd_G_within 38 rfl) rfl (Nat.le_of_ble_eq_true rfl) rfl rfl ?_
  refine AW.goto (t := 35) (dc hd_G_within 39 rfl) (by decide) ?_
  exact hk35 (w32 (s0 + s1), w32 (v4 + 1)) h
def B_G_within_35 (n : Nat) (C : Cn) (v0 v1 v2 : Int) (Q : Int → Cn → Prop) (k35 : Int × Int → Prop) (z : Int × Int) : Prop := match z with
  | (v3, v4) => okO n v0 10 ∧ ((C v0.toNat 18 ≤ v4 → (Q v3 C)) ∧ (¬ C v0.toNat 18 ≤ v4 → (okO n (PT v0.toNat 32) 17 ∧ (okI (PT v0.toNat 32) v1 ∧ (okO n (PT (PT v0.toNat 32).toNat v1.toNat) 12 ∧ (okI (PT (PT v0.toNat 32).toNat v1.toNat) v4 ∧ (J_G_within_63 n C v0 v1 v2 v4 v3 (if v2 < C (PT (PT v0.toNat 32).toNat v1.toNat).toNat v4.toNat then 0 else 1) k35 Q)))))))
theorem aB_G_within_35 (n : Nat) (C : Cn) (v0 v1 v2 : Int) (Q : Int → Cn → Prop) : ∀ (f : Nat) (z : Int × Int), lp (B_G_within_35 n C v0 v1 v2 Q) f z → AW p l e R s m args below meth c E M_G_within true (fun r C2 n2 => n2 = n ∧ Q r C2) n 0 0 35 [(2, v0), (0, v1), (0, v2), (0, z.1), (0, z.2)] [] C := by
  intro f
  induction f with
  | zero => intro z h; exact False.elim h
  | succ f ih =>
    intro z h
    obtain ⟨v3, v4⟩ := z
    have h : B_G_within_35 n C v0 v1 v2 Q (lp (B_G_within_35 n C v0 v1 v2 Q) f) (v3, v4) := h
    unfold B_G_within_35 at h
    dsimp only at h
    have hk35 : ∀ z : Int × Int, lp (B_G_within_35 n C v0 v1 v2 Q) f z → _ := ih
    refine AW.iload (dc hd_G_within 20 rfl) rfl ?_
    refine AW.ra_n (dc hd_G_within 21 rfl) rfl rfl rfl ?_
    obtain ⟨g_20, h⟩ := h
    refine AW.getf fl_10_214 (dc hd_G_within 22 rfl) g_20 ?_
    refine AW.icmp_ge (t := 71) (dc hd_G_within 23 rfl) (by decide) (fun c_21 => ?_) (fun c_21 => ?_)
    · have h := h.1 c_21
      refine AW.iload_n (dc hd_G_within 40 rfl) rfl ?_
      exact AW.iret (dc hd_G_within 41 rfl) rfl rfl (Nat.le_of_ble_eq_true rfl) (Nat.le_of_ble_eq_true rfl) ⟨rfl, h⟩
    · have h := h.2 c_21
      refine AW.iload_n (dc hd_G_within 24 rfl) rfl ?_
      refine AW.ra_n (dc hd_G_within 25 rfl) rfl rfl rfl ?_
      refine AW.getp fl_10_70 (dc hd_G_within 26 rfl) g_20 rfl ?_
      refine AW.iload_n (dc hd_G_within 27 rfl) rfl ?_
      obtain ⟨g_22, h⟩ := h
      obtain ⟨g_23, h⟩ := h
      refine AW.aaldp (by decide) (dc hd_G_within 28 rfl) g_22 g_23 rfl ?_
      refine AW.iload (dc hd_G_within 29 rfl) rfl ?_
      obtain ⟨g_24, h⟩ := h
      obtain ⟨g_25, h⟩ := h
      refine AW.iald (dc hd_G_within 30 rfl) g_24 g_25 ?_
      refine AW.iload_n (dc hd_G_within 31 rfl) rfl ?_
      refine AW.icmp_gt (t := 62) (dc hd_G_within 32 rfl) (by decide) (fun c_26 => ?_) (fun c_26 => ?_)
      · simp only [if_pos c_26] at h
        refine AW.iconst (dc hd_G_within 35 rfl) (by decide) ?_
        refine AW.fgt [(2, v0), (0, v1), (0, v2), (9, 0), (0, v4)] ⟨.inl rfl, .inl rfl, .inl rfl, .inr rfl, .inl rfl, trivial⟩ ?_
        exact aJ_G_within_63 n C _ _ _ _ _ _ k35 Q hk35 h
      · simp only [if_neg c_26] at h
        refine AW.iconst (dc hd_G_within 33 rfl) (by decide) ?_
        refine AW.goto (t := 63) (dc hd_G_within 34 rfl) (by decide) ?_
        refine AW.fgt [(2, v0), (0, v1), (0, v2), (9, 0), (0, v4)] ⟨.inl rfl, .inl rfl, .inl rfl, .inr rfl, .inl rfl, trivial⟩ ?_
        exact aJ_G_within_63 n C _ _ _ _ _ _ k35 Q hk35 h
def P_G_within (n : Nat) (C : Cn) (v0 v1 v2 : Int) (Q : Int → Cn → Prop) : Prop :=
  okO n v0 10 ∧ (P_G_costs n C v0 (fun (_ : Int) (C_2 : Cn) => P_G_isField n C_2 v0 v1 (fun (r_6 : Int) => (r_6 = 0 → (P_G_finds n C_2 v0 0 (fun (r_11 : Int) (C_12 : Cn) => Q r_11 C_12))) ∧ (¬ r_6 = 0 → (P_G_in n C_2 v2 0 999 (fun (r_15 : Int) => (r_15 = 0 → (P_G_finds n C_2 v0 0 (fun (r_28 : Int) (C_29 : Cn) => Q r_28 C_29))) ∧ (¬ r_15 = 0 → (∃ f_27 : Nat, lp (B_G_within_35 n C_2 v0 v1 v2 Q) f_27 (0, 0)))))))))
theorem m_G_within (l : Launch) (E : Ev) (n : Nat) (C : Cn) (v0 v1 v2 : Int) (Q : Int → Cn → Prop) (h : P_G_within n C v0 v1 v2 Q) : MA l y_G_within M_G_within E true C n [(2, v0), (0, v1), (0, v2)] (fun r C2 n2 => n2 = n ∧ Q r C2) := by
  refine MA.of (by decide) rfl rfl 2 rfl (fun p e s m args below meth c => ?_)
  show AW p l e _ s m args below meth c E M_G_within true _ n 0 0 0 [(2, v0), (0, v1), (0, v2), (9, 0), (9, 0)] [] C
  unfold P_G_within at h
  refine AW.ra_n (dc hd_G_within 0 rfl) rfl rfl rfl ?_
  obtain ⟨g_1, h⟩ := h
  refine AW.callV (As := []) (rest := []) (ci := 10) (m_G_costs l E n C v0 _ h) cb_10_349 im_G_costs se_G_costs ⟨_, _, rfl⟩ (by decide) (dc hd_G_within 1 rfl) g_1 rfl rfl ⟨Nat.le_of_ble_eq_true rfl, Nat.le_of_ble_eq_true rfl⟩ ⟨(Nat.le_of_ble_eq_true rfl), (Nat.le_of_ble_eq_true rfl)⟩ (Nat.le_of_ble_eq_true rfl) (fun _ h => by cases h) (fun _ => rfl) (fun u_4 C_2 d_5 q_3 => ?_)
  obtain ⟨q_3a, h⟩ := q_3
  subst d_5
  show AW p l e _ s m args below meth c E M_G_within true _ n _ _ _ [(2, v0), (0, v1), (0, v2), (9, 0), (9, 0)] [] C_2
  refine AW.ra_n (dc hd_G_within 2 rfl) rfl rfl rfl ?_
  refine AW.iload_n (dc hd_G_within 3 rfl) rfl ?_
  refine AW.callV (As := [(0, v1)]) (rest := []) (ci := 10) (m_G_isField l E n C_2 v0 v1 _ h) cb_10_264 im_G_isField se_G_isField ⟨_, _, rfl⟩ (by decide) (dc hd_G_within 4 rfl) g_1 rfl rfl ⟨Nat.le_of_ble_eq_true rfl, Nat.le_of_ble_eq_true rfl⟩ ⟨(Nat.le_of_ble_eq_true rfl), (Nat.le_of_ble_eq_true rfl)⟩ (Nat.le_of_ble_eq_true rfl) (fun _ h => by cases h) (fun _ => rfl) (fun r_6 D_8 d_9 q_7 => ?_)
  obtain ⟨q_7a, q_7b, h⟩ := q_7
  subst D_8
  subst d_9
  show AW p l e _ s m args below meth c E M_G_within true _ n _ _ _ [(2, v0), (0, v1), (0, v2), (9, 0), (9, 0)] [(0, r_6)] C_2
  refine AW.if_eq (t := 24) (dc hd_G_within 5 rfl) (by decide) (fun c_10 => ?_) (fun c_10 => ?_)
  · have h := h.1 c_10
    refine AW.ra_n (dc hd_G_within 12 rfl) rfl rfl rfl ?_
    refine AW.iconst (dc hd_G_within 13 rfl) (by decide) ?_
    refine AW.callV (As := [(0, 0)]) (rest := []) (ci := 10) (m_G_finds l E n C_2 v0 0 _ h) cb_10_186 im_G_finds se_G_finds ⟨_, _, rfl⟩ (by decide) (dc hd_G_within 14 rfl) g_1 rfl rfl ⟨Nat.le_of_ble_eq_true rfl, Nat.le_of_ble_eq_true rfl⟩ ⟨(Nat.le_of_ble_eq_true rfl), (Nat.le_of_ble_eq_true rfl)⟩ (Nat.le_of_ble_eq_true rfl) (fun _ h => by cases h) (fun _ => rfl) (fun r_11 C_12 d_14 q_13 => ?_)
    obtain ⟨q_13a, h⟩ := q_13
    subst d_14
    show AW p l e _ s m args below meth c E M_G_within true _ n _ _ _ [(2, v0), (0, v1), (0, v2), (9, 0), (9, 0)] [(0, r_11)] C_12
    exact AW.iret (dc hd_G_within 15 rfl) rfl rfl (Nat.le_of_ble_eq_true rfl) (Nat.le_of_ble_eq_true rfl) ⟨rfl, h⟩
  · have h := h.2 c_10
    refine AW.iload_n (dc hd_G_within 6 rfl) rfl ?_
    refine AW.i2l (dc hd_G_within 7 rfl) ?_
    refine AW.lconst (v := 0) (dc hd_G_within 8 rfl) (by decide) (by decide +kernel) ?_
    refine AW.ldc2 (v := 999) (dc hd_G_within 9 rfl) ck_10_352 (by decide) rfl ?_
    refine AW.callS (As := [(1, v2), (1, 0), (1, 999)]) (rest := []) (m_G_in l E n C_2 v2 0 999 _ h) cb_10_113 sm_G_in (dc hd_G_within 10 rfl) rfl rfl ⟨Nat.le_of_ble_eq_true rfl, Nat.le_of_ble_eq_true rfl⟩ ⟨(Nat.le_of_ble_eq_true rfl), (Nat.le_of_ble_eq_true rfl)⟩ (Nat.le_of_ble_eq_true rfl) (fun _ h => by cases h) (fun _ => rfl) (fun r_15 D_17 d_18 q_16 => ?_)
    obtain ⟨q_16a, q_16b, h⟩ := q_16
    subst D_17
    subst d_18
    show AW p l e _ s m args below meth c E M_G_within true _ n _ _ _ [(2, v0), (0, v1), (0, v2), (9, 0), (9, 0)] [(0, r_15)] C_2
    refine AW.if_ne (t := 30) (dc hd_G_within 11 rfl) (by decide) (fun c_19 => ?_) (fun c_19 => ?_)
    · have h := h.2 c_19
      refine AW.iconst (dc hd_G_within 16 rfl) (by decide) ?_
      refine AW.istore_n [(2, v0), (0, v1), (0, v2), (0, 0), (9, 0)] (dc hd_G_within 17 rfl) (Nat.le_of_ble_eq_true rfl) rfl rfl ?_
      refine AW.iconst (dc hd_G_within 18 rfl) (by decide) ?_
      refine AW.istore [(2, v0), (0, v1), (0, v2), (0, 0), (0, 0)] (dc hd_G_within 19 rfl) (Nat.le_of_ble_eq_true rfl) rfl rfl ?_
      obtain ⟨f_27, h⟩ := h
      exact aB_G_within_35 n C_2 v0 v1 v2 Q f_27 (0, 0) h
    · have h := h.1 c_19
      refine AW.ra_n (dc hd_G_within 12 rfl) rfl rfl rfl ?_
      refine AW.iconst (dc hd_G_within 13 rfl) (by decide) ?_
      refine AW.callV (As := [(0, 0)]) (rest := []) (ci := 10) (m_G_finds l E n C_2 v0 0 _ h) cb_10_186 im_G_finds se_G_finds ⟨_, _, rfl⟩ (by decide) (dc hd_G_within 14 rfl) g_1 rfl rfl ⟨Nat.le_of_ble_eq_true rfl, Nat.le_of_ble_eq_true rfl⟩ ⟨(Nat.le_of_ble_eq_true rfl), (Nat.le_of_ble_eq_true rfl)⟩ (Nat.le_of_ble_eq_true rfl) (fun _ h => by cases h) (fun _ => rfl) (fun r_28 C_29 d_31 q_30 => ?_)
      obtain ⟨q_30a, h⟩ := q_30
      subst d_31
      show AW p l e _ s m args below meth c E M_G_within true _ n _ _ _ [(2, v0), (0, v1), (0, v2), (9, 0), (9, 0)] [(0, r_28)] C_29
      exact AW.iret (dc hd_G_within 15 rfl) rfl rfl (Nat.le_of_ble_eq_true rfl) (Nat.le_of_ble_eq_true rfl) ⟨rfl, h⟩
def P_G_costBetween (n : Nat) (C : Cn) (v0 v1 v2 v3 v4 : Int) (Q : Int → Cn → Prop) : Prop :=
  okO n v0 10 ∧ (P_G_costs n C v0 (fun (_ : Int) (C_2 : Cn) => P_G_isIn n C_2 v0 v1 v2 (fun (r_6 : Int) (C_7 : Cn) => okO n (PT v0.toNat 32) 17 ∧ (okI (PT v0.toNat 32) r_6 ∧ (P_G_isIn n C_7 v0 v3 v4 (fun (r_12 : Int) (C_13 : Cn) => okO n (PT (PT v0.toNat 32).toNat r_6.toNat) 12 ∧ (okI (PT (PT v0.toNat 32).toNat r_6.toNat) r_12 ∧ (Q (C_13 (PT (PT v0.toNat 32).toNat r_6.toNat).toNat r_12.toNat) C_13))))))))
theorem m_G_costBetween (l : Launch) (E : Ev) (n : Nat) (C : Cn) (v0 v1 v2 v3 v4 : Int) (Q : Int → Cn → Prop) (h : P_G_costBetween n C v0 v1 v2 v3 v4 Q) : MA l y_G_costBetween M_G_costBetween E true C n [(2, v0), (0, v1), (0, v2), (0, v3), (0, v4)] (fun r C2 n2 => n2 = n ∧ Q r C2) := by
  refine MA.of (by decide) rfl rfl 0 rfl (fun p e s m args below meth c => ?_)
  show AW p l e _ s m args below meth c E M_G_costBetween true _ n 0 0 0 [(2, v0), (0, v1), (0, v2), (0, v3), (0, v4)] [] C
  unfold P_G_costBetween at h
  refine AW.ra_n (dc hd_G_costBetween 0 rfl) rfl rfl rfl ?_
  obtain ⟨g_1, h⟩ := h
  refine AW.callV (As := []) (rest := []) (ci := 10) (m_G_costs l E n C v0 _ h) cb_10_349 im_G_costs se_G_costs ⟨_, _, rfl⟩ (by decide) (dc hd_G_costBetween 1 rfl) g_1 rfl rfl ⟨Nat.le_of_ble_eq_true rfl, Nat.le_of_ble_eq_true rfl⟩ ⟨(Nat.le_of_ble_eq_true rfl), (Nat.le_of_ble_eq_true rfl)⟩ (Nat.le_of_ble_eq_true rfl) (fun _ h => by cases h) (fun _ => rfl) (fun u_4 C_2 d_5 q_3 => ?_)
  obtain ⟨q_3a, h⟩ := q_3
  subst d_5
  show AW p l e _ s m args below meth c E M_G_costBetween true _ n _ _ _ [(2, v0), (0, v1), (0, v2), (0, v3), (0, v4)] [] C_2
  refine AW.ra_n (dc hd_G_costBetween 2 rfl) rfl rfl rfl ?_
  refine AW.getp fl_10_70 (dc hd_G_costBetween 3 rfl) g_1 rfl ?_
  refine AW.ra_n (dc hd_G_costBetween 4 rfl) rfl rfl rfl ?_
  refine AW.iload_n (dc hd_G_costBetween 5 rfl) rfl ?_
  refine AW.iload_n (dc hd_G_costBetween 6 rfl) rfl ?_
  refine AW.callV (As := [(0, v1), (0, v2)]) (rest := [(2, PT v0.toNat 32)]) (ci := 10) (m_G_isIn l E n C_2 v0 v1 v2 _ h) cb_10_281 im_G_isIn se_G_isIn ⟨_, _, rfl⟩ (by decide) (dc hd_G_costBetween 7 rfl) g_1 rfl rfl ⟨Nat.le_of_ble_eq_true rfl, Nat.le_of_ble_eq_true rfl⟩ ⟨(Nat.le_of_ble_eq_true rfl), (Nat.le_of_ble_eq_true rfl)⟩ (Nat.le_of_ble_eq_true rfl) (fun _ h => by cases h) (fun _ => rfl) (fun r_6 C_7 d_9 q_8 => ?_)
  obtain ⟨q_8a, h⟩ := q_8
  subst d_9
  show AW p l e _ s m args below meth c E M_G_costBetween true _ n _ _ _ [(2, v0), (0, v1), (0, v2), (0, v3), (0, v4)] [(0, r_6), (2, PT v0.toNat 32)] C_7
  obtain ⟨g_10, h⟩ := h
  obtain ⟨g_11, h⟩ := h
  refine AW.aaldp (by decide) (dc hd_G_costBetween 8 rfl) g_10 g_11 rfl ?_
  refine AW.ra_n (dc hd_G_costBetween 9 rfl) rfl rfl rfl ?_
  refine AW.iload_n (dc hd_G_costBetween 10 rfl) rfl ?_
  refine AW.iload (dc hd_G_costBetween 11 rfl) rfl ?_
  refine AW.callV (As := [(0, v3), (0, v4)]) (rest := [(2, PT (PT v0.toNat 32).toNat r_6.toNat)]) (ci := 10) (m_G_isIn l E n C_7 v0 v3 v4 _ h) cb_10_281 im_G_isIn se_G_isIn ⟨_, _, rfl⟩ (by decide) (dc hd_G_costBetween 12 rfl) g_1 rfl rfl ⟨Nat.le_of_ble_eq_true rfl, Nat.le_of_ble_eq_true rfl⟩ ⟨(Nat.le_of_ble_eq_true rfl), (Nat.le_of_ble_eq_true rfl)⟩ (Nat.le_of_ble_eq_true rfl) (fun _ h => by cases h) (fun _ => rfl) (fun r_12 C_13 d_15 q_14 => ?_)
  obtain ⟨q_14a, h⟩ := q_14
  subst d_15
  show AW p l e _ s m args below meth c E M_G_costBetween true _ n _ _ _ [(2, v0), (0, v1), (0, v2), (0, v3), (0, v4)] [(0, r_12), (2, PT (PT v0.toNat 32).toNat r_6.toNat)] C_13
  obtain ⟨g_16, h⟩ := h
  obtain ⟨g_17, h⟩ := h
  refine AW.iald (dc hd_G_costBetween 13 rfl) g_16 g_17 ?_
  exact AW.iret (dc hd_G_costBetween 14 rfl) rfl rfl (Nat.le_of_ble_eq_true rfl) (Nat.le_of_ble_eq_true rfl) ⟨rfl, h⟩
def J_G_areFree_28 (n : Nat) (C : Cn) (s0 : Int) (Q : Int → Cn → Prop) : Prop :=
  (s0 = 0 ∨ s0 = 1) ∧ (Q s0 C)
theorem aJ_G_areFree_28 (n : Nat) (C : Cn) (s0 : Int) (Q : Int → Cn → Prop) (h : J_G_areFree_28 n C s0 Q) : AW p l e R s m args below meth c E M_G_areFree true (fun r C2 n2 => n2 = n ∧ Q r C2) n 0 0 28 [(9, 0), (9, 0), (9, 0), (9, 0), (9, 0)] [(0, s0)] C := by
  unfold J_G_areFree_28 at h
  obtain ⟨g_16, h⟩ := h
  exact AW.zret (dc hd_G_areFree 15 rfl) rfl rfl (Nat.le_of_ble_eq_true rfl) (Nat.le_of_ble_eq_true rfl) g_16 ⟨rfl, h⟩
def P_G_areFree (n : Nat) (C : Cn) (v0 v1 v2 v3 v4 : Int) (Q : Int → Cn → Prop) : Prop :=
  okO n v0 10 ∧ (P_G_maps n C v0 (fun (_ : Int) (C_2 : Cn) => P_G_isFree n C_2 v0 v1 v2 (fun (r_6 : Int) (C_7 : Cn) => (r_6 = 0 → (Q 0 C_7)) ∧ (¬ r_6 = 0 → (P_G_isFree n C_7 v0 v3 v4 (fun (r_11 : Int) (C_12 : Cn) => J_G_areFree_28 n C_12 (if r_11 = 0 then 0 else 1) Q))))))
theorem m_G_areFree (l : Launch) (E : Ev) (n : Nat) (C : Cn) (v0 v1 v2 v3 v4 : Int) (Q : Int → Cn → Prop) (h : P_G_areFree n C v0 v1 v2 v3 v4 Q) : MA l y_G_areFree M_G_areFree E true C n [(2, v0), (0, v1), (0, v2), (0, v3), (0, v4)] (fun r C2 n2 => n2 = n ∧ Q r C2) := by
  refine MA.of (by decide) rfl rfl 0 rfl (fun p e s m args below meth c => ?_)
  show AW p l e _ s m args below meth c E M_G_areFree true _ n 0 0 0 [(2, v0), (0, v1), (0, v2), (0, v3), (0, v4)] [] C
  unfold P_G_areFree at h
  refine AW.ra_n (dc hd_G_areFree 0 rfl) rfl rfl rfl ?_
  obtain ⟨g_1, h⟩ := h
  refine AW.callV (As := []) (rest := []) (ci := 10) (m_G_maps l E n C v0 _ h) cb_10_211 im_G_maps se_G_maps ⟨_, _, rfl⟩ (by decide) (dc hd_G_areFree 1 rfl) g_1 rfl rfl ⟨Nat.le_of_ble_eq_true rfl, Nat.le_of_ble_eq_true rfl⟩ ⟨(Nat.le_of_ble_eq_true rfl), (Nat.le_of_ble_eq_true rfl)⟩ (Nat.le_of_ble_eq_true rfl) (fun _ h => by cases h) (fun _ => rfl) (fun u_4 C_2 d_5 q_3 => ?_)
  obtain ⟨q_3a, h⟩ := q_3
  subst d_5
  show AW p l e _ s m args below meth c E M_G_areFree true _ n _ _ _ [(2, v0), (0, v1), (0, v2), (0, v3), (0, v4)] [] C_2
  refine AW.ra_n (dc hd_G_areFree 2 rfl) rfl rfl rfl ?_
  refine AW.iload_n (dc hd_G_areFree 3 rfl) rfl ?_
  refine AW.iload_n (dc hd_G_areFree 4 rfl) rfl ?_
  refine AW.callV (As := [(0, v1), (0, v2)]) (rest := []) (ci := 10) (m_G_isFree l E n C_2 v0 v1 v2 _ h) cb_10_284 im_G_isFree se_G_isFree ⟨_, _, rfl⟩ (by decide) (dc hd_G_areFree 5 rfl) g_1 rfl rfl ⟨Nat.le_of_ble_eq_true rfl, Nat.le_of_ble_eq_true rfl⟩ ⟨(Nat.le_of_ble_eq_true rfl), (Nat.le_of_ble_eq_true rfl)⟩ (Nat.le_of_ble_eq_true rfl) (fun _ h => by cases h) (fun _ => rfl) (fun r_6 C_7 d_9 q_8 => ?_)
  obtain ⟨q_8a, h⟩ := q_8
  subst d_9
  show AW p l e _ s m args below meth c E M_G_areFree true _ n _ _ _ [(2, v0), (0, v1), (0, v2), (0, v3), (0, v4)] [(0, r_6)] C_7
  refine AW.if_eq (t := 27) (dc hd_G_areFree 6 rfl) (by decide) (fun c_10 => ?_) (fun c_10 => ?_)
  · have h := h.1 c_10
    refine AW.iconst (dc hd_G_areFree 14 rfl) (by decide) ?_
    exact AW.zret (dc hd_G_areFree 15 rfl) rfl rfl (Nat.le_of_ble_eq_true rfl) (Nat.le_of_ble_eq_true rfl) (by decide) ⟨rfl, h⟩
  · have h := h.2 c_10
    refine AW.ra_n (dc hd_G_areFree 7 rfl) rfl rfl rfl ?_
    refine AW.iload_n (dc hd_G_areFree 8 rfl) rfl ?_
    refine AW.iload (dc hd_G_areFree 9 rfl) rfl ?_
    refine AW.callV (As := [(0, v3), (0, v4)]) (rest := []) (ci := 10) (m_G_isFree l E n C_7 v0 v3 v4 _ h) cb_10_284 im_G_isFree se_G_isFree ⟨_, _, rfl⟩ (by decide) (dc hd_G_areFree 10 rfl) g_1 rfl rfl ⟨Nat.le_of_ble_eq_true rfl, Nat.le_of_ble_eq_true rfl⟩ ⟨(Nat.le_of_ble_eq_true rfl), (Nat.le_of_ble_eq_true rfl)⟩ (Nat.le_of_ble_eq_true rfl) (fun _ h => by cases h) (fun _ => rfl) (fun r_11 C_12 d_14 q_13 => ?_)
    obtain ⟨q_13a, h⟩ := q_13
    subst d_14
    show AW p l e _ s m args below meth c E M_G_areFree true _ n _ _ _ [(2, v0), (0, v1), (0, v2), (0, v3), (0, v4)] [(0, r_11)] C_12
    refine AW.if_eq (t := 27) (dc hd_G_areFree 11 rfl) (by decide) (fun c_15 => ?_) (fun c_15 => ?_)
    · simp only [if_pos c_15] at h
      refine AW.iconst (dc hd_G_areFree 14 rfl) (by decide) ?_
      refine AW.fgt [(9, 0), (9, 0), (9, 0), (9, 0), (9, 0)] ⟨.inr rfl, .inr rfl, .inr rfl, .inr rfl, .inr rfl, trivial⟩ ?_
      exact aJ_G_areFree_28 n C_12 _ Q h
    · simp only [if_neg c_15] at h
      refine AW.iconst (dc hd_G_areFree 12 rfl) (by decide) ?_
      refine AW.goto (t := 28) (dc hd_G_areFree 13 rfl) (by decide) ?_
      refine AW.fgt [(9, 0), (9, 0), (9, 0), (9, 0), (9, 0)] ⟨.inr rfl, .inr rfl, .inr rfl, .inr rfl, .inr rfl, trivial⟩ ?_
      exact aJ_G_areFree_28 n C_12 _ Q h
def B_G_laysAside_10 (n : Nat) (v0 : Int) (Q : Int → Cn → Prop) (k10 : Cn × Int → Prop) (z : Cn × Int) : Prop := match z with
  | (C, v1) => (6 ≤ v1 → (Q 0 C)) ∧ (¬ 6 ≤ v1 → (okO n v0 10 ∧ (okO n (PT v0.toNat 1) 17 ∧ (okI (PT v0.toNat 1) v1 ∧ (okO n (PT v0.toNat 31) 17 ∧ (okI (PT v0.toNat 31) v1 ∧ (P_G_copies n C (PT (PT v0.toNat 1).toNat v1.toNat) (PT (PT v0.toNat 31).toNat v1.toNat) (fun (_ : Int) (C_9 : Cn) => k10 (C_9, w32 (v1 + 1))))))))))
theorem aB_G_laysAside_10 (n : Nat) (v0 : Int) (Q : Int → Cn → Prop) : ∀ (f : Nat) (z : Cn × Int), lp (B_G_laysAside_10 n v0 Q) f z → AW p l e R s m args below meth c E M_G_laysAside true (fun r C2 n2 => n2 = n ∧ Q r C2) n 0 0 10 [(2, v0), (0, z.2)] [] (z.1) := by
  intro f
  induction f with
  | zero => intro z h; exact False.elim h
  | succ f ih =>
    intro z h
    obtain ⟨C, v1⟩ := z
    have h : B_G_laysAside_10 n v0 Q (lp (B_G_laysAside_10 n v0 Q) f) (C, v1) := h
    unfold B_G_laysAside_10 at h
    dsimp only at h
    have hk10 : ∀ z : Cn × Int, lp (B_G_laysAside_10 n v0 Q) f z → _ := ih
    refine AW.iload_n (dc hd_G_laysAside 6 rfl) rfl ?_
    refine AW.bipush (dc hd_G_laysAside 7 rfl) (by decide) (by decide +kernel) ?_
    refine AW.icmp_ge (t := 37) (dc hd_G_laysAside 8 rfl) (by decide) (fun c_3 => ?_) (fun c_3 => ?_)
    · have h := h.1 c_3
      exact AW.vret (dc hd_G_laysAside 20 rfl) rfl rfl (Nat.le_of_ble_eq_true rfl) (Nat.le_of_ble_eq_true rfl) ⟨rfl, h⟩
    · have h := h.2 c_3
      refine AW.ra_n (dc hd_G_laysAside 9 rfl) rfl rfl rfl ?_
      obtain ⟨g_4, h⟩ := h
      refine AW.getp fl_10_11 (dc hd_G_laysAside 10 rfl) g_4 rfl ?_
      refine AW.iload_n (dc hd_G_laysAside 11 rfl) rfl ?_
      obtain ⟨g_5, h⟩ := h
      obtain ⟨g_6, h⟩ := h
      refine AW.aaldp (by decide) (dc hd_G_laysAside 12 rfl) g_5 g_6 rfl ?_
      refine AW.ra_n (dc hd_G_laysAside 13 rfl) rfl rfl rfl ?_
      refine AW.getp fl_10_67 (dc hd_G_laysAside 14 rfl) g_4 rfl ?_
      refine AW.iload_n (dc hd_G_laysAside 15 rfl) rfl ?_
      obtain ⟨g_7, h⟩ := h
      obtain ⟨g_8, h⟩ := h
      refine AW.aaldp (by decide) (dc hd_G_laysAside 16 rfl) g_7 g_8 rfl ?_
      refine AW.callS (As := [(2, PT (PT v0.toNat 1).toNat v1.toNat), (2, PT (PT v0.toNat 31).toNat v1.toNat)]) (rest := []) (m_G_copies l E n C (PT (PT v0.toNat 1).toNat v1.toNat) (PT (PT v0.toNat 31).toNat v1.toNat) _ h) cb_10_198 sm_G_copies (dc hd_G_laysAside 17 rfl) rfl rfl ⟨Nat.le_of_ble_eq_true rfl, Nat.le_of_ble_eq_true rfl⟩ ⟨(Nat.le_of_ble_eq_true rfl), (Nat.le_of_ble_eq_true rfl)⟩ (Nat.le_of_ble_eq_true rfl) (fun _ h => by cases h) (fun _ => rfl) (fun u_11 C_9 d_12 q_10 => ?_)
      obtain ⟨q_10a, h⟩ := q_10
      subst d_12
      show AW p l e _ s m args below meth c E M_G_laysAside true _ n _ _ _ [(2, v0), (0, v1)] [] C_9
      refine AW.iinc [(2, v0), (0, w32 (v1 + 1))] (dc hd_G_laysAside 18 rfl) rfl (Nat.le_of_ble_eq_true rfl) rfl rfl ?_
      refine AW.goto (t := 10) (dc hd_G_laysAside 19 rfl) (by decide) ?_
      exact hk10 (C_9, w32 (v1 + 1)) h
def P_G_laysAside (n : Nat) (C : Cn) (v0 : Int) (Q : Int → Cn → Prop) : Prop :=
  okO n v0 10 ∧ (∀ C_2 : Cn, C_2 = wr C v0.toNat 34 (C v0.toNat 0) → (∃ f_13 : Nat, lp (B_G_laysAside_10 n v0 Q) f_13 (C_2, 0)))
theorem m_G_laysAside (l : Launch) (E : Ev) (n : Nat) (C : Cn) (v0 : Int) (Q : Int → Cn → Prop) (h : P_G_laysAside n C v0 Q) : MA l y_G_laysAside M_G_laysAside E true C n [(2, v0)] (fun r C2 n2 => n2 = n ∧ Q r C2) := by
  refine MA.of (by decide) rfl rfl 1 rfl (fun p e s m args below meth c => ?_)
  show AW p l e _ s m args below meth c E M_G_laysAside true _ n 0 0 0 [(2, v0), (9, 0)] [] C
  unfold P_G_laysAside at h
  refine AW.ra_n (dc hd_G_laysAside 0 rfl) rfl rfl rfl ?_
  refine AW.ra_n (dc hd_G_laysAside 1 rfl) rfl rfl rfl ?_
  obtain ⟨g_1, h⟩ := h
  refine AW.getf fl_10_117 (dc hd_G_laysAside 2 rfl) g_1 ?_
  refine AW.nputI fl_10_354 (dc hd_G_laysAside 3 rfl) g_1 (fun C_2 eC_2 => ?_)
  have h := h C_2 eC_2
  refine AW.iconst (dc hd_G_laysAside 4 rfl) (by decide) ?_
  refine AW.istore_n [(2, v0), (0, 0)] (dc hd_G_laysAside 5 rfl) (Nat.le_of_ble_eq_true rfl) rfl rfl ?_
  obtain ⟨f_13, h⟩ := h
  exact aB_G_laysAside_10 n v0 Q f_13 (C_2, 0) h
def B_G_laysBack_10 (n : Nat) (v0 : Int) (Q : Int → Cn → Prop) (k10 : Cn × Int → Prop) (z : Cn × Int) : Prop := match z with
  | (C, v1) => (6 ≤ v1 → (Q 0 C)) ∧ (¬ 6 ≤ v1 → (okO n v0 10 ∧ (okO n (PT v0.toNat 31) 17 ∧ (okI (PT v0.toNat 31) v1 ∧ (okO n (PT v0.toNat 1) 17 ∧ (okI (PT v0.toNat 1) v1 ∧ (P_G_copies n C (PT (PT v0.toNat 31).toNat v1.toNat) (PT (PT v0.toNat 1).toNat v1.toNat) (fun (_ : Int) (C_9 : Cn) => k10 (C_9, w32 (v1 + 1))))))))))
theorem aB_G_laysBack_10 (n : Nat) (v0 : Int) (Q : Int → Cn → Prop) : ∀ (f : Nat) (z : Cn × Int), lp (B_G_laysBack_10 n v0 Q) f z → AW p l e R s m args below meth c E M_G_laysBack true (fun r C2 n2 => n2 = n ∧ Q r C2) n 0 0 10 [(2, v0), (0, z.2)] [] (z.1) := by
  intro f
  induction f with
  | zero => intro z h; exact False.elim h
  | succ f ih =>
    intro z h
    obtain ⟨C, v1⟩ := z
    have h : B_G_laysBack_10 n v0 Q (lp (B_G_laysBack_10 n v0 Q) f) (C, v1) := h
    unfold B_G_laysBack_10 at h
    dsimp only at h
    have hk10 : ∀ z : Cn × Int, lp (B_G_laysBack_10 n v0 Q) f z → _ := ih
    refine AW.iload_n (dc hd_G_laysBack 6 rfl) rfl ?_
    refine AW.bipush (dc hd_G_laysBack 7 rfl) (by decide) (by decide +kernel) ?_
    refine AW.icmp_ge (t := 37) (dc hd_G_laysBack 8 rfl) (by decide) (fun c_3 => ?_) (fun c_3 => ?_)
    · have h := h.1 c_3
      exact AW.vret (dc hd_G_laysBack 20 rfl) rfl rfl (Nat.le_of_ble_eq_true rfl) (Nat.le_of_ble_eq_true rfl) ⟨rfl, h⟩
    · have h := h.2 c_3
      refine AW.ra_n (dc hd_G_laysBack 9 rfl) rfl rfl rfl ?_
      obtain ⟨g_4, h⟩ := h
      refine AW.getp fl_10_67 (dc hd_G_laysBack 10 rfl) g_4 rfl ?_
      refine AW.iload_n (dc hd_G_laysBack 11 rfl) rfl ?_
      obtain ⟨g_5, h⟩ := h
      obtain ⟨g_6, h⟩ := h
      refine AW.aaldp (by decide) (dc hd_G_laysBack 12 rfl) g_5 g_6 rfl ?_
      refine AW.ra_n (dc hd_G_laysBack 13 rfl) rfl rfl rfl ?_
      refine AW.getp fl_10_11 (dc hd_G_laysBack 14 rfl) g_4 rfl ?_
      refine AW.iload_n (dc hd_G_laysBack 15 rfl) rfl ?_
      obtain ⟨g_7, h⟩ := h
      obtain ⟨g_8, h⟩ := h
      refine AW.aaldp (by decide) (dc hd_G_laysBack 16 rfl) g_7 g_8 rfl ?_
      refine AW.callS (As := [(2, PT (PT v0.toNat 31).toNat v1.toNat), (2, PT (PT v0.toNat 1).toNat v1.toNat)]) (rest := []) (m_G_copies l E n C (PT (PT v0.toNat 31).toNat v1.toNat) (PT (PT v0.toNat 1).toNat v1.toNat) _ h) cb_10_198 sm_G_copies (dc hd_G_laysBack 17 rfl) rfl rfl ⟨Nat.le_of_ble_eq_true rfl, Nat.le_of_ble_eq_true rfl⟩ ⟨(Nat.le_of_ble_eq_true rfl), (Nat.le_of_ble_eq_true rfl)⟩ (Nat.le_of_ble_eq_true rfl) (fun _ h => by cases h) (fun _ => rfl) (fun u_11 C_9 d_12 q_10 => ?_)
      obtain ⟨q_10a, h⟩ := q_10
      subst d_12
      show AW p l e _ s m args below meth c E M_G_laysBack true _ n _ _ _ [(2, v0), (0, v1)] [] C_9
      refine AW.iinc [(2, v0), (0, w32 (v1 + 1))] (dc hd_G_laysBack 18 rfl) rfl (Nat.le_of_ble_eq_true rfl) rfl rfl ?_
      refine AW.goto (t := 10) (dc hd_G_laysBack 19 rfl) (by decide) ?_
      exact hk10 (C_9, w32 (v1 + 1)) h
def P_G_laysBack (n : Nat) (C : Cn) (v0 : Int) (Q : Int → Cn → Prop) : Prop :=
  okO n v0 10 ∧ (∀ C_2 : Cn, C_2 = wr C v0.toNat 0 (C v0.toNat 34) → (∃ f_13 : Nat, lp (B_G_laysBack_10 n v0 Q) f_13 (C_2, 0)))
theorem m_G_laysBack (l : Launch) (E : Ev) (n : Nat) (C : Cn) (v0 : Int) (Q : Int → Cn → Prop) (h : P_G_laysBack n C v0 Q) : MA l y_G_laysBack M_G_laysBack E true C n [(2, v0)] (fun r C2 n2 => n2 = n ∧ Q r C2) := by
  refine MA.of (by decide) rfl rfl 1 rfl (fun p e s m args below meth c => ?_)
  show AW p l e _ s m args below meth c E M_G_laysBack true _ n 0 0 0 [(2, v0), (9, 0)] [] C
  unfold P_G_laysBack at h
  refine AW.ra_n (dc hd_G_laysBack 0 rfl) rfl rfl rfl ?_
  refine AW.ra_n (dc hd_G_laysBack 1 rfl) rfl rfl rfl ?_
  obtain ⟨g_1, h⟩ := h
  refine AW.getf fl_10_354 (dc hd_G_laysBack 2 rfl) g_1 ?_
  refine AW.nputI fl_10_117 (dc hd_G_laysBack 3 rfl) g_1 (fun C_2 eC_2 => ?_)
  have h := h C_2 eC_2
  refine AW.iconst (dc hd_G_laysBack 4 rfl) (by decide) ?_
  refine AW.istore_n [(2, v0), (0, 0)] (dc hd_G_laysBack 5 rfl) (Nat.le_of_ble_eq_true rfl) rfl rfl ?_
  obtain ⟨f_13, h⟩ := h
  exact aB_G_laysBack_10 n v0 Q f_13 (C_2, 0) h
end
