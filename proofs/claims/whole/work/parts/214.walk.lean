section
variable {p : Program} {l : Launch} {e : Env} {R : Room} {s : State} {m : MethodId} {args : Array Value} {below : List Frame} {meth : Method} {c : Code} {E : Ev}
def J_G_stepsOf_225 (n : Nat) (C : Cn) (s0 : Int) (Q : Int → Cn → Prop) : Prop :=
  Q s0 C
theorem aJ_G_stepsOf_225 (n : Nat) (C : Cn) (s0 : Int) (Q : Int → Cn → Prop) (h : J_G_stepsOf_225 n C s0 Q) : AW p l e R s m args below meth c E M_G_stepsOf true (fun r C2 n2 => n2 = n ∧ Q r C2) n 0 0 225 [(9, 0), (9, 0), (9, 0), (9, 0), (9, 0), (9, 0), (9, 0), (9, 0), (9, 0), (9, 0), (9, 0), (9, 0)] [(0, s0)] C := by
  unfold J_G_stepsOf_225 at h
  exact AW.iret (dc hd_G_stepsOf 118 rfl) rfl rfl (Nat.le_of_ble_eq_true rfl) (Nat.le_of_ble_eq_true rfl) ⟨rfl, h⟩
def J_G_stepsOf_202 (n : Nat) (C : Cn) (v0 v1 v4 s0 s1 : Int) (Q : Int → Cn → Prop) : Prop :=
  okO n v0 10 ∧ (okO n (PT v0.toNat 14) 12 ∧ (okI (PT v0.toNat 14) v4 ∧ (J_G_stepsOf_225 n C (if v1 ≤ C (PT v0.toNat 14).toNat v4.toNat then w32 (w32 (s0 + s1) + 1) else w32 (s0 + s1)) Q)))
theorem aJ_G_stepsOf_202 (n : Nat) (C : Cn) (v0 v1 v4 s0 s1 : Int) (Q : Int → Cn → Prop) (h : J_G_stepsOf_202 n C v0 v1 v4 s0 s1 Q) : AW p l e R s m args below meth c E M_G_stepsOf true (fun r C2 n2 => n2 = n ∧ Q r C2) n 0 0 202 [(2, v0), (0, v1), (9, 0), (9, 0), (0, v4), (9, 0), (9, 0), (9, 0), (9, 0), (9, 0), (9, 0), (9, 0)] [(0, s1), (0, s0)] C := by
  unfold J_G_stepsOf_202 at h
  refine AW.iadd (dc hd_G_stepsOf 105 rfl) ?_
  refine AW.istore [(2, v0), (0, v1), (9, 0), (9, 0), (0, v4), (9, 0), (9, 0), (9, 0), (9, 0), (9, 0), (0, w32 (s0 + s1)), (9, 0)] (dc hd_G_stepsOf 106 rfl) (Nat.le_of_ble_eq_true rfl) rfl rfl ?_
  refine AW.iload_n (dc hd_G_stepsOf 107 rfl) rfl ?_
  refine AW.ra_n (dc hd_G_stepsOf 108 rfl) rfl rfl rfl ?_
  obtain ⟨g_24, h⟩ := h
  refine AW.getp fl_10_37 (dc hd_G_stepsOf 109 rfl) g_24 rfl ?_
  refine AW.iload (dc hd_G_stepsOf 110 rfl) rfl ?_
  obtain ⟨g_25, h⟩ := h
  obtain ⟨g_26, h⟩ := h
  refine AW.iald (dc hd_G_stepsOf 111 rfl) g_25 g_26 ?_
  refine AW.icmp_le (t := 221) (dc hd_G_stepsOf 112 rfl) (by decide) (fun c_27 => ?_) (fun c_27 => ?_)
  · simp only [if_pos (show v1 ≤ C (PT v0.toNat 14).toNat v4.toNat from c_27)] at h
    refine AW.iload (dc hd_G_stepsOf 115 rfl) rfl ?_
    refine AW.iconst (dc hd_G_stepsOf 116 rfl) (by decide) ?_
    refine AW.iadd (dc hd_G_stepsOf 117 rfl) ?_
    refine AW.fgt [(9, 0), (9, 0), (9, 0), (9, 0), (9, 0), (9, 0), (9, 0), (9, 0), (9, 0), (9, 0), (9, 0), (9, 0)] ⟨.inr rfl, .inr rfl, .inl rfl, .inl rfl, .inr rfl, .inl rfl, .inl rfl, .inl rfl, .inl rfl, .inl rfl, .inr rfl, .inl rfl, trivial⟩ ?_
    exact aJ_G_stepsOf_225 n C _ Q h
  · simp only [if_neg (show ¬ (v1 ≤ C (PT v0.toNat 14).toNat v4.toNat) from c_27)] at h
    refine AW.iload (dc hd_G_stepsOf 113 rfl) rfl ?_
    refine AW.goto (t := 225) (dc hd_G_stepsOf 114 rfl) (by decide) ?_
    refine AW.fgt [(9, 0), (9, 0), (9, 0), (9, 0), (9, 0), (9, 0), (9, 0), (9, 0), (9, 0), (9, 0), (9, 0), (9, 0)] ⟨.inr rfl, .inr rfl, .inl rfl, .inl rfl, .inr rfl, .inl rfl, .inl rfl, .inl rfl, .inl rfl, .inl rfl, .inr rfl, .inl rfl, trivial⟩ ?_
    exact aJ_G_stepsOf_225 n C _ Q h
def J_G_stepsOf_188 (n : Nat) (C : Cn) (v0 v1 v4 v10 s0 : Int) (Q : Int → Cn → Prop) : Prop :=
  J_G_stepsOf_202 n C v0 v1 v4 v10 (if s0 = 0 then 0 else 1) Q
theorem aJ_G_stepsOf_188 (n : Nat) (C : Cn) (v0 v1 v4 v10 s0 : Int) (Q : Int → Cn → Prop) (h : J_G_stepsOf_188 n C v0 v1 v4 v10 s0 Q) : AW p l e R s m args below meth c E M_G_stepsOf true (fun r C2 n2 => n2 = n ∧ Q r C2) n 0 0 188 [(2, v0), (0, v1), (9, 0), (9, 0), (0, v4), (9, 0), (9, 0), (9, 0), (9, 0), (9, 0), (0, v10), (9, 0)] [(0, s0)] C := by
  unfold J_G_stepsOf_188 at h
  refine AW.istore [(2, v0), (0, v1), (9, 0), (9, 0), (0, v4), (9, 0), (9, 0), (9, 0), (9, 0), (9, 0), (0, v10), (0, s0)] (dc hd_G_stepsOf 98 rfl) (Nat.le_of_ble_eq_true rfl) rfl rfl ?_
  refine AW.iload (dc hd_G_stepsOf 99 rfl) rfl ?_
  refine AW.iload (dc hd_G_stepsOf 100 rfl) rfl ?_
  refine AW.if_eq (t := 201) (dc hd_G_stepsOf 101 rfl) (by decide) (fun c_23 => ?_) (fun c_23 => ?_)
  · simp only [if_pos (show s0 = 0 from c_23)] at h
    refine AW.iconst (dc hd_G_stepsOf 104 rfl) (by decide) ?_
    refine AW.fgt [(2, v0), (0, v1), (9, 0), (9, 0), (0, v4), (9, 0), (9, 0), (9, 0), (9, 0), (9, 0), (9, 0), (9, 0)] ⟨.inl rfl, .inl rfl, .inl rfl, .inl rfl, .inl rfl, .inl rfl, .inl rfl, .inl rfl, .inl rfl, .inl rfl, .inr rfl, .inr rfl, trivial⟩ ?_
    exact aJ_G_stepsOf_202 n C _ _ _ _ _ Q h
  · simp only [if_neg (show ¬ (s0 = 0) from c_23)] at h
    refine AW.iconst (dc hd_G_stepsOf 102 rfl) (by decide) ?_
    refine AW.goto (t := 202) (dc hd_G_stepsOf 103 rfl) (by decide) ?_
    refine AW.fgt [(2, v0), (0, v1), (9, 0), (9, 0), (0, v4), (9, 0), (9, 0), (9, 0), (9, 0), (9, 0), (9, 0), (9, 0)] ⟨.inl rfl, .inl rfl, .inl rfl, .inl rfl, .inl rfl, .inl rfl, .inl rfl, .inl rfl, .inl rfl, .inl rfl, .inr rfl, .inr rfl, trivial⟩ ?_
    exact aJ_G_stepsOf_202 n C _ _ _ _ _ Q h
def J_G_stepsOf_183 (n : Nat) (C : Cn) (v0 v1 v4 v10 : Int) (Q : Int → Cn → Prop) : Prop :=
  J_G_stepsOf_188 n C v0 v1 v4 v10 1 Q
theorem aJ_G_stepsOf_183 (n : Nat) (C : Cn) (v0 v1 v4 v10 : Int) (Q : Int → Cn → Prop) (h : J_G_stepsOf_183 n C v0 v1 v4 v10 Q) : AW p l e R s m args below meth c E M_G_stepsOf true (fun r C2 n2 => n2 = n ∧ Q r C2) n 0 0 183 [(2, v0), (0, v1), (9, 0), (9, 0), (0, v4), (9, 0), (9, 0), (9, 0), (9, 0), (9, 0), (0, v10), (9, 0)] [] C := by
  unfold J_G_stepsOf_183 at h
  refine AW.iconst (dc hd_G_stepsOf 95 rfl) (by decide) ?_
  refine AW.goto (t := 188) (dc hd_G_stepsOf 96 rfl) (by decide) ?_
  exact aJ_G_stepsOf_188 n C v0 v1 v4 v10 1 Q h
def J_G_stepsOf_146 (n : Nat) (C : Cn) (v0 v1 v4 v8 s0 : Int) (Q : Int → Cn → Prop) : Prop :=
  okO n v0 10 ∧ (okO n (PT v0.toNat 13) 12 ∧ (okI (PT v0.toNat 13) v4 ∧ ((C (PT v0.toNat 13).toNat v4.toNat < v1 → ((v8 = C v0.toNat 10 → (J_G_stepsOf_183 n C v0 v1 v4 s0 Q)) ∧ (¬ v8 = C v0.toNat 10 → (okO n (PT v0.toNat 14) 12 ∧ (okI (PT v0.toNat 14) v4 ∧ (J_G_stepsOf_188 n C v0 v1 v4 s0 (if v8 ≤ C (PT v0.toNat 14).toNat v4.toNat then 0 else 1) Q)))))) ∧ (¬ C (PT v0.toNat 13).toNat v4.toNat < v1 → (Q s0 C)))))
theorem aJ_G_stepsOf_146 (n : Nat) (C : Cn) (v0 v1 v4 v8 s0 : Int) (Q : Int → Cn → Prop) (h : J_G_stepsOf_146 n C v0 v1 v4 v8 s0 Q) : AW p l e R s m args below meth c E M_G_stepsOf true (fun r C2 n2 => n2 = n ∧ Q r C2) n 0 0 146 [(2, v0), (0, v1), (9, 0), (9, 0), (0, v4), (9, 0), (9, 0), (9, 0), (0, v8), (9, 0), (9, 0), (9, 0)] [(0, s0)] C := by
  unfold J_G_stepsOf_146 at h
  refine AW.istore [(2, v0), (0, v1), (9, 0), (9, 0), (0, v4), (9, 0), (9, 0), (9, 0), (0, v8), (9, 0), (0, s0), (9, 0)] (dc hd_G_stepsOf 76 rfl) (Nat.le_of_ble_eq_true rfl) rfl rfl ?_
  refine AW.iload_n (dc hd_G_stepsOf 77 rfl) rfl ?_
  refine AW.ra_n (dc hd_G_stepsOf 78 rfl) rfl rfl rfl ?_
  obtain ⟨g_17, h⟩ := h
  refine AW.getp fl_10_34 (dc hd_G_stepsOf 79 rfl) g_17 rfl ?_
  refine AW.iload (dc hd_G_stepsOf 80 rfl) rfl ?_
  obtain ⟨g_18, h⟩ := h
  obtain ⟨g_19, h⟩ := h
  refine AW.iald (dc hd_G_stepsOf 81 rfl) g_18 g_19 ?_
  refine AW.icmp_gt (t := 162) (dc hd_G_stepsOf 82 rfl) (by decide) (fun c_20 => ?_) (fun c_20 => ?_)
  · have h := h.1 c_20
    refine AW.iload (dc hd_G_stepsOf 85 rfl) rfl ?_
    refine AW.ra_n (dc hd_G_stepsOf 86 rfl) rfl rfl rfl ?_
    refine AW.getf fl_10_221 (dc hd_G_stepsOf 87 rfl) g_17 ?_
    refine AW.icmp_eq (t := 183) (dc hd_G_stepsOf 88 rfl) (by decide) (fun c_22 => ?_) (fun c_22 => ?_)
    · have h := h.1 c_22
      refine AW.fgt [(2, v0), (0, v1), (9, 0), (9, 0), (0, v4), (9, 0), (9, 0), (9, 0), (9, 0), (9, 0), (0, s0), (9, 0)] ⟨.inl rfl, .inl rfl, .inl rfl, .inl rfl, .inl rfl, .inl rfl, .inl rfl, .inl rfl, .inr rfl, .inl rfl, .inl rfl, .inl rfl, trivial⟩ ?_
      exact aJ_G_stepsOf_183 n C v0 v1 v4 s0 Q h
    · have h := h.2 c_22
      refine AW.ra_n (dc hd_G_stepsOf 89 rfl) rfl rfl rfl ?_
      refine AW.getp fl_10_37 (dc hd_G_stepsOf 90 rfl) g_17 rfl ?_
      refine AW.iload (dc hd_G_stepsOf 91 rfl) rfl ?_
      obtain ⟨g_28, h⟩ := h
      obtain ⟨g_29, h⟩ := h
      refine AW.iald (dc hd_G_stepsOf 92 rfl) g_28 g_29 ?_
      refine AW.iload (dc hd_G_stepsOf 93 rfl) rfl ?_
      refine AW.icmp_ge (t := 187) (dc hd_G_stepsOf 94 rfl) (by decide) (fun c_30 => ?_) (fun c_30 => ?_)
      · simp only [if_pos (show v8 ≤ C (PT v0.toNat 14).toNat v4.toNat from c_30)] at h
        refine AW.iconst (dc hd_G_stepsOf 97 rfl) (by decide) ?_
        refine AW.fgt [(2, v0), (0, v1), (9, 0), (9, 0), (0, v4), (9, 0), (9, 0), (9, 0), (9, 0), (9, 0), (0, s0), (9, 0)] ⟨.inl rfl, .inl rfl, .inl rfl, .inl rfl, .inl rfl, .inl rfl, .inl rfl, .inl rfl, .inr rfl, .inl rfl, .inl rfl, .inl rfl, trivial⟩ ?_
        exact aJ_G_stepsOf_188 n C _ _ _ _ _ Q h
      · simp only [if_neg (show ¬ (v8 ≤ C (PT v0.toNat 14).toNat v4.toNat) from c_30)] at h
        refine AW.iconst (dc hd_G_stepsOf 95 rfl) (by decide) ?_
        refine AW.goto (t := 188) (dc hd_G_stepsOf 96 rfl) (by decide) ?_
        refine AW.fgt [(2, v0), (0, v1), (9, 0), (9, 0), (0, v4), (9, 0), (9, 0), (9, 0), (9, 0), (9, 0), (0, s0), (9, 0)] ⟨.inl rfl, .inl rfl, .inl rfl, .inl rfl, .inl rfl, .inl rfl, .inl rfl, .inl rfl, .inr rfl, .inl rfl, .inl rfl, .inl rfl, trivial⟩ ?_
        exact aJ_G_stepsOf_188 n C _ _ _ _ _ Q h
  · have h := h.2 c_20
    refine AW.iload (dc hd_G_stepsOf 83 rfl) rfl ?_
    exact AW.iret (dc hd_G_stepsOf 84 rfl) rfl rfl (Nat.le_of_ble_eq_true rfl) (Nat.le_of_ble_eq_true rfl) ⟨rfl, h⟩
def J_G_stepsOf_120 (n : Nat) (C : Cn) (v0 v1 v4 v7 v8 v9 : Int) (Q : Int → Cn → Prop) : Prop :=
  (v9 = 0 → (Q 0 C)) ∧ (¬ v9 = 0 → (okO n v0 10 ∧ (okO n (PT v0.toNat 13) 12 ∧ (okI (PT v0.toNat 13) v4 ∧ (J_G_stepsOf_146 n C v0 v1 v4 v8 (if C (PT v0.toNat 13).toNat v4.toNat ≤ w32 (v7 - 1) then 0 else 1) Q)))))
theorem aJ_G_stepsOf_120 (n : Nat) (C : Cn) (v0 v1 v4 v7 v8 v9 : Int) (Q : Int → Cn → Prop) (h : J_G_stepsOf_120 n C v0 v1 v4 v7 v8 v9 Q) : AW p l e R s m args below meth c E M_G_stepsOf true (fun r C2 n2 => n2 = n ∧ Q r C2) n 0 0 120 [(2, v0), (0, v1), (9, 0), (9, 0), (0, v4), (9, 0), (9, 0), (0, v7), (0, v8), (0, v9), (9, 0), (9, 0)] [] C := by
  unfold J_G_stepsOf_120 at h
  refine AW.iload (dc hd_G_stepsOf 61 rfl) rfl ?_
  refine AW.if_ne (t := 127) (dc hd_G_stepsOf 62 rfl) (by decide) (fun c_12 => ?_) (fun c_12 => ?_)
  · have h := h.2 c_12
    refine AW.ra_n (dc hd_G_stepsOf 65 rfl) rfl rfl rfl ?_
    obtain ⟨g_13, h⟩ := h
    refine AW.getp fl_10_34 (dc hd_G_stepsOf 66 rfl) g_13 rfl ?_
    refine AW.iload (dc hd_G_stepsOf 67 rfl) rfl ?_
    obtain ⟨g_14, h⟩ := h
    obtain ⟨g_15, h⟩ := h
    refine AW.iald (dc hd_G_stepsOf 68 rfl) g_14 g_15 ?_
    refine AW.iload (dc hd_G_stepsOf 69 rfl) rfl ?_
    refine AW.iconst (dc hd_G_stepsOf 70 rfl) (by decide) ?_
    refine AW.isub (dc hd_G_stepsOf 71 rfl) ?_
    refine AW.icmp_le (t := 145) (dc hd_G_stepsOf 72 rfl) (by decide) (fun c_16 => ?_) (fun c_16 => ?_)
    · simp only [if_pos (show C (PT v0.toNat 13).toNat v4.toNat ≤ w32 (v7 - 1) from c_16)] at h
      refine AW.iconst (dc hd_G_stepsOf 75 rfl) (by decide) ?_
      refine AW.fgt [(2, v0), (0, v1), (9, 0), (9, 0), (0, v4), (9, 0), (9, 0), (9, 0), (0, v8), (9, 0), (9, 0), (9, 0)] ⟨.inl rfl, .inl rfl, .inl rfl, .inl rfl, .inl rfl, .inl rfl, .inl rfl, .inr rfl, .inl rfl, .inr rfl, .inl rfl, .inl rfl, trivial⟩ ?_
      exact aJ_G_stepsOf_146 n C _ _ _ _ _ Q h
    · simp only [if_neg (show ¬ (C (PT v0.toNat 13).toNat v4.toNat ≤ w32 (v7 - 1)) from c_16)] at h
      refine AW.iconst (dc hd_G_stepsOf 73 rfl) (by decide) ?_
      refine AW.goto (t := 146) (dc hd_G_stepsOf 74 rfl) (by decide) ?_
      refine AW.fgt [(2, v0), (0, v1), (9, 0), (9, 0), (0, v4), (9, 0), (9, 0), (9, 0), (0, v8), (9, 0), (9, 0), (9, 0)] ⟨.inl rfl, .inl rfl, .inl rfl, .inl rfl, .inl rfl, .inl rfl, .inl rfl, .inr rfl, .inl rfl, .inr rfl, .inl rfl, .inl rfl, trivial⟩ ?_
      exact aJ_G_stepsOf_146 n C _ _ _ _ _ Q h
  · have h := h.1 c_12
    refine AW.iconst (dc hd_G_stepsOf 63 rfl) (by decide) ?_
    exact AW.iret (dc hd_G_stepsOf 64 rfl) rfl rfl (Nat.le_of_ble_eq_true rfl) (Nat.le_of_ble_eq_true rfl) ⟨rfl, h⟩
def B_G_stepsOf_90 (n : Nat) (C : Cn) (v0 v1 v4 v5 v6 v7 v8 : Int) (Q : Int → Cn → Prop) (kz90 : Int × Int → Prop) (z : Int × Int) : Prop := match z with
  | (v9, v10) => (v8 < v10 → (J_G_stepsOf_120 n C v0 v1 v4 v7 v8 v9 Q)) ∧ (¬ v8 < v10 → (okO n v0 10 ∧ (P_G_isBetween n C v0 v10 v4 v5 v6 (fun (r_31 : Int) => kz90 (or32 v9 r_31, w32 (v10 + 1))))))
theorem bB_G_stepsOf_90 (n : Nat) (C : Cn) (v0 v1 v4 v5 v6 v7 v8 : Int) (Q : Int → Cn → Prop) (kz90 : Int × Int → Prop) (hkz90 : ∀ (z9 : Int) (z10 : Int), kz90 (z9, z10) → AW p l e R s m args below meth c E M_G_stepsOf true (fun r C2 n2 => n2 = n ∧ Q r C2) n 0 0 90 [(2, v0), (0, v1), (9, 0), (9, 0), (0, v4), (0, v5), (0, v6), (0, v7), (0, v8), (0, z9), (0, z10), (9, 0)] [] C) (v9 : Int) (v10 : Int) (h : B_G_stepsOf_90 n C v0 v1 v4 v5 v6 v7 v8 Q kz90 (v9, v10)) : AW p l e R s m args below meth c E M_G_stepsOf true (fun r C2 n2 => n2 = n ∧ Q r C2) n 0 0 90 [(2, v0), (0, v1), (9, 0), (9, 0), (0, v4), (0, v5), (0, v6), (0, v7), (0, v8), (0, v9), (0, v10), (9, 0)] [] C := by
  unfold B_G_stepsOf_90 at h
  dsimp only at h
  refine AW.iload (dc hd_G_stepsOf 47 rfl) rfl ?_
  refine AW.iload (dc hd_G_stepsOf 48 rfl) rfl ?_
  refine AW.icmp_gt (t := 120) (dc hd_G_stepsOf 49 rfl) (by decide) (fun c_11 => ?_) (fun c_11 => ?_)
  · have h := h.1 c_11
    refine AW.fgt [(2, v0), (0, v1), (9, 0), (9, 0), (0, v4), (9, 0), (9, 0), (0, v7), (0, v8), (0, v9), (9, 0), (9, 0)] ⟨.inl rfl, .inl rfl, .inl rfl, .inl rfl, .inl rfl, .inr rfl, .inr rfl, .inl rfl, .inl rfl, .inl rfl, .inr rfl, .inl rfl, trivial⟩ ?_
    exact aJ_G_stepsOf_120 n C v0 v1 v4 v7 v8 v9 Q h
  · have h := h.2 c_11
    refine AW.iload (dc hd_G_stepsOf 50 rfl) rfl ?_
    refine AW.ra_n (dc hd_G_stepsOf 51 rfl) rfl rfl rfl ?_
    refine AW.iload (dc hd_G_stepsOf 52 rfl) rfl ?_
    refine AW.iload (dc hd_G_stepsOf 53 rfl) rfl ?_
    refine AW.iload (dc hd_G_stepsOf 54 rfl) rfl ?_
    refine AW.iload (dc hd_G_stepsOf 55 rfl) rfl ?_
    obtain ⟨g_32, h⟩ := h
    refine AW.callV (As := [(0, v10), (0, v4), (0, v5), (0, v6)]) (rest := [(0, v9)]) (ci := 10) (m_G_isBetween l E n C v0 v10 v4 v5 v6 _ h) cb_10_303 im_G_isBetween se_G_isBetween ⟨_, _, rfl⟩ (by decide) (dc hd_G_stepsOf 56 rfl) g_32 rfl rfl ⟨Nat.le_of_ble_eq_true rfl, Nat.le_of_ble_eq_true rfl⟩ ⟨(Nat.le_of_ble_eq_true rfl), (Nat.le_of_ble_eq_true rfl)⟩ (Nat.le_of_ble_eq_true rfl) (fun _ h => by cases h) (fun _ => rfl) (fun r_31 D_34 d_35 q_33 => ?_)
    obtain ⟨q_33a, q_33b, h⟩ := q_33
    subst D_34
    subst d_35
    show AW p l e _ s m args below meth c E M_G_stepsOf true _ n _ _ _ [(2, v0), (0, v1), (9, 0), (9, 0), (0, v4), (0, v5), (0, v6), (0, v7), (0, v8), (0, v9), (0, v10), (9, 0)] [(0, r_31), (0, v9)] C
    refine AW.ior (dc hd_G_stepsOf 57 rfl) ?_
    refine AW.istore [(2, v0), (0, v1), (9, 0), (9, 0), (0, v4), (0, v5), (0, v6), (0, v7), (0, v8), (0, or32 v9 r_31), (0, v10), (9, 0)] (dc hd_G_stepsOf 58 rfl) (Nat.le_of_ble_eq_true rfl) rfl rfl ?_
    refine AW.iinc [(2, v0), (0, v1), (9, 0), (9, 0), (0, v4), (0, v5), (0, v6), (0, v7), (0, v8), (0, or32 v9 r_31), (0, w32 (v10 + 1)), (9, 0)] (dc hd_G_stepsOf 59 rfl) rfl (Nat.le_of_ble_eq_true rfl) rfl rfl ?_
    refine AW.goto (t := 90) (dc hd_G_stepsOf 60 rfl) (by decide) ?_
    exact hkz90 (or32 v9 r_31) (w32 (v10 + 1)) h
theorem aB_G_stepsOf_90 (n : Nat) (C : Cn) (v0 v1 v4 v5 v6 v7 v8 : Int) (Q : Int → Cn → Prop) : ∀ (f : Nat) (z : Int × Int), lp (B_G_stepsOf_90 n C v0 v1 v4 v5 v6 v7 v8 Q) f z → AW p l e R s m args below meth c E M_G_stepsOf true (fun r C2 n2 => n2 = n ∧ Q r C2) n 0 0 90 [(2, v0), (0, v1), (9, 0), (9, 0), (0, v4), (0, v5), (0, v6), (0, v7), (0, v8), (0, z.1), (0, z.2), (9, 0)] [] C := by
  intro f
  induction f with
  | zero => intro z h; exact False.elim h
  | succ f ih => intro z h; exact bB_G_stepsOf_90 n C v0 v1 v4 v5 v6 v7 v8 Q (lp (B_G_stepsOf_90 n C v0 v1 v4 v5 v6 v7 v8 Q) f) (fun a0 a1 h => ih (a0, a1) h) z.1 z.2 h
def J_G_stepsOf_83 (n : Nat) (C : Cn) (v0 v1 v4 v5 v6 v7 v8 : Int) (Q : Int → Cn → Prop) : Prop :=
  ∃ f_36 : Nat, lp (B_G_stepsOf_90 n C v0 v1 v4 v5 v6 v7 v8 Q) f_36 (0, v7)
theorem aJ_G_stepsOf_83 (n : Nat) (C : Cn) (v0 v1 v4 v5 v6 v7 v8 : Int) (Q : Int → Cn → Prop) (h : J_G_stepsOf_83 n C v0 v1 v4 v5 v6 v7 v8 Q) : AW p l e R s m args below meth c E M_G_stepsOf true (fun r C2 n2 => n2 = n ∧ Q r C2) n 0 0 83 [(2, v0), (0, v1), (9, 0), (9, 0), (0, v4), (0, v5), (0, v6), (0, v7), (0, v8), (9, 0), (9, 0), (9, 0)] [] C := by
  unfold J_G_stepsOf_83 at h
  refine AW.iconst (dc hd_G_stepsOf 43 rfl) (by decide) ?_
  refine AW.istore [(2, v0), (0, v1), (9, 0), (9, 0), (0, v4), (0, v5), (0, v6), (0, v7), (0, v8), (0, 0), (9, 0), (9, 0)] (dc hd_G_stepsOf 44 rfl) (Nat.le_of_ble_eq_true rfl) rfl rfl ?_
  refine AW.iload (dc hd_G_stepsOf 45 rfl) rfl ?_
  refine AW.istore [(2, v0), (0, v1), (9, 0), (9, 0), (0, v4), (0, v5), (0, v6), (0, v7), (0, v8), (0, 0), (0, v7), (9, 0)] (dc hd_G_stepsOf 46 rfl) (Nat.le_of_ble_eq_true rfl) rfl rfl ?_
  obtain ⟨f_36, h⟩ := h
  exact aB_G_stepsOf_90 n C v0 v1 v4 v5 v6 v7 v8 Q f_36 (0, v7) h
def B_G_stepsOf_52 (n : Nat) (C : Cn) (v0 v1 v3 v4 v5 v6 v7 : Int) (Q : Int → Cn → Prop) (kz52 : Int → Prop) (v8 : Int) : Prop :=
  okO n v0 10 ∧ ((C v0.toNat 10 ≤ v8 → (J_G_stepsOf_83 n C v0 v1 v4 v5 v6 v7 v8 Q)) ∧ (¬ C v0.toNat 10 ≤ v8 → (P_G_areNext n C v0 (w32 (v8 + 1)) v3 v5 v6 (fun (r_37 : Int) => (r_37 = 0 → (J_G_stepsOf_83 n C v0 v1 v4 v5 v6 v7 v8 Q)) ∧ (¬ r_37 = 0 → (kz52 (w32 (v8 + 1))))))))
theorem bB_G_stepsOf_52 (n : Nat) (C : Cn) (v0 v1 v3 v4 v5 v6 v7 : Int) (Q : Int → Cn → Prop) (kz52 : Int → Prop) (hkz52 : ∀ (z8 : Int), kz52 z8 → AW p l e R s m args below meth c E M_G_stepsOf true (fun r C2 n2 => n2 = n ∧ Q r C2) n 0 0 52 [(2, v0), (0, v1), (9, 0), (0, v3), (0, v4), (0, v5), (0, v6), (0, v7), (0, z8), (9, 0), (9, 0), (9, 0)] [] C) (v8 : Int) (h : B_G_stepsOf_52 n C v0 v1 v3 v4 v5 v6 v7 Q kz52 v8) : AW p l e R s m args below meth c E M_G_stepsOf true (fun r C2 n2 => n2 = n ∧ Q r C2) n 0 0 52 [(2, v0), (0, v1), (9, 0), (0, v3), (0, v4), (0, v5), (0, v6), (0, v7), (0, v8), (9, 0), (9, 0), (9, 0)] [] C := by
  unfold B_G_stepsOf_52 at h
  refine AW.iload (dc hd_G_stepsOf 28 rfl) rfl ?_
  refine AW.ra_n (dc hd_G_stepsOf 29 rfl) rfl rfl rfl ?_
  obtain ⟨g_9, h⟩ := h
  refine AW.getf fl_10_221 (dc hd_G_stepsOf 30 rfl) g_9 ?_
  refine AW.icmp_ge (t := 83) (dc hd_G_stepsOf 31 rfl) (by decide) (fun c_10 => ?_) (fun c_10 => ?_)
  · have h := h.1 c_10
    refine AW.fgt [(2, v0), (0, v1), (9, 0), (9, 0), (0, v4), (0, v5), (0, v6), (0, v7), (0, v8), (9, 0), (9, 0), (9, 0)] ⟨.inl rfl, .inl rfl, .inl rfl, .inr rfl, .inl rfl, .inl rfl, .inl rfl, .inl rfl, .inl rfl, .inl rfl, .inl rfl, .inl rfl, trivial⟩ ?_
    exact aJ_G_stepsOf_83 n C v0 v1 v4 v5 v6 v7 v8 Q h
  · have h := h.2 c_10
    refine AW.ra_n (dc hd_G_stepsOf 32 rfl) rfl rfl rfl ?_
    refine AW.iload (dc hd_G_stepsOf 33 rfl) rfl ?_
    refine AW.iconst (dc hd_G_stepsOf 34 rfl) (by decide) ?_
    refine AW.iadd (dc hd_G_stepsOf 35 rfl) ?_
    refine AW.iload_n (dc hd_G_stepsOf 36 rfl) rfl ?_
    refine AW.iload (dc hd_G_stepsOf 37 rfl) rfl ?_
    refine AW.iload (dc hd_G_stepsOf 38 rfl) rfl ?_
    refine AW.callV (As := [(0, w32 (v8 + 1)), (0, v3), (0, v5), (0, v6)]) (rest := []) (ci := 10) (m_G_areNext l E n C v0 (w32 (v8 + 1)) v3 v5 v6 _ h) cb_10_300 im_G_areNext se_G_areNext ⟨_, _, rfl⟩ (by decide) (dc hd_G_stepsOf 39 rfl) g_9 rfl rfl ⟨Nat.le_of_ble_eq_true rfl, Nat.le_of_ble_eq_true rfl⟩ ⟨(Nat.le_of_ble_eq_true rfl), (Nat.le_of_ble_eq_true rfl)⟩ (Nat.le_of_ble_eq_true rfl) (fun _ h => by cases h) (fun _ => rfl) (fun r_37 D_39 d_40 q_38 => ?_)
    obtain ⟨q_38a, q_38b, h⟩ := q_38
    subst D_39
    subst d_40
    show AW p l e _ s m args below meth c E M_G_stepsOf true _ n _ _ _ [(2, v0), (0, v1), (9, 0), (0, v3), (0, v4), (0, v5), (0, v6), (0, v7), (0, v8), (9, 0), (9, 0), (9, 0)] [(0, r_37)] C
    refine AW.if_eq (t := 83) (dc hd_G_stepsOf 40 rfl) (by decide) (fun c_41 => ?_) (fun c_41 => ?_)
    · have h := h.1 c_41
      refine AW.fgt [(2, v0), (0, v1), (9, 0), (9, 0), (0, v4), (0, v5), (0, v6), (0, v7), (0, v8), (9, 0), (9, 0), (9, 0)] ⟨.inl rfl, .inl rfl, .inl rfl, .inr rfl, .inl rfl, .inl rfl, .inl rfl, .inl rfl, .inl rfl, .inl rfl, .inl rfl, .inl rfl, trivial⟩ ?_
      exact aJ_G_stepsOf_83 n C v0 v1 v4 v5 v6 v7 v8 Q h
    · have h := h.2 c_41
      refine AW.iinc [(2, v0), (0, v1), (9, 0), (0, v3), (0, v4), (0, v5), (0, v6), (0, v7), (0, w32 (v8 + 1)), (9, 0), (9, 0), (9, 0)] (dc hd_G_stepsOf 41 rfl) rfl (Nat.le_of_ble_eq_true rfl) rfl rfl ?_
      refine AW.goto (t := 52) (dc hd_G_stepsOf 42 rfl) (by decide) ?_
      exact hkz52 (w32 (v8 + 1)) h
theorem aB_G_stepsOf_52 (n : Nat) (C : Cn) (v0 v1 v3 v4 v5 v6 v7 : Int) (Q : Int → Cn → Prop) : ∀ (f : Nat) (z : Int), lp (B_G_stepsOf_52 n C v0 v1 v3 v4 v5 v6 v7 Q) f z → AW p l e R s m args below meth c E M_G_stepsOf true (fun r C2 n2 => n2 = n ∧ Q r C2) n 0 0 52 [(2, v0), (0, v1), (9, 0), (0, v3), (0, v4), (0, v5), (0, v6), (0, v7), (0, z), (9, 0), (9, 0), (9, 0)] [] C := by
  intro f
  induction f with
  | zero => intro z h; exact False.elim h
  | succ f ih => intro z h; exact bB_G_stepsOf_52 n C v0 v1 v3 v4 v5 v6 v7 Q (lp (B_G_stepsOf_52 n C v0 v1 v3 v4 v5 v6 v7 Q) f) (fun a0 h => ih a0 h) z h
def J_G_stepsOf_49 (n : Nat) (C : Cn) (v0 v1 v3 v4 v5 v6 v7 : Int) (Q : Int → Cn → Prop) : Prop :=
  ∃ f_42 : Nat, lp (B_G_stepsOf_52 n C v0 v1 v3 v4 v5 v6 v7 Q) f_42 v1
theorem aJ_G_stepsOf_49 (n : Nat) (C : Cn) (v0 v1 v3 v4 v5 v6 v7 : Int) (Q : Int → Cn → Prop) (h : J_G_stepsOf_49 n C v0 v1 v3 v4 v5 v6 v7 Q) : AW p l e R s m args below meth c E M_G_stepsOf true (fun r C2 n2 => n2 = n ∧ Q r C2) n 0 0 49 [(2, v0), (0, v1), (9, 0), (0, v3), (0, v4), (0, v5), (0, v6), (0, v7), (9, 0), (9, 0), (9, 0), (9, 0)] [] C := by
  unfold J_G_stepsOf_49 at h
  refine AW.iload_n (dc hd_G_stepsOf 26 rfl) rfl ?_
  refine AW.istore [(2, v0), (0, v1), (9, 0), (0, v3), (0, v4), (0, v5), (0, v6), (0, v7), (0, v1), (9, 0), (9, 0), (9, 0)] (dc hd_G_stepsOf 27 rfl) (Nat.le_of_ble_eq_true rfl) rfl rfl ?_
  obtain ⟨f_42, h⟩ := h
  exact aB_G_stepsOf_52 n C v0 v1 v3 v4 v5 v6 v7 Q f_42 v1 h
def B_G_stepsOf_22 (n : Nat) (C : Cn) (v0 v1 v3 v4 v5 v6 : Int) (Q : Int → Cn → Prop) (kz22 : Int → Prop) (v7 : Int) : Prop :=
  (v7 ≤ 0 → (J_G_stepsOf_49 n C v0 v1 v3 v4 v5 v6 v7 Q)) ∧ (¬ v7 ≤ 0 → (okO n v0 10 ∧ (P_G_areNext n C v0 (w32 (v7 - 1)) v3 v5 v6 (fun (r_43 : Int) => (r_43 = 0 → (J_G_stepsOf_49 n C v0 v1 v3 v4 v5 v6 v7 Q)) ∧ (¬ r_43 = 0 → (kz22 (w32 (v7 + (-1)))))))))
theorem bB_G_stepsOf_22 (n : Nat) (C : Cn) (v0 v1 v3 v4 v5 v6 : Int) (Q : Int → Cn → Prop) (kz22 : Int → Prop) (hkz22 : ∀ (z7 : Int), kz22 z7 → AW p l e R s m args below meth c E M_G_stepsOf true (fun r C2 n2 => n2 = n ∧ Q r C2) n 0 0 22 [(2, v0), (0, v1), (9, 0), (0, v3), (0, v4), (0, v5), (0, v6), (0, z7), (9, 0), (9, 0), (9, 0), (9, 0)] [] C) (v7 : Int) (h : B_G_stepsOf_22 n C v0 v1 v3 v4 v5 v6 Q kz22 v7) : AW p l e R s m args below meth c E M_G_stepsOf true (fun r C2 n2 => n2 = n ∧ Q r C2) n 0 0 22 [(2, v0), (0, v1), (9, 0), (0, v3), (0, v4), (0, v5), (0, v6), (0, v7), (9, 0), (9, 0), (9, 0), (9, 0)] [] C := by
  unfold B_G_stepsOf_22 at h
  refine AW.iload (dc hd_G_stepsOf 13 rfl) rfl ?_
  refine AW.if_le (t := 49) (dc hd_G_stepsOf 14 rfl) (by decide) (fun c_8 => ?_) (fun c_8 => ?_)
  · have h := h.1 c_8
    exact aJ_G_stepsOf_49 n C v0 v1 v3 v4 v5 v6 v7 Q h
  · have h := h.2 c_8
    refine AW.ra_n (dc hd_G_stepsOf 15 rfl) rfl rfl rfl ?_
    refine AW.iload (dc hd_G_stepsOf 16 rfl) rfl ?_
    refine AW.iconst (dc hd_G_stepsOf 17 rfl) (by decide) ?_
    refine AW.isub (dc hd_G_stepsOf 18 rfl) ?_
    refine AW.iload_n (dc hd_G_stepsOf 19 rfl) rfl ?_
    refine AW.iload (dc hd_G_stepsOf 20 rfl) rfl ?_
    refine AW.iload (dc hd_G_stepsOf 21 rfl) rfl ?_
    obtain ⟨g_44, h⟩ := h
    refine AW.callV (As := [(0, w32 (v7 - 1)), (0, v3), (0, v5), (0, v6)]) (rest := []) (ci := 10) (m_G_areNext l E n C v0 (w32 (v7 - 1)) v3 v5 v6 _ h) cb_10_300 im_G_areNext se_G_areNext ⟨_, _, rfl⟩ (by decide) (dc hd_G_stepsOf 22 rfl) g_44 rfl rfl ⟨Nat.le_of_ble_eq_true rfl, Nat.le_of_ble_eq_true rfl⟩ ⟨(Nat.le_of_ble_eq_true rfl), (Nat.le_of_ble_eq_true rfl)⟩ (Nat.le_of_ble_eq_true rfl) (fun _ h => by cases h) (fun _ => rfl) (fun r_43 D_46 d_47 q_45 => ?_)
    obtain ⟨q_45a, q_45b, h⟩ := q_45
    subst D_46
    subst d_47
    show AW p l e _ s m args below meth c E M_G_stepsOf true _ n _ _ _ [(2, v0), (0, v1), (9, 0), (0, v3), (0, v4), (0, v5), (0, v6), (0, v7), (9, 0), (9, 0), (9, 0), (9, 0)] [(0, r_43)] C
    refine AW.if_eq (t := 49) (dc hd_G_stepsOf 23 rfl) (by decide) (fun c_48 => ?_) (fun c_48 => ?_)
    · have h := h.1 c_48
      exact aJ_G_stepsOf_49 n C v0 v1 v3 v4 v5 v6 v7 Q h
    · have h := h.2 c_48
      refine AW.iinc [(2, v0), (0, v1), (9, 0), (0, v3), (0, v4), (0, v5), (0, v6), (0, w32 (v7 + (-1))), (9, 0), (9, 0), (9, 0), (9, 0)] (dc hd_G_stepsOf 24 rfl) rfl (Nat.le_of_ble_eq_true rfl) rfl rfl ?_
      refine AW.goto (t := 22) (dc hd_G_stepsOf 25 rfl) (by decide) ?_
      exact hkz22 (w32 (v7 + (-1))) h
theorem aB_G_stepsOf_22 (n : Nat) (C : Cn) (v0 v1 v3 v4 v5 v6 : Int) (Q : Int → Cn → Prop) : ∀ (f : Nat) (z : Int), lp (B_G_stepsOf_22 n C v0 v1 v3 v4 v5 v6 Q) f z → AW p l e R s m args below meth c E M_G_stepsOf true (fun r C2 n2 => n2 = n ∧ Q r C2) n 0 0 22 [(2, v0), (0, v1), (9, 0), (0, v3), (0, v4), (0, v5), (0, v6), (0, z), (9, 0), (9, 0), (9, 0), (9, 0)] [] C := by
  intro f
  induction f with
  | zero => intro z h; exact False.elim h
  | succ f ih => intro z h; exact bB_G_stepsOf_22 n C v0 v1 v3 v4 v5 v6 Q (lp (B_G_stepsOf_22 n C v0 v1 v3 v4 v5 v6 Q) f) (fun a0 h => ih a0 h) z h
def P_G_stepsOf (n : Nat) (C : Cn) (v0 v1 v2 v3 v4 : Int) (Q : Int → Cn → Prop) : Prop :=
  okO n v0 10 ∧ (P_G_bounds n C v0 v1 v2 v3 (fun (_ : Int) (C_2 : Cn) => ∀ v5_6 : Int, v5_6 = C_2 v0.toNat 25 → (∀ v6_7 : Int, v6_7 = C_2 v0.toNat 26 → (∃ f_49 : Nat, lp (B_G_stepsOf_22 n C_2 v0 v1 v3 v4 v5_6 v6_7 Q) f_49 v1))))
theorem m_G_stepsOf (l : Launch) (E : Ev) (n : Nat) (C : Cn) (v0 v1 v2 v3 v4 : Int) (Q : Int → Cn → Prop) (h : P_G_stepsOf n C v0 v1 v2 v3 v4 Q) : MA l y_G_stepsOf M_G_stepsOf E true C n [(2, v0), (0, v1), (0, v2), (0, v3), (0, v4)] (fun r C2 n2 => n2 = n ∧ Q r C2) := by
  refine MA.of (by decide) rfl rfl 7 rfl (fun p e s m args below meth c => ?_)
  show AW p l e _ s m args below meth c E M_G_stepsOf true _ n 0 0 0 [(2, v0), (0, v1), (0, v2), (0, v3), (0, v4), (9, 0), (9, 0), (9, 0), (9, 0), (9, 0), (9, 0), (9, 0)] [] C
  unfold P_G_stepsOf at h
  refine AW.ra_n (dc hd_G_stepsOf 0 rfl) rfl rfl rfl ?_
  refine AW.iload_n (dc hd_G_stepsOf 1 rfl) rfl ?_
  refine AW.iload_n (dc hd_G_stepsOf 2 rfl) rfl ?_
  refine AW.iload_n (dc hd_G_stepsOf 3 rfl) rfl ?_
  obtain ⟨g_1, h⟩ := h
  refine AW.callV (As := [(0, v1), (0, v2), (0, v3)]) (rest := []) (ci := 10) (m_G_bounds l E n C v0 v1 v2 v3 _ h) cb_10_296 im_G_bounds se_G_bounds ⟨_, _, rfl⟩ (by decide) (dc hd_G_stepsOf 4 rfl) g_1 rfl rfl ⟨Nat.le_of_ble_eq_true rfl, Nat.le_of_ble_eq_true rfl⟩ ⟨(Nat.le_of_ble_eq_true rfl), (Nat.le_of_ble_eq_true rfl)⟩ (Nat.le_of_ble_eq_true rfl) (fun _ h => by cases h) (fun _ => rfl) (fun u_4 C_2 d_5 q_3 => ?_)
  obtain ⟨q_3a, h⟩ := q_3
  subst d_5
  show AW p l e _ s m args below meth c E M_G_stepsOf true _ n _ _ _ [(2, v0), (0, v1), (0, v2), (0, v3), (0, v4), (9, 0), (9, 0), (9, 0), (9, 0), (9, 0), (9, 0), (9, 0)] [] C_2
  refine AW.ra_n (dc hd_G_stepsOf 5 rfl) rfl rfl rfl ?_
  refine AW.getf fl_10_287 (dc hd_G_stepsOf 6 rfl) g_1 ?_
  refine AW.nm (fun v5_6 ev5_6 => ?_)
  have h := h v5_6 ev5_6
  refine AW.istore [(2, v0), (0, v1), (0, v2), (0, v3), (0, v4), (0, v5_6), (9, 0), (9, 0), (9, 0), (9, 0), (9, 0), (9, 0)] (dc hd_G_stepsOf 7 rfl) (Nat.le_of_ble_eq_true rfl) rfl rfl ?_
  refine AW.ra_n (dc hd_G_stepsOf 8 rfl) rfl rfl rfl ?_
  refine AW.getf fl_10_290 (dc hd_G_stepsOf 9 rfl) g_1 ?_
  refine AW.nm (fun v6_7 ev6_7 => ?_)
  have h := h v6_7 ev6_7
  refine AW.istore [(2, v0), (0, v1), (0, v2), (0, v3), (0, v4), (0, v5_6), (0, v6_7), (9, 0), (9, 0), (9, 0), (9, 0), (9, 0)] (dc hd_G_stepsOf 10 rfl) (Nat.le_of_ble_eq_true rfl) rfl rfl ?_
  refine AW.iload_n (dc hd_G_stepsOf 11 rfl) rfl ?_
  refine AW.istore [(2, v0), (0, v1), (0, v2), (0, v3), (0, v4), (0, v5_6), (0, v6_7), (0, v1), (9, 0), (9, 0), (9, 0), (9, 0)] (dc hd_G_stepsOf 12 rfl) (Nat.le_of_ble_eq_true rfl) rfl rfl ?_
  obtain ⟨f_49, h⟩ := h
  refine AW.fgt [(2, v0), (0, v1), (9, 0), (0, v3), (0, v4), (0, v5_6), (0, v6_7), (0, v1), (9, 0), (9, 0), (9, 0), (9, 0)] ⟨.inl rfl, .inl rfl, .inr rfl, .inl rfl, .inl rfl, .inl rfl, .inl rfl, .inl rfl, .inl rfl, .inl rfl, .inl rfl, .inl rfl, trivial⟩ ?_
  exact aB_G_stepsOf_22 n C_2 v0 v1 v3 v4 v5_6 v6_7 Q f_49 v1 h
def B_G_searched_8 (n : Nat) (v0 v1 v2 : Int) (Q : Int → Cn → Prop) (kz8 : Cn × Int × Int × Int → Prop) (z : Cn × Int × Int × Int) : Prop := match z with
  | (C, v3, v4, v5) => okO n v0 10 ∧ ((C v0.toNat 0 ≤ v5 → (Q v3 C)) ∧ (¬ C v0.toNat 0 ≤ v5 → (okO n (PT v0.toNat 27) 12 ∧ (okI (PT v0.toNat 27) v5 ∧ (P_G_stepsOf n C v0 v1 v2 v4 (C (PT v0.toNat 27).toNat v5.toNat) (fun (r_5 : Int) (C_6 : Cn) => ∀ v4_9 : Int, v4_9 = or32 v4 (shl32 1 (C_6 (PT v0.toNat 27).toNat v5.toNat)) → (kz8 (C_6, w32 (v3 + r_5), v4_9, w32 (v5 + 1)))))))))
theorem bB_G_searched_8 (n : Nat) (v0 v1 v2 : Int) (Q : Int → Cn → Prop) (kz8 : Cn × Int × Int × Int → Prop) (hkz8 : ∀ (Cz : Cn) (z3 : Int) (z4 : Int) (z5 : Int), kz8 (Cz, z3, z4, z5) → AW p l e R s m args below meth c E M_G_searched true (fun r C2 n2 => n2 = n ∧ Q r C2) n 0 0 8 [(2, v0), (0, v1), (0, v2), (0, z3), (0, z4), (0, z5)] [] Cz) (C : Cn) (v3 : Int) (v4 : Int) (v5 : Int) (h : B_G_searched_8 n v0 v1 v2 Q kz8 (C, v3, v4, v5)) : AW p l e R s m args below meth c E M_G_searched true (fun r C2 n2 => n2 = n ∧ Q r C2) n 0 0 8 [(2, v0), (0, v1), (0, v2), (0, v3), (0, v4), (0, v5)] [] C := by
  unfold B_G_searched_8 at h
  dsimp only at h
  refine AW.iload (dc hd_G_searched 6 rfl) rfl ?_
  refine AW.ra_n (dc hd_G_searched 7 rfl) rfl rfl rfl ?_
  obtain ⟨g_1, h⟩ := h
  refine AW.getf fl_10_117 (dc hd_G_searched 8 rfl) g_1 ?_
  refine AW.icmp_ge (t := 55) (dc hd_G_searched 9 rfl) (by decide) (fun c_2 => ?_) (fun c_2 => ?_)
  · have h := h.1 c_2
    refine AW.iload_n (dc hd_G_searched 33 rfl) rfl ?_
    exact AW.iret (dc hd_G_searched 34 rfl) rfl rfl (Nat.le_of_ble_eq_true rfl) (Nat.le_of_ble_eq_true rfl) ⟨rfl, h⟩
  · have h := h.2 c_2
    refine AW.iload_n (dc hd_G_searched 10 rfl) rfl ?_
    refine AW.ra_n (dc hd_G_searched 11 rfl) rfl rfl rfl ?_
    refine AW.iload_n (dc hd_G_searched 12 rfl) rfl ?_
    refine AW.iload_n (dc hd_G_searched 13 rfl) rfl ?_
    refine AW.iload (dc hd_G_searched 14 rfl) rfl ?_
    refine AW.ra_n (dc hd_G_searched 15 rfl) rfl rfl rfl ?_
    refine AW.getp fl_10_61 (dc hd_G_searched 16 rfl) g_1 rfl ?_
    refine AW.iload (dc hd_G_searched 17 rfl) rfl ?_
    obtain ⟨g_3, h⟩ := h
    obtain ⟨g_4, h⟩ := h
    refine AW.iald (dc hd_G_searched 18 rfl) g_3 g_4 ?_
    refine AW.callV (As := [(0, v1), (0, v2), (0, v4), (0, C (PT v0.toNat 27).toNat v5.toNat)]) (rest := [(0, v3)]) (ci := 10) (m_G_stepsOf l E n C v0 v1 v2 v4 (C (PT v0.toNat 27).toNat v5.toNat) _ h) cb_10_306 im_G_stepsOf se_G_stepsOf ⟨_, _, rfl⟩ (by decide) (dc hd_G_searched 19 rfl) g_1 rfl rfl ⟨Nat.le_of_ble_eq_true rfl, Nat.le_of_ble_eq_true rfl⟩ ⟨(Nat.le_of_ble_eq_true rfl), (Nat.le_of_ble_eq_true rfl)⟩ (Nat.le_of_ble_eq_true rfl) (fun _ h => by cases h) (fun _ => rfl) (fun r_5 C_6 d_8 q_7 => ?_)
    obtain ⟨q_7a, h⟩ := q_7
    subst d_8
    show AW p l e _ s m args below meth c E M_G_searched true _ n _ _ _ [(2, v0), (0, v1), (0, v2), (0, v3), (0, v4), (0, v5)] [(0, r_5), (0, v3)] C_6
    refine AW.iadd (dc hd_G_searched 20 rfl) ?_
    refine AW.istore_n [(2, v0), (0, v1), (0, v2), (0, w32 (v3 + r_5)), (0, v4), (0, v5)] (dc hd_G_searched 21 rfl) (Nat.le_of_ble_eq_true rfl) rfl rfl ?_
    refine AW.iload (dc hd_G_searched 22 rfl) rfl ?_
    refine AW.iconst (dc hd_G_searched 23 rfl) (by decide) ?_
    refine AW.ra_n (dc hd_G_searched 24 rfl) rfl rfl rfl ?_
    refine AW.getp fl_10_61 (dc hd_G_searched 25 rfl) g_1 rfl ?_
    refine AW.iload (dc hd_G_searched 26 rfl) rfl ?_
    refine AW.iald (dc hd_G_searched 27 rfl) g_3 g_4 ?_
    refine AW.ishl (dc hd_G_searched 28 rfl) ?_
    refine AW.ior (dc hd_G_searched 29 rfl) ?_
    refine AW.nm (fun v4_9 ev4_9 => ?_)
    have h := h v4_9 ev4_9
    refine AW.istore [(2, v0), (0, v1), (0, v2), (0, w32 (v3 + r_5)), (0, v4_9), (0, v5)] (dc hd_G_searched 30 rfl) (Nat.le_of_ble_eq_true rfl) rfl rfl ?_
    refine AW.iinc [(2, v0), (0, v1), (0, v2), (0, w32 (v3 + r_5)), (0, v4_9), (0, w32 (v5 + 1))] (dc hd_G_searched 31 rfl) rfl (Nat.le_of_ble_eq_true rfl) rfl rfl ?_
    refine AW.goto (t := 8) (dc hd_G_searched 32 rfl) (by decide) ?_
    exact hkz8 C_6 (w32 (v3 + r_5)) v4_9 (w32 (v5 + 1)) h
theorem aB_G_searched_8 (n : Nat) (v0 v1 v2 : Int) (Q : Int → Cn → Prop) : ∀ (f : Nat) (z : Cn × Int × Int × Int), lp (B_G_searched_8 n v0 v1 v2 Q) f z → AW p l e R s m args below meth c E M_G_searched true (fun r C2 n2 => n2 = n ∧ Q r C2) n 0 0 8 [(2, v0), (0, v1), (0, v2), (0, z.2.1), (0, z.2.2.1), (0, z.2.2.2)] [] (z.1) := by
  intro f
  induction f with
  | zero => intro z h; exact False.elim h
  | succ f ih => intro z h; exact bB_G_searched_8 n v0 v1 v2 Q (lp (B_G_searched_8 n v0 v1 v2 Q) f) (fun a0 a1 a2 a3 h => ih (a0, a1, a2, a3) h) z.1 z.2.1 z.2.2.1 z.2.2.2 h
def P_G_searched (n : Nat) (C : Cn) (v0 v1 v2 : Int) (Q : Int → Cn → Prop) : Prop :=
  ∃ f_10 : Nat, lp (B_G_searched_8 n v0 v1 v2 Q) f_10 (C, 0, 0, 0)
theorem m_G_searched (l : Launch) (E : Ev) (n : Nat) (C : Cn) (v0 v1 v2 : Int) (Q : Int → Cn → Prop) (h : P_G_searched n C v0 v1 v2 Q) : MA l y_G_searched M_G_searched E true C n [(2, v0), (0, v1), (0, v2)] (fun r C2 n2 => n2 = n ∧ Q r C2) := by
  refine MA.of (by decide) rfl rfl 3 rfl (fun p e s m args below meth c => ?_)
  show AW p l e _ s m args below meth c E M_G_searched true _ n 0 0 0 [(2, v0), (0, v1), (0, v2), (9, 0), (9, 0), (9, 0)] [] C
  unfold P_G_searched at h
  refine AW.iconst (dc hd_G_searched 0 rfl) (by decide) ?_
  refine AW.istore_n [(2, v0), (0, v1), (0, v2), (0, 0), (9, 0), (9, 0)] (dc hd_G_searched 1 rfl) (Nat.le_of_ble_eq_true rfl) rfl rfl ?_
  refine AW.iconst (dc hd_G_searched 2 rfl) (by decide) ?_
  refine AW.istore [(2, v0), (0, v1), (0, v2), (0, 0), (0, 0), (9, 0)] (dc hd_G_searched 3 rfl) (Nat.le_of_ble_eq_true rfl) rfl rfl ?_
  refine AW.iconst (dc hd_G_searched 4 rfl) (by decide) ?_
  refine AW.istore [(2, v0), (0, v1), (0, v2), (0, 0), (0, 0), (0, 0)] (dc hd_G_searched 5 rfl) (Nat.le_of_ble_eq_true rfl) rfl rfl ?_
  obtain ⟨f_10, h⟩ := h
  exact aB_G_searched_8 n v0 v1 v2 Q f_10 (C, 0, 0, 0) h
def B_G_asNumbered_2 (n : Nat) (v0 : Int) (Q : Int → Cn → Prop) (kz2 : Cn × Int → Prop) (z : Cn × Int) : Prop := match z with
  | (C, v1) => okO n v0 10 ∧ ((C v0.toNat 0 ≤ v1 → (Q 0 C)) ∧ (¬ C v0.toNat 0 ≤ v1 → (okO n (PT v0.toNat 27) 12 ∧ (okI (PT v0.toNat 27) v1 ∧ (∀ C_5 : Cn, C_5 = wr C (PT v0.toNat 27).toNat v1.toNat v1 → (kz2 (C_5, w32 (v1 + 1))))))))
theorem bB_G_asNumbered_2 (n : Nat) (v0 : Int) (Q : Int → Cn → Prop) (kz2 : Cn × Int → Prop) (hkz2 : ∀ (Cz : Cn) (z1 : Int), kz2 (Cz, z1) → AW p l e R s m args below meth c E M_G_asNumbered true (fun r C2 n2 => n2 = n ∧ Q r C2) n 0 0 2 [(2, v0), (0, z1)] [] Cz) (C : Cn) (v1 : Int) (h : B_G_asNumbered_2 n v0 Q kz2 (C, v1)) : AW p l e R s m args below meth c E M_G_asNumbered true (fun r C2 n2 => n2 = n ∧ Q r C2) n 0 0 2 [(2, v0), (0, v1)] [] C := by
  unfold B_G_asNumbered_2 at h
  dsimp only at h
  refine AW.iload_n (dc hd_G_asNumbered 2 rfl) rfl ?_
  refine AW.ra_n (dc hd_G_asNumbered 3 rfl) rfl rfl rfl ?_
  obtain ⟨g_1, h⟩ := h
  refine AW.getf fl_10_117 (dc hd_G_asNumbered 4 rfl) g_1 ?_
  refine AW.icmp_ge (t := 23) (dc hd_G_asNumbered 5 rfl) (by decide) (fun c_2 => ?_) (fun c_2 => ?_)
  · have h := h.1 c_2
    exact AW.vret (dc hd_G_asNumbered 13 rfl) rfl rfl (Nat.le_of_ble_eq_true rfl) (Nat.le_of_ble_eq_true rfl) ⟨rfl, h⟩
  · have h := h.2 c_2
    refine AW.ra_n (dc hd_G_asNumbered 6 rfl) rfl rfl rfl ?_
    refine AW.getp fl_10_61 (dc hd_G_asNumbered 7 rfl) g_1 rfl ?_
    refine AW.iload_n (dc hd_G_asNumbered 8 rfl) rfl ?_
    refine AW.iload_n (dc hd_G_asNumbered 9 rfl) rfl ?_
    obtain ⟨g_3, h⟩ := h
    obtain ⟨g_4, h⟩ := h
    refine AW.niast (dc hd_G_asNumbered 10 rfl) g_3 g_4 (fun C_5 eC_5 => ?_)
    have h := h C_5 eC_5
    refine AW.iinc [(2, v0), (0, w32 (v1 + 1))] (dc hd_G_asNumbered 11 rfl) rfl (Nat.le_of_ble_eq_true rfl) rfl rfl ?_
    refine AW.goto (t := 2) (dc hd_G_asNumbered 12 rfl) (by decide) ?_
    exact hkz2 C_5 (w32 (v1 + 1)) h
theorem aB_G_asNumbered_2 (n : Nat) (v0 : Int) (Q : Int → Cn → Prop) : ∀ (f : Nat) (z : Cn × Int), lp (B_G_asNumbered_2 n v0 Q) f z → AW p l e R s m args below meth c E M_G_asNumbered true (fun r C2 n2 => n2 = n ∧ Q r C2) n 0 0 2 [(2, v0), (0, z.2)] [] (z.1) := by
  intro f
  induction f with
  | zero => intro z h; exact False.elim h
  | succ f ih => intro z h; exact bB_G_asNumbered_2 n v0 Q (lp (B_G_asNumbered_2 n v0 Q) f) (fun a0 a1 h => ih (a0, a1) h) z.1 z.2 h
def P_G_asNumbered (n : Nat) (C : Cn) (v0 : Int) (Q : Int → Cn → Prop) : Prop :=
  ∃ f_6 : Nat, lp (B_G_asNumbered_2 n v0 Q) f_6 (C, 0)
theorem m_G_asNumbered (l : Launch) (E : Ev) (n : Nat) (C : Cn) (v0 : Int) (Q : Int → Cn → Prop) (h : P_G_asNumbered n C v0 Q) : MA l y_G_asNumbered M_G_asNumbered E true C n [(2, v0)] (fun r C2 n2 => n2 = n ∧ Q r C2) := by
  refine MA.of (by decide) rfl rfl 1 rfl (fun p e s m args below meth c => ?_)
  show AW p l e _ s m args below meth c E M_G_asNumbered true _ n 0 0 0 [(2, v0), (9, 0)] [] C
  unfold P_G_asNumbered at h
  refine AW.iconst (dc hd_G_asNumbered 0 rfl) (by decide) ?_
  refine AW.istore_n [(2, v0), (0, 0)] (dc hd_G_asNumbered 1 rfl) (Nat.le_of_ble_eq_true rfl) rfl rfl ?_
  obtain ⟨f_6, h⟩ := h
  exact aB_G_asNumbered_2 n v0 Q f_6 (C, 0) h
def P_G_steps (n : Nat) (C : Cn) (v0 v1 v2 : Int) (Q : Int → Cn → Prop) : Prop :=
  P_G_isPoint n C v1 v2 (fun (r_1 : Int) => (r_1 = 0 → (okO n v0 10 ∧ (P_G_finds n C v0 0 (fun (r_28 : Int) (C_30 : Cn) => Q r_28 C_30)))) ∧ (¬ r_1 = 0 → (okO n v0 10 ∧ (P_G_maps n C v0 (fun (_ : Int) (C_7 : Cn) => P_G_isFree n C_7 v0 v1 v2 (fun (r_11 : Int) (C_12 : Cn) => (r_11 = 0 → (P_G_finds n C_12 v0 4 (fun (r_24 : Int) (C_25 : Cn) => Q r_24 C_25))) ∧ (¬ r_11 = 0 → (P_G_asNumbered n C_12 v0 (fun (_ : Int) (C_16 : Cn) => P_G_searched n C_16 v0 (C_16 v0.toNat 23) (C_16 v0.toNat 24) (fun (r_20 : Int) (C_21 : Cn) => Q r_20 C_21))))))))))
theorem m_G_steps (l : Launch) (E : Ev) (n : Nat) (C : Cn) (v0 v1 v2 : Int) (Q : Int → Cn → Prop) (h : P_G_steps n C v0 v1 v2 Q) : MA l y_G_steps M_G_steps E true C n [(2, v0), (0, v1), (0, v2)] (fun r C2 n2 => n2 = n ∧ Q r C2) := by
  refine MA.of (by decide) rfl rfl 0 rfl (fun p e s m args below meth c => ?_)
  show AW p l e _ s m args below meth c E M_G_steps true _ n 0 0 0 [(2, v0), (0, v1), (0, v2)] [] C
  unfold P_G_steps at h
  refine AW.iload_n (dc hd_G_steps 0 rfl) rfl ?_
  refine AW.iload_n (dc hd_G_steps 1 rfl) rfl ?_
  refine AW.callS (As := [(0, v1), (0, v2)]) (rest := []) (m_G_isPoint l E n C v1 v2 _ h) cb_10_183 sm_G_isPoint (dc hd_G_steps 2 rfl) rfl rfl ⟨Nat.le_of_ble_eq_true rfl, Nat.le_of_ble_eq_true rfl⟩ ⟨(Nat.le_of_ble_eq_true rfl), (Nat.le_of_ble_eq_true rfl)⟩ (Nat.le_of_ble_eq_true rfl) (fun _ h => by cases h) (fun _ => rfl) (fun r_1 D_3 d_4 q_2 => ?_)
  obtain ⟨q_2a, q_2b, h⟩ := q_2
  subst D_3
  subst d_4
  show AW p l e _ s m args below meth c E M_G_steps true _ n _ _ _ [(2, v0), (0, v1), (0, v2)] [(0, r_1)] C
  refine AW.if_ne (t := 14) (dc hd_G_steps 3 rfl) (by decide) (fun c_5 => ?_) (fun c_5 => ?_)
  · have h := h.2 c_5
    refine AW.ra_n (dc hd_G_steps 8 rfl) rfl rfl rfl ?_
    obtain ⟨g_6, h⟩ := h
    refine AW.callV (As := []) (rest := []) (ci := 10) (m_G_maps l E n C v0 _ h) cb_10_211 im_G_maps se_G_maps ⟨_, _, rfl⟩ (by decide) (dc hd_G_steps 9 rfl) g_6 rfl rfl ⟨Nat.le_of_ble_eq_true rfl, Nat.le_of_ble_eq_true rfl⟩ ⟨(Nat.le_of_ble_eq_true rfl), (Nat.le_of_ble_eq_true rfl)⟩ (Nat.le_of_ble_eq_true rfl) (fun _ h => by cases h) (fun _ => rfl) (fun u_9 C_7 d_10 q_8 => ?_)
    obtain ⟨q_8a, h⟩ := q_8
    subst d_10
    show AW p l e _ s m args below meth c E M_G_steps true _ n _ _ _ [(2, v0), (0, v1), (0, v2)] [] C_7
    refine AW.ra_n (dc hd_G_steps 10 rfl) rfl rfl rfl ?_
    refine AW.iload_n (dc hd_G_steps 11 rfl) rfl ?_
    refine AW.iload_n (dc hd_G_steps 12 rfl) rfl ?_
    refine AW.callV (As := [(0, v1), (0, v2)]) (rest := []) (ci := 10) (m_G_isFree l E n C_7 v0 v1 v2 _ h) cb_10_284 im_G_isFree se_G_isFree ⟨_, _, rfl⟩ (by decide) (dc hd_G_steps 13 rfl) g_6 rfl rfl ⟨Nat.le_of_ble_eq_true rfl, Nat.le_of_ble_eq_true rfl⟩ ⟨(Nat.le_of_ble_eq_true rfl), (Nat.le_of_ble_eq_true rfl)⟩ (Nat.le_of_ble_eq_true rfl) (fun _ h => by cases h) (fun _ => rfl) (fun r_11 C_12 d_14 q_13 => ?_)
    obtain ⟨q_13a, h⟩ := q_13
    subst d_14
    show AW p l e _ s m args below meth c E M_G_steps true _ n _ _ _ [(2, v0), (0, v1), (0, v2)] [(0, r_11)] C_12
    refine AW.if_ne (t := 33) (dc hd_G_steps 14 rfl) (by decide) (fun c_15 => ?_) (fun c_15 => ?_)
    · have h := h.2 c_15
      refine AW.ra_n (dc hd_G_steps 19 rfl) rfl rfl rfl ?_
      refine AW.callV (As := []) (rest := []) (ci := 10) (m_G_asNumbered l E n C_12 v0 _ h) cb_10_310 im_G_asNumbered se_G_asNumbered ⟨_, _, rfl⟩ (by decide) (dc hd_G_steps 20 rfl) g_6 rfl rfl ⟨Nat.le_of_ble_eq_true rfl, Nat.le_of_ble_eq_true rfl⟩ ⟨(Nat.le_of_ble_eq_true rfl), (Nat.le_of_ble_eq_true rfl)⟩ (Nat.le_of_ble_eq_true rfl) (fun _ h => by cases h) (fun _ => rfl) (fun u_18 C_16 d_19 q_17 => ?_)
      obtain ⟨q_17a, h⟩ := q_17
      subst d_19
      show AW p l e _ s m args below meth c E M_G_steps true _ n _ _ _ [(2, v0), (0, v1), (0, v2)] [] C_16
      refine AW.ra_n (dc hd_G_steps 21 rfl) rfl rfl rfl ?_
      refine AW.ra_n (dc hd_G_steps 22 rfl) rfl rfl rfl ?_
      refine AW.getf fl_10_275 (dc hd_G_steps 23 rfl) g_6 ?_
      refine AW.ra_n (dc hd_G_steps 24 rfl) rfl rfl rfl ?_
      refine AW.getf fl_10_278 (dc hd_G_steps 25 rfl) g_6 ?_
      refine AW.callV (As := [(0, C_16 v0.toNat 23), (0, C_16 v0.toNat 24)]) (rest := []) (ci := 10) (m_G_searched l E n C_16 v0 (C_16 v0.toNat 23) (C_16 v0.toNat 24) _ h) cb_10_313 im_G_searched se_G_searched ⟨_, _, rfl⟩ (by decide) (dc hd_G_steps 26 rfl) g_6 rfl rfl ⟨Nat.le_of_ble_eq_true rfl, Nat.le_of_ble_eq_true rfl⟩ ⟨(Nat.le_of_ble_eq_true rfl), (Nat.le_of_ble_eq_true rfl)⟩ (Nat.le_of_ble_eq_true rfl) (fun _ h => by cases h) (fun _ => rfl) (fun r_20 C_21 d_23 q_22 => ?_)
      obtain ⟨q_22a, h⟩ := q_22
      subst d_23
      show AW p l e _ s m args below meth c E M_G_steps true _ n _ _ _ [(2, v0), (0, v1), (0, v2)] [(0, r_20)] C_21
      exact AW.iret (dc hd_G_steps 27 rfl) rfl rfl (Nat.le_of_ble_eq_true rfl) (Nat.le_of_ble_eq_true rfl) ⟨rfl, h⟩
    · have h := h.1 c_15
      refine AW.ra_n (dc hd_G_steps 15 rfl) rfl rfl rfl ?_
      refine AW.iconst (dc hd_G_steps 16 rfl) (by decide) ?_
      refine AW.callV (As := [(0, 4)]) (rest := []) (ci := 10) (m_G_finds l E n C_12 v0 4 _ h) cb_10_186 im_G_finds se_G_finds ⟨_, _, rfl⟩ (by decide) (dc hd_G_steps 17 rfl) g_6 rfl rfl ⟨Nat.le_of_ble_eq_true rfl, Nat.le_of_ble_eq_true rfl⟩ ⟨(Nat.le_of_ble_eq_true rfl), (Nat.le_of_ble_eq_true rfl)⟩ (Nat.le_of_ble_eq_true rfl) (fun _ h => by cases h) (fun _ => rfl) (fun r_24 C_25 d_27 q_26 => ?_)
      obtain ⟨q_26a, h⟩ := q_26
      subst d_27
      show AW p l e _ s m args below meth c E M_G_steps true _ n _ _ _ [(2, v0), (0, v1), (0, v2)] [(0, r_24)] C_25
      exact AW.iret (dc hd_G_steps 18 rfl) rfl rfl (Nat.le_of_ble_eq_true rfl) (Nat.le_of_ble_eq_true rfl) ⟨rfl, h⟩
  · have h := h.1 c_5
    refine AW.ra_n (dc hd_G_steps 4 rfl) rfl rfl rfl ?_
    refine AW.iconst (dc hd_G_steps 5 rfl) (by decide) ?_
    obtain ⟨g_29, h⟩ := h
    refine AW.callV (As := [(0, 0)]) (rest := []) (ci := 10) (m_G_finds l E n C v0 0 _ h) cb_10_186 im_G_finds se_G_finds ⟨_, _, rfl⟩ (by decide) (dc hd_G_steps 6 rfl) g_29 rfl rfl ⟨Nat.le_of_ble_eq_true rfl, Nat.le_of_ble_eq_true rfl⟩ ⟨(Nat.le_of_ble_eq_true rfl), (Nat.le_of_ble_eq_true rfl)⟩ (Nat.le_of_ble_eq_true rfl) (fun _ h => by cases h) (fun _ => rfl) (fun r_28 C_30 d_32 q_31 => ?_)
    obtain ⟨q_31a, h⟩ := q_31
    subst d_32
    show AW p l e _ s m args below meth c E M_G_steps true _ n _ _ _ [(2, v0), (0, v1), (0, v2)] [(0, r_28)] C_30
    exact AW.iret (dc hd_G_steps 7 rfl) rfl rfl (Nat.le_of_ble_eq_true rfl) (Nat.le_of_ble_eq_true rfl) ⟨rfl, h⟩
def B_G_searches_22 (n : Nat) (v0 v1 : Int) (kz12 : Cn × Int → Prop) (Q : Int → Cn → Prop) (kz22 : Cn × Int → Prop) (z : Cn × Int) : Prop := match z with
  | (C, v2) => okO n v0 10 ∧ (okO n (PT v0.toNat 15) 12 ∧ (okI (PT v0.toNat 15) v1 ∧ ((C (PT v0.toNat 15).toNat v1.toNat < v2 → (kz12 (C, w32 (v1 + 1)))) ∧ (¬ C (PT v0.toNat 15).toNat v1.toNat < v2 → (P_G_searched n C v0 v1 v2 (fun (r_10 : Int) (C_11 : Cn) => ∀ C_14 : Cn, C_14 = wr C_11 v0.toNat 28 (imax (C_11 v0.toNat 28) r_10) → (∀ C_15 : Cn, C_15 = wr C_14 v0.toNat 29 (w32 (C_14 v0.toNat 29 + r_10)) → (kz22 (C_15, w32 (v2 + 1))))))))))
theorem bB_G_searches_22 (n : Nat) (v0 v1 : Int) (kz12 : Cn × Int → Prop) (Q : Int → Cn → Prop) (hkz12 : ∀ (Cz : Cn) (z1 : Int), kz12 (Cz, z1) → AW p l e R s m args below meth c E M_G_searches true (fun r C2 n2 => n2 = n ∧ Q r C2) n 0 0 12 [(2, v0), (0, z1), (9, 0), (9, 0)] [] Cz) (kz22 : Cn × Int → Prop) (hkz22 : ∀ (Cz : Cn) (z2 : Int), kz22 (Cz, z2) → AW p l e R s m args below meth c E M_G_searches true (fun r C2 n2 => n2 = n ∧ Q r C2) n 0 0 22 [(2, v0), (0, v1), (0, z2), (9, 0)] [] Cz) (C : Cn) (v2 : Int) (h : B_G_searches_22 n v0 v1 kz12 Q kz22 (C, v2)) : AW p l e R s m args below meth c E M_G_searches true (fun r C2 n2 => n2 = n ∧ Q r C2) n 0 0 22 [(2, v0), (0, v1), (0, v2), (9, 0)] [] C := by
  unfold B_G_searches_22 at h
  dsimp only at h
  refine AW.iload_n (dc hd_G_searches 14 rfl) rfl ?_
  refine AW.ra_n (dc hd_G_searches 15 rfl) rfl rfl rfl ?_
  obtain ⟨g_6, h⟩ := h
  refine AW.getp fl_10_40 (dc hd_G_searches 16 rfl) g_6 rfl ?_
  refine AW.iload_n (dc hd_G_searches 17 rfl) rfl ?_
  obtain ⟨g_7, h⟩ := h
  obtain ⟨g_8, h⟩ := h
  refine AW.iald (dc hd_G_searches 18 rfl) g_7 g_8 ?_
  refine AW.icmp_gt (t := 67) (dc hd_G_searches 19 rfl) (by decide) (fun c_9 => ?_) (fun c_9 => ?_)
  · have h := h.1 c_9
    refine AW.iinc [(2, v0), (0, w32 (v1 + 1)), (0, v2), (9, 0)] (dc hd_G_searches 39 rfl) rfl (Nat.le_of_ble_eq_true rfl) rfl rfl ?_
    refine AW.goto (t := 12) (dc hd_G_searches 40 rfl) (by decide) ?_
    refine AW.fgt [(2, v0), (0, w32 (v1 + 1)), (9, 0), (9, 0)] ⟨.inl rfl, .inl rfl, .inr rfl, .inl rfl, trivial⟩ ?_
    exact hkz12 C (w32 (v1 + 1)) h
  · have h := h.2 c_9
    refine AW.ra_n (dc hd_G_searches 20 rfl) rfl rfl rfl ?_
    refine AW.iload_n (dc hd_G_searches 21 rfl) rfl ?_
    refine AW.iload_n (dc hd_G_searches 22 rfl) rfl ?_
    refine AW.callV (As := [(0, v1), (0, v2)]) (rest := []) (ci := 10) (m_G_searched l E n C v0 v1 v2 _ h) cb_10_313 im_G_searched se_G_searched ⟨_, _, rfl⟩ (by decide) (dc hd_G_searches 23 rfl) g_6 rfl rfl ⟨Nat.le_of_ble_eq_true rfl, Nat.le_of_ble_eq_true rfl⟩ ⟨(Nat.le_of_ble_eq_true rfl), (Nat.le_of_ble_eq_true rfl)⟩ (Nat.le_of_ble_eq_true rfl) (fun _ h => by cases h) (fun _ => rfl) (fun r_10 C_11 d_13 q_12 => ?_)
    obtain ⟨q_12a, h⟩ := q_12
    subst d_13
    show AW p l e _ s m args below meth c E M_G_searches true _ n _ _ _ [(2, v0), (0, v1), (0, v2), (9, 0)] [(0, r_10)] C_11
    refine AW.istore_n [(2, v0), (0, v1), (0, v2), (0, r_10)] (dc hd_G_searches 24 rfl) (Nat.le_of_ble_eq_true rfl) rfl rfl ?_
    refine AW.ra_n (dc hd_G_searches 25 rfl) rfl rfl rfl ?_
    refine AW.ra_n (dc hd_G_searches 26 rfl) rfl rfl rfl ?_
    refine AW.getf fl_10_316 (dc hd_G_searches 27 rfl) g_6 ?_
    refine AW.iload_n (dc hd_G_searches 28 rfl) rfl ?_
    refine AW.mmax (dc hd_G_searches 29 rfl) mt_10_161 (Nat.le_of_ble_eq_true rfl) (Nat.le_of_ble_eq_true rfl) (Nat.le_of_ble_eq_true rfl) (Nat.le_of_ble_eq_true rfl) (Nat.le_of_ble_eq_true rfl) ?_
    refine AW.nputI fl_10_316 (dc hd_G_searches 30 rfl) g_6 (fun C_14 eC_14 => ?_)
    have h := h C_14 eC_14
    refine AW.ra_n (dc hd_G_searches 31 rfl) rfl rfl rfl ?_
    refine AW.rdup (dc hd_G_searches 32 rfl) rfl ?_
    refine AW.getf fl_10_319 (dc hd_G_searches 33 rfl) g_6 ?_
    refine AW.iload_n (dc hd_G_searches 34 rfl) rfl ?_
    refine AW.iadd (dc hd_G_searches 35 rfl) ?_
    refine AW.nputI fl_10_319 (dc hd_G_searches 36 rfl) g_6 (fun C_15 eC_15 => ?_)
    have h := h C_15 eC_15
    refine AW.iinc [(2, v0), (0, v1), (0, w32 (v2 + 1)), (0, r_10)] (dc hd_G_searches 37 rfl) rfl (Nat.le_of_ble_eq_true rfl) rfl rfl ?_
    refine AW.goto (t := 22) (dc hd_G_searches 38 rfl) (by decide) ?_
    refine AW.fgt [(2, v0), (0, v1), (0, w32 (v2 + 1)), (9, 0)] ⟨.inl rfl, .inl rfl, .inl rfl, .inr rfl, trivial⟩ ?_
    exact hkz22 C_15 (w32 (v2 + 1)) h
theorem aB_G_searches_22 (n : Nat) (v0 v1 : Int) (kz12 : Cn × Int → Prop) (Q : Int → Cn → Prop) (hkz12 : ∀ (Cz : Cn) (z1 : Int), kz12 (Cz, z1) → AW p l e R s m args below meth c E M_G_searches true (fun r C2 n2 => n2 = n ∧ Q r C2) n 0 0 12 [(2, v0), (0, z1), (9, 0), (9, 0)] [] Cz) : ∀ (f : Nat) (z : Cn × Int), lp (B_G_searches_22 n v0 v1 kz12 Q) f z → AW p l e R s m args below meth c E M_G_searches true (fun r C2 n2 => n2 = n ∧ Q r C2) n 0 0 22 [(2, v0), (0, v1), (0, z.2), (9, 0)] [] (z.1) := by
  intro f
  induction f with
  | zero => intro z h; exact False.elim h
  | succ f ih => intro z h; exact bB_G_searches_22 n v0 v1 kz12 Q hkz12 (lp (B_G_searches_22 n v0 v1 kz12 Q) f) (fun a0 a1 h => ih (a0, a1) h) z.1 z.2 h
def B_G_searches_12 (n : Nat) (v0 : Int) (Q : Int → Cn → Prop) (kz12 : Cn × Int → Prop) (z : Cn × Int) : Prop := match z with
  | (C, v1) => okO n v0 10 ∧ ((C v0.toNat 10 < v1 → (Q 0 C)) ∧ (¬ C v0.toNat 10 < v1 → (∃ f_16 : Nat, lp (B_G_searches_22 n v0 v1 kz12 Q) f_16 (C, 0))))
theorem bB_G_searches_12 (n : Nat) (v0 : Int) (Q : Int → Cn → Prop) (kz12 : Cn × Int → Prop) (hkz12 : ∀ (Cz : Cn) (z1 : Int), kz12 (Cz, z1) → AW p l e R s m args below meth c E M_G_searches true (fun r C2 n2 => n2 = n ∧ Q r C2) n 0 0 12 [(2, v0), (0, z1), (9, 0), (9, 0)] [] Cz) (C : Cn) (v1 : Int) (h : B_G_searches_12 n v0 Q kz12 (C, v1)) : AW p l e R s m args below meth c E M_G_searches true (fun r C2 n2 => n2 = n ∧ Q r C2) n 0 0 12 [(2, v0), (0, v1), (9, 0), (9, 0)] [] C := by
  unfold B_G_searches_12 at h
  dsimp only at h
  refine AW.iload_n (dc hd_G_searches 8 rfl) rfl ?_
  refine AW.ra_n (dc hd_G_searches 9 rfl) rfl rfl rfl ?_
  obtain ⟨g_4, h⟩ := h
  refine AW.getf fl_10_221 (dc hd_G_searches 10 rfl) g_4 ?_
  refine AW.icmp_gt (t := 73) (dc hd_G_searches 11 rfl) (by decide) (fun c_5 => ?_) (fun c_5 => ?_)
  · have h := h.1 c_5
    exact AW.vret (dc hd_G_searches 41 rfl) rfl rfl (Nat.le_of_ble_eq_true rfl) (Nat.le_of_ble_eq_true rfl) ⟨rfl, h⟩
  · have h := h.2 c_5
    refine AW.iconst (dc hd_G_searches 12 rfl) (by decide) ?_
    refine AW.istore_n [(2, v0), (0, v1), (0, 0), (9, 0)] (dc hd_G_searches 13 rfl) (Nat.le_of_ble_eq_true rfl) rfl rfl ?_
    obtain ⟨f_16, h⟩ := h
    exact aB_G_searches_22 n v0 v1 kz12 Q hkz12 f_16 (C, 0) h
theorem aB_G_searches_12 (n : Nat) (v0 : Int) (Q : Int → Cn → Prop) : ∀ (f : Nat) (z : Cn × Int), lp (B_G_searches_12 n v0 Q) f z → AW p l e R s m args below meth c E M_G_searches true (fun r C2 n2 => n2 = n ∧ Q r C2) n 0 0 12 [(2, v0), (0, z.2), (9, 0), (9, 0)] [] (z.1) := by
  intro f
  induction f with
  | zero => intro z h; exact False.elim h
  | succ f ih => intro z h; exact bB_G_searches_12 n v0 Q (lp (B_G_searches_12 n v0 Q) f) (fun a0 a1 h => ih (a0, a1) h) z.1 z.2 h
def P_G_searches (n : Nat) (C : Cn) (v0 : Int) (Q : Int → Cn → Prop) : Prop :=
  okO n v0 10 ∧ (∀ C_2 : Cn, C_2 = wr C v0.toNat 28 0 → (∀ C_3 : Cn, C_3 = wr C_2 v0.toNat 29 0 → (∃ f_17 : Nat, lp (B_G_searches_12 n v0 Q) f_17 (C_3, 0))))
theorem m_G_searches (l : Launch) (E : Ev) (n : Nat) (C : Cn) (v0 : Int) (Q : Int → Cn → Prop) (h : P_G_searches n C v0 Q) : MA l y_G_searches M_G_searches E true C n [(2, v0)] (fun r C2 n2 => n2 = n ∧ Q r C2) := by
  refine MA.of (by decide) rfl rfl 3 rfl (fun p e s m args below meth c => ?_)
  show AW p l e _ s m args below meth c E M_G_searches true _ n 0 0 0 [(2, v0), (9, 0), (9, 0), (9, 0)] [] C
  unfold P_G_searches at h
  refine AW.ra_n (dc hd_G_searches 0 rfl) rfl rfl rfl ?_
  refine AW.iconst (dc hd_G_searches 1 rfl) (by decide) ?_
  obtain ⟨g_1, h⟩ := h
  refine AW.nputI fl_10_316 (dc hd_G_searches 2 rfl) g_1 (fun C_2 eC_2 => ?_)
  have h := h C_2 eC_2
  refine AW.ra_n (dc hd_G_searches 3 rfl) rfl rfl rfl ?_
  refine AW.iconst (dc hd_G_searches 4 rfl) (by decide) ?_
  refine AW.nputI fl_10_319 (dc hd_G_searches 5 rfl) g_1 (fun C_3 eC_3 => ?_)
  have h := h C_3 eC_3
  refine AW.iconst (dc hd_G_searches 6 rfl) (by decide) ?_
  refine AW.istore_n [(2, v0), (0, 0), (9, 0), (9, 0)] (dc hd_G_searches 7 rfl) (Nat.le_of_ble_eq_true rfl) rfl rfl ?_
  obtain ⟨f_17, h⟩ := h
  exact aB_G_searches_12 n v0 Q f_17 (C_3, 0) h
def J_G_depth_43 (n : Nat) (C : Cn) (s0 : Int) (Q : Int → Cn → Prop) : Prop :=
  Q s0 C
theorem aJ_G_depth_43 (n : Nat) (C : Cn) (s0 : Int) (Q : Int → Cn → Prop) (h : J_G_depth_43 n C s0 Q) : AW p l e R s m args below meth c E M_G_depth true (fun r C2 n2 => n2 = n ∧ Q r C2) n 0 0 43 [(9, 0), (9, 0)] [(0, s0)] C := by
  unfold J_G_depth_43 at h
  exact AW.iret (dc hd_G_depth 23 rfl) rfl rfl (Nat.le_of_ble_eq_true rfl) (Nat.le_of_ble_eq_true rfl) ⟨rfl, h⟩
def P_G_depth (n : Nat) (C : Cn) (v0 v1 : Int) (Q : Int → Cn → Prop) : Prop :=
  P_G_in n C v1 0 1 (fun (r_1 : Int) => (r_1 = 0 → (okO n v0 10 ∧ (P_G_finds n C v0 0 (fun (r_20 : Int) (C_22 : Cn) => Q r_20 C_22)))) ∧ (¬ r_1 = 0 → (okO n v0 10 ∧ (P_G_maps n C v0 (fun (_ : Int) (C_7 : Cn) => P_G_asNumbered n C_7 v0 (fun (_ : Int) (C_11 : Cn) => P_G_searches n C_11 v0 (fun (_ : Int) (C_15 : Cn) => J_G_depth_43 n C_15 (if v1 = 0 then C_15 v0.toNat 28 else C_15 v0.toNat 29) Q)))))))
theorem m_G_depth (l : Launch) (E : Ev) (n : Nat) (C : Cn) (v0 v1 : Int) (Q : Int → Cn → Prop) (h : P_G_depth n C v0 v1 Q) : MA l y_G_depth M_G_depth E true C n [(2, v0), (0, v1)] (fun r C2 n2 => n2 = n ∧ Q r C2) := by
  refine MA.of (by decide) rfl rfl 0 rfl (fun p e s m args below meth c => ?_)
  show AW p l e _ s m args below meth c E M_G_depth true _ n 0 0 0 [(2, v0), (0, v1)] [] C
  unfold P_G_depth at h
  refine AW.iload_n (dc hd_G_depth 0 rfl) rfl ?_
  refine AW.i2l (dc hd_G_depth 1 rfl) ?_
  refine AW.lconst (v := 0) (dc hd_G_depth 2 rfl) (by decide) (by decide +kernel) ?_
  refine AW.lconst (v := 1) (dc hd_G_depth 3 rfl) (by decide) (by decide +kernel) ?_
  refine AW.callS (As := [(1, v1), (1, 0), (1, 1)]) (rest := []) (m_G_in l E n C v1 0 1 _ h) cb_10_113 sm_G_in (dc hd_G_depth 4 rfl) rfl rfl ⟨Nat.le_of_ble_eq_true rfl, Nat.le_of_ble_eq_true rfl⟩ ⟨(Nat.le_of_ble_eq_true rfl), (Nat.le_of_ble_eq_true rfl)⟩ (Nat.le_of_ble_eq_true rfl) (fun _ h => by cases h) (fun _ => rfl) (fun r_1 D_3 d_4 q_2 => ?_)
  obtain ⟨q_2a, q_2b, h⟩ := q_2
  subst D_3
  subst d_4
  show AW p l e _ s m args below meth c E M_G_depth true _ n _ _ _ [(2, v0), (0, v1)] [(0, r_1)] C
  refine AW.if_ne (t := 16) (dc hd_G_depth 5 rfl) (by decide) (fun c_5 => ?_) (fun c_5 => ?_)
  · have h := h.2 c_5
    refine AW.ra_n (dc hd_G_depth 10 rfl) rfl rfl rfl ?_
    obtain ⟨g_6, h⟩ := h
    refine AW.callV (As := []) (rest := []) (ci := 10) (m_G_maps l E n C v0 _ h) cb_10_211 im_G_maps se_G_maps ⟨_, _, rfl⟩ (by decide) (dc hd_G_depth 11 rfl) g_6 rfl rfl ⟨Nat.le_of_ble_eq_true rfl, Nat.le_of_ble_eq_true rfl⟩ ⟨(Nat.le_of_ble_eq_true rfl), (Nat.le_of_ble_eq_true rfl)⟩ (Nat.le_of_ble_eq_true rfl) (fun _ h => by cases h) (fun _ => rfl) (fun u_9 C_7 d_10 q_8 => ?_)
    obtain ⟨q_8a, h⟩ := q_8
    subst d_10
    show AW p l e _ s m args below meth c E M_G_depth true _ n _ _ _ [(2, v0), (0, v1)] [] C_7
    refine AW.ra_n (dc hd_G_depth 12 rfl) rfl rfl rfl ?_
    refine AW.callV (As := []) (rest := []) (ci := 10) (m_G_asNumbered l E n C_7 v0 _ h) cb_10_310 im_G_asNumbered se_G_asNumbered ⟨_, _, rfl⟩ (by decide) (dc hd_G_depth 13 rfl) g_6 rfl rfl ⟨Nat.le_of_ble_eq_true rfl, Nat.le_of_ble_eq_true rfl⟩ ⟨(Nat.le_of_ble_eq_true rfl), (Nat.le_of_ble_eq_true rfl)⟩ (Nat.le_of_ble_eq_true rfl) (fun _ h => by cases h) (fun _ => rfl) (fun u_13 C_11 d_14 q_12 => ?_)
    obtain ⟨q_12a, h⟩ := q_12
    subst d_14
    show AW p l e _ s m args below meth c E M_G_depth true _ n _ _ _ [(2, v0), (0, v1)] [] C_11
    refine AW.ra_n (dc hd_G_depth 14 rfl) rfl rfl rfl ?_
    refine AW.callV (As := []) (rest := []) (ci := 10) (m_G_searches l E n C_11 v0 _ h) cb_10_322 im_G_searches se_G_searches ⟨_, _, rfl⟩ (by decide) (dc hd_G_depth 15 rfl) g_6 rfl rfl ⟨Nat.le_of_ble_eq_true rfl, Nat.le_of_ble_eq_true rfl⟩ ⟨(Nat.le_of_ble_eq_true rfl), (Nat.le_of_ble_eq_true rfl)⟩ (Nat.le_of_ble_eq_true rfl) (fun _ h => by cases h) (fun _ => rfl) (fun u_17 C_15 d_18 q_16 => ?_)
    obtain ⟨q_16a, h⟩ := q_16
    subst d_18
    show AW p l e _ s m args below meth c E M_G_depth true _ n _ _ _ [(2, v0), (0, v1)] [] C_15
    refine AW.iload_n (dc hd_G_depth 16 rfl) rfl ?_
    refine AW.if_ne (t := 39) (dc hd_G_depth 17 rfl) (by decide) (fun c_19 => ?_) (fun c_19 => ?_)
    · simp only [if_neg (show ¬ (v1 = 0) from c_19)] at h
      refine AW.ra_n (dc hd_G_depth 21 rfl) rfl rfl rfl ?_
      refine AW.getf fl_10_319 (dc hd_G_depth 22 rfl) g_6 ?_
      refine AW.fgt [(9, 0), (9, 0)] ⟨.inr rfl, .inr rfl, trivial⟩ ?_
      exact aJ_G_depth_43 n C_15 _ Q h
    · simp only [if_pos (show v1 = 0 from c_19)] at h
      refine AW.ra_n (dc hd_G_depth 18 rfl) rfl rfl rfl ?_
      refine AW.getf fl_10_316 (dc hd_G_depth 19 rfl) g_6 ?_
      refine AW.goto (t := 43) (dc hd_G_depth 20 rfl) (by decide) ?_
      refine AW.fgt [(9, 0), (9, 0)] ⟨.inr rfl, .inr rfl, trivial⟩ ?_
      exact aJ_G_depth_43 n C_15 _ Q h
  · have h := h.1 c_5
    refine AW.ra_n (dc hd_G_depth 6 rfl) rfl rfl rfl ?_
    refine AW.iconst (dc hd_G_depth 7 rfl) (by decide) ?_
    obtain ⟨g_21, h⟩ := h
    refine AW.callV (As := [(0, 0)]) (rest := []) (ci := 10) (m_G_finds l E n C v0 0 _ h) cb_10_186 im_G_finds se_G_finds ⟨_, _, rfl⟩ (by decide) (dc hd_G_depth 8 rfl) g_21 rfl rfl ⟨Nat.le_of_ble_eq_true rfl, Nat.le_of_ble_eq_true rfl⟩ ⟨(Nat.le_of_ble_eq_true rfl), (Nat.le_of_ble_eq_true rfl)⟩ (Nat.le_of_ble_eq_true rfl) (fun _ h => by cases h) (fun _ => rfl) (fun r_20 C_22 d_24 q_23 => ?_)
    obtain ⟨q_23a, h⟩ := q_23
    subst d_24
    show AW p l e _ s m args below meth c E M_G_depth true _ n _ _ _ [(2, v0), (0, v1)] [(0, r_20)] C_22
    exact AW.iret (dc hd_G_depth 9 rfl) rfl rfl (Nat.le_of_ble_eq_true rfl) (Nat.le_of_ble_eq_true rfl) ⟨rfl, h⟩
def B_G_orders_4 (n : Nat) (C : Cn) (v0 : Int) (Q : Int → Prop) (kz4 : Int × Int → Prop) (z : Int × Int) : Prop := match z with
  | (v1, v2) => okO n v0 10 ∧ ((C v0.toNat 0 < v2 → (Q v1)) ∧ (¬ C v0.toNat 0 < v2 → (kz4 (w32 (v1 * v2), w32 (v2 + 1)))))
theorem bB_G_orders_4 (n : Nat) (C : Cn) (v0 : Int) (Q : Int → Prop) (kz4 : Int × Int → Prop) (hkz4 : ∀ (z1 : Int) (z2 : Int), kz4 (z1, z2) → AW p l e R s m args below meth c E M_G_orders true (fun r C2 n2 => C2 = C ∧ n2 = n ∧ Q r) n 0 0 4 [(2, v0), (0, z1), (0, z2)] [] C) (v1 : Int) (v2 : Int) (h : B_G_orders_4 n C v0 Q kz4 (v1, v2)) : AW p l e R s m args below meth c E M_G_orders true (fun r C2 n2 => C2 = C ∧ n2 = n ∧ Q r) n 0 0 4 [(2, v0), (0, v1), (0, v2)] [] C := by
  unfold B_G_orders_4 at h
  dsimp only at h
  refine AW.iload_n (dc hd_G_orders 4 rfl) rfl ?_
  refine AW.ra_n (dc hd_G_orders 5 rfl) rfl rfl rfl ?_
  obtain ⟨g_1, h⟩ := h
  refine AW.getf fl_10_117 (dc hd_G_orders 6 rfl) g_1 ?_
  refine AW.icmp_gt (t := 22) (dc hd_G_orders 7 rfl) (by decide) (fun c_2 => ?_) (fun c_2 => ?_)
  · have h := h.1 c_2
    refine AW.iload_n (dc hd_G_orders 14 rfl) rfl ?_
    exact AW.iret (dc hd_G_orders 15 rfl) rfl rfl (Nat.le_of_ble_eq_true rfl) (Nat.le_of_ble_eq_true rfl) ⟨rfl, rfl, h⟩
  · have h := h.2 c_2
    refine AW.iload_n (dc hd_G_orders 8 rfl) rfl ?_
    refine AW.iload_n (dc hd_G_orders 9 rfl) rfl ?_
    refine AW.imul (dc hd_G_orders 10 rfl) ?_
    refine AW.istore_n [(2, v0), (0, w32 (v1 * v2)), (0, v2)] (dc hd_G_orders 11 rfl) (Nat.le_of_ble_eq_true rfl) rfl rfl ?_
    refine AW.iinc [(2, v0), (0, w32 (v1 * v2)), (0, w32 (v2 + 1))] (dc hd_G_orders 12 rfl) rfl (Nat.le_of_ble_eq_true rfl) rfl rfl ?_
    refine AW.goto (t := 4) (dc hd_G_orders 13 rfl) (by decide) ?_
    exact hkz4 (w32 (v1 * v2)) (w32 (v2 + 1)) h
theorem aB_G_orders_4 (n : Nat) (C : Cn) (v0 : Int) (Q : Int → Prop) : ∀ (f : Nat) (z : Int × Int), lp (B_G_orders_4 n C v0 Q) f z → AW p l e R s m args below meth c E M_G_orders true (fun r C2 n2 => C2 = C ∧ n2 = n ∧ Q r) n 0 0 4 [(2, v0), (0, z.1), (0, z.2)] [] C := by
  intro f
  induction f with
  | zero => intro z h; exact False.elim h
  | succ f ih => intro z h; exact bB_G_orders_4 n C v0 Q (lp (B_G_orders_4 n C v0 Q) f) (fun a0 a1 h => ih (a0, a1) h) z.1 z.2 h
def P_G_orders (n : Nat) (C : Cn) (v0 : Int) (Q : Int → Prop) : Prop :=
  ∃ f_3 : Nat, lp (B_G_orders_4 n C v0 Q) f_3 (1, 2)
theorem m_G_orders (l : Launch) (E : Ev) (n : Nat) (C : Cn) (v0 : Int) (Q : Int → Prop) (h : P_G_orders n C v0 Q) : MA l y_G_orders M_G_orders E true C n [(2, v0)] (fun r C2 n2 => C2 = C ∧ n2 = n ∧ Q r) := by
  refine MA.of (by decide) rfl rfl 2 rfl (fun p e s m args below meth c => ?_)
  show AW p l e _ s m args below meth c E M_G_orders true _ n 0 0 0 [(2, v0), (9, 0), (9, 0)] [] C
  unfold P_G_orders at h
  refine AW.iconst (dc hd_G_orders 0 rfl) (by decide) ?_
  refine AW.istore_n [(2, v0), (0, 1), (9, 0)] (dc hd_G_orders 1 rfl) (Nat.le_of_ble_eq_true rfl) rfl rfl ?_
  refine AW.iconst (dc hd_G_orders 2 rfl) (by decide) ?_
  refine AW.istore_n [(2, v0), (0, 1), (0, 2)] (dc hd_G_orders 3 rfl) (Nat.le_of_ble_eq_true rfl) rfl rfl ?_
  obtain ⟨f_3, h⟩ := h
  exact aB_G_orders_4 n C v0 Q f_3 (1, 2) h
def J_G_laysOrder_69 (n : Nat) (C : Cn) (v0 v2 v3 v4 v5 v6 v7 : Int) (kz20 : Cn × Int × Int × Int × Int → Prop) (kz55 : Int × Int → Prop) (Q : Int → Cn → Prop) : Prop :=
  ∀ v6_19 : Int, v6_19 = w32 (v6 - (and32 (shr32 v2 v7) 1)) → (kz55 (v6_19, w32 (v7 + 1)))
theorem aJ_G_laysOrder_69 (n : Nat) (C : Cn) (v0 v2 v3 v4 v5 v6 v7 : Int) (kz20 : Cn × Int × Int × Int × Int → Prop) (kz55 : Int × Int → Prop) (Q : Int → Cn → Prop) (hkz20 : ∀ (Cz : Cn) (z2 : Int) (z3 : Int) (z4 : Int) (z5 : Int), kz20 (Cz, z2, z3, z4, z5) → AW p l e R s m args below meth c E M_G_laysOrder true (fun r C2 n2 => n2 = n ∧ Q r C2) n 0 0 20 [(2, v0), (9, 0), (0, z2), (0, z3), (0, z4), (0, z5), (9, 0), (9, 0)] [] Cz) (hkz55 : ∀ (z6 : Int) (z7 : Int), kz55 (z6, z7) → AW p l e R s m args below meth c E M_G_laysOrder true (fun r C2 n2 => n2 = n ∧ Q r C2) n 0 0 55 [(2, v0), (9, 0), (0, v2), (0, v3), (0, v4), (0, v5), (0, z6), (0, z7)] [] C) (h : J_G_laysOrder_69 n C v0 v2 v3 v4 v5 v6 v7 kz20 kz55 Q) : AW p l e R s m args below meth c E M_G_laysOrder true (fun r C2 n2 => n2 = n ∧ Q r C2) n 0 0 69 [(2, v0), (9, 0), (0, v2), (0, v3), (0, v4), (0, v5), (0, v6), (0, v7)] [] C := by
  unfold J_G_laysOrder_69 at h
  refine AW.iload (dc hd_G_laysOrder 41 rfl) rfl ?_
  refine AW.iload_n (dc hd_G_laysOrder 42 rfl) rfl ?_
  refine AW.iload (dc hd_G_laysOrder 43 rfl) rfl ?_
  refine AW.ishr (dc hd_G_laysOrder 44 rfl) ?_
  refine AW.iconst (dc hd_G_laysOrder 45 rfl) (by decide) ?_
  refine AW.iand (dc hd_G_laysOrder 46 rfl) ?_
  refine AW.isub (dc hd_G_laysOrder 47 rfl) ?_
  refine AW.nm (fun v6_19 ev6_19 => ?_)
  have h := h v6_19 ev6_19
  refine AW.istore [(2, v0), (9, 0), (0, v2), (0, v3), (0, v4), (0, v5), (0, v6_19), (0, v7)] (dc hd_G_laysOrder 48 rfl) (Nat.le_of_ble_eq_true rfl) rfl rfl ?_
  refine AW.iinc [(2, v0), (9, 0), (0, v2), (0, v3), (0, v4), (0, v5), (0, v6_19), (0, w32 (v7 + 1))] (dc hd_G_laysOrder 49 rfl) rfl (Nat.le_of_ble_eq_true rfl) rfl rfl ?_
  refine AW.goto (t := 55) (dc hd_G_laysOrder 50 rfl) (by decide) ?_
  exact hkz55 v6_19 (w32 (v7 + 1)) h
def J_G_laysOrder_86 (n : Nat) (C : Cn) (v0 v2 v3 v4 v5 v7 : Int) (kz20 : Cn × Int × Int × Int × Int → Prop) (Q : Int → Cn → Prop) : Prop :=
  okO n v0 10 ∧ (okO n (PT v0.toNat 27) 12 ∧ (okI (PT v0.toNat 27) v5 ∧ (∀ C_24 : Cn, C_24 = wr C (PT v0.toNat 27).toNat v5.toNat v7 → (∀ v2_25 : Int, v2_25 = and32 v2 (xor32 (shl32 1 v7) (-1)) → (kz20 (C_24, v2_25, v3, v4, w32 (v5 + 1)))))))
theorem aJ_G_laysOrder_86 (n : Nat) (C : Cn) (v0 v2 v3 v4 v5 v7 : Int) (kz20 : Cn × Int × Int × Int × Int → Prop) (Q : Int → Cn → Prop) (hkz20 : ∀ (Cz : Cn) (z2 : Int) (z3 : Int) (z4 : Int) (z5 : Int), kz20 (Cz, z2, z3, z4, z5) → AW p l e R s m args below meth c E M_G_laysOrder true (fun r C2 n2 => n2 = n ∧ Q r C2) n 0 0 20 [(2, v0), (9, 0), (0, z2), (0, z3), (0, z4), (0, z5), (9, 0), (9, 0)] [] Cz) (h : J_G_laysOrder_86 n C v0 v2 v3 v4 v5 v7 kz20 Q) : AW p l e R s m args below meth c E M_G_laysOrder true (fun r C2 n2 => n2 = n ∧ Q r C2) n 0 0 86 [(2, v0), (9, 0), (0, v2), (0, v3), (0, v4), (0, v5), (9, 0), (0, v7)] [] C := by
  unfold J_G_laysOrder_86 at h
  refine AW.ra_n (dc hd_G_laysOrder 51 rfl) rfl rfl rfl ?_
  obtain ⟨g_21, h⟩ := h
  refine AW.getp fl_10_61 (dc hd_G_laysOrder 52 rfl) g_21 rfl ?_
  refine AW.iload (dc hd_G_laysOrder 53 rfl) rfl ?_
  refine AW.iload (dc hd_G_laysOrder 54 rfl) rfl ?_
  obtain ⟨g_22, h⟩ := h
  obtain ⟨g_23, h⟩ := h
  refine AW.niast (dc hd_G_laysOrder 55 rfl) g_22 g_23 (fun C_24 eC_24 => ?_)
  have h := h C_24 eC_24
  refine AW.iload_n (dc hd_G_laysOrder 56 rfl) rfl ?_
  refine AW.iconst (dc hd_G_laysOrder 57 rfl) (by decide) ?_
  refine AW.iload (dc hd_G_laysOrder 58 rfl) rfl ?_
  refine AW.ishl (dc hd_G_laysOrder 59 rfl) ?_
  refine AW.iconst (dc hd_G_laysOrder 60 rfl) (by decide) ?_
  refine AW.ixor (dc hd_G_laysOrder 61 rfl) ?_
  refine AW.iand (dc hd_G_laysOrder 62 rfl) ?_
  refine AW.nm (fun v2_25 ev2_25 => ?_)
  have h := h v2_25 ev2_25
  refine AW.istore_n [(2, v0), (9, 0), (0, v2_25), (0, v3), (0, v4), (0, v5), (9, 0), (0, v7)] (dc hd_G_laysOrder 63 rfl) (Nat.le_of_ble_eq_true rfl) rfl rfl ?_
  refine AW.iinc [(2, v0), (9, 0), (0, v2_25), (0, v3), (0, v4), (0, w32 (v5 + 1)), (9, 0), (0, v7)] (dc hd_G_laysOrder 64 rfl) rfl (Nat.le_of_ble_eq_true rfl) rfl rfl ?_
  refine AW.goto (t := 20) (dc hd_G_laysOrder 65 rfl) (by decide) ?_
  refine AW.fgt [(2, v0), (9, 0), (0, v2_25), (0, v3), (0, v4), (0, w32 (v5 + 1)), (9, 0), (9, 0)] ⟨.inl rfl, .inl rfl, .inl rfl, .inl rfl, .inl rfl, .inl rfl, .inl rfl, .inr rfl, trivial⟩ ?_
  exact hkz20 C_24 v2_25 v3 v4 (w32 (v5 + 1)) h
def B_G_laysOrder_55 (n : Nat) (C : Cn) (v0 v2 v3 v4 v5 : Int) (kz20 : Cn × Int × Int × Int × Int → Prop) (Q : Int → Cn → Prop) (kz55 : Int × Int → Prop) (z : Int × Int) : Prop := match z with
  | (v6, v7) => P_G_has n C v2 v7 (fun (r_14 : Int) => (r_14 = 0 → (J_G_laysOrder_69 n C v0 v2 v3 v4 v5 v6 v7 kz20 kz55 Q)) ∧ (¬ r_14 = 0 → ((v6 ≤ 0 → (J_G_laysOrder_86 n C v0 v2 v3 v4 v5 v7 kz20 Q)) ∧ (¬ v6 ≤ 0 → (J_G_laysOrder_69 n C v0 v2 v3 v4 v5 v6 v7 kz20 kz55 Q)))))
theorem bB_G_laysOrder_55 (n : Nat) (C : Cn) (v0 v2 v3 v4 v5 : Int) (kz20 : Cn × Int × Int × Int × Int → Prop) (Q : Int → Cn → Prop) (hkz20 : ∀ (Cz : Cn) (z2 : Int) (z3 : Int) (z4 : Int) (z5 : Int), kz20 (Cz, z2, z3, z4, z5) → AW p l e R s m args below meth c E M_G_laysOrder true (fun r C2 n2 => n2 = n ∧ Q r C2) n 0 0 20 [(2, v0), (9, 0), (0, z2), (0, z3), (0, z4), (0, z5), (9, 0), (9, 0)] [] Cz) (kz55 : Int × Int → Prop) (hkz55 : ∀ (z6 : Int) (z7 : Int), kz55 (z6, z7) → AW p l e R s m args below meth c E M_G_laysOrder true (fun r C2 n2 => n2 = n ∧ Q r C2) n 0 0 55 [(2, v0), (9, 0), (0, v2), (0, v3), (0, v4), (0, v5), (0, z6), (0, z7)] [] C) (v6 : Int) (v7 : Int) (h : B_G_laysOrder_55 n C v0 v2 v3 v4 v5 kz20 Q kz55 (v6, v7)) : AW p l e R s m args below meth c E M_G_laysOrder true (fun r C2 n2 => n2 = n ∧ Q r C2) n 0 0 55 [(2, v0), (9, 0), (0, v2), (0, v3), (0, v4), (0, v5), (0, v6), (0, v7)] [] C := by
  unfold B_G_laysOrder_55 at h
  dsimp only at h
  refine AW.iload_n (dc hd_G_laysOrder 35 rfl) rfl ?_
  refine AW.iload (dc hd_G_laysOrder 36 rfl) rfl ?_
  refine AW.callS (As := [(0, v2), (0, v7)]) (rest := []) (m_G_has l E n C v2 v7 _ h) cb_10_293 sm_G_has (dc hd_G_laysOrder 37 rfl) rfl rfl ⟨Nat.le_of_ble_eq_true rfl, Nat.le_of_ble_eq_true rfl⟩ ⟨(Nat.le_of_ble_eq_true rfl), (Nat.le_of_ble_eq_true rfl)⟩ (Nat.le_of_ble_eq_true rfl) (fun _ h => by cases h) (fun _ => rfl) (fun r_14 D_16 d_17 q_15 => ?_)
  obtain ⟨q_15a, q_15b, h⟩ := q_15
  subst D_16
  subst d_17
  show AW p l e _ s m args below meth c E M_G_laysOrder true _ n _ _ _ [(2, v0), (9, 0), (0, v2), (0, v3), (0, v4), (0, v5), (0, v6), (0, v7)] [(0, r_14)] C
  refine AW.if_eq (t := 69) (dc hd_G_laysOrder 38 rfl) (by decide) (fun c_18 => ?_) (fun c_18 => ?_)
  · have h := h.1 c_18
    exact aJ_G_laysOrder_69 n C v0 v2 v3 v4 v5 v6 v7 kz20 kz55 Q hkz20 hkz55 h
  · have h := h.2 c_18
    refine AW.iload (dc hd_G_laysOrder 39 rfl) rfl ?_
    refine AW.if_le (t := 86) (dc hd_G_laysOrder 40 rfl) (by decide) (fun c_20 => ?_) (fun c_20 => ?_)
    · have h := h.1 c_20
      refine AW.fgt [(2, v0), (9, 0), (0, v2), (0, v3), (0, v4), (0, v5), (9, 0), (0, v7)] ⟨.inl rfl, .inl rfl, .inl rfl, .inl rfl, .inl rfl, .inl rfl, .inr rfl, .inl rfl, trivial⟩ ?_
      exact aJ_G_laysOrder_86 n C v0 v2 v3 v4 v5 v7 kz20 Q hkz20 h
    · have h := h.2 c_20
      exact aJ_G_laysOrder_69 n C v0 v2 v3 v4 v5 v6 v7 kz20 kz55 Q hkz20 hkz55 h
theorem aB_G_laysOrder_55 (n : Nat) (C : Cn) (v0 v2 v3 v4 v5 : Int) (kz20 : Cn × Int × Int × Int × Int → Prop) (Q : Int → Cn → Prop) (hkz20 : ∀ (Cz : Cn) (z2 : Int) (z3 : Int) (z4 : Int) (z5 : Int), kz20 (Cz, z2, z3, z4, z5) → AW p l e R s m args below meth c E M_G_laysOrder true (fun r C2 n2 => n2 = n ∧ Q r C2) n 0 0 20 [(2, v0), (9, 0), (0, z2), (0, z3), (0, z4), (0, z5), (9, 0), (9, 0)] [] Cz) : ∀ (f : Nat) (z : Int × Int), lp (B_G_laysOrder_55 n C v0 v2 v3 v4 v5 kz20 Q) f z → AW p l e R s m args below meth c E M_G_laysOrder true (fun r C2 n2 => n2 = n ∧ Q r C2) n 0 0 55 [(2, v0), (9, 0), (0, v2), (0, v3), (0, v4), (0, v5), (0, z.1), (0, z.2)] [] C := by
  intro f
  induction f with
  | zero => intro z h; exact False.elim h
  | succ f ih => intro z h; exact bB_G_laysOrder_55 n C v0 v2 v3 v4 v5 kz20 Q hkz20 (lp (B_G_laysOrder_55 n C v0 v2 v3 v4 v5 kz20 Q) f) (fun a0 a1 h => ih (a0, a1) h) z.1 z.2 h
def B_G_laysOrder_20 (n : Nat) (v0 : Int) (Q : Int → Cn → Prop) (kz20 : Cn × Int × Int × Int × Int → Prop) (z : Cn × Int × Int × Int × Int) : Prop := match z with
  | (C, v2, v3, v4, v5) => okO n v0 10 ∧ ((C v0.toNat 0 ≤ v5 → (Q 0 C)) ∧ (¬ C v0.toNat 0 ≤ v5 → (w32 (C v0.toNat 0 - v5) ≠ 0 ∧ (∀ v4_10 : Int, v4_10 = w32 (Int.tdiv v4 (w32 (C v0.toNat 0 - v5))) → (v4_10 ≠ 0 ∧ (∀ v6_12 : Int, v6_12 = w32 (Int.tdiv v3 v4_10) → (∀ v3_13 : Int, v3_13 = w32 (Int.tmod v3 v4_10) → (∃ f_26 : Nat, lp (B_G_laysOrder_55 n C v0 v2 v3_13 v4_10 v5 kz20 Q) f_26 (v6_12, 0)))))))))
theorem bB_G_laysOrder_20 (n : Nat) (v0 : Int) (Q : Int → Cn → Prop) (kz20 : Cn × Int × Int × Int × Int → Prop) (hkz20 : ∀ (Cz : Cn) (z2 : Int) (z3 : Int) (z4 : Int) (z5 : Int), kz20 (Cz, z2, z3, z4, z5) → AW p l e R s m args below meth c E M_G_laysOrder true (fun r C2 n2 => n2 = n ∧ Q r C2) n 0 0 20 [(2, v0), (9, 0), (0, z2), (0, z3), (0, z4), (0, z5), (9, 0), (9, 0)] [] Cz) (C : Cn) (v2 : Int) (v3 : Int) (v4 : Int) (v5 : Int) (h : B_G_laysOrder_20 n v0 Q kz20 (C, v2, v3, v4, v5)) : AW p l e R s m args below meth c E M_G_laysOrder true (fun r C2 n2 => n2 = n ∧ Q r C2) n 0 0 20 [(2, v0), (9, 0), (0, v2), (0, v3), (0, v4), (0, v5), (9, 0), (9, 0)] [] C := by
  unfold B_G_laysOrder_20 at h
  dsimp only at h
  refine AW.iload (dc hd_G_laysOrder 14 rfl) rfl ?_
  refine AW.ra_n (dc hd_G_laysOrder 15 rfl) rfl rfl rfl ?_
  obtain ⟨g_7, h⟩ := h
  refine AW.getf fl_10_117 (dc hd_G_laysOrder 16 rfl) g_7 ?_
  refine AW.icmp_ge (t := 110) (dc hd_G_laysOrder 17 rfl) (by decide) (fun c_8 => ?_) (fun c_8 => ?_)
  · have h := h.1 c_8
    exact AW.vret (dc hd_G_laysOrder 66 rfl) rfl rfl (Nat.le_of_ble_eq_true rfl) (Nat.le_of_ble_eq_true rfl) ⟨rfl, h⟩
  · have h := h.2 c_8
    refine AW.iload (dc hd_G_laysOrder 18 rfl) rfl ?_
    refine AW.ra_n (dc hd_G_laysOrder 19 rfl) rfl rfl rfl ?_
    refine AW.getf fl_10_117 (dc hd_G_laysOrder 20 rfl) g_7 ?_
    refine AW.iload (dc hd_G_laysOrder 21 rfl) rfl ?_
    refine AW.isub (dc hd_G_laysOrder 22 rfl) ?_
    obtain ⟨g_9, h⟩ := h
    refine AW.idiv (dc hd_G_laysOrder 23 rfl) g_9 ?_
    refine AW.nm (fun v4_10 ev4_10 => ?_)
    have h := h v4_10 ev4_10
    refine AW.istore [(2, v0), (9, 0), (0, v2), (0, v3), (0, v4_10), (0, v5), (9, 0), (9, 0)] (dc hd_G_laysOrder 24 rfl) (Nat.le_of_ble_eq_true rfl) rfl rfl ?_
    refine AW.iload_n (dc hd_G_laysOrder 25 rfl) rfl ?_
    refine AW.iload (dc hd_G_laysOrder 26 rfl) rfl ?_
    obtain ⟨g_11, h⟩ := h
    refine AW.idiv (dc hd_G_laysOrder 27 rfl) g_11 ?_
    refine AW.nm (fun v6_12 ev6_12 => ?_)
    have h := h v6_12 ev6_12
    refine AW.istore [(2, v0), (9, 0), (0, v2), (0, v3), (0, v4_10), (0, v5), (0, v6_12), (9, 0)] (dc hd_G_laysOrder 28 rfl) (Nat.le_of_ble_eq_true rfl) rfl rfl ?_
    refine AW.iload_n (dc hd_G_laysOrder 29 rfl) rfl ?_
    refine AW.iload (dc hd_G_laysOrder 30 rfl) rfl ?_
    refine AW.irem (dc hd_G_laysOrder 31 rfl) g_11 ?_
    refine AW.nm (fun v3_13 ev3_13 => ?_)
    have h := h v3_13 ev3_13
    refine AW.istore_n [(2, v0), (9, 0), (0, v2), (0, v3_13), (0, v4_10), (0, v5), (0, v6_12), (9, 0)] (dc hd_G_laysOrder 32 rfl) (Nat.le_of_ble_eq_true rfl) rfl rfl ?_
    refine AW.iconst (dc hd_G_laysOrder 33 rfl) (by decide) ?_
    refine AW.istore [(2, v0), (9, 0), (0, v2), (0, v3_13), (0, v4_10), (0, v5), (0, v6_12), (0, 0)] (dc hd_G_laysOrder 34 rfl) (Nat.le_of_ble_eq_true rfl) rfl rfl ?_
    obtain ⟨f_26, h⟩ := h
    exact aB_G_laysOrder_55 n C v0 v2 v3_13 v4_10 v5 kz20 Q hkz20 f_26 (v6_12, 0) h
theorem aB_G_laysOrder_20 (n : Nat) (v0 : Int) (Q : Int → Cn → Prop) : ∀ (f : Nat) (z : Cn × Int × Int × Int × Int), lp (B_G_laysOrder_20 n v0 Q) f z → AW p l e R s m args below meth c E M_G_laysOrder true (fun r C2 n2 => n2 = n ∧ Q r C2) n 0 0 20 [(2, v0), (9, 0), (0, z.2.1), (0, z.2.2.1), (0, z.2.2.2.1), (0, z.2.2.2.2), (9, 0), (9, 0)] [] (z.1) := by
  intro f
  induction f with
  | zero => intro z h; exact False.elim h
  | succ f ih => intro z h; exact bB_G_laysOrder_20 n v0 Q (lp (B_G_laysOrder_20 n v0 Q) f) (fun a0 a1 a2 a3 a4 h => ih (a0, a1, a2, a3, a4) h) z.1 z.2.1 z.2.2.1 z.2.2.2.1 z.2.2.2.2 h
def P_G_laysOrder (n : Nat) (C : Cn) (v0 v1 : Int) (Q : Int → Cn → Prop) : Prop :=
  okO n v0 10 ∧ (∀ v2_2 : Int, v2_2 = w32 (shl32 1 (C v0.toNat 0) - 1) → (P_G_orders n C v0 (fun (r_3 : Int) => ∃ f_27 : Nat, lp (B_G_laysOrder_20 n v0 Q) f_27 (C, v2_2, v1, r_3, 0))))
theorem m_G_laysOrder (l : Launch) (E : Ev) (n : Nat) (C : Cn) (v0 v1 : Int) (Q : Int → Cn → Prop) (h : P_G_laysOrder n C v0 v1 Q) : MA l y_G_laysOrder M_G_laysOrder E true C n [(2, v0), (0, v1)] (fun r C2 n2 => n2 = n ∧ Q r C2) := by
  refine MA.of (by decide) rfl rfl 6 rfl (fun p e s m args below meth c => ?_)
  show AW p l e _ s m args below meth c E M_G_laysOrder true _ n 0 0 0 [(2, v0), (0, v1), (9, 0), (9, 0), (9, 0), (9, 0), (9, 0), (9, 0)] [] C
  unfold P_G_laysOrder at h
  refine AW.iconst (dc hd_G_laysOrder 0 rfl) (by decide) ?_
  refine AW.ra_n (dc hd_G_laysOrder 1 rfl) rfl rfl rfl ?_
  obtain ⟨g_1, h⟩ := h
  refine AW.getf fl_10_117 (dc hd_G_laysOrder 2 rfl) g_1 ?_
  refine AW.ishl (dc hd_G_laysOrder 3 rfl) ?_
  refine AW.iconst (dc hd_G_laysOrder 4 rfl) (by decide) ?_
  refine AW.isub (dc hd_G_laysOrder 5 rfl) ?_
  refine AW.nm (fun v2_2 ev2_2 => ?_)
  have h := h v2_2 ev2_2
  refine AW.istore_n [(2, v0), (0, v1), (0, v2_2), (9, 0), (9, 0), (9, 0), (9, 0), (9, 0)] (dc hd_G_laysOrder 6 rfl) (Nat.le_of_ble_eq_true rfl) rfl rfl ?_
  refine AW.iload_n (dc hd_G_laysOrder 7 rfl) rfl ?_
  refine AW.istore_n [(2, v0), (0, v1), (0, v2_2), (0, v1), (9, 0), (9, 0), (9, 0), (9, 0)] (dc hd_G_laysOrder 8 rfl) (Nat.le_of_ble_eq_true rfl) rfl rfl ?_
  refine AW.ra_n (dc hd_G_laysOrder 9 rfl) rfl rfl rfl ?_
  refine AW.callV (As := []) (rest := []) (ci := 10) (m_G_orders l E n C v0 _ h) cb_10_325 im_G_orders se_G_orders ⟨_, _, rfl⟩ (by decide) (dc hd_G_laysOrder 10 rfl) g_1 rfl rfl ⟨Nat.le_of_ble_eq_true rfl, Nat.le_of_ble_eq_true rfl⟩ ⟨(Nat.le_of_ble_eq_true rfl), (Nat.le_of_ble_eq_true rfl)⟩ (Nat.le_of_ble_eq_true rfl) (fun _ h => by cases h) (fun _ => rfl) (fun r_3 D_5 d_6 q_4 => ?_)
  obtain ⟨q_4a, q_4b, h⟩ := q_4
  subst D_5
  subst d_6
  show AW p l e _ s m args below meth c E M_G_laysOrder true _ n _ _ _ [(2, v0), (0, v1), (0, v2_2), (0, v1), (9, 0), (9, 0), (9, 0), (9, 0)] [(0, r_3)] C
  refine AW.istore [(2, v0), (0, v1), (0, v2_2), (0, v1), (0, r_3), (9, 0), (9, 0), (9, 0)] (dc hd_G_laysOrder 11 rfl) (Nat.le_of_ble_eq_true rfl) rfl rfl ?_
  refine AW.iconst (dc hd_G_laysOrder 12 rfl) (by decide) ?_
  refine AW.istore [(2, v0), (0, v1), (0, v2_2), (0, v1), (0, r_3), (0, 0), (9, 0), (9, 0)] (dc hd_G_laysOrder 13 rfl) (Nat.le_of_ble_eq_true rfl) rfl rfl ?_
  obtain ⟨f_27, h⟩ := h
  refine AW.fgt [(2, v0), (9, 0), (0, v2_2), (0, v1), (0, r_3), (0, 0), (9, 0), (9, 0)] ⟨.inl rfl, .inr rfl, .inl rfl, .inl rfl, .inl rfl, .inl rfl, .inl rfl, .inl rfl, trivial⟩ ?_
  exact aB_G_laysOrder_20 n v0 Q f_27 (C, v2_2, v1, r_3, 0) h
def J_G_ordered_95 (n : Nat) (C : Cn) (s0 : Int) (Q : Int → Cn → Prop) : Prop :=
  Q s0 C
theorem aJ_G_ordered_95 (n : Nat) (C : Cn) (s0 : Int) (Q : Int → Cn → Prop) (h : J_G_ordered_95 n C s0 Q) : AW p l e R s m args below meth c E M_G_ordered true (fun r C2 n2 => n2 = n ∧ Q r C2) n 0 0 95 [(9, 0), (9, 0), (9, 0)] [(0, s0)] C := by
  unfold J_G_ordered_95 at h
  exact AW.iret (dc hd_G_ordered 54 rfl) rfl rfl (Nat.le_of_ble_eq_true rfl) (Nat.le_of_ble_eq_true rfl) ⟨rfl, h⟩
def J_G_ordered_51 (n : Nat) (C : Cn) (v0 v1 v2 : Int) (Q : Int → Cn → Prop) : Prop :=
  okO n v0 10 ∧ (P_G_laysOrder n C v0 v1 (fun (_ : Int) (C_21 : Cn) => (v2 ≤ 9 → (P_G_maps n C_21 v0 (fun (_ : Int) (C_26 : Cn) => P_G_searches n C_26 v0 (fun (_ : Int) (C_30 : Cn) => J_G_ordered_95 n C_30 (if v2 = 0 then C_30 v0.toNat 28 else C_30 v0.toNat 29) Q)))) ∧ (¬ v2 ≤ 9 → (okO n (PT v0.toNat 27) 12 ∧ (okI (PT v0.toNat 27) (w32 (v2 - 10)) ∧ (Q (C_21 (PT v0.toNat 27).toNat (w32 (v2 - 10)).toNat) C_21))))))
theorem aJ_G_ordered_51 (n : Nat) (C : Cn) (v0 v1 v2 : Int) (Q : Int → Cn → Prop) (h : J_G_ordered_51 n C v0 v1 v2 Q) : AW p l e R s m args below meth c E M_G_ordered true (fun r C2 n2 => n2 = n ∧ Q r C2) n 0 0 51 [(2, v0), (0, v1), (0, v2)] [] C := by
  unfold J_G_ordered_51 at h
  refine AW.ra_n (dc hd_G_ordered 30 rfl) rfl rfl rfl ?_
  refine AW.iload_n (dc hd_G_ordered 31 rfl) rfl ?_
  obtain ⟨g_20, h⟩ := h
  refine AW.callV (As := [(0, v1)]) (rest := []) (ci := 10) (m_G_laysOrder l E n C v0 v1 _ h) cb_10_330 im_G_laysOrder se_G_laysOrder ⟨_, _, rfl⟩ (by decide) (dc hd_G_ordered 32 rfl) g_20 rfl rfl ⟨Nat.le_of_ble_eq_true rfl, Nat.le_of_ble_eq_true rfl⟩ ⟨(Nat.le_of_ble_eq_true rfl), (Nat.le_of_ble_eq_true rfl)⟩ (Nat.le_of_ble_eq_true rfl) (fun _ h => by cases h) (fun _ => rfl) (fun u_23 C_21 d_24 q_22 => ?_)
  obtain ⟨q_22a, h⟩ := q_22
  subst d_24
  show AW p l e _ s m args below meth c E M_G_ordered true _ n _ _ _ [(2, v0), (0, v1), (0, v2)] [] C_21
  refine AW.iload_n (dc hd_G_ordered 33 rfl) rfl ?_
  refine AW.bipush (dc hd_G_ordered 34 rfl) (by decide) (by decide +kernel) ?_
  refine AW.icmp_le (t := 72) (dc hd_G_ordered 35 rfl) (by decide) (fun c_25 => ?_) (fun c_25 => ?_)
  · have h := h.1 c_25
    refine AW.ra_n (dc hd_G_ordered 43 rfl) rfl rfl rfl ?_
    refine AW.callV (As := []) (rest := []) (ci := 10) (m_G_maps l E n C_21 v0 _ h) cb_10_211 im_G_maps se_G_maps ⟨_, _, rfl⟩ (by decide) (dc hd_G_ordered 44 rfl) g_20 rfl rfl ⟨Nat.le_of_ble_eq_true rfl, Nat.le_of_ble_eq_true rfl⟩ ⟨(Nat.le_of_ble_eq_true rfl), (Nat.le_of_ble_eq_true rfl)⟩ (Nat.le_of_ble_eq_true rfl) (fun _ h => by cases h) (fun _ => rfl) (fun u_28 C_26 d_29 q_27 => ?_)
    obtain ⟨q_27a, h⟩ := q_27
    subst d_29
    show AW p l e _ s m args below meth c E M_G_ordered true _ n _ _ _ [(2, v0), (0, v1), (0, v2)] [] C_26
    refine AW.ra_n (dc hd_G_ordered 45 rfl) rfl rfl rfl ?_
    refine AW.callV (As := []) (rest := []) (ci := 10) (m_G_searches l E n C_26 v0 _ h) cb_10_322 im_G_searches se_G_searches ⟨_, _, rfl⟩ (by decide) (dc hd_G_ordered 46 rfl) g_20 rfl rfl ⟨Nat.le_of_ble_eq_true rfl, Nat.le_of_ble_eq_true rfl⟩ ⟨(Nat.le_of_ble_eq_true rfl), (Nat.le_of_ble_eq_true rfl)⟩ (Nat.le_of_ble_eq_true rfl) (fun _ h => by cases h) (fun _ => rfl) (fun u_32 C_30 d_33 q_31 => ?_)
    obtain ⟨q_31a, h⟩ := q_31
    subst d_33
    show AW p l e _ s m args below meth c E M_G_ordered true _ n _ _ _ [(2, v0), (0, v1), (0, v2)] [] C_30
    refine AW.iload_n (dc hd_G_ordered 47 rfl) rfl ?_
    refine AW.if_ne (t := 91) (dc hd_G_ordered 48 rfl) (by decide) (fun c_34 => ?_) (fun c_34 => ?_)
    · simp only [if_neg (show ¬ (v2 = 0) from c_34)] at h
      refine AW.ra_n (dc hd_G_ordered 52 rfl) rfl rfl rfl ?_
      refine AW.getf fl_10_319 (dc hd_G_ordered 53 rfl) g_20 ?_
      refine AW.fgt [(9, 0), (9, 0), (9, 0)] ⟨.inr rfl, .inr rfl, .inr rfl, trivial⟩ ?_
      exact aJ_G_ordered_95 n C_30 _ Q h
    · simp only [if_pos (show v2 = 0 from c_34)] at h
      refine AW.ra_n (dc hd_G_ordered 49 rfl) rfl rfl rfl ?_
      refine AW.getf fl_10_316 (dc hd_G_ordered 50 rfl) g_20 ?_
      refine AW.goto (t := 95) (dc hd_G_ordered 51 rfl) (by decide) ?_
      refine AW.fgt [(9, 0), (9, 0), (9, 0)] ⟨.inr rfl, .inr rfl, .inr rfl, trivial⟩ ?_
      exact aJ_G_ordered_95 n C_30 _ Q h
  · have h := h.2 c_25
    refine AW.ra_n (dc hd_G_ordered 36 rfl) rfl rfl rfl ?_
    refine AW.getp fl_10_61 (dc hd_G_ordered 37 rfl) g_20 rfl ?_
    refine AW.iload_n (dc hd_G_ordered 38 rfl) rfl ?_
    refine AW.bipush (dc hd_G_ordered 39 rfl) (by decide) (by decide +kernel) ?_
    refine AW.isub (dc hd_G_ordered 40 rfl) ?_
    obtain ⟨g_35, h⟩ := h
    obtain ⟨g_36, h⟩ := h
    refine AW.iald (dc hd_G_ordered 41 rfl) g_35 g_36 ?_
    exact AW.iret (dc hd_G_ordered 42 rfl) rfl rfl (Nat.le_of_ble_eq_true rfl) (Nat.le_of_ble_eq_true rfl) ⟨rfl, h⟩
def P_G_ordered (n : Nat) (C : Cn) (v0 v1 v2 : Int) (Q : Int → Cn → Prop) : Prop :=
  okO n v0 10 ∧ (P_G_orders n C v0 (fun (r_1 : Int) => P_G_in n C v1 0 (w32 (r_1 - 1)) (fun (r_6 : Int) => (r_6 = 0 → (P_G_finds n C v0 0 (fun (r_11 : Int) (C_12 : Cn) => Q r_11 C_12))) ∧ (¬ r_6 = 0 → (P_G_in n C v2 0 1 (fun (r_15 : Int) => (r_15 = 0 → (P_G_in n C v2 10 (w32 (9 + C v0.toNat 0)) (fun (r_37 : Int) => (r_37 = 0 → (P_G_finds n C v0 0 (fun (r_42 : Int) (C_43 : Cn) => Q r_42 C_43))) ∧ (¬ r_37 = 0 → (J_G_ordered_51 n C v0 v1 v2 Q))))) ∧ (¬ r_15 = 0 → (J_G_ordered_51 n C v0 v1 v2 Q))))))))
theorem m_G_ordered (l : Launch) (E : Ev) (n : Nat) (C : Cn) (v0 v1 v2 : Int) (Q : Int → Cn → Prop) (h : P_G_ordered n C v0 v1 v2 Q) : MA l y_G_ordered M_G_ordered E true C n [(2, v0), (0, v1), (0, v2)] (fun r C2 n2 => n2 = n ∧ Q r C2) := by
  refine MA.of (by decide) rfl rfl 0 rfl (fun p e s m args below meth c => ?_)
  show AW p l e _ s m args below meth c E M_G_ordered true _ n 0 0 0 [(2, v0), (0, v1), (0, v2)] [] C
  unfold P_G_ordered at h
  refine AW.iload_n (dc hd_G_ordered 0 rfl) rfl ?_
  refine AW.i2l (dc hd_G_ordered 1 rfl) ?_
  refine AW.lconst (v := 0) (dc hd_G_ordered 2 rfl) (by decide) (by decide +kernel) ?_
  refine AW.ra_n (dc hd_G_ordered 3 rfl) rfl rfl rfl ?_
  obtain ⟨g_2, h⟩ := h
  refine AW.callV (As := []) (rest := [(1, 0), (1, v1)]) (ci := 10) (m_G_orders l E n C v0 _ h) cb_10_325 im_G_orders se_G_orders ⟨_, _, rfl⟩ (by decide) (dc hd_G_ordered 4 rfl) g_2 rfl rfl ⟨Nat.le_of_ble_eq_true rfl, Nat.le_of_ble_eq_true rfl⟩ ⟨(Nat.le_of_ble_eq_true rfl), (Nat.le_of_ble_eq_true rfl)⟩ (Nat.le_of_ble_eq_true rfl) (fun _ h => by cases h) (fun _ => rfl) (fun r_1 D_4 d_5 q_3 => ?_)
  obtain ⟨q_3a, q_3b, h⟩ := q_3
  subst D_4
  subst d_5
  show AW p l e _ s m args below meth c E M_G_ordered true _ n _ _ _ [(2, v0), (0, v1), (0, v2)] [(0, r_1), (1, 0), (1, v1)] C
  refine AW.iconst (dc hd_G_ordered 5 rfl) (by decide) ?_
  refine AW.isub (dc hd_G_ordered 6 rfl) ?_
  refine AW.i2l (dc hd_G_ordered 7 rfl) ?_
  refine AW.callS (As := [(1, v1), (1, 0), (1, w32 (r_1 - 1))]) (rest := []) (m_G_in l E n C v1 0 (w32 (r_1 - 1)) _ h) cb_10_113 sm_G_in (dc hd_G_ordered 8 rfl) rfl rfl ⟨Nat.le_of_ble_eq_true rfl, Nat.le_of_ble_eq_true rfl⟩ ⟨(Nat.le_of_ble_eq_true rfl), (Nat.le_of_ble_eq_true rfl)⟩ (Nat.le_of_ble_eq_true rfl) (fun _ h => by cases h) (fun _ => rfl) (fun r_6 D_8 d_9 q_7 => ?_)
  obtain ⟨q_7a, q_7b, h⟩ := q_7
  subst D_8
  subst d_9
  show AW p l e _ s m args below meth c E M_G_ordered true _ n _ _ _ [(2, v0), (0, v1), (0, v2)] [(0, r_6)] C
  refine AW.if_eq (t := 45) (dc hd_G_ordered 9 rfl) (by decide) (fun c_10 => ?_) (fun c_10 => ?_)
  · have h := h.1 c_10
    refine AW.ra_n (dc hd_G_ordered 26 rfl) rfl rfl rfl ?_
    refine AW.iconst (dc hd_G_ordered 27 rfl) (by decide) ?_
    refine AW.callV (As := [(0, 0)]) (rest := []) (ci := 10) (m_G_finds l E n C v0 0 _ h) cb_10_186 im_G_finds se_G_finds ⟨_, _, rfl⟩ (by decide) (dc hd_G_ordered 28 rfl) g_2 rfl rfl ⟨Nat.le_of_ble_eq_true rfl, Nat.le_of_ble_eq_true rfl⟩ ⟨(Nat.le_of_ble_eq_true rfl), (Nat.le_of_ble_eq_true rfl)⟩ (Nat.le_of_ble_eq_true rfl) (fun _ h => by cases h) (fun _ => rfl) (fun r_11 C_12 d_14 q_13 => ?_)
    obtain ⟨q_13a, h⟩ := q_13
    subst d_14
    show AW p l e _ s m args below meth c E M_G_ordered true _ n _ _ _ [(2, v0), (0, v1), (0, v2)] [(0, r_11)] C_12
    exact AW.iret (dc hd_G_ordered 29 rfl) rfl rfl (Nat.le_of_ble_eq_true rfl) (Nat.le_of_ble_eq_true rfl) ⟨rfl, h⟩
  · have h := h.2 c_10
    refine AW.iload_n (dc hd_G_ordered 10 rfl) rfl ?_
    refine AW.i2l (dc hd_G_ordered 11 rfl) ?_
    refine AW.lconst (v := 0) (dc hd_G_ordered 12 rfl) (by decide) (by decide +kernel) ?_
    refine AW.lconst (v := 1) (dc hd_G_ordered 13 rfl) (by decide) (by decide +kernel) ?_
    refine AW.callS (As := [(1, v2), (1, 0), (1, 1)]) (rest := []) (m_G_in l E n C v2 0 1 _ h) cb_10_113 sm_G_in (dc hd_G_ordered 14 rfl) rfl rfl ⟨Nat.le_of_ble_eq_true rfl, Nat.le_of_ble_eq_true rfl⟩ ⟨(Nat.le_of_ble_eq_true rfl), (Nat.le_of_ble_eq_true rfl)⟩ (Nat.le_of_ble_eq_true rfl) (fun _ h => by cases h) (fun _ => rfl) (fun r_15 D_17 d_18 q_16 => ?_)
    obtain ⟨q_16a, q_16b, h⟩ := q_16
    subst D_17
    subst d_18
    show AW p l e _ s m args below meth c E M_G_ordered true _ n _ _ _ [(2, v0), (0, v1), (0, v2)] [(0, r_15)] C
    refine AW.if_ne (t := 51) (dc hd_G_ordered 15 rfl) (by decide) (fun c_19 => ?_) (fun c_19 => ?_)
    · have h := h.2 c_19
      exact aJ_G_ordered_51 n C v0 v1 v2 Q h
    · have h := h.1 c_19
      refine AW.iload_n (dc hd_G_ordered 16 rfl) rfl ?_
      refine AW.i2l (dc hd_G_ordered 17 rfl) ?_
      refine AW.ldc2 (v := 10) (dc hd_G_ordered 18 rfl) ck_10_328 (by decide) rfl ?_
      refine AW.bipush (dc hd_G_ordered 19 rfl) (by decide) (by decide +kernel) ?_
      refine AW.ra_n (dc hd_G_ordered 20 rfl) rfl rfl rfl ?_
      refine AW.getf fl_10_117 (dc hd_G_ordered 21 rfl) g_2 ?_
      refine AW.iadd (dc hd_G_ordered 22 rfl) ?_
      refine AW.i2l (dc hd_G_ordered 23 rfl) ?_
      refine AW.callS (As := [(1, v2), (1, 10), (1, w32 (9 + C v0.toNat 0))]) (rest := []) (m_G_in l E n C v2 10 (w32 (9 + C v0.toNat 0)) _ h) cb_10_113 sm_G_in (dc hd_G_ordered 24 rfl) rfl rfl ⟨Nat.le_of_ble_eq_true rfl, Nat.le_of_ble_eq_true rfl⟩ ⟨(Nat.le_of_ble_eq_true rfl), (Nat.le_of_ble_eq_true rfl)⟩ (Nat.le_of_ble_eq_true rfl) (fun _ h => by cases h) (fun _ => rfl) (fun r_37 D_39 d_40 q_38 => ?_)
      obtain ⟨q_38a, q_38b, h⟩ := q_38
      subst D_39
      subst d_40
      show AW p l e _ s m args below meth c E M_G_ordered true _ n _ _ _ [(2, v0), (0, v1), (0, v2)] [(0, r_37)] C
      refine AW.if_ne (t := 51) (dc hd_G_ordered 25 rfl) (by decide) (fun c_41 => ?_) (fun c_41 => ?_)
      · have h := h.2 c_41
        exact aJ_G_ordered_51 n C v0 v1 v2 Q h
      · have h := h.1 c_41
        refine AW.ra_n (dc hd_G_ordered 26 rfl) rfl rfl rfl ?_
        refine AW.iconst (dc hd_G_ordered 27 rfl) (by decide) ?_
        refine AW.callV (As := [(0, 0)]) (rest := []) (ci := 10) (m_G_finds l E n C v0 0 _ h) cb_10_186 im_G_finds se_G_finds ⟨_, _, rfl⟩ (by decide) (dc hd_G_ordered 28 rfl) g_2 rfl rfl ⟨Nat.le_of_ble_eq_true rfl, Nat.le_of_ble_eq_true rfl⟩ ⟨(Nat.le_of_ble_eq_true rfl), (Nat.le_of_ble_eq_true rfl)⟩ (Nat.le_of_ble_eq_true rfl) (fun _ h => by cases h) (fun _ => rfl) (fun r_42 C_43 d_45 q_44 => ?_)
        obtain ⟨q_44a, h⟩ := q_44
        subst d_45
        show AW p l e _ s m args below meth c E M_G_ordered true _ n _ _ _ [(2, v0), (0, v1), (0, v2)] [(0, r_42)] C_43
        exact AW.iret (dc hd_G_ordered 29 rfl) rfl rfl (Nat.le_of_ble_eq_true rfl) (Nat.le_of_ble_eq_true rfl) ⟨rfl, h⟩
end
