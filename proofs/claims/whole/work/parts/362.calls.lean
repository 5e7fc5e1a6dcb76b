/-! my own: the small calls -/
theorem c_tide {n : Nat} {C : Cn} {v : Int} (hn : 320 ≤ n) (inv : Inv C) : P_F_tide n C 1 v (fun r C1 => P_G_tide n C1 91 v (fun r2 C2 => r = r2 ∧ Inv C2)) := by
  have hf : 91 ≤ n := by omega
  have inv' := inv
  obtain ⟨m, i1, i2, -⟩ := inv'
  unfold P_F_tide
  refine f_isIn (bI_br (fun q => ?_) (fun q => ?_))
  · simp only [fS hf, true_and]
    refine f_tell hf (by decide) (fun C1 c1 => ?_)
    unfold P_G_tide
    refine g_in (bI_br (fun _ => ?_) (fun q2 => absurd q2 q))
    simp only [gS hn, true_and]
    exact both hn (by decide) inv c1 (fun _ _ _ => rfl)
  · simp only [fS hf, Int.reduceToNat, true_and]
    intro v2 hv2 C9 c9
    unfold P_G_tide
    refine g_in (bI_br (fun q2 => absurd q q2) (fun _ => ?_))
    simp only [gS hn, Int.reduceToNat, true_and]
    intro C7 c7
    have e1 : C9 91 2 = C 91 2 := by rw [c9, wr_ne (by omega)]
    refine ⟨by rw [hv2, e1]; exact i2.1.symm, inv.up2 (fun b t hb hb2 => by rw [c7, wr_ne (by omega), c9, wr_ne (by omega)]) ?_⟩
    have g : ∀ b t, ¬ ((b = 2 ∨ b = 91) ∧ t = 2) → C7 b t = C b t := fun b t hb => by rw [c7, wr_ne (by omega), c9, wr_ne (by omega)]
    have g1 : C7 91 2 = v := by rw [c7, wr_same]
    have g2 : C7 2 2 = v := by rw [c7, wr_ne (by omega), c9, wr_same]
    unfold I2
    rw [g1, g2, g 91 3 (by omega), g 2 3 (by omega), g 91 4 (by omega), g 2 4 (by omega)]
    exact ⟨rfl, by omega, i2.2.2⟩
theorem c_seed {n : Nat} {C : Cn} {v : Int} (hn : 320 ≤ n) (inv : Inv C) (hv : r32 v) : P_F_seed n C 1 v (fun r C1 => P_G_seed n C1 91 v (fun r2 C2 => r = r2 ∧ Inv C2)) := by
  have hf : 91 ≤ n := by omega
  have inv' := inv
  obtain ⟨m, i1, i2, -⟩ := inv'
  unfold P_F_seed
  simp only [fS hf, Int.reduceToNat, true_and]
  intro v2 hv2 C4 c4
  unfold P_G_seed
  simp only [gS hn, Int.reduceToNat, true_and]
  intro C7 c7
  have e1 : C4 91 4 = C 91 4 := by rw [c4, wr_ne (by omega)]
  refine ⟨by rw [hv2, e1]; exact i2.2.2.2.2.1.symm, inv.up2 (fun b t hb hb2 => by rw [c7, wr_ne (by omega), c4, wr_ne (by omega)]) ?_⟩
  have g : ∀ b t, ¬ ((b = 2 ∨ b = 91) ∧ t = 4) → C7 b t = C b t := fun b t hb => by rw [c7, wr_ne (by omega), c4, wr_ne (by omega)]
  have g1 : C7 91 4 = v := by rw [c7, wr_same]
  have g2 : C7 2 4 = v := by rw [c7, wr_ne (by omega), c4, wr_same]
  unfold I2
  rw [g1, g2, g 91 3 (by omega), g 2 3 (by omega), g 91 2 (by omega), g 2 2 (by omega)]
  exact ⟨i2.1, i2.2.1, i2.2.2.1, i2.2.2.2.1, rfl, hv⟩
theorem c_blame {n : Nat} {C : Cn} {v : Int} (hn : 320 ≤ n) (inv : Inv C) : P_F_blame n C 1 v (fun r C1 => P_G_blame n C1 91 v (fun r2 C2 => r = r2 ∧ Inv C2)) := by
  have hf : 91 ≤ n := by omega
  have inv' := inv
  obtain ⟨m, i1, i2, i3, i4, -⟩ := inv'
  obtain ⟨k1, k2, k3, k4⟩ := i4
  have G : ∀ r : Int, 0 ≤ v ∧ v ≤ 2 → (v = 0 → r = C 91 6) → (v = 1 → r = C 91 7) → (v = 2 → r = C 91 8) → P_G_blame n C 91 v (fun r2 C2 => r = r2 ∧ Inv C2) := by
    intro r h h0 h1 h2
    unfold P_G_blame
    refine g_in (bI_br (fun q => absurd h q) (fun _ => ?_))
    simp only [gS hn, Int.reduceToNat, true_and]
    exact ⟨fun e => ⟨h0 e, inv⟩, fun e => ⟨fun e2 => ⟨h1 e2, inv⟩, fun e2 => ⟨h2 (by omega), inv⟩⟩⟩
  unfold P_F_blame J_F_blame_59
  simp only [fS hf, Int.reduceToNat, true_and]
  refine ⟨fun e => G _ (by omega) (fun _ => k1.symm) (fun _ => by omega) (fun _ => by omega), fun e => G _ (by omega) (fun _ => by omega) (fun _ => k2.symm) (fun _ => by omega), fun e => G _ (by omega) (fun _ => by omega) (fun _ => by omega) (fun _ => ?_), fun e => ?_⟩
  · rcases k4 with k4 | k4
    · rw [if_pos k4, k3, k4]
    · rw [if_neg (by omega), k3, k4]
  · refine f_tell hf (by decide) (fun C1 c1 => ?_)
    unfold P_G_blame
    refine g_in (bI_br (fun _ => ?_) (fun q2 => by omega))
    simp only [gS hn, true_and]
    exact both hn (by decide) inv c1 (fun _ _ _ => rfl)
theorem c_wipe {n : Nat} {C : Cn} (hn : 320 ≤ n) (inv : Inv C) : P_F_wipe n C 1 (fun r C1 => P_G_wipe n C1 91 (fun r2 C2 => r = r2 ∧ Inv C2)) := by
  have hf : 91 ≤ n := by omega
  have inv' := inv
  obtain ⟨m, i1, i2, i3, i4, i5, ⟨T, t1, t2, t3, t4⟩, -⟩ := inv'
  unfold P_F_wipe
  simp only [fS hf, Int.reduceToNat, true_and]
  intro v1 hv1 C4 c4
  unfold P_G_wipe
  simp only [gS hn, Int.reduceToNat, true_and]
  intro C2 c2
  have e1 : C4 91 38 = C 91 38 := by rw [c4, wr_ne (by omega)]
  refine ⟨by rw [hv1, e1, t2, t3], inv.up6 (fun b t hb hb2 => by rw [c2, wr_ne (by omega), c4, wr_ne (by omega)]) ⟨0, by omega, by rw [c2, wr_ne (by omega), c4, wr_same]; rfl, by rw [c2, wr_same]; rfl, fun t ht => absurd ht (Nat.not_lt_zero t)⟩⟩
theorem f_isNum {n : Nat} {C : Cn} {v w : Int} {R : Nat} {Q : Int → Prop} (hn : 91 ≤ n) (hR : R ≤ 19) (h1 : C 1 14 = R) (h : Q (bI ((0 ≤ v ∧ v < R) ∧ (0 ≤ w ∧ w ≤ 3)))) : P_F_isNumberOfRow n C 1 v w Q := by
  unfold P_F_isNumberOfRow J_F_isNumberOfRow_28
  simp only [fS hn, Int.reduceToNat, true_and, h1]
  rw [w32_s (by omega)]
  refine f_isIn (bI_br (fun q => use_Q h (bI_f (by omega))) (fun q => f_isIn ?_))
  rw [ite_01]
  exact ⟨bI_or, use_Q h (bI_iff (by omega))⟩
theorem g_isRow {n : Nat} {C : Cn} {v w : Int} {R : Nat} {Q : Int → Prop} (hn : 320 ≤ n) (hR : R ≤ 19) (h1 : C 91 35 = R) (h : Q (bI ((0 ≤ v ∧ v < R) ∧ (0 ≤ w ∧ w ≤ 3)))) : P_G_isRow n C 91 v w Q := by
  unfold P_G_isRow J_G_isRow_33
  simp only [gS hn, Int.reduceToNat, true_and, h1]
  rw [w32_s (by omega)]
  refine g_in (bI_br (fun q => use_Q h (bI_f (by omega))) (fun q => g_in ?_))
  rw [ite_01]
  exact ⟨bI_or, use_Q h (bI_iff (by omega))⟩
theorem c_row {n : Nat} {C : Cn} {v w : Int} (hn : 320 ≤ n) (inv : Inv C) : P_F_row n C 1 v w (fun r C1 => P_G_row n C1 91 v w (fun r2 C2 => r = r2 ∧ Inv C2)) := by
  have hf : 91 ≤ n := by omega
  have inv' := inv
  obtain ⟨m, i1, i2, i3, i4, ⟨R, t1, t2, t3, t4⟩, -⟩ := inv'
  unfold P_F_row
  simp only [fS hf, true_and]
  refine f_isNum hf t1 t2 (bI_br (fun q => ?_) (fun q => ?_))
  · refine f_tell hf (by decide) (fun C1 c1 => ?_)
    unfold P_G_row
    simp only [gS hn, true_and]
    exact g_isRow hn t1 (by rw [c1, wr_ne (by omega), t3]) (bI_br (fun _ => both hn (by decide) inv c1 (fun _ _ _ => rfl)) (fun q2 => absurd q2 q))
  · obtain ⟨k, rfl⟩ : ∃ k : Nat, v = (k : Int) := ⟨v.toNat, by omega⟩
    obtain ⟨i, rfl⟩ : ∃ i : Nat, w = (i : Int) := ⟨w.toNat, by omega⟩
    have w1 : w32 (w32 ((k : Int) * 4) + (i : Int)) = ((4 * k + i : Nat) : Int) := by
      rw [w32_s (x := (k : Int) * 4) (by omega), w32_s (by omega)]
      omega
    simp only [fS hf, w1, Int.toNat_natCast, Int.reduceToNat, true_and]
    clear w1
    refine ⟨by omega, ?_⟩
    have rk := gR281 hn (by omega : k < 20)
    unfold P_G_row
    simp only [gS hn, true_and]
    refine g_isRow hn t1 t3 (bI_br (fun q2 => absurd q q2) (fun _ => ?_))
    simp only [Int.reduceToNat, gS hn, Int.toNat_natCast, rk, true_and]
    exact ⟨by omega, by omega, (t4 k i (by omega) (by omega)).symm, inv⟩
theorem c_alter {n : Nat} {C : Cn} {v w x : Int} (hn : 320 ≤ n) (inv : Inv C) : P_F_alter n C 1 v w x (fun r C1 => P_G_alter n C1 91 v w x (fun r2 C2 => r = r2 ∧ Inv C2)) := by
  have hf : 91 ≤ n := by omega
  have inv' := inv
  obtain ⟨m, i1, i2, i3, i4, ⟨R, t1, t2, t3, t4⟩, -⟩ := inv'
  unfold P_F_alter
  simp only [fS hf, true_and]
  refine f_isNum hf t1 t2 (bI_br (fun q => ?_) (fun q => ?_))
  · refine f_tell hf (by decide) (fun C1 c1 => ?_)
    unfold P_G_alter
    simp only [gS hn, true_and]
    exact g_isRow hn t1 (by rw [c1, wr_ne (by omega), t3]) (bI_br (fun _ => both hn (by decide) inv c1 (fun _ _ _ => rfl)) (fun q2 => absurd q2 q))
  · obtain ⟨k, rfl⟩ : ∃ k : Nat, v = (k : Int) := ⟨v.toNat, by omega⟩
    obtain ⟨i, rfl⟩ : ∃ i : Nat, w = (i : Int) := ⟨w.toNat, by omega⟩
    intro v4 hv4
    have w1 : w32 (w32 ((k : Int) * 4) + (i : Int)) = ((4 * k + i : Nat) : Int) := by
      rw [w32_s (x := (k : Int) * 4) (by omega), w32_s (by omega)]
      omega
    rw [w1] at hv4
    clear w1
    rw [hv4]
    clear hv4
    simp only [fS hf, Int.toNat_natCast, Int.reduceToNat, true_and]
    refine ⟨by omega, fun v5 hv5 C11 c11 => ?_⟩
    have rk := gR281 hn (by omega : k < 20)
    unfold P_G_alter
    simp only [gS hn, true_and]
    refine g_isRow hn t1 (by rw [c11, wr_ne (by omega), t3]) (bI_br (fun q2 => absurd q q2) (fun _ => ?_))
    simp only [Int.reduceToNat, gS hn, Int.toNat_natCast, rk, true_and]
    refine ⟨by omega, by omega, fun v4' hv4' C12 c12 => ⟨?_, inv.up5 (fun b t hb hb2 => by rw [c12, wr_ne (by omega), c11, wr_ne (by omega)]) ⟨R, t1, by rw [c12, wr_ne (by omega), c11, wr_ne (by omega), t2], by rw [c12, wr_ne (by omega), c11, wr_ne (by omega), t3], fun k' i' hk hi => ?_⟩⟩⟩
    · rw [hv5, hv4', c11, wr_ne (by omega)]
      exact (t4 k i (by omega) (by omega)).symm
    · by_cases e : k' = k ∧ i' = i
      · rw [e.1, e.2, c12, wr_same, wr_ne (by omega), c11, wr_same]
      · rw [c12, wr_ne (by omega), wr_ne (by omega), c11, wr_ne (by omega), wr_ne (by omega)]
        exact t4 k' i' hk hi
theorem c_status {n : Nat} {C : Cn} {v : Int} (hn : 320 ≤ n) (inv : Inv C) : P_F_status n C 1 v (fun r C1 => P_G_status n C1 91 v (fun r2 C2 => r = r2 ∧ Inv C2)) := by
  have hf : 91 ≤ n := by omega
  have inv' := inv
  obtain ⟨m, i1, i2, i3, -⟩ := inv'
  -- the reference's loop
  have G : ∀ (F : Nat → Int) (r : Int), -1 ≤ v ∧ v ≤ 7 → F 0 = 0 → (∀ k, k < 8 → F (k + 1) = if v < 0 ∨ v = (k : Int) then w32 (F k + C 99 k) else w32 (F k + 0)) → r = F 8 → P_G_status n C 91 v (fun r2 C2 => r = r2 ∧ Inv C2) := by
    intro F r hv h0 h1 h2
    unfold P_G_status
    refine g_in (bI_br (fun q => absurd hv q) (fun _ => ?_))
    refine lp_rule (fun (z : Int × Int) => ∃ k : Nat, k ≤ 8 ∧ z.2 = (k : Int) ∧ z.1 = F k) (fun z => (10 - z.2).toNat) ?_ (0, 0) ⟨0, by omega, rfl, h0.symm⟩
    rintro ⟨v2, v3⟩ ⟨k, z0, z1, z2⟩ K hK
    dsimp only at z1 z2
    subst z1
    subst z2
    unfold B_G_status_24 J_G_status_40
    simp only [gS hn, Int.reduceToNat, Int.toNat_natCast, true_and]
    refine ⟨fun q => ⟨by rw [h2, (by omega : k = 8)], inv⟩, fun q => ?_⟩
    have hk := h1 k (by omega)
    have nxt : ∀ x : Int, x = F (k + 1) → K (x, w32 ((k : Int) + 1)) := by
      intro x hx
      rw [w32_n (by omega)]
      exact hK _ ⟨k + 1, by omega, rfl, hx⟩ (by dsimp only; omega)
    refine ⟨fun e => ⟨by omega, fun x hx => nxt x ?_⟩, fun e => ⟨fun e2 => ⟨by omega, fun x hx => nxt x ?_⟩, fun e2 => nxt _ ?_⟩⟩
    · rw [hx, hk, if_pos (Or.inl e)]
    · rw [hx, hk, if_pos (Or.inr e2)]
    · rw [hk, if_neg (fun w => w.elim e e2)]
  unfold P_F_status
  refine f_isIn (bI_br (fun q => ⟨fun e => ?_, fun e => ?_⟩) (fun q => ?_))
  · -- all of them
    refine lp_rule (fun (z : Int × Int) => ∃ k : Nat, k ≤ 8 ∧ z.2 = (k : Int) ∧ ∃ F : Nat → Int, F 0 = 0 ∧ (∀ j, j < k → F (j + 1) = w32 (F j + C 82 j)) ∧ z.1 = F k) (fun z => (10 - z.2).toNat) ?_ (0, 0) ⟨0, by omega, rfl, fun _ => 0, rfl, fun j hj => absurd hj (Nat.not_lt_zero j), rfl⟩
    rintro ⟨v2, v3⟩ ⟨k, z0, z1, F, f0, f1, z2⟩ K hK
    dsimp only at z1 z2
    subst z1
    unfold B_F_status_32
    simp only [fS hf, Int.reduceToNat, Int.toNat_natCast, true_and]
    refine ⟨fun q2 => G F v2 (by omega) f0 (fun j hj => ?_) ?_, fun q2 => ⟨by omega, fun x hx => ?_⟩⟩
    · rw [if_pos (Or.inl (by omega)), (i3 j hj).1]
      exact f1 j (by omega)
    · rw [z2, (by omega : k = 8)]
    · rw [w32_n (by omega)]
      refine hK _ ⟨k + 1, by omega, rfl, fun j => if j ≤ k then F j else x, ?_, fun j hj => ?_, ?_⟩ (by dsimp only; omega)
      · exact (if_pos (by omega)).trans f0
      · dsimp only
        by_cases ej : j = k
        · rw [ej, if_neg (by omega), if_pos (Nat.le_refl _), hx, z2]
        · rw [if_pos (by omega), if_pos (by omega)]
          exact f1 j (by omega)
      · dsimp only
        rw [if_neg (by omega)]
  · simp only [fS hf, true_and]
    refine f_tell hf (by decide) (fun C1 c1 => ?_)
    unfold P_G_status
    refine g_in (bI_br (fun _ => ?_) (fun q2 => by omega))
    simp only [gS hn, true_and]
    exact both hn (by decide) inv c1 (fun _ _ _ => rfl)
  · obtain ⟨k, rfl⟩ : ∃ k : Nat, v = (k : Int) := ⟨v.toNat, by omega⟩
    simp only [fS hf, Int.reduceToNat, Int.toNat_natCast, true_and]
    have ik := i3 k (by omega)
    refine ⟨by omega, G (fun j => if j ≤ k then 0 else C 82 k) _ (by omega) (if_pos (by omega)) (fun j hj => ?_) ?_⟩
    · skip
      rcases Nat.lt_trichotomy j k with e | e | e
      · rw [if_pos (by omega), if_neg (by omega), if_pos (by omega)]
        rfl
      · subst e
        rw [if_neg (by omega), if_pos (Nat.le_refl _), if_pos (Or.inr rfl), ik.1, Int.zero_add, w32_id ik.2.1 ik.2.2]
      · rw [if_neg (by omega), if_neg (by omega), if_neg (by omega), Int.add_zero, w32_id ik.2.1 ik.2.2]
    · skip
      rw [if_neg (by omega)]
