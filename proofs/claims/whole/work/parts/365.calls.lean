/-! my own: count, taken, feed -/
abbrev fl (C : Cn) (m t : Nat) : Prop := C 79 t ≠ 0 ∧ (C 79 t = 3 → C 80 t < (m : Int))
theorem f_isFull {n m t : Nat} {C : Cn} {Q : Int → Prop} (hn : 91 ≤ n) (ht : t < 10) (h : Q (bI (fl C m t))) : P_Sp_isFull n C 78 (t : Int) (m : Int) Q := by
  unfold P_Sp_isFull J_Sp_isFull_42
  simp only [fS hn, Int.reduceToNat, Int.toNat_natCast, true_and]
  refine ⟨by omega, fun q => ⟨by omega, ?_⟩, fun q => ?_⟩
  · have e : (if (m : Int) ≤ C 80 t then (0 : Int) else 1) = bI (fl C m t) := by
      unfold fl
      by_cases q2 : (m : Int) ≤ C 80 t
      · rw [if_pos q2, bI_f (by omega)]
      · rw [if_neg q2, bI_t (by omega)]
    rw [e]
    exact ⟨bI_or, h⟩
  · have e : (if C 79 t = 0 then (0 : Int) else 1) = bI (fl C m t) := by
      unfold fl
      by_cases q2 : C 79 t = 0
      · rw [if_pos q2, bI_f (by omega)]
      · rw [if_neg q2, bI_t (by omega)]
    rw [e]
    exact ⟨bI_or, h⟩
theorem g_holds {n m t : Nat} {C : Cn} {Q : Int → Prop} (hn : 320 ≤ n) (ht : t < 10) (i8 : I8 C) (h0 : C 91 0 = m) (h : Q (bI (fl C m t))) : P_G_holds n C 91 (t : Int) Q := by
  have e := i8 t ht
  unfold P_G_holds J_G_holds_38
  simp only [gS hn, Int.reduceToNat, Int.toNat_natCast, true_and, h0]
  refine ⟨by omega, fun q => use_Q h (bI_t (by unfold fl; omega)), fun q => ⟨fun q2 => ⟨by omega, ?_⟩, fun q2 => use_Q h (bI_f (by unfold fl; omega))⟩⟩
  have e : (if (m : Int) ≤ C 312 t then (0 : Int) else 1) = bI (fl C m t) := by
    unfold fl
    by_cases q2 : (m : Int) ≤ C 312 t
    · rw [if_pos q2, bI_f (by omega)]
    · rw [if_neg q2, bI_t (by omega)]
  rw [e]
  exact ⟨bI_or, h⟩
def nfl (C : Cn) (m : Nat) : Nat → Int
  | 0 => 0
  | k + 1 => nfl C m k + bI (fl C m k)
theorem nfl_in (C : Cn) (m k : Nat) : 0 ≤ nfl C m k ∧ nfl C m k ≤ k := by
  induction k with
  | zero => exact ⟨Int.le_refl 0, Int.le_refl 0⟩
  | succ k ih =>
    have e : nfl C m (k + 1) = nfl C m k + bI (fl C m k) := rfl
    rw [e]
    rcases (bI_or : bI (fl C m k) = 0 ∨ bI (fl C m k) = 1) with h | h <;> rw [h] <;> omega
theorem f_manyFull {n m : Nat} {C : Cn} {Q : Int → Prop} (hn : 91 ≤ n) (h : Q (nfl C m 10)) : P_Sp_manyFull n C 78 (m : Int) Q := by
  unfold P_Sp_manyFull
  refine lp_rule (fun (z : Int × Int) => ∃ k : Nat, k ≤ 10 ∧ z.2 = (k : Int) ∧ z.1 = nfl C m k) (fun z => (20 - z.2).toNat) ?_ (0, 0) ⟨0, by omega, rfl, rfl⟩
  rintro ⟨v2, v3⟩ ⟨k, z0, z1, z2⟩ K hK
  dsimp only at z1 z2
  subst z1
  subst z2
  have b := nfl_in C m k
  have e : nfl C m (k + 1) = nfl C m k + bI (fl C m k) := rfl
  unfold B_Sp_manyFull_4
  simp only [fS hn, true_and]
  refine ⟨fun q => by rw [(by omega : k = 10)]; exact h, fun q => f_isFull hn (by omega) (bI_br (fun q2 => ?_) (fun q2 => ?_))⟩
  · rw [w32_n (by omega)]
    refine hK _ ⟨k + 1, by omega, rfl, ?_⟩ (by dsimp only; omega)
    dsimp only
    rw [e, bI_f q2, Int.add_zero]
  · rw [w32_n (a := k) (by omega), w32_s (by omega)]
    refine hK _ ⟨k + 1, by omega, rfl, ?_⟩ (by dsimp only; omega)
    dsimp only
    rw [e, bI_t q2]
theorem g_manyFull {n m : Nat} {C : Cn} {Q : Int → Cn → Prop} (hn : 320 ≤ n) (i8 : I8 C) (h0 : C 91 0 = m) (h : Q (nfl C m 10) C) : ∃ f, lp (B_G_count_66 n C 91 Q) f (0, 0) := by
  refine lp_rule (fun (z : Int × Int) => ∃ k : Nat, k ≤ 10 ∧ z.2 = (k : Int) ∧ z.1 = nfl C m k) (fun z => (20 - z.2).toNat) ?_ (0, 0) ⟨0, by omega, rfl, rfl⟩
  rintro ⟨v2, v3⟩ ⟨k, z0, z1, z2⟩ K hK
  dsimp only at z1 z2
  subst z1
  subst z2
  have b := nfl_in C m k
  have b2 := nfl_in C m (k + 1)
  have e : nfl C m (k + 1) = nfl C m k + bI (fl C m k) := rfl
  unfold B_G_count_66 J_G_count_86
  simp only [gS hn, true_and]
  refine ⟨fun q => by rw [(by omega : k = 10)]; exact h, fun q => g_holds hn (by omega) i8 h0 ?_⟩
  rw [ite_01, ← e, w32_n (by omega), w32_id (by omega) (by omega)]
  exact hK _ ⟨k + 1, by omega, rfl, rfl⟩ (by dsimp only; omega)
theorem c_count {n : Nat} {C : Cn} {v : Int} (hn : 320 ≤ n) (inv : Inv C) : P_F_count n C 1 v (fun r C1 => P_G_count n C1 91 v (fun r2 C2 => r = r2 ∧ Inv C2)) := by
  have hf : 91 ≤ n := by omega
  have inv' := inv
  obtain ⟨m, i1, i2, i3, i4, i5, i6, i7, i8, -⟩ := inv'
  have G : ∀ (r : Int), (v = 0 → r = C 91 0) → (v = 1 → r = C 91 2) → (v = 2 → r = C 91 4) → (v = 3 → r = C 91 35) → (v = 4 → r = nfl C m 10) → (v = 5 → r = C 91 38) → (v = 6 → C 91 3 = w32 (C 91 3) ∧ r = w32 (C 91 3)) → ¬ (v < 0 ∨ 6 < v) → P_G_count n C 91 v (fun r2 C2 => r = r2 ∧ Inv C2) := by
    intro r h0 h1 h2 h3 h4 h5 h6 h7
    unfold P_G_count
    simp only [gS hn, Int.reduceToNat, true_and]
    exact ⟨fun e => ⟨h0 e, inv⟩, fun e => ⟨h1 e, inv⟩, fun e => ⟨h2 e, inv⟩, fun e => ⟨h3 e, inv⟩, fun e => g_manyFull hn i8 i1.2.2.1 ⟨h4 e, inv⟩, fun e => ⟨h5 e, inv⟩, fun e => ⟨fun _ => ⟨(h6 e).2, inv⟩, fun w => absurd (h6 e).1 w⟩, fun e => absurd e h7⟩
  obtain ⟨R, r1, r2, r3, -⟩ := i5
  obtain ⟨T, t1, t2, t3, -⟩ := i6
  have T7 : v = 6 → C 91 3 ≠ w32 (C 91 3) → P_F_tell n C 1 7 (fun r C1 => P_G_count n C1 91 v (fun r2 C2 => r = r2 ∧ Inv C2)) := by
    intro e e2
    refine f_tell hf (by decide) (fun C1 c1 => ?_)
    unfold P_G_count
    have e3 : C1 91 3 = C 91 3 := why0 c1 _ _ (by omega)
    simp only [gS hn, Int.reduceToNat, true_and, e3]
    exact ⟨fun w => absurd w (by omega), fun w => absurd w (by omega), fun w => absurd w (by omega), fun w => absurd w (by omega), fun w => absurd w (by omega), fun w => absurd w (by omega), fun _ => ⟨fun w => absurd w e2, fun _ => both hn (by decide) inv c1 (fun _ _ _ => rfl)⟩, fun w => absurd w (by omega)⟩
  unfold P_F_count P_F_ledgerAsInt
  simp only [fS hf, Int.reduceToNat, true_and]
  refine ⟨fun e => ?_, fun e => ?_, fun e => ?_, fun e => ?_, fun e => ?_, fun e => ?_, fun e => ?_, fun e => ?_⟩
  · exact G _ (fun _ => by rw [i1.2.1, i1.2.2.1]) (fun _ => by omega) (fun _ => by omega) (fun _ => by omega) (fun _ => by omega) (fun _ => by omega) (fun w => absurd w (by omega)) (by omega)
  · exact G _ (fun _ => by omega) (fun _ => i2.1.symm) (fun _ => by omega) (fun _ => by omega) (fun _ => by omega) (fun _ => by omega) (fun w => absurd w (by omega)) (by omega)
  · exact G _ (fun _ => by omega) (fun _ => by omega) (fun _ => i2.2.2.2.2.1.symm) (fun _ => by omega) (fun _ => by omega) (fun _ => by omega) (fun w => absurd w (by omega)) (by omega)
  · exact G _ (fun _ => by omega) (fun _ => by omega) (fun _ => by omega) (fun _ => by rw [r2, r3]) (fun _ => by omega) (fun _ => by omega) (fun w => absurd w (by omega)) (by omega)
  · rw [i1.2.1]
    exact f_manyFull hf (G _ (fun _ => by omega) (fun _ => by omega) (fun _ => by omega) (fun _ => by omega) (fun _ => rfl) (fun _ => by omega) (fun w => absurd w (by omega)) (by omega))
  · exact G _ (fun _ => by omega) (fun _ => by omega) (fun _ => by omega) (fun _ => by omega) (fun _ => by omega) (fun _ => by rw [t2, t3]) (fun w => absurd w (by omega)) (by omega)
  · have e3 := i2.2.2.1
    have k := w32_in (C 91 3)
    refine ⟨fun q => T7 e (by omega), fun q => ⟨fun q2 => ?_, fun q2 => T7 e (by omega)⟩⟩
    have k2 := w32_id (x := C 2 3) (by omega) (by omega)
    exact G _ (fun _ => by omega) (fun _ => by omega) (fun _ => by omega) (fun _ => by omega) (fun _ => by omega) (fun _ => by omega) (fun w => ⟨by rw [e3]; exact k2.symm, by rw [e3]⟩) (by omega)
  · refine f_tell hf (by decide) (fun C1 c1 => ?_)
    unfold P_G_count
    simp only [gS hn, Int.reduceToNat, true_and]
    exact ⟨fun w => absurd w (by omega), fun w => absurd w (by omega), fun w => absurd w (by omega), fun w => absurd w (by omega), fun w => absurd w (by omega), fun w => absurd w (by omega), fun w => absurd w (by omega), fun _ => both hn (by decide) inv c1 (fun _ _ _ => rfl)⟩
theorem sav_k : SAL 1 = 6 ∧ ((SAV 1).getD 0 0).toInt = -1 ∧ ((SAV 1).getD 1 0).toInt = 0 ∧ ((SAV 1).getD 2 0).toInt = 0 ∧ ((SAV 1).getD 3 0).toInt = 1 ∧ ((SAV 1).getD 4 0).toInt = 2 ∧ ((SAV 1).getD 5 0).toInt = 0 := by decide +kernel
abbrev undr (k v : Int) : Prop := v = 0 ∨ v = k ∨ (k = 3 ∧ v = 1) ∨ (k = 4 ∧ v = 2)
theorem f_under {n : Nat} {C : Cn} {k v : Int} {Q : Int → Prop} (hk : 0 ≤ k ∧ k < 6) (hv : 0 ≤ v) (h : Q (bI (undr k v))) : P_Wa_isUnder n C k v Q := by
  unfold P_Wa_isUnder
  refine lp_rule (fun (z : Int × Int) => (z.2 = 0 ∧ z.1 = k) ∨ (z.2 = 1 ∧ (z.1 = -1 ∨ z.1 = 0 ∨ z.1 = 1 ∨ z.1 = 2) ∧ (undr k v ↔ (v = z.1 ∨ (v = 0 ∧ 0 ≤ z.1)))) ∨ (z.2 = 2 ∧ (z.1 = -1 ∨ z.1 = 0) ∧ (undr k v ↔ (v = z.1 ∨ (v = 0 ∧ 0 ≤ z.1)))) ∨ (z.2 = 3 ∧ z.1 = -1 ∧ ¬ undr k v)) (fun z => (10 - z.2).toNat) ?_ (k, 0) (Or.inl ⟨rfl, rfl⟩)
  rintro ⟨v2, v3⟩ hz K hK
  dsimp only at hz
  have hx : (v3 = 0 ∨ v3 = 1 ∨ v3 = 2 ∨ v3 = 3) ∧ (-1 ≤ v2 ∧ v2 < 6) := by omega
  have hy : v2 < 0 → ¬ undr k v := by
    intro q
    rcases hz with ⟨a, b⟩ | ⟨a, b, c⟩ | ⟨a, b, c⟩ | ⟨a, b, c⟩
    · omega
    · rw [c]; omega
    · rw [c]; omega
    · exact c
  have he : v2 = v → undr k v := by
    intro q
    rcases hz with ⟨a, b⟩ | ⟨a, b, c⟩ | ⟨a, b, c⟩ | ⟨a, b, c⟩
    · unfold undr; omega
    · rw [c]; omega
    · rw [c]; omega
    · omega
  unfold B_Wa_isUnder_4 J_Wa_isUnder_39
  refine ⟨fun q => absurd q (by omega), fun q => ⟨fun q2 => use_Q h (bI_f (hy q2)), fun q2 => ⟨fun q3 => absurd q3 (by omega), fun q3 => ⟨fun q4 => use_Q h (bI_t (he q4)), fun q4 => ⟨by omega, by rw [sav_k.1]; show v2 < (6 : Int); omega, fun x hx2 => ?_⟩⟩⟩⟩⟩
  have w : w32 (v3 + 1) = v3 + 1 := w32_s (by omega)
  rw [w]
  clear w
  obtain ⟨-, s0, s1, s2, s3, s4, s5⟩ := sav_k
  have hd : (v2 = 0 ∧ x = -1) ∨ (v2 = 1 ∧ x = 0) ∨ (v2 = 2 ∧ x = 0) ∨ (v2 = 3 ∧ x = 1) ∨ (v2 = 4 ∧ x = 2) ∨ (v2 = 5 ∧ x = 0) := by
    have : v2 = 0 ∨ v2 = 1 ∨ v2 = 2 ∨ v2 = 3 ∨ v2 = 4 ∨ v2 = 5 := by omega
    rcases this with e | e | e | e | e | e <;> subst e
    · exact Or.inl ⟨rfl, hx2.trans s0⟩
    · exact Or.inr (Or.inl ⟨rfl, hx2.trans s1⟩)
    · exact Or.inr (Or.inr (Or.inl ⟨rfl, hx2.trans s2⟩))
    · exact Or.inr (Or.inr (Or.inr (Or.inl ⟨rfl, hx2.trans s3⟩)))
    · exact Or.inr (Or.inr (Or.inr (Or.inr (Or.inl ⟨rfl, hx2.trans s4⟩))))
    · exact Or.inr (Or.inr (Or.inr (Or.inr (Or.inr ⟨rfl, hx2.trans s5⟩))))
  clear hx2 s0 s1 s2 s3 s4 s5
  refine hK _ ?_ (by dsimp only; omega)
  dsimp only
  rcases hz with ⟨a, b⟩ | ⟨a, b, c⟩ | ⟨a, b, c⟩ | ⟨a, b, c⟩
  · right; left
    refine ⟨by omega, by omega, ?_⟩
    unfold undr
    omega
  · right; right; left
    refine ⟨by omega, by omega, ?_⟩
    rw [c]
    omega
  · right; right; right
    refine ⟨by omega, by omega, ?_⟩
    rw [c]
    omega
  · omega
theorem g_under {n : Nat} {C : Cn} {k v : Int} {Q : Int → Prop} (h : Q (bI (undr k v))) : P_G_isUnder n C k v Q := by
  unfold P_G_isUnder J_G_isUnder_34
  have e : (if v = 0 then (1 : Int) else (if v = k then 1 else (if k = 3 then (if v = 1 then 1 else (if k = 4 then (if v = 2 then 1 else 0) else 0)) else (if k = 4 then (if v = 2 then 1 else 0) else 0)))) = bI (undr k v) := by
    unfold bI undr
    (repeat' split) <;> omega
  rw [e]
  exact ⟨bI_or, h⟩
