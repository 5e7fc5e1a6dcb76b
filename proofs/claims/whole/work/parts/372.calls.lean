/-! my own: end, of -/
theorem f_segsWith {n w m : Nat} {C : Cn} {v : Int} {A : Nat → Int} {Q : Int → Prop} (hn : 91 ≤ n) (hw : w = 29 ∨ w = 30) (m6 : m ≤ 6) (h0 : C 26 0 = m) (hA : ∀ i, i < m → C w i = A i) (h : Q ((cnt (fun i => A i = v) m : Nat) : Int)) : P_La_segmentsWith n C 26 (w : Int) v Q := by
  unfold P_La_segmentsWith
  refine lp_rule (fun (z : Int × Int) => ∃ k : Nat, k ≤ m ∧ z.2 = (k : Int) ∧ z.1 = ((cnt (fun i => A i = v) k : Nat) : Int)) (fun z => (20 - z.2).toNat) ?_ (0, 0) ⟨0, by omega, rfl, rfl⟩
  rintro ⟨v2, v3⟩ ⟨k, z0, z1, z2⟩ K hK
  dsimp only at z1 z2
  subst z1
  subst z2
  have cl := cnt_le (fun i => A i = v) k
  have cs := cnt_s (fun i => A i = v) k
  have ow : okO n (w : Int) 12 ∧ (∀ v : Int, okI (w : Int) v ↔ (0 ≤ v ∧ v < 6)) := by
    rcases hw with rfl | rfl
    · exact ⟨(fL hn).2.2.2.2.2.2.2.2.2.2.2.2.2.2.2.2.2.2.1, fun v => Iff.rfl⟩
    · exact ⟨(fL hn).2.2.2.2.2.2.2.2.2.2.2.2.2.2.2.2.2.2.2.1, fun v => Iff.rfl⟩
  unfold B_La_segmentsWith_5
  simp only [fL hn, ow, Int.reduceToNat, Int.toNat_natCast, true_and, h0]
  refine ⟨fun q => by rw [(by omega : k = m)]; exact h, fun q => ⟨by omega, fun q2 => ?_, fun q2 => ?_⟩⟩
  · rw [hA k (by omega)] at q2
    rw [w32_n (a := k) (by omega), w32_n (by omega)]
    refine hK _ ⟨k + 1, by omega, rfl, ?_⟩ (by dsimp only; omega)
    dsimp only
    rw [cs, ind_t q2]
  · rw [hA k (by omega)] at q2
    rw [w32_n (a := k) (by omega)]
    refine hK _ ⟨k + 1, by omega, rfl, ?_⟩ (by dsimp only; omega)
    dsimp only
    rw [cs, ind_f q2, Nat.add_zero]
theorem g_segsWith {n m : Nat} {C : Cn} {v v2 : Int} {A : Nat → Int} {Q : Int → Cn → Prop} (hn : 320 ≤ n) (m6 : m ≤ 6) (h0 : C 91 0 = m) (hA : v2 = 2 → ∀ i, i < m → C 103 i = A i) (hB : v2 ≠ 2 → ∀ i, i < m → C 104 i = A i) (h : Q ((cnt (fun i => A i = v) m : Nat) : Int) C) : ∃ f, lp (B_G_end_68 n C 91 v v2 Q) f (0, 0) := by
  refine lp_rule (fun (z : Int × Int) => ∃ k : Nat, k ≤ m ∧ z.2 = (k : Int) ∧ z.1 = ((cnt (fun i => A i = v) k : Nat) : Int)) (fun z => (20 - z.2).toNat) ?_ (0, 0) ⟨0, by omega, rfl, rfl⟩
  rintro ⟨v3, v4⟩ ⟨k, z0, z1, z2⟩ K hK
  dsimp only at z1 z2
  subst z1
  subst z2
  have cl := cnt_le (fun i => A i = v) k
  have cs := cnt_s (fun i => A i = v) k
  have N : ∀ x : Int, x = A k → k < m → J_G_end_100 n C 91 v v2 (k : Int) ((cnt (fun i => A i = v) k : Nat) : Int) x K Q := by
    intro x hx hk
    unfold J_G_end_100 J_G_end_109
    rw [hx, w32_n (a := k) (by omega)]
    by_cases q : A k = v
    · rw [if_pos q, w32_n (by omega)]
      refine hK _ ⟨k + 1, by omega, rfl, ?_⟩ (by dsimp only; omega)
      dsimp only
      rw [cs, ind_t q]
    · rw [if_neg q, Int.add_zero, w32_id (by omega) (by omega)]
      refine hK _ ⟨k + 1, by omega, rfl, ?_⟩ (by dsimp only; omega)
      dsimp only
      rw [cs, ind_f q, Nat.add_zero]
  unfold B_G_end_68
  simp only [gS hn, Int.reduceToNat, Int.toNat_natCast, true_and, h0]
  exact ⟨fun q => by rw [(by omega : k = m)]; exact h, fun q => ⟨fun e => ⟨by omega, N _ (hA e k (by omega)) (by omega)⟩, fun e => ⟨by omega, N _ (hB e k (by omega)) (by omega)⟩⟩⟩
theorem c_end {n : Nat} {C : Cn} {v1 v2 : Int} (hn : 320 ≤ n) (inv : Inv C) : P_F_end n C 1 v1 v2 (fun r C1 => P_G_end n C1 91 v1 v2 (fun r2 C2 => r = r2 ∧ Inv C2)) := by
  have hf : 91 ≤ n := by omega
  have inv' := inv
  obtain ⟨m, i1, -, -, -, -, -, -, -, -, ⟨M, lm, -, -, -⟩⟩ := inv'
  have ok := Inv.ok i1 lm
  have e12 := ok.e
  have m6 := i1.1
  have l1 : C 26 1 = ((mE M : Nat) : Int) := lm.2.2.2.2.1.1.1
  have T : ∀ C1 : Cn, ¬ ((0 ≤ v1 ∧ v1 < (mE M : Int)) ∧ 0 ≤ v2 ∧ v2 ≤ 3) → C1 = wr C 82 (0 : Int).toNat (w32 (C 82 (0 : Int).toNat + 1)) → P_G_end n C1 91 v1 v2 (fun r2 C2 => -1000001 - 0 = r2 ∧ Inv C2) := by
    intro C1 q c1
    unfold P_G_end
    simp only [gS hn, true_and]
    refine g_mapsI hn i1 lm (fun b t hb => why0 c1 b t (by omega)) (fun C2 fr gm _ _ => ?_)
    simp only [Int.reduceToNat, gm.2.1]
    rw [w32_s (by omega)]
    exact g_in (bI_br (fun _ => both hn (by decide) inv c1 fr) (fun q2 => g_in (bI_br (fun _ => both hn (by decide) inv c1 fr) (fun q3 => absurd ⟨⟨q2.1, by omega⟩, q3⟩ q))))
  unfold P_F_end
  simp only [fS hf, fL hf, Int.reduceToNat, true_and, l1]
  rw [w32_s (by omega)]
  refine f_isIn (bI_br (fun q => f_tell hf (by decide) (fun C1 c1 => T C1 (by omega) c1)) (fun q => ?_))
  obtain ⟨e, rfl⟩ : ∃ f : Nat, v1 = (f : Int) := ⟨v1.toNat, by omega⟩
  have he : e < mE M := by omega
  have lFL := lm.2.2.1
  have G : ∀ r : Int, (v2 = 0 → r = C 27 e) → (v2 = 1 → r = C 28 e) → (v2 = 2 → r = ((cnt (fun i => ((mF M i : Nat) : Int) = (e : Int)) m : Nat) : Int)) → (v2 = 3 → r = ((cnt (fun i => ((mL M i : Nat) : Int) = (e : Int)) m : Nat) : Int)) → 0 ≤ v2 ∧ v2 ≤ 3 → P_G_end n C 91 (e : Int) v2 (fun r2 C2 => r = r2 ∧ Inv C2) := by
    intro r r0 r1 r2 r3 q2
    unfold P_G_end
    simp only [gS hn, true_and]
    refine g_mapsI hn i1 lm (fun b t hb => rfl) (fun C2 fr gm xy _ => ?_)
    have inv2 := inv.congr fr
    have h0 : C2 91 0 = (m : Int) := by rw [fr _ _ (by unfold IC; omega), i1.2.2.1]
    obtain ⟨x1, x2⟩ := xy e he
    simp only [gS hn, Int.reduceToNat, Int.toNat_natCast, true_and, gm.2.1, x1, x2]
    rw [w32_s (by omega)]
    refine g_in (bI_br (fun w => absurd q w) (fun _ => g_in (bI_br (fun w => absurd q2 w) (fun _ => ⟨fun e2 => ?_, fun e2 => ⟨fun e3 => ⟨by omega, r0 e3, inv2⟩, fun e3 => ⟨by omega, r1 (by omega), inv2⟩⟩⟩))))
    have gFL := gm.2.2.1
    by_cases e3 : v2 = 2
    · exact g_segsWith (A := fun i => ((mF M i : Nat) : Int)) hn m6 h0 (fun _ i hi => (gFL i hi).1) (fun w => absurd e3 w) ⟨r2 e3, inv2⟩
    · exact g_segsWith (A := fun i => ((mL M i : Nat) : Int)) hn m6 h0 (fun w => absurd w e3) (fun _ i hi => (gFL i hi).2) ⟨r3 (by omega), inv2⟩
  simp only [Int.toNat_natCast]
  refine ⟨fun w => ⟨by omega, G _ (fun _ => rfl) (fun w => absurd w (by omega)) (fun w => absurd w (by omega)) (fun w => absurd w (by omega)) (by omega)⟩, fun w => ⟨by omega, G _ (fun w => absurd w (by omega)) (fun _ => rfl) (fun w => absurd w (by omega)) (fun w => absurd w (by omega)) (by omega)⟩, fun w => ?_, fun w => ?_, fun w => f_tell hf (by decide) (fun C1 c1 => T C1 (by omega) c1)⟩
  · exact f_segsWith (w := 29) (A := fun i => ((mF M i : Nat) : Int)) hf (Or.inl rfl) m6 lm.2.1 (fun i hi => (lFL i hi).1) (G _ (fun w => absurd w (by omega)) (fun w => absurd w (by omega)) (fun _ => rfl) (fun w => absurd w (by omega)) (by omega))
  · exact f_segsWith (w := 30) (A := fun i => ((mL M i : Nat) : Int)) hf (Or.inr rfl) m6 lm.2.1 (fun i hi => (lFL i hi).2) (G _ (fun w => absurd w (by omega)) (fun w => absurd w (by omega)) (fun w => absurd w (by omega)) (fun _ => rfl) (by omega))
theorem f_fieldsOver {n N : Nat} {C : Cn} {v : Int} {A : Nat → Int} {Q : Int → Prop} (hn : 91 ≤ n) (h19 : N ≤ 19) (h0 : C 26 14 = N) (hA : ∀ f, f < N → ∃ c : Nat, c < 49 ∧ C 38 f = (c : Int) ∧ C 35 c = A f) (h : Q ((cnt (fun i => A i = v) N : Nat) : Int)) : P_La_fieldsWith n C 26 35 v Q := by
  unfold P_La_fieldsWith
  refine lp_rule (fun (z : Int × Int) => ∃ k : Nat, k ≤ N ∧ z.2 = (k : Int) ∧ z.1 = ((cnt (fun i => A i = v) k : Nat) : Int)) (fun z => (30 - z.2).toNat) ?_ (0, 0) ⟨0, by omega, rfl, rfl⟩
  rintro ⟨v2, v3⟩ ⟨k, z0, z1, z2⟩ K hK
  dsimp only at z1 z2
  subst z1
  subst z2
  have cl := cnt_le (fun i => A i = v) k
  have cs := cnt_s (fun i => A i = v) k
  unfold B_La_fieldsWith_5
  simp only [fL hn, Int.reduceToNat, Int.toNat_natCast, true_and, h0]
  refine ⟨fun q => by rw [(by omega : k = N)]; exact h, fun q => ?_⟩
  obtain ⟨c, c1, c2, c3⟩ := hA k (by omega)
  simp only [c2, c3, Int.toNat_natCast]
  refine ⟨by omega, by omega, fun q2 => ?_, fun q2 => ?_⟩
  · rw [w32_n (a := k) (by omega), w32_n (by omega)]
    refine hK _ ⟨k + 1, by omega, rfl, ?_⟩ (by dsimp only; omega)
    dsimp only
    rw [cs, ind_t q2]
  · rw [w32_n (a := k) (by omega)]
    refine hK _ ⟨k + 1, by omega, rfl, ?_⟩ (by dsimp only; omega)
    dsimp only
    rw [cs, ind_f q2, Nat.add_zero]
theorem f_fieldsUnder {n N : Nat} {C : Cn} {v : Int} {A : Nat → Int} {Q : Int → Prop} (hn : 91 ≤ n) (h19 : N ≤ 19) (h0 : C 26 14 = N) (hA : ∀ f, f < N → ∃ c : Nat, c < 49 ∧ C 38 f = (c : Int) ∧ C 36 c = A f) (h : Q ((cnt (fun i => A i = v) N : Nat) : Int)) : P_La_fieldsWith n C 26 36 v Q := by
  unfold P_La_fieldsWith
  refine lp_rule (fun (z : Int × Int) => ∃ k : Nat, k ≤ N ∧ z.2 = (k : Int) ∧ z.1 = ((cnt (fun i => A i = v) k : Nat) : Int)) (fun z => (30 - z.2).toNat) ?_ (0, 0) ⟨0, by omega, rfl, rfl⟩
  rintro ⟨v2, v3⟩ ⟨k, z0, z1, z2⟩ K hK
  dsimp only at z1 z2
  subst z1
  subst z2
  have cl := cnt_le (fun i => A i = v) k
  have cs := cnt_s (fun i => A i = v) k
  unfold B_La_fieldsWith_5
  simp only [fL hn, Int.reduceToNat, Int.toNat_natCast, true_and, h0]
  refine ⟨fun q => by rw [(by omega : k = N)]; exact h, fun q => ?_⟩
  obtain ⟨c, c1, c2, c3⟩ := hA k (by omega)
  simp only [c2, c3, Int.toNat_natCast]
  refine ⟨by omega, by omega, fun q2 => ?_, fun q2 => ?_⟩
  · rw [w32_n (a := k) (by omega), w32_n (by omega)]
    refine hK _ ⟨k + 1, by omega, rfl, ?_⟩ (by dsimp only; omega)
    dsimp only
    rw [cs, ind_t q2]
  · rw [w32_n (a := k) (by omega)]
    refine hK _ ⟨k + 1, by omega, rfl, ?_⟩ (by dsimp only; omega)
    dsimp only
    rw [cs, ind_f q2, Nat.add_zero]
theorem g_fieldsBy {n N : Nat} {C : Cn} {v v2 : Int} {A : Nat → Int} {Q : Int → Cn → Prop} (hn : 320 ≤ n) (h19 : N ≤ 19) (h0 : C 91 18 = N) (hA : v2 = 7 → ∀ i, i < N → C 134 i = A i) (hB : v2 ≠ 7 → ∀ i, i < N → C 135 i = A i) (h : Q ((cnt (fun i => A i = v) N : Nat) : Int) C) : ∃ f, lp (B_G_of_67 n C 91 v v2 Q) f (0, 0) := by
  refine lp_rule (fun (z : Int × Int) => ∃ k : Nat, k ≤ N ∧ z.2 = (k : Int) ∧ z.1 = ((cnt (fun i => A i = v) k : Nat) : Int)) (fun z => (30 - z.2).toNat) ?_ (0, 0) ⟨0, by omega, rfl, rfl⟩
  rintro ⟨v3, v4⟩ ⟨k, z0, z1, z2⟩ K hK
  dsimp only at z1 z2
  subst z1
  subst z2
  have cl := cnt_le (fun i => A i = v) k
  have cs := cnt_s (fun i => A i = v) k
  have J : ∀ x : Int, x = A k → k < N → J_G_of_100 n C 91 v v2 (k : Int) ((cnt (fun i => A i = v) k : Nat) : Int) x K Q := by
    intro x hx hk
    unfold J_G_of_100 J_G_of_109
    rw [hx, w32_n (a := k) (by omega)]
    by_cases q : A k = v
    · rw [if_pos q, w32_n (by omega)]
      refine hK _ ⟨k + 1, by omega, rfl, ?_⟩ (by dsimp only; omega)
      dsimp only
      rw [cs, ind_t q]
    · rw [if_neg q, Int.add_zero, w32_id (by omega) (by omega)]
      refine hK _ ⟨k + 1, by omega, rfl, ?_⟩ (by dsimp only; omega)
      dsimp only
      rw [cs, ind_f q, Nat.add_zero]
  unfold B_G_of_67
  simp only [gS hn, Int.reduceToNat, Int.toNat_natCast, true_and, h0]
  exact ⟨fun q => by rw [(by omega : k = N)]; exact h, fun q => ⟨fun e => ⟨by omega, J _ (hA e k (by omega)) (by omega)⟩, fun e => ⟨by omega, J _ (hB e k (by omega)) (by omega)⟩⟩⟩
theorem c_of {n : Nat} {C : Cn} {v1 v2 : Int} (hn : 320 ≤ n) (inv : Inv C) : P_F_of n C 1 v1 v2 (fun r C1 => P_G_of n C1 91 v1 v2 (fun r2 C2 => r = r2 ∧ Inv C2)) := by
  have hf : 91 ≤ n := by omega
  have inv' := inv
  obtain ⟨m, i1, i2, -, -, -, -, -, -, -, ⟨M, lm, -, -, -⟩⟩ := inv'
  have ok := Inv.ok i1 lm
  have f19 := ok.f19
  obtain ⟨m6, m1, m2, m3, m4, m5, m7⟩ := i1
  have T : ∀ C1 : Cn, ¬ ((0 ≤ v1 ∧ v1 < (m : Int)) ∧ 0 ≤ v2 ∧ v2 ≤ 8) → C1 = wr C 82 (0 : Int).toNat (w32 (C 82 (0 : Int).toNat + 1)) → P_G_of n C1 91 v1 v2 (fun r2 C2 => -1000001 - 0 = r2 ∧ Inv C2) := by
    intro C1 q c1
    unfold P_G_of
    simp only [gS hn, true_and]
    exact g_isSegment hn m6 (by rw [why0 c1 _ _ (by omega), m2]) (bI_br (fun _ => both hn (by decide) inv c1 (fun _ _ _ => rfl)) (fun q2 => g_in (bI_br (fun _ => both hn (by decide) inv c1 (fun _ _ _ => rfl)) (fun q3 => absurd ⟨q2, q3⟩ q))))
  unfold P_F_of
  simp only [fS hf, true_and]
  refine f_isSegment hf m6 m1 (bI_br (fun q => f_tell hf (by decide) (fun C1 c1 => T C1 (by omega) c1)) (fun q => ?_))
  obtain ⟨i, rfl⟩ : ∃ f : Nat, v1 = (f : Int) := ⟨v1.toNat, by omega⟩
  have hi : i < m := by omega
  have r := f3R hf (by omega : i < 6)
  have g := gR92 hn (by omega : i < 6)
  have G : ∀ x : Int, (∀ k : Nat, k < 6 → v2 = (k : Int) → x = C (4 + i) k) → (v2 = 6 → x = tlF (C (4 + i) 0) (C (4 + i) 1) (C 2 2)) → (v2 = 7 ∨ v2 = 8 → P_G_of n C 91 (i : Int) v2 (fun r2 C2 => x = r2 ∧ Inv C2)) → 0 ≤ v2 ∧ v2 ≤ 8 → P_G_of n C 91 (i : Int) v2 (fun r2 C2 => x = r2 ∧ Inv C2) := by
    intro x h0 h1 h2 q2
    by_cases e7 : v2 = 7 ∨ v2 = 8
    · exact h2 e7
    · unfold P_G_of
      simp only [gS hn, Int.reduceToNat, Int.toNat_natCast, true_and, g]
      refine g_isSegment hn m6 m2 (bI_br (fun w => absurd q w) (fun _ => g_in (bI_br (fun w => absurd q2 w) (fun _ => ⟨fun e => ⟨fun e6 => ⟨by omega, ?_⟩, fun w => absurd e7 (by omega)⟩, fun e => ⟨by omega, by omega, ?_, inv⟩⟩))))
      · refine g_toll hn ⟨g.2.1, ?_⟩ ⟨?_, inv⟩
        · rw [Int.toNat_natCast, (lay92 i (by omega)).1]
        · rw [h1 e6, Int.toNat_natCast, m3 i hi 0, m3 i hi 1, i2.1]
      · rw [h0 v2.toNat (by omega) (by omega), m3 i hi]
  simp only [Int.reduceToNat, Int.toNat_natCast, fS hf, fL hf, r, true_and]
  have D : ∀ k : Nat, k < 6 → v2 = (k : Int) → P_G_of n C 91 (i : Int) v2 (fun r2 C2 => C (4 + i) k = r2 ∧ Inv C2) := by
    intro k hk e
    refine G _ (fun k' hk' e' => ?_) (fun e' => absurd e' (by omega)) (fun e' => absurd e' (by omega)) (by omega)
    rw [(by omega : k' = k)]
  have i1 : I1 C m := ⟨m6, m1, m2, m3, m4, m5, m7⟩
  refine ⟨by omega, fun e => D 0 (by omega) (by omega), fun e => D 1 (by omega) (by omega), fun e => D 2 (by omega) (by omega), fun e => D 3 (by omega) (by omega), fun e => D 4 (by omega) (by omega), fun e => D 5 (by omega) (by omega), fun e => ?_, fun e => ?_, fun e => ?_, fun e => f_tell hf (by decide) (fun C1 c1 => T C1 (by omega) c1)⟩
  · exact f_toll (G _ (fun k hk e' => absurd e' (by omega)) (fun _ => rfl) (fun e' => absurd e' (by omega)) (by omega))
  · have ex : ∃ A : Nat → Int, ∀ f, f < nF M → ∃ j l, j ≤ mE M ∧ l ≤ mH M j ∧ nw M j l ∧ nf M j l = f ∧ A f = flo M j l ∧ ∃ c : Nat, c < 49 ∧ C 38 f = (c : Int) ∧ C 35 c = A f := by
      refine ⟨fun f => C 35 (C 38 f).toNat, fun f hfl => ?_⟩
      obtain ⟨j, l, a1, a2, a3, a4, a5, x1, x2, x3, x4, x5, x6⟩ := fieldF ok lm hfl
      refine ⟨j, l, a1, a2, a4, a5, ?_, FC M j + l, a3, x1, ?_⟩
      · dsimp only
        rw [x1, Int.toNat_natCast, x3]
      · dsimp only
        rw [x1, Int.toNat_natCast]
    obtain ⟨A, hA⟩ := ex
    refine f_fieldsOver hf f19 lm.nF (fun f hfl => by obtain ⟨j, l, -, -, -, -, -, y⟩ := hA f hfl; exact y) ?_
    unfold P_G_of
    simp only [gS hn, Int.reduceToNat, Int.toNat_natCast, true_and, g]
    refine g_isSegment hn m6 m2 (bI_br (fun w => absurd q w) (fun _ => g_in (bI_br (fun w => absurd w (by omega)) (fun _ => ⟨fun _ => ⟨fun w => absurd w (by omega), fun _ => ?_⟩, fun w => absurd w (by omega)⟩))))
    refine g_mapsI hn i1 lm (fun b t hb => rfl) (fun C2 fr gm _ _ => ?_)
    refine g_fieldsBy (A := A) hn f19 gm.nF (fun _ f hfl => ?_) (fun w => absurd e w) ⟨rfl, inv.congr fr⟩
    obtain ⟨j, l, a1, a2, a3, a4, a5, -⟩ := hA f hfl
    have y := fieldG gm a1 a2 a3 (by rw [a4]; exact hfl)
    rw [a4] at y
    rw [y.1, a5]
  · have ex : ∃ A : Nat → Int, ∀ f, f < nF M → ∃ j l, j ≤ mE M ∧ l ≤ mH M j ∧ nw M j l ∧ nf M j l = f ∧ A f = roo M j l ∧ ∃ c : Nat, c < 49 ∧ C 38 f = (c : Int) ∧ C 36 c = A f := by
      refine ⟨fun f => C 36 (C 38 f).toNat, fun f hfl => ?_⟩
      obtain ⟨j, l, a1, a2, a3, a4, a5, x1, x2, x3, x4, x5, x6⟩ := fieldF ok lm hfl
      refine ⟨j, l, a1, a2, a4, a5, ?_, FC M j + l, a3, x1, ?_⟩
      · dsimp only
        rw [x1, Int.toNat_natCast, x4]
      · dsimp only
        rw [x1, Int.toNat_natCast]
    obtain ⟨A, hA⟩ := ex
    refine f_fieldsUnder hf f19 lm.nF (fun f hfl => by obtain ⟨j, l, -, -, -, -, -, y⟩ := hA f hfl; exact y) ?_
    unfold P_G_of
    simp only [gS hn, Int.reduceToNat, Int.toNat_natCast, true_and, g]
    refine g_isSegment hn m6 m2 (bI_br (fun w => absurd q w) (fun _ => g_in (bI_br (fun w => absurd w (by omega)) (fun _ => ⟨fun _ => ⟨fun w => absurd w (by omega), fun _ => ?_⟩, fun w => absurd w (by omega)⟩))))
    refine g_mapsI hn i1 lm (fun b t hb => rfl) (fun C2 fr gm _ _ => ?_)
    refine g_fieldsBy (A := A) hn f19 gm.nF (fun w => absurd w (by omega)) (fun _ f hfl => ?_) ⟨rfl, inv.congr fr⟩
    obtain ⟨j, l, a1, a2, a3, a4, a5, -⟩ := hA f hfl
    have y := fieldG gm a1 a2 a3 (by rw [a4]; exact hfl)
    rw [a4] at y
    rw [y.2.1, a5]
