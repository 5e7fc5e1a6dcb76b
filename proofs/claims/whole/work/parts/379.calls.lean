/-! my own: back -/
theorem c_back {n : Nat} {C : Cn} (hn : 320 ≤ n) (inv : Inv C) : P_F_back n C 1 (fun r C1 => P_G_back n C1 91 (fun r2 C2 => r = r2 ∧ Inv C2)) := by
  have hf : 91 ≤ n := by omega
  have inv' := inv
  obtain ⟨m0, i1, i2, -, i4, -, -, -, -, i9, ⟨M0, lm0, st0, ch0, r0⟩⟩ := inv'
  have m7 := i1.2.2.2.2.2.2
  clear i1 lm0 st0 ch0
  unfold P_F_back
  simp only [fS hf, Int.reduceToNat, true_and]
  rcases i9 with ⟨k1, k2⟩ | ⟨k1, k2, m, m6, a1, a2, a3, a4, a5, b1, b2, b3, b4, b5, b6⟩
  · refine ⟨fun _ => f_tell hf (by decide) (fun C1 c1 => ?_), fun w => absurd k1 w⟩
    unfold P_G_back
    have e : C1 91 50 = 0 := by rw [why0 c1 _ _ (by omega), k2]
    simp only [gS hn, Int.reduceToNat, true_and, e]
    exact ⟨fun _ => both hn (by decide) inv c1 (fun _ _ _ => rfl), fun w => absurd trivial w⟩
  · refine ⟨fun w => absurd w (by omega), fun _ => ?_⟩
    refine f_takeAll (a := 2) (b := 10) hf (Or.inl rfl) (Or.inr (Or.inl rfl)) (by decide) m6 a1 (fun D d1 d2 d3 d4 d5 d6 => ?_)
    have g4 : gd (tb D 4 m) m := a5.sub (Nat.le_refl _) (fun i hi f h1 h2 => by rw [tb_lt hi, tb_lt hi]; exact d6 i hi f (by omega))
    refine f_settle hf d2 g4 (fun C5 M5 f5 lm5 st5 x11 => ?_)
    have c50 : C5 2 1 = (m : Int) := by rw [f5 _ _ (by omega) (by omega) (by omega), d2]
    rw [c50]
    have o5 : ∀ q t, ¬ (26 ≤ q ∧ q ≤ 41) → ¬ (60 ≤ q ∧ q ≤ 63) → ¬ (q = 58 ∧ t = 11) → ¬ (q = 2 ∧ 1 ≤ t ∧ t ≤ 4) → ¬ (4 ≤ q ∧ q ≤ 9 ∧ t < 6) → C5 q t = C q t := fun q t h1 h2 h3 h4 h5 => by rw [f5 q t h1 h2 h3, d1 q t (by omega) (by omega)]
    unfold P_G_back
    have e50 : C5 91 50 = 1 := by rw [o5 _ _ (by omega) (by omega) (by omega) (by omega) (by omega), k2]
    have e51 : C5 91 51 = (m : Int) := by rw [o5 _ _ (by omega) (by omega) (by omega) (by omega) (by omega), a2]
    simp only [gS hn, Int.reduceToNat, true_and, e50, e51]
    refine ⟨fun w => absurd w (by omega), fun _ E3 e3 => ?_⟩
    refine lp_rule (fun (z : Cn × Int) => ∃ k : Nat, k ≤ 6 ∧ z.2 = (k : Int) ∧ (∀ q t, ¬ (93 ≤ q ∧ q ≤ 98 ∧ t < 6) → z.1 q t = E3 q t) ∧ ∀ i, i < k → ∀ f, f < 6 → z.1 (93 + i) f = E3 (314 + i) f) (fun z => (20 - z.2).toNat) ?_ (E3, 0) ⟨0, by omega, rfl, fun _ _ _ => rfl, fun i hi => absurd hi (Nat.not_lt_zero i)⟩
    rintro ⟨F, v3⟩ ⟨k, z0, z1, z2, z3⟩ K hK
    dsimp only at z1 z2 z3
    subst z1
    unfold B_G_back_23 J_G_back_50
    simp only [gS hn, Int.reduceToNat, Int.toNat_natCast, true_and]
    refine ⟨fun q => ?_, fun q => ⟨by omega, by omega, ?_⟩⟩
    · intro F6 f6 F7 f7 F8 f8
      have g8 : ∀ q t, ¬ (93 ≤ q ∧ q ≤ 98 ∧ t < 6) → ¬ (q = 91 ∧ (t = 0 ∨ (2 ≤ t ∧ t ≤ 4))) → F8 q t = C5 q t := fun q t h1 h2 => by rw [f8, wr_ne (by omega), f7, wr_ne (by omega), f6, wr_ne (by omega), z2 q t h1, e3, wr_ne (by omega)]
      have x0 : F8 91 0 = (m : Int) := by rw [f8, wr_ne (by omega), f7, wr_ne (by omega), f6, wr_ne (by omega), z2 _ _ (by omega), e3, wr_same]
      have x2 : F8 91 2 = C 91 53 := by rw [f8, wr_ne (by omega), f7, wr_ne (by omega), f6, wr_same, z2 _ _ (by omega), e3, wr_ne (by omega), o5 _ _ (by omega) (by omega) (by omega) (by omega) (by omega)]
      have x3 : F8 91 3 = C 91 54 := by rw [f8, wr_ne (by omega), f7, wr_same, f6, wr_ne (by omega), z2 _ _ (by omega), e3, wr_ne (by omega), o5 _ _ (by omega) (by omega) (by omega) (by omega) (by omega)]
      have x4 : F8 91 4 = C 91 55 := by rw [f8, wr_same, f7, wr_ne (by omega), f6, wr_ne (by omega), z2 _ _ (by omega), e3, wr_ne (by omega), o5 _ _ (by omega) (by omega) (by omega) (by omega) (by omega)]
      have y2 : F8 2 2 = C 10 2 := by rw [g8 _ _ (by omega) (by omega), f5 _ _ (by omega) (by omega) (by omega), d3]
      have y3 : F8 2 3 = C 10 3 := by rw [g8 _ _ (by omega) (by omega), f5 _ _ (by omega) (by omega) (by omega), d4]
      have y4 : F8 2 4 = C 10 4 := by rw [g8 _ _ (by omega) (by omega), f5 _ _ (by omega) (by omega) (by omega), d5]
      have xr : ∀ i, i < m → ∀ f, f < 6 → F8 (4 + i) f = C (12 + i) f := fun i hi f hf => by
        rw [g8 _ _ (by omega) (by omega), f5 _ _ (by omega) (by omega) (by omega)]
        exact d6 i hi f hf
      have xg : ∀ i, i < m → ∀ f, f < 6 → F8 (93 + i) f = C (12 + i) f := fun i hi f hf => by
        rw [f8, wr_ne (by omega), f7, wr_ne (by omega), f6, wr_ne (by omega), z3 i (by omega) f hf, e3, wr_ne (by omega), o5 _ _ (by omega) (by omega) (by omega) (by omega) (by omega), a3 i hi f hf]
      have xz : ∀ b f, 6 ≤ f → (4 ≤ b ∧ b ≤ 9) ∨ (20 ≤ b ∧ b ≤ 25) ∨ (93 ≤ b ∧ b ≤ 98) → F8 b f = 0 := fun b f h1 h2 => by
        rw [g8 _ _ (by omega) (by omega), o5 _ _ (by omega) (by omega) (by omega) (by omega) (by omega)]
        exact m7 b f h1 h2
      have et : tb F8 4 m = tb C5 4 m := tb_congr (fun i hi f => g8 _ _ (by omega) (by omega))
      have et2 : tb C5 4 m = tb D 4 m := tb_congr (fun i hi f => f5 _ _ (by omega) (by omega) (by omega))
      refine ⟨x0.symm, inv.upS (m := m) (fun b t hb hb2 => ?_) ⟨m6, by rw [g8 _ _ (by omega) (by omega), c50], x0, fun i hi f => ?_, fun i hi => ?_, by rw [et, et2]; exact g4, xz⟩ ?_ (i4.congr (fun b t hb => ?_)) ⟨M5, ?_, st5.congr (fun b t h1 h2 => g8 b t (by omega) (by omega)), Or.inl (by rw [g8 _ _ (by omega) (by omega), x11]), fun t ht => ?_⟩⟩
      · rw [g8 b t (by omega) (by omega), o5 b t (by omega) (by omega) (by omega) (by omega) (by omega)]
      · by_cases e : f < 6
        · rw [xg i hi f e, xr i hi f e]
        · rw [xz _ _ (by omega) (by omega), xz _ _ (by omega) (by omega)]
      · rw [xr i hi 0 (by omega), xr i hi 1 (by omega)]
        exact a4 i hi
      · unfold I2
        rw [x2, x3, x4, y2, y3, y4]
        exact ⟨b1, b2, b3, b4, b5, b6⟩
      · rw [g8 b t (by omega) (by omega), o5 b t (by omega) (by omega) (by omega) (by omega) (by omega)]
      · rw [et]
        exact lm5.congr (fun b t h1 h2 => g8 b t (by omega) (by omega))
      · rw [g8 _ _ (by omega) (by omega), o5 _ _ (by omega) (by omega) (by omega) (by omega) (by omega)]
        exact r0 t ht
    · have ga := gR92 hn (by omega : k < 6)
      have gb := gR313 hn (by omega : k < 6)
      rw [ga.1, gb.1]
      refine g_copies gb.2 ga.2 (by omega) (fun F2 h1 h2 => ?_)
      rw [w32_n (by omega)]
      refine hK _ ⟨k + 1, by omega, rfl, fun q t hq => ?_, fun i hi f hf => ?_⟩ (by dsimp only; omega)
      · dsimp only
        rw [h1 q t (by omega), z2 q t hq]
      · dsimp only
        by_cases e : i = k
        · rw [e, h2 f hf, z2 _ _ (by omega)]
        · rw [h1 _ _ (by omega), z3 i (by omega) f hf]
