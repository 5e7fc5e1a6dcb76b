/-! my own: settle; become, drop -/
theorem gd.sub {s s2 : Cn} {m k : Nat} (g : gd s m) (hk : k ≤ m) (h : ∀ i, i < k → ∀ f, 2 ≤ f → f ≤ 5 → s2 i f = s i f) : gd s2 k := by
  obtain ⟨g1, g2, g3⟩ := g
  refine ⟨by omega, fun i hi => ?_, fun i j hi hj hne => ?_⟩
  · have a := g2 i (by omega)
    unfold cB fK lK at a ⊢
    simp only [Int.toNat_natCast] at a ⊢
    rw [h i hi 2 (by omega) (by omega), h i hi 3 (by omega) (by omega), h i hi 4 (by omega) (by omega), h i hi 5 (by omega) (by omega)]
    exact a
  · have a := g3 i j (by omega) (by omega) hne
    unfold cApK fK lK at a ⊢
    simp only [Int.toNat_natCast] at a ⊢
    rw [h i hi 2 (by omega) (by omega), h i hi 3 (by omega) (by omega), h i hi 4 (by omega) (by omega), h i hi 5 (by omega) (by omega), h j hj 2 (by omega) (by omega), h j hj 3 (by omega) (by omega), h j hj 4 (by omega) (by omega), h j hj 5 (by omega) (by omega)]
    exact a
theorem isMap.same {s s2 : Cn} {m : Nat} {X Y : Nat → Int} {M : Mp} (h : isMap s m X Y M) (g : ∀ i f, 2 ≤ f → f ≤ 5 → s2 i f = s i f) : isMap s2 m X Y M := by
  obtain ⟨a1, a2, a3, a4, a5, a6⟩ := h
  have k2 : ∀ i, s2 i 2 = s i 2 := fun i => g i 2 (by omega) (by omega)
  have k3 : ∀ i, s2 i 3 = s i 3 := fun i => g i 3 (by omega) (by omega)
  have k4 : ∀ i, s2 i 4 = s i 4 := fun i => g i 4 (by omega) (by omega)
  have k5 : ∀ i, s2 i 5 = s i 5 := fun i => g i 5 (by omega) (by omega)
  have e1 : (fun (a b : Nat) => cOv s2 (a : Int) (b : Int)) = (fun (a b : Nat) => cOv s (a : Int) (b : Int)) := by
    funext a b
    unfold cOv tC
    simp only [k2, k3, k4, k5]
  have e2 : sK s2 0 m = sK s 0 m := by
    funext k
    unfold sK fK lK
    simp only [k2, k3, k4, k5]
  refine ⟨a1, by rw [e1]; exact a2, by rw [e2]; exact a3, a4, fun i hi => ?_, a6⟩
  unfold fK lK
  simp only [k2, k3, k4, k5]
  exact a5 i hi
theorem f_settle {n m : Nat} {C : Cn} {Q : Int → Cn → Prop} (hf : 91 ≤ n) (hm : C 2 1 = m) (g : gd (tb C 4 m) m) (h : ∀ (C2 : Cn) (M : Mp), (∀ b t, ¬ (26 ≤ b ∧ b ≤ 41) → ¬ (60 ≤ b ∧ b ≤ 63) → ¬ (b = 58 ∧ t = 11) → C2 b t = C b t) → LM C2 26 (tb C2 4 m) m M → ST C2 M → C2 58 11 = -1 → Q 0 C2) : P_F_settle n C 1 Q := by
  have m6 := g.1
  unfold P_F_settle
  simp only [fS hf, fL hf, Int.reduceToNat, true_and]
  refine f_survey (l := 26) (e := 2) hf (Or.inl rfl) (Or.inl rfl) hm g (fun C1 M f1 lm => ?_)
  have lm' : LM C1 26 (tb C 4 m) m M := lm
  have ok : okM M := g.ok lm'.1
  refine f_study hf ok lm'.1.1 lm'.f (fun C2 f2 st x11 => ?_)
  have et : tb C2 4 m = tb C 4 m := tb_congr (fun i hi f => by rw [f2 _ _ (by omega) (by omega), f1 _ _ (by omega)])
  refine h C2 M (fun b t h1 h2 h3 => by rw [f2 b t h2 h3, f1 b t (by omega)]) ?_ st x11
  rw [et]
  exact lm'.congr (fun b t h1 h2 => f2 b t (by omega) (by omega))
theorem c_drop {n : Nat} {C : Cn} (hn : 320 ≤ n) (inv : Inv C) : P_F_drop n C 1 (fun r C1 => P_G_drop n C1 91 (fun r2 C2 => r = r2 ∧ Inv C2)) := by
  have hf : 91 ≤ n := by omega
  have inv' := inv
  obtain ⟨m, i1, i2, -, i4, -, -, -, -, -, ⟨M, lm, st, ch, r0⟩⟩ := inv'
  obtain ⟨m6, m1, m2, m3, m4, m5, m7⟩ := i1
  unfold P_F_drop
  simp only [fS hf, Int.reduceToNat, true_and, m1]
  refine ⟨fun q => fun C4 c4 => ?_, fun q => ?_⟩
  · obtain ⟨k, rfl⟩ : ∃ k, m = k + 1 := ⟨m - 1, by omega⟩
    have w1 : w32 (((k + 1 : Nat) : Int) - 1) = (k : Int) := by
      rw [w32_s (by omega)]
      omega
    rw [w1] at c4
    have o4 : ∀ b t, ¬ (b = 2 ∧ t = 1) → C4 b t = C b t := fun b t hb => by rw [c4, wr_ne hb]
    have g4 : gd (tb C4 4 k) k := m5.sub (by omega) (fun i hi f _ _ => by rw [tb_lt hi, tb_lt (by omega), o4 _ _ (by omega)])
    refine f_settle hf (by rw [c4, wr_same]) g4 (fun C5 M5 f5 lm5 st5 x11 => ?_)
    have c50 : C5 2 1 = (k : Int) := by rw [f5 _ _ (by omega) (by omega) (by omega), c4, wr_same]
    have c51 : C5 91 0 = ((k + 1 : Nat) : Int) := by rw [f5 _ _ (by omega) (by omega) (by omega), o4 _ _ (by omega), m2]
    unfold P_G_drop
    simp only [gS hn, Int.reduceToNat, true_and, c51, c50]
    rw [w1]
    clear w1
    refine ⟨fun w => absurd w (by omega), fun _ C6 c6 => ⟨by rw [c6, wr_same], ?_⟩⟩
    have o6 : ∀ b t, ¬ (b = 91 ∧ t = 0) → C6 b t = C5 b t := fun b t hb => by rw [c6, wr_ne hb]
    have p6 : ∀ b t, ¬ (26 ≤ b ∧ b ≤ 41) → ¬ (60 ≤ b ∧ b ≤ 63) → ¬ (b = 58 ∧ t = 11) → ¬ (b = 91 ∧ t = 0) → ¬ (b = 2 ∧ t = 1) → C6 b t = C b t := fun b t h1 h2 h3 h4 h5 => by rw [o6 b t h4, f5 b t h1 h2 h3, o4 b t h5]
    have et : tb C6 4 k = tb C5 4 k := tb_congr (fun i hi f => o6 _ _ (by omega))
    have et2 : tb C5 4 k = tb C4 4 k := tb_congr (fun i hi f => f5 _ _ (by omega) (by omega) (by omega))
    refine inv.upS (m := k) (fun b t hb hb2 => p6 b t (by omega) (by omega) (by omega) (by omega) (by omega)) ⟨by omega, ?_, ?_, fun i hi f => ?_, fun i hi => ?_, by rw [et, et2]; exact g4, fun b f h1 h2 => ?_⟩ (i2.congr (fun b t hb => p6 b t (by omega) (by omega) (by omega) (by omega) (by omega))) (i4.congr (fun b t hb => p6 b t (by omega) (by omega) (by omega) (by omega) (by omega))) ⟨M5, ?_, st5.congr (fun b t h1 h2 => o6 b t (by omega)), Or.inl (by rw [o6 _ _ (by omega), x11]), fun t ht => ?_⟩
    · rw [o6 _ _ (by omega), c50]
    · rw [c6, wr_same]
    · rw [p6 _ _ (by omega) (by omega) (by omega) (by omega) (by omega), p6 _ _ (by omega) (by omega) (by omega) (by omega) (by omega)]
      exact m3 i (by omega) f
    · rw [p6 _ _ (by omega) (by omega) (by omega) (by omega) (by omega), p6 _ _ (by omega) (by omega) (by omega) (by omega) (by omega)]
      exact m4 i (by omega)
    · rw [p6 _ _ (by omega) (by omega) (by omega) (by omega) (by omega)]
      exact m7 b f h1 h2
    · rw [et]
      exact lm5.congr (fun b t h1 h2 => o6 b t (by omega))
    · rw [p6 _ _ (by omega) (by omega) (by omega) (by omega) (by omega)]
      exact r0 t ht
  · refine f_tell hf (by decide) (fun C1 c1 => ?_)
    unfold P_G_drop
    have e : C1 91 0 = (m : Int) := by rw [why0 c1 _ _ (by omega), m2]
    simp only [gS hn, Int.reduceToNat, true_and, e]
    exact ⟨fun _ => both hn (by decide) inv c1 (fun _ _ _ => rfl), fun w => absurd w (by omega)⟩
theorem km_div {v : Int} (h : 0 ≤ v ∧ v ≤ 59) : w32 (Int.tdiv v 10) = v / 10 ∧ w32 (Int.tmod v 10) = v % 10 := by
  have a : Int.tdiv v 10 = v / 10 := by rw [Int.tdiv_eq_ediv_of_nonneg h.1]
  have b : Int.tmod v 10 = v % 10 := by rw [Int.tmod_eq_emod_of_nonneg h.1]
  rw [a, b]
  exact ⟨w32_id (by omega) (by omega), w32_id (by omega) (by omega)⟩
theorem c_become {n : Nat} {C : Cn} {v1 v2 : Int} (hn : 320 ≤ n) (inv : Inv C) : P_F_become n C 1 v1 v2 (fun r C1 => P_G_become n C1 91 v1 v2 (fun r2 C2 => r = r2 ∧ Inv C2)) := by
  have hf : 91 ≤ n := by omega
  have inv' := inv
  obtain ⟨m, i1, i2, -, i4, -, -, -, -, -, ⟨M, lm, st, ch, r0⟩⟩ := inv'
  obtain ⟨m6, m1, m2, m3, m4, m5, m7⟩ := i1
  have T : ¬ ((0 ≤ v1 ∧ v1 < (m : Int)) ∧ (0 ≤ v2 ∧ v2 ≤ 59)) → P_F_tell n C 1 0 (fun r C1 => P_G_become n C1 91 v1 v2 (fun r2 C2 => r = r2 ∧ Inv C2)) := by
    intro q
    refine f_tell hf (by decide) (fun C1 c1 => ?_)
    unfold P_G_become
    simp only [gS hn, true_and]
    exact g_isSegment hn m6 (by rw [why0 c1 _ _ (by omega), m2]) (bI_br (fun _ => both hn (by decide) inv c1 (fun _ _ _ => rfl)) (fun q1 => g_isKm (bI_br (fun _ => both hn (by decide) inv c1 (fun _ _ _ => rfl)) (fun q2 => absurd ⟨q1, q2⟩ q))))
  unfold P_F_become
  simp only [fS hf, Int.reduceToNat, true_and]
  refine f_isSegment hf m6 m1 (bI_br (fun q => T (fun w => q w.1)) (fun q => f_isKm (bI_br (fun q2 => T (fun w => q2 w.2)) (fun q2 => ?_))))
  clear T
  obtain ⟨i, rfl⟩ : ∃ k : Nat, v1 = (k : Int) := ⟨v1.toNat, by omega⟩
  have hi : i < m := by omega
  have r := f3R hf (by omega : i < 6)
  have g := gR92 hn (by omega : i < 6)
  obtain ⟨k1, k2⟩ := km_div q2
  simp only [Int.toNat_natCast, r, true_and]
  refine ⟨by omega, fun x hx => ?_⟩
  unfold P_Wa_beOf
  simp only [Int.toNat_natCast, r, true_and]
  rw [k1, k2]
  intro C2 c2 C3 c3
  have o3 : ∀ b t, ¬ (b = 4 + i ∧ t < 2) → C3 b t = C b t := fun b t hb => by rw [c3, wr_ne (by omega), c2, wr_ne (by omega)]
  unfold P_G_become
  simp only [gS hn, Int.reduceToNat, Int.toNat_natCast, g, true_and]
  refine g_isSegment hn m6 (by rw [o3 _ _ (by omega), m2]) (bI_br (fun w => absurd q w) (fun _ => g_isKm (bI_br (fun w => absurd q2 w) (fun _ => ⟨by omega, by omega, fun x2 hx2 C5 c5 => ⟨by omega, fun C6 c6 => ⟨?_, ?_⟩⟩⟩))))
  · rw [hx, hx2, o3 _ _ (by omega), m3 i hi]
  · rw [k1] at c5
    rw [k2] at c6
    clear k1 k2
    have o6 : ∀ b t, ¬ ((b = 4 + i ∨ b = 93 + i) ∧ t < 2) → C6 b t = C b t := fun b t hb => by rw [c6, wr_ne (by omega), c5, wr_ne (by omega), o3 b t (by omega)]
    have z0 : C6 (4 + i) 0 = v2 / 10 := by rw [c6, wr_ne (by omega), c5, wr_ne (by omega), c3, wr_ne (by omega), c2, wr_same]
    have z1 : C6 (4 + i) 1 = v2 % 10 := by rw [c6, wr_ne (by omega), c5, wr_ne (by omega), c3, wr_same]
    have y0 : C6 (93 + i) 0 = v2 / 10 := by rw [c6, wr_ne (by omega), c5, wr_same]
    have y1 : C6 (93 + i) 1 = v2 % 10 := by rw [c6, wr_same]
    have ts : ∀ j f, 2 ≤ f → f ≤ 5 → tb C6 4 m j f = tb C 4 m j f := fun j f h1 h2 => by
      unfold tb
      by_cases hj : j < m
      · rw [if_pos hj, if_pos hj, o6 _ _ (by omega)]
      · rw [if_neg hj, if_neg hj]
    have lm6 : LM C6 26 (tb C 4 m) m M := lm.congr (fun b t h1 h2 => o6 b t (by omega))
    refine inv.upS (m := m) (fun b t hb hb2 => o6 b t (by omega)) ⟨m6, by rw [o6 _ _ (by omega), m1], by rw [o6 _ _ (by omega), m2], fun j hj f => ?_, fun j hj => ?_, m5.sub (Nat.le_refl _) (fun j hj f h1 h2 => ts j f h1 h2), fun b f h1 h2 => ?_⟩ (i2.congr (fun b t hb => o6 b t (by omega))) (i4.congr (fun b t hb => o6 b t (by omega))) ⟨M, ⟨lm6.1.same ts, lm6.2⟩, st.congr (fun b t h1 h2 => o6 b t (by omega)), by rw [o6 _ _ (by omega)]; exact ch, fun t ht => ?_⟩
    · by_cases e : j = i ∧ f < 2
      · rw [e.1]
        have : f = 0 ∨ f = 1 := by omega
        rcases this with e2 | e2 <;> subst e2
        · rw [y0, z0]
        · rw [y1, z1]
      · rw [o6 _ _ (by omega), o6 _ _ (by omega)]
        exact m3 j hj f
    · by_cases e : j = i
      · rw [e, z0, z1]
        omega
      · rw [o6 _ _ (by omega), o6 _ _ (by omega)]
        exact m4 j hj
    · rw [o6 _ _ (by omega)]
      exact m7 b f h1 h2
    · rw [o6 _ _ (by omega)]
      exact r0 t ht
