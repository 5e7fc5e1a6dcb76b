/-! my own: move -/
theorem gd.set {s s2 : Cn} {m i : Nat} (g : gd s m) (hi : i < m) (h : ∀ j, j < m → j ≠ i → ∀ f, 2 ≤ f → f ≤ 5 → s2 j f = s j f) (h1 : bd (s2 i 2) ∧ bd (s2 i 3) ∧ bd (s2 i 4) ∧ bd (s2 i 5)) (h2 : ky (s2 i 2) (s2 i 3) < ky (s2 i 4) (s2 i 5)) (h3 : ∀ j, j < m → j ≠ i → cApK s2 (j : Int) (i : Int)) : gd s2 m := by
  obtain ⟨g1, g2, g3⟩ := g
  refine ⟨g1, fun j hj => ?_, fun j k hj hk hne => ?_⟩
  · by_cases e : j = i
    · subst e
      unfold cB fK lK
      simp only [Int.toNat_natCast]
      exact ⟨h1, h2⟩
    · have a := g2 j hj
      unfold cB fK lK at a ⊢
      simp only [Int.toNat_natCast] at a ⊢
      rw [h j hj e 2 (by omega) (by omega), h j hj e 3 (by omega) (by omega), h j hj e 4 (by omega) (by omega), h j hj e 5 (by omega) (by omega)]
      exact a
  · by_cases e : j = i
    · subst e
      exact cApK_sym.mp (h3 k hk (fun w => hne w.symm))
    · by_cases e2 : k = i
      · subst e2
        exact h3 j hj e
      · exact (cApK_tr (fun f a b => h j hj e f a b) (fun f a b => h k hk e2 f a b)).mpr (g3 j k hj hk hne)
theorem c_move {n : Nat} {C : Cn} {v1 v2 v3 v4 v5 : Int} (hn : 320 ≤ n) (inv : Inv C) : P_F_move n C 1 v1 v2 v3 v4 v5 (fun r C1 => P_G_move n C1 91 v1 v2 v3 v4 v5 (fun r2 C2 => r = r2 ∧ Inv C2)) := by
  have hf : 91 ≤ n := by omega
  have inv' := inv
  obtain ⟨m, i1, i2, -, i4, -, -, -, -, -, ⟨M, lm, st, ch, r0⟩⟩ := inv'
  obtain ⟨m6, m1, m2, m3, m4, m5, m7⟩ := i1
  have G : ∀ (C1 : Cn) (Q : Int → Cn → Prop), C1 91 0 = (m : Int) → (0 ≤ v1 ∧ v1 < (m : Int)) ∧ (bd v2 ∧ bd v3) ∧ (bd v4 ∧ bd v5) ∧ ¬ (v2 = v4 ∧ v3 = v5) → J_G_move_44 n C1 91 v1 v2 v3 v4 v5 Q → P_G_move n C1 91 v1 v2 v3 v4 v5 Q := by
    intro C1 Q c0 q J
    unfold P_G_move
    simp only [gS hn, true_and]
    exact g_isSegment hn m6 c0 (bI_br (fun w => absurd q.1 w) (fun _ => g_isPoint (bI_br (fun w => absurd q.2.1 w) (fun _ => g_isPoint (bI_br (fun w => absurd q.2.2.1 w) (fun _ => ⟨fun e1 => ⟨fun e2 => absurd ⟨e1, e2⟩ q.2.2.2, fun _ => J⟩, fun _ => J⟩))))))
  have T : ¬ ((0 ≤ v1 ∧ v1 < (m : Int)) ∧ (bd v2 ∧ bd v3) ∧ (bd v4 ∧ bd v5) ∧ ¬ (v2 = v4 ∧ v3 = v5)) → P_F_tell n C 1 0 (fun r C1 => P_G_move n C1 91 v1 v2 v3 v4 v5 (fun r2 C2 => r = r2 ∧ Inv C2)) := by
    intro q
    refine f_tell hf (by decide) (fun C1 c1 => ?_)
    have B := both hn (by decide) inv c1 (fun _ _ _ => rfl)
    unfold P_G_move
    simp only [gS hn, true_and]
    exact g_isSegment hn m6 (by rw [why0 c1 _ _ (by omega), m2]) (bI_br (fun _ => B) (fun q1 => g_isPoint (bI_br (fun _ => B) (fun q2 => g_isPoint (bI_br (fun _ => B) (fun q3 => ⟨fun e1 => ⟨fun _ => B, fun e2 => absurd ⟨q1, q2, q3, fun w => e2 w.2⟩ q⟩, fun e1 => absurd ⟨q1, q2, q3, fun w => e1 w.1⟩ q⟩))))))
  unfold P_F_move
  simp only [fS hf, true_and]
  refine f_isSegment hf m6 m1 (bI_br (fun q => T (fun w => q w.1)) (fun q => f_areTwo (bI_br (fun q2 => T (fun w => q2 w.2)) (fun q2 => ?_))))
  clear T
  have qq : (0 ≤ v1 ∧ v1 < (m : Int)) ∧ (bd v2 ∧ bd v3) ∧ (bd v4 ∧ bd v5) ∧ ¬ (v2 = v4 ∧ v3 = v5) := ⟨q, q2⟩
  have l := ld_ok q2.1 q2.2.1 q2.2.2
  obtain ⟨i, rfl⟩ : ∃ i : Nat, v1 = (i : Int) := ⟨v1.toNat, by omega⟩
  have hi : i < m := by omega
  have ri := f3R hf (by omega : i < 6)
  have gi' := gR92 hn (by omega : i < 6)
  simp only [fS hf, Int.reduceToNat, Int.toNat_natCast, ri, true_and]
  have na7 : okO n ((76 : Nat) : Int) 7 := (fS hf).2.2.2.2.2.2.2.2.1
  refine f_layW (a := 76) na7 (fun D d1 d2 => ?_)
  have o : ∀ b t, b ≠ 76 → D b t = C b t := fun b t hb => d1 b t (by omega)
  have w76 : wb n D ((76 : Nat) : Int) := ⟨na7, by
    show bd (D 76 2) ∧ bd (D 76 3) ∧ bd (D 76 4) ∧ bd (D 76 5)
    rw [d2 2 (by omega) (by omega), d2 3 (by omega) (by omega), d2 4 (by omega) (by omega), d2 5 (by omega) (by omega)]
    exact l.1⟩
  have wi : ∀ i, i < m → wb n D ((4 + i : Nat) : Int) := fun i hi => ⟨(f3R hf (by omega)).2, by
    rw [Int.toNat_natCast, o _ _ (by omega), o _ _ (by omega), o _ _ (by omega), o _ _ (by omega)]
    have := m5.bd4 hi
    rw [tb_lt hi, tb_lt hi, tb_lt hi, tb_lt hi] at this
    exact this⟩
  have ordi : ∀ i, i < m → fK D ((4 + i : Nat) : Int) < lK D ((4 + i : Nat) : Int) := fun i hi => by
    have := (m5.2.1 i hi).2
    unfold fK lK at this ⊢
    simp only [Int.toNat_natCast, tb_lt hi] at this ⊢
    rw [o _ _ (by omega), o _ _ (by omega), o _ _ (by omega), o _ _ (by omega)]
    exact this
  have ord76 : fK D ((76 : Nat) : Int) < lK D ((76 : Nat) : Int) := by
    unfold fK lK
    simp only [Int.toNat_natCast]
    rw [d2 2 (by omega) (by omega), d2 3 (by omega) (by omega), d2 4 (by omega) (by omega), d2 5 (by omega) (by omega)]
    exact l.2
  have apF : ∀ i, i < m → (cAp D ((4 + i : Nat) : Int) ((76 : Nat) : Int) ↔ cApK D ((4 + i : Nat) : Int) ((76 : Nat) : Int)) := fun i hi => cAp_K (wi i hi).2 w76.2 (ordi i hi) ord76
  have J : ∀ (C1 : Cn) (Q : Int → Cn → Prop), (∀ b t, b = 91 ∨ (93 ≤ b ∧ b ≤ 98) → C1 b t = C b t) →
      ((∀ j, j < m → j ≠ i → cApK D ((4 + j : Nat) : Int) ((76 : Nat) : Int)) → ∀ E : Cn, (∀ b t, b ≠ 100 → E b t = C1 b t) → E 100 0 = C (4 + i) 0 → E 100 1 = C (4 + i) 1 → (∀ f, 2 ≤ f → f ≤ 5 → E 100 f = D 76 f) → P_G_copies n E 100 ((93 + i : Nat) : Int) (fun _ C45 => Q 1 C45)) →
      (∀ j, j < m → j ≠ i → ¬ cApK D ((4 + j : Nat) : Int) ((76 : Nat) : Int) → (∀ k, k < j → k ≠ i → cApK D ((4 + k : Nat) : Int) ((76 : Nat) : Int)) → ∀ E : Cn, (∀ b t, b ≠ 100 → ¬ (b = 91 ∧ 6 ≤ t ∧ t ≤ 8) → E b t = C1 b t) → E 91 6 = (if cTo D ((4 + j : Nat) : Int) ((76 : Nat) : Int) then 1 else 2) → E 91 7 = (j : Int) → E 91 8 = 0 → P_G_finds n E 91 4 Q) → J_G_move_44 n C1 91 (i : Int) v2 v3 v4 v5 Q := by
    intro C1 Q oc hA hB
    unfold J_G_move_44
    have cm : C1 91 0 = (m : Int) := by rw [oc _ _ (by omega), m2]
    have c0 : C1 (93 + i) 0 = C (4 + i) 0 := by rw [oc _ _ (by omega), m3 i hi]
    have c1 : C1 (93 + i) 1 = C (4 + i) 1 := by rw [oc _ _ (by omega), m3 i hi]
    have kb := m4 i hi
    have wk : w32 (w32 (10 * C (4 + i) 0) + C (4 + i) 1) = 10 * C (4 + i) 0 + C (4 + i) 1 := by
      rw [w32_s (x := 10 * C (4 + i) 0) (by omega), w32_s (by omega)]
    simp only [gS hn, Int.reduceToNat, Int.toNat_natCast, gi', true_and, c0, c1]
    rw [wk]
    clear wk
    refine ⟨by omega, by omega, by omega, ?_⟩
    have o100 : okO n ((100 : Nat) : Int) 12 ∧ (∀ v : Int, okI ((100 : Nat) : Int) v ↔ (0 ≤ v ∧ v < 6)) := ⟨(gS hn).2.2.2.2.2.1, fun v => Iff.rfl⟩
    refine g_lays (a := 100) o100 (by omega) (fun E e1 e3 e4 e2 => ?_)
    have em : E 91 0 = (m : Int) := by rw [e1 _ _ (by omega), cm]
    have er : ∀ i, i < m → ∀ f, E (93 + i) f = D (4 + i) f := fun i hi f => by rw [e1 _ _ (by omega), oc _ _ (by omega), o _ _ (by omega), m3 i hi f]
    have e76 : ∀ f, 2 ≤ f → f ≤ 5 → E 100 f = D 76 f := fun f h1 h2 => by rw [e2 f h1 h2, d2 f h1 h2]
    have g100 : gb n E ((100 : Nat) : Int) := ⟨⟨o100.1, rfl⟩, by
      rw [Int.toNat_natCast, e76 2 (by omega) (by omega), e76 3 (by omega) (by omega), e76 4 (by omega) (by omega), e76 5 (by omega) (by omega)]
      exact w76.2⟩
    have gi : ∀ i, i < m → gb n E ((93 + i : Nat) : Int) := fun i hi => ⟨⟨(gR92 hn (by omega)).2.1, by rw [Int.toNat_natCast, (lay92 i (by omega)).1]⟩, by
      rw [Int.toNat_natCast, er i hi, er i hi, er i hi, er i hi]
      have := (wi i hi).2
      rw [Int.toNat_natCast] at this
      exact this⟩
    have apG : ∀ i, i < m → (cAg E ((100 : Nat) : Int) ((93 + i : Nat) : Int) ↔ cApK D ((4 + i : Nat) : Int) ((76 : Nat) : Int)) := fun i hi => by
      have t1 : fK E ((100 : Nat) : Int) < lK E ((100 : Nat) : Int) := by
        unfold fK lK
        simp only [Int.toNat_natCast]
        rw [e2 2 (by omega) (by omega), e2 3 (by omega) (by omega), e2 4 (by omega) (by omega), e2 5 (by omega) (by omega)]
        exact l.2
      have t2 : fK E ((93 + i : Nat) : Int) < lK E ((93 + i : Nat) : Int) := by
        have := ordi i hi
        unfold fK lK at this ⊢
        simp only [Int.toNat_natCast] at this ⊢
        rw [er i hi, er i hi, er i hi, er i hi]
        exact this
      rw [cAg_K g100.2 (gi i hi).2 t1 t2, cApK_sym]
      exact cApK_tr (fun f _ _ => er i hi f) e76
    have toG : ∀ i, i < m → (cTo E ((93 + i : Nat) : Int) ((100 : Nat) : Int) ↔ cTo D ((4 + i : Nat) : Int) ((76 : Nat) : Int)) := fun i hi => cTo_tr (fun f _ _ => er i hi f) e76
    refine g_stands (w := 100) hn m6 em gi g100 (Or.inl rfl) (fun al => ?_) (fun j hj hjs na al F f1 f2 f3 f4 => ?_)
    · refine ⟨fun w => absurd w (by decide), fun _ => ?_⟩
      exact hA (fun j hj hne => (apG j hj).mp (al j hj (by omega))) E (fun b t hb => e1 b t (by omega)) (by rw [e3]; omega) (by rw [e4]; omega) e76
    · refine ⟨fun _ => ?_, fun w => absurd rfl w⟩
      refine hB j hj (by omega) (fun w => na ((apG j hj).mpr w)) (fun k hk hne => (apG k (by omega)).mp (al k hk (by omega))) F (fun b t h1 h2 => by rw [f1 b t h2, e1 b t (by omega)]) ?_ f3 f4
      rw [f2]
      by_cases w : cTo D ((4 + j : Nat) : Int) ((76 : Nat) : Int)
      · rw [if_pos ((toG j hj).mpr w), if_pos w]
      · rw [if_neg (fun w2 => w ((toG j hj).mp w2)), if_neg w]
  refine f_allows (w := 76) hf m6 (by rw [o _ _ (by omega), m1]) wi w76 (Or.inl rfl) (fun al => ?_) (fun j hj hjs na al F f1 f2 f3 f4 => ?_)
  · refine ⟨fun w => absurd w (by decide), fun _ => ⟨by omega, ?_⟩⟩
    refine f_layW (a := 4 + i) ri.2 (fun E e1 e2 => ?_)
    have e1' : ∀ b t, b ≠ 76 → ¬ (b = 4 + i ∧ 2 ≤ t ∧ t ≤ 5) → E b t = C b t := fun b t h1 h2 => by rw [e1 b t h2, o b t h1]
    have tl : ∀ f, 2 ≤ f → f ≤ 5 → tb E 4 m i f = D 76 f := fun f h1 h2 => by rw [tb_lt hi, e2 f h1 h2, d2 f h1 h2]
    have g4 : gd (tb E 4 m) m := by
      refine m5.set hi (fun j hj hne f h1 h2 => by rw [tb_lt hj, tb_lt hj, e1' _ _ (by omega) (by omega)]) ?_ ?_ (fun j hj hne => ?_)
      · rw [tl 2 (by omega) (by omega), tl 3 (by omega) (by omega), tl 4 (by omega) (by omega), tl 5 (by omega) (by omega)]
        exact w76.2
      · rw [tl 2 (by omega) (by omega), tl 3 (by omega) (by omega), tl 4 (by omega) (by omega), tl 5 (by omega) (by omega)]
        exact ord76
      · exact (cApK_tr (a := 4 + j) (b := 76) (C := D) (fun f h1 h2 => by rw [tb_lt hj, e1' _ _ (by omega) (by omega), o _ _ (by omega)]) (fun f h1 h2 => tl f h1 h2)).mpr ((apF j hj).mp (al j hj (by omega)))
    refine f_settle hf (by rw [e1' _ _ (by omega) (by omega), m1]) g4 (fun C5 M5 f5 lm5 st5 x11 => ?_)
    have o5 : ∀ b t, b ≠ 76 → ¬ (26 ≤ b ∧ b ≤ 41) → ¬ (60 ≤ b ∧ b ≤ 63) → ¬ (b = 58 ∧ t = 11) → ¬ (b = 4 + i ∧ 2 ≤ t ∧ t ≤ 5) → C5 b t = C b t := fun b t h1 h2 h3 h4 h5 => by rw [f5 b t h2 h3 h4, e1' b t h1 h5]
    refine G C5 _ (by rw [o5 _ _ (by omega) (by omega) (by omega) (by omega) (by omega), m2]) qq (J C5 _ (fun b t hb => o5 b t (by omega) (by omega) (by omega) (by omega) (by omega)) (fun _ E2 h1 h20 h21 h2 => ?_) (fun j hj hne na => absurd ((apF j hj).mp (al j hj (by omega))) na))
    have o100 : okO n ((100 : Nat) : Int) 12 ∧ (∀ v : Int, okI ((100 : Nat) : Int) v ↔ (0 ≤ v ∧ v < 6)) := ⟨(gS hn).2.2.2.2.2.1, fun v => Iff.rfl⟩
    refine g_copies (a := 100) (b := 93 + i) o100 gi'.2 (by omega) (fun F f1 f2 => ⟨rfl, ?_⟩)
    have p : ∀ b t, b ≠ 100 → ¬ (b = 93 + i ∧ t < 6) → F b t = C5 b t := fun b t k1 k2 => by rw [f1 b t k2, h1 b t k1]
    have pp : ∀ b t, b ≠ 76 → b ≠ 100 → ¬ (26 ≤ b ∧ b ≤ 41) → ¬ (60 ≤ b ∧ b ≤ 63) → ¬ (b = 58 ∧ t = 11) → ¬ (b = 4 + i ∧ 2 ≤ t ∧ t ≤ 5) → ¬ (b = 93 + i ∧ t < 6) → F b t = C b t := fun b t k1 k2 k3 k4 k5 k6 k7 => by rw [p b t k2 k7, o5 b t k1 k3 k4 k5 k6]
    have rw4 : ∀ f, F (93 + i) f = F (4 + i) f := fun f => by
      by_cases e6 : f < 6
      · rw [f2 f e6]
        by_cases e7 : 2 ≤ f
        · rw [h2 f e7 (by omega), p _ _ (by omega) (by omega), f5 _ _ (by omega) (by omega) (by omega), e2 f e7 (by omega), d2 f e7 (by omega)]
        · have : f = 0 ∨ f = 1 := by omega
          rcases this with e | e <;> subst e
          · rw [h20, pp _ _ (by omega) (by omega) (by omega) (by omega) (by omega) (by omega) (by omega)]
          · rw [h21, pp _ _ (by omega) (by omega) (by omega) (by omega) (by omega) (by omega) (by omega)]
      · rw [pp _ _ (by omega) (by omega) (by omega) (by omega) (by omega) (by omega) (by omega), pp _ _ (by omega) (by omega) (by omega) (by omega) (by omega) (by omega) (by omega), m3 i hi]
    have et : tb F 4 m = tb C5 4 m := tb_congr (fun i hi f => p _ _ (by omega) (by omega))
    have et2 : tb C5 4 m = tb E 4 m := tb_congr (fun i hi f => f5 _ _ (by omega) (by omega) (by omega))
    refine inv.upS (m := m) (fun b t hb hb2 => ?_) ⟨m6, by rw [pp _ _ (by omega) (by omega) (by omega) (by omega) (by omega) (by omega) (by omega), m1], by rw [pp _ _ (by omega) (by omega) (by omega) (by omega) (by omega) (by omega) (by omega), m2], fun j hj f => ?_, fun j hj => ?_, by rw [et, et2]; exact g4, fun b f k1 k2 => ?_⟩ (i2.congr (fun b t hb => pp b t (by omega) (by omega) (by omega) (by omega) (by omega) (by omega) (by omega))) (i4.congr (fun b t hb => pp b t (by omega) (by omega) (by omega) (by omega) (by omega) (by omega) (by omega))) ⟨M5, by rw [et]; exact lm5.congr (fun b t k1 k2 => p b t (by omega) (by omega)), st5.congr (fun b t k1 k2 => p b t (by omega) (by omega)), Or.inl (by rw [p _ _ (by omega) (by omega), x11]), fun t ht => ?_⟩
    · have k1 := hb.2.2.2.2.2.2.2.2.2.2.1
      have k2 := hb.1
      exact pp b t (by omega) (by omega) (by omega) (by omega) (by omega) (by omega) (by omega)
    · by_cases e : j = i
      · rw [e]
        exact rw4 f
      · rw [pp _ _ (by omega) (by omega) (by omega) (by omega) (by omega) (by omega) (by omega), pp _ _ (by omega) (by omega) (by omega) (by omega) (by omega) (by omega) (by omega)]
        exact m3 j hj f
    · rw [pp _ _ (by omega) (by omega) (by omega) (by omega) (by omega) (by omega) (by omega), pp _ _ (by omega) (by omega) (by omega) (by omega) (by omega) (by omega) (by omega)]
      exact m4 j hj
    · rw [pp _ _ (by omega) (by omega) (by omega) (by omega) (by omega) (by omega) (by omega)]
      exact m7 b f k1 k2
    · rw [pp _ _ (by omega) (by omega) (by omega) (by omega) (by omega) (by omega) (by omega)]
      exact r0 t ht
  · have hji : j ≠ i := fun w => hjs (by rw [w])
    have na' : ¬ cApK D ((4 + j : Nat) : Int) ((76 : Nat) : Int) := fun w => na ((apF j hj).mpr w)
    clear na
    refine ⟨fun _ => f_tell hf (by decide) (fun C1 c1 => ?_), fun w => absurd rfl w⟩
    have c1 : C1 = wr F 82 4 (w32 (F 82 4 + 1)) := c1
    have o1 : ∀ b t, b ≠ 76 → ¬ (b = 71 ∧ t < 3) → ¬ (b = 82 ∧ t = 4) → C1 b t = C b t := fun b t k1 k2 k3 => by rw [c1, wr_ne k3, f1 b t k2, o b t k1]
    refine G C1 _ (by rw [o1 _ _ (by omega) (by omega) (by omega), m2]) qq (J C1 _ (fun b t hb => o1 b t (by omega) (by omega) (by omega)) (fun al2 => absurd (al2 j hj hji) na') (fun j' hj' hne' na2 al2 E h1 h2 h3 h4 => ?_))
    have ei : j' = j := by
      rcases Nat.lt_trichotomy j' j with w | w | w
      · exact absurd ((apF j' hj').mp (al j' w (by omega))) na2
      · exact w
      · exact absurd (al2 j w hji) na'
    subst ei
    have F82 : F 82 4 = C 82 4 := by rw [f1 _ _ (by omega), o _ _ (by omega)]
    refine bothE (x := C 82 4) hn (by decide) (fun B b1 b2 => ?_) ?_
    · have y : ∀ t, t < 3 → B 71 t = F 71 t := fun t ht => by rw [b1 _ _ (by omega), h1 _ _ (by omega) (by omega), c1, wr_ne (by omega)]
      refine inv.up4 (fun b t hb hb2 => ?_) ?_
      · have k1 := hb.2.2.2.2.2.2.2.2.2.2.1
        have k2 := hb.1
        by_cases e82 : b = 82 ∧ t = 4
        · rw [e82.1, e82.2]
          exact b2
        · rw [b1 b t e82, h1 b t (by omega) (by omega), o1 b t (by omega) (by omega) e82]
      · unfold I4
        rw [y 0 (by omega), y 1 (by omega), y 2 (by omega), b1 91 6 (by omega), b1 91 7 (by omega), b1 91 8 (by omega), h2, h3, h4, f2, f3, f4]
        exact ⟨rfl, rfl, rfl, Or.inl rfl⟩
    · rw [h1 _ _ (by omega) (by omega), c1]
      show wr F 82 4 (w32 (F 82 4 + 1)) 82 4 = _
      rw [wr_same, F82]
