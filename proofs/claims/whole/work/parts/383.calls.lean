/-! my own: segment -/
theorem bothE {n : Nat} {E : Cn} {k x : Int} (hn : 320 ≤ n) (hk : 0 ≤ k ∧ k < 8) (iB : ∀ B : Cn, (∀ b t, ¬ (b = 82 ∧ t = k.toNat) → B b t = E b t) → B 82 k.toNat = x → Inv B) (e82 : E 82 k.toNat = w32 (x + 1)) : P_G_finds n E 91 k (fun r2 C2 => -1000001 - k = r2 ∧ Inv C2) := by
  have i := iB (wr E 82 k.toNat x) (fun b t hb => wr_ne hb) (wr_same _ _ _ _)
  refine both hn hk i rfl (fun b t _ => ?_)
  by_cases e : b = 82 ∧ t = k.toNat
  · rw [e.1, e.2, wr_same, wr_same, e82]
  · rw [wr_ne e, wr_ne e]
theorem gd.add {s s2 : Cn} {m : Nat} (g : gd s m) (m5 : m < 6) (h : ∀ i, i < m → ∀ f, 2 ≤ f → f ≤ 5 → s2 i f = s i f) (h1 : bd (s2 m 2) ∧ bd (s2 m 3) ∧ bd (s2 m 4) ∧ bd (s2 m 5)) (h2 : ky (s2 m 2) (s2 m 3) < ky (s2 m 4) (s2 m 5)) (h3 : ∀ i, i < m → cApK s2 (i : Int) (m : Int)) : gd s2 (m + 1) := by
  have g2 := g.sub (Nat.le_refl _) h
  refine ⟨by omega, fun i hi => ?_, fun i j hi hj hne => ?_⟩
  · by_cases e : i = m
    · subst e
      unfold cB fK lK
      simp only [Int.toNat_natCast]
      exact ⟨h1, h2⟩
    · exact g2.2.1 i (by omega)
  · by_cases e : i = m
    · subst e
      exact cApK_sym.mp (h3 j (by omega))
    · by_cases e2 : j = m
      · subst e2
        exact h3 i (by omega)
      · exact g2.2.2 i j (by omega) (by omega) hne
theorem c_segment {n : Nat} {C : Cn} {v1 v2 v3 v4 v5 : Int} (hn : 320 ≤ n) (inv : Inv C) : P_F_segment n C 1 v1 v2 v3 v4 v5 (fun r C1 => P_G_segment n C1 91 v1 v2 v3 v4 v5 (fun r2 C2 => r = r2 ∧ Inv C2)) := by
  have hf : 91 ≤ n := by omega
  have inv' := inv
  obtain ⟨m, i1, i2, -, i4, -, -, -, -, -, ⟨M, lm, st, ch, r0⟩⟩ := inv'
  obtain ⟨m6, m1, m2, m3, m4, m5, m7⟩ := i1
  -- the reference, up to its inner part
  have G : ∀ (C1 : Cn) (Q : Int → Cn → Prop), (0 ≤ v1 ∧ v1 ≤ 59) ∧ (bd v2 ∧ bd v3) ∧ (bd v4 ∧ bd v5) ∧ ¬ (v2 = v4 ∧ v3 = v5) → J_G_segment_43 n C1 91 v1 v2 v3 v4 v5 Q → P_G_segment n C1 91 v1 v2 v3 v4 v5 Q := by
    intro C1 Q q J
    unfold P_G_segment
    exact g_isKm (bI_br (fun w => absurd q.1 w) (fun _ => g_isPoint (bI_br (fun w => absurd q.2.1 w) (fun _ => g_isPoint (bI_br (fun w => absurd q.2.2.1 w) (fun _ => ⟨fun e1 => ⟨fun e2 => absurd ⟨e1, e2⟩ q.2.2.2, fun _ => J⟩, fun _ => J⟩))))))
  have T : ¬ ((0 ≤ v1 ∧ v1 ≤ 59) ∧ (bd v2 ∧ bd v3) ∧ (bd v4 ∧ bd v5) ∧ ¬ (v2 = v4 ∧ v3 = v5)) → P_F_tell n C 1 0 (fun r C1 => P_G_segment n C1 91 v1 v2 v3 v4 v5 (fun r2 C2 => r = r2 ∧ Inv C2)) := by
    intro q
    refine f_tell hf (by decide) (fun C1 c1 => ?_)
    have B := both hn (by decide) inv c1 (fun _ _ _ => rfl)
    unfold P_G_segment
    simp only [gS hn, true_and]
    exact g_isKm (bI_br (fun _ => B) (fun q1 => g_isPoint (bI_br (fun _ => B) (fun q2 => g_isPoint (bI_br (fun _ => B) (fun q3 => ⟨fun e1 => ⟨fun _ => B, fun e2 => absurd ⟨q1, q2, q3, fun w => e2 w.2⟩ q⟩, fun e1 => absurd ⟨q1, q2, q3, fun w => e1 w.1⟩ q⟩))))))
  unfold P_F_segment
  refine f_isKm (bI_br (fun q => ?_) (fun q => f_areTwo (bI_br (fun q2 => ?_) (fun q2 => ?_))))
  · simp only [fS hf, true_and]
    exact T (fun w => q w.1)
  · simp only [fS hf, true_and]
    exact T (fun w => q2 w.2)
  · clear T
    have qq : (0 ≤ v1 ∧ v1 ≤ 59) ∧ (bd v2 ∧ bd v3) ∧ (bd v4 ∧ bd v5) ∧ ¬ (v2 = v4 ∧ v3 = v5) := ⟨q, q2⟩
    have l := ld_ok q2.1 q2.2.1 q2.2.2
    obtain ⟨k1, k2⟩ := km_div q
    simp only [fS hf, Int.reduceToNat, true_and, m1]
    refine ⟨fun q3 => ?_, fun q3 => f_tell hf (by decide) (fun C1 c1 => ?_)⟩
    · unfold P_Wa_beOf
      simp only [fS hf, Int.reduceToNat, true_and]
      rw [k1, k2]
      clear k1 k2
      intro A1 a1 A2 a2
      refine f_layW (a := 76) (fS hf).2.2.2.2.2.2.2.2.1 (fun D d1 d2 => ?_)
      have o : ∀ b t, b ≠ 76 → D b t = C b t := fun b t hb => by rw [d1 _ _ (by omega), a2, wr_ne (by omega), a1, wr_ne (by omega)]
      have x0 : D 76 0 = v1 / 10 := by rw [d1 _ _ (by omega), a2, wr_ne (by omega), a1, wr_same]
      have x1 : D 76 1 = v1 % 10 := by rw [d1 _ _ (by omega), a2, wr_same]
      clear a1 a2
      have w76 : wb n D ((76 : Nat) : Int) := ⟨(fS hf).2.2.2.2.2.2.2.2.1, by
        show bd (D 76 2) ∧ bd (D 76 3) ∧ bd (D 76 4) ∧ bd (D 76 5)
        rw [d2 2 (by omega) (by omega), d2 3 (by omega) (by omega), d2 4 (by omega) (by omega), d2 5 (by omega) (by omega)]
        exact l.1⟩
      have wi : ∀ i, i < m → wb n D ((4 + i : Nat) : Int) := fun i hi => ⟨(f3R hf (by omega)).2, by
        rw [Int.toNat_natCast, o _ _ (by omega), o _ _ (by omega), o _ _ (by omega), o _ _ (by omega)]
        have := m5.bd4 hi
        rw [tb_lt hi, tb_lt hi, tb_lt hi, tb_lt hi] at this
        exact this⟩
      have ordi : ∀ i, i < m → fK D ((4 + i : Nat) : Int) < lK D ((4 + i : Nat) : Int) := fun i hi => by
        have := (m5.2.1 i hi).2
        unfold fK lK at this ⊢
        simp only [Int.toNat_natCast, tb_lt hi] at this ⊢
        rw [o _ _ (by omega), o _ _ (by omega), o _ _ (by omega), o _ _ (by omega)]
        exact this
      have ord76 : fK D ((76 : Nat) : Int) < lK D ((76 : Nat) : Int) := by
        unfold fK lK
        simp only [Int.toNat_natCast]
        rw [d2 2 (by omega) (by omega), d2 3 (by omega) (by omega), d2 4 (by omega) (by omega), d2 5 (by omega) (by omega)]
        exact l.2
      have apF : ∀ i, i < m → (cAp D ((4 + i : Nat) : Int) ((76 : Nat) : Int) ↔ cApK D ((4 + i : Nat) : Int) ((76 : Nat) : Int)) := fun i hi => cAp_K (wi i hi).2 w76.2 (ordi i hi) ord76
      -- the reference's inner part, at cells that agree
      have J : ∀ (C1 : Cn) (Q : Int → Cn → Prop), (∀ b t, b = 91 ∨ (93 ≤ b ∧ b ≤ 98) → C1 b t = C b t) →
          ((∀ i, i < m → cApK D ((4 + i : Nat) : Int) ((76 : Nat) : Int)) → ∀ E : Cn, (∀ b t, b ≠ 100 → E b t = C1 b t) → (∀ f, f < 6 → E 100 f = D 76 f) → P_G_copies n E 100 (PT 92 m) (fun _ C45 => ∀ C49 : Cn, C49 = wr C45 91 0 (w32 (C45 91 0 + 1)) → Q (w32 (C49 91 0 - 1)) C49)) →
          (∀ i, i < m → ¬ cApK D ((4 + i : Nat) : Int) ((76 : Nat) : Int) → (∀ j, j < i → cApK D ((4 + j : Nat) : Int) ((76 : Nat) : Int)) → ∀ E : Cn, (∀ b t, b ≠ 100 → ¬ (b = 91 ∧ 6 ≤ t ∧ t ≤ 8) → E b t = C1 b t) → E 91 6 = (if cTo D ((4 + i : Nat) : Int) ((76 : Nat) : Int) then 1 else 2) → E 91 7 = (i : Int) → E 91 8 = 0 → P_G_finds n E 91 4 Q) → J_G_segment_43 n C1 91 v1 v2 v3 v4 v5 Q := by
        intro C1 Q oc hA hB
        unfold J_G_segment_43
        have cm : C1 91 0 = (m : Int) := by rw [oc _ _ (by omega), m2]
        simp only [gS hn, Int.reduceToNat, true_and, cm]
        refine ⟨fun w => absurd w (by omega), fun _ => ?_⟩
        have o100 : okO n ((100 : Nat) : Int) 12 ∧ (∀ v : Int, okI ((100 : Nat) : Int) v ↔ (0 ≤ v ∧ v < 6)) := ⟨(gS hn).2.2.2.2.2.1, fun v => Iff.rfl⟩
        refine g_lays (a := 100) o100 q (fun E e1 e3 e4 e2 => ?_)
        have em : E 91 0 = (m : Int) := by rw [e1 _ _ (by omega), cm]
        have er : ∀ i, i < m → ∀ f, E (93 + i) f = D (4 + i) f := fun i hi f => by rw [e1 _ _ (by omega), oc _ _ (by omega), o _ _ (by omega), m3 i hi f]
        have e76 : ∀ f, 2 ≤ f → f ≤ 5 → E 100 f = D 76 f := fun f h1 h2 => by rw [e2 f h1 h2, d2 f h1 h2]
        have g100 : gb n E ((100 : Nat) : Int) := ⟨⟨o100.1, rfl⟩, by
          rw [Int.toNat_natCast, e76 2 (by omega) (by omega), e76 3 (by omega) (by omega), e76 4 (by omega) (by omega), e76 5 (by omega) (by omega)]
          exact w76.2⟩
        have gi : ∀ i, i < m → gb n E ((93 + i : Nat) : Int) := fun i hi => ⟨⟨(gR92 hn (by omega)).2.1, by rw [Int.toNat_natCast, (lay92 i (by omega)).1]⟩, by
          rw [Int.toNat_natCast, er i hi, er i hi, er i hi, er i hi]
          have := (wi i hi).2
          rw [Int.toNat_natCast] at this
          exact this⟩
        have apG : ∀ i, i < m → (cAg E ((100 : Nat) : Int) ((93 + i : Nat) : Int) ↔ cApK D ((4 + i : Nat) : Int) ((76 : Nat) : Int)) := fun i hi => by
          have t1 : fK E ((100 : Nat) : Int) < lK E ((100 : Nat) : Int) := by
            unfold fK lK
            simp only [Int.toNat_natCast]
            rw [e2 2 (by omega) (by omega), e2 3 (by omega) (by omega), e2 4 (by omega) (by omega), e2 5 (by omega) (by omega)]
            exact l.2
          have t2 : fK E ((93 + i : Nat) : Int) < lK E ((93 + i : Nat) : Int) := by
            have := ordi i hi
            unfold fK lK at this ⊢
            simp only [Int.toNat_natCast] at this ⊢
            rw [er i hi, er i hi, er i hi, er i hi]
            exact this
          rw [cAg_K g100.2 (gi i hi).2 t1 t2, cApK_sym]
          exact cApK_tr (fun f _ _ => er i hi f) e76
        have toG : ∀ i, i < m → (cTo E ((93 + i : Nat) : Int) ((100 : Nat) : Int) ↔ cTo D ((4 + i : Nat) : Int) ((76 : Nat) : Int)) := fun i hi => cTo_tr (fun f _ _ => er i hi f) e76
        refine g_stands (w := 100) hn m6 em gi g100 (Or.inl rfl) (fun al => ?_) (fun i hi _ na al F f1 f2 f3 f4 => ?_)
        · refine ⟨fun w => absurd w (by decide), fun _ => ?_⟩
          rw [em, Int.toNat_natCast]
          refine ⟨by omega, hA (fun i hi => (apG i hi).mp (al i hi (by omega))) E (fun b t hb => e1 b t (by omega)) (fun f hf6 => ?_)⟩
          by_cases ef : 2 ≤ f
          · exact e76 f ef (by omega)
          · have : f = 0 ∨ f = 1 := by omega
            rcases this with ef | ef <;> subst ef
            · rw [e3, x0]
            · rw [e4, x1]
        · refine ⟨fun _ => ?_, fun w => absurd rfl w⟩
          refine hB i hi (fun w => na ((apG i hi).mpr w)) (fun j hj => (apG j (by omega)).mp (al j hj (by omega))) F (fun b t h1 h2 => by rw [f1 b t h2, e1 b t (by omega)]) ?_ f3 f4
          rw [f2]
          by_cases w : cTo D ((4 + i : Nat) : Int) ((76 : Nat) : Int)
          · rw [if_pos ((toG i hi).mpr w), if_pos w]
          · rw [if_neg (fun w2 => w ((toG i hi).mp w2)), if_neg w]
      have na7 : okO n ((76 : Nat) : Int) 7 := (fS hf).2.2.2.2.2.2.2.2.1
      refine f_allows (w := 76) hf m6 (by rw [o _ _ (by omega), m1]) wi w76 (Or.inl rfl) (fun al => ?_) (fun i hi _ na al F f1 f2 f3 f4 => ?_)
      · refine ⟨fun w => absurd w (by decide), fun _ => ?_⟩
        have m5' : m < 6 := by omega
        refine f_add (e := 2) (b := 76) (p := m) hf (Or.inl rfl) m5' (by rw [o _ _ (by omega), m1]) na7 (by omega) (by omega) (fun E e1 e2 e3 => ?_)
        have e3' : ∀ f, f < 6 → E (4 + m) f = D 76 f := fun f h6 => by
          have := e3 f h6
          rw [(by omega : 2 + 2 + m = 4 + m)] at this
          exact this
        have e1' : ∀ b t, ¬ (b = 4 + m ∧ t < 6) → ¬ (b = 2 ∧ t = 1) → E b t = D b t := fun b t h1 h2 => e1 b t (by omega) h2
        have tl : ∀ f, f < 6 → tb E 4 (m + 1) m f = D 76 f := fun f h6 => by rw [tb_lt (by omega), e3' f h6]
        have g4 : gd (tb E 4 (m + 1)) (m + 1) := by
          refine m5.add m5' (fun i hi f h1 h2 => by rw [tb_lt (by omega), tb_lt hi, e1' _ _ (by omega) (by omega), o _ _ (by omega)]) ?_ ?_ (fun i hi => ?_)
          · rw [tl 2 (by omega), tl 3 (by omega), tl 4 (by omega), tl 5 (by omega)]
            exact w76.2
          · rw [tl 2 (by omega), tl 3 (by omega), tl 4 (by omega), tl 5 (by omega)]
            exact ord76
          · exact (cApK_tr (a := 4 + i) (b := 76) (C := D) (fun f h1 h2 => by rw [tb_lt (by omega), e1' _ _ (by omega) (by omega)]) (fun f h1 h2 => tl f (by omega))).mpr ((apF i hi).mp (al i hi (by omega)))
        refine f_settle hf e2 g4 (fun C5 M5 f5 lm5 st5 x11 => ?_)
        have c50 : C5 2 1 = ((m + 1 : Nat) : Int) := by rw [f5 _ _ (by omega) (by omega) (by omega), e2]
        have o5 : ∀ b t, b ≠ 76 → ¬ (26 ≤ b ∧ b ≤ 41) → ¬ (60 ≤ b ∧ b ≤ 63) → ¬ (b = 58 ∧ t = 11) → ¬ (b = 4 + m ∧ t < 6) → ¬ (b = 2 ∧ t = 1) → C5 b t = C b t := fun b t h1 h2 h3 h4 h5 h6 => by rw [f5 b t h2 h3 h4, e1' b t h5 h6, o b t h1]
        rw [c50]
        refine G C5 _ qq (J C5 _ (fun b t hb => o5 b t (by omega) (by omega) (by omega) (by omega) (by omega) (by omega)) (fun _ E2 h1 h2 => ?_) (fun i hi na => absurd ((apF i hi).mp (al i hi (by omega))) na))
        have gm := gR92 hn m5'
        rw [gm.1]
        have o100 : okO n ((100 : Nat) : Int) 12 ∧ (∀ v : Int, okI ((100 : Nat) : Int) v ↔ (0 ≤ v ∧ v < 6)) := ⟨(gS hn).2.2.2.2.2.1, fun v => Iff.rfl⟩
        refine g_copies (a := 100) (b := 93 + m) o100 gm.2 (by omega) (fun F f1 f2 => ?_)
        intro C49 c49
        have fm : F 91 0 = (m : Int) := by rw [f1 _ _ (by omega), h1 _ _ (by omega), o5 _ _ (by omega) (by omega) (by omega) (by omega) (by omega) (by omega), m2]
        rw [fm, w32_n (by omega)] at c49
        have y0 : C49 91 0 = ((m + 1 : Nat) : Int) := by rw [c49, wr_same]
        have p : ∀ b t, b ≠ 100 → ¬ (b = 93 + m ∧ t < 6) → ¬ (b = 91 ∧ t = 0) → C49 b t = C5 b t := fun b t k1 k2 k3 => by rw [c49, wr_ne k3, f1 b t k2, h1 b t k1]
        have pr : ∀ f, f < 6 → C49 (93 + m) f = D 76 f := fun f h6 => by rw [c49, wr_ne (by omega), f2 f h6, h2 f h6]
        have pw : ∀ f, f < 6 → C49 (4 + m) f = D 76 f := fun f h6 => by rw [p _ _ (by omega) (by omega) (by omega), f5 _ _ (by omega) (by omega) (by omega), e3' f h6]
        have pp : ∀ b t, b ≠ 76 → b ≠ 100 → ¬ (26 ≤ b ∧ b ≤ 41) → ¬ (60 ≤ b ∧ b ≤ 63) → ¬ (b = 58 ∧ t = 11) → ¬ ((b = 4 + m ∨ b = 93 + m) ∧ t < 6) → ¬ (b = 2 ∧ t = 1) → ¬ (b = 91 ∧ t = 0) → C49 b t = C b t := fun b t k1 k2 k3 k4 k5 k6 k7 k8 => by rw [p b t k2 (by omega) k8, o5 b t k1 k3 k4 k5 (by omega) k7]
        have et : tb C49 4 (m + 1) = tb C5 4 (m + 1) := tb_congr (fun i hi f => p _ _ (by omega) (by omega) (by omega))
        have et2 : tb C5 4 (m + 1) = tb E 4 (m + 1) := tb_congr (fun i hi f => f5 _ _ (by omega) (by omega) (by omega))
        have xz : ∀ b f, 6 ≤ f → (4 ≤ b ∧ b ≤ 9) ∨ (20 ≤ b ∧ b ≤ 25) ∨ (93 ≤ b ∧ b ≤ 98) → C49 b f = 0 := fun b f k1 k2 => by
          rw [pp b f (by omega) (by omega) (by omega) (by omega) (by omega) (by omega) (by omega) (by omega)]
          exact m7 b f k1 k2
        refine ⟨by rw [y0], inv.upS (m := m + 1) (fun b t hb hb2 => ?_) ⟨by omega, by rw [p _ _ (by omega) (by omega) (by omega), c50], y0, fun i hi f => ?_, fun i hi => ?_, by rw [et, et2]; exact g4, xz⟩ (i2.congr (fun b t hb => pp b t (by omega) (by omega) (by omega) (by omega) (by omega) (by omega) (by omega) (by omega))) (i4.congr (fun b t hb => pp b t (by omega) (by omega) (by omega) (by omega) (by omega) (by omega) (by omega) (by omega))) ⟨M5, by rw [et]; exact lm5.congr (fun b t k1 k2 => p b t (by omega) (by omega) (by omega)), st5.congr (fun b t k1 k2 => p b t (by omega) (by omega) (by omega)), Or.inl (by rw [p _ _ (by omega) (by omega) (by omega), x11]), fun t ht => ?_⟩⟩
        · have k1 := hb.2.2.2.2.2.2.2.2.2.2.1
          have k2 := hb.1
          exact pp b t (by omega) (by omega) (by omega) (by omega) (by omega) (by omega) (by omega) (by omega)
        · by_cases e : i = m
          · rw [e]
            by_cases e6 : f < 6
            · rw [pr f e6, pw f e6]
            · rw [xz _ _ (by omega) (by omega), xz _ _ (by omega) (by omega)]
          · rw [pp _ _ (by omega) (by omega) (by omega) (by omega) (by omega) (by omega) (by omega) (by omega), pp _ _ (by omega) (by omega) (by omega) (by omega) (by omega) (by omega) (by omega) (by omega)]
            exact m3 i (by omega) f
        · by_cases e : i = m
          · rw [e, pw 0 (by omega), pw 1 (by omega), x0, x1]
            omega
          · rw [pp _ _ (by omega) (by omega) (by omega) (by omega) (by omega) (by omega) (by omega) (by omega), pp _ _ (by omega) (by omega) (by omega) (by omega) (by omega) (by omega) (by omega) (by omega)]
            exact m4 i (by omega)
        · rw [pp _ _ (by omega) (by omega) (by omega) (by omega) (by omega) (by omega) (by omega) (by omega)]
          exact r0 t ht
      · refine ⟨fun _ => f_tell hf (by decide) (fun C1 c1 => ?_), fun w => absurd rfl w⟩
        have c1 : C1 = wr F 82 4 (w32 (F 82 4 + 1)) := c1
        have o1 : ∀ b t, b ≠ 76 → ¬ (b = 71 ∧ t < 3) → ¬ (b = 82 ∧ t = 4) → C1 b t = C b t := fun b t k1 k2 k3 => by rw [c1, wr_ne k3, f1 b t k2, o b t k1]
        have na' : ¬ cApK D ((4 + i : Nat) : Int) ((76 : Nat) : Int) := fun w => na ((apF i hi).mpr w)
        refine G C1 _ qq (J C1 _ (fun b t hb => o1 b t (by omega) (by omega) (by omega)) (fun al2 => absurd (al2 i hi) na') (fun i' hi' na2 al2 E h1 h2 h3 h4 => ?_))
        have ei : i' = i := by
          rcases Nat.lt_trichotomy i' i with w | w | w
          · exact absurd ((apF i' hi').mp (al i' w (by omega))) na2
          · exact w
          · exact absurd (al2 i w) na'
        subst ei
        have F82 : F 82 4 = C 82 4 := by rw [f1 _ _ (by omega), o _ _ (by omega)]
        refine bothE (x := C 82 4) hn (by decide) (fun B b1 b2 => ?_) ?_
        · have y : ∀ t, t < 3 → B 71 t = F 71 t := fun t ht => by rw [b1 _ _ (by omega), h1 _ _ (by omega) (by omega), c1, wr_ne (by omega)]
          refine inv.up4 (fun b t hb hb2 => ?_) ?_
          · have k1 := hb.2.2.2.2.2.2.2.2.2.2.1
            have k2 := hb.1
            by_cases e82 : b = 82 ∧ t = 4
            · rw [e82.1, e82.2]
              exact b2
            · rw [b1 b t e82, h1 b t (by omega) (by omega), o1 b t (by omega) (by omega) e82]
          · unfold I4
            rw [y 0 (by omega), y 1 (by omega), y 2 (by omega), b1 91 6 (by omega), b1 91 7 (by omega), b1 91 8 (by omega), h2, h3, h4, f2, f3, f4]
            exact ⟨rfl, rfl, rfl, Or.inl rfl⟩
        · rw [h1 _ _ (by omega) (by omega), c1]
          show wr F 82 4 (w32 (F 82 4 + 1)) 82 4 = _
          rw [wr_same, F82]
    · have e6 : C1 91 0 = (m : Int) := by rw [why0 c1 _ _ (by omega), m2]
      refine G C1 _ qq ?_
      unfold J_G_segment_43
      simp only [gS hn, Int.reduceToNat, true_and, e6]
      exact ⟨fun _ => both hn (by decide) inv c1 (fun _ _ _ => rfl), fun w => absurd w (by omega)⟩
