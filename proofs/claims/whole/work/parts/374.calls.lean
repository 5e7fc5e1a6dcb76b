/-! my own: ordered, best, cost, within -/
theorem c_ordered {n : Nat} {C : Cn} {v1 v2 : Int} (hn : 320 ≤ n) (inv : Inv C) : P_F_ordered n C 1 v1 v2 (fun r C1 => P_G_ordered n C1 91 v1 v2 (fun r2 C2 => r = r2 ∧ Inv C2)) := by
  have hf : 91 ≤ n := by omega
  have inv' := inv
  obtain ⟨m, i1, -, -, -, -, -, -, -, -, ⟨M, lm, st, -, -⟩⟩ := inv'
  have ok := Inv.ok i1 lm
  have m6 := i1.1
  have e12 := ok.e
  have mm' : mm M = m := lm.1.1
  have f720 := fct_le m (by omega)
  have fp := fct_pos m
  have wF : w32 (9 + (m : Int)) = 9 + (m : Int) := w32_s (by omega)
  have wG : w32 (((fct m : Nat) : Int) - 1) = ((fct m : Nat) : Int) - 1 := w32_s (by omega)
  -- the reference
  have G : ∀ (C1 : Cn) (Q : Int → Cn → Prop), C1 91 0 = (m : Int) → (¬ ((0 ≤ v1 ∧ v1 < (fct m : Int)) ∧ ((0 ≤ v2 ∧ v2 ≤ 1) ∨ (10 ≤ v2 ∧ v2 ≤ 9 + (m : Int)))) → P_G_finds n C1 91 0 Q) → (((0 ≤ v1 ∧ v1 < (fct m : Int)) ∧ ((0 ≤ v2 ∧ v2 ≤ 1) ∨ (10 ≤ v2 ∧ v2 ≤ 9 + (m : Int)))) → J_G_ordered_51 n C1 91 v1 v2 Q) → P_G_ordered n C1 91 v1 v2 Q := by
    intro C1 Q h0 k0 k1
    unfold P_G_ordered
    simp only [gS hn, Int.reduceToNat, true_and, h0]
    refine g_orders hn m6 h0 ?_
    rw [wG, wF]
    clear wG wF
    exact g_in (bI_br (fun q => k0 (by omega)) (fun q => g_in (bI_br (fun q2 => g_in (bI_br (fun q3 => k0 (by omega)) (fun q3 => k1 ⟨by omega, Or.inr q3⟩))) (fun q2 => k1 ⟨by omega, Or.inl q2⟩))))
  have T : ¬ ((0 ≤ v1 ∧ v1 < (fct m : Int)) ∧ ((0 ≤ v2 ∧ v2 ≤ 1) ∨ (10 ≤ v2 ∧ v2 ≤ 9 + (m : Int)))) → P_F_tell n C 1 0 (fun r C1 => P_G_ordered n C1 91 v1 v2 (fun r2 C2 => r = r2 ∧ Inv C2)) := by
    intro q
    refine f_tell hf (by decide) (fun C1 c1 => ?_)
    exact G C1 _ (by rw [why0 c1 _ _ (by omega), i1.2.2.1]) (fun _ => both hn (by decide) inv c1 (fun _ _ _ => rfl)) (fun w => absurd w q)
  have J : ∀ r3 : Int, ((0 ≤ v1 ∧ v1 < (fct m : Int)) ∧ ((0 ≤ v2 ∧ v2 ≤ 1) ∨ (10 ≤ v2 ∧ v2 ≤ 9 + (m : Int)))) → (r3 = 0 ↔ 0 ≤ v2 ∧ v2 ≤ 1) → J_F_ordered_47 n C 1 v1 v2 r3 (fun r C1 => P_G_ordered n C1 91 v1 v2 (fun r2 C2 => r = r2 ∧ Inv C2)) := by
    intro r3 q hr
    clear wF wG
    obtain ⟨num, rfl⟩ : ∃ k : Nat, v1 = (k : Int) := ⟨v1.toNat, by omega⟩
    unfold J_F_ordered_47 J_F_ordered_100
    simp only [fS hf, Int.reduceToNat, true_and]
    refine f_takeOrder (num := num) hf m6 lm.f.1 (by omega) (fun C2 f2 n2 => ⟨fun e => ?_, fun e => ?_⟩)
    · have lm2 : LM C2 26 (tb C 4 m) m M := lm.congr (fun b t h1 h2 => f2 b t (by omega))
      refine f_measure (o := oF m num) hf ok mm' lm2.f (st.congr (fun b t h1 h2 => f2 b t (by omega))) (fun i hi => ⟨n2 i hi, oF_lt hi⟩) (fun C3 f3 x1 x2 => ?_)
      rw [x1, x2]
      have o3 : ∀ b t, IC b t → C3 b t = C b t := fun b t hb => by
        have hb2 := ICb hb
        rw [f3 b t (by have := hb2.2.2.1; omega), f2 b t hb2.2.1]
      refine G C3 _ (by rw [o3 _ _ (IC_0 0).1, i1.2.2.1]) (fun w => absurd q w) (fun _ => ?_)
      have m3 : C3 91 0 = (m : Int) := by rw [o3 _ _ (IC_0 0).1, i1.2.2.1]
      unfold J_G_ordered_51 J_G_ordered_95
      simp only [gS hn, Int.reduceToNat, true_and]
      refine g_laysOrder hn m6 m3 (by omega) (fun C4 f4 n4 => ⟨fun _ => ?_, fun w => absurd w (by have := hr.mp e; omega)⟩)
      have o4 : ∀ b t, IC b t → C4 b t = C b t := fun b t hb => by rw [f4 b t (ICb hb).1, o3 b t hb]
      have io : ∀ b t, (b = 91 ∧ t = 0) ∨ (93 ≤ b ∧ b ≤ 98) → C4 b t = C b t := fun b t hb => o4 b t (by clear hr q G T; unfold IC; omega)
      have et : tb C4 93 m = tb C 4 m := by
        rw [← i1.tbe]
        exact tb_congr (fun i hi f => io _ _ (by omega))
      have gd4 : gd (tb C4 93 m) m := by
        rw [et]
        exact i1.2.2.2.2.2.1
      refine g_maps hn (by rw [io _ _ (by omega), i1.2.2.1]) gd4 (fun C5 M5 f5 gm => ?_)
      rw [et] at gm
      obtain ⟨eM, -⟩ := lm.1.uniq gm.1
      subst eM
      have g5 : gM C5 m M := gm.g (by rw [f5 _ _ (by omega) (by omega), io _ _ (by omega), i1.2.2.1])
      refine g_searches (o := oF m num) hn ok mm' g5 (fun i hi => ⟨by rw [f5 _ _ (by omega) (by omega), n4 i hi], oF_lt hi⟩) (fun a b h1 h2 => oF_inj h1 h2) (fun C6 f6 y1 y2 => ⟨by rw [y1, y2], inv.congr (fun b t hb => ?_)⟩)
      have hb2 := ICb hb
      have hb3 := hb.1
      rw [f6 b t (by have := hb2.2.2.2.1; omega), f5 b t (by omega) (by have := hb2.2.2.2.1; omega), o4 b t hb]
    · have hv : 10 ≤ v2 ∧ v2 ≤ 9 + (m : Int) := by
        rcases q.2 with w | w
        · exact absurd (hr.mpr w) e
        · exact w
      obtain ⟨i, hi⟩ : ∃ i : Nat, v2 = 10 + (i : Int) := ⟨(v2 - 10).toNat, by omega⟩
      have w1 : w32 (v2 - 10) = (i : Int) := by
        rw [w32_s (by omega)]
        omega
      rw [w1, Int.toNat_natCast]
      have hi2 : i < m := by clear w1; omega
      refine ⟨by clear w1; omega, ?_⟩
      have o2 : ∀ b t, IC b t → C2 b t = C b t := fun b t hb => f2 b t (ICb hb).2.1
      have m2 : C2 91 0 = (m : Int) := by rw [o2 _ _ (IC_0 0).1, i1.2.2.1]
      refine G C2 _ m2 (fun w => absurd q w) (fun _ => ?_)
      unfold J_G_ordered_51
      simp only [gS hn, Int.reduceToNat, true_and]
      refine g_laysOrder hn m6 m2 (by clear w1; omega) (fun C4 f4 n4 => ⟨fun w => absurd w (by clear w1; omega), fun _ => ?_⟩)
      rw [w1, Int.toNat_natCast]
      clear w1
      refine ⟨by omega, by rw [n2 i hi2, n4 i hi2], inv.congr (fun b t hb => by rw [f4 b t (ICb hb).1, o2 b t hb])⟩
  unfold P_F_ordered
  simp only [fS hf, Int.reduceToNat, true_and, i1.2.1]
  rw [wF]
  clear wF wG
  refine f_isIn (f_isOrder hf m6 lm.f.1 (bI_br (fun q => T (by omega)) (fun q => bI_br (fun q2 => f_isIn (bI_br (fun q3 => T (by omega)) (fun q3 => J _ ⟨q, Or.inl q3⟩ ?_))) (fun q2 => J _ ⟨q, Or.inr q2⟩ ?_))))
  · rw [bI_f q2]
    exact ⟨fun _ => q3, fun _ => rfl⟩
  · rw [bI_t q2]
    exact ⟨fun w => absurd w (by decide), fun w => absurd w (by omega)⟩
theorem c_best {n : Nat} {C : Cn} (hn : 320 ≤ n) (inv : Inv C) : P_F_best n C 1 (fun r C1 => P_G_best n C1 91 (fun r2 C2 => r = r2 ∧ Inv C2)) := by
  have hf : 91 ≤ n := by omega
  have inv' := inv
  obtain ⟨m, i1, i2, -, i4, -, -, -, -, -, ⟨M, lm, st, ch, r0⟩⟩ := inv'
  have ok := Inv.ok i1 lm
  have m6 := i1.1
  have e12 := ok.e
  have mm' : mm M = m := lm.1.1
  unfold P_F_best
  simp only [fS hf, Int.reduceToNat, true_and]
  refine f_bestOrder hf ok mm' lm.f st r0 ch (fun C2 b f2 hb x11 => ?_)
  have io : ∀ b t, ¬ (b = 58) → b ≠ 59 → b ≠ 64 → b ≠ 65 → ¬ (b = 66 ∧ 49 ≤ t) → C2 b t = C b t := fun b t h1 h2 h3 h4 h5 => f2 b t (by omega) h2 h3 h4 h5
  unfold P_G_best
  simp only [gS hn, Int.reduceToNat, true_and]
  refine g_mapsI hn i1 lm (fun b t hb => io b t (by omega) (by omega) (by omega) (by omega) (by omega)) (fun C3 f3 gm _ _ => ?_)
  have g3 : gM C3 m M := gm.g (by rw [f3 _ _ (IC_0 0).1, io _ _ (by omega) (by omega) (by omega) (by omega) (by omega), i1.2.2.1])
  refine g_tellsAll hn ok mm' g3 (fun C4 f4 tld => ?_)
  have g4 : gM C4 m M := g3.congr e12 (fun b t hb => f4 b t (by omega) (by omega))
  refine g_bestLoop hn ok mm' g4 tld (fun C5 b5 f5 hb5 => ⟨by rw [hb.uniq hb5], ?_⟩)
  have o5 : ∀ b t, IC b t → C5 b t = C2 b t := fun b t hb => by
    have hb2 := ICb hb
    rw [f5 b t (by have := hb2.2.2.2.1; omega) hb2.1, f4 b t (by have := hb2.2.2.2.2.1; omega) (by have := hb2.2.2.2.1; omega), f3 b t hb]
  have p5 : ∀ b t, IC b t → ¬ b = 58 → C5 b t = C b t := fun b t hb h58 => by
    have hb2 := ICb hb
    rw [o5 b t hb, io b t h58 hb2.2.1 hb2.2.2.2.2.2.1 hb2.2.2.2.2.2.2.1 hb2.2.2.2.2.2.2.2]
  have q5 : ∀ b t, (2 ≤ b ∧ b ≤ 17) ∨ (20 ≤ b ∧ b ≤ 25 ∧ 6 ≤ t) ∨ (26 ≤ b ∧ b ≤ 41) ∨ (60 ≤ b ∧ b ≤ 63) ∨ (b = 66 ∧ t < 49) ∨ b = 71 ∨ (b = 91 ∧ (t = 0 ∨ (2 ≤ t ∧ t ≤ 4) ∨ (6 ≤ t ∧ t ≤ 8))) ∨ (93 ≤ b ∧ b ≤ 98) → C5 b t = C b t := fun b t hb => p5 b t (by clear o5 p5 io f2 f3 f4 f5 tld; unfold IC; omega) (by omega)
  have et : tb C5 4 m = tb C 4 m := tb_congr (fun i hi f => q5 _ _ (by omega))
  refine inv.upS (m := m) (fun b t hb hb2 => p5 b t hb (by omega)) (i1.congr (fun b t hb => q5 b t (by omega))) (i2.congr (fun b t hb => q5 b t (by omega))) (i4.congr (fun b t hb => q5 b t (by omega))) ⟨M, ?_, st.congr (fun b t h1 h2 => q5 b t (by omega)), Or.inr ⟨b, hb, ?_⟩, fun t ht => by rw [q5 66 t (by omega)]; exact r0 t ht⟩
  · rw [et]
    exact lm.congr (fun b t h1 h2 => q5 b t (by omega))
  · rw [o5 58 11 (by unfold IC; omega), x11]
