/-! my own: text, done -/
theorem c_text {n : Nat} {C : Cn} (hn : 320 ≤ n) (inv : Inv C) : P_F_text n C 1 (fun r C1 => P_G_text n C1 91 (fun r2 C2 n2 => r = r2 ∧ Inv C2 ∧ n ≤ n2)) := by
  have hf : 91 ≤ n := by omega
  have inv' := inv
  obtain ⟨m, i1, i2, -, i4, -, i6, -, -, -, ⟨M, lm, st, ch, r0⟩⟩ := inv'
  obtain ⟨L, l120, t1, t2, tp⟩ := i6
  have i1' := i1
  obtain ⟨m6, m1, m2, m3, m4, m5, m7⟩ := i1'
  have tc : TC C (C 302) L := ⟨l120, t1, tp⟩
  have g0 : GD C m := ⟨m1, m6, m5, m4, i2.2.1⟩
  have re0 : ∀ C1 : Cn, (∀ b t, 91 ≤ b → C1 b t = C b t) → relE C m C1 := fun C1 o => ⟨by rw [o _ _ (by omega), m2], by rw [o _ _ (by omega), i2.1], fun i hi f hf => by rw [o _ _ (by omega), m3 i hi f], fun t ht => by
    have : t = 0 ∨ t = 1 ∨ t = 2 := by omega
    rcases this with rfl | rfl | rfl
    · rw [o _ _ (by omega)]
      exact i4.1
    · rw [o _ _ (by omega)]
      exact i4.2.1
    · rw [o _ _ (by omega)]
      exact i4.2.2.1⟩
  have tg0 : ∀ C1 : Cn, (∀ b t, 91 ≤ b → C1 b t = C b t) → TG C1 (C 302) L := fun C1 o => ⟨l120, by rw [o _ _ (by omega), t2], fun t ht => ⟨(tp t ht).1, by rw [o _ _ (by omega)]⟩⟩
  -- the tape is empty
  have invT : Inv (wr (wr C 72 1 0) 91 38 0) := by
    refine inv.up6 (fun b t hb hb2 => by rw [wr_ne (by omega), wr_ne (by omega)]) ⟨0, by omega, by rw [wr_ne (by omega), wr_same]; rfl, by rw [wr_same]; rfl, fun t ht => absurd ht (Nat.not_lt_zero t)⟩
  -- the end with a fault, on both sides
  have FIN : ∀ (C2 C10 C16 C17 F : Cn), frI C C2 → (∀ j, j < m → ∀ f, f < 6 → C2 (4 + j) f = C (4 + j) f) → (C2 71 2 = 0 ∨ C2 71 2 = 1) → C10 = wr C2 72 1 0 → C16 = wr C10 2 1 (m : Int) → C17 = wr C16 2 2 (C 2 2) → (∀ b t, b < 320 → ¬ (100 ≤ b ∧ b ≤ 281) → ¬ (b = 91 ∧ ((6 ≤ t ∧ t ≤ 8) ∨ t = 34 ∨ (38 ≤ t ∧ t ≤ 43))) → F b t = C17 b t) → F 91 38 = 0 → (∀ t, t < 3 → F 91 (6 + t) = C2 71 t) → Inv F := by
    intro C2 C10 C16 C17 F fr rows b71 c10 c16 c17 f1 f38 f6
    have o17 : ∀ b t, ¬ (b = 72 ∧ t = 1) → ¬ (b = 2 ∧ (t = 1 ∨ t = 2)) → C17 b t = C2 b t := fun b t h1 h2 => by rw [c17, wr_ne (by omega), c16, wr_ne (by omega), c10, wr_ne h1]
    have x21 : C17 2 1 = (m : Int) := by rw [c17, wr_ne (by omega), c16, wr_same]
    have x22 : C17 2 2 = C 2 2 := by rw [c17, wr_same]
    have x72 : C17 72 1 = 0 := by rw [c17, wr_ne (by omega), c16, wr_ne (by omega), c10, wr_same]
    clear c10 c16 c17
    have low : ∀ b t, b < 320 → ¬ (100 ≤ b ∧ b ≤ 281) → ¬ (b = 91 ∧ ((6 ≤ t ∧ t ≤ 8) ∨ t = 34 ∨ (38 ≤ t ∧ t ≤ 43))) → ¬ (b = 72 ∧ 1 ≤ t ∧ t ≤ 6) → ¬ (b = 2 ∧ (t = 1 ∨ t = 2)) → ¬ (b = 74 ∧ t < 6) → b ≠ 75 → ¬ (4 ≤ b ∧ b ≤ 9 ∧ t < 6) → ¬ (b = 71 ∧ t < 3) → F b t = C b t := fun b t h1 h2 h3 h4 h5 h6 h7 h8 h9 => by rw [f1 b t h1 h2 h3, o17 b t (by omega) h5, fr b t (by omega) h6 h7 (by omega) h8 h9]
    have y21 : F 2 1 = (m : Int) := by rw [f1 _ _ (by omega) (by omega) (by omega), x21]
    have y22 : F 2 2 = C 2 2 := by rw [f1 _ _ (by omega) (by omega) (by omega), x22]
    have y72 : F 72 1 = 0 := by rw [f1 _ _ (by omega) (by omega) (by omega), x72]
    have y71 : ∀ t, t < 3 → F 71 t = C2 71 t := fun t ht => by rw [f1 _ _ (by omega) (by omega) (by omega), o17 _ _ (by omega) (by omega)]
    have yr : ∀ j, j < m → ∀ f, f < 6 → F (4 + j) f = C (4 + j) f := fun j hj f hf => by rw [f1 _ _ (by omega) (by omega) (by omega), o17 _ _ (by omega) (by omega), rows j hj f hf]
    have yz : ∀ b f, 6 ≤ f → (4 ≤ b ∧ b ≤ 9) ∨ (20 ≤ b ∧ b ≤ 25) ∨ (93 ≤ b ∧ b ≤ 98) → F b f = 0 := fun b f h1 h2 => by
      rw [low b f (by omega) (by omega) (by omega) (by omega) (by omega) (by omega) (by omega) (by omega) (by omega)]
      exact m7 b f h1 h2
    have et : tb F 4 m = tb C 4 m := by
      funext r f
      unfold tb
      by_cases hr : r < m
      · rw [if_pos hr, if_pos hr]
        by_cases h6 : f < 6
        · exact yr r hr f h6
        · rw [yz _ _ (by omega) (by omega), m7 _ _ (by omega) (by omega)]
      · rw [if_neg hr, if_neg hr]
    clear f1 o17
    -- over all cells
    have hD : ∃ D : Cn, (∀ b t, b < 320 → D b t = F b t) ∧ ∀ b t, 320 ≤ b → D b t = C b t := ⟨fun b t => if b < 320 then F b t else C b t, fun b t h => if_pos h, fun b t h => if_neg (by omega)⟩
    obtain ⟨D, dl, dh⟩ := hD
    have etD : tb D 4 m = tb C 4 m := by
      rw [← et]
      exact tb_congr (fun i hi f => dl _ _ (by omega))
    have invD : Inv D := by
      refine invT.upS (m := m) (fun b t hb hb2 => ?_) ⟨m6, by rw [dl _ _ (by omega), y21], ?_, fun i hi f => ?_, fun i hi => ?_, by rw [etD]; exact m5, fun b f h1 h2 => by rw [dl _ _ (by omega)]; exact yz b f h1 h2⟩ ?_ ?_ ⟨M, ?_, st.congr (fun b t h1 h2 => ?_), ?_, fun t ht => ?_⟩
      · by_cases h320 : b < 320
        · rw [dl b t h320]
          by_cases ea : b = 72 ∧ t = 1
          · rw [ea.1, ea.2, y72, wr_ne (by omega), wr_same]
          · by_cases eb : b = 91 ∧ t = 38
            · rw [eb.1, eb.2, f38, wr_same]
            · rw [wr_ne eb, wr_ne ea]
              obtain ⟨q1, q2, -, -, q5, -, -, -, -, -, q11, -⟩ := hb
              exact low b t h320 (by omega) (by omega) (by omega) (by omega) (by omega) (by omega) (by omega) (by omega)
        · rw [dh b t (by omega), wr_ne (by omega), wr_ne (by omega)]
      · rw [dl _ _ (by omega), low _ _ (by omega) (by omega) (by omega) (by omega) (by omega) (by omega) (by omega) (by omega) (by omega), m2]
      · rw [dl _ _ (by omega), dl _ _ (by omega), low (93 + i) f (by omega) (by omega) (by omega) (by omega) (by omega) (by omega) (by omega) (by omega) (by omega), m3 i hi f]
        by_cases h6 : f < 6
        · rw [yr i hi f h6]
        · rw [yz _ _ (by omega) (by omega), m7 _ _ (by omega) (by omega)]
      · rw [dl _ _ (by omega), dl _ _ (by omega), yr i hi 0 (by omega), yr i hi 1 (by omega)]
        exact m4 i hi
      · unfold I2
        rw [dl 91 2 (by omega), dl 91 3 (by omega), dl 91 4 (by omega), dl 2 2 (by omega), dl 2 3 (by omega), dl 2 4 (by omega), y22]
        rw [low 91 2 (by omega) (by omega) (by omega) (by omega) (by omega) (by omega) (by omega) (by omega) (by omega), low 91 3 (by omega) (by omega) (by omega) (by omega) (by omega) (by omega) (by omega) (by omega) (by omega), low 91 4 (by omega) (by omega) (by omega) (by omega) (by omega) (by omega) (by omega) (by omega) (by omega), low 2 3 (by omega) (by omega) (by omega) (by omega) (by omega) (by omega) (by omega) (by omega) (by omega), low 2 4 (by omega) (by omega) (by omega) (by omega) (by omega) (by omega) (by omega) (by omega) (by omega)]
        exact i2
      · unfold I4
        have e6 := f6 0 (by omega)
        have e7 := f6 1 (by omega)
        have e8 := f6 2 (by omega)
        rw [dl 91 6 (by omega), dl 91 7 (by omega), dl 91 8 (by omega), dl 71 0 (by omega), dl 71 1 (by omega), dl 71 2 (by omega), y71 0 (by omega), y71 1 (by omega), y71 2 (by omega)]
        exact ⟨e6, e7, e8, b71⟩
      · rw [etD]
        exact lm.congr (fun b t h1 h2 => by rw [dl b t (by omega), low b t (by omega) (by omega) (by omega) (by omega) (by omega) (by omega) (by omega) (by omega) (by omega)])
      · rw [dl b t (by omega), low b t (by omega) (by omega) (by omega) (by omega) (by omega) (by omega) (by omega) (by omega) (by omega)]
      · rw [dl _ _ (by omega), low _ _ (by omega) (by omega) (by omega) (by omega) (by omega) (by omega) (by omega) (by omega) (by omega)]
        exact ch
      · rw [dl _ _ (by omega), low _ _ (by omega) (by omega) (by omega) (by omega) (by omega) (by omega) (by omega) (by omega) (by omega)]
        exact r0 t ht
    exact invD.low (fun b t h1 _ => (dl b t h1).symm)
  unfold P_F_text
  simp only [fS hf, Int.reduceToNat, true_and]
  intro v1 hv1 v2 hv2
  rw [m1] at hv1
  rw [hv1, hv2]
  clear hv1 hv2 v1 v2
  have o91 : ∀ (C2 C10 C16 C17 : Cn), frI C C2 → C10 = wr C2 72 1 0 → C16 = wr C10 2 1 (m : Int) → C17 = wr C16 2 2 (C 2 2) → ∀ b t, 91 ≤ b → C17 b t = C b t := fun C2 C10 C16 C17 fr c10 c16 c17 b t hb => by rw [c17, wr_ne (by omega), c16, wr_ne (by omega), c10, wr_ne (by omega), fr b t (by omega) (by omega) (by omega) (by omega) (by omega) (by omega)]
  refine f_items hf tc g0 (fun J f H K P Z C2 cn fL iF fr rows => ?_) (fun J z k2 H K P Z C2 cn zL iR kz gk mk fr => ?_) (fun J z k2 H K P Z C2 cn zL iR kz kz3 gk mk fr rows => ?_)
  · -- an item can't be read
    have b71 : C2 71 2 = 0 ∨ C2 71 2 = 1 := by
      have hb := cn.b J (Nat.le_refl _) 2 (by omega)
      obtain ⟨-, iF⟩ := iF
      rcases iF with ⟨-, -, a3⟩ | ⟨q, y, -, -, -, -, -, -, ⟨-, s2⟩ | ⟨-, i, -, -, -, -, -, x2⟩⟩
      · rw [a3 2 (by omega), hb]
        exact i4.2.2.2
      · rw [s2 2 (by omega), hb]
        exact i4.2.2.2
      · exact Or.inr x2
    intro C10 c10
    refine ⟨fun w => absurd w (by omega), fun _ C16 c16 C17 c17 => ?_⟩
    have o := o91 C2 C10 C16 C17 fr c10 c16 c17
    refine g_text hn g0 (re0 C17 o) (tg0 C17 o) cn C2 (Or.inl ⟨f, fL, iF, fun F n2 h1 h2 h3 h4 => ⟨rfl, ?_, h1⟩⟩)
    exact FIN C2 C10 C16 C17 F fr rows b71 c10 c16 c17 h2 h3 h4
  · -- all have been read
    have b71 : ∀ t, t < 3 → C2 71 t = C 71 t := fun t ht => by
      rw [← cn.b J (Nat.le_refl _) t ht]
      rcases iR with ⟨-, -, -, -, -, -, x⟩ | ⟨q, y, -, -, -, -, -, -, -, -, -, -, -, -, x⟩
      · exact x t ht
      · exact x t ht
    intro C10 c10
    refine ⟨fun _ => ?_, fun w => absurd (by omega) w⟩
    obtain ⟨k21, k26, kgd, kkm, ktd⟩ := gk
    have gk : GD C2 k2 := ⟨k21, k26, kgd, kkm, ktd⟩
    have o10 : ∀ b t, ¬ (b = 72 ∧ t = 1) → C10 b t = C2 b t := fun b t hb => by rw [c10, wr_ne hb]
    have et10 : tb C10 4 k2 = tb C2 4 k2 := tb_congr (fun i hi f => o10 _ _ (by omega))
    refine f_settle hf (by rw [o10 _ _ (by omega), k21]) (by rw [et10]; exact kgd) (fun C5 M5 f5 lm5 st5 x11 => ?_)
    have o : ∀ b t, 91 ≤ b → C5 b t = C b t := fun b t hb => by rw [f5 b t (by omega) (by omega) (by omega), o10 b t (by omega), fr b t (by omega) (by omega) (by omega) (by omega) (by omega) (by omega)]
    refine g_text hn g0 (re0 C5 o) (tg0 C5 o) cn C2 (Or.inr ⟨z, k2, zL, iR, gk, by omega, fun _ F n2 h1 h2 h3 h4 => ⟨rfl, ?_, h1⟩, fun w => absurd kz w⟩)
    obtain ⟨e0, e2, er, eb⟩ := h4
    have low : ∀ b t, b < 320 → ¬ (100 ≤ b ∧ b ≤ 281) → ¬ (b = 91 ∧ (t = 0 ∨ t = 2 ∨ (6 ≤ t ∧ t ≤ 8) ∨ t = 34 ∨ (38 ≤ t ∧ t ≤ 43))) → ¬ (93 ≤ b ∧ b ≤ 98 ∧ t < 6) → ¬ (26 ≤ b ∧ b ≤ 41) → ¬ (60 ≤ b ∧ b ≤ 63) → ¬ (b = 58 ∧ t = 11) → ¬ (b = 72 ∧ t = 1) → F b t = C2 b t := fun b t g1 g2 g3 g4 g5 g6 g7 g8 => by rw [h2 b t g1 g2 g3 g4, f5 b t g5 g6 g7, o10 b t g8]
    have lowC : ∀ b t, b < 320 → ¬ (100 ≤ b ∧ b ≤ 281) → ¬ (b = 91 ∧ (t = 0 ∨ t = 2 ∨ (6 ≤ t ∧ t ≤ 8) ∨ t = 34 ∨ (38 ≤ t ∧ t ≤ 43))) → ¬ (93 ≤ b ∧ b ≤ 98 ∧ t < 6) → ¬ (26 ≤ b ∧ b ≤ 41) → ¬ (60 ≤ b ∧ b ≤ 63) → ¬ (b = 58 ∧ t = 11) → ¬ (b = 72 ∧ 1 ≤ t ∧ t ≤ 6) → ¬ (b = 2 ∧ (t = 1 ∨ t = 2)) → ¬ (b = 74 ∧ t < 6) → b ≠ 75 → ¬ (4 ≤ b ∧ b ≤ 9 ∧ t < 6) → ¬ (b = 71 ∧ t < 3) → F b t = C b t := fun b t g1 g2 g3 g4 g5 g6 g7 g8 g9 g10 g11 g12 g13 => by rw [low b t g1 g2 g3 g4 g5 g6 g7 (by omega), fr b t (by omega) g10 g11 g9 g12 g13]
    have y72 : F 72 1 = 0 := by rw [h2 _ _ (by omega) (by omega) (by omega) (by omega), f5 _ _ (by omega) (by omega) (by omega), c10, wr_same]
    have y21 : F 2 1 = (k2 : Int) := by rw [low _ _ (by omega) (by omega) (by omega) (by omega) (by omega) (by omega) (by omega) (by omega), k21]
    have y22 : F 2 2 = C2 2 2 := by rw [low _ _ (by omega) (by omega) (by omega) (by omega) (by omega) (by omega) (by omega) (by omega)]
    have yr : ∀ j f, j < k2 → F (4 + j) f = C2 (4 + j) f := fun j f hj => by rw [low _ _ (by omega) (by omega) (by omega) (by omega) (by omega) (by omega) (by omega) (by omega)]
    have yz : ∀ b f, 6 ≤ f → (4 ≤ b ∧ b ≤ 9) ∨ (20 ≤ b ∧ b ≤ 25) ∨ (93 ≤ b ∧ b ≤ 98) → F b f = 0 := fun b f g1 g2 => by
      rw [lowC b f (by omega) (by omega) (by omega) (by omega) (by omega) (by omega) (by omega) (by omega) (by omega) (by omega) (by omega) (by omega) (by omega)]
      exact m7 b f g1 g2
    have y71 : ∀ t, t < 3 → F 71 t = C 71 t := fun t ht => by rw [low _ _ (by omega) (by omega) (by omega) (by omega) (by omega) (by omega) (by omega) (by omega), b71 t ht]
    have et : tb F 4 k2 = tb C5 4 k2 := tb_congr (fun i hi f => by rw [yr i f hi, f5 _ _ (by omega) (by omega) (by omega), o10 _ _ (by omega)])
    have etg : tb F 4 k2 = tb C2 4 k2 := tb_congr (fun i hi f => yr i f hi)
    have land : ∀ b t, (26 ≤ b ∧ b ≤ 41) ∨ (60 ≤ b ∧ b ≤ 63) ∨ (b = 58 ∧ t = 11) → F b t = C5 b t := fun b t hb => h2 b t (by omega) (by omega) (by omega) (by omega)
    have hD : ∃ D : Cn, (∀ b t, b < 320 → D b t = F b t) ∧ ∀ b t, 320 ≤ b → D b t = C b t := ⟨fun b t => if b < 320 then F b t else C b t, fun b t h => if_pos h, fun b t h => if_neg (by omega)⟩
    obtain ⟨D, dl, dh⟩ := hD
    have etD : tb D 4 k2 = tb F 4 k2 := tb_congr (fun i hi f => dl _ _ (by omega))
    have invD : Inv D := by
      refine invT.upS (m := k2) (fun b t hb hb2 => ?_) ⟨k26, by rw [dl _ _ (by omega), y21], by rw [dl _ _ (by omega), e0], fun i hi f => ?_, fun i hi => ?_, by rw [etD, etg]; exact kgd, fun b f g1 g2 => by rw [dl _ _ (by omega)]; exact yz b f g1 g2⟩ ?_ ?_ ⟨M5, ?_, st5.congr (fun b t g1 g2 => ?_), Or.inl ?_, fun t ht => ?_⟩
      · by_cases h320 : b < 320
        · rw [dl b t h320]
          by_cases ea : b = 72 ∧ t = 1
          · rw [ea.1, ea.2, y72, wr_ne (by omega), wr_same]
          · by_cases eb2 : b = 91 ∧ t = 38
            · rw [eb2.1, eb2.2, h3, wr_same]
            · rw [wr_ne eb2, wr_ne ea]
              obtain ⟨q1, q2, -, -, q5, -, -, -, -, -, q11, -⟩ := hb
              exact lowC b t h320 (by omega) (by omega) (by omega) (by omega) (by omega) (by omega) (by omega) (by omega) (by omega) (by omega) (by omega) (by omega)
        · rw [dh b t (by omega), wr_ne (by omega), wr_ne (by omega)]
      · rw [dl _ _ (by omega), dl _ _ (by omega)]
        by_cases h6 : f < 6
        · rw [er i hi f h6, yr i f hi]
        · rw [yz _ _ (by omega) (by omega), yz _ _ (by omega) (by omega)]
      · rw [dl _ _ (by omega), dl _ _ (by omega), yr i 0 hi, yr i 1 hi]
        exact kkm i hi
      · unfold I2
        rw [dl 91 2 (by omega), dl 91 3 (by omega), dl 91 4 (by omega), dl 2 2 (by omega), dl 2 3 (by omega), dl 2 4 (by omega), y22, e2]
        rw [lowC 91 3 (by omega) (by omega) (by omega) (by omega) (by omega) (by omega) (by omega) (by omega) (by omega) (by omega) (by omega) (by omega) (by omega), lowC 91 4 (by omega) (by omega) (by omega) (by omega) (by omega) (by omega) (by omega) (by omega) (by omega) (by omega) (by omega) (by omega) (by omega), lowC 2 3 (by omega) (by omega) (by omega) (by omega) (by omega) (by omega) (by omega) (by omega) (by omega) (by omega) (by omega) (by omega) (by omega), lowC 2 4 (by omega) (by omega) (by omega) (by omega) (by omega) (by omega) (by omega) (by omega) (by omega) (by omega) (by omega) (by omega) (by omega)]
        exact ⟨rfl, ktd, i2.2.2⟩
      · unfold I4
        have e6 := eb 0 (by omega)
        have e7 := eb 1 (by omega)
        have e8 := eb 2 (by omega)
        rw [b71 0 (by omega)] at e6
        rw [b71 1 (by omega)] at e7
        rw [b71 2 (by omega)] at e8
        rw [dl 91 6 (by omega), dl 91 7 (by omega), dl 91 8 (by omega), dl 71 0 (by omega), dl 71 1 (by omega), dl 71 2 (by omega), y71 0 (by omega), y71 1 (by omega), y71 2 (by omega)]
        exact ⟨e6, e7, e8, i4.2.2.2⟩
      · rw [etD, et]
        exact lm5.congr (fun b t g1 g2 => by rw [dl b t (by omega), land b t (by omega)])
      · rw [dl b t (by omega), land b t (by omega)]
      · rw [dl _ _ (by omega), land _ _ (by omega), x11]
      · rw [dl _ _ (by omega), lowC _ _ (by omega) (by omega) (by omega) (by omega) (by omega) (by omega) (by omega) (by omega) (by omega) (by omega) (by omega) (by omega) (by omega)]
        exact r0 t ht
    exact invD.low (fun b t g1 _ => (dl b t g1).symm)
  · -- what stands behind an item is no semicolon
    have b71 : C2 71 2 = 0 ∨ C2 71 2 = 1 := by
      have hb := cn.b J (Nat.le_refl _) 2 (by omega)
      have : C2 71 2 = C 71 2 := by
        rw [← hb]
        rcases iR with ⟨-, -, -, -, -, -, x⟩ | ⟨q, y, -, -, -, -, -, -, -, -, -, -, -, -, x⟩
        · exact x 2 (by omega)
        · exact x 2 (by omega)
      rw [this]
      exact i4.2.2.2
    intro C10 c10
    refine ⟨fun w => absurd w (by omega), fun _ C16 c16 C17 c17 => ?_⟩
    have o := o91 C2 C10 C16 C17 fr c10 c16 c17
    refine g_text hn g0 (re0 C17 o) (tg0 C17 o) cn C2 (Or.inr ⟨z, k2, zL, iR, gk, kz3, fun w => absurd w kz, fun _ F n2 h1 h2 h3 h4 => ⟨rfl, ?_, h1⟩⟩)
    exact FIN C2 C10 C16 C17 F fr rows b71 c10 c16 c17 h2 h3 h4
