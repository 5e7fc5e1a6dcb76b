/-! my own: fields and points on both sides -/
theorem thg_congr {s : Cn} {m : Nat} {X Y X2 Y2 : Nat → Int} {M : Mp} (h : ∀ e, e < mE M → X2 e = X e ∧ Y2 e = Y e) (x y : Int) : thg s m X2 Y2 M x y = thg s m X Y M x y := by
  have e : stp0 X2 Y2 M (ky x y) = stp0 X Y M (ky x y) := by
    unfold stp0
    exact fnd_congr (fun e he => by rw [(h e he).1, (h e he).2])
  unfold thg
  rw [e]
  generalize stp0 X Y M (ky x y) = r
  have e2 : (r < mE M ∧ ky (X2 r) (Y2 r) = ky x y) = (r < mE M ∧ ky (X r) (Y r) = ky x y) := propext ⟨fun w => ⟨w.1, by rw [← (h r w.1).1, ← (h r w.1).2]; exact w.2⟩, fun w => ⟨w.1, by rw [(h r w.1).1, (h r w.1).2]; exact w.2⟩⟩
  rw [e2]
theorem fieldF {C s : Cn} {m f : Nat} {M : Mp} (ok : okM M) (lm : LM C 26 s m M) (hf : f < nF M) : ∃ i l : Nat, i ≤ mE M ∧ l ≤ mH M i ∧ FC M i + l < 49 ∧ nw M i l ∧ nf M i l = f ∧ C 38 f = ((FC M i + l : Nat) : Int) ∧ C 39 f = (i : Int) ∧ C 35 (FC M i + l) = flo M i l ∧ C 36 (FC M i + l) = roo M i l ∧ C 40 f = ((lsp M (mE M + 1) 0 f : Nat) : Int) ∧ lsp M (mE M + 1) 0 f ≤ mE M := by
  obtain ⟨i, l, a, b, c, d⟩ := fd_ex hf
  obtain ⟨-, -, -, -, ⟨lc, k1, k2, k3, k4⟩, -⟩ := lm
  have e := k3 i l ⟨b, Or.inl a⟩ c
  have e2 := lc.2.2.2 i l (by omega) b
  rw [d] at e
  refine ⟨i, l, by omega, b, FC_49 ok (by omega) b, c, d, e.1, e.2, e2.2.1, e2.2.2, k4 f (by rw [nf_0]; exact hf), ?_⟩
  rw [lsp_0]
  rcases lsf_lt (M := M) (mE M + 1) f with h | h <;> omega
theorem fieldG {D s : Cn} {m i l : Nat} {M : Mp} (gm : GM D s m M) (hi : i ≤ mE M) (hl : l ≤ mH M i) (hn : nw M i l) (hf : nf M i l < nF M) : D 134 (nf M i l) = flo M i l ∧ D 135 (nf M i l) = roo M i l ∧ D 136 (nf M i l) = (i : Int) ∧ D 137 (nf M i l) = ((lsp M (mE M + 1) 0 (nf M i l) : Nat) : Int) := by
  obtain ⟨-, -, -, -, k1, k2, k3, k4⟩ := gm
  have e := k3 i l ⟨hl, Or.inl (by omega)⟩ hn
  exact ⟨e.1, e.2.1, e.2.2, k4 _ (by rw [nf_0]; exact hf)⟩
theorem LM.nF {C s : Cn} {m : Nat} {M : Mp} (lm : LM C 26 s m M) : C 26 14 = ((nF M : Nat) : Int) := lm.2.2.2.2.1.2.1
theorem GM.nF {C s : Cn} {m : Nat} {M : Mp} (gm : GM C s m M) : C 91 18 = ((nF M : Nat) : Int) := gm.2.2.2.2.1
theorem Inv.ok {C : Cn} {m : Nat} {M : Mp} (i1 : I1 C m) (lm : LM C 26 (tb C 4 m) m M) : okM M := i1.2.2.2.2.2.1.ok lm.1
theorem tb4 {C : Cn} {m : Nat} : ∀ i, i < m → ∀ f, C (2 + 2 + i) f = tb C 4 m i f := fun i hi f => (tb_lt hi f).symm
theorem c_field {n : Nat} {C : Cn} {v1 v2 : Int} (hn : 320 ≤ n) (inv : Inv C) : P_F_field n C 1 v1 v2 (fun r C1 => P_G_field n C1 91 v1 v2 (fun r2 C2 => r = r2 ∧ Inv C2)) := by
  have hf : 91 ≤ n := by omega
  have inv' := inv
  obtain ⟨m, i1, -, -, -, -, -, -, -, -, ⟨M, lm, -, -, -⟩⟩ := inv'
  have ok := Inv.ok i1 lm
  have f19 := ok.f19
  have e12 := ok.e
  have T : ∀ C1 : Cn, ¬ ((0 ≤ v1 ∧ v1 < (nF M : Int)) ∧ 0 ≤ v2 ∧ v2 ≤ 4) → C1 = wr C 82 (0 : Int).toNat (w32 (C 82 (0 : Int).toNat + 1)) → P_G_field n C1 91 v1 v2 (fun r2 C2 => -1000001 - 0 = r2 ∧ Inv C2) := by
    intro C1 q c1
    unfold P_G_field
    simp only [gS hn, true_and]
    refine g_mapsI hn i1 lm (fun b t hb => why0 c1 b t (by omega)) (fun C2 fr gm _ _ => ?_)
    unfold P_G_isField
    simp only [gS hn, Int.reduceToNat, true_and, gm.nF]
    rw [w32_s (by omega)]
    refine g_in ⟨bI_or, bI_br (fun _ => both hn (by decide) inv c1 fr) (fun q2 => g_in (bI_br (fun _ => both hn (by decide) inv c1 fr) (fun q3 => absurd ⟨⟨q2.1, by omega⟩, q3⟩ q)))⟩
  unfold P_F_field P_F_isField
  simp only [fS hf, fL hf, Int.reduceToNat, true_and, lm.nF]
  rw [w32_s (by omega)]
  refine f_isIn ⟨bI_or, bI_br (fun q => f_tell hf (by decide) (fun C1 c1 => T C1 (by omega) c1)) (fun q => f_isIn (bI_br (fun q2 => f_tell hf (by decide) (fun C1 c1 => T C1 (by omega) c1)) (fun q2 => ?_)))⟩
  clear T
  obtain ⟨f, rfl⟩ : ∃ f : Nat, v1 = (f : Int) := ⟨v1.toNat, by omega⟩
  have hfl : f < nF M := by omega
  obtain ⟨i, l, hi, hl, h49, hw, hfe, x1, x2, x3, x4, x5, x6⟩ := fieldF ok lm hfl
  generalize hL : lsp M (mE M + 1) 0 f = L at x5 x6
  -- the reference
  have G : ∀ r : Int, (v2 = 0 → r = flo M i l) → (v2 = 1 → r = roo M i l) → (v2 = 2 → r = (i : Int) - 1) → (v2 = 3 → r = if L = mE M then -1 else (L : Int)) → (v2 = 4 → r = (L : Int) - (i : Int) + 1) → P_G_field n C 91 (f : Int) v2 (fun r2 C2 => r = r2 ∧ Inv C2) := by
    intro r r0 r1 r2 r3 r4
    unfold P_G_field
    simp only [gS hn, true_and]
    refine g_mapsI hn i1 lm (fun b t hb => rfl) (fun C2 fr gm _ _ => ?_)
    have inv2 := inv.congr fr
    have y := fieldG gm hi hl hw (by rw [hfe]; exact hfl)
    rw [hfe, hL] at y
    obtain ⟨y1, y2, y3, y4⟩ := y
    have y5 := gm.2.1
    unfold P_G_isField P_G_closeOf
    simp only [gS hn, Int.reduceToNat, Int.toNat_natCast, true_and, gm.nF]
    rw [w32_s (by omega)]
    refine g_in ⟨bI_or, bI_br (fun w => absurd q w) (fun _ => g_in (bI_br (fun w => absurd q2 w) (fun _ => ?_)))⟩
    simp only [y1, y2, y3, y4, y5]
    refine ⟨fun e => ⟨by omega, r0 e, inv2⟩, fun e => ⟨by omega, r1 e, inv2⟩, fun e => ⟨by omega, ?_, inv2⟩, fun e => ⟨by omega, fun e2 => ⟨?_, inv2⟩, fun e2 => ⟨?_, inv2⟩⟩, fun e => ⟨by omega, by omega, ?_, inv2⟩⟩
    · rw [r2 e, w32_s (by omega)]
    · rw [r3 e, if_pos (by omega)]
    · rw [r3 e, if_neg (by omega)]
    · rw [r4 (by omega), w32_s (x := (L : Int) - (i : Int)) (by omega), w32_s (by omega)]
  have l1 : C 26 1 = ((mE M : Nat) : Int) := lm.2.2.2.2.1.1.1
  unfold P_La_numberOf
  simp only [fL hf, Int.reduceToNat, Int.toNat_natCast, true_and, x1, x2, x3, x4, x5, l1]
  refine ⟨fun e => ⟨by omega, by omega, G _ (fun w => absurd w (by omega)) (fun w => absurd w (by omega)) (fun w => absurd w (by omega)) (fun w => absurd w (by omega)) (fun _ => ?_)⟩, fun e => ⟨fun e2 => ⟨by omega, by omega, G _ (fun _ => rfl) (fun w => absurd w (by omega)) (fun w => absurd w (by omega)) (fun w => absurd w (by omega)) (fun w => absurd w (by omega))⟩, fun e2 => ⟨by omega, by omega, G _ (fun w => absurd w (by omega)) (fun _ => rfl) (fun w => absurd w (by omega)) (fun w => absurd w (by omega)) (fun w => absurd w (by omega))⟩, fun e2 => ⟨by omega, G _ (fun w => absurd w (by omega)) (fun w => absurd w (by omega)) (fun _ => ?_) (fun w => absurd w (by omega)) (fun w => absurd w (by omega))⟩, fun e2 => ⟨by omega, fun e3 => G _ (fun w => absurd w (by omega)) (fun w => absurd w (by omega)) (fun w => absurd w (by omega)) (fun _ => ?_) (fun w => absurd w (by omega)), fun e3 => G _ (fun w => absurd w (by omega)) (fun w => absurd w (by omega)) (fun w => absurd w (by omega)) (fun _ => ?_) (fun w => absurd w (by omega))⟩⟩⟩
  · rw [w32_s (x := (L : Int) - (i : Int)) (by omega), w32_s (by omega)]
  · rw [w32_s (by omega)]
  · rw [if_pos (by omega)]
  · rw [if_neg (by omega)]
