/-! my own: prove, judge -/
/-- a number of a field, as the class's land has it -/
def nb (C : Cn) (f k : Nat) : Int := if k = 0 then C 35 (C 38 f).toNat else if k = 1 then C 36 (C 38 f).toNat else if k = 2 then C 39 f - 1 else if C 26 1 ≤ C 40 f then -1 else C 40 f
theorem f_number {n : Nat} {C E : Cn} {m f k : Nat} {M : Mp} {Q : Int → Prop} (hf : 91 ≤ n) (ok : okM M) (lm : LM C 26 (tb C 4 m) m M) (o : ∀ b t, 26 ≤ b → b ≤ 41 → E b t = C b t) (hfl : f < nF M) (hk : k < 4) (h : Q (nb C f k)) : P_La_numberOf n E 26 (f : Int) (k : Int) Q := by
  have f19 := ok.f19
  have e12 := ok.e
  obtain ⟨i, l, hi, hl, h49, hw, hfe, x1, x2, x3, x4, x5, x6⟩ := fieldF ok lm hfl
  have l1 : C 26 1 = ((mE M : Nat) : Int) := lm.2.2.2.2.1.1.1
  unfold nb at h
  rw [x1, x2, x5, l1, Int.toNat_natCast] at h
  have y1 : E 38 f = ((FC M i + l : Nat) : Int) := by rw [o _ _ (by omega) (by omega), x1]
  have y2 : E 39 f = (i : Int) := by rw [o _ _ (by omega) (by omega), x2]
  have y5 : E 40 f = ((lsp M (mE M + 1) 0 f : Nat) : Int) := by rw [o _ _ (by omega) (by omega), x5]
  have y6 : E 26 1 = ((mE M : Nat) : Int) := by rw [o _ _ (by omega) (by omega), l1]
  have y3 : E 35 (FC M i + l) = C 35 (FC M i + l) := o _ _ (by omega) (by omega)
  have y4 : E 36 (FC M i + l) = C 36 (FC M i + l) := o _ _ (by omega) (by omega)
  unfold P_La_numberOf
  simp only [fL hf, Int.reduceToNat, Int.toNat_natCast, true_and, y1, y2, y3, y4, y5, y6]
  refine ⟨fun e => ⟨by omega, by omega, ?_⟩, fun e => ⟨by omega, by omega, ?_⟩, fun e => ⟨by omega, ?_⟩, fun e => ⟨by omega, fun e2 => ?_, fun e2 => ?_⟩⟩
  · rw [if_pos (by omega)] at h
    exact h
  · rw [if_neg (by omega), if_pos (by omega)] at h
    exact h
  · rw [if_neg (by omega), if_neg (by omega), if_pos (by omega)] at h
    rw [w32_s (by omega)]
    exact h
  · rw [if_neg (by omega), if_neg (by omega), if_neg (by omega), if_pos e2] at h
    exact h
  · rw [if_neg (by omega), if_neg (by omega), if_neg (by omega), if_neg e2] at h
    exact h
theorem g_number {n : Nat} {C F : Cn} {m f k : Nat} {M : Mp} {Q : Int → Prop} (hn : 320 ≤ n) (ok : okM M) (lm : LM C 26 (tb C 4 m) m M) (gm : GM F (tb C 4 m) m M) (hfl : f < nF M) (hk : k < 4) (h : Q (nb C f k)) : P_G_fieldIs n F 91 (f : Int) (k : Int) Q := by
  have f19 := ok.f19
  have e12 := ok.e
  obtain ⟨i, l, hi, hl, h49, hw, hfe, x1, x2, x3, x4, x5, x6⟩ := fieldF ok lm hfl
  have l1 : C 26 1 = ((mE M : Nat) : Int) := lm.2.2.2.2.1.1.1
  unfold nb at h
  rw [x1, x2, x5, l1, Int.toNat_natCast, x3, x4] at h
  have y := fieldG gm hi hl hw (by rw [hfe]; exact hfl)
  rw [hfe] at y
  obtain ⟨y1, y2, y3, y4⟩ := y
  have y5 := gm.2.1
  unfold P_G_fieldIs P_G_closeOf
  simp only [gS hn, Int.reduceToNat, Int.toNat_natCast, true_and, y1, y2, y3, y4, y5]
  refine ⟨fun e => ⟨by omega, ?_⟩, fun e => ⟨fun e1 => ⟨by omega, ?_⟩, fun e1 => ⟨fun e2 => ⟨by omega, ?_⟩, fun e2 => ⟨by omega, fun e3 => ?_, fun e3 => ?_⟩⟩⟩⟩
  · rw [if_pos (by omega)] at h
    exact h
  · rw [if_neg (by omega), if_pos (by omega)] at h
    exact h
  · rw [if_neg (by omega), if_neg (by omega), if_pos (by omega)] at h
    rw [w32_s (by omega)]
    exact h
  · rw [if_neg (by omega), if_neg (by omega), if_neg (by omega), if_pos (by omega)] at h
    exact h
  · rw [if_neg (by omega), if_neg (by omega), if_neg (by omega), if_neg (by omega)] at h
    exact h
theorem c_prove {n : Nat} {C : Cn} (hn : 320 ≤ n) (inv : Inv C) : P_F_prove n C 1 (fun r C1 => P_G_prove n C1 91 (fun r2 C2 => r = r2 ∧ Inv C2)) := by
  have hf : 91 ≤ n := by omega
  have inv' := inv
  obtain ⟨m, i1, -, -, -, -, -, -, -, -, ⟨M, lm, -, -, -⟩⟩ := inv'
  have ok := Inv.ok i1 lm
  have f19 := ok.f19
  have m6 := i1.1
  unfold P_F_prove
  refine lp_rule (fun (z : Cn × Int) => ∃ f : Nat, f ≤ nF M ∧ z.2 = (f : Int) ∧ (∀ b t, b ≠ 81 → z.1 b t = C b t) ∧ ∀ g k, g < f → k < 4 → z.1 81 (4 * g + k) = nb C g k) (fun z => (50 - z.2).toNat) ?_ (C, 0) ⟨0, by omega, rfl, fun _ _ _ => rfl, fun g k hg => absurd hg (Nat.not_lt_zero g)⟩
  rintro ⟨E, v1⟩ ⟨f, z0, z1, z2, z3⟩ K hK
  dsimp only at z1 z2 z3
  subst z1
  have e14 : E 26 14 = ((nF M : Nat) : Int) := by rw [z2 _ _ (by omega), lm.nF]
  unfold B_F_prove_2 J_F_prove_51
  simp only [fS hf, fL hf, Int.reduceToNat, true_and, e14]
  refine ⟨fun q => ?_, fun q => ?_⟩
  · have ef : f = nF M := by omega
    subst ef
    clear hK
    intro C6 c6
    have r6 : C6 1 14 = ((nF M : Nat) : Int) := by rw [c6, wr_same]
    rw [r6]
    unfold P_G_prove
    simp only [gS hn, Int.reduceToNat, true_and]
    refine g_mapsI hn i1 lm (fun b t hb => by rw [c6, wr_ne (by omega), z2 b t (by omega)]) (fun D2 fr gm _ _ => ?_)
    intro D6 d6
    have d18 : D2 91 18 = ((nF M : Nat) : Int) := gm.nF
    rw [d18] at d6
    have d6o : ∀ b t, ¬ (b = 91 ∧ t = 35) → D6 b t = D2 b t := fun b t hb => by rw [d6, wr_ne hb]
    have gm6 : GM D6 (tb C 4 m) m M := gm.congr ok (fun b t hb => d6o b t (by omega))
    refine lp_rule (fun (z : Cn × Int) => ∃ g : Nat, g ≤ nF M ∧ z.2 = (g : Int) ∧ (∀ b t, ¬ (282 ≤ b ∧ b ≤ 300) → z.1 b t = D6 b t) ∧ ∀ h k, h < g → k < 4 → z.1 (282 + h) k = nb C h k) (fun z => (50 - z.2).toNat) ?_ (D6, 0) ⟨0, by omega, rfl, fun _ _ _ => rfl, fun g k hg => absurd hg (Nat.not_lt_zero g)⟩
    rintro ⟨F, v2⟩ ⟨g, y0, y1, y2, y3⟩ K2 hK2
    dsimp only at y1 y2 y3
    subst y1
    have gmF : GM F (tb C 4 m) m M := gm6.congr ok (fun b t hb => y2 b t (by omega))
    have f35 : F 91 35 = ((nF M : Nat) : Int) := by rw [y2 _ _ (by omega), d6, wr_same]
    unfold B_G_prove_14
    simp only [gS hn, Int.reduceToNat, true_and, gmF.nF, f35]
    refine ⟨fun q2 => ?_, fun q2 => ?_⟩
    · have eg : g = nF M := by omega
      subst eg
      have fI : ∀ b t, IC b t → ¬ (282 ≤ b ∧ b ≤ 300) → ¬ (b = 91 ∧ t = 35) → F b t = C6 b t := fun b t h1 h2 h3 => by rw [y2 b t h2, d6o b t h3, fr b t h1]
      refine inv.up5 (fun b t hb hb2 => ?_) ⟨nF M, by omega, ?_, f35, fun k i hk hi => ?_⟩
      · rw [fI b t hb (by omega) (by omega), c6, wr_ne (by omega), z2 b t (by omega)]
      · rw [fI _ _ (by unfold IC; omega) (by omega) (by omega), r6]
      · rw [y3 k i hk hi, fI _ _ (by unfold IC; omega) (by omega) (by omega), c6, wr_ne (by omega), z3 k i hk hi]
    · have hg : g < nF M := by omega
      have rg := gR281 hn (by omega : g < 20)
      refine lp_rule (fun (z : Cn × Int) => ∃ j : Nat, j ≤ 4 ∧ z.2 = (j : Int) ∧ (∀ b t, ¬ (282 ≤ b ∧ b ≤ 300) → z.1 b t = D6 b t) ∧ (∀ h k, h < g → k < 4 → z.1 (282 + h) k = nb C h k) ∧ ∀ k, k < j → z.1 (282 + g) k = nb C g k) (fun z => (50 - z.2).toNat) ?_ (F, 0) ⟨0, by omega, rfl, y2, y3, fun k hk => absurd hk (Nat.not_lt_zero k)⟩
      rintro ⟨H, v3⟩ ⟨j, x0, x1, x2, x3, x4⟩ K3 hK3
      dsimp only at x1 x2 x3 x4
      subst x1
      unfold B_G_prove_24
      simp only [gS hn, Int.reduceToNat, Int.toNat_natCast, true_and, rg]
      refine ⟨fun q3 => ?_, fun q3 => ⟨by omega, ?_⟩⟩
      · rw [w32_n (by omega)]
        refine hK2 _ ⟨g + 1, by omega, rfl, x2, fun h k hh hk => ?_⟩ (by dsimp only; omega)
        by_cases e : h = g
        · rw [e]
          exact x4 k (by omega)
        · exact x3 h k (by omega) hk
      · refine g_number hn ok lm (gm6.congr ok (fun b t hb => x2 b t (by omega))) hg (by omega) ⟨by omega, fun H2 c2 => ?_⟩
        rw [w32_n (by omega)]
        refine hK3 _ ⟨j + 1, by omega, rfl, fun b t hb => ?_, fun h k hh hk => ?_, fun k hk => ?_⟩ (by dsimp only; omega)
        · dsimp only
          rw [c2, wr_ne (by omega), x2 b t hb]
        · dsimp only
          rw [c2, wr_ne (by omega), x3 h k hh hk]
        · dsimp only
          by_cases e : k = j
          · rw [e, c2, wr_same]
          · rw [c2, wr_ne (by omega), x4 k (by omega)]
  · have hfl : f < nF M := by omega
    refine lp_rule (fun (z : Cn × Int) => ∃ j : Nat, j ≤ 4 ∧ z.2 = (j : Int) ∧ (∀ b t, b ≠ 81 → z.1 b t = C b t) ∧ (∀ h k, h < f → k < 4 → z.1 81 (4 * h + k) = nb C h k) ∧ ∀ k, k < j → z.1 81 (4 * f + k) = nb C f k) (fun z => (50 - z.2).toNat) ?_ (E, 0) ⟨0, by omega, rfl, z2, z3, fun k hk => absurd hk (Nat.not_lt_zero k)⟩
    rintro ⟨H, v3⟩ ⟨j, x0, x1, x2, x3, x4⟩ K3 hK3
    dsimp only at x1 x2 x3 x4
    subst x1
    have w1 : w32 (w32 ((f : Int) * 4) + (j : Int)) = ((4 * f + j : Nat) : Int) := by
      rw [w32_s (x := (f : Int) * 4) (by omega), w32_s (by omega)]
      omega
    unfold B_F_prove_15
    simp only [fS hf, fL hf, Int.reduceToNat, Int.toNat_natCast, true_and, w1]
    clear w1
    refine ⟨fun q3 => ?_, fun q3 => ?_⟩
    · rw [w32_n (by omega)]
      refine hK _ ⟨f + 1, by omega, rfl, x2, fun h k hh hk => ?_⟩ (by dsimp only; omega)
      by_cases e : h = f
      · rw [e]
        exact x4 k (by omega)
      · exact x3 h k (by omega) hk
    · refine f_number hf ok lm (fun b t h1 h2 => x2 b t (by omega)) hfl (by omega) ⟨by omega, fun H2 c2 => ?_⟩
      rw [w32_n (by omega)]
      refine hK3 _ ⟨j + 1, by omega, rfl, fun b t hb => ?_, fun h k hh hk => ?_, fun k hk => ?_⟩ (by dsimp only; omega)
      · dsimp only
        rw [c2, wr_ne (by omega), x2 b t hb]
      · dsimp only
        rw [c2, wr_ne (by omega), x3 h k hh hk]
      · dsimp only
        by_cases e : k = j
        · rw [e, c2, wr_same]
        · rw [c2, wr_ne (by omega), x4 k (by omega)]
def rowOK (C : Cn) (f : Nat) : Prop := ∀ k, k < 4 → C 81 (4 * f + k) = nb C f k
theorem f_isRow {n : Nat} {C : Cn} {m f : Nat} {M : Mp} {Q : Int → Prop} (hf : 91 ≤ n) (ok : okM M) (lm : LM C 26 (tb C 4 m) m M) (hfl : f < nF M) (h1 : rowOK C f → Q 1) (h0 : ¬ rowOK C f → Q 0) : P_F_isRowOfField n C 1 (f : Int) Q := by
  have f19 := ok.f19
  unfold P_F_isRowOfField
  refine lp_rule (fun (z : Int) => ∃ j : Nat, j ≤ 4 ∧ z = (j : Int) ∧ ∀ k, k < j → C 81 (4 * f + k) = nb C f k) (fun z => (50 - z).toNat) ?_ 0 ⟨0, by omega, rfl, fun k hk => absurd hk (Nat.not_lt_zero k)⟩
  rintro v2 ⟨j, x0, rfl, x2⟩ K hK
  have w1 : w32 (w32 ((f : Int) * 4) + (j : Int)) = ((4 * f + j : Nat) : Int) := by
    rw [w32_s (x := (f : Int) * 4) (by omega), w32_s (by omega)]
    omega
  unfold B_F_isRowOfField_2
  simp only [fS hf, fL hf, Int.reduceToNat, Int.toNat_natCast, true_and, w1]
  clear w1
  refine ⟨fun q => h1 (fun k hk => x2 k (by omega)), fun q => ⟨by omega, ?_⟩⟩
  refine f_number hf ok lm (fun b t _ _ => rfl) hfl (by omega) ⟨fun e => ?_, fun e => h0 (fun w => e (w j (by omega)))⟩
  rw [w32_n (by omega)]
  refine hK _ ⟨j + 1, by omega, rfl, fun k hk => ?_⟩ (by omega)
  by_cases e2 : k = j
  · rw [e2]
    exact e
  · exact x2 k (by omega)
theorem c_judge {n : Nat} {C : Cn} (hn : 320 ≤ n) (inv : Inv C) : P_F_judge n C 1 (fun r => P_G_judge n C 91 (fun r2 C2 => r = r2 ∧ Inv C2)) := by
  have hf : 91 ≤ n := by omega
  have inv' := inv
  obtain ⟨m, i1, -, -, -, ⟨R, r19, c14, g35, rows⟩, -, -, -, -, ⟨M, lm, -, -, -⟩⟩ := inv'
  have ok := Inv.ok i1 lm
  have f19 := ok.f19
  have m6 := i1.1
  -- the reference
  have G : ∀ a : Int, (∃ k, k < R ∧ k < nF M ∧ ¬ rowOK C k ∧ (∀ j, j < k → rowOK C j) ∧ a = 1 + (k : Int)) ∨ ((∀ j, j < R → j < nF M → rowOK C j) ∧ (R = nF M → a = 0) ∧ (R < nF M → a = 1 + (R : Int)) ∧ (nF M < R → a = 1 + ((nF M : Nat) : Int))) → P_G_judge n C 91 (fun r2 C2 => a = r2 ∧ Inv C2) := by
    intro a ha
    unfold P_G_judge
    simp only [gS hn, true_and]
    refine g_mapsI hn i1 lm (fun b t hb => rfl) (fun D2 fr gm _ _ => ?_)
    have inv2 := inv.congr fr
    have d35 : D2 91 35 = (R : Int) := by rw [fr _ _ (by clear ha; unfold IC; omega), g35]
    have dr : ∀ f k, f < R → k < 4 → D2 (282 + f) k = C 81 (4 * f + k) := fun f k h1 h2 => by rw [fr _ _ (by clear ha; unfold IC; omega), rows f k h1 h2]
    refine lp_rule (fun (z : Int) => ∃ j : Nat, j ≤ nF M ∧ z = (j : Int) ∧ ∀ i, i < j → i < R ∧ rowOK C i) (fun z => (50 - z).toNat) ?_ 0 ⟨0, by omega, rfl, fun i hi => absurd hi (Nat.not_lt_zero i)⟩
    rintro v1 ⟨j, x0, rfl, x2⟩ K hK
    have jR : j ≤ R := by
      by_cases e : j = 0
      · omega
      · have := (x2 (j - 1) (by omega)).1
        omega
    unfold B_G_judge_6 J_G_judge_82 J_G_judge_103 J_G_judge_27
    simp only [gS hn, Int.reduceToNat, true_and, gm.nF, d35]
    refine ⟨fun q => ⟨?_, inv2⟩, fun q => ?_⟩
    · have ej : j = nF M := by omega
      rcases ha with ⟨k, k1, k2, k3, k4, k5⟩ | ⟨k1, k2, k3, k4⟩
      · exact absurd (x2 k (by omega)).2 k3
      · by_cases e : R ≤ nF M
        · rw [if_pos (by omega), k2 (by omega)]
        · rw [if_neg (by omega), k4 (by omega), w32_s (by omega)]
    · have hj : j < nF M := by omega
      have rg := gR281 hn (by omega : j < 20)
      refine lp_rule (fun (z : Int × Int) => ∃ k : Nat, k ≤ 4 ∧ z.2 = (k : Int) ∧ ((z.1 = 1 ∧ j < R ∧ ∀ i, i < k → C 81 (4 * j + i) = nb C j i) ∨ (z.1 = 0 ∧ (j < R → ¬ rowOK C j)))) (fun z => (50 - z.2).toNat) ?_ ((if (R : Int) ≤ (j : Int) then 0 else 1), 0) ⟨0, by omega, rfl, ?_⟩
      · rintro ⟨v2, v3⟩ ⟨k, y0, y1, y2⟩ K2 hK2
        dsimp only at y1 y2
        subst y1
        have J : ∀ v : Int, (v = 1 ∧ j < R ∧ rowOK C j) ∨ (v = 0 ∧ (j < R → ¬ rowOK C j)) → J_G_judge_68 n D2 91 (j : Int) v K (fun r2 C2 => a = r2 ∧ Inv C2) := by
          intro v hv
          unfold J_G_judge_68
          refine ⟨fun e => ⟨?_, inv2⟩, fun e => ?_⟩
          · have hv2 : j < R → ¬ rowOK C j := by
              rcases hv with ⟨w, -⟩ | ⟨-, w⟩
              · omega
              · exact w
            rw [w32_s (by omega)]
            rcases ha with ⟨i, k1, k2, k3, k4, k5⟩ | ⟨k1, k2, k3, k4⟩
            · have e1 : i = j := by
                by_cases e1 : i < j
                · exact absurd (x2 i e1).2 k3
                · by_cases e2 : j < i
                  · exact absurd (k4 j e2) (hv2 (by omega))
                  · omega
              rw [k5, e1]
            · by_cases e1 : j < R
              · exact absurd (k1 j e1 hj) (hv2 e1)
              · rw [k3 (by omega)]
                omega
          · rcases hv with ⟨w, w1, w2⟩ | ⟨w, -⟩
            · rw [w32_n (by omega)]
              refine hK _ ⟨j + 1, by omega, rfl, fun i hi => ?_⟩ (by omega)
              by_cases e1 : i = j
              · rw [e1]
                exact ⟨w1, w2⟩
              · exact x2 i (by omega)
            · exact absurd w e
        unfold B_G_judge_30
        simp only [gS hn, Int.reduceToNat, Int.toNat_natCast, true_and, rg]
        refine ⟨fun q3 => J v2 ?_, fun q3 => ⟨fun e => J v2 ?_, fun e => ⟨by omega, by omega, ?_⟩⟩⟩
        · rcases y2 with ⟨w1, w2, w3⟩ | w
          · exact Or.inl ⟨w1, w2, fun i hi => w3 i (by omega)⟩
          · exact Or.inr w
        · rcases y2 with ⟨w1, w2, w3⟩ | w
          · omega
          · exact Or.inr w
        · rcases y2 with ⟨w1, w2, w3⟩ | w
          · refine g_number hn ok lm gm hj (by omega) ?_
            unfold J_G_judge_61
            rw [dr j k w2 (by omega), w32_n (by omega)]
            by_cases e2 : C 81 (4 * j + k) = nb C j k
            · rw [if_pos e2]
              refine hK2 _ ⟨k + 1, by omega, rfl, Or.inl ⟨rfl, w2, fun i hi => ?_⟩⟩ (by dsimp only; omega)
              by_cases e3 : i = k
              · rw [e3]
                exact e2
              · exact w3 i (by omega)
            · rw [if_neg e2]
              exact hK2 _ ⟨k + 1, by omega, rfl, Or.inr ⟨rfl, fun _ w => e2 (w k (by omega))⟩⟩ (by dsimp only; omega)
          · exact absurd w.1 e
      · dsimp only
        by_cases e : (R : Int) ≤ (j : Int)
        · rw [if_pos e]
          exact Or.inr ⟨rfl, fun w => absurd w (by omega)⟩
        · rw [if_neg e]
          exact Or.inl ⟨rfl, by omega, fun i hi => absurd hi (Nat.not_lt_zero i)⟩
  unfold P_F_judge
  simp only [fS hf, fL hf, Int.reduceToNat, true_and, lm.nF, c14]
  intro v1 hv1
  have hv : v1 = ((if R ≤ nF M then R else nF M : Nat) : Int) := by
    rw [hv1]
    unfold imin
    split <;> split <;> omega
  clear hv1
  have mn : (if R ≤ nF M then R else nF M) ≤ R ∧ (if R ≤ nF M then R else nF M) ≤ nF M ∧ ((if R ≤ nF M then R else nF M) = R ∨ (if R ≤ nF M then R else nF M) = nF M) := by
    split <;> omega
  generalize (if R ≤ nF M then R else nF M) = mi at hv mn
  subst hv
  refine lp_rule (fun (z : Int) => ∃ j : Nat, j ≤ mi ∧ z = (j : Int) ∧ ∀ i, i < j → rowOK C i) (fun z => (50 - z).toNat) ?_ 0 ⟨0, by omega, rfl, fun i hi => absurd hi (Nat.not_lt_zero i)⟩
  rintro v2 ⟨j, x0, rfl, x2⟩ K hK
  unfold B_F_judge_17 J_F_judge_40 J_F_judge_61
  simp only [fS hf, fL hf, Int.reduceToNat, true_and, lm.nF, c14]
  refine ⟨fun q => ?_, fun q => ?_⟩
  · refine G _ (Or.inr ⟨fun i h1 h2 => x2 i (by omega), fun e => by rw [if_pos (by omega)], fun e => ?_, fun e => ?_⟩)
    · rw [if_neg (by omega), w32_s (by omega)]
      omega
    · rw [if_neg (by omega), w32_s (by omega)]
      omega
  · refine f_isRow hf ok lm (by omega) (fun w => ⟨fun e => absurd e (by decide), fun _ => ?_⟩) (fun w => ⟨fun _ => ?_, fun e => absurd rfl e⟩)
    · rw [w32_n (by omega)]
      refine hK _ ⟨j + 1, by omega, rfl, fun i hi => ?_⟩ (by omega)
      by_cases e : i = j
      · rw [e]
        exact w
      · exact x2 i (by omega)
    · rw [w32_s (by omega)]
      exact G _ (Or.inl ⟨j, by omega, by omega, w, fun i hi => x2 i hi, rfl⟩)
