/-! my own: many -/
theorem cnt_cut {p : Nat → Prop} {f : Nat} : ∀ d, cnt (fun g => g < f ∧ p g) (f + d) = cnt p f
  | 0 => cnt_congr (fun k hk => ⟨fun h => h.2, fun h => ⟨hk, h⟩⟩)
  | d + 1 => by
    rw [← Nat.add_assoc, cnt_s, ind_f (fun w => by omega), Nat.add_zero]
    exact cnt_cut d
def adjP (M : Mp) (f g : Nat) : Prop := ∃ s, adjS M f g s
theorem adjP.sym {M : Mp} {f g : Nat} (h : adjP M f g) : adjP M g f := by
  obtain ⟨s, h⟩ := h
  exact ⟨s, h.sym⟩
noncomputable def twF (M : Mp) (k : Nat) : Nat := sm (fun f => cnt (adjP M f) f) k
noncomputable def twG (M : Mp) (k : Nat) : Nat := sm (fun f => cnt (fun g => f < g ∧ adjP M f g) (nF M)) k
theorem twFG (M : Mp) : twF M (nF M) = twG M (nF M) := by
  have e1 : twF M (nF M) = sm (fun f => sm (fun g => ind (g < f ∧ adjP M f g)) (nF M)) (nF M) := by
    refine sm_congr (fun f hf => ?_)
    have := cnt_cut (p := adjP M f) (f := f) (nF M - f)
    rw [(by omega : f + (nF M - f) = nF M)] at this
    exact this.symm
  rw [e1, sm_comm]
  refine sm_congr (fun f hf => sm_congr (fun g hg => ind_iff ⟨fun h => ⟨h.1, h.2.sym⟩, fun h => ⟨h.1, h.2.sym⟩⟩))
theorem sm_19 {f : Nat → Nat} {k : Nat} (hk : k ≤ 19) (h : ∀ i, f i ≤ 19) : sm f k ≤ 361 := by
  have h1 : sm f k ≤ sm (fun _ => 19) k := sm_le (fun i _ => h i)
  rw [sm_const] at h1
  omega
theorem f_twos {n : Nat} {C : Cn} {s : Cn} {m : Nat} {M : Mp} {Q : Int → Prop} (hn : 91 ≤ n) (ok : okM M) (lm : LM C 26 s m M) (h : Q ((twF M (nF M) : Nat) : Int)) : P_La_twosAtSegments n C 26 Q := by
  have f19 := ok.f19
  have l14 := lm.nF
  have gt : GT C 26 M := lm.2.2.2.2.2
  unfold P_La_twosAtSegments
  refine lp_rule (fun (z : Int × Int) => ∃ k : Nat, k ≤ nF M ∧ z.2 = (k : Int) ∧ z.1 = ((twF M k : Nat) : Int)) (fun z => (30 - z.2).toNat) ?_ (0, 0) ⟨0, by omega, rfl, rfl⟩
  rintro ⟨v1, v2⟩ ⟨k, z0, z1, z2⟩ K hK
  dsimp only at z1 z2
  subst z1
  subst z2
  unfold B_La_twosAtSegments_4
  simp only [fL hn, Int.reduceToNat, Int.toNat_natCast, true_and, l14]
  refine ⟨fun q => by rw [(by omega : k = nF M)]; exact h, fun q => ?_⟩
  have hk : k < nF M := by omega
  have b1 : twF M (k + 1) ≤ 361 ∨ 19 ≤ k := by
    by_cases e : 19 ≤ k
    · exact Or.inr e
    · refine Or.inl ?_
      unfold twF
      have h1 : sm (fun f => cnt (adjP M f) f) (k + 1) ≤ sm (fun _ => 19) (k + 1) := sm_le (fun i hi => by have := cnt_le (adjP M i) i; omega)
      rw [sm_const] at h1
      omega
  have ts : twF M (k + 1) = twF M k + cnt (adjP M k) k := rfl
  refine lp_rule (fun (z : Int × Int) => ∃ j : Nat, j ≤ k ∧ z.2 = (j : Int) ∧ z.1 = ((twF M k + cnt (adjP M k) j : Nat) : Int)) (fun z => (30 - z.2).toNat) ?_ (((twF M k : Nat) : Int), 0) ⟨0, by omega, rfl, rfl⟩
  rintro ⟨v1, v3⟩ ⟨j, y0, y1, y2⟩ K2 hK2
  dsimp only at y1 y2
  subst y1
  subst y2
  have w1 : w32 (w32 ((k : Int) * 19) + (j : Int)) = ((19 * k + j : Nat) : Int) := by
    rw [w32_s (x := (k : Int) * 19) (by omega), w32_s (by omega)]
    omega
  have cs := cnt_s (adjP M k) j
  have cl := cnt_le (adjP M k) j
  unfold B_La_twosAtSegments_14
  simp only [fL hn, Int.reduceToNat, Int.toNat_natCast, true_and, w1]
  clear w1
  refine ⟨fun q2 => ?_, fun q2 => ⟨by omega, ?_⟩⟩
  · have ej : j = k := by omega
    rw [w32_n (by omega), ej, ← ts]
    exact hK _ ⟨k + 1, by omega, rfl, rfl⟩ (by dsimp only; omega)
  · have yes : adjP M k j → K2 (w32 (((twF M k + cnt (adjP M k) j : Nat) : Int) + 1), w32 ((j : Int) + 1)) := by
      intro w
      rw [w32_n (a := j) (by omega), w32_n (by omega)]
      refine hK2 _ ⟨j + 1, by omega, rfl, ?_⟩ (by dsimp only; omega)
      dsimp only
      rw [cs, ind_t w]
      rfl
    have no : ¬ adjP M k j → K2 (((twF M k + cnt (adjP M k) j : Nat) : Int), w32 ((j : Int) + 1)) := by
      intro w
      rw [w32_n (a := j) (by omega)]
      refine hK2 _ ⟨j + 1, by omega, rfl, ?_⟩ (by dsimp only; omega)
      dsimp only
      rw [cs, ind_f w, Nat.add_zero]
    rcases gt k j (by omega) (by omega) with ⟨g1, g2, g3⟩ | ⟨g1, g2, g3⟩ | ⟨s, g1, g2, g3⟩
    · rw [g3]
      exact ⟨fun _ => no (fun ⟨s, w⟩ => g1 s w), fun w => absurd (by decide) w⟩
    · rw [g3]
      exact ⟨fun _ => no (fun ⟨s, w⟩ => g1 s w), fun w => absurd (by decide) w⟩
    · rw [g3]
      exact ⟨fun w => absurd w (by omega), fun _ => yes ⟨s, g1⟩⟩
theorem g_over {n f g : Nat} {C s : Cn} {m : Nat} {M : Mp} {Q : Int → Prop} (hn : 320 ≤ n) (ok : okM M) (gm : GM C s m M) (h1 : adjP M f g → Q 1) (h0 : ¬ adjP M f g → Q 0) : P_G_areOverOneAnother n C 91 (f : Int) (g : Int) Q := by
  have e12 := ok.e
  have c10 := gm.2.1
  have sr := gm.2.2.2.1
  have gk := gm.2.2.2.2.2.1
  unfold P_G_areOverOneAnother
  refine lp_rule (fun (z : Int) => ∃ j : Nat, j ≤ mE M + 1 ∧ z = (j : Int) ∧ ∀ i k, i < j → k < mH M i → ¬ ((fo M i k = f ∧ fo M i (k + 1) = g) ∨ (fo M i k = g ∧ fo M i (k + 1) = f))) (fun z => (30 - z).toNat) ?_ 0 ⟨0, by omega, rfl, fun i k hi => absurd hi (Nat.not_lt_zero i)⟩
  rintro v3 ⟨j, z0, rfl, z2⟩ K hK
  unfold B_G_areOverOneAnother_2
  simp only [gS hn, Int.reduceToNat, Int.toNat_natCast, true_and, c10]
  refine ⟨fun q => h0 ?_, fun q => ?_⟩
  · rintro ⟨s, i, k, a, b, c, d⟩
    exact z2 i k (by omega) b d
  · have hj : j ≤ mE M := by omega
    have h6 := ok.h6 j
    refine lp_rule (fun (z : Int) => ∃ k : Nat, k ≤ mH M j ∧ z = ((k + 1 : Nat) : Int) ∧ ∀ i, i < k → ¬ ((fo M j i = f ∧ fo M j (i + 1) = g) ∨ (fo M j i = g ∧ fo M j (i + 1) = f))) (fun z => (30 - z).toNat) ?_ 1 ⟨0, by omega, rfl, fun i hi => absurd hi (Nat.not_lt_zero i)⟩
    rintro v4 ⟨k, y0, rfl, y2⟩ K2 hK2
    have rj := gR120 hn (by omega : j < 13)
    have h105 : C 105 j = ((mH M j : Nat) : Int) := (sr j hj).2
    have w1 : w32 (((k + 1 : Nat) : Int) - 1) = (k : Int) := by
      rw [w32_s (by omega)]
      omega
    unfold B_G_areOverOneAnother_13 J_G_areOverOneAnother_80 J_G_areOverOneAnother_52 J_G_areOverOneAnother_80
    simp only [gS hn, Int.reduceToNat, Int.toNat_natCast, true_and, h105, rj, w1]
    clear w1
    refine ⟨by omega, fun q2 => ?_, fun q2 => ?_⟩
    · rw [w32_n (by omega)]
      refine hK _ ⟨j + 1, by omega, rfl, fun i k2 hi hk2 => ?_⟩ (by omega)
      by_cases e : i = j
      · subst e
        exact y2 k2 (by omega)
      · exact z2 i k2 (by omega) hk2
    · have hk : k < mH M j := by omega
      have f1 : C (121 + j) k = ((fo M j k : Nat) : Int) := gk j k ⟨by omega, Or.inl (by omega)⟩
      have f2 : C (121 + j) (k + 1) = ((fo M j (k + 1) : Nat) : Int) := gk j (k + 1) ⟨by omega, Or.inl (by omega)⟩
      rw [f1, f2]
      have nx : ¬ ((fo M j k = f ∧ fo M j (k + 1) = g) ∨ (fo M j k = g ∧ fo M j (k + 1) = f)) → K2 (w32 (((k + 1 : Nat) : Int) + 1)) := by
        intro w
        rw [w32_n (by omega)]
        refine hK2 _ ⟨k + 1, by omega, rfl, fun i hi => ?_⟩ (by omega)
        by_cases e : i = k
        · rw [e]
          exact w
        · exact y2 i (by omega)
      have yes : ((fo M j k = f ∧ fo M j (k + 1) = g) ∨ (fo M j k = g ∧ fo M j (k + 1) = f)) → Q 1 := fun w => h1 ⟨_, j, k, hj, hk, rfl, w⟩
      clear h1 h0 hK hK2
      refine ⟨by omega, by omega, fun a => ⟨by omega, fun b => yes (by omega), fun b => ⟨by omega, by omega, fun c => ⟨by omega, fun d => yes (by omega), fun d => nx (by omega)⟩, fun c => nx (by omega)⟩⟩, fun a => ⟨by omega, by omega, fun c => ⟨by omega, fun d => yes (by omega), fun d => nx (by omega)⟩, fun c => nx (by omega)⟩⟩
theorem g_twos {n : Nat} {C s : Cn} {m : Nat} {M : Mp} {Q : Int → Prop} (hn : 320 ≤ n) (ok : okM M) (gm : GM C s m M) (h : Q ((twG M (nF M) : Nat) : Int)) : P_G_twos n C 91 Q := by
  have f19 := ok.f19
  have c18 := gm.nF
  unfold P_G_twos
  refine lp_rule (fun (z : Int × Int) => ∃ k : Nat, k ≤ nF M ∧ z.2 = (k : Int) ∧ z.1 = ((twG M k : Nat) : Int)) (fun z => (30 - z.2).toNat) ?_ (0, 0) ⟨0, by omega, rfl, rfl⟩
  rintro ⟨v1, v2⟩ ⟨k, z0, z1, z2⟩ K hK
  dsimp only at z1 z2
  subst z1
  subst z2
  unfold B_G_twos_4
  simp only [gS hn, Int.reduceToNat, Int.toNat_natCast, true_and, c18]
  refine ⟨fun q => by rw [(by omega : k = nF M)]; exact h, fun q => ?_⟩
  have hk : k < nF M := by omega
  have b1 : twG M (k + 1) ≤ 361 := by
    unfold twG
    exact sm_19 (by omega) (fun i => by have := cnt_le (fun g => i < g ∧ adjP M i g) (nF M); omega)
  have ts : twG M (k + 1) = twG M k + cnt (fun g => k < g ∧ adjP M k g) (nF M) := rfl
  rw [w32_n (by omega)]
  refine lp_rule (fun (z : Int × Int) => ∃ j : Nat, k < j ∧ j ≤ nF M ∧ z.2 = (j : Int) ∧ z.1 = ((twG M k + cnt (fun g => k < g ∧ adjP M k g) j : Nat) : Int)) (fun z => (30 - z.2).toNat) ?_ (((twG M k : Nat) : Int), ((k + 1 : Nat) : Int)) ⟨k + 1, by omega, by omega, rfl, ?_⟩
  · rintro ⟨v1, v3⟩ ⟨j, yy, y0, y1, y2⟩ K2 hK2
    dsimp only at y1 y2
    subst y1
    subst y2
    have cs := cnt_s (fun g => k < g ∧ adjP M k g) j
    have cl := cnt_le (fun g => k < g ∧ adjP M k g) j
    unfold B_G_twos_16
    simp only [gS hn, Int.reduceToNat, Int.toNat_natCast, true_and, c18]
    refine ⟨fun q2 => ?_, fun q2 => ?_⟩
    · have ej : j = nF M := by omega
      rw [w32_n (by omega), ej, ← ts]
      exact hK _ ⟨k + 1, by omega, rfl, rfl⟩ (by dsimp only; omega)
    · refine g_over hn ok gm (fun w => ?_) (fun w => ?_)
      · unfold J_G_twos_39
        rw [if_neg (by decide), w32_n (a := j) (by omega), w32_n (by omega)]
        refine hK2 _ ⟨j + 1, by omega, by omega, rfl, ?_⟩ (by dsimp only; omega)
        dsimp only
        rw [cs, ind_t ⟨yy, w⟩]
        rfl
      · unfold J_G_twos_39
        rw [if_pos rfl, w32_n (a := j) (by omega), Int.add_zero, w32_id (by omega) (by omega)]
        refine hK2 _ ⟨j + 1, by omega, by omega, rfl, ?_⟩ (by dsimp only; omega)
        dsimp only
        rw [cs, ind_f (fun x => w x.2), Nat.add_zero]
  · dsimp only
    rw [cnt_zero (fun i hi w => by omega), Nat.add_zero]
theorem g_cells {n : Nat} {C s : Cn} {m : Nat} {M : Mp} {Q : Int → Prop} (hn : 320 ≤ n) (ok : okM M) (gm : GM C s m M) (h : Q ((FC M (mE M + 1) : Nat) : Int)) : P_G_cellMany n C 91 Q := by
  have e12 := ok.e
  have c49 := ok.c49
  have c10 := gm.2.1
  have sr := gm.2.2.2.1
  unfold P_G_cellMany
  refine lp_rule (fun (z : Int × Int) => ∃ j : Nat, j ≤ mE M + 1 ∧ z.2 = (j : Int) ∧ z.1 = ((FC M j : Nat) : Int)) (fun z => (30 - z.2).toNat) ?_ (0, 0) ⟨0, by omega, rfl, rfl⟩
  rintro ⟨v1, v2⟩ ⟨j, z0, z1, z2⟩ K hK
  dsimp only at z1 z2
  subst z1
  subst z2
  unfold B_G_cellMany_4
  simp only [gS hn, Int.reduceToNat, Int.toNat_natCast, true_and, c10]
  refine ⟨fun q => by rw [(by omega : j = mE M + 1)]; exact h, fun q => ⟨by omega, fun v hv => ?_⟩⟩
  have hj : j ≤ mE M := by omega
  have h6 := ok.h6 j
  have h105 : C 105 j = ((mH M j : Nat) : Int) := (sr j hj).2
  have fs := FC_s M j
  have fm := FC_mono (M := M) (a := j + 1) (b := mE M + 1) (by omega)
  rw [h105, w32_n (by omega), w32_s (by omega)] at hv
  rw [hv, w32_n (by omega)]
  refine hK _ ⟨j + 1, by omega, rfl, ?_⟩ (by dsimp only; omega)
  dsimp only
  rw [fs]
  omega
theorem c_many {n : Nat} {C : Cn} {v1 : Int} (hn : 320 ≤ n) (inv : Inv C) : P_F_many n C 1 v1 (fun r C1 => P_G_many n C1 91 v1 (fun r2 C2 => r = r2 ∧ Inv C2)) := by
  have hf : 91 ≤ n := by omega
  have inv' := inv
  obtain ⟨m, i1, -, -, -, -, -, -, -, -, ⟨M, lm, -, -, -⟩⟩ := inv'
  have ok := Inv.ok i1 lm
  have l1 : C 26 1 = ((mE M : Nat) : Int) := lm.2.2.2.2.1.1.1
  have l8 : C 26 8 = ((FC M (mE M + 1) : Nat) : Int) := lm.2.2.2.2.1.1.2.1
  have G : ∀ r : Int, 0 ≤ v1 ∧ v1 ≤ 3 → (v1 = 0 → r = ((mE M : Nat) : Int)) → (v1 = 1 → r = ((FC M (mE M + 1) : Nat) : Int)) → (v1 = 2 → r = ((nF M : Nat) : Int)) → (v1 = 3 → r = ((twG M (nF M) : Nat) : Int)) → P_G_many n C 91 v1 (fun r2 C2 => r = r2 ∧ Inv C2) := by
    intro r q r0 r1 r2 r3
    unfold P_G_many
    simp only [gS hn, true_and]
    refine g_in (bI_br (fun w => absurd q w) (fun _ => ?_))
    refine g_mapsI hn i1 lm (fun b t hb => rfl) (fun C2 fr gm _ _ => ?_)
    have inv2 := inv.congr fr
    simp only [Int.reduceToNat, gm.2.1, gm.nF]
    exact ⟨fun e => ⟨r0 e, inv2⟩, fun e0 => ⟨fun e => g_cells hn ok gm ⟨r1 e, inv2⟩, fun e1 => ⟨fun e => ⟨r2 e, inv2⟩, fun e2 => g_twos hn ok gm ⟨r3 (by omega), inv2⟩⟩⟩⟩
  unfold P_F_many
  simp only [fS hf, fL hf, Int.reduceToNat, true_and, l1, l8, lm.nF]
  refine ⟨fun e => G _ (by omega) (fun _ => rfl) (fun w => absurd w (by omega)) (fun w => absurd w (by omega)) (fun w => absurd w (by omega)), fun e => G _ (by omega) (fun w => absurd w (by omega)) (fun _ => rfl) (fun w => absurd w (by omega)) (fun w => absurd w (by omega)), fun e => G _ (by omega) (fun w => absurd w (by omega)) (fun w => absurd w (by omega)) (fun _ => rfl) (fun w => absurd w (by omega)), fun e => f_twos hf ok lm ?_, fun e => f_tell hf (by decide) (fun C1 c1 => ?_)⟩
  · rw [twFG]
    exact G _ (by omega) (fun w => absurd w (by omega)) (fun w => absurd w (by omega)) (fun w => absurd w (by omega)) (fun _ => rfl)
  · unfold P_G_many
    simp only [gS hn, true_and]
    exact g_in (bI_br (fun _ => both hn (by decide) inv c1 (fun _ _ _ => rfl)) (fun w => absurd w (by omega)))
