/-! my own: ways: cost, within -/
def tlN (C : Cn) (i : Nat) : Nat := (tlF (C (4 + i) 0) (C (4 + i) 1) (C 2 2)).toNat
theorem tlN_b {C : Cn} {m i : Nat} (i1 : I1 C m) (i2 : I2 C) (hi : i < m) : tlF (C (4 + i) 0) (C (4 + i) 1) (C 2 2) = ((tlN C i : Nat) : Int) ∧ tlN C i ≤ 36 := by
  have k := i1.2.2.2.2.1 i hi
  have b := tlF_b k.1 k.2 i2.2.1
  unfold tlN
  omega
theorem f_waysI {n : Nat} {C : Cn} {m src : Nat} {M : Mp} {Q : Int → Cn → Prop} (hn : 91 ≤ n) (i1 : I1 C m) (i2 : I2 C) (lm : LM C 26 (tb C 4 m) m M) (hs : src < nF M)
    (h : ∀ C2 : Cn, (∀ b t, b ≠ 68 → b ≠ 69 → b ≠ 70 → C2 b t = C b t) → TL C2 M (tlN C) → LG C2 26 M → (∀ g, g < nF M → ∃ d : Nat, C2 69 g = (d : Int) ∧ d ≤ 432 ∧ isD (ed M (tlN C)) (nF M) src g d) → Q 0 C2) : P_Ws_takeTolls n C 67 2 (fun _ C1 => P_Ws_spread n C1 67 26 (src : Int) Q) := by
  have ok := Inv.ok i1 lm
  have mm' : mm M = m := lm.1.1
  refine f_takeTolls (e := 2) hn (Or.inl rfl) i1.1 i1.2.1 (fun C1 f1 t1 => ?_)
  have tl : TL C1 M (tlN C) := by
    intro s hs
    rw [mm'] at hs
    have k := tlN_b i1 i2 hs
    exact ⟨by rw [t1 s hs]; exact k.1, k.2⟩
  have lg : LG C1 26 M := by
    have lm1 : LM C1 26 (tb C 4 m) m M := lm.congr (fun b t h1 h2 => f1 b t (by omega))
    exact ⟨lm1.nF, lm1.2.2.2.2.2⟩
  refine f_spread (l := 26) hn (Or.inl rfl) ok lg tl hs (fun C2 f2 d2 => ?_)
  refine h C2 (fun b t h1 h2 h3 => by rw [f2 b t h2 h3, f1 b t h1]) (fun s hs => by rw [f2 _ _ (by omega) (by omega)]; exact tl s hs) (lg.congr (fun b t h1 h2 => f2 b t h1 h2) (Or.inl rfl)) d2
theorem ICw {b t : Nat} (h : IC b t) : b ≠ 68 ∧ b ≠ 69 ∧ b ≠ 70 ∧ ¬ (240 ≤ b ∧ b ≤ 280) := by
  have h1 := h.2.2.2.2.2.2.2.2.2.1
  have h2 := h.1
  omega
theorem g_waysI {n : Nat} {C C1 : Cn} {m : Nat} {M : Mp} {Q : Int → Cn → Prop} (hn : 320 ≤ n) (i1 : I1 C m) (i2 : I2 C) (lm : LM C 26 (tb C 4 m) m M) (o : ∀ b t, (b = 91 ∧ (t = 0 ∨ t = 2)) ∨ (93 ≤ b ∧ b ≤ 98) → C1 b t = C b t)
    (h : ∀ C2 : Cn, (∀ b t, IC b t → C2 b t = C1 b t) → C2 91 18 = ((nF M : Nat) : Int) → (∀ f g, f < nF M → g < nF M → ∃ d : Nat, C2 (240 + f) g = (d : Int) ∧ d ≤ 432 ∧ isD (ed M (tlN C)) (nF M) f g d) → (∀ f g, f < nF M → g < nF M → f ≠ g → (∃ w, ed M (tlN C) f g w ∧ w ≤ 36 ∧ C2 (261 + f) g = ((w : Nat) : Int)) ∨ ((∀ w, ¬ ed M (tlN C) f g w) ∧ C2 (261 + f) g = 1000000)) → Q 0 C2) : P_G_costs n C1 91 Q := by
  have ok := Inv.ok i1 lm
  have mm' : mm M = m := lm.1.1
  have m6 := i1.1
  unfold P_G_costs
  simp only [gS hn, true_and]
  refine g_mapsI hn i1 lm (fun b t hb => o b t (by omega)) (fun C2 fr gm xy rw' => ?_)
  have c0 : C2 91 0 = (m : Int) := by rw [fr _ _ (IC_0 0).1, o _ _ (by omega), i1.2.2.1]
  have c2 : C2 91 2 = C 2 2 := by rw [fr _ _ ((IC_0 0).2 (by omega)), o _ _ (by omega), i2.1]
  have gw : gW C2 m M (tlN C) := by
    refine ⟨gm.g c0, gm.nF, fun j k hj hk => gm.2.2.2.2.2.1 j k ⟨hk, Or.inl (by omega)⟩, fun i hi => ?_⟩
    rw [rw' i hi 0, rw' i hi 1, tb_lt hi, tb_lt hi, c2]
    exact tlN_b i1 i2 hi
  refine g_costs hn ok mm' gw (fun C3 f3 d3 e3 => ?_)
  exact h C3 (fun b t hb => by rw [f3 b t (ICw hb).2.2.2, fr b t hb]) (by rw [f3 _ _ (by omega), gm.nF]) d3 e3
theorem f_isField {n : Nat} {C : Cn} {v : Int} {N : Nat} {Q : Int → Prop} (hn : 91 ≤ n) (h19 : N ≤ 19) (h0 : C 26 14 = N) (h : Q (bI (0 ≤ v ∧ v < (N : Int)))) : P_F_isField n C 1 v Q := by
  unfold P_F_isField
  simp only [fS hn, fL hn, Int.reduceToNat, true_and, h0]
  rw [w32_s (by omega)]
  exact f_isIn ⟨bI_or, use_Q h (bI_iff (by omega))⟩
theorem g_isField {n : Nat} {C : Cn} {v : Int} {N : Nat} {Q : Int → Prop} (hn : 320 ≤ n) (h19 : N ≤ 19) (h0 : C 91 18 = N) (h : Q (bI (0 ≤ v ∧ v < (N : Int)))) : P_G_isField n C 91 v Q := by
  unfold P_G_isField
  simp only [gS hn, Int.reduceToNat, true_and, h0]
  rw [w32_s (by omega)]
  exact g_in ⟨bI_or, use_Q h (bI_iff (by omega))⟩
theorem c_cost {n : Nat} {C : Cn} {v1 v2 : Int} (hn : 320 ≤ n) (inv : Inv C) : P_F_cost n C 1 v1 v2 (fun r C1 => P_G_cost n C1 91 v1 v2 (fun r2 C2 => r = r2 ∧ Inv C2)) := by
  have hf : 91 ≤ n := by omega
  have inv' := inv
  obtain ⟨m, i1, i2, -, -, -, -, -, -, -, ⟨M, lm, -, -, -⟩⟩ := inv'
  have ok := Inv.ok i1 lm
  have f19 := ok.f19
  have T : ¬ ((0 ≤ v1 ∧ v1 < (nF M : Int)) ∧ (0 ≤ v2 ∧ v2 < (nF M : Int))) → P_F_tell n C 1 0 (fun r C1 => P_G_cost n C1 91 v1 v2 (fun r2 C2 => r = r2 ∧ Inv C2)) := by
    intro q
    refine f_tell hf (by decide) (fun C1 c1 => ?_)
    unfold P_G_cost
    simp only [gS hn, true_and]
    refine g_waysI hn i1 i2 lm (fun b t hb => why0 c1 b t (by omega)) (fun C2 fr c18 _ _ => ?_)
    exact g_isField hn f19 c18 (bI_br (fun _ => both hn (by decide) inv c1 fr) (fun q1 => g_isField hn f19 c18 (bI_br (fun _ => both hn (by decide) inv c1 fr) (fun q2 => absurd ⟨q1, q2⟩ q))))
  unfold P_F_cost
  simp only [fS hf, Int.reduceToNat, true_and]
  refine f_isField hf f19 lm.nF (bI_br (fun q => T (fun w => q w.1)) (fun q => f_isField hf f19 lm.nF (bI_br (fun q2 => T (fun w => q2 w.2)) (fun q2 => ?_))))
  clear T
  obtain ⟨a, rfl⟩ : ∃ k : Nat, v1 = (k : Int) := ⟨v1.toNat, by omega⟩
  obtain ⟨b, rfl⟩ : ∃ k : Nat, v2 = (k : Int) := ⟨v2.toNat, by omega⟩
  refine f_waysI hf i1 i2 lm (by omega) (fun C2 f2 _ _ d2 => ?_)
  simp only [Int.toNat_natCast]
  refine ⟨by omega, ?_⟩
  obtain ⟨d, x1, x2, x3⟩ := d2 b (by omega)
  rw [x1]
  unfold P_G_cost
  simp only [gS hn, true_and]
  refine g_waysI hn i1 i2 lm (fun b t hb => f2 b t (by omega) (by omega) (by omega)) (fun C3 f3 c18 d3 _ => ?_)
  have ra := gR239 hn (by omega : a < 20)
  refine g_isField hn f19 c18 (bI_br (fun w => absurd q w) (fun _ => g_isField hn f19 c18 (bI_br (fun w => absurd q2 w) (fun _ => ?_))))
  simp only [gS hn, Int.reduceToNat, Int.toNat_natCast, ra, true_and]
  obtain ⟨d', y1, y2, y3⟩ := d3 a b (by omega) (by omega)
  refine ⟨by omega, by omega, by rw [y1, x3.uniq y3], inv.congr (fun b t hb => ?_)⟩
  have w := ICw hb
  rw [f3 b t hb, f2 b t w.1 w.2.1 w.2.2.1]
theorem c_within {n : Nat} {C : Cn} {v1 v2 : Int} (hn : 320 ≤ n) (inv : Inv C) : P_F_within n C 1 v1 v2 (fun r C1 => P_G_within n C1 91 v1 v2 (fun r2 C2 => r = r2 ∧ Inv C2)) := by
  have hf : 91 ≤ n := by omega
  have inv' := inv
  obtain ⟨m, i1, i2, -, -, -, -, -, -, -, ⟨M, lm, -, -, -⟩⟩ := inv'
  have ok := Inv.ok i1 lm
  have f19 := ok.f19
  have T : ¬ ((0 ≤ v1 ∧ v1 < (nF M : Int)) ∧ (0 ≤ v2 ∧ v2 ≤ 999)) → P_F_tell n C 1 0 (fun r C1 => P_G_within n C1 91 v1 v2 (fun r2 C2 => r = r2 ∧ Inv C2)) := by
    intro q
    refine f_tell hf (by decide) (fun C1 c1 => ?_)
    unfold P_G_within
    simp only [gS hn, true_and]
    refine g_waysI hn i1 i2 lm (fun b t hb => why0 c1 b t (by omega)) (fun C2 fr c18 _ _ => ?_)
    exact g_isField hn f19 c18 (bI_br (fun _ => both hn (by decide) inv c1 fr) (fun q1 => g_in (bI_br (fun _ => both hn (by decide) inv c1 fr) (fun q2 => absurd ⟨q1, q2⟩ q))))
  unfold P_F_within
  simp only [fS hf, Int.reduceToNat, true_and]
  refine f_isField hf f19 lm.nF (bI_br (fun q => T (fun w => q w.1)) (fun q => f_isIn (bI_br (fun q2 => T (fun w => q2 w.2)) (fun q2 => ?_))))
  clear T
  obtain ⟨a, rfl⟩ : ∃ k : Nat, v1 = (k : Int) := ⟨v1.toNat, by omega⟩
  refine f_waysI hf i1 i2 lm (by omega) (fun C2 f2 _ lg d2 => ?_)
  have l14 := lg.1
  refine lp_rule (fun (z : Int × Int) => ∃ k : Nat, k ≤ nF M ∧ z.2 = (k : Int) ∧ z.1 = ((cnt (fun g => C2 69 g ≤ v2) k : Nat) : Int)) (fun z => (30 - z.2).toNat) ?_ (0, 0) ⟨0, by omega, rfl, rfl⟩
  rintro ⟨v3, v4⟩ ⟨k, z0, z1, z2⟩ K hK
  dsimp only at z1 z2
  subst z1
  subst z2
  have cl := cnt_le (fun g => C2 69 g ≤ v2) k
  have cs := cnt_s (fun g => C2 69 g ≤ v2) k
  unfold B_F_within_53
  simp only [fS hf, fL hf, Int.reduceToNat, Int.toNat_natCast, true_and, l14]
  refine ⟨fun q3 => ?_, fun q3 => ⟨by omega, fun q4 => ?_, fun q4 => ?_⟩⟩
  · have ek : k = nF M := by omega
    subst ek
    unfold P_G_within
    simp only [gS hn, true_and]
    refine g_waysI hn i1 i2 lm (fun b t hb => f2 b t (by omega) (by omega) (by omega)) (fun C3 f3 c18 d3 _ => ?_)
    have ra := gR239 hn (by omega : a < 20)
    refine g_isField hn f19 c18 (bI_br (fun w => absurd q w) (fun _ => g_in (bI_br (fun w => absurd q2 w) (fun _ => ?_))))
    refine lp_rule (fun (z : Int × Int) => ∃ k : Nat, k ≤ nF M ∧ z.2 = (k : Int) ∧ z.1 = ((cnt (fun g => C2 69 g ≤ v2) k : Nat) : Int)) (fun z => (30 - z.2).toNat) ?_ (0, 0) ⟨0, by omega, rfl, rfl⟩
    rintro ⟨v3, v4⟩ ⟨i, y0, y1, y2⟩ K2 hK2
    dsimp only at y1 y2
    subst y1
    subst y2
    have cl := cnt_le (fun g => C2 69 g ≤ v2) i
    have cs := cnt_s (fun g => C2 69 g ≤ v2) i
    unfold B_G_within_35 J_G_within_63
    simp only [gS hn, Int.reduceToNat, Int.toNat_natCast, ra, true_and, c18]
    refine ⟨fun q5 => ⟨by rw [(by omega : i = nF M)], inv.congr (fun b t hb => ?_)⟩, fun q5 => ⟨by omega, by omega, ?_⟩⟩
    · have w := ICw hb
      rw [f3 b t hb, f2 b t w.1 w.2.1 w.2.2.1]
    · obtain ⟨d', y1, y2, y3⟩ := d3 a i (by omega) (by omega)
      obtain ⟨d, x1, x2, x3⟩ := d2 i (by omega)
      have e : C3 (240 + a) i = C2 69 i := by rw [y1, x1, x3.uniq y3]
      rw [e, w32_n (a := i) (by omega)]
      by_cases q6 : v2 < C2 69 i
      · rw [if_pos q6, Int.add_zero, w32_id (by omega) (by omega)]
        refine hK2 _ ⟨i + 1, by omega, rfl, ?_⟩ (by dsimp only; omega)
        dsimp only
        rw [cs, ind_f (by omega), Nat.add_zero]
      · rw [if_neg q6, w32_n (by omega)]
        refine hK2 _ ⟨i + 1, by omega, rfl, ?_⟩ (by dsimp only; omega)
        dsimp only
        rw [cs, ind_t (by omega)]
  · rw [w32_n (a := k) (by omega)]
    refine hK _ ⟨k + 1, by omega, rfl, ?_⟩ (by dsimp only; omega)
    dsimp only
    rw [cs, ind_f (by omega), Nat.add_zero]
  · rw [w32_n (a := k) (by omega), w32_n (by omega)]
    refine hK _ ⟨k + 1, by omega, rfl, ?_⟩ (by dsimp only; omega)
    dsimp only
    rw [cs, ind_t (by omega)]
