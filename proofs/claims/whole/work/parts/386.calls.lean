/-! my own: renumber -/
theorem gd.per {s s2 : Cn} {m k : Nat} {σ : Nat → Nat} (g : gd s m) (k6 : k ≤ 6) (σl : ∀ i, i < k → σ i < m) (σi : ∀ i j, i < k → j < k → i ≠ j → σ i ≠ σ j) (h : ∀ i, i < k → ∀ f, 2 ≤ f → f ≤ 5 → s2 i f = s (σ i) f) : gd s2 k := by
  obtain ⟨g1, g2, g3⟩ := g
  refine ⟨k6, fun i hi => ?_, fun i j hi hj hne => ?_⟩
  · have a := g2 (σ i) (σl i hi)
    unfold cB fK lK at a ⊢
    simp only [Int.toNat_natCast] at a ⊢
    rw [h i hi 2 (by omega) (by omega), h i hi 3 (by omega) (by omega), h i hi 4 (by omega) (by omega), h i hi 5 (by omega) (by omega)]
    exact a
  · have a := g3 (σ i) (σ j) (σl i hi) (σl j hj) (σi i j hi hj hne)
    unfold cApK fK lK at a ⊢
    simp only [Int.toNat_natCast] at a ⊢
    rw [h i hi 2 (by omega) (by omega), h i hi 3 (by omega) (by omega), h i hi 4 (by omega) (by omega), h i hi 5 (by omega) (by omega), h j hj 2 (by omega) (by omega), h j hj 3 (by omega) (by omega), h j hj 4 (by omega) (by omega), h j hj 5 (by omega) (by omega)]
    exact a
theorem oF_ne {m num a b : Nat} (ha : a < m) (hb : b < m) (ne : a ≠ b) : oF m num a ≠ oF m num b := by
  by_cases h : a < b
  · exact oF_inj h hb
  · exact fun w => oF_inj (m := m) (num := num) (by omega : b < a) ha w.symm
theorem c_renumber {n : Nat} {C : Cn} {v1 : Int} (hn : 320 ≤ n) (inv : Inv C) : P_F_renumber n C 1 v1 (fun r C1 => P_G_renumber n C1 91 v1 (fun r2 C2 => r = r2 ∧ Inv C2)) := by
  have hf : 91 ≤ n := by omega
  have inv' := inv
  obtain ⟨m, i1, i2, -, i4, -, -, -, -, -, ⟨M, lm, st, ch, r0⟩⟩ := inv'
  obtain ⟨m6, m1, m2, m3, m4, m5, m7⟩ := i1
  have f720 := fct_le m (by omega)
  have fp := fct_pos m
  have l0 : C 26 0 = (m : Int) := lm.f.1
  have wG : w32 (((fct m : Nat) : Int) - 1) = ((fct m : Nat) : Int) - 1 := w32_s (by omega)
  unfold P_F_renumber
  simp only [fS hf, Int.reduceToNat, true_and]
  refine f_isOrder hf m6 l0 (bI_br (fun q => f_tell hf (by decide) (fun C1 c1 => ?_)) (fun q => ?_))
  · unfold P_G_renumber
    simp only [gS hn, true_and]
    refine g_orders hn m6 (by rw [why0 c1 _ _ (by omega), m2]) ?_
    rw [wG]
    clear wG
    exact g_in (bI_br (fun _ => both hn (by decide) inv c1 (fun _ _ _ => rfl)) (fun w => absurd (by omega) q))
  obtain ⟨num, rfl⟩ : ∃ k : Nat, v1 = (k : Int) := ⟨v1.toNat, by omega⟩
  clear lm st ch
  refine f_takeOrder (num := num) hf m6 l0 (by clear wG; omega) (fun C2 f2 n2 => ?_)
  refine f_takeAll (a := 18) (b := 2) hf (Or.inr (Or.inr rfl)) (Or.inl rfl) (by decide) m6 (by rw [f2 _ _ (by omega), m1]) (fun D d1 d2 d3 d4 d5 d6 => ?_)
  have dC : ∀ q t, ¬ (20 ≤ q ∧ q ≤ 25 ∧ t < 6) → q ≠ 18 → q ≠ 59 → D q t = C q t := fun q t h1 h2 h3 => by rw [d1 q t (by omega) (by omega), f2 q t h3]
  have dr : ∀ r, r < m → ∀ f, f < 6 → D (20 + r) f = C (4 + r) f := fun r hr f hf => by
    have := d6 r hr f hf
    rw [f2 _ _ (by omega)] at this
    exact this
  have dn : ∀ i, i < m → D 59 i = ((oF m num i : Nat) : Int) := fun i hi => by rw [d1 _ _ (by omega) (by omega), n2 i hi]
  clear d1 d2 d3 d4 d5 d6 f2 n2
  refine lp_rule (fun (z : Cn × Int) => ∃ k : Nat, k ≤ m ∧ z.2 = (k : Int) ∧ (∀ q t, ¬ (4 ≤ q ∧ q ≤ 9 ∧ t < 6) → z.1 q t = D q t) ∧ ∀ i, i < k → ∀ f, f < 6 → z.1 (4 + i) f = C (4 + oF m num i) f) (fun z => (20 - z.2).toNat) ?_ (D, 0) ⟨0, by omega, rfl, fun _ _ _ => rfl, fun i hi => absurd hi (Nat.not_lt_zero i)⟩
  rintro ⟨E, v2⟩ ⟨k, z0, z1, z2, z3⟩ K hK
  dsimp only at z1 z2 z3
  subst z1
  have e1 : E 2 1 = (m : Int) := by rw [z2 _ _ (by omega), dC _ _ (by omega) (by omega) (by omega), m1]
  unfold B_F_renumber_38
  simp only [fS hf, Int.reduceToNat, Int.toNat_natCast, true_and, e1]
  refine ⟨fun q2 => ?_, fun q2 => ?_⟩
  · have ek : k = m := by clear wG; omega
    subst ek
    have g4 : gd (tb E 4 k) k := m5.per m6 (fun i hi => oF_lt (num := num) hi) (fun i j hi hj hne => oF_ne hi hj hne) (fun i hi f h1 h2 => by rw [tb_lt hi, tb_lt (oF_lt hi)]; exact z3 i hi f (by omega))
    refine f_settle hf e1 g4 (fun C5 M5 f5 lm5 st5 x11 => ?_)
    have c5 : ∀ q t, ¬ (26 ≤ q ∧ q ≤ 41) → ¬ (60 ≤ q ∧ q ≤ 63) → ¬ (q = 58 ∧ t = 11) → ¬ (4 ≤ q ∧ q ≤ 9 ∧ t < 6) → ¬ (20 ≤ q ∧ q ≤ 25 ∧ t < 6) → q ≠ 18 → q ≠ 59 → C5 q t = C q t := fun q t h1 h2 h3 h4 h5 h6 h7 => by rw [f5 q t h1 h2 h3, z2 q t h4, dC q t h5 h6 h7]
    have c5r : ∀ i, i < k → ∀ f, f < 6 → C5 (4 + i) f = C (4 + oF k num i) f := fun i hi f hf => by rw [f5 _ _ (by omega) (by omega) (by omega), z3 i hi f hf]
    have et5 : tb C5 4 k = tb E 4 k := tb_congr (fun i hi f => f5 _ _ (by omega) (by omega) (by omega))
    rw [← et5] at g4
    clear et5 f5 z2 z3 dC dr dn hK
    unfold P_G_renumber
    simp only [gS hn, true_and]
    have m5' : C5 91 0 = (k : Int) := by rw [c5 _ _ (by omega) (by omega) (by omega) (by omega) (by omega) (by omega) (by omega), m2]
    refine g_orders hn m6 m5' ?_
    rw [wG]
    clear wG
    refine g_in (bI_br (fun w => absurd (by omega) w) (fun _ => ?_))
    refine g_laysOrder hn m6 m5' (by omega) (fun E1 ee1 n1 => ?_)
    refine lp_rule (fun (z : Cn × Int) => ∃ j : Nat, j ≤ k ∧ z.2 = (j : Int) ∧ (∀ q t, ¬ (233 ≤ q ∧ q ≤ 238) → z.1 q t = E1 q t) ∧ ∀ i, i < j → ∀ f, f < 6 → z.1 (233 + i) f = E1 (93 + i) f) (fun z => (20 - z.2).toNat) ?_ (E1, 0) ⟨0, by omega, rfl, fun _ _ _ => rfl, fun i hi => absurd hi (Nat.not_lt_zero i)⟩
    rintro ⟨F, v3⟩ ⟨j, y0, y1, y2, y3⟩ K2 hK2
    dsimp only at y1 y2 y3
    subst y1
    have f0 : F 91 0 = (k : Int) := by rw [y2 _ _ (by omega), ee1 _ _ (by omega), m5']
    unfold B_G_renumber_29
    simp only [gS hn, Int.reduceToNat, Int.toNat_natCast, true_and, f0]
    refine ⟨fun q3 => ?_, fun q3 => ?_⟩
    · have ej : j = k := by omega
      subst ej
      refine lp_rule (fun (z : Cn × Int) => ∃ l : Nat, l ≤ j ∧ z.2 = (l : Int) ∧ (∀ q t, ¬ (93 ≤ q ∧ q ≤ 98 ∧ t < 6) → z.1 q t = F q t) ∧ ∀ i, i < l → ∀ f, f < 6 → z.1 (93 + i) f = C (4 + oF j num i) f) (fun z => (20 - z.2).toNat) ?_ (F, 0) ⟨0, by omega, rfl, fun _ _ _ => rfl, fun i hi => absurd hi (Nat.not_lt_zero i)⟩
      rintro ⟨G, v4⟩ ⟨l, x0, x1, x2, x3⟩ K3 hK3
      dsimp only at x1 x2 x3
      subst x1
      have g0 : G 91 0 = (j : Int) := by rw [x2 _ _ (by omega), f0]
      unfold B_G_renumber_60
      simp only [gS hn, Int.reduceToNat, Int.toNat_natCast, true_and, g0]
      have gC : ∀ q t, ¬ (93 ≤ q ∧ q ≤ 98 ∧ t < 6) → ¬ (233 ≤ q ∧ q ≤ 238) → q ≠ 138 → G q t = C5 q t := fun q t h1 h2 h3 => by rw [x2 q t h1, y2 q t h2, ee1 q t h3]
      refine ⟨fun q4 => ?_, fun q4 => ?_⟩
      · have el : l = j := by omega
        subst el
        have et : tb G 4 l = tb C5 4 l := tb_congr (fun i hi f => gC _ _ (by omega) (by omega) (by omega))
        have gz : ∀ b f, 6 ≤ f → (4 ≤ b ∧ b ≤ 9) ∨ (20 ≤ b ∧ b ≤ 25) ∨ (93 ≤ b ∧ b ≤ 98) → G b f = 0 := fun b f h1 h2 => by
          rw [gC _ _ (by omega) (by omega) (by omega), c5 _ _ (by omega) (by omega) (by omega) (by omega) (by omega) (by omega) (by omega)]
          exact m7 b f h1 h2
        have gr : ∀ i, i < l → ∀ f, f < 6 → G (4 + i) f = C (4 + oF l num i) f := fun i hi f hf => by rw [gC _ _ (by omega) (by omega) (by omega), c5r i hi f hf]
        have gI : ∀ q t, ¬ (26 ≤ q ∧ q ≤ 41) → ¬ (60 ≤ q ∧ q ≤ 63) → ¬ (q = 58 ∧ t = 11) → ¬ (4 ≤ q ∧ q ≤ 9 ∧ t < 6) → ¬ (20 ≤ q ∧ q ≤ 25 ∧ t < 6) → q ≠ 18 → q ≠ 59 → ¬ (93 ≤ q ∧ q ≤ 98 ∧ t < 6) → ¬ (100 ≤ q ∧ q ≤ 281) → G q t = C q t := fun q t h1 h2 h3 h4 h5 h6 h7 h8 h9 => by rw [gC q t h8 (by omega) (by omega), c5 q t h1 h2 h3 h4 h5 h6 h7]
        refine inv.upS (m := l) (fun b t hb hb2 => ?_) ⟨m6, ?_, g0, fun i hi f => ?_, fun i hi => ?_, by rw [et]; exact g4, gz⟩ (i2.congr (fun b t hb => gI b t (by omega) (by omega) (by omega) (by omega) (by omega) (by omega) (by omega) (by omega) (by omega))) (i4.congr (fun b t hb => gI b t (by omega) (by omega) (by omega) (by omega) (by omega) (by omega) (by omega) (by omega) (by omega))) ⟨M5, ?_, st5.congr (fun b t h1 h2 => gC b t (by omega) (by omega) (by omega)), Or.inl (by rw [gC _ _ (by omega) (by omega) (by omega), x11]), fun t ht => ?_⟩
        · obtain ⟨b1, b2, b3, b4, b5, b6, b7, -, -, -, -, b12, -, b14, -⟩ := hb
          clear b2 b3 b4 b5 b6
          exact gI b t (by omega) (by omega) (by omega) (by omega) b14 b12 b7 (by omega) b1
        · rw [gI _ _ (by omega) (by omega) (by omega) (by omega) (by omega) (by omega) (by omega) (by omega) (by omega), m1]
        · by_cases e : f < 6
          · rw [x3 i hi f e, gr i hi f e]
          · rw [gz _ _ (by omega) (by omega), gz _ _ (by omega) (by omega)]
        · rw [gr i hi 0 (by omega), gr i hi 1 (by omega)]
          exact m4 _ (oF_lt hi)
        · rw [et]
          exact lm5.congr (fun b t h1 h2 => gC b t (by omega) (by omega) (by omega))
        · rw [gI _ _ (by omega) (by omega) (by omega) (by omega) (by omega) (by omega) (by omega) (by omega) (by omega)]
          exact r0 t ht
      · have hl : l < j := by omega
        have ol := oF_lt (num := num) hl
        have gn : G 138 l = ((oF j num l : Nat) : Int) := by rw [x2 _ _ (by omega), y2 _ _ (by omega), n1 l hl]
        have ga := gR92 hn (by omega : l < 6)
        have gb := gR232 hn (by omega : oF j num l < 6)
        simp only [gn, Int.toNat_natCast]
        rw [ga.1, gb.1]
        refine ⟨by omega, by omega, by omega, ?_⟩
        refine g_copies gb.2 ga.2 (by omega) (fun F2 h1 h2 => ?_)
        rw [w32_n (by omega)]
        refine hK3 _ ⟨l + 1, by omega, rfl, fun q t hq => ?_, fun i hi f hf => ?_⟩ (by dsimp only; omega)
        · dsimp only
          rw [h1 q t (by omega), x2 q t hq]
        · dsimp only
          by_cases e : i = l
          · rw [e, h2 f hf, x2 _ _ (by omega), y3 _ ol f hf, ee1 _ _ (by omega), c5 _ _ (by omega) (by omega) (by omega) (by omega) (by omega) (by omega) (by omega), m3 _ ol]
          · rw [h1 _ _ (by omega), x3 i (by omega) f hf]
    · have ga := gR92 hn (by omega : j < 6)
      have gb := gR232 hn (by omega : j < 6)
      rw [ga.1, gb.1]
      refine ⟨by omega, by omega, ?_⟩
      refine g_copies ga.2 gb.2 (by omega) (fun F2 h1 h2 => ?_)
      rw [w32_n (by omega)]
      refine hK2 _ ⟨j + 1, by omega, rfl, fun q t hq => ?_, fun i hi f hf => ?_⟩ (by dsimp only; omega)
      · dsimp only
        rw [h1 q t (by omega), y2 q t hq]
      · dsimp only
        by_cases e : i = j
        · rw [e, h2 f hf, y2 _ _ (by omega)]
        · rw [h1 _ _ (by omega), y3 i (by omega) f hf]
  · clear wG
    have hk : k < m := by omega
    have ok' := oF_lt (num := num) hk
    have en : E 59 k = ((oF m num k : Nat) : Int) := by rw [z2 _ _ (by omega), dn k hk]
    have ra := f3R hf (by omega : k < 6)
    have rb : PT 19 (oF m num k) = ((20 + oF m num k : Nat) : Int) ∧ okO n ((20 + oF m num k : Nat) : Int) 7 := EW (e := 18) hf (Or.inr (Or.inr rfl)) (by omega)
    simp only [en, Int.toNat_natCast, ra, rb, true_and]
    refine ⟨by omega, by omega, by omega, ?_⟩
    refine f_take ra.2 rb.2 (by omega) (fun F2 h1 h2 => ?_)
    rw [w32_n (by omega)]
    refine hK _ ⟨k + 1, by omega, rfl, fun q t hq => ?_, fun i hi f hf => ?_⟩ (by dsimp only; omega)
    · dsimp only
      rw [h1 q t (by omega), z2 q t hq]
    · dsimp only
      by_cases e : i = k
      · rw [e, h2 f hf, z2 _ _ (by omega), dr _ ok' f hf]
      · rw [h1 _ _ (by omega), z3 i (by omega) f hf]
