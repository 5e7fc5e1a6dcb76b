/-! my own: lose -/
theorem g_aside {n : Nat} {C : Cn} {Q : Int → Cn → Prop} (hn : 320 ≤ n) (h : ∀ D : Cn, (∀ q t, ¬ (233 ≤ q ∧ q ≤ 238) → ¬ (q = 91 ∧ t = 34) → D q t = C q t) → D 91 34 = C 91 0 → (∀ i, i < 6 → ∀ f, f < 6 → D (233 + i) f = C (93 + i) f) → Q 0 D) : P_G_laysAside n C 91 Q := by
  unfold P_G_laysAside
  simp only [gS hn, Int.reduceToNat, true_and]
  intro C2 c2
  refine lp_rule (fun (z : Cn × Int) => ∃ k : Nat, k ≤ 6 ∧ z.2 = (k : Int) ∧ (∀ q t, ¬ (233 ≤ q ∧ q ≤ 238) → z.1 q t = C2 q t) ∧ ∀ i, i < k → ∀ f, f < 6 → z.1 (233 + i) f = C2 (93 + i) f) (fun z => (20 - z.2).toNat) ?_ (C2, 0) ⟨0, by omega, rfl, fun _ _ _ => rfl, fun i hi => absurd hi (Nat.not_lt_zero i)⟩
  rintro ⟨F, v3⟩ ⟨k, z0, z1, z2, z3⟩ K hK
  dsimp only at z1 z2 z3
  subst z1
  unfold B_G_laysAside_10
  simp only [gS hn, Int.reduceToNat, Int.toNat_natCast, true_and]
  refine ⟨fun q => h F (fun q t h1 h2 => by rw [z2 q t h1, c2, wr_ne h2]) (by rw [z2 _ _ (by omega), c2, wr_same]) (fun i hi f hf => by rw [z3 i (by omega) f hf, c2, wr_ne (by omega)]), fun q => ⟨by omega, by omega, ?_⟩⟩
  have ga := gR92 hn (by omega : k < 6)
  have gb := gR232 hn (by omega : k < 6)
  rw [ga.1, gb.1]
  refine g_copies ga.2 gb.2 (by omega) (fun F2 h1 h2 => ?_)
  rw [w32_n (by omega)]
  refine hK _ ⟨k + 1, by omega, rfl, fun q t hq => ?_, fun i hi f hf => ?_⟩ (by dsimp only; omega)
  · dsimp only
    rw [h1 q t (by omega), z2 q t hq]
  · dsimp only
    by_cases e : i = k
    · rw [e, h2 f hf, z2 _ _ (by omega)]
    · rw [h1 _ _ (by omega), z3 i (by omega) f hf]
theorem g_layB {n : Nat} {C : Cn} {Q : Int → Cn → Prop} (hn : 320 ≤ n) (h : ∀ D : Cn, (∀ q t, ¬ (93 ≤ q ∧ q ≤ 98 ∧ t < 6) → ¬ (q = 91 ∧ t = 0) → D q t = C q t) → D 91 0 = C 91 34 → (∀ i, i < 6 → ∀ f, f < 6 → D (93 + i) f = C (233 + i) f) → Q 0 D) : P_G_laysBack n C 91 Q := by
  unfold P_G_laysBack
  simp only [gS hn, Int.reduceToNat, true_and]
  intro C2 c2
  refine lp_rule (fun (z : Cn × Int) => ∃ k : Nat, k ≤ 6 ∧ z.2 = (k : Int) ∧ (∀ q t, ¬ (93 ≤ q ∧ q ≤ 98 ∧ t < 6) → z.1 q t = C2 q t) ∧ ∀ i, i < k → ∀ f, f < 6 → z.1 (93 + i) f = C2 (233 + i) f) (fun z => (20 - z.2).toNat) ?_ (C2, 0) ⟨0, by omega, rfl, fun _ _ _ => rfl, fun i hi => absurd hi (Nat.not_lt_zero i)⟩
  rintro ⟨F, v3⟩ ⟨k, z0, z1, z2, z3⟩ K hK
  dsimp only at z1 z2 z3
  subst z1
  unfold B_G_laysBack_10
  simp only [gS hn, Int.reduceToNat, Int.toNat_natCast, true_and]
  refine ⟨fun q => h F (fun q t h1 h2 => by rw [z2 q t h1, c2, wr_ne h2]) (by rw [z2 _ _ (by omega), c2, wr_same]) (fun i hi f hf => by rw [z3 i (by omega) f hf, c2, wr_ne (by omega)]), fun q => ⟨by omega, by omega, ?_⟩⟩
  have ga := gR92 hn (by omega : k < 6)
  have gb := gR232 hn (by omega : k < 6)
  rw [ga.1, gb.1]
  refine g_copies gb.2 ga.2 (by omega) (fun F2 h1 h2 => ?_)
  rw [w32_n (by omega)]
  refine hK _ ⟨k + 1, by omega, rfl, fun q t hq => ?_, fun i hi f hf => ?_⟩ (by dsimp only; omega)
  · dsimp only
    rw [h1 q t (by omega), z2 q t hq]
  · dsimp only
    by_cases e : i = k
    · rw [e, h2 f hf, z2 _ _ (by omega)]
    · rw [h1 _ _ (by omega), z3 i (by omega) f hf]
theorem frP.per {s s2 : Cn} {m k : Nat} {x y : Int} {σ : Nat → Nat} (h : frP s m x y) (σl : ∀ i, i < k → σ i < m) (hr : ∀ i, i < k → ∀ f, 2 ≤ f → f ≤ 5 → s2 i f = s (σ i) f) : frP s2 k x y := by
  refine ⟨fun w => h.1 ?_, fun i hi w => h.2 (σ i) (σl i hi) ?_⟩
  · obtain ⟨t, t0, t1, t2⟩ := w
    obtain ⟨r, rfl⟩ : ∃ r : Nat, t = (r : Int) := ⟨t.toNat, by omega⟩
    have hr1 : r < k := by omega
    have e1 : (0 + (r : Int)).toNat = r := by omega
    have e2 : (0 + ((σ r : Nat) : Int)).toNat = σ r := by omega
    refine ⟨((σ r : Nat) : Int), by omega, by have := σl r hr1; omega, ?_⟩
    unfold fK lK at t2 ⊢
    rw [e1, hr r hr1 2 (by omega) (by omega), hr r hr1 3 (by omega) (by omega), hr r hr1 4 (by omega) (by omega), hr r hr1 5 (by omega) (by omega)] at t2
    rw [e2]
    exact t2
  · unfold cOn tC at w ⊢
    simp only [Int.toNat_natCast] at w ⊢
    rw [hr i hi 2 (by omega) (by omega), hr i hi 3 (by omega) (by omega), hr i hi 4 (by omega) (by omega), hr i hi 5 (by omega) (by omega)] at w
    exact w
/-- the table without k -/
def sT (C : Cn) (m k : Nat) : Cn := fun r f => if r < m - 1 then C (4 + srcW (k : Int) r) f else 0
theorem srcW_in {m k r : Nat} (hr : r < m - 1) : srcW (k : Int) r < m := by
  unfold srcW
  split <;> omega
theorem srcW_ne {k i j : Nat} (h : i ≠ j) : srcW (k : Int) i ≠ srcW (k : Int) j := by
  unfold srcW
  split <;> split <;> omega
theorem sT_row {C : Cn} {m k r : Nat} (hr : r < m - 1) (f : Nat) : sT C m k r f = tb C 4 m (srcW (k : Int) r) f := by
  unfold sT
  rw [if_pos hr, tb_lt (srcW_in hr)]
theorem sT_gd {C : Cn} {m k : Nat} (g : gd (tb C 4 m) m) : gd (sT C m k) (m - 1) :=
  g.per (σ := srcW (k : Int)) (by have := g.1; omega) (fun i hi => srcW_in hi) (fun i j _ _ h => srcW_ne h) (fun i hi f _ _ => sT_row hi f)
theorem sT_fr {C : Cn} {m k : Nat} {x y : Int} (h : frP (tb C 4 m) m x y) : frP (sT C m k) (m - 1) x y :=
  h.per (σ := srcW (k : Int)) (fun i hi => srcW_in hi) (fun i hi f _ _ => sT_row hi f)
theorem IC_l {b t : Nat} (h : IC b t) : ¬ (100 ≤ b ∧ b ≤ 281) ∧ ¬ (b = 91 ∧ 9 ≤ t ∧ t ≤ 34) ∧ ¬ (42 ≤ b ∧ b ≤ 57) ∧ ¬ (67 ≤ b ∧ b ≤ 70) ∧ b ≠ 18 ∧ ¬ (20 ≤ b ∧ b ≤ 25 ∧ t < 6) := by
  obtain ⟨h1, h2, -, -, -, h6, -, -, -, h10, -, h12, -, h14, -⟩ := h
  exact ⟨h1, by omega, h6, h10, h12, h14⟩
theorem c_lose {n : Nat} {C : Cn} {v1 v2 v3 v4 : Int} (hn : 320 ≤ n) (inv : Inv C) : P_F_lose n C 1 v1 v2 v3 v4 (fun r C1 => P_G_lose n C1 91 v1 v2 v3 v4 (fun r2 C2 => r = r2 ∧ Inv C2)) := by
  have hf : 91 ≤ n := by omega
  have inv' := inv
  obtain ⟨m, i1, i2, -, -, -, -, -, -, -, ⟨M, lm, -, -, -⟩⟩ := inv'
  have i1' := i1
  obtain ⟨m6, m1, m2, m3, m4, m5, m7⟩ := i1'
  have et : ∀ C1 : Cn, (∀ b t, 93 ≤ b → b ≤ 98 → C1 b t = C b t) → tb C1 93 m = tb C 4 m := fun C1 h => by
    rw [← i1.tbe]
    exact tb_congr (fun i hi f => h _ _ (by omega) (by omega))
  have T0 : ¬ ((bd v1 ∧ bd v2) ∧ (bd v3 ∧ bd v4)) → P_F_tell n C 1 0 (fun r C1 => P_G_lose n C1 91 v1 v2 v3 v4 (fun r2 C2 => r = r2 ∧ Inv C2)) := by
    intro q
    refine f_tell hf (by decide) (fun C1 c1 => ?_)
    unfold P_G_lose
    simp only [gS hn, true_and]
    exact g_isPoint (bI_br (fun _ => both hn (by decide) inv c1 (fun _ _ _ => rfl)) (fun q1 => g_isPoint (bI_br (fun _ => both hn (by decide) inv c1 (fun _ _ _ => rfl)) (fun q2 => absurd ⟨q1, q2⟩ q))))
  unfold P_F_lose
  simp only [fS hf, Int.reduceToNat, true_and, m1]
  refine f_isPoint (bI_br (fun q => T0 (fun w => q w.1)) (fun q => f_isPoint (bI_br (fun q2 => T0 (fun w => q2 w.2)) (fun q2 => ?_))))
  clear T0
  have T4 : ¬ (frP (tb C 4 m) m v1 v2 ∧ frP (tb C 4 m) m v3 v4) → P_F_tell n C 1 4 (fun r C1 => P_G_lose n C1 91 v1 v2 v3 v4 (fun r2 C2 => r = r2 ∧ Inv C2)) := by
    intro w
    refine f_tell hf (by decide) (fun C1 c1 => ?_)
    have e := et C1 (fun b t h1 h2 => why0 c1 b t (by omega))
    unfold P_G_lose
    simp only [gS hn, true_and]
    refine g_isPoint (bI_br (fun w => absurd q w) (fun _ => g_isPoint (bI_br (fun w => absurd q2 w) (fun _ => ?_))))
    refine g_areFree (m := m) hn (by rw [why0 c1 _ _ (by omega), m2]) (by rw [e]; exact m5) q.1 q.2 q2.1 q2.2 (fun w1 w2 => ?_) (fun _ C2 f2 => ?_)
    · rw [e] at w1 w2
      exact absurd ⟨w1, w2⟩ w
    · refine ⟨fun _ => both hn (by decide) inv c1 (fun b t hb => ?_), fun w => absurd rfl w⟩
      have x := IC_l hb
      exact f2 b t (by omega) (by omega)
  refine f_held hf i1 lm q.1 q.2 (fun fx => ⟨fun w => absurd w (by decide), fun _ => f_held hf i1 lm q2.1 q2.2 (fun fu => ⟨fun w => absurd w (by decide), fun _ => ?_⟩) (fun w => ⟨fun _ => T4 (fun x => w x.2), fun x => absurd rfl x⟩)⟩) (fun w => ⟨fun _ => T4 (fun x => w x.1), fun x => absurd rfl x⟩)
  clear T4 lm
  have G : ∀ (C1 : Cn) (Q : Int → Cn → Prop), (∀ b t, (93 ≤ b ∧ b ≤ 98) ∨ (b = 91 ∧ t = 0) → C1 b t = C b t) → (∀ C2 : Cn, (∀ b t, b < 101 ∨ 137 < b → ¬ (b = 91 ∧ (10 ≤ t ∧ t ≤ 24)) → C2 b t = C1 b t) → (m = 0 → P_G_finds n C2 91 3 Q) ∧ (m ≠ 0 → P_G_laysAside n C2 91 (fun (_ : Int) (C_24 : Cn) => ∃ f_52 : Nat, lp (B_G_lose_67 n 91 v1 v2 v3 v4 Q) f_52 (C_24, (-1), 0, 0)))) → P_G_lose n C1 91 v1 v2 v3 v4 Q := by
    intro C1 Q o h
    have e := et C1 (fun b t h1 h2 => o b t (by omega))
    unfold P_G_lose
    simp only [gS hn, Int.reduceToNat, true_and]
    refine g_isPoint (bI_br (fun w => absurd q w) (fun _ => g_isPoint (bI_br (fun w => absurd q2 w) (fun _ => ?_))))
    refine g_areFree (m := m) hn (by rw [o _ _ (by omega), m2]) (by rw [e]; exact m5) q.1 q.2 q2.1 q2.2 (fun w1 w2 C2 f2 => ⟨fun w => absurd w (by decide), fun _ => ?_⟩) (fun w => ?_)
    · have c0 : C2 91 0 = (m : Int) := by rw [f2 _ _ (by omega) (by omega), o _ _ (by omega), m2]
      rw [c0]
      have hh := h C2 f2
      exact ⟨fun w => hh.1 (by omega), fun w => hh.2 (by omega)⟩
    · rw [e] at w
      exact absurd ⟨fx, fu⟩ w
  have T3 : ¬ 0 < m → P_F_tell n C 1 3 (fun r C1 => P_G_lose n C1 91 v1 v2 v3 v4 (fun r2 C2 => r = r2 ∧ Inv C2)) := by
    intro pos
    refine f_tell hf (by decide) (fun C1 c1 => G C1 _ (fun b t hb => why0 c1 b t (by omega)) (fun C2 f2 => ⟨fun _ => both hn (by decide) inv c1 (fun b t hb => ?_), fun w => absurd pos (by omega)⟩))
    have x := IC_l hb
    exact f2 b t (by omega) (by omega)
  refine ⟨fun pos => ?_, fun pos => T3 (by omega)⟩
  clear T3
  have mp : 0 < m := by omega
  generalize hDD : (fun (k d : Nat) => cBw (sT C m k) (m - 1) (fun r => tlN C (srcW (k : Int) r)) v1 v2 v3 v4 d) = DD
  have DDi : ∀ k d, DD k d ↔ cBw (sT C m k) (m - 1) (fun r => tlN C (srcW (k : Int) r)) v1 v2 v3 v4 d := fun k d => by rw [← hDD]
  have DDu : ∀ k d d', DD k d → DD k d' → d' = d := fun k d d' h1 h2 => ((DDi k d').mp h2).uniq ((DDi k d).mp h1)
  clear hDD
  refine lp_rule (fun (z : Cn × Int × Int × Int) => ∃ k : Nat, k ≤ m ∧ z.2.2.2 = (k : Int) ∧ (∀ b t, ¬ (20 ≤ b ∧ b ≤ 25 ∧ t < 6) → b ≠ 18 → ¬ (42 ≤ b ∧ b ≤ 57) → ¬ (68 ≤ b ∧ b ≤ 70) → z.1 b t = C b t) ∧ ((k = 0 ∧ z.2.1 = 0 ∧ z.2.2.1 = 1000000) ∨ ∃ i d : Nat, z.2.1 = (i : Int) ∧ z.2.2.1 = (d : Int) ∧ bc DD k i d)) (fun z => (20 - z.2.2.2).toNat) ?_ (C, 0, 1000000, 0) ⟨0, by omega, rfl, fun _ _ _ _ _ _ => rfl, Or.inl ⟨rfl, rfl, rfl⟩⟩
  rintro ⟨E, v5, v6, v7⟩ ⟨k, z0, z1, z2, z3⟩ K hK
  dsimp only at z1 z2 z3
  subst z1
  have e1 : E 2 1 = (m : Int) := by rw [z2 _ _ (by omega) (by omega) (by omega) (by omega), m1]
  unfold B_F_lose_75
  simp only [fS hf, Int.reduceToNat, Int.toNat_natCast, true_and, e1]
  refine ⟨fun q3 => ?_, fun q3 => ?_⟩
  · have ek : k = m := by omega
    subst ek
    rcases z3 with ⟨y1, -, -⟩ | ⟨i, d, y1, y2, y3⟩
    · omega
    subst y1
    clear hK y2
    refine G E _ (fun b t hb => z2 b t (by omega) (by omega) (by omega) (by omega)) (fun E1 fe1 => ⟨fun w => absurd w (by omega), fun _ => ?_⟩)
    refine g_aside hn (fun E2 fe2 a34 ar => ?_)
    have e2C : ∀ b t, ¬ (20 ≤ b ∧ b ≤ 25 ∧ t < 6) → b ≠ 18 → ¬ (42 ≤ b ∧ b ≤ 57) → ¬ (68 ≤ b ∧ b ≤ 70) → b < 101 ∨ 280 < b → ¬ (b = 91 ∧ (10 ≤ t ∧ t ≤ 34)) → E2 b t = C b t := fun b t h1 h2 h3 h4 h5 h6 => by rw [fe2 b t (by omega) (by omega), fe1 b t (by omega) (by omega), z2 b t h1 h2 h3 h4]
    have e20 : E2 91 0 = (k : Int) := by rw [e2C _ _ (by omega) (by omega) (by omega) (by omega) (by omega) (by omega), m2]
    have e234 : E2 91 34 = (k : Int) := by rw [a34, fe1 _ _ (by omega) (by omega), z2 _ _ (by omega) (by omega) (by omega) (by omega), m2]
    have e2r : ∀ i, i < 6 → ∀ f, f < 6 → E2 (233 + i) f = E2 (93 + i) f := fun i hi f hf => by rw [ar i hi f hf, fe2 _ _ (by omega) (by omega)]
    clear fe1 fe2 a34 ar z2
    refine lp_rule (fun (z : Cn × Int × Int × Int) => ∃ j : Nat, j ≤ k ∧ z.2.2.2 = (j : Int) ∧ (∀ b t, b < 101 ∨ 137 < b → ¬ (240 ≤ b ∧ b ≤ 280) → ¬ (b = 91 ∧ (10 ≤ t ∧ t ≤ 24)) → z.1 b t = E2 b t) ∧ ((j = 0 ∧ z.2.1 = -1) ∨ ∃ i d : Nat, z.2.1 = (i : Int) ∧ z.2.2.1 = (d : Int) ∧ bc DD j i d)) (fun z => (20 - z.2.2.2).toNat) ?_ (E2, -1, 0, 0) ⟨0, by omega, rfl, fun _ _ _ _ _ => rfl, Or.inl ⟨rfl, rfl⟩⟩
    rintro ⟨F, w5, w6, w7⟩ ⟨j, x0, x1, x2, x3⟩ K2 hK2
    dsimp only at x1 x2 x3
    subst x1
    have f34 : F 91 34 = (k : Int) := by rw [x2 _ _ (by omega) (by omega) (by omega), e234]
    unfold B_G_lose_67
    simp only [gS hn, Int.reduceToNat, Int.toNat_natCast, true_and, f34]
    refine ⟨fun q4 => ?_, fun q4 => ?_⟩
    · have ej : j = k := by omega
      subst ej
      rcases x3 with ⟨y1, -⟩ | ⟨i2, d2, y1, y2, y4⟩
      · omega
      refine ⟨by rw [y1, y3.uniq y4], inv.congr (fun b t hb => ?_)⟩
      have x := IC_l hb
      rw [x2 b t (by omega) (by omega) (by omega), e2C b t (by omega) (by omega) (by omega) (by omega) (by omega) (by omega)]
    · have hj : j < k := by omega
      clear y3
      refine lp_rule (fun (z : Cn × Int) => ∃ l : Nat, j ≤ l ∧ l ≤ k - 1 ∧ z.2 = (l : Int) ∧ (∀ q t, ¬ (93 ≤ q ∧ q ≤ 98 ∧ t < 6) → z.1 q t = F q t) ∧ ∀ r, r < 6 → ∀ f, f < 6 → z.1 (93 + r) f = if j ≤ r ∧ r < l then F (93 + (r + 1)) f else F (93 + r) f) (fun z => (20 - z.2).toNat) ?_ (F, (j : Int)) ⟨j, by omega, by omega, rfl, fun _ _ _ => rfl, fun r hr f hf => by rw [if_neg (by omega)]⟩
      rintro ⟨H, w8⟩ ⟨l, t0, t1, t2, t3, t4⟩ K3 hK3
      dsimp only at t2 t3 t4
      subst t2
      have h0 : H 91 0 = (k : Int) := by rw [t3 _ _ (by omega), x2 _ _ (by omega) (by omega) (by omega), e20]
      have w1 : w32 ((k : Int) - 1) = ((k - 1 : Nat) : Int) := by
        rw [w32_s (by omega)]
        omega
      unfold B_G_lose_80
      simp only [gS hn, Int.reduceToNat, Int.toNat_natCast, true_and, h0, w1]
      clear w1
      refine ⟨fun q5 => ?_, fun q5 => ?_⟩
      · have el : l = k - 1 := by omega
        subst el
        clear hK3
        have w1 : w32 ((k : Int) - 1) = ((k - 1 : Nat) : Int) := by
          rw [w32_s (by omega)]
          omega
        unfold J_G_lose_116
        simp only [gS hn, Int.reduceToNat, true_and, h0, w1]
        clear w1
        intro I ci
        have io : ∀ q t, ¬ (q = 91 ∧ t = 0) → I q t = H q t := fun q t h1 => by rw [ci, wr_ne h1]
        have i0 : I 91 0 = ((k - 1 : Nat) : Int) := by rw [ci, wr_same]
        have fC : ∀ b t, (93 ≤ b ∧ b ≤ 98) ∨ (b = 91 ∧ t < 9) → F b t = C b t := fun b t hb => by rw [x2 b t (by omega) (by omega) (by omega), e2C b t (by omega) (by omega) (by omega) (by omega) (by omega) (by omega)]
        have ir : ∀ r, r < k - 1 → ∀ f, f < 6 → I (93 + r) f = C (4 + srcW (j : Int) r) f := fun r hr f hf => by
          have sl : srcW (j : Int) r < k := srcW_in hr
          rw [io _ _ (by omega), t4 r (by omega) f hf, ← m3 _ sl f]
          unfold srcW
          by_cases e : j ≤ r
          · rw [if_pos (by omega), if_pos (by omega), fC _ _ (by omega)]
          · rw [if_neg (by omega), if_neg (by omega), fC _ _ (by omega)]
        have ei : tb I 93 (k - 1) = sT C k j := by
          funext r f
          unfold tb sT
          by_cases hr : r < k - 1
          · rw [if_pos hr, if_pos hr]
            by_cases hf6 : f < 6
            · exact ir r hr f hf6
            · have sl : srcW (j : Int) r < k := srcW_in hr
              rw [io _ _ (by omega), t3 _ _ (by omega), fC _ _ (by omega), m7 _ _ (by omega) (by omega), m7 _ _ (by omega) (by omega)]
          · rw [if_neg hr, if_neg hr]
        have tl : ∀ r, r < k - 1 → tlF (I (93 + r) 0) (I (93 + r) 1) (I 91 2) = ((tlN C (srcW (j : Int) r) : Nat) : Int) ∧ tlN C (srcW (j : Int) r) ≤ 36 := fun r hr => by
          rw [ir r hr 0 (by omega), ir r hr 1 (by omega), io _ _ (by omega), t3 _ _ (by omega), fC _ _ (by omega), i2.1]
          exact tlN_b i1 i2 (srcW_in hr)
        refine g_costB (m := k - 1) (tl := fun r => tlN C (srcW (j : Int) r)) hn i0 (by rw [ei]; exact sT_gd m5) tl q.1 q.2 q2.1 q2.2 (by rw [ei]; exact sT_fr fx) (by rw [ei]; exact sT_fr fu) (fun d G2 fg cb => ?_)
        rw [ei] at cb
        have cb' : DD j d := (DDi j d).mpr cb
        have u' : ∀ d', DD j d' → d' = d := fun d' h => DDu j d d' cb' h
        clear cb tl ei ir
        refine g_layB hn (fun L lf l0 lr => ?_)
        have fL2 : ∀ b t, b < 101 ∨ 137 < b → ¬ (240 ≤ b ∧ b ≤ 280) → ¬ (b = 91 ∧ (10 ≤ t ∧ t ≤ 24)) → L b t = E2 b t := by
          intro b t g1 g2 g3
          by_cases ea : b = 91 ∧ t = 0
          · rw [ea.1, ea.2, l0, fg _ _ (by omega) (by omega) (by omega), io _ _ (by omega), t3 _ _ (by omega), f34, e20]
          · by_cases eb : 93 ≤ b ∧ b ≤ 98 ∧ t < 6
            · obtain ⟨r, rfl⟩ : ∃ r, b = 93 + r := ⟨b - 93, by omega⟩
              rw [lr r (by omega) t (by omega), fg _ _ (by omega) (by omega) (by omega), io _ _ (by omega), t3 _ _ (by omega), x2 _ _ (by omega) (by omega) (by omega), e2r r (by omega) t (by omega)]
            · rw [lf b t eb ea, fg b t g1 g2 g3, io b t ea, t3 b t eb, x2 b t g1 g2 g3]
        clear lf l0 lr fg io fC t3 t4
        rw [w32_n (by omega)]
        rcases x3 with ⟨y1, y2⟩ | ⟨i3, d3, y1, y2, y4⟩
        · subst y1
          rw [y2]
          exact ⟨fun _ => hK2 _ ⟨1, by omega, rfl, fL2, Or.inr ⟨0, d, rfl, rfl, bc.first cb' u'⟩⟩ (by dsimp only; omega), fun w => absurd (by decide) w⟩
        · rw [y1, y2]
          exact ⟨fun w => absurd w (by omega), fun _ => ⟨fun w => hK2 _ ⟨j + 1, by omega, rfl, fL2, Or.inr ⟨j, d, rfl, rfl, y4.new cb' u' (by omega)⟩⟩ (by dsimp only; omega), fun w => hK2 _ ⟨j + 1, by omega, rfl, fL2, Or.inr ⟨i3, d3, rfl, rfl, y4.keep u' (by omega)⟩⟩ (by dsimp only; omega)⟩⟩
      · have ga := gR92 hn (by omega : l < 6)
        have gb := gR92 hn (by omega : l + 1 < 6)
        rw [w32_n (by omega), Int.toNat_natCast, ga.1, gb.1]
        refine ⟨by omega, by omega, ?_⟩
        refine g_copies gb.2 ga.2 (by omega) (fun H2 h1 h2 => ?_)
        refine hK3 _ ⟨l + 1, by omega, by omega, rfl, fun q t hq => ?_, fun r hr f hf => ?_⟩ (by dsimp only; omega)
        · dsimp only
          rw [h1 q t (by omega), t3 q t hq]
        · dsimp only
          by_cases e : r = l
          · rw [e, h2 f hf, t4 (l + 1) (by omega) f hf, if_neg (by omega), if_pos (by omega)]
          · rw [h1 _ _ (by omega), t4 r hr f hf]
            by_cases e2 : j ≤ r ∧ r < l
            · rw [if_pos e2, if_pos (by omega)]
            · rw [if_neg e2, if_neg (by omega)]
  · have hk : k < m := by omega
    have lw : lenW (k : Int) m = m - 1 := by
      unfold lenW
      rw [if_pos (by omega)]
    clear G
    refine f_takeWithout (a := 18) (b := 2) hf (Or.inr (Or.inr rfl)) (Or.inl rfl) (by decide) m6 e1 (fun D d1 d2 d3 d4 d5 d6 => ?_)
    rw [lw] at d2 d6
    clear lw
    have eD : tb D (18 + 2) (m - 1) = sT C m k := by
      funext r f
      unfold tb sT
      by_cases hr : r < m - 1
      · rw [if_pos hr, if_pos hr]
        have sl : srcW (k : Int) r < m := srcW_in hr
        by_cases hf6 : f < 6
        · rw [d6 r hr f hf6, z2 _ _ (by omega) (by omega) (by omega) (by omega)]
        · rw [d1 _ _ (by omega) (by omega), z2 _ _ (by omega) (by omega) (by omega) (by omega), m7 _ _ (by omega) (by omega), m7 _ _ (by omega) (by omega)]
      · rw [if_neg hr, if_neg hr]
    have gD : gd (sT C m k) (m - 1) := sT_gd m5
    have o42 : okO n 42 2 := (lS (l := 42) hf (Or.inr rfl)).1
    refine ⟨o42, f_survey (l := 42) (e := 18) hf (Or.inr rfl) (Or.inr rfl) d2 (by rw [eD]; exact gD) (fun C2 M' f2 lm2 => ?_)⟩
    rw [eD] at lm2
    have ok := gD.ok lm2.1
    have mm' : mm M' = m - 1 := lm2.1.1
    refine f_takeTolls (e := 18) hf (Or.inr (Or.inr rfl)) (by omega : m - 1 ≤ 6) (by rw [f2 _ _ (by omega), d2]) (fun C3 f3 t3 => ?_)
    have lm3 : LM C3 42 (sT C m k) (m - 1) M' := lm2.congrL (fun b t h1 h2 => f3 b t (by omega))
    have rows : ∀ i, i < m - 1 → ∀ f, C3 (18 + 2 + i) f = sT C m k i f := fun i hi f => by
      rw [f3 _ _ (by omega), f2 _ _ (by omega), ← eD, tb_lt hi]
    have tl : TL C3 M' (fun r => tlN C (srcW (k : Int) r)) := by
      intro s hs
      rw [mm'] at hs
      have sl : srcW (k : Int) s < m := srcW_in hs
      rw [t3 s hs, f2 _ _ (by omega), f2 _ _ (by omega), f2 _ _ (by omega), d6 s hs 0 (by omega), d6 s hs 1 (by omega), d3, z2 _ _ (by omega) (by omega) (by omega) (by omega), z2 _ _ (by omega) (by omega) (by omega) (by omega), z2 _ _ (by omega) (by omega) (by omega) (by omega)]
      exact tlN_b i1 i2 sl
    refine f_fieldP (l := 42) (e := 18) hf (Or.inr rfl) (Or.inr (Or.inr rfl)) gD lm3 rows q.1 q.2 (sT_fr fx) (fun k4 => ?_)
    refine f_fieldP (l := 42) (e := 18) hf (Or.inr rfl) (Or.inr (Or.inr rfl)) gD lm3 rows q2.1 q2.2 (sT_fr fu) (fun k5 => ?_)
    refine f_costOf (l := 42) hf (Or.inr rfl) ok ⟨lm3.2.2.2.2.1.2.1, lm3.2.2.2.2.2⟩ tl k4 k5 (fun d C4 f4 d432 hD => ?_)
    have cb' : DD k d := (DDi k d).mpr ⟨_, _, M', lm3.1, d432, hD⟩
    have u' : ∀ d', DD k d' → d' = d := fun d' h => DDu k d d' cb' h
    have fr4 : ∀ b t, ¬ (20 ≤ b ∧ b ≤ 25 ∧ t < 6) → b ≠ 18 → ¬ (42 ≤ b ∧ b ≤ 57) → ¬ (68 ≤ b ∧ b ≤ 70) → C4 b t = C b t := fun b t h1 h2 h3 h4 => by rw [f4 b t (by omega) (by omega), f3 b t (by omega), f2 b t (by omega), d1 b t (by omega) (by omega), z2 b t h1 h2 h3 h4]
    clear hD k4 k5 rows tl t3 eD d6
    rw [w32_n (by omega)]
    rcases z3 with ⟨y1, y2, y4⟩ | ⟨i3, d3', y1, y2, y4⟩
    · subst y1
      rw [y4]
      exact ⟨fun w => absurd w (by omega), fun _ => hK _ ⟨1, by omega, rfl, fr4, Or.inr ⟨0, d, rfl, rfl, bc.first cb' u'⟩⟩ (by dsimp only; omega)⟩
    · rw [y1, y2]
      exact ⟨fun w => hK _ ⟨k + 1, by omega, rfl, fr4, Or.inr ⟨i3, d3', rfl, rfl, y4.keep u' (by omega)⟩⟩ (by dsimp only; omega), fun w => hK _ ⟨k + 1, by omega, rfl, fr4, Or.inr ⟨k, d, rfl, rfl, y4.new cb' u' (by omega)⟩⟩ (by dsimp only; omega)⟩
