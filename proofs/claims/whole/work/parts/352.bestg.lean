/-! my own: the reference's best order -/
theorem g_cellMany {n : Nat} {C : Cn} {m : Nat} {M : Mp} {Q : Int → Prop} (hn : 320 ≤ n) (ok : okM M) (gm : gM C m M) (h : Q ((FC M (mE M + 1) : Nat) : Int)) : P_G_cellMany n C 91 Q := by
  have e12 := ok.e
  have c49 := ok.c49
  refine lp_rule (fun (z : Int × Int) => ∃ j : Nat, j ≤ mE M + 1 ∧ z.2 = (j : Int) ∧ z.1 = ((FC M j : Nat) : Int)) (fun z => (20 - z.2).toNat) ?_ (0, 0) ⟨0, by omega, rfl, rfl⟩
  rintro ⟨v1, v2⟩ ⟨j, z0, z1, z2⟩ K hK
  dsimp only at z1 z2
  subst z1
  subst z2
  unfold B_G_cellMany_4
  simp only [gS hn, Int.reduceToNat, true_and, gm.2.1, Int.toNat_natCast]
  refine ⟨fun q => ?_, fun q => ⟨by omega, fun v1 hv1 => ?_⟩⟩
  · rw [(by omega : j = mE M + 1)]
    exact h
  · rw [(gm.2.2.2 j (by omega)).2] at hv1
    have h6 := ok.h6 j
    have fc := FC_mono (M := M) (a := j) (b := mE M + 1) (by omega)
    have fs := FC_s M j
    rw [w32_n (by omega), w32_s (by omega)] at hv1
    rw [w32_n (by omega)]
    exact hK _ ⟨j + 1, by omega, rfl, by dsimp only; omega⟩ (by dsimp only; omega)
def TLD1 (C : Cn) (M : Mp) (j k S s : Nat) : Prop := C (140 + (FC M j + k)) (6 * S + s) = ((dgt M S j k s : Nat) : Int)
theorem g_tellsAll {n : Nat} {C : Cn} {m : Nat} {M : Mp} {Q : Int → Cn → Prop} (hn : 320 ≤ n) (ok : okM M) (mm' : mm M = m) (gm : gM C m M)
    (h : ∀ C2 : Cn, (∀ b t, ¬ (140 ≤ b ∧ b ≤ 231) → ¬ (b = 91 ∧ (t = 25 ∨ t = 26)) → C2 b t = C b t) → (∀ j k, j ≤ mE M → k ≤ mH M j → ∀ S, S < 2 ^ m → ∀ s, s < m → TLD1 C2 M j k S s) → Q 0 C2) : P_G_tellsAll n C 91 Q := by
  have m6 : m ≤ 6 := by
    have := ok.m
    omega
  have e12 := ok.e
  have c49 := ok.c49
  have ba := bS_all m6
  have p64 : 2 ^ m ≤ 64 := Nat.pow_le_pow_right (n := 2) (by decide) m6
  have esh : shl32 1 ((m : Nat) : Int) = ((2 ^ m : Nat) : Int) := ba.1
  generalize hP : 2 ^ m = P at *
  have g0 : FC M 0 = 0 := rfl
  refine lp_rule (fun (z : Cn × Int × Int) => ∃ j : Nat, j ≤ mE M + 1 ∧ z.2.2 = (j : Int) ∧ z.2.1 = ((FC M j : Nat) : Int) ∧ (∀ b t, ¬ (140 ≤ b ∧ b ≤ 231) → ¬ (b = 91 ∧ (t = 25 ∨ t = 26)) → z.1 b t = C b t) ∧ (∀ i t, bf M i t j 0 → ∀ S, S < P → ∀ s, s < m → TLD1 z.1 M i t S s)) (fun z => (20 - z.2.2).toNat) ?_ (C, 0, 0) ⟨0, by omega, rfl, by rw [g0]; rfl, fun _ _ _ _ => rfl, fun i t hb => by have := hb.2; omega⟩
  rintro ⟨D, v1, v2⟩ ⟨j, z0, z1, z2, z3, z4⟩ K hK
  dsimp only at z1 z2 z3 z4
  subst z1
  subst z2
  have gmD : gM D m M := gm.congr e12 (fun b t hb => z3 b t (by omega) (by omega))
  unfold B_G_tellsAll_4
  simp only [gS hn, Int.reduceToNat, true_and, gmD.2.1]
  refine ⟨fun q => ?_, fun q => ?_⟩
  · have ej : j = mE M + 1 := by omega
    subst ej
    exact h D z3 (fun i t hi ht => z4 i t ⟨ht, Or.inl (by omega)⟩)
  · have hj : j ≤ mE M := by omega
    have h6 := ok.h6 j
    refine lp_rule (fun (z : Cn × Int × Int) => ∃ k : Nat, k ≤ mH M j + 1 ∧ z.2.2 = (k : Int) ∧ z.2.1 = ((FC M j + k : Nat) : Int) ∧ (∀ b t, ¬ (140 ≤ b ∧ b ≤ 231) → ¬ (b = 91 ∧ (t = 25 ∨ t = 26)) → z.1 b t = C b t) ∧ (∀ i t, bf M i t j k → ∀ S, S < P → ∀ s, s < m → TLD1 z.1 M i t S s)) (fun z => (20 - z.2.2).toNat) ?_ (D, ((FC M j : Nat) : Int), 0) ⟨0, by omega, rfl, rfl, z3, z4⟩
    rintro ⟨D2, v1, v3⟩ ⟨k, y0, y1, y2, y3, y4⟩ K2 hK2
    dsimp only at y1 y2 y3 y4
    subst y1
    subst y2
    have gmD2 : gM D2 m M := gm.congr e12 (fun b t hb => y3 b t (by omega) (by omega))
    unfold B_G_tellsAll_14
    simp only [gS hn, Int.reduceToNat, true_and, Int.toNat_natCast, (gmD2.2.2.2 j hj).2]
    refine ⟨by omega, fun q2 => ?_, fun q2 => ?_⟩
    · have ek : k = mH M j + 1 := by omega
      subst ek
      rw [w32_n (by omega)]
      exact hK _ ⟨j + 1, by omega, rfl, by dsimp only; rw [FC_s], y3, fun i t hb => y4 i t (bf_e.mp hb)⟩ (by dsimp only; omega)
    · have hk : k ≤ mH M j := by omega
      have fl := FC_49 ok hj hk
      have rc := gR139 hn (by omega : FC M j + k < 92)
      refine lp_rule (fun (z : Cn × Int) => ∃ S : Nat, S ≤ P ∧ z.2 = (S : Int) ∧ (∀ b t, ¬ (140 ≤ b ∧ b ≤ 231) → ¬ (b = 91 ∧ (t = 25 ∨ t = 26)) → z.1 b t = C b t) ∧ (∀ i t, bf M i t j k → ∀ S, S < P → ∀ s, s < m → TLD1 z.1 M i t S s) ∧ (∀ R, R < S → ∀ s, s < m → TLD1 z.1 M j k R s)) (fun z => (70 - z.2).toNat) ?_ (D2, 0) ⟨0, by omega, rfl, y3, y4, fun R hR => absurd hR (Nat.not_lt_zero R)⟩
      rintro ⟨D3, v4⟩ ⟨S, x0, x1, x2, x3, x4⟩ K3 hK3
      dsimp only at x1 x2 x3 x4
      subst x1
      have gmD3 : gM D3 m M := gm.congr e12 (fun b t hb => x2 b t (by omega) (by omega))
      unfold B_G_tellsAll_27
      simp only [gS hn, Int.reduceToNat, true_and, gmD3.1, esh]
      refine ⟨fun q3 => ?_, fun q3 => ?_⟩
      · have eS : S = P := by omega
        subst eS
        rw [w32_n (by omega), w32_n (by omega)]
        refine hK2 _ ⟨k + 1, by omega, rfl, rfl, x2, fun i t hb => ?_⟩ (by dsimp only; omega)
        rcases bf_s hb with hb2 | ⟨rfl, rfl⟩
        · exact x3 i t hb2
        · exact x4
      · have hS : S < 64 := by omega
        have bSS := bS.nat hS
        refine lp_rule (fun (z : Cn × Int) => ∃ s : Nat, s ≤ m ∧ z.2 = (s : Int) ∧ (∀ b t, ¬ (140 ≤ b ∧ b ≤ 231) → ¬ (b = 91 ∧ (t = 25 ∨ t = 26)) → z.1 b t = C b t) ∧ (∀ i t, bf M i t j k → ∀ S, S < P → ∀ s, s < m → TLD1 z.1 M i t S s) ∧ (∀ R, R < S → ∀ s, s < m → TLD1 z.1 M j k R s) ∧ (∀ u, u < s → TLD1 z.1 M j k S u)) (fun z => (10 - z.2).toNat) ?_ (D3, 0) ⟨0, by omega, rfl, x2, x3, x4, fun u hu => absurd hu (Nat.not_lt_zero u)⟩
        rintro ⟨D4, v5⟩ ⟨s, w0, w1, w2, w3, w4, w5⟩ K4 hK4
        dsimp only at w1 w2 w3 w4 w5
        subst w1
        have gmD4 : gM D4 m M := gm.congr e12 (fun b t hb => w2 b t (by omega) (by omega))
        unfold B_G_tellsAll_41
        simp only [gS hn, Int.reduceToNat, true_and, gmD4.1, Int.toNat_natCast, rc]
        refine ⟨fun q4 => ?_, fun q4 => ⟨by omega, ?_⟩⟩
        · have es : s = m := by omega
          subst es
          rw [w32_n (by omega)]
          refine hK3 _ ⟨S + 1, by omega, rfl, w2, w3, fun R hR => ?_⟩ (by dsimp only; omega)
          by_cases e : R = S
          · rw [e]
            exact w5
          · exact w4 R (by omega)
        · have hs : s < m := by omega
          have ew : w32 (w32 (6 * (S : Int)) + (s : Int)) = ((6 * S + s : Nat) : Int) := by
            rw [w32_s (x := 6 * (S : Int)) (by omega), w32_s (by omega)]
            omega
          simp only [ew, Int.toNat_natCast]
          clear ew
          rw [w32_n (by omega)]
          -- a number is told
          have put : ∀ (C0 C24 : Cn) (r : Nat), (∀ b t, ¬ (b = 91 ∧ (t = 25 ∨ t = 26)) → C0 b t = D4 b t) → r = dgt M S j k s → C24 = wr C0 (140 + (FC M j + k)) (6 * S + s) ((r : Nat) : Int) → K4 (C24, ((s + 1 : Nat) : Int)) := by
            intro C0 C24 r c0 hr c24
            have o : ∀ b t, ¬ (b = 140 + (FC M j + k) ∧ t = 6 * S + s) → ¬ (b = 91 ∧ (t = 25 ∨ t = 26)) → C24 b t = D4 b t := fun b t h1 h2 => by rw [c24, wr_ne h1, c0 b t h2]
            refine hK4 _ ⟨s + 1, by omega, rfl, fun b t h1 h2 => ?_, fun i t hb R hR u hu => ?_, fun R hR u hu => ?_, fun u hu => ?_⟩ (by dsimp only; omega)
            · dsimp only
              rw [o b t (by omega) h2, w2 b t h1 h2]
            · unfold TLD1
              dsimp only
              have : FC M i + t ≠ FC M j + k := fun e => by
                have := FC_inj hb.1 hk e
                have := hb.2
                omega
              rw [o _ _ (by omega) (by omega)]
              exact w3 i t hb R hR u hu
            · unfold TLD1
              dsimp only
              rw [o _ _ (by omega) (by omega)]
              exact w4 R hR u hu
            · unfold TLD1
              dsimp only
              by_cases e : u = s
              · rw [e, c24, wr_same, hr]
              · rw [o _ _ (by omega) (by omega)]
                exact w5 u (by omega)
          refine g_has bSS (by omega) (fun c => ⟨fun q5 => absurd q5 (by decide), fun _ => ⟨by omega, fun C27 c27 => put D4 C27 0 (fun _ _ _ => rfl) ?_ c27⟩⟩) (fun c => ⟨fun _ => ?_, fun q5 => absurd rfl q5⟩)
          · exact (if_pos c).symm
          · refine g_stepsOf hn ok mm' gmD4 hj hk bSS hs c (fun C19 c19 => ⟨by omega, fun C24 c24 => put C19 C24 _ c19 ?_ c24⟩)
            exact (if_neg c).symm
theorem g_searchesTold {n : Nat} {C : Cn} {m : Nat} {M : Mp} {o : Nat → Nat} {Q : Int → Cn → Prop} (hn : 320 ≤ n) (ok : okM M) (mm' : mm M = m) (gm : gM C m M) (tld : ∀ j k, j ≤ mE M → k ≤ mH M j → ∀ S, S < 2 ^ m → ∀ s, s < m → TLD1 C M j k S s) (ho : ∀ i, i < m → C 138 i = ((o i : Nat) : Int) ∧ o i < m) (oi : ∀ a b, a < b → b < m → o a ≠ o b)
    (h : ∀ C2 : Cn, (∀ b t, ¬ (b = 91 ∧ (t = 28 ∨ t = 29)) → C2 b t = C b t) → C2 91 28 = ((dpt M o : Nat) : Int) → C2 91 29 = ((sms M o : Nat) : Int) → Q 0 C2) : P_G_searchesTold n C 91 Q := by
  have m6 : m ≤ 6 := by
    have := ok.m
    omega
  have e12 := ok.e
  have c49 := ok.c49
  unfold P_G_searchesTold
  simp only [gS hn, Int.reduceToNat, true_and]
  intro C2 c2 C3 c3
  have g3 : ∀ b t, ¬ (b = 91 ∧ (t = 28 ∨ t = 29)) → C3 b t = C b t := fun b t hb => by rw [c3, wr_ne (by omega), c2, wr_ne (by omega)]
  refine g_cellMany hn ok (gm.congr e12 (fun b t hb => g3 b t (by omega))) ?_
  have g0 : FC M 0 = 0 := rfl
  refine lp_rule (fun (z : Cn × Int) => ∃ j k : Nat, ((j ≤ mE M ∧ k ≤ mH M j) ∨ (j = mE M + 1 ∧ k = 0)) ∧ z.2 = ((FC M j + k : Nat) : Int) ∧ (∀ b t, ¬ (b = 91 ∧ (t = 28 ∨ t = 29)) → z.1 b t = C b t) ∧ z.1 91 28 = ((dpC M o j k : Nat) : Int) ∧ z.1 91 29 = ((smC M o j k : Nat) : Int)) (fun z => (50 - z.2).toNat) ?_ (C3, 0) ⟨0, 0, Or.inl ⟨by omega, by omega⟩, by rw [g0]; rfl, g3, by dsimp only; rw [c3, wr_ne (by omega), c2, wr_same]; rfl, by dsimp only; rw [c3, wr_same]; rfl⟩
  rintro ⟨D, v2⟩ ⟨j, k, y0, y1, y2, y3, y4⟩ K hK
  dsimp only at y1 y2 y3 y4
  subst y1
  unfold B_G_searchesTold_17
  refine ⟨fun q2 => ?_, fun q2 => ?_⟩
  · have y5 : j = mE M + 1 ∧ k = 0 := by
      rcases y0 with y0 | y0
      · have := FC_lt (M := M) (i := mE M + 1) (l := 0) y0.2 (by omega)
        omega
      · exact y0
    obtain ⟨rfl, rfl⟩ := y5
    exact h D y2 (by rw [y3]; rfl) y4
  · have y5 : j ≤ mE M ∧ k ≤ mH M j := by
      rcases y0 with y0 | y0
      · exact y0
      · obtain ⟨rfl, rfl⟩ := y0
        omega
    obtain ⟨hj, hk⟩ := y5
    have fl := FC_49 ok hj hk
    have h6 := ok.h6 j
    have rc := gR139 hn (by omega : FC M j + k < 92)
    have gmD : gM D m M := gm.congr e12 (fun b t hb => y2 b t (by omega))
    refine lp_rule (fun (z : Int × Int × Int) => ∃ i : Nat, i ≤ m ∧ z.2.2 = (i : Int) ∧ z.1 = ((ptot M o i j k : Nat) : Int) ∧ bS z.2.1 (pre o i)) (fun z => (10 - z.2.2).toNat) ?_ (0, 0, 0) ⟨0, by omega, rfl, rfl, bS_0.iff (fun u _ => ⟨fun q => q.elim, fun ⟨t, ht, _⟩ => absurd ht (Nat.not_lt_zero t)⟩)⟩
    rintro ⟨v3, v4, v5⟩ ⟨i, x0, x1, x2, x3⟩ K2 hK2
    dsimp only at x1 x2 x3
    subst x1
    subst x2
    unfold B_G_searchesTold_30
    simp only [gS hn, Int.reduceToNat, true_and, gmD.1, Int.toNat_natCast, rc]
    refine ⟨fun q3 => ?_, fun q3 => ?_⟩
    · have ei : i = m := by omega
      subst ei
      have et : ptot M o i j k = tot M o j k := by
        unfold ptot tot
        rw [mm']
      rw [et]
      unfold J_G_searchesTold_82
      simp only [gS hn, Int.reduceToNat, true_and]
      intro C12 c12 C13 c13
      rw [y3, imax_n, ← dpC_s] at c12
      have e3 : C12 91 29 = ((smC M o j k : Nat) : Int) := by rw [c12, wr_ne (by omega), y4]
      have sl := smC_le ok o (j := j) (k := k + 1) (by omega) (by omega)
      have ss := smC_s M o j k
      have e5 : w32 (((smC M o j k : Nat) : Int) + ((tot M o j k : Nat) : Int)) = ((smC M o j (k + 1) : Nat) : Int) := by
        rw [w32_s (by omega)]
        omega
      rw [e3, e5] at c13
      clear e5
      rw [w32_n (by omega)]
      have fr : ∀ b t, ¬ (b = 91 ∧ (t = 28 ∨ t = 29)) → C13 b t = C b t := fun b t hb => by rw [c13, wr_ne (by omega), c12, wr_ne (by omega), y2 b t hb]
      have f2 : C13 91 28 = ((dpC M o j (k + 1) : Nat) : Int) := by rw [c13, wr_ne (by omega), c12, wr_same]
      have f3 : C13 91 29 = ((smC M o j (k + 1) : Nat) : Int) := by rw [c13, wr_same]
      by_cases e : k = mH M j
      · refine hK _ ⟨j + 1, 0, by omega, ?_, fr, ?_, ?_⟩ (by dsimp only; omega)
        · dsimp only
          rw [FC_s, e]
          omega
        · dsimp only
          rw [f2, e, dpC_e]
        · dsimp only
          rw [f3, e, smC_e]
      · exact hK _ ⟨j, k + 1, by omega, rfl, fr, f2, f3⟩ (by dsimp only; omega)
    · have hi : i < m := by omega
      have hoi := ho i hi
      have oi2 := hoi.2
      obtain ⟨S, s1, s2, s3⟩ := x3
      have sl : S < 2 ^ m := b_lt m (by omega) S s1 (fun u hu w => by
        obtain ⟨t, t1, t2⟩ := (s3 u hu).mp w
        rw [← t2]
        exact (ho t (by omega)).2)
      have nS : ¬ Nat.testBit S (o i) = true := fun w => by
        obtain ⟨t, t1, t2⟩ := (s3 (o i) (by omega)).mp w
        exact oi t i t1 hi t2
      rw [y2 138 i (by omega), hoi.1, s2]
      have ew : w32 (w32 (6 * ((S : Nat) : Int)) + ((o i : Nat) : Int)) = ((6 * S + o i : Nat) : Int) := by
        rw [w32_s (x := 6 * ((S : Nat) : Int)) (by omega), w32_s (by omega)]
        omega
      rw [ew]
      clear ew
      simp only [Int.toNat_natCast]
      refine ⟨by omega, by omega, by omega, fun v3 hv3 v4 hv4 => ?_⟩
      have tl := tld j k hj hk S sl (o i) oi2
      unfold TLD1 at tl
      have ed : dgt M S j k (o i) = sN M (pre o i) j k (o i) := by
        unfold dgt
        rw [if_neg nS]
        exact sN_congr ok (fun u hu => s3 u (by omega)) hk
      rw [y2 _ _ (by omega), tl, ed] at hv3
      have pt := ptot_le M o i j k
      have sl2 := sN_le M (pre o i) j k (o i)
      have ps := ptot_s M o i j k
      have ev : w32 (((ptot M o i j k : Nat) : Int) + ((sN M (pre o i) j k (o i) : Nat) : Int)) = ((ptot M o (i + 1) j k : Nat) : Int) := by
        rw [w32_s (by omega)]
        omega
      rw [ev] at hv3
      clear ev
      rw [w32_n (by omega)]
      refine hK2 _ ⟨i + 1, by omega, rfl, hv3, ?_⟩ (by dsimp only; omega)
      dsimp only
      rw [hv4]
      exact (bS.or ⟨S, s1, rfl, s3⟩ (i := o i) (by omega)).iff (fun u _ => pre_s.symm)
theorem g_bestLoop {n : Nat} {C : Cn} {m : Nat} {M : Mp} {Q : Int → Cn → Prop} (hn : 320 ≤ n) (ok : okM M) (mm' : mm M = m) (gm : gM C m M) (tld : ∀ j k, j ≤ mE M → k ≤ mH M j → ∀ S, S < 2 ^ m → ∀ s, s < m → TLD1 C M j k S s)
    (h : ∀ (C2 : Cn) (b : Nat), (∀ b t, ¬ (b = 91 ∧ (t = 28 ∨ t = 29)) → b ≠ 138 → C2 b t = C b t) → bst M (fct m) b → Q (b : Nat) C2) : ∃ f, lp (B_G_best_17 n 91 Q) f (C, -1, 0, 0, 0) := by
  have m6 : m ≤ 6 := by
    have := ok.m
    omega
  have e12 := ok.e
  have c49 := ok.c49
  have f720 := fct_le m (by omega)
  have fp := fct_pos m
  refine lp_rule (fun (z : Cn × Int × Int × Int × Int) => ∃ N : Nat, N ≤ fct m ∧ z.2.2.2.2 = (N : Int) ∧ (∀ b t, ¬ (b = 91 ∧ (t = 28 ∨ t = 29)) → b ≠ 138 → z.1 b t = C b t) ∧ ((N = 0 ∧ z.2.1 = -1) ∨ ∃ b, bst M N b ∧ z.2.1 = ((b : Nat) : Int) ∧ z.2.2.1 = ((Dp M b : Nat) : Int) ∧ z.2.2.2.1 = ((Sm M b : Nat) : Int))) (fun z => (1000 - z.2.2.2.2).toNat) ?_ (C, -1, 0, 0, 0) ⟨0, by omega, rfl, fun _ _ _ _ => rfl, Or.inl ⟨rfl, rfl⟩⟩
  rintro ⟨D, v1, v2, v3, v4⟩ ⟨N, z0, z1, z2, z3⟩ K hK
  dsimp only at z1 z2 z3
  subst z1
  have gmD : gM D m M := gm.congr e12 (fun b t hb => z2 b t (by omega) (by omega))
  unfold B_G_best_17
  simp only [gS hn, Int.reduceToNat, true_and]
  refine g_orders hn m6 gmD.1 ⟨fun q => ?_, fun q => ?_⟩
  · have eN : N = fct m := by omega
    subst eN
    rcases z3 with z3 | ⟨b, b1, b2, -⟩
    · omega
    · rw [b2]
      exact h D b z2 b1
  · refine g_laysOrder hn m6 gmD.1 (by omega) (fun C16 a1 a2 => ?_)
    refine g_searchesTold hn ok mm' (gmD.congr e12 (fun b t hb => a1 b t (by omega))) (fun j k hj hk S hS s hs => ?_) (fun i hi => ⟨a2 i hi, oF_lt hi⟩) (fun a b ha hb => oF_inj ha hb) (fun C20 c1 c2 c3 => ?_)
    · have f2 := FC_49 ok hj hk
      unfold TLD1
      rw [a1 _ _ (by omega), z2 _ _ (by omega) (by omega)]
      exact tld j k hj hk S hS s hs
    · have eD : dpt M (oF m N) = Dp M N := by
        unfold Dp
        rw [mm']
      have eS : sms M (oF m N) = Sm M N := by
        unfold Sm
        rw [mm']
      rw [eD] at c2
      rw [eS] at c3
      have fr : ∀ b t, ¬ (b = 91 ∧ (t = 28 ∨ t = 29)) → b ≠ 138 → C20 b t = C b t := fun b t h1 h2 => by rw [c1 b t h1, a1 b t h2, z2 b t h1 h2]
      have take : (∀ b, bst M N b → btr M N b) → J_G_best_67 n C20 91 (N : Int) K Q := by
        intro hb
        unfold J_G_best_67
        simp only [gS hn, Int.reduceToNat, true_and]
        rw [w32_n (by omega)]
        refine hK _ ⟨N + 1, by omega, rfl, fr, Or.inr ⟨N, ?_, rfl, c2, c3⟩⟩ (by dsimp only; omega)
        rcases z3 with z3 | ⟨b, b1, b2, -⟩
        · rw [z3.1]
          exact bst.one M
        · exact b1.new (hb b b1)
      have keep : ∀ b, bst M N b → v1 = ((b : Nat) : Int) → v2 = ((Dp M b : Nat) : Int) → v3 = ((Sm M b : Nat) : Int) → ¬ btr M N b → K (C20, v1, v2, v3, w32 ((N : Int) + 1)) := by
        intro b b1 b2 b3 b4 nb
        rw [w32_n (by omega)]
        exact hK _ ⟨N + 1, by omega, rfl, fr, Or.inr ⟨b, b1.keep nb, b2, b3, b4⟩⟩ (by dsimp only; omega)
      rw [c2, c3]
      refine ⟨fun q2 => take (fun b b1 => ?_), fun q2 => ?_⟩
      · rcases z3 with z3 | ⟨b', b1', b2', -⟩
        · have := b1.1
          omega
        · omega
      · rcases z3 with z3 | ⟨b, b1, b2, b3, b4⟩
        · omega
        · refine ⟨fun q3 => keep b b1 b2 b3 b4 ?_, fun q3 => ⟨fun q4 => ⟨fun q5 => take (fun b' b1' => ?_), fun q5 => keep b b1 b2 b3 b4 ?_⟩, fun q4 => take (fun b' b1' => ?_)⟩⟩
          · unfold btr
            omega
          · rw [b1'.uniq b1]
            unfold btr
            omega
          · unfold btr
            omega
          · rw [b1'.uniq b1]
            unfold btr
            omega
