/-! my own: the reference's orders -/
theorem g_orders {n : Nat} {C : Cn} {m : Nat} {Q : Int → Prop} (hn : 320 ≤ n) (m6 : m ≤ 6) (h0 : C 91 0 = m) (h : Q ((fct m : Nat) : Int)) : P_G_orders n C 91 Q := by
  have f720 := fct_le
  refine lp_rule (fun (z : Int × Int) => ∃ i : Nat, 1 ≤ i ∧ (i ≤ m ∨ i = 1) ∧ z.2 = ((i + 1 : Nat) : Int) ∧ z.1 = ((fct i : Nat) : Int)) (fun z => (10 - z.2).toNat) ?_ (1, 2) ⟨1, by omega, by omega, rfl, rfl⟩
  rintro ⟨v1, v2⟩ ⟨i, z0, z1, z2, z3⟩ K hK
  dsimp only at z2 z3
  subst z2
  subst z3
  unfold B_G_orders_4
  simp only [gS hn, Int.reduceToNat, true_and, h0]
  refine ⟨fun q => ?_, fun q => ?_⟩
  · have e : fct i = fct m := by
      by_cases e : i = m
      · rw [e]
      · have : i = 1 ∧ m = 0 := by omega
        rw [this.1, this.2]
        rfl
    rw [e]
    exact h
  · have fi := f720 (i + 1) (by omega)
    have fs := fct_s i
    have e : ((fct i : Nat) : Int) * ((i + 1 : Nat) : Int) = ((fct (i + 1) : Nat) : Int) := by
      rw [fs, Nat.mul_comm]
      exact (Int.natCast_mul _ _).symm
    rw [e, w32_nn (by omega), w32_n (by omega)]
    exact hK _ ⟨i + 1, by omega, by omega, rfl, rfl⟩ (by dsimp only; omega)
theorem g_laysOrder {n : Nat} {C : Cn} {m num : Nat} {Q : Int → Cn → Prop} (hn : 320 ≤ n) (m6 : m ≤ 6) (h0 : C 91 0 = m) (hnum : num < fct m)
    (h : ∀ C2 : Cn, (∀ b t, b ≠ 138 → C2 b t = C b t) → (∀ i, i < m → C2 138 i = ((oF m num i : Nat) : Int)) → Q 0 C2) : P_G_laysOrder n C 91 (num : Int) Q := by
  have ba := bS_all m6
  have f720 := fct_le
  have p64 : 2 ^ m ≤ 64 := Nat.pow_le_pow_right (n := 2) (by decide) m6
  unfold P_G_laysOrder
  simp only [gS hn, Int.reduceToNat, true_and, h0]
  intro v2 hv2
  rw [ba.1, w32_n1 (Nat.le_trans p64 (by decide))] at hv2
  rw [hv2]
  refine g_orders hn m6 h0 ?_
  refine lp_rule (fun (z : Cn × Int × Int × Int × Int) => ∃ i : Nat, i ≤ m ∧ z.2.2.2.2 = (i : Int) ∧ (∀ b t, b ≠ 138 → z.1 b t = C b t) ∧ (∀ t, t < i → z.1 138 t = ((oF m num t : Nat) : Int)) ∧ bS z.2.1 (fun u => u < m ∧ unu (oF m num) i u) ∧ z.2.2.1 = ((num % fct (m - i) : Nat) : Int) ∧ z.2.2.2.1 = ((fct (m - i) : Nat) : Int)) (fun z => (10 - z.2.2.2.2).toNat) ?_ (C, ((2 ^ m : Nat) : Int) - 1, (num : Int), ((fct m : Nat) : Int), 0) ⟨0, by omega, rfl, fun _ _ _ => rfl, fun t ht => absurd ht (Nat.not_lt_zero t), ba.2.iff (fun u _ => ⟨fun q => ⟨q, fun t ht => absurd ht (Nat.not_lt_zero t)⟩, fun q => q.1⟩), ?_, rfl⟩
  · rintro ⟨D, v2, v3, v4, v5⟩ ⟨i, z0, z1, z2, z3, z4, z5, z6⟩ K hK
    dsimp only at z1 z2 z3 z4 z5 z6
    subst z1
    subst z5
    subst z6
    unfold B_G_laysOrder_20
    simp only [gS hn, Int.reduceToNat, true_and, z2 91 0 (by omega), h0]
    refine ⟨fun q => h D z2 (fun t ht => z3 t (by omega)), fun q => ?_⟩
    have hi : i < m := by omega
    have w2 : w32 ((m : Int) - (i : Int)) = ((m - i : Nat) : Int) := by
      rw [w32_s (by omega)]
      omega
    rw [w2]
    clear w2
    obtain ⟨k, hk⟩ : ∃ k, m - i = k + 1 := ⟨m - i - 1, by omega⟩
    have ek : m - 1 - i = k := by omega
    have ek2 : m - (i + 1) = k := by omega
    have fs : fct (m - i) = fct k * (m - i) := by
      rw [hk, fct_s, Nat.mul_comm]
    have fp := fct_pos k
    have fk := f720 k (by omega)
    have dv : fct (m - i) / (m - i) = fct k := by
      rw [fs]
      exact Nat.mul_div_cancel _ (by omega)
    refine ⟨by omega, fun v4' hv4' => ?_⟩
    rw [tdiv_n, dv, w32_nn (by omega)] at hv4'
    rw [hv4']
    have rk : num % fct (m - i) / fct k = rnk m num i := by
      unfold rnk
      rw [ek, fs]
      exact Nat.mod_mul_right_div_self _ _ _
    have rm : num % fct (m - i) % fct k = num % fct k := by
      rw [fs]
      exact Nat.mod_mul_right_mod _ _ _
    refine ⟨by omega, fun v6 hv6 v3' hv3' => ?_⟩
    have rkl : rnk m num i < m - i := Nat.mod_lt _ (by omega)
    rw [tdiv_n, rk, w32_nn (by omega)] at hv6
    have rml : num % fct k < fct k := Nat.mod_lt _ fp
    rw [tmod_n, rm, w32_nn (by omega)] at hv3'
    rw [hv6, hv3']
    have oo := oF_ord m num i hi
    have ec : cnt (fun u => u < m ∧ unu (oF m num) i u) (oF m num i) = rnk m num i := by
      rw [cnt_congr (q := unu (oF m num) i) (fun k hk => ⟨fun w => w.2, fun w => ⟨by omega, w⟩⟩)]
      exact oo.2.2
    -- the s-th of the left ones
    refine lp_rule (fun (z : Int × Int) => ∃ s : Nat, s ≤ oF m num i ∧ z.2 = (s : Int) ∧ z.1 = ((rnk m num i : Nat) : Int) - ((cnt (fun u => u < m ∧ unu (oF m num) i u) s : Nat) : Int)) (fun z => (10 - z.2).toNat) ?_ (((rnk m num i : Nat) : Int), 0) ⟨0, by omega, rfl, by show _ = _ - ((0 : Nat) : Int); omega⟩
    rintro ⟨v6', v7⟩ ⟨s, y0, y1, y2⟩ K2 hK2
    dsimp only at y1 y2
    subst y1
    subst y2
    have cm := cnt_mono (p := fun u => u < m ∧ unu (oF m num) i u) y0
    have go : s < oF m num i → J_G_laysOrder_69 n D 91 v2 ((num % fct k : Nat) : Int) ((fct k : Nat) : Int) (i : Int) (((rnk m num i : Nat) : Int) - ((cnt (fun u => u < m ∧ unu (oF m num) i u) s : Nat) : Int)) (s : Int) K K2 Q := by
      intro sl v6n hv6n
      have cm2 := cnt_mono (p := fun u => u < m ∧ unu (oF m num) i u) (a := s + 1) (b := oF m num i) sl
      have cs := cnt_s (fun u => u < m ∧ unu (oF m num) i u) s
      have il := ind_le (s < m ∧ unu (oF m num) i s)
      have bt : and32 (shr32 v2 (s : Int)) 1 = ((ind (s < m ∧ unu (oF m num) i s) : Nat) : Int) := by
        have b := z4.has (i := s) (by omega)
        by_cases c : s < m ∧ unu (oF m num) i s
        · rw [ind_t c, b.1.mpr c]
          rfl
        · rw [ind_f c, b.2.mpr c]
          rfl
      rw [bt, w32_s (by omega)] at hv6n
      clear bt
      rw [w32_n (by omega)]
      refine hK2 _ ⟨s + 1, by omega, rfl, ?_⟩ (by dsimp only; omega)
      dsimp only
      rw [hv6n, cs]
      omega
    unfold B_G_laysOrder_55
    refine g_has z4 (by omega) (fun c => ⟨fun q2 => absurd q2 (by decide), fun _ => ⟨fun q3 => ?_, fun q3 => go ?_⟩⟩) (fun c => ⟨fun _ => go ?_, fun q2 => absurd rfl q2⟩)
    · have es : s = oF m num i := by
        by_cases e : s = oF m num i
        · exact e
        · have cm2 := cnt_mono (p := fun u => u < m ∧ unu (oF m num) i u) (a := s + 1) (b := oF m num i) (by omega)
          rw [cnt_s, ind_t c] at cm2
          omega
      unfold J_G_laysOrder_86
      simp only [gS hn, Int.reduceToNat, true_and, Int.toNat_natCast]
      refine ⟨by omega, fun C24 c24 v2n hv2n => ?_⟩
      rw [w32_n (by omega)]
      refine hK _ ⟨i + 1, by omega, rfl, fun b t hb => ?_, fun t ht => ?_, ?_, by dsimp only; rw [ek2], by dsimp only; rw [ek2]⟩ (by dsimp only; omega)
      · dsimp only
        rw [c24, wr_ne (fun q => hb q.1), z2 b t hb]
      · dsimp only
        rw [c24]
        by_cases e : t = i
        · rw [e, wr_same, es]
        · rw [wr_ne (fun q => e q.2), z3 t (by omega)]
      · dsimp only
        rw [hv2n, es]
        refine (z4.del (i := oF m num i) (by omega)).iff (fun u _ => ?_)
        rw [unu_s]
        exact ⟨fun w => ⟨w.1.1, w.1.2, w.2⟩, fun w => ⟨⟨w.1, w.2.1⟩, w.2.2⟩⟩
    · by_cases e : s = oF m num i
      · rw [← e] at ec
        omega
      · omega
    · by_cases e : s = oF m num i
      · rw [e] at c
        exact absurd ⟨oo.1, oo.2.1⟩ c
      · omega
  · dsimp only
    rw [Nat.sub_zero, Nat.mod_eq_of_lt hnum]
theorem g_asNumbered {n : Nat} {C : Cn} {m : Nat} {Q : Int → Cn → Prop} (hn : 320 ≤ n) (m6 : m ≤ 6) (h0 : C 91 0 = m)
    (h : ∀ C2 : Cn, (∀ b t, b ≠ 138 → C2 b t = C b t) → (∀ i, i < m → C2 138 i = ((oF m 0 i : Nat) : Int)) → Q 0 C2) : P_G_asNumbered n C 91 Q := by
  refine lp_rule (fun (z : Cn × Int) => ∃ i : Nat, i ≤ m ∧ z.2 = (i : Int) ∧ (∀ b t, b ≠ 138 → z.1 b t = C b t) ∧ (∀ t, t < i → z.1 138 t = (t : Int))) (fun z => (10 - z.2).toNat) ?_ (C, 0) ⟨0, by omega, rfl, fun _ _ _ => rfl, fun t ht => absurd ht (Nat.not_lt_zero t)⟩
  rintro ⟨D, v1⟩ ⟨i, z0, z1, z2, z3⟩ K hK
  dsimp only at z1 z2 z3
  subst z1
  unfold B_G_asNumbered_2
  simp only [gS hn, Int.reduceToNat, true_and, z2 91 0 (by omega), h0, Int.toNat_natCast]
  refine ⟨fun q => h D z2 (fun t ht => by rw [z3 t (by omega), oF_0 ht]), fun q => ⟨by omega, fun C5 c5 => ?_⟩⟩
  rw [w32_n (by omega)]
  refine hK _ ⟨i + 1, by omega, rfl, fun b t hb => ?_, fun t ht => ?_⟩ (by dsimp only; omega)
  · dsimp only
    rw [c5, wr_ne (fun q => hb q.1), z2 b t hb]
  · dsimp only
    rw [c5]
    by_cases e : t = i
    · rw [e, wr_same]
    · rw [wr_ne (fun q => e q.2), z3 t (by omega)]
theorem g_searched {n : Nat} {C : Cn} {m j k : Nat} {M : Mp} {o : Nat → Nat} {Q : Int → Cn → Prop} (hn : 320 ≤ n) (ok : okM M) (mm' : mm M = m) (gm : gM C m M) (ho : ∀ i, i < m → C 138 i = ((o i : Nat) : Int) ∧ o i < m) (oi : ∀ a b, a < b → b < m → o a ≠ o b) (hj : j ≤ mE M) (hk : k ≤ mH M j)
    (h : ∀ C2 : Cn, (∀ b t, ¬ (b = 91 ∧ (t = 25 ∨ t = 26)) → C2 b t = C b t) → Q (tot M o j k) C2) : P_G_searched n C 91 (j : Int) (k : Int) Q := by
  have m6 := ok.m
  have e12 := ok.e
  refine lp_rule (fun (z : Cn × Int × Int × Int) => ∃ i : Nat, i ≤ m ∧ z.2.2.2 = (i : Int) ∧ (∀ b t, ¬ (b = 91 ∧ (t = 25 ∨ t = 26)) → z.1 b t = C b t) ∧ z.2.1 = ((sm (fun i => sN M (pre o i) j k (o i)) i : Nat) : Int) ∧ bS z.2.2.1 (pre o i)) (fun z => (10 - z.2.2.2).toNat) ?_ (C, 0, 0, 0) ⟨0, by omega, rfl, fun _ _ _ => rfl, rfl, bS_0.iff (fun u _ => ⟨fun q => q.elim, fun ⟨t, ht, _⟩ => absurd ht (Nat.not_lt_zero t)⟩)⟩
  rintro ⟨D, v2, v3, v4⟩ ⟨i, z0, z1, z2, z3, z4⟩ K hK
  dsimp only at z1 z2 z3 z4
  subst z1
  subst z3
  have gmD : gM D m M := gm.congr e12 (fun b t hb => z2 b t (by omega))
  unfold B_G_searched_8
  simp only [gS hn, Int.reduceToNat, true_and, gmD.1, Int.toNat_natCast]
  refine ⟨fun q => ?_, fun q => ⟨by omega, ?_⟩⟩
  · have ei : i = m := by omega
    have hh := h D z2
    unfold tot at hh
    rw [mm'] at hh
    rw [ei]
    exact hh
  · have hi : i < m := by omega
    have hoi := ho i hi
    rw [z2 _ _ (by omega), hoi.1]
    refine g_stepsOf hn ok mm' gmD hj hk z4 hoi.2 (fun ⟨t, t1, t2⟩ => oi t i t1 hi t2) (fun C6 g1 v4 hv4 => ?_)
    rw [g1 _ _ (by omega), z2 _ _ (by omega), hoi.1] at hv4
    have ub := sm_ub (f := fun i => sN M (pre o i) j k (o i)) (c := 4) (n := i) (fun i _ => sN_le _ _ _ _ _)
    have ub2 := sN_le M (pre o i) j k (o i)
    rw [w32_n (by omega)]
    have oi2 := hoi.2
    refine hK _ ⟨i + 1, by omega, rfl, fun b t hb => by dsimp only; rw [g1 b t hb, z2 b t hb], ?_, ?_⟩ (by dsimp only; omega)
    · dsimp only
      rw [w32_s (by omega), sm_s]
      omega
    · dsimp only
      rw [hv4]
      exact (z4.or (i := o i) (by omega)).iff (fun u _ => pre_s.symm)
theorem g_searches {n : Nat} {C : Cn} {m : Nat} {M : Mp} {o : Nat → Nat} {Q : Int → Cn → Prop} (hn : 320 ≤ n) (ok : okM M) (mm' : mm M = m) (gm : gM C m M) (ho : ∀ i, i < m → C 138 i = ((o i : Nat) : Int) ∧ o i < m) (oi : ∀ a b, a < b → b < m → o a ≠ o b)
    (h : ∀ C2 : Cn, (∀ b t, ¬ (b = 91 ∧ (t = 25 ∨ t = 26 ∨ t = 28 ∨ t = 29)) → C2 b t = C b t) → C2 91 28 = ((dpt M o : Nat) : Int) → C2 91 29 = ((sms M o : Nat) : Int) → Q 0 C2) : P_G_searches n C 91 Q := by
  have m6 := ok.m
  have e12 := ok.e
  unfold P_G_searches
  simp only [gS hn, Int.reduceToNat, true_and]
  intro C2 c2 C3 c3
  refine lp_rule (fun (z : Cn × Int) => ∃ j : Nat, j ≤ mE M + 1 ∧ z.2 = (j : Int) ∧ (∀ b t, ¬ (b = 91 ∧ (t = 25 ∨ t = 26 ∨ t = 28 ∨ t = 29)) → z.1 b t = C b t) ∧ z.1 91 28 = ((dpC M o j 0 : Nat) : Int) ∧ z.1 91 29 = ((smC M o j 0 : Nat) : Int)) (fun z => (20 - z.2).toNat) ?_ (C3, 0) ⟨0, by omega, rfl, fun b t hb => by dsimp only; rw [c3, wr_ne (by omega), c2, wr_ne (by omega)], by dsimp only; rw [c3, wr_ne (by omega), c2, wr_same]; rfl, by dsimp only; rw [c3, wr_same]; rfl⟩
  rintro ⟨D, v1⟩ ⟨j, z0, z1, z2, z3, z4⟩ K hK
  dsimp only at z1 z2 z3 z4
  subst z1
  have gmD : gM D m M := gm.congr e12 (fun b t hb => z2 b t (by omega))
  unfold B_G_searches_12
  simp only [gS hn, Int.reduceToNat, true_and, gmD.2.1]
  refine ⟨fun q => ?_, fun q => ?_⟩
  · have ej : j = mE M + 1 := by omega
    subst ej
    exact h D z2 (by rw [z3]; rfl) z4
  · have hj : j ≤ mE M := by omega
    have h6 := ok.h6 j
    refine lp_rule (fun (z : Cn × Int) => ∃ k : Nat, k ≤ mH M j + 1 ∧ z.2 = (k : Int) ∧ (∀ b t, ¬ (b = 91 ∧ (t = 25 ∨ t = 26 ∨ t = 28 ∨ t = 29)) → z.1 b t = C b t) ∧ z.1 91 28 = ((dpC M o j k : Nat) : Int) ∧ z.1 91 29 = ((smC M o j k : Nat) : Int)) (fun z => (20 - z.2).toNat) ?_ (D, 0) ⟨0, by omega, rfl, z2, z3, z4⟩
    rintro ⟨D2, v2⟩ ⟨k, y0, y1, y2, y3, y4⟩ K2 hK2
    dsimp only at y1 y2 y3 y4
    subst y1
    have gmD2 : gM D2 m M := gm.congr e12 (fun b t hb => y2 b t (by omega))
    unfold B_G_searches_22
    simp only [gS hn, Int.reduceToNat, true_and, Int.toNat_natCast, (gmD2.2.2.2 j hj).2]
    refine ⟨by omega, fun q2 => ?_, fun q2 => ?_⟩
    · have ek : k = mH M j + 1 := by omega
      rw [ek] at y3 y4
      rw [w32_n (by omega)]
      exact hK _ ⟨j + 1, by omega, rfl, y2, by dsimp only; rw [y3, dpC_e], by dsimp only; rw [y4, smC_e]⟩ (by dsimp only; omega)
    · have hk : k ≤ mH M j := by omega
      refine g_searched hn ok mm' gmD2 (fun i hi => ⟨by rw [y2 _ _ (by omega)]; exact (ho i hi).1, (ho i hi).2⟩) oi hj hk (fun C8 x1 C11 c11 C12 c12 => ?_)
      have e2 : C8 91 28 = ((dpC M o j k : Nat) : Int) := by rw [x1 _ _ (by omega), y3]
      have e3 : C11 91 29 = ((smC M o j k : Nat) : Int) := by rw [c11, wr_ne (by omega), x1 _ _ (by omega), y4]
      rw [e2, imax_n, ← dpC_s] at c11
      have sl := smC_le ok o (j := j) (k := k + 1) (by omega) (by omega)
      have ss := smC_s M o j k
      have e5 : w32 (((smC M o j k : Nat) : Int) + ((tot M o j k : Nat) : Int)) = ((smC M o j (k + 1) : Nat) : Int) := by
        rw [w32_s (by omega)]
        omega
      rw [e3, e5] at c12
      clear e5
      rw [w32_n (by omega)]
      refine hK2 _ ⟨k + 1, by omega, rfl, fun b t hb => ?_, ?_, ?_⟩ (by dsimp only; omega)
      · dsimp only
        rw [c12, wr_ne (by omega), c11, wr_ne (by omega), x1 b t (by omega), y2 b t hb]
      · dsimp only
        rw [c12, wr_ne (by omega), c11, wr_same]
      · dsimp only
        rw [c12, wr_same]
