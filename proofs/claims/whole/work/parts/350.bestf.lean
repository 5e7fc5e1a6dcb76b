/-! my own: the class finds the best order -/
theorem GP.le {C : Cn} {M : Mp} {p : Nat → Prop} {j k : Nat} (h : GP C M p j k) (s : Nat) : sN M p j k s ≤ 3 := by
  obtain ⟨fl, rf, a, b, g1, g2, g3, -⟩ := h
  rw [← sN_eq g1 g2 g3]
  exact stN_le _ _ _ _ _ _ _
/-- two bits of steps for each segment -/
noncomputable def dgt (M : Mp) (S j k t : Nat) : Nat := if Nat.testBit S t = true then 0 else sN M (fun u => Nat.testBit S u = true) j k t
def KN1 (C : Cn) (M : Mp) (S j k : Nat) : Prop := C 64 (49 * S + (FC M j + k)) = ((pk4 (dgt M S j k) (mm M) : Nat) : Int) ∧ ∀ t, t < mm M → dgt M S j k t < 4
def KN (C : Cn) (M : Mp) : Prop := ∀ S, S < 2 ^ mm M → ∀ j k, j ≤ mE M → k ≤ mH M j → KN1 C M S j k
theorem KN.congr {C D : Cn} {M : Mp} (h : KN C M) (g : ∀ t, D 64 t = C 64 t) : KN D M := fun S hS j k hj hk => by
  unfold KN1
  rw [g]
  exact h S hS j k hj hk
theorem f_learn {n : Nat} {C : Cn} {m : Nat} {M : Mp} {Q : Int → Cn → Prop} (hn : 91 ≤ n) (ok : okM M) (mm' : mm M = m) (l26 : L26 C m M) (st : ST C M)
    (h : ∀ C2 : Cn, (∀ b t, b ≠ 64 → ¬ (b = 58 ∧ 8 ≤ t ∧ t ≤ 10) → C2 b t = C b t) → KN C2 M → Q 0 C2) : P_Se_learnSteps n C 58 Q := by
  have m6 : m ≤ 6 := by
    have := ok.m
    omega
  have e12 := ok.e
  have c49 := ok.c49
  have ba := bS_all m6
  have p64 : 2 ^ m ≤ 64 := Nat.pow_le_pow_right (n := 2) (by decide) m6
  unfold P_Se_learnSteps
  simp only [fS hn, fL hn, Int.reduceToNat, true_and, l26.1]
  intro v1 hv1
  rw [ba.1] at hv1
  rw [hv1]
  generalize hP : 2 ^ m = P at *
  refine lp_rule (fun (z : Cn × Int) => ∃ S : Nat, S ≤ P ∧ z.2 = (S : Int) ∧ (∀ b t, b ≠ 64 → ¬ (b = 58 ∧ 8 ≤ t ∧ t ≤ 10) → z.1 b t = C b t) ∧ (∀ R, R < S → ∀ j k, j ≤ mE M → k ≤ mH M j → KN1 z.1 M R j k)) (fun z => (70 - z.2).toNat) ?_ (C, 0) ⟨0, by omega, rfl, fun _ _ _ _ => rfl, fun R hR => absurd hR (Nat.not_lt_zero R)⟩
  rintro ⟨D, v2⟩ ⟨S, z0, z1, z2, z3⟩ K hK
  dsimp only at z1 z2 z3
  subst z1
  unfold B_Se_learnSteps_12
  refine ⟨fun q => h D z2 (fun R hR => z3 R (by rw [mm', hP] at hR; omega)), fun q => ?_⟩
  have hS : S < 64 := by omega
  have bSS := bS.nat hS
  have g0 : FC M 0 = 0 := rfl
  refine lp_rule (fun (z : Cn × Int) => ∃ j k : Nat, ((j ≤ mE M ∧ k ≤ mH M j) ∨ (j = mE M + 1 ∧ k = 0)) ∧ z.2 = ((FC M j + k : Nat) : Int) ∧ (∀ b t, b ≠ 64 → ¬ (b = 58 ∧ 8 ≤ t ∧ t ≤ 10) → z.1 b t = C b t) ∧ (∀ R, R < S → ∀ j k, j ≤ mE M → k ≤ mH M j → KN1 z.1 M R j k) ∧ (∀ i t, bf M i t j k → i ≤ mE M → KN1 z.1 M S i t)) (fun z => (50 - z.2).toNat) ?_ (D, 0) ⟨0, 0, Or.inl ⟨by omega, by omega⟩, by rw [g0]; rfl, z2, z3, fun i t hb => by have := hb.2; omega⟩
  rintro ⟨D2, v3⟩ ⟨j, k, y0, y1, y2, y3, y4⟩ K2 hK2
  dsimp only at y1 y2 y3 y4
  subst y1
  have l26D : L26 D2 m M := l26.congr (fun b t h1 h2 => y2 b t (by omega) (by omega))
  have stD : ST D2 M := st.congr (fun b t h1 h2 => y2 b t (by omega) (by omega))
  unfold B_Se_learnSteps_19
  simp only [fS hn, fL hn, Int.reduceToNat, true_and, l26D.2.2.1]
  refine ⟨fun q2 => ?_, fun q2 => ?_⟩
  · have y5 : j = mE M + 1 ∧ k = 0 := by
      rcases y0 with y0 | y0
      · have := FC_lt (M := M) (i := mE M + 1) (l := 0) y0.2 (by omega)
        omega
      · exact y0
    obtain ⟨rfl, rfl⟩ := y5
    rw [w32_n (by omega)]
    refine hK _ ⟨S + 1, by omega, rfl, y2, fun R hR j k hj hk => ?_⟩ (by dsimp only; omega)
    by_cases e : R = S
    · rw [e]
      exact y4 j k ⟨hk, Or.inl (by omega)⟩ hj
    · exact y3 R (by omega) j k hj hk
  · have y5 : j ≤ mE M ∧ k ≤ mH M j := by
      rcases y0 with y0 | y0
      · exact y0
      · obtain ⟨rfl, rfl⟩ := y0
        omega
    obtain ⟨hj, hk⟩ := y5
    have fl := FC_49 ok hj hk
    refine f_gap hn ok mm' l26D stD hj hk bSS (fun C8 x1 x2 => ?_)
    have l26C : L26 C8 m M := l26D.congr (fun b t h1 h2 => x1 b t (by omega))
    have dg : ∀ t, dgt M S j k t < 4 := by
      intro t
      unfold dgt
      split
      · omega
      · have := x2.le t
        omega
    refine lp_rule (fun (z : Int × Int) => ∃ i : Nat, i ≤ m ∧ z.2 = (i : Int) ∧ z.1 = ((pk4 (dgt M S j k) i : Nat) : Int)) (fun z => (10 - z.2).toNat) ?_ (0, 0) ⟨0, by omega, rfl, rfl⟩
    rintro ⟨v4, v5⟩ ⟨i, w0, w1, w2⟩ K3 hK3
    dsimp only at w1 w2
    subst w1
    subst w2
    unfold B_Se_learnSteps_42
    simp only [fS hn, fL hn, Int.reduceToNat, true_and, l26C.1, Int.toNat_natCast]
    refine ⟨fun q3 => ?_, fun q3 => ?_⟩
    · have ei : i = m := by omega
      subst ei
      have ew : w32 (w32 ((S : Int) * 49) + ((FC M j + k : Nat) : Int)) = ((49 * S + (FC M j + k) : Nat) : Int) := by
        rw [w32_s (x := (S : Int) * 49) (by omega), w32_s (by omega)]
        omega
      unfold J_Se_learnSteps_94
      simp only [fS hn, Int.reduceToNat, true_and, ew, Int.toNat_natCast]
      clear ew
      refine ⟨by omega, fun C18 c18 => ?_⟩
      rw [w32_n (by omega)]
      have fr : ∀ b t, b ≠ 64 → ¬ (b = 58 ∧ 8 ≤ t ∧ t ≤ 10) → C18 b t = C b t := fun b t h1 h2 => by rw [c18, wr_ne (fun q => h1 q.1), x1 b t h2, y2 b t h1 h2]
      have o64 : ∀ t, t ≠ 49 * S + (FC M j + k) → C18 64 t = D2 64 t := fun t ht => by rw [c18, wr_ne (fun q => ht q.2), x1 _ _ (by omega)]
      have k3 : ∀ R, R < S → ∀ j k, j ≤ mE M → k ≤ mH M j → KN1 C18 M R j k := by
        intro R hR i t hi ht
        have f2 := FC_49 ok hi ht
        have o := y3 R hR i t hi ht
        refine ⟨?_, o.2⟩
        rw [o64 _ (by omega)]
        exact o.1
      have k4 : ∀ i t, bf M i t j (k + 1) → i ≤ mE M → KN1 C18 M S i t := by
        intro i t hb hi
        rcases bf_s hb with hb2 | ⟨rfl, rfl⟩
        · have o := y4 i t hb2 hi
          refine ⟨?_, o.2⟩
          have : FC M i + t ≠ FC M j + k := fun e => by
            have := FC_inj hb2.1 hk e
            have := hb2.2
            omega
          rw [o64 _ (by omega)]
          exact o.1
        · refine ⟨?_, fun t _ => dg t⟩
          rw [c18, wr_same, mm']
      by_cases e : k = mH M j
      · refine hK2 _ ⟨j + 1, 0, by omega, ?_, fr, k3, fun i t hb hi => k4 i t ?_ hi⟩ (by dsimp only; omega)
        · dsimp only
          rw [FC_s, e]
          omega
        · rw [e]
          exact bf_e.mp hb
      · exact hK2 _ ⟨j, k + 1, by omega, rfl, fr, k3, k4⟩ (by dsimp only; omega)
    · have hi : i < m := by omega
      have b := (bSS.has (i := i) (by omega)).2
      have e34 := (l26C.2.2.2.2.2.2 j k hj hk).1
      refine ⟨fun q4 => ⟨by omega, ?_⟩, fun q4 => ?_⟩
      · rw [e34]
        refine f_stepsAt hn ok mm' l26C x2 hi (fun v4 hv4 => ?_)
        have w2 : w32 (2 * (i : Int)) = ((2 * i : Nat) : Int) := by
          rw [w32_s (by omega)]
          omega
        have ed : dgt M S j k i = sN M (fun u => Nat.testBit S u = true) j k i := if_neg (b.mp q4)
        have dl := dg i
        rw [w2, b_pack i (by omega) _ (pk4_lt (fun t _ => dg t)) _ (by omega), ← ed, ← pk4_s] at hv4
        clear w2
        rw [w32_n (by omega)]
        exact hK3 _ ⟨i + 1, by omega, rfl, hv4⟩ (by dsimp only; omega)
      · have ed : dgt M S j k i = 0 := if_pos (Classical.not_not.mp (fun w => q4 (b.mpr w)))
        rw [w32_n (by omega)]
        refine hK3 _ ⟨i + 1, by omega, rfl, ?_⟩ (by dsimp only; omega)
        dsimp only
        rw [pk4_s, ed, Nat.zero_mul, Nat.add_zero]
/-- the row of totals for the first L -/
def rw66 (C : Cn) (M : Mp) (o : Nat → Nat) (L : Nat) : Prop := ∀ j k, j ≤ mE M → k ≤ mH M j → C 66 (49 * L + (FC M j + k)) = ((ptot M o L j k : Nat) : Int)
theorem f_addLevel {n : Nat} {C : Cn} {m L : Nat} {M : Mp} {o : Nat → Nat} {Q : Int → Cn → Prop} (hn : 91 ≤ n) (ok : okM M) (mm' : mm M = m) (l26 : L26 C m M) (kn : KN C M) (hL : L < m) (ho : ∀ i, i < m → C 59 i = ((o i : Nat) : Int) ∧ o i < m) (oi : ∀ a b, a < b → b < m → o a ≠ o b) (row : rw66 C M o L)
    (h : ∀ C2 : Cn, (∀ b t, ¬ (b = 66 ∧ 49 * (L + 1) ≤ t) → C2 b t = C b t) → rw66 C2 M o (L + 1) → Q (mxC M (ptot M o (L + 1)) (mE M + 1) 0 : Nat) C2) : P_Se_addLevel n C 58 (L : Int) Q := by
  have m6 : m ≤ 6 := by
    have := ok.m
    omega
  have e12 := ok.e
  have c49 := ok.c49
  -- who is ahead
  refine lp_rule (fun (z : Int × Int) => ∃ i : Nat, i ≤ L ∧ z.2 = (i : Int) ∧ bS z.1 (pre o i)) (fun z => (10 - z.2).toNat) ?_ (0, 0) ⟨0, by omega, rfl, bS_0.iff (fun u _ => ⟨fun q => q.elim, fun ⟨t, ht, _⟩ => absurd ht (Nat.not_lt_zero t)⟩)⟩
  rintro ⟨v2, v3⟩ ⟨i, z0, z1, z2⟩ K hK
  dsimp only at z1 z2
  subst z1
  unfold B_Se_addLevel_4
  simp only [fS hn, Int.reduceToNat, true_and, Int.toNat_natCast]
  refine ⟨fun q => ?_, fun q => ⟨by omega, fun v2' hv2' => ?_⟩⟩
  · have ei : i = L := by omega
    subst ei
    obtain ⟨S, s1, s2, s3⟩ := z2
    have sl : S < 2 ^ m := b_lt m (by omega) S s1 (fun u hu w => by
      obtain ⟨t, t1, t2⟩ := (s3 u hu).mp w
      rw [← t2]
      exact (ho t (by omega)).2)
    have oL := ho i hL
    unfold J_Se_addLevel_26
    simp only [fS hn, Int.reduceToNat, true_and, Int.toNat_natCast, oL.1, s2]
    refine ⟨by omega, fun v3 hv3 => ?_⟩
    have oL2 := oL.2
    have w3 : w32 (2 * ((o i : Nat) : Int)) = ((2 * o i : Nat) : Int) := by
      rw [w32_s (by omega)]
      omega
    rw [w3] at hv3
    clear w3
    rw [hv3]
    have nS : ¬ Nat.testBit S (o i) = true := fun w => by
      obtain ⟨t, t1, t2⟩ := (s3 (o i) (by omega)).mp w
      exact oi t i t1 hL t2
    have g0 : FC M 0 = 0 := rfl
    refine lp_rule (fun (z : Cn × Int × Int) => ∃ j k : Nat, ((j ≤ mE M ∧ k ≤ mH M j) ∨ (j = mE M + 1 ∧ k = 0)) ∧ z.2.2 = ((FC M j + k : Nat) : Int) ∧ z.2.1 = ((mxC M (ptot M o (i + 1)) j k : Nat) : Int) ∧ (∀ b t, ¬ (b = 66 ∧ 49 * (i + 1) ≤ t) → z.1 b t = C b t) ∧ (∀ a t, bf M a t j k → a ≤ mE M → z.1 66 (49 * (i + 1) + (FC M a + t)) = ((ptot M o (i + 1) a t : Nat) : Int))) (fun z => (50 - z.2.2).toNat) ?_ (C, 0, 0) ⟨0, 0, Or.inl ⟨by omega, by omega⟩, by rw [g0]; rfl, rfl, fun _ _ _ => rfl, fun a t hb => by have := hb.2; omega⟩
    rintro ⟨D, v4, v5⟩ ⟨j, k, y0, y1, y2, y3, y4⟩ K2 hK2
    dsimp only at y1 y2 y3 y4
    subst y1
    subst y2
    have l26D : L26 D m M := l26.congr (fun b t h1 h2 => y3 b t (by omega))
    unfold B_Se_addLevel_41
    simp only [fS hn, fL hn, Int.reduceToNat, true_and, l26D.2.2.1]
    refine ⟨fun q2 => ?_, fun q2 => ?_⟩
    · have y5 : j = mE M + 1 ∧ k = 0 := by
        rcases y0 with y0 | y0
        · have := FC_lt (M := M) (i := mE M + 1) (l := 0) y0.2 (by omega)
          omega
        · exact y0
      obtain ⟨rfl, rfl⟩ := y5
      exact h D y3 (fun j k hj hk => y4 j k ⟨hk, Or.inl (by omega)⟩ hj)
    · have y5 : j ≤ mE M ∧ k ≤ mH M j := by
        rcases y0 with y0 | y0
        · exact y0
        · obtain ⟨rfl, rfl⟩ := y0
          omega
      obtain ⟨hj, hk⟩ := y5
      have fl := FC_49 ok hj hk
      have wa : w32 (w32 ((S : Int) * 49) + ((FC M j + k : Nat) : Int)) = ((49 * S + (FC M j + k) : Nat) : Int) := by
        rw [w32_s (x := (S : Int) * 49) (by omega), w32_s (by omega)]
        omega
      rw [wa]
      clear wa
      have wb : w32 (w32 ((i : Int) * 49) + ((FC M j + k : Nat) : Int)) = ((49 * i + (FC M j + k) : Nat) : Int) := by
        rw [w32_s (x := (i : Int) * 49) (by omega), w32_s (by omega)]
        omega
      rw [wb]
      clear wb
      have wc : w32 (w32 (w32 ((i : Int) + 1) * 49) + ((FC M j + k : Nat) : Int)) = ((49 * (i + 1) + (FC M j + k) : Nat) : Int) := by
        rw [w32_s (x := (i : Int) + 1) (by omega), w32_s (x := ((i : Int) + 1) * 49) (by omega), w32_s (by omega)]
        omega
      rw [wc]
      clear wc
      simp only [Int.toNat_natCast]
      refine ⟨by omega, fun v6 hv6 => ⟨by omega, fun v7 hv7 => ⟨by omega, fun C16 c16 => ?_⟩⟩⟩
      have kk := kn S (by rw [mm']; exact sl) j k hj hk
      rw [y3 _ _ (by omega), kk.1] at hv6
      have pl := pk4_lt kk.2
      have p4 : 4 ^ mm M ≤ 4096 := Nat.le_trans (Nat.pow_le_pow_right (by decide) ok.m) (by decide)
      have dg := pk4_dg kk.2 (i := o i) (by omega)
      have ed : dgt M S j k (o i) = sN M (pre o i) j k (o i) := by
        unfold dgt
        rw [if_neg nS]
        exact sN_congr ok (fun u hu => s3 u (by omega)) hk
      rw [b_unp _ (by omega) _ (by omega), dg, ed] at hv6
      rw [y3 _ _ (by omega), row j k hj hk, hv6] at hv7
      have pt := ptot_le M o i j k
      have sl2 := sN_le M (pre o i) j k (o i)
      have ps := ptot_s M o i j k
      have ev : w32 (((ptot M o i j k : Nat) : Int) + ((sN M (pre o i) j k (o i) : Nat) : Int)) = ((ptot M o (i + 1) j k : Nat) : Int) := by
        rw [w32_s (by omega)]
        omega
      rw [ev] at hv7
      clear ev
      rw [hv7] at c16 ⊢
      rw [w32_n (by omega)]
      have fr : ∀ b t, ¬ (b = 66 ∧ 49 * (i + 1) ≤ t) → C16 b t = C b t := fun b t hb => by rw [c16, wr_ne (by omega), y3 b t hb]
      have rows : ∀ a t, bf M a t j (k + 1) → a ≤ mE M → C16 66 (49 * (i + 1) + (FC M a + t)) = ((ptot M o (i + 1) a t : Nat) : Int) := by
        intro a t hb ha
        rw [c16]
        rcases bf_s hb with hb2 | ⟨rfl, rfl⟩
        · have : FC M a + t ≠ FC M j + k := fun e => by
            have := FC_inj hb2.1 hk e
            have := hb2.2
            omega
          rw [wr_ne (by omega)]
          exact y4 a t hb2 ha
        · rw [wr_same]
      have nxt : ∀ v : Int, v = ((mxC M (ptot M o (i + 1)) j (k + 1) : Nat) : Int) → K2 (C16, v, ((FC M j + k + 1 : Nat) : Int)) := by
        intro v hv
        by_cases e : k = mH M j
        · refine hK2 _ ⟨j + 1, 0, by omega, ?_, ?_, fr, fun a t hb ha => rows a t ?_ ha⟩ (by dsimp only; omega)
          · dsimp only
            rw [FC_s, e]
            omega
          · dsimp only
            rw [hv, e, mxC_e]
          · rw [e]
            exact bf_e.mp hb
        · exact hK2 _ ⟨j, k + 1, by omega, rfl, hv, fr, rows⟩ (by dsimp only; omega)
      have ms := mxC_s M (ptot M o (i + 1)) j k
      refine ⟨fun q3 => nxt _ ?_, fun q3 => nxt _ ?_⟩
      · rw [ms, if_neg (by omega)]
      · rw [ms, if_pos (by omega)]
  · have hi : i < m := by omega
    have hoi := ho i hi
    rw [hoi.1] at hv2'
    rw [w32_n (by omega)]
    refine hK _ ⟨i + 1, by omega, rfl, ?_⟩ (by dsimp only; omega)
    dsimp only
    rw [hv2']
    have := hoi.2
    exact (z2.or (i := o i) (by omega)).iff (fun u _ => pre_s.symm)
theorem f_sumOfLevel {n : Nat} {C : Cn} {m : Nat} {M : Mp} {o : Nat → Nat} {Q : Int → Prop} (hn : 91 ≤ n) (ok : okM M) (mm' : mm M = m) (l26 : L26 C m M) (row : rw66 C M o m) (h : Q ((sms M o : Nat) : Int)) : P_Se_sumOfLevel n C 58 (m : Int) Q := by
  have m6 : m ≤ 6 := by
    have := ok.m
    omega
  have e12 := ok.e
  have c49 := ok.c49
  have g0 : FC M 0 = 0 := rfl
  refine lp_rule (fun (z : Int × Int) => ∃ j k : Nat, ((j ≤ mE M ∧ k ≤ mH M j) ∨ (j = mE M + 1 ∧ k = 0)) ∧ z.2 = ((FC M j + k : Nat) : Int) ∧ z.1 = ((smC M o j k : Nat) : Int)) (fun z => (50 - z.2).toNat) ?_ (0, 0) ⟨0, 0, Or.inl ⟨by omega, by omega⟩, by rw [g0]; rfl, rfl⟩
  rintro ⟨v2, v3⟩ ⟨j, k, y0, y1, y2⟩ K hK
  dsimp only at y1 y2
  subst y1
  subst y2
  unfold B_Se_sumOfLevel_4
  simp only [fS hn, fL hn, Int.reduceToNat, true_and, l26.2.2.1]
  refine ⟨fun q2 => ?_, fun q2 => ?_⟩
  · have y5 : j = mE M + 1 ∧ k = 0 := by
      rcases y0 with y0 | y0
      · have := FC_lt (M := M) (i := mE M + 1) (l := 0) y0.2 (by omega)
        omega
      · exact y0
    obtain ⟨rfl, rfl⟩ := y5
    exact h
  · have y5 : j ≤ mE M ∧ k ≤ mH M j := by
      rcases y0 with y0 | y0
      · exact y0
      · obtain ⟨rfl, rfl⟩ := y0
        omega
    obtain ⟨hj, hk⟩ := y5
    have fl := FC_49 ok hj hk
    have h6 := ok.h6 j
    have wb : w32 (w32 ((m : Int) * 49) + ((FC M j + k : Nat) : Int)) = ((49 * m + (FC M j + k) : Nat) : Int) := by
      rw [w32_s (x := (m : Int) * 49) (by omega), w32_s (by omega)]
      omega
    rw [wb]
    clear wb
    simp only [Int.toNat_natCast]
    refine ⟨by omega, fun v2 hv2 => ?_⟩
    have et : ptot M o m j k = tot M o j k := by
      unfold ptot tot
      rw [mm']
    rw [row j k hj hk, et] at hv2
    have sl := smC_le ok o (j := j) (k := k + 1) (by omega) (by omega)
    have ss := smC_s M o j k
    have ev : w32 (((smC M o j k : Nat) : Int) + ((tot M o j k : Nat) : Int)) = ((smC M o j (k + 1) : Nat) : Int) := by
      rw [w32_s (by omega)]
      omega
    rw [ev] at hv2
    clear ev
    rw [w32_n (by omega)]
    by_cases e : k = mH M j
    · refine hK _ ⟨j + 1, 0, by omega, ?_, ?_⟩ (by dsimp only; omega)
      · dsimp only
        rw [FC_s, e]
        omega
      · dsimp only
        rw [hv2, e, smC_e]
    · exact hK _ ⟨j, k + 1, by omega, rfl, hv2⟩ (by dsimp only; omega)
theorem f_levels {n : Nat} {C : Cn} {m w : Nat} {o τ : Nat → Nat} {Q : Int → Prop} (hn : 91 ≤ n) (m6 : m ≤ 6) (hw : C 58 16 = w) (wm : w ≤ m) (ht : ∀ t, t < w → C 65 t = ((τ t : Nat) : Int)) (ho : ∀ i, i < m → C 59 i = ((o i : Nat) : Int))
    (h : ∀ r : Nat, r ≤ w → (∀ t, t < r → τ t = o t) → Q r) : P_Se_levelsTriedAlready n C 58 Q := by
  refine lp_rule (fun (v : Int) => ∃ i : Nat, i ≤ w ∧ v = (i : Int) ∧ ∀ t, t < i → τ t = o t) (fun v => (10 - v).toNat) ?_ 0 ⟨0, by omega, rfl, fun t ht => absurd ht (Nat.not_lt_zero t)⟩
  rintro v ⟨i, z0, z1, z2⟩ K hK
  subst z1
  unfold B_Se_levelsTriedAlready_2 J_Se_levelsTriedAlready_31
  simp only [fS hn, Int.reduceToNat, true_and, Int.toNat_natCast, hw]
  refine ⟨fun q => h i z0 z2, fun q => ⟨by omega, by omega, ?_⟩⟩
  rw [ht i (by omega), ho i (by omega)]
  refine ⟨fun e => ?_, fun e => h i z0 z2⟩
  rw [w32_n (by omega)]
  refine hK _ ⟨i + 1, by omega, rfl, fun t ht2 => ?_⟩ (by omega)
  by_cases e2 : t = i
  · rw [e2]
    omega
  · exact z2 t (by omega)
