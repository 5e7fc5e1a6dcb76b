/-! my own: the class takes an order, and measures it -/
theorem w32_nn {a : Nat} (h : a ≤ 5000) : w32 (a : Int) = (a : Int) := w32_s (by omega)
theorem w32_n1 {a : Nat} (h : a ≤ 5000) : w32 ((a : Int) - 1) = (a : Int) - 1 := w32_s (by omega)
theorem f_member {n : Nat} {C : Cn} {m r k : Nat} {v : Int} {p : Nat → Prop} {Q : Int → Prop} (hn : 91 ≤ n) (m6 : m ≤ 6) (h0 : C 26 0 = m) (hv : bS v p) (hk : k < m) (pk : p k) (ck : cnt p k = r) (h : Q k) : P_Se_memberOf n C 58 v (r : Int) Q := by
  refine lp_rule (fun (z : Int × Int) => ∃ i : Nat, i ≤ k ∧ z.2 = (i : Int) ∧ z.1 = ((cnt p i : Nat) : Int)) (fun z => (10 - z.2).toNat) ?_ (0, 0) ⟨0, by omega, rfl, rfl⟩
  rintro ⟨v3, v4⟩ ⟨i, z0, z1, z2⟩ K hK
  dsimp only at z1 z2
  subst z1
  subst z2
  unfold B_Se_memberOf_5
  simp only [fS hn, fL hn, Int.reduceToNat, true_and, h0]
  have b := (hv.has (i := i) (by omega)).1
  have cl := cnt_le p i
  refine ⟨fun q => by omega, fun q => ⟨fun q2 => ⟨fun q3 => ?_, fun q3 => ?_⟩, fun q2 => ?_⟩⟩
  · have pi := b.mp q2
    have e : i = k := by
      by_cases e : i = k
      · exact e
      · have x := cnt_mono (p := p) (a := i + 1) (b := k) (by omega)
        rw [cnt_s, ind_t pi] at x
        omega
    rw [e]
    exact h
  · have pi := b.mp q2
    have e : i ≠ k := fun e => by
      rw [e] at q3
      omega
    rw [w32_n (by omega), w32_n (by omega)]
    refine hK _ ⟨i + 1, by omega, rfl, ?_⟩ (by dsimp only; omega)
    dsimp only
    rw [cnt_s, ind_t pi]
  · have pi : ¬ p i := fun w => q2 (b.mpr w)
    have e : i ≠ k := fun e => by
      rw [e] at pi
      exact pi pk
    rw [w32_n (by omega)]
    refine hK _ ⟨i + 1, by omega, rfl, ?_⟩ (by dsimp only; omega)
    dsimp only
    rw [cnt_s, ind_f pi]
    rfl
theorem f_takeOrder {n : Nat} {C : Cn} {m num : Nat} {Q : Int → Cn → Prop} (hn : 91 ≤ n) (m6 : m ≤ 6) (h0 : C 26 0 = m) (hnum : num ≤ 720)
    (h : ∀ C2 : Cn, (∀ b t, b ≠ 59 → C2 b t = C b t) → (∀ i, i < m → C2 59 i = ((oF m num i : Nat) : Int)) → Q 0 C2) : P_Se_takeOrder n C 58 (num : Int) Q := by
  have ba := bS_all m6
  have f720 := fct_le
  unfold P_Se_takeOrder
  simp only [fS hn, fL hn, Int.reduceToNat, true_and, h0]
  intro v2 hv2 v3 hv3
  rw [hv2] at hv3 ⊢
  have p64 : 2 ^ m ≤ 64 := by
    have := Nat.pow_le_pow_right (n := 2) (by decide) m6
    exact this
  rw [ba.1, w32_n1 (Nat.le_trans p64 (by decide))] at hv3
  rw [hv3]
  refine lp_rule (fun (z : Cn × Int × Int) => ∃ i : Nat, i ≤ m ∧ z.2.2 = (i : Int) ∧ (∀ b t, b ≠ 59 → z.1 b t = C b t) ∧ (∀ t, t < i → z.1 59 t = ((oF m num t : Nat) : Int)) ∧ bS z.2.1 (fun u => u < m ∧ unu (oF m num) i u)) (fun z => (10 - z.2.2).toNat) ?_ (C, ((2 ^ m : Nat) : Int) - 1, 0) ⟨0, by omega, rfl, fun _ _ _ => rfl, fun t ht => absurd ht (Nat.not_lt_zero t), ba.2.iff (fun u _ => ⟨fun q => ⟨q, fun t ht => absurd ht (Nat.not_lt_zero t)⟩, fun q => q.1⟩)⟩
  rintro ⟨D, v3, v4⟩ ⟨i, z0, z1, z2, z3, z4⟩ K hK
  dsimp only at z1 z2 z3 z4
  subst z1
  unfold B_Se_takeOrder_17
  refine ⟨fun q => h D z2 (fun t ht => z3 t (by omega)), fun q => ?_⟩
  have hi : i < m := by omega
  have w1 : w32 (w32 ((m : Int) - 1) - (i : Int)) = ((m - 1 - i : Nat) : Int) := by
    rw [w32_s (x := (m : Int) - 1) (by omega), w32_s (by omega)]
    omega
  have w2 : w32 ((m : Int) - (i : Int)) = ((m - i : Nat) : Int) := by
    rw [w32_s (by omega)]
    omega
  have sv := sav_f.2 (m - 1 - i) (by omega)
  simp only [w1, w2, Int.toNat_natCast, sv, sav_f.1, fS hn, Int.reduceToNat, true_and, tdiv_n]
  clear w1 w2
  have fp := fct_pos (m - 1 - i)
  have dle : num / fct (m - 1 - i) ≤ num := Nat.div_le_self _ _
  refine ⟨by omega, by omega, by omega, by omega, fun v5 hv5 => ?_⟩
  rw [w32_nn (Nat.le_trans dle (by omega)), tmod_n] at hv5
  have ml : num / fct (m - 1 - i) % (m - i) < m - i := Nat.mod_lt _ (by omega)
  rw [w32_nn (Nat.le_trans (Nat.le_of_lt ml) (by omega))] at hv5
  rw [hv5]
  have oo := oF_ord m num i hi
  have ec : cnt (fun u => u < m ∧ unu (oF m num) i u) (oF m num i) = num / fct (m - 1 - i) % (m - i) := by
    rw [cnt_congr (q := unu (oF m num) i) (fun k hk => ⟨fun w => w.2, fun w => ⟨by omega, w⟩⟩)]
    exact oo.2.2
  refine f_member hn m6 (by rw [z2 _ _ (by omega), h0]) z4 oo.1 ⟨oo.1, oo.2.1⟩ ec ⟨by omega, fun C18 c18 v3' hv3' => ?_⟩
  rw [w32_n (by omega)]
  refine hK _ ⟨i + 1, by omega, rfl, fun b t hb => ?_, fun t ht => ?_, ?_⟩ (by dsimp only; omega)
  · dsimp only
    rw [c18, wr_ne (fun q => hb q.1), z2 b t hb]
  · dsimp only
    rw [c18]
    by_cases e : t = i
    · rw [e, wr_same]
    · rw [wr_ne (fun q => e q.2), z3 t (by omega)]
  · dsimp only
    rw [hv3']
    refine (z4.del (i := oF m num i) (by omega)).iff (fun u _ => ?_)
    rw [unu_s]
    exact ⟨fun w => ⟨w.1.1, w.1.2, w.2⟩, fun w => ⟨⟨w.1, w.2.1⟩, w.2.2⟩⟩
theorem f_isOrder {n : Nat} {C : Cn} {m : Nat} {v : Int} {Q : Int → Prop} (hn : 91 ≤ n) (m6 : m ≤ 6) (h0 : C 26 0 = m) (h : Q (bI (0 ≤ v ∧ v < ((fct m : Nat) : Int)))) : P_Se_isOrder n C 58 v Q := by
  unfold P_Se_isOrder
  refine ⟨fun q => use_Q h (bI_f (by omega)), fun q => ?_⟩
  simp only [fS hn, fL hn, Int.reduceToNat, true_and, h0, Int.toNat_natCast, sav_f.1, sav_f.2 m (by omega)]
  refine ⟨by omega, by omega, ?_⟩
  unfold J_Se_isOrder_24
  have e : (if ((fct m : Nat) : Int) ≤ v then (0 : Int) else 1) = bI (0 ≤ v ∧ v < ((fct m : Nat) : Int)) := by
    unfold bI
    split <;> split <;> omega
  rw [e]
  exact ⟨bI_or, h⟩
theorem f_stepsOf {n : Nat} {C : Cn} {m j k : Nat} {M : Mp} {o : Nat → Nat} {Q : Int → Cn → Prop} (hn : 91 ≤ n) (ok : okM M) (mm' : mm M = m) (l26 : L26 C m M) (st : ST C M) (ho : ∀ i, i < m → C 59 i = ((o i : Nat) : Int) ∧ o i < m) (hj : j ≤ mE M) (hk : k ≤ mH M j)
    (h : ∀ C2 : Cn, frG C C2 → Q (tot M o j k) C2) : P_Se_stepsOf n C 58 ((FC M j + k : Nat) : Int) Q := by
  have m6 := ok.m
  have c49 := FC_49 ok hj hk
  refine lp_rule (fun (z : Cn × Int × Int × Int) => ∃ i : Nat, i ≤ m ∧ z.2.2.2 = (i : Int) ∧ frG C z.1 ∧ z.2.1 = ((sm (fun i => sN M (pre o i) j k (o i)) i : Nat) : Int) ∧ bS z.2.2.1 (pre o i)) (fun z => (10 - z.2.2.2).toNat) ?_ (C, 0, 0, 0) ⟨0, by omega, rfl, fun _ _ _ => rfl, rfl, bS_0.iff (fun u _ => ⟨fun q => q.elim, fun ⟨t, ht, _⟩ => absurd ht (Nat.not_lt_zero t)⟩)⟩
  rintro ⟨D, v2, v3, v4⟩ ⟨i, z0, z1, z2, z3, z4⟩ K hK
  dsimp only at z1 z2 z3 z4
  subst z1
  subst z3
  have l26D : L26 D m M := l26.congr (fun b t h1 h2 => z2 b t (by omega))
  have stD : ST D M := st.congr (fun b t h1 h2 => z2 b t (by omega))
  unfold B_Se_stepsOf_7
  simp only [fS hn, fL hn, Int.reduceToNat, true_and, l26D.1]
  refine ⟨fun q => ?_, fun q => ?_⟩
  · have ei : i = m := by omega
    have hh := h D z2
    unfold tot at hh
    rw [mm'] at hh
    rw [ei]
    exact hh
  · have hi : i < m := by omega
    refine f_gap hn ok mm' l26D stD hj hk z4 (fun C4 g1 g2 => ?_)
    have l26C4 : L26 C4 m M := l26D.congr (fun b t h1 h2 => g1 b t (by omega))
    have e59 : C4 59 i = ((o i : Nat) : Int) := by rw [g1 _ _ (by omega), z2 _ _ (by omega), (ho i hi).1]
    have e34 := (l26C4.2.2.2.2.2.2 j k hj hk).1
    simp only [Int.toNat_natCast, e59, e34]
    refine ⟨by omega, by omega, f_stepsAt hn ok mm' l26C4 g2 (ho i hi).2 (fun v2 hv2 v3 hv3 => ?_)⟩
    have ub := sm_ub (f := fun i => sN M (pre o i) j k (o i)) (c := 4) (n := i) (fun i _ => sN_le _ _ _ _ _)
    have ub2 := sN_le M (pre o i) j k (o i)
    rw [w32_n (by omega)]
    refine hK _ ⟨i + 1, by omega, rfl, fun b t hb => by dsimp only; rw [g1 b t hb, z2 b t hb], ?_, ?_⟩ (by dsimp only; omega)
    · dsimp only
      rw [hv2, w32_s (by omega), sm_s]
      omega
    · dsimp only
      rw [hv3]
      have oi := (ho i hi).2
      exact (z4.or (i := o i) (by omega)).iff (fun u _ => pre_s.symm)
theorem f_measure {n : Nat} {C : Cn} {m : Nat} {M : Mp} {o : Nat → Nat} {Q : Int → Cn → Prop} (hn : 91 ≤ n) (ok : okM M) (mm' : mm M = m) (l26 : L26 C m M) (st : ST C M) (ho : ∀ i, i < m → C 59 i = ((o i : Nat) : Int) ∧ o i < m)
    (h : ∀ C2 : Cn, (∀ b t, ¬ (b = 58 ∧ (t = 2 ∨ t = 3 ∨ t = 8 ∨ t = 9 ∨ t = 10)) → C2 b t = C b t) → C2 58 2 = ((dpt M o : Nat) : Int) → C2 58 3 = ((sms M o : Nat) : Int) → Q 0 C2) : P_Se_measure n C 58 Q := by
  have m6 := ok.m
  have e12 := ok.e
  have c49 := ok.c49
  unfold P_Se_measure
  simp only [fS hn, Int.reduceToNat, true_and]
  intro C2 c2 C3 c3
  have g0 : FC M 0 = 0 := rfl
  refine lp_rule (fun (z : Cn × Int) => ∃ j k : Nat, ((j ≤ mE M ∧ k ≤ mH M j) ∨ (j = mE M + 1 ∧ k = 0)) ∧ z.2 = ((FC M j + k : Nat) : Int) ∧ (∀ b t, ¬ (b = 58 ∧ (t = 2 ∨ t = 3 ∨ t = 8 ∨ t = 9 ∨ t = 10)) → z.1 b t = C b t) ∧ z.1 58 2 = ((dpC M o j k : Nat) : Int) ∧ z.1 58 3 = ((smC M o j k : Nat) : Int)) (fun z => (50 - z.2).toNat) ?_ (C3, 0) ⟨0, 0, Or.inl ⟨by omega, by omega⟩, by rw [g0]; rfl, fun b t hb => ?_, ?_, ?_⟩
  · rintro ⟨D, v1⟩ ⟨j, k, z0, z1, z2, z3, z4⟩ K hK
    dsimp only at z1 z2 z3 z4
    subst z1
    have l26D : L26 D m M := l26.congr (fun b t h1 h2 => z2 b t (by omega))
    have stD : ST D M := st.congr (fun b t h1 h2 => z2 b t (by omega))
    unfold B_Se_measure_12
    simp only [fS hn, fL hn, Int.reduceToNat, true_and, l26D.2.2.1]
    refine ⟨fun q => ?_, fun q => ?_⟩
    · have z5 : j = mE M + 1 ∧ k = 0 := by
        rcases z0 with z0 | z0
        · have := FC_lt (M := M) (i := mE M + 1) (l := 0) z0.2 (by omega)
          omega
        · exact z0
      obtain ⟨rfl, rfl⟩ := z5
      refine h D z2 ?_ z4
      rw [z3]
      rfl
    · have z5 : j ≤ mE M ∧ k ≤ mH M j := by
        rcases z0 with z0 | z0
        · exact z0
        · obtain ⟨rfl, rfl⟩ := z0
          omega
      obtain ⟨hj, hk⟩ := z5
      have h6 := ok.h6 j
      have fl := FC_49 ok hj hk
      refine f_stepsOf hn ok mm' l26D stD (fun i hi => ⟨by rw [z2 _ _ (by omega)]; exact (ho i hi).1, (ho i hi).2⟩) hj hk (fun C8 x1 C11 c11 C12 c12 => ?_)
      have e2 : C8 58 2 = ((dpC M o j k : Nat) : Int) := by rw [x1 _ _ (by omega), z3]
      have e3 : C11 58 3 = ((smC M o j k : Nat) : Int) := by rw [c11, wr_ne (by omega), x1 _ _ (by omega), z4]
      rw [e2, imax_n, ← dpC_s] at c11
      have sl := smC_le ok o (j := j) (k := k + 1) (by omega) (by omega)
      have ss := smC_s M o j k
      have e5 : w32 (((smC M o j k : Nat) : Int) + ((tot M o j k : Nat) : Int)) = ((smC M o j (k + 1) : Nat) : Int) := by
        rw [w32_s (by omega)]
        omega
      rw [e3, e5] at c12
      clear e5
      rw [w32_n (by omega)]
      have fr : ∀ b t, ¬ (b = 58 ∧ (t = 2 ∨ t = 3 ∨ t = 8 ∨ t = 9 ∨ t = 10)) → C12 b t = C b t := fun b t hb => by rw [c12, wr_ne (by omega), c11, wr_ne (by omega), x1 b t (by omega), z2 b t hb]
      have f2 : C12 58 2 = ((dpC M o j (k + 1) : Nat) : Int) := by rw [c12, wr_ne (by omega), c11, wr_same]
      have f3 : C12 58 3 = ((smC M o j (k + 1) : Nat) : Int) := by rw [c12, wr_same]
      by_cases e : k = mH M j
      · refine hK _ ⟨j + 1, 0, by omega, ?_, fr, ?_, ?_⟩ (by dsimp only; omega)
        · dsimp only
          rw [FC_s, e]
          omega
        · dsimp only
          rw [f2, e, dpC_e]
        · dsimp only
          rw [f3, e, smC_e]
      · exact hK _ ⟨j, k + 1, by omega, rfl, fr, f2, f3⟩ (by dsimp only; omega)
  · dsimp only
    rw [c3, wr_ne (by omega), c2, wr_ne (by omega)]
  · dsimp only
    rw [c3, wr_ne (by omega), c2, wr_same]
    rfl
  · dsimp only
    rw [c3, wr_same]
    rfl
