/-! my own: the class tries orders -/
def frB (C C2 : Cn) : Prop := ∀ b t, ¬ (b = 58 ∧ 8 ≤ t) → b ≠ 59 → b ≠ 64 → b ≠ 65 → ¬ (b = 66 ∧ 49 ≤ t) → C2 b t = C b t
theorem frB.rfl' (C : Cn) : frB C C := fun _ _ _ _ _ _ _ => rfl
theorem frB.trans {A B C : Cn} (h1 : frB A B) (h2 : frB B C) : frB A C := fun b t x1 x2 x3 x4 x5 => (h2 b t x1 x2 x3 x4 x5).trans (h1 b t x1 x2 x3 x4 x5)
def BI (C : Cn) (M : Mp) (m N : Nat) : Prop := L26 C m M ∧ KN C M ∧ (∃ (τ : Nat → Nat) (w : Nat), C 58 16 = w ∧ w ≤ m ∧ (∀ t, t < w → C 65 t = ((τ t : Nat) : Int)) ∧ (∀ L, L ≤ w → rw66 C M τ L) ∧ (w = m → 0 < m → ∃ prev, prev < N ∧ ∀ t, t < m → τ t = oF m prev t)) ∧
  ((N = 0 ∧ C 58 11 = 0 ∧ C 58 12 = 2147483647 ∧ C 58 13 = 2147483647) ∨ ∃ b, bst M N b ∧ C 58 11 = ((b : Nat) : Int) ∧ C 58 12 = ((Dp M b : Nat) : Int) ∧ C 58 13 = ((Sm M b : Nat) : Int))
theorem rw66.congr {C D : Cn} {M : Mp} {o : Nat → Nat} {L : Nat} (ok : okM M) (h : rw66 C M o L) (g : ∀ t, t < 49 * (L + 1) → D 66 t = C 66 t) : rw66 D M o L := fun j k hj hk => by
  have := FC_49 ok hj hk
  rw [g _ (by omega)]
  exact h j k hj hk
theorem f_tryOrder {n : Nat} {C : Cn} {m N : Nat} {M : Mp} {Q : Int → Cn → Prop} (hn : 91 ≤ n) (ok : okM M) (mm' : mm M = m) (bi : BI C M m N) (hN : N < fct m)
    (h : ∀ (C2 : Cn) (N2 : Nat), N < N2 → N2 ≤ fct m → frB C C2 → BI C2 M m N2 → Q ((N2 - N : Nat) : Int) C2) : P_Se_tryOrder n C 58 (N : Int) Q := by
  have m6 : m ≤ 6 := by
    have := ok.m
    omega
  have f720 := fct_le m (by omega)
  obtain ⟨l26, kn, ⟨τ, w, t1, t2, t3, t4, t5⟩, bb⟩ := bi
  unfold P_Se_tryOrder
  simp only [fS hn, fL hn, Int.reduceToNat, true_and]
  intro v2 hv2
  rw [l26.1] at hv2
  rw [hv2]
  refine f_takeOrder hn m6 l26.1 (by omega) (fun C4 a1 a2 => ?_)
  have oo := oF_ord m N
  generalize hoo : oF m N = o at *
  have o1 : ∀ i, i < m → C4 59 i = ((o i : Nat) : Int) ∧ o i < m := fun i hi => ⟨a2 i hi, (oo i hi).1⟩
  have o2 : ∀ a b, a < b → b < m → o a ≠ o b := fun a b ha hb => (oo b hb).2.1 a ha
  have DpN : Dp M N = mxC M (ptot M o m) (mE M + 1) 0 := by
    rw [Dp_eq, mm', hoo]
  have SmN : Sm M N = sms M o := by
    unfold Sm
    rw [mm', hoo]
  have DpL := Dp_le ok
  refine f_levels hn m6 (by rw [a1 _ _ (by omega)]; exact t1) t2 (fun t ht => by rw [a1 _ _ (by omega)]; exact t3 t ht) a2 (fun r r1 r2 => ?_)
  -- not all has been tried already
  have rm : r = m → m = 0 := by
    intro e
    by_cases q : m = 0
    · exact q
    · obtain ⟨prev, p1, p2⟩ := t5 (by omega) (by omega)
      have : prev = N := oF_num (m := m) (by omega) hN (fun i hi => by rw [hoo, ← p2 i hi, r2 i (by omega)])
      omega
  refine lp_rule (fun (z : Cn × Int × Int) => ∃ L : Nat, L ≤ m ∧ z.2.1 = (L : Int) ∧ frB C z.1 ∧ (∀ t, z.1 64 t = C 64 t) ∧ (∀ i, i < m → z.1 59 i = ((o i : Nat) : Int)) ∧ (∀ t, t = 11 ∨ t = 12 ∨ t = 13 → z.1 58 t = C 58 t) ∧ (∀ t, t < L → z.1 65 t = ((o t : Nat) : Int)) ∧ (∀ l, l ≤ L → rw66 z.1 M o l) ∧ ((L = r ∧ z.2.2 = 0 ∧ z.1 58 16 = ((w : Nat) : Int)) ∨ (0 < L ∧ z.1 58 16 = (L : Int) ∧ z.2.2 = ((mxC M (ptot M o L) (mE M + 1) 0 : Nat) : Int) ∧ z.2.2 ≤ C 58 12))) (fun z => (10 - z.2.1).toNat) ?_ (C4, ((r : Nat) : Int), 0) ⟨r, by omega, rfl, fun b t x1 x2 x3 x4 x5 => a1 b t x2, fun t => a1 _ _ (by omega), a2, fun t ht => a1 _ _ (by omega), fun t ht => ?_, fun l hl => ?_, Or.inl ⟨rfl, rfl, by dsimp only; rw [a1 _ _ (by omega)]; exact t1⟩⟩
  · rintro ⟨D, v3, v4⟩ ⟨L, z0, z1, z2, z3, z4, z5, z6, z7, z8⟩ K hK
    dsimp only at z1 z2 z3 z4 z5 z6 z7 z8
    subst z1
    have l26D : L26 D m M := l26.congr (fun b t h1 h2 => z2 b t (by omega) (by omega) (by omega) (by omega) (by omega))
    have knD : KN D M := kn.congr z3
    unfold B_Se_tryOrder_21
    simp only [fS hn, Int.reduceToNat, true_and, Int.toNat_natCast]
    refine ⟨fun q => ?_, fun q => ?_⟩
    · have eL : L = m := by omega
      subst eL
      have dd : v4 = ((Dp M N : Nat) : Int) ∧ v4 ≤ C 58 12 ∧ D 58 16 = ((L : Nat) : Int) := by
        rcases z8 with ⟨x1, x2, x3⟩ | ⟨x1, x2, x3, x4⟩
        · have e0 := rm x1.symm
          have eD : Dp M N = 0 := by
            rw [DpN, mxC_all]
            refine Nat.le_zero.mp (mx_le (fun j _ => mx_le (fun k _ => ?_)))
            rw [e0]
            exact Nat.le_refl _
          refine ⟨by rw [x2, eD]; rfl, ?_, ?_⟩
          · rw [x2]
            rcases bb with bb | ⟨b, -, -, bb, -⟩
            · rw [bb.2.2.1]
              omega
            · rw [bb]
              omega
          · rw [x3]
            omega
        · exact ⟨by rw [x3, DpN], x4, x2⟩
      obtain ⟨d1, d2, d3⟩ := dd
      unfold J_Se_tryOrder_79
      simp only [fS hn, Int.reduceToNat, true_and]
      refine f_sumOfLevel hn ok mm' l26D (z7 L (Nat.le_refl _)) ?_
      rw [← SmN]
      have tw : ∀ D2 : Cn, (∀ b t, ¬ (b = 58 ∧ (t = 11 ∨ t = 12 ∨ t = 13)) → D2 b t = D b t) → L26 D2 L M ∧ KN D2 M ∧ ∃ (τ : Nat → Nat) (w : Nat), D2 58 16 = w ∧ w ≤ L ∧ (∀ t, t < w → D2 65 t = ((τ t : Nat) : Int)) ∧ (∀ l, l ≤ w → rw66 D2 M τ l) ∧ (w = L → 0 < L → ∃ prev, prev < N + 1 ∧ ∀ t, t < L → τ t = oF L prev t) := by
        intro D2 g
        refine ⟨l26D.congr (fun b t h1 h2 => g b t (by omega)), knD.congr (fun t => g _ _ (by omega)), o, L, by rw [g _ _ (by omega), d3], Nat.le_refl _, fun t ht => by rw [g _ _ (by omega), z6 t ht], fun l hl => (z7 l hl).congr ok (fun t _ => g _ _ (by omega)), fun _ _ => ⟨N, by omega, fun t ht => by rw [hoo]⟩⟩
      have SmL := Sm_le ok
      -- it is the best so far
      have better : (∀ b, bst M N b → C 58 12 = ((Dp M b : Nat) : Int) → C 58 13 = ((Sm M b : Nat) : Int) → btr M N b) → J_Se_tryOrder_104 n D 58 (N : Int) v4 ((Sm M N : Nat) : Int) Q := by
        intro hb
        unfold J_Se_tryOrder_104
        simp only [fS hn, Int.reduceToNat, true_and]
        intro C20 c20 C21 c21 C22 c22
        have g : ∀ b t, ¬ (b = 58 ∧ (t = 11 ∨ t = 12 ∨ t = 13)) → C22 b t = D b t := fun b t hb => by rw [c22, wr_ne (by omega), c21, wr_ne (by omega), c20, wr_ne (by omega)]
        obtain ⟨u1, u2, u3⟩ := tw C22 g
        have hh := h C22 (N + 1) (by omega) (by omega) (fun b t x1 x2 x3 x4 x5 => by rw [g b t (by omega), z2 b t x1 x2 x3 x4 x5]) ⟨u1, u2, u3, Or.inr ⟨N, ?_, ?_, ?_, ?_⟩⟩
        · rw [Nat.add_sub_cancel_left] at hh
          exact hh
        · rcases bb with bb | ⟨b, b1, b2, b3, b4⟩
          · rw [bb.1]
            exact bst.one M
          · exact b1.new (hb b b1 b3 b4)
        · rw [c22, wr_ne (by omega), c21, wr_ne (by omega), c20, wr_same]
        · rw [c22, wr_ne (by omega), c21, wr_same, d1]
        · rw [c22, wr_same]
      rw [z5 12 (by omega), z5 13 (by omega)]
      refine ⟨fun q2 => better (fun b b1 b3 b4 => Or.inl (by omega)), fun q2 => ⟨fun q3 => ?_, fun q3 => better (fun b b1 b3 b4 => ?_)⟩⟩
      · obtain ⟨u1, u2, u3⟩ := tw D (fun _ _ _ => rfl)
        have hh := h D (N + 1) (by omega) (by omega) z2 ⟨u1, u2, u3, ?_⟩
        · rw [Nat.add_sub_cancel_left] at hh
          exact hh
        · rcases bb with bb | ⟨b, b1, b2, b3, b4⟩
          · have := SmL N
            omega
          · refine Or.inr ⟨b, b1.keep (fun w => ?_), by rw [z5 11 (by omega), b2], by rw [z5 12 (by omega), b3], by rw [z5 13 (by omega), b4]⟩
            unfold btr at w
            omega
      · unfold btr
        omega
    · have hL : L < m := by omega
      have oL := o1 L hL
      refine ⟨by omega, by omega, fun C29 c29 => ?_⟩
      rw [z4 L hL] at c29
      have g29 : ∀ b t, ¬ (b = 65 ∧ t = L) → C29 b t = D b t := fun b t hb => by rw [c29, wr_ne hb]
      refine f_addLevel hn ok mm' (l26D.congr (fun b t h1 h2 => g29 b t (by omega))) (knD.congr (fun t => g29 _ _ (by omega))) hL (fun i hi => ⟨by rw [g29 _ _ (by omega), z4 i hi], (oo i hi).1⟩) o2 ((z7 L (Nat.le_refl _)).congr ok (fun t _ => g29 _ _ (by omega))) (fun C31 e1 e2 C34 c34 => ?_)
      rw [w32_n (by omega)] at c34
      have g34 : ∀ b t, ¬ (b = 65 ∧ t = L) → ¬ (b = 66 ∧ 49 * (L + 1) ≤ t) → ¬ (b = 58 ∧ t = 16) → C34 b t = D b t := fun b t h1 h2 h3 => by rw [c34, wr_ne h3, e1 b t h2, g29 b t h1]
      have fr : frB C C34 := fun b t x1 x2 x3 x4 x5 => by rw [g34 b t (by omega) (by omega) (by omega), z2 b t x1 x2 x3 x4 x5]
      have tr : ∀ t, t < L + 1 → C34 65 t = ((o t : Nat) : Int) := by
        intro t ht
        by_cases e : t = L
        · rw [e, c34, wr_ne (by omega), e1 _ _ (by omega), c29, wr_same]
        · rw [g34 _ _ (by omega) (by omega) (by omega), z6 t (by omega)]
      have rows : ∀ l, l ≤ L + 1 → rw66 C34 M o l := by
        intro l hl
        by_cases e : l = L + 1
        · rw [e]
          exact e2.congr ok (fun t _ => by rw [c34, wr_ne (by omega)])
        · exact (z7 l (by omega)).congr ok (fun t ht => g34 _ _ (by omega) (by
            have : 49 * (l + 1) ≤ 49 * (L + 1) := Nat.mul_le_mul_left _ (by omega)
            omega) (by omega))
      have s16 : C34 58 16 = ((L + 1 : Nat) : Int) := by rw [c34, wr_same]
      have g64 : ∀ t, C34 64 t = C 64 t := fun t => by rw [g34 _ _ (by omega) (by omega) (by omega), z3 t]
      have g5 : ∀ t, t = 11 ∨ t = 12 ∨ t = 13 → C34 58 t = C 58 t := fun t ht => by rw [g34 _ _ (by omega) (by omega) (by omega), z5 t ht]
      rw [g5 12 (by omega), w32_n (by omega)]
      refine ⟨fun q2 => ?_, fun q2 => ?_⟩
      · exact hK _ ⟨L + 1, by omega, rfl, fr, g64, fun i hi => by dsimp only; rw [g34 _ _ (by omega) (by omega) (by omega), z4 i hi], g5, tr, rows, Or.inr ⟨by omega, s16, rfl, q2⟩⟩ (by dsimp only; omega)
      · have w1 : w32 ((m : Int) - ((L + 1 : Nat) : Int)) = ((m - (L + 1) : Nat) : Int) := by
          rw [w32_s (by omega)]
          omega
        have sv := sav_f.2 (m - (L + 1)) (by omega)
        unfold J_Se_tryOrder_62
        simp only [w1, Int.toNat_natCast, sv, sav_f.1]
        clear w1
        refine ⟨by omega, by omega, fun v5 hv5 => ?_⟩
        rw [hv5]
        have fp := fct_pos (m - (L + 1))
        have fu := fct_le (m - (L + 1)) (by omega)
        have ml : N % fct (m - (L + 1)) < fct (m - (L + 1)) := Nat.mod_lt _ fp
        obtain ⟨c, hc⟩ := fct_dvd (m - (L + 1)) (L + 1)
        rw [(by omega : m - (L + 1) + (L + 1) = m)] at hc
        have dm := Nat.div_add_mod N (fct (m - (L + 1)))
        have pL : ∀ a, a / fct (m - (L + 1)) = N / fct (m - (L + 1)) → ∀ i, i < L + 1 → oF m a i = o i := fun a ha i hi => by
          rw [← hoo]
          exact oF_pre (by omega) ha i hi
        rw [tmod_n, w32_nn (by omega)]
        generalize fct (m - (L + 1)) = A at *
        have q3 : N / A < c := Nat.div_lt_of_lt_mul (by rw [← hc]; exact hN)
        have q4 : A * (N / A + 1) ≤ A * c := Nat.mul_le_mul_left _ q3
        have q5 : A * (N / A + 1) = A * (N / A) + A := Nat.mul_succ _ _
        generalize hq : N / A = qq at *
        generalize hr : N % A = rr at *
        generalize A * qq = Aq at *
        have e3 : w32 (((A : Nat) : Int) - ((rr : Nat) : Int)) = ((A - rr : Nat) : Int) := by
          rw [w32_s (by omega)]
          omega
        refine ⟨by omega, ?_⟩
        rw [e3]
        clear e3
        have hh := h C34 (N + (A - rr)) (by omega) (by omega) fr ⟨l26.congr (fun b t h1 h2 => fr b t (by omega) (by omega) (by omega) (by omega) (by omega)), kn.congr g64, ⟨o, L + 1, s16, by omega, tr, rows, fun _ _ => ⟨N, by omega, fun t ht => by rw [hoo]⟩⟩, ?_⟩
        · rw [Nat.add_sub_cancel_left] at hh
          exact hh
        · rcases bb with bb | ⟨b, b1, b2, b3, b4⟩
          · exfalso
            have : mxC M (ptot M o (L + 1)) (mE M + 1) 0 ≤ 24 := mxC_le (fun j k => by
              have := ptot_le M o (L + 1) j k
              omega) _ _
            omega
          · refine Or.inr ⟨b, b1.skip (by omega) (fun a ha1 ha2 => ?_), by rw [g5 11 (by omega), b2], by rw [g5 12 (by omega), b3], by rw [g5 13 (by omega), b4]⟩
            have ea : a / A = qq := by
              have x1 : A * (a / A) ≤ a := Nat.mul_div_le a A
              have x2 : a < A * (a / A + 1) := Nat.lt_mul_div_succ a fp
              have x3 : A * qq ≤ N := by rw [← hq]; exact Nat.mul_div_le N A
              have x4 : N < A * (qq + 1) := by rw [← hq]; exact Nat.lt_mul_div_succ N fp
              have x5 : a < A * (qq + 1) := by
                rw [Nat.mul_succ]
                have : A * qq + rr = N := by rw [← hq, ← hr]; exact Nat.div_add_mod N A
                omega
              have y1 : qq < a / A + 1 := Nat.lt_of_mul_lt_mul_left (Nat.lt_of_le_of_lt (Nat.le_trans x3 ha1) x2)
              have y2 : a / A < qq + 1 := Nat.lt_of_mul_lt_mul_left (Nat.lt_of_le_of_lt x1 x5)
              omega
            have pre := pL a ea
            have : mxC M (ptot M o (L + 1)) (mE M + 1) 0 ≤ Dp M a := by
              rw [Dp_eq, mm']
              refine mxC_mono (fun j k => ?_)
              rw [← ptot_congr pre j k]
              exact ptot_mono (by omega) j k
            omega
  · dsimp only
    rw [a1 _ _ (by omega), t3 t (by omega), r2 t ht]
  · dsimp only
    intro j k hj hk
    rw [a1 _ _ (by omega), t4 l (by omega) j k hj hk, ptot_congr (fun t ht => r2 t (by omega))]
theorem f_bestOrder {n : Nat} {C : Cn} {m : Nat} {M : Mp} {Q : Int → Cn → Prop} (hn : 91 ≤ n) (ok : okM M) (mm' : mm M = m) (l26 : L26 C m M) (st : ST C M) (row0 : ∀ t, t < 49 → C 66 t = 0) (cache : C 58 11 = -1 ∨ ∃ b, bst M (fct m) b ∧ C 58 11 = ((b : Nat) : Int))
    (h : ∀ (C2 : Cn) (b : Nat), frB C C2 → bst M (fct m) b → C2 58 11 = ((b : Nat) : Int) → Q (b : Nat) C2) : P_Se_bestOrder n C 58 Q := by
  have m6 : m ≤ 6 := by
    have := ok.m
    omega
  have f720 := fct_le m (by omega)
  unfold P_Se_bestOrder
  simp only [fS hn, fL hn, Int.reduceToNat, true_and]
  refine ⟨fun q C3 c3 C4 c4 C5 c5 C6 c6 => ?_, fun q => ?_⟩
  · have g6 : ∀ b t, ¬ (b = 58 ∧ (t = 11 ∨ t = 12 ∨ t = 13 ∨ t = 16)) → C6 b t = C b t := fun b t hb => by rw [c6, wr_ne (by omega), c5, wr_ne (by omega), c4, wr_ne (by omega), c3, wr_ne (by omega)]
    refine f_learn hn ok mm' (l26.congr (fun b t h1 h2 => g6 b t (by omega))) (st.congr (fun b t h1 h2 => g6 b t (by omega))) (fun C7 x1 x2 => ?_)
    have fr7 : frB C C7 := fun b t y1 y2 y3 y4 y5 => by rw [x1 b t y3 (by omega), g6 b t (by omega)]
    have l267 : L26 C7 m M := l26.congr (fun b t h1 h2 => fr7 b t (by omega) (by omega) (by omega) (by omega) (by omega))
    rw [l267.1, Int.toNat_natCast, sav_f.1, sav_f.2 m (by omega)]
    refine ⟨by omega, by omega, fun v1 hv1 => ?_⟩
    rw [hv1]
    have bi0 : BI C7 M m 0 := by
      refine ⟨l267, x2, ⟨fun _ => 0, 0, ?_, by omega, fun t ht => absurd ht (Nat.not_lt_zero t), fun L hL => ?_, fun e he => by omega⟩, Or.inl ⟨rfl, ?_, ?_, ?_⟩⟩
      · rw [x1 _ _ (by omega) (by omega), c6, wr_same]
        rfl
      · have eL : L = 0 := by omega
        subst eL
        intro j k hj hk
        have := FC_49 ok hj hk
        rw [x1 _ _ (by omega) (by omega), g6 _ _ (by omega), row0 _ (by omega)]
        rfl
      · rw [x1 _ _ (by omega) (by omega), c6, wr_ne (by omega), c5, wr_ne (by omega), c4, wr_ne (by omega), c3, wr_same]
      · rw [x1 _ _ (by omega) (by omega), c6, wr_ne (by omega), c5, wr_ne (by omega), c4, wr_same]
      · rw [x1 _ _ (by omega) (by omega), c6, wr_ne (by omega), c5, wr_same]
    refine lp_rule (fun (z : Cn × Int) => ∃ N : Nat, N ≤ fct m ∧ z.2 = (N : Int) ∧ frB C z.1 ∧ BI z.1 M m N) (fun z => (1000 - z.2).toNat) ?_ (C7, 0) ⟨0, by omega, rfl, fr7, bi0⟩
    rintro ⟨D, v2⟩ ⟨N, z0, z1, z2, z3⟩ K hK
    dsimp only at z1 z2 z3
    subst z1
    unfold B_Se_bestOrder_53
    simp only [fS hn, Int.reduceToNat, true_and]
    refine ⟨fun q2 => ?_, fun q2 => ?_⟩
    · have eN : N = fct m := by omega
      subst eN
      have fp := fct_pos m
      rcases z3.2.2.2 with bb | ⟨b, b1, b2, -⟩
      · omega
      · rw [b2]
        exact h D b z2 b1 b2
    · refine f_tryOrder hn ok mm' z3 (by omega) (fun C2 N2 y1 y2 y3 y4 v2 hv2 => ?_)
      have e : w32 ((N : Int) + imax 1 ((N2 - N : Nat) : Int)) = ((N2 : Nat) : Int) := by
        have e1 : imax 1 ((N2 - N : Nat) : Int) = ((N2 - N : Nat) : Int) := by
          unfold imax
          split <;> omega
        rw [e1, w32_s (by omega)]
        omega
      rw [e] at hv2
      clear e
      rw [hv2]
      exact hK _ ⟨N2, y2, rfl, z2.trans y3, y4⟩ (by dsimp only; omega)
  · rcases cache with c | ⟨b, b1, b2⟩
    · exact absurd c q
    · rw [b2]
      exact h C b (frB.rfl' C) b1 b2
