/-! my own: the reference sorts the segments of a strip -/
theorem gb_congr {n : Nat} {C D : Cn} {x : Nat} (h1 : ∀ f, D x f = C x f) (h : gb n C (x : Int)) : gb n D (x : Int) := by
  unfold gb at *
  simp only [Int.toNat_natCast, h1] at *
  exact h
theorem g_isOver {n : Nat} {C : Cn} {a b : Nat} {Q : Int → Prop} (hn : 320 ≤ n) (a6 : a < 6) (b6 : b < 6) (ha : gb n C ((93 + a : Nat) : Int)) (hb : gb n C ((93 + b : Nat) : Int)) (h : Q (bI (cOv C ((93 + a : Nat) : Int) ((93 + b : Nat) : Int)))) : P_G_isOver n C 91 (a : Int) (b : Int) Q := by
  have ra := gR92 hn a6
  have rb := gR92 hn b6
  have tail : ¬ (C (93 + a) 2 = C (93 + b) 2 ∧ C (93 + a) 3 = C (93 + b) 3) → J_G_isOver_35 n C ((93 + a : Nat) : Int) ((93 + b : Nat) : Int) Q := by
    intro k1
    unfold J_G_isOver_35
    simp only [ra, rb, true_and, Int.toNat_natCast]
    refine ⟨by omega, by omega, by omega, by omega, g_isAhead ⟨fun h1 => g_side ha hb.2.1 hb.2.2.1 ?_, fun h1 => g_side hb ha.2.1 ha.2.2.1 ?_⟩⟩
    · rw [bI_0] at h1
      unfold J_G_isOver_97
      rw [ite_ge]
      exact ⟨bI_or, use_Q h (bI_iff (by unfold cOv; simp only [Int.toNat_natCast]; rw [if_neg k1, if_neg h1]))⟩
    · rw [bI_0, Decidable.not_not] at h1
      unfold J_G_isOver_97
      rw [ite_le]
      exact ⟨bI_or, use_Q h (bI_iff (by unfold cOv; simp only [Int.toNat_natCast]; rw [if_neg k1, if_pos h1]))⟩
  unfold P_G_isOver
  simp only [gS hn, ra, rb, true_and, Int.toNat_natCast, Int.reduceToNat]
  refine ⟨by omega, by omega, by omega, by omega, fun h1 => ⟨by omega, by omega, fun h2 => ⟨by omega, by omega, by omega, by omega, g_isAhead ⟨fun h3 => g_side ha hb.2.2.2.1 hb.2.2.2.2 ?_, fun h3 => g_side hb ha.2.2.2.1 ha.2.2.2.2 ?_⟩⟩, fun h2 => tail (fun q => h2 q.2)⟩, fun h1 => tail (fun q => h1 q.1)⟩
  · rw [bI_0] at h3
    unfold J_G_isOver_160
    rw [ite_ge]
    exact ⟨bI_or, use_Q h (bI_iff (by unfold cOv; simp only [Int.toNat_natCast]; rw [if_pos ⟨h1, h2⟩, if_neg h3]))⟩
  · rw [bI_0, Decidable.not_not] at h3
    unfold J_G_isOver_160
    rw [ite_le]
    exact ⟨bI_or, use_Q h (bI_iff (by unfold cOv; simp only [Int.toNat_natCast]; rw [if_pos ⟨h1, h2⟩, if_pos h3]))⟩
theorem g_thr {n : Nat} {C : Cn} {i j a b : Nat} {Q : Int → Prop} (hn : 320 ≤ n) (hi : i < 6) (h3 : C 103 i = a) (h4 : C 104 i = b) (h : Q (bI (a < j ∧ j ≤ b))) : P_G_goesThrough n C 91 (i : Int) (j : Int) Q := by
  unfold P_G_goesThrough J_G_goesThrough_25
  simp only [gS hn, Int.toNat_natCast, Int.reduceToNat, true_and, h3, h4]
  refine ⟨by omega, fun q => use_Q h (bI_f (by omega)), fun q => ⟨by omega, ?_⟩⟩
  have e : (if (b : Int) < (j : Int) then (0 : Int) else 1) = bI (a < j ∧ j ≤ b) := by
    unfold bI
    split <;> split <;> omega
  rw [e]
  exact ⟨bI_or, h⟩
theorem g_ins {n : Nat} {C D : Cn} {j i hh : Nat} {T : Nat → Nat} {M : Mp} {Q : Int → Cn → Prop} {K : Cn × Int → Prop} (hn : 320 ≤ n) (hj : j ≤ 12) (m6 : mm M ≤ 6) (hi : i < mm M) (hle : hh ≤ i) (mem : ∀ t, t < hh → T t < i)
    (hw : ∀ i, i < mm M → gb n C ((93 + i : Nat) : Int)) (hov : ∀ a b, a < mm M → b < mm M → (cOv C ((93 + a : Nat) : Int) ((93 + b : Nat) : Int) ↔ mO M a b))
    (z2 : ∀ b t, b ≠ 107 + j → b ≠ 105 → D b t = C b t) (z3 : ∀ t, t ≠ j → D 105 t = C 105 t) (z4 : D 105 j = (hh : Int)) (z5 : ∀ k, k < hh → D (107 + j) k = T k)
    (hK : ∀ C2 : Cn, (∀ b t, b ≠ 107 + j → b ≠ 105 → C2 b t = C b t) → (∀ t, t ≠ j → C2 105 t = C 105 t) → C2 105 j = ((hh + 1 : Nat) : Int) → (∀ k, k < hh + 1 → C2 (107 + j) k = insT T (plc (mO M) T i hh) i k) → K (C2, w32 ((i : Int) + 1))) : ∃ f, lp (B_G_sorts_36 n 91 (j : Int) (i : Int) K Q) f (D, (hh : Int)) := by
  have rj := gR106 hn (by omega : j < 13)
  refine lp_rule (fun (z : Cn × Int) => ∃ p : Nat, p ≤ hh ∧ z.2 = (p : Int) ∧ (∀ b t, b ≠ 107 + j → b ≠ 105 → z.1 b t = C b t) ∧ (∀ t, t ≠ j → z.1 105 t = C 105 t) ∧ z.1 105 j = (hh : Int) ∧ (∀ k, k < p → z.1 (107 + j) k = T k) ∧ (∀ k, p < k → k ≤ hh → z.1 (107 + j) k = T (k - 1)) ∧ (∀ k, p ≤ k → k < hh → mO M (T k) i)) (fun z => z.2.toNat) ?_ (D, (hh : Int)) ⟨hh, Nat.le_refl _, rfl, z2, z3, z4, z5, fun k k1 k2 => by omega, fun k k1 k2 => by omega⟩
  rintro ⟨D2, v6⟩ ⟨p, y0, y1, y2, y3, y7, y4, y5, y6⟩ K2 hK2
  dsimp only at y1 y2 y3 y4 y5 y6 y7
  subst y1
  have fin : (p = 0 ∨ ¬ mO M (T (p - 1)) i) → J_G_sorts_82 n D2 91 (j : Int) (i : Int) (p : Int) K Q := by
    intro hp
    unfold J_G_sorts_82
    simp only [gS hn, rj, Int.toNat_natCast, Int.reduceToNat, true_and]
    refine ⟨by omega, by omega, fun C15 c15 => ⟨by omega, fun C16 c16 => ?_⟩⟩
    have ep : plc (mO M) T i hh = p := plc_eq y6 hp y0
    have c105 : C15 105 j = (hh : Int) := by rw [c15, wr_ne (fun q => by omega), y7]
    rw [c105, w32_n (by omega)] at c16
    refine hK C16 (fun b t hb hb2 => ?_) (fun t ht => ?_) ?_ (fun k hk => ?_)
    · rw [c16, wr_ne (fun q => hb2 q.1), c15, wr_ne (fun q => hb q.1), y2 b t hb hb2]
    · rw [c16, wr_ne (fun q => ht q.2), c15, wr_ne (fun q => by omega), y3 t ht]
    · rw [c16, wr_same]
    · rw [ep]
      unfold insT
      by_cases a1 : k < p
      · rw [if_pos a1, c16, wr_ne (fun q => by omega), c15, wr_ne (fun q => by omega), y4 k a1]
      · rw [if_neg a1]
        by_cases a2 : k = p
        · rw [if_pos a2, a2, c16, wr_ne (fun q => by omega), c15, wr_same]
        · rw [if_neg a2, c16, wr_ne (fun q => by omega), c15, wr_ne (fun q => by omega), y5 k (by omega) (by omega)]
  unfold B_G_sorts_36
  dsimp only
  refine ⟨fun c => fin (Or.inl (by omega)), fun c => ?_⟩
  have w1 : w32 ((p : Int) - 1) = ((p - 1 : Nat) : Int) := by
    rw [w32_s (by omega)]
    omega
  have w2 : w32 ((p : Int) + -1) = ((p - 1 : Nat) : Int) := by
    rw [w32_s (by omega)]
    omega
  have tp := y4 (p - 1) (by omega)
  have mp := mem (p - 1) (by omega)
  simp only [gS hn, rj, Int.toNat_natCast, Int.reduceToNat, true_and, w1, w2, tp]
  clear w1 w2
  refine ⟨by omega, by omega, ?_⟩
  have ga : ∀ f, D2 (93 + T (p - 1)) f = C (93 + T (p - 1)) f := fun f => y2 _ f (by omega) (by omega)
  have gb' : ∀ f, D2 (93 + i) f = C (93 + i) f := fun f => y2 _ f (by omega) (by omega)
  refine g_isOver hn (by omega) (by omega) (gb_congr ga (hw _ (by omega))) (gb_congr gb' (hw _ hi)) ⟨fun c2 => fin (Or.inr ?_), fun c2 => ?_⟩
  · rw [bI_0, cOv_congr ga gb', hov _ _ (by omega) hi] at c2
    exact c2
  · rw [bI_0, Decidable.not_not, cOv_congr ga gb', hov _ _ (by omega) hi] at c2
    refine ⟨by omega, fun C30 c30 => hK2 _ ⟨p - 1, by omega, rfl, fun b t hb hb2 => ?_, fun t ht => ?_, ?_, fun k hk => ?_, fun k k1 k2 => ?_, fun k k1 k2 => ?_⟩ (by dsimp only; omega)⟩
    · dsimp only
      rw [c30, wr_ne (fun q => hb q.1), y2 b t hb hb2]
    · dsimp only
      rw [c30, wr_ne (fun q => by omega), y3 t ht]
    · dsimp only
      rw [c30, wr_ne (fun q => by omega), y7]
    · dsimp only
      rw [c30, wr_ne (fun q => by omega), y4 k (by omega)]
    · dsimp only
      by_cases a : k = p
      · rw [a, c30, wr_same]
      · rw [c30, wr_ne (fun q => by omega), y5 k (by omega) k2]
    · by_cases a : k = p - 1
      · rw [a]
        exact c2
      · exact y6 k (by omega) k2
theorem g_sorts {n : Nat} {C : Cn} {j : Nat} {M : Mp} {Q : Int → Cn → Prop} (hn : 320 ≤ n) (hj : j ≤ 12) (m6 : mm M ≤ 6) (hm : C 91 0 = mm M)
    (hF : ∀ i, i < mm M → C 103 i = mF M i ∧ C 104 i = mL M i) (hw : ∀ i, i < mm M → gb n C ((93 + i : Nat) : Int)) (hov : ∀ a b, a < mm M → b < mm M → (cOv C ((93 + a : Nat) : Int) ((93 + b : Nat) : Int) ↔ mO M a b))
    (h : ∀ C2 : Cn, (∀ b i, b ≠ 107 + j → b ≠ 105 → C2 b i = C b i) → (∀ i, i ≠ j → C2 105 i = C 105 i) → (∀ k, k < mH M j → C2 (107 + j) k = mT M j k) → C2 105 j = mH M j → Q 0 C2) : P_G_sorts n C 91 (j : Int) Q := by
  have rj := gR106 hn (by omega : j < 13)
  unfold P_G_sorts
  simp only [gS hn, Int.toNat_natCast, Int.reduceToNat, true_and]
  refine ⟨by omega, fun C4 c4 => ?_⟩
  refine lp_rule (fun (z : Cn × Int) => ∃ i : Nat, i ≤ mm M ∧ z.2 = (i : Int) ∧ (∀ b t, b ≠ 107 + j → b ≠ 105 → z.1 b t = C b t) ∧ (∀ t, t ≠ j → z.1 105 t = C 105 t) ∧ z.1 105 j = ((stk (mO M) (thr M j) i).1 : Int) ∧ (∀ k, k < (stk (mO M) (thr M j) i).1 → z.1 (107 + j) k = (stk (mO M) (thr M j) i).2 k)) (fun z => (7 - z.2).toNat) ?_ (C4, 0) ⟨0, by omega, rfl, fun b t _ hb => by dsimp only; rw [c4, wr_ne (fun q => hb q.1)], fun t ht => by dsimp only; rw [c4, wr_ne (fun q => ht q.2)], by dsimp only; rw [c4, wr_same, stk_z]; rfl, fun k hk => by rw [stk_z] at hk; exact absurd hk (Nat.not_lt_zero k)⟩
  rintro ⟨D, v2⟩ ⟨i, z0, z1, z2, z3, z4, z5⟩ K hK
  dsimp only at z1 z2 z3 z4 z5
  subst z1
  have hle := stk_le (mO M) (thr M j) i
  unfold B_G_sorts_9
  simp only [gS hn, Int.toNat_natCast, Int.reduceToNat, true_and]
  rw [z2 91 0 (by omega) (by omega), hm]
  refine ⟨fun q => ?_, fun q => ?_⟩
  · have ei : i = mm M := by omega
    subst ei
    exact h D z2 z3 z5 z4
  · have hi : i < mm M := by omega
    have fi := hF i hi
    refine g_thr hn (by omega) (by rw [z2 _ _ (by omega) (by omega)]; exact fi.1) (by rw [z2 _ _ (by omega) (by omega)]; exact fi.2) ⟨fun q2 => ?_, fun q2 => ?_⟩
    · rw [bI_0] at q2
      rw [w32_n (by omega)]
      have es := stk_f (ov := mO M) (thr := thr M j) (i := i) q2
      refine hK _ ⟨i + 1, by omega, rfl, z2, z3, ?_, ?_⟩ (by dsimp only; omega)
      · rw [es]
        exact z4
      · rw [es]
        exact z5
    · rw [bI_0, Decidable.not_not] at q2
      have es := stk_t (ov := mO M) (thr := thr M j) (i := i) q2
      have mem := stk_mem (M := M) (j := j) i
      refine ⟨by omega, fun v3 hv3 => ?_⟩
      rw [z4] at hv3
      rw [hv3]
      refine g_ins hn hj m6 hi hle mem hw hov z2 z3 z4 z5 (fun C2 x1 x2 x3 x4 => ?_)
      rw [w32_n (by omega)]
      refine hK _ ⟨i + 1, by omega, rfl, x1, x2, ?_, ?_⟩ (by dsimp only; omega)
      · rw [es]
        exact x3
      · rw [es]
        exact x4
