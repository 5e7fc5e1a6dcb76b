/-! my own: the class stacks the segments of a strip -/
theorem w32_n {a : Nat} (h : a ≤ 5000) : w32 ((a : Int) + 1) = ((a + 1 : Nat) : Int) := by
  rw [w32_s (by omega)]
  omega
theorem cOv_congr {C D : Cn} {x y : Nat} (h1 : ∀ f, D x f = C x f) (h2 : ∀ f, D y f = C y f) : cOv D (x : Int) (y : Int) ↔ cOv C (x : Int) (y : Int) := by
  unfold cOv tC
  simp only [Int.toNat_natCast, h1, h2]
theorem wb_congr {n : Nat} {C D : Cn} {x : Nat} (h1 : ∀ f, D x f = C x f) (h : wb n C (x : Int)) : wb n D (x : Int) := by
  unfold wb at *
  simp only [Int.toNat_natCast, h1] at *
  exact h
theorem f_thr {n : Nat} {C : Cn} {l i j a b : Nat} {Q : Int → Prop} (hn : 91 ≤ n) (hl : l = 26 ∨ l = 42) (hi : i < 6) (h3 : C (l + 3) i = a) (h4 : C (l + 4) i = b) (h : Q (bI (a < j ∧ j ≤ b))) : P_La_goesThrough n C (l : Int) (i : Int) (j : Int) Q := by
  unfold P_La_goesThrough J_La_goesThrough_25
  simp only [lS hn hl, Int.toNat_natCast, true_and, h3, h4]
  refine ⟨by omega, fun q => use_Q h (bI_f (by omega)), fun q => ⟨by omega, ?_⟩⟩
  have e : (if (b : Int) < (j : Int) then (0 : Int) else 1) = bI (a < j ∧ j ≤ b) := by
    unfold bI
    split <;> split <;> omega
  rw [e]
  exact ⟨bI_or, h⟩
theorem stk_mem {M : Mp} {j : Nat} : ∀ i, ∀ t, t < (stk (mO M) (thr M j) i).1 → (stk (mO M) (thr M j) i).2 t < i := by
  intro i
  induction i with
  | zero =>
    intro t ht
    rw [stk_z] at ht
    exact absurd ht (Nat.not_lt_zero t)
  | succ i ih =>
    intro t ht
    by_cases c : thr M j i
    · rw [stk_t c] at ht ⊢
      show insT _ _ i t < i + 1
      have pl := (plc_spec (mO M) (stk (mO M) (thr M j) i).2 i (stk (mO M) (thr M j) i).1).1
      have ht' : t < (stk (mO M) (thr M j) i).1 + 1 := ht
      unfold insT
      split
      · have := ih t (by omega)
        omega
      · split
        · omega
        · have := ih (t - 1) (by omega)
          omega
    · rw [stk_f c] at ht ⊢
      have := ih t ht
      omega
theorem f_ins {n : Nat} {C D : Cn} {l e j i hh : Nat} {T : Nat → Nat} {M : Mp} {Q : Int → Cn → Prop} {K : Cn × Int × Int → Prop} (hn : 91 ≤ n) (hl : l = 26 ∨ l = 42) (he : e = 2 ∨ e = 10 ∨ e = 18) (hj : j ≤ 12) (m6 : mm M ≤ 6) (hd : e + 8 ≤ l) (hi : i < mm M) (hle : hh ≤ i) (mem : ∀ t, t < hh → T t < i)
    (hw : ∀ i, i < mm M → wb n C ((e + 2 + i : Nat) : Int)) (hov : ∀ a b, a < mm M → b < mm M → (cOv C ((e + 2 + a : Nat) : Int) ((e + 2 + b : Nat) : Int) ↔ mO M a b))
    (z3 : ∀ b t, b ≠ l + 5 → D b t = C b t) (z4 : ∀ t, ¬ (6 * j ≤ t ∧ t < 6 * j + 6) → D (l + 5) t = C (l + 5) t) (z5 : ∀ k, k < hh → D (l + 5) (6 * j + k) = T k)
    (hK : ∀ C2 : Cn, (∀ b t, b ≠ l + 5 → C2 b t = C b t) → (∀ t, ¬ (6 * j ≤ t ∧ t < 6 * j + 6) → C2 (l + 5) t = C (l + 5) t) → (∀ k, k < hh + 1 → C2 (l + 5) (6 * j + k) = insT T (plc (mO M) T i hh) i k) → K (C2, w32 ((hh : Int) + 1), w32 ((i : Int) + 1))) : ∃ f, lp (B_La_stackSegments_39 n (l : Int) (e : Int) (j : Int) ((6 * j : Nat) : Int) (hh : Int) (i : Int) K Q) f (D, ((6 * j + hh : Nat) : Int)) := by
  refine lp_rule (fun (z : Cn × Int) => ∃ p : Nat, p ≤ hh ∧ z.2 = ((6 * j + p : Nat) : Int) ∧ (∀ b t, b ≠ l + 5 → z.1 b t = C b t) ∧ (∀ t, ¬ (6 * j ≤ t ∧ t < 6 * j + 6) → z.1 (l + 5) t = C (l + 5) t) ∧ (∀ k, k < p → z.1 (l + 5) (6 * j + k) = T k) ∧ (∀ k, p < k → k ≤ hh → z.1 (l + 5) (6 * j + k) = T (k - 1)) ∧ (∀ k, p ≤ k → k < hh → mO M (T k) i)) (fun z => z.2.toNat) ?_ (D, ((6 * j + hh : Nat) : Int)) ⟨hh, Nat.le_refl _, rfl, z3, z4, z5, fun k k1 k2 => by omega, fun k k1 k2 => by omega⟩
  rintro ⟨D2, v6⟩ ⟨p, y0, y1, y2, y3, y4, y5, y6⟩ K2 hK2
  dsimp only at y1 y2 y3 y4 y5 y6
  subst y1
  have fin : (p = 0 ∨ ¬ mO M (T (p - 1)) i) → J_La_stackSegments_94 n D2 (l : Int) (e : Int) (j : Int) ((6 * j : Nat) : Int) (hh : Int) (i : Int) ((6 * j + p : Nat) : Int) K Q := by
    intro hp
    unfold J_La_stackSegments_94
    simp only [lS hn hl, Int.toNat_natCast, true_and]
    refine ⟨by omega, fun C15 c15 => ?_⟩
    have ep : plc (mO M) T i hh = p := plc_eq y6 hp y0
    refine hK C15 (fun b t hb => ?_) (fun t ht => ?_) (fun k hk => ?_)
    · rw [c15, wr_ne (fun q => hb q.1), y2 b t hb]
    · rw [c15, wr_ne (fun q => by omega), y3 t ht]
    · rw [ep]
      unfold insT
      by_cases a1 : k < p
      · rw [if_pos a1, c15, wr_ne (fun q => by omega), y4 k a1]
      · rw [if_neg a1]
        by_cases a2 : k = p
        · rw [if_pos a2, a2, c15, wr_same]
        · rw [if_neg a2, c15, wr_ne (fun q => by omega), y5 k (by omega) (by omega)]
  unfold B_La_stackSegments_39
  dsimp only
  refine ⟨fun c => fin (Or.inl (by omega)), fun c => ?_⟩
  have w1 : w32 (((6 * j + p : Nat) : Int) - 1) = ((6 * j + (p - 1) : Nat) : Int) := by
    rw [w32_s (by omega)]
    omega
  have w2 : w32 (((6 * j + p : Nat) : Int) + -1) = ((6 * j + (p - 1) : Nat) : Int) := by
    rw [w32_s (by omega)]
    omega
  have tp := y4 (p - 1) (by omega)
  have mp := mem (p - 1) (by omega)
  have ea := EW hn he (i := T (p - 1)) (by omega)
  have eb := EW hn he (i := i) (by omega)
  simp only [lS hn hl, ES hn he, Int.toNat_natCast, true_and, w1, w2, tp, ea, eb]
  clear w1 w2
  refine ⟨by omega, by omega, by omega, ?_⟩
  have ga : ∀ f, D2 (e + 2 + T (p - 1)) f = C (e + 2 + T (p - 1)) f := fun f => y2 _ f (by omega)
  have gb' : ∀ f, D2 (e + 2 + i) f = C (e + 2 + i) f := fun f => y2 _ f (by omega)
  refine f_isOver (wb_congr ga (hw _ (by omega))) (wb_congr gb' (hw _ hi)) ⟨fun c2 => fin (Or.inr ?_), fun c2 => ?_⟩
  · rw [bI_0, cOv_congr ga gb', hov _ _ (by omega) hi] at c2
    exact c2
  · rw [bI_0, Decidable.not_not, cOv_congr ga gb', hov _ _ (by omega) hi] at c2
    refine ⟨by omega, fun C30 c30 => hK2 _ ⟨p - 1, by omega, rfl, fun b t hb => ?_, fun t ht => ?_, fun k hk => ?_, fun k k1 k2 => ?_, fun k k1 k2 => ?_⟩ (by dsimp only; omega)⟩
    · dsimp only
      rw [c30, wr_ne (fun q => hb q.1), y2 b t hb]
    · dsimp only
      rw [c30, wr_ne (fun q => by omega), y3 t ht]
    · dsimp only
      rw [c30, wr_ne (fun q => by omega), y4 k (by omega)]
    · dsimp only
      by_cases a : k = p
      · rw [a, c30, wr_same]
      · rw [c30, wr_ne (fun q => by omega), y5 k (by omega) k2]
    · by_cases a : k = p - 1
      · rw [a]
        exact c2
      · exact y6 k (by omega) k2
theorem f_stack {n : Nat} {C : Cn} {l e j : Nat} {M : Mp} {Q : Int → Cn → Prop} (hn : 91 ≤ n) (hl : l = 26 ∨ l = 42) (he : e = 2 ∨ e = 10 ∨ e = 18) (hj : j ≤ 12) (m6 : mm M ≤ 6) (hm : C l 0 = mm M) (hd : e + 8 ≤ l)
    (hF : ∀ i, i < mm M → C (l + 3) i = mF M i ∧ C (l + 4) i = mL M i) (hw : ∀ i, i < mm M → wb n C ((e + 2 + i : Nat) : Int)) (hov : ∀ a b, a < mm M → b < mm M → (cOv C ((e + 2 + a : Nat) : Int) ((e + 2 + b : Nat) : Int) ↔ mO M a b))
    (h : ∀ C2 : Cn, (∀ b i, b ≠ l + 5 → b ≠ l + 6 → C2 b i = C b i) → (∀ i, ¬ (6 * j ≤ i ∧ i < 6 * j + 6) → C2 (l + 5) i = C (l + 5) i) → (∀ i, i ≠ j → C2 (l + 6) i = C (l + 6) i) → (∀ k, k < mH M j → C2 (l + 5) (6 * j + k) = mT M j k) → C2 (l + 6) j = mH M j → Q 0 C2) : P_La_stackSegments n C (l : Int) (e : Int) (j : Int) Q := by
  unfold P_La_stackSegments
  have wj : w32 ((j : Int) * 6) = ((6 * j : Nat) : Int) := by rw [w32_s (by omega)]; omega
  rw [wj]
  clear wj
  refine lp_rule (fun (z : Cn × Int × Int) => ∃ i : Nat, i ≤ mm M ∧ z.2.1 = ((stk (mO M) (thr M j) i).1 : Int) ∧ z.2.2 = (i : Int) ∧ (∀ b t, b ≠ l + 5 → z.1 b t = C b t) ∧ (∀ t, ¬ (6 * j ≤ t ∧ t < 6 * j + 6) → z.1 (l + 5) t = C (l + 5) t) ∧ (∀ k, k < (stk (mO M) (thr M j) i).1 → z.1 (l + 5) (6 * j + k) = (stk (mO M) (thr M j) i).2 k)) (fun z => (7 - z.2.2).toNat) ?_ (C, 0, 0) ⟨0, by omega, by rw [stk_z]; rfl, rfl, fun _ _ _ => rfl, fun _ _ => rfl, fun k hk => by rw [stk_z] at hk; exact absurd hk (Nat.not_lt_zero k)⟩
  rintro ⟨D, v4, v5⟩ ⟨i, z0, z1, z2, z3, z4, z5⟩ K hK
  dsimp only at z1 z2 z3 z4 z5
  subst z1
  subst z2
  have hle := stk_le (mO M) (thr M j) i
  unfold B_La_stackSegments_11
  simp only [lS hn hl, Int.toNat_natCast, true_and]
  rw [z3 l 0 (by omega), hm]
  refine ⟨fun q => ⟨by omega, fun C5 c5 => ?_⟩, fun q => ?_⟩
  · have ei : i = mm M := by omega
    subst ei
    refine h C5 (fun b t b1 b2 => ?_) (fun t ht => ?_) (fun t ht => ?_) (fun k hk => ?_) ?_
    · rw [c5, wr_ne (fun q => b2 q.1), z3 b t b1]
    · rw [c5, wr_ne (fun q => by omega), z4 t ht]
    · rw [c5, wr_ne (fun q => ht q.2), z3 _ t (by omega)]
    · rw [c5, wr_ne (fun q => by omega)]
      exact z5 k hk
    · rw [c5, wr_same]
      rfl
  · have hi : i < mm M := by omega
    have fi := hF i hi
    refine f_thr hn hl (by omega) (by rw [z3 _ _ (by omega)]; exact fi.1) (by rw [z3 _ _ (by omega)]; exact fi.2) ⟨fun q2 => ?_, fun q2 => ?_⟩
    · rw [bI_0] at q2
      rw [w32_n (by omega)]
      have es := stk_f (ov := mO M) (thr := thr M j) (i := i) q2
      refine hK _ ⟨i + 1, by omega, by rw [es], rfl, z3, z4, ?_⟩ (by dsimp only; omega)
      rw [es]
      exact z5
    · rw [bI_0, Decidable.not_not] at q2
      have es := stk_t (ov := mO M) (thr := thr M j) (i := i) q2
      have mem := stk_mem (M := M) (j := j) i
      have ws : w32 (((6 * j : Nat) : Int) + ((stk (mO M) (thr M j) i).1 : Int)) = ((6 * j + (stk (mO M) (thr M j) i).1 : Nat) : Int) := by
        rw [w32_s (by omega)]
        omega
      rw [ws]
      clear ws
      refine f_ins hn hl he hj m6 hd hi hle mem hw hov z3 z4 z5 (fun C2 x1 x2 x3 => ?_)
      rw [w32_n (by omega), w32_n (by omega)]
      refine hK _ ⟨i + 1, by omega, by rw [es], rfl, x1, x2, ?_⟩ (by dsimp only; omega)
      rw [es]
      exact x3
