/-! my own: taken, feed -/
theorem f3R {n i : Nat} (hn : 91 ≤ n) (hi : i < 6) : PT 3 i = ((4 + i : Nat) : Int) ∧ okO n ((4 + i : Nat) : Int) 7 := EW (e := 2) hn (Or.inl rfl) hi
abbrev kdd (C : Cn) (t : Nat) (v : Int) : Prop := (v = 6 ∧ C 79 t = 1) ∨ (v = 7 ∧ C 79 t = 2) ∨ (v < 6 ∧ C 79 t = 3 ∧ undr (C (4 + (C 80 t).toNat) 0) v)
theorem kdd_hi {C : Cn} {t : Nat} {v : Int} (e8 : (C 79 t = 0 ∧ C 311 t = 0) ∨ (C 79 t = 1 ∧ C 311 t = 2) ∨ (C 79 t = 2 ∧ C 311 t = 3) ∨ (C 79 t = 3 ∧ C 311 t = 1 ∧ 0 ≤ C 80 t ∧ C 80 t < 6)) (hv : v = 6 ∨ v = 7) : C 311 t = v - 4 ↔ kdd C t v := by
  unfold kdd
  rcases hv with rfl | rfl
  · rcases e8 with ⟨a, b⟩ | ⟨a, b⟩ | ⟨a, b⟩ | ⟨a, b, -⟩ <;> rw [a, b] <;> simp
  · rcases e8 with ⟨a, b⟩ | ⟨a, b⟩ | ⟨a, b⟩ | ⟨a, b, -⟩ <;> rw [a, b] <;> simp
theorem kdd_lo {C : Cn} {t : Nat} {v : Int} (h : C 79 t ≠ 3) (hv : v ≠ 6) (hv2 : v ≠ 7) : ¬ kdd C t v := by
  unfold kdd
  rintro (⟨a, -⟩ | ⟨a, -⟩ | ⟨-, a, -⟩)
  · exact hv a
  · exact hv2 a
  · exact h a
theorem kdd_eq {C : Cn} {t i : Nat} {v : Int} (h : C 79 t = 3) (hi : C 80 t = (i : Int)) (hv : v < 6) : undr (C (4 + i) 0) v ↔ kdd C t v := by
  unfold kdd
  rw [hi, Int.toNat_natCast]
  refine ⟨fun w => Or.inr (Or.inr ⟨hv, h, w⟩), ?_⟩
  rintro (⟨a, -⟩ | ⟨a, -⟩ | ⟨-, -, a⟩)
  · omega
  · omega
  · exact a
theorem f_ofKind {n m t : Nat} {C : Cn} {v : Int} {Q : Int → Prop} (hn : 91 ≤ n) (ht : t < 10) (m6 : m ≤ 6) (fu : fl C m t) (i8 : I8 C) (ks : ∀ i, i < m → 0 ≤ C (4 + i) 0 ∧ C (4 + i) 0 < 6) (hv : 0 ≤ v ∧ v ≤ 7) (h : Q (bI (kdd C t v))) : P_F_isOfKind n C 1 (t : Int) v Q := by
  have e8 := i8 t ht
  unfold P_F_isOfKind J_F_isOfKind_26 J_F_isOfKind_43 J_F_isOfKind_81
  simp only [fS hn, Int.reduceToNat, Int.toNat_natCast, true_and]
  refine ⟨by omega, fun x ex => ⟨fun q => ?_, fun q => ⟨fun q2 => ?_, fun q2 => ⟨fun q3 => ?_, fun q3 => use_Q h (bI_f (kdd_lo (by omega) q q2))⟩⟩⟩⟩
  · have e : (if x = 1 then (1 : Int) else 0) = bI (kdd C t v) := by
      have w2 := kdd_hi e8.2 (Or.inl q)
      by_cases w : x = 1
      · rw [if_pos w, bI_t (w2.mp (by clear w2 h; omega))]
      · rw [if_neg w, bI_f (fun w3 => w (by have := w2.mpr w3; clear w2 w3 h; omega))]
    rw [e]
    exact ⟨bI_or, h⟩
  · have e : (if x = 2 then (1 : Int) else 0) = bI (kdd C t v) := by
      have w2 := kdd_hi e8.2 (Or.inr q2)
      by_cases w : x = 2
      · rw [if_pos w, bI_t (w2.mp (by clear w2 h; omega))]
      · rw [if_neg w, bI_f (fun w3 => w (by have := w2.mpr w3; clear w2 w3 h; omega))]
    rw [e]
    exact ⟨bI_or, h⟩
  · obtain ⟨i, hi⟩ : ∃ i : Nat, C 80 t = (i : Int) := ⟨(C 80 t).toNat, by omega⟩
    unfold fl at fu
    rw [hi] at fu e8 ⊢
    have im : i < m := by omega
    have r := f3R hn (by omega : i < 6)
    have k := ks i im
    simp only [Int.toNat_natCast, r, true_and]
    refine ⟨by omega, by omega, f_under k (by omega) ?_⟩
    rw [ite_01]
    exact ⟨bI_or, use_Q h (bI_iff (kdd_eq (by omega) hi (by omega)).symm)⟩
theorem c_taken {n : Nat} {C : Cn} {v1 v2 : Int} (hn : 320 ≤ n) (inv : Inv C) : P_F_taken n C 1 v1 v2 (fun r C1 => P_G_taken n C1 91 v1 v2 (fun r2 C2 => r = r2 ∧ Inv C2)) := by
  have hf : 91 ≤ n := by omega
  have inv' := inv
  obtain ⟨m, i1, -, -, -, -, -, -, i8, -⟩ := inv'
  obtain ⟨m6, m1, m2, m3, m4, -⟩ := i1
  unfold P_F_taken
  refine f_isIn (bI_br (fun q => ?_) (fun q => f_isIn (bI_br (fun q2 => ?_) (fun q2 => ?_))))
  · simp only [fS hf, true_and]
    refine f_tell hf (by decide) (fun C1 c1 => ?_)
    unfold P_G_taken
    refine g_in (bI_br (fun _ => ?_) (fun w => absurd w q))
    simp only [gS hn, true_and]
    exact both hn (by decide) inv c1 (fun _ _ _ => rfl)
  · simp only [fS hf, true_and]
    refine f_tell hf (by decide) (fun C1 c1 => ?_)
    unfold P_G_taken
    refine g_in (bI_br (fun w => absurd q w) (fun _ => g_in (bI_br (fun _ => ?_) (fun w => absurd w q2))))
    simp only [gS hn, true_and]
    exact both hn (by decide) inv c1 (fun _ _ _ => rfl)
  · obtain ⟨t, rfl⟩ : ∃ t : Nat, v1 = (t : Int) := ⟨v1.toNat, by omega⟩
    have ht : t < 10 := by omega
    have e8 := i8 t ht
    -- the reference, at cells that agree
    have G : ∀ (C1 : Cn) (Q : Int → Cn → Prop), (∀ b s, b ≠ 82 → C1 b s = C b s) → (¬ fl C m t → P_G_finds n C1 91 5 Q) → (fl C m t → ¬ kdd C t v2 → P_G_finds n C1 91 2 Q) → (fl C m t → kdd C t v2 → Q (C 80 t) C1) → P_G_taken n C1 91 (t : Int) v2 Q := by
      intro C1 Q o k5 k2 k1
      have o8 : I8 C1 := i8.congr (fun b t hb => o b t (by omega))
      have ofl : bI (fl C1 m t) = bI (fl C m t) := by
        unfold fl
        rw [o 79 t (by omega), o 80 t (by omega)]
      have x1 : C1 311 t = C 311 t := o _ _ (by omega)
      have x2 : C1 312 t = C 80 t := by rw [o _ _ (by omega), e8.1]
      unfold P_G_taken
      refine g_in (bI_br (fun w => absurd q w) (fun _ => g_in (bI_br (fun w => absurd q2 w) (fun _ => ?_))))
      simp only [gS hn, Int.reduceToNat, Int.toNat_natCast, true_and, x1]
      refine g_holds hn ht o8 (by rw [o _ _ (by omega), m2]) ?_
      rw [ofl]
      refine bI_br (fun q3 => k5 q3) (fun q3 => ⟨by omega, fun x ex => ?_⟩)
      have J : ∀ s0 : Int, s0 = bI (kdd C t v2) → J_G_taken_102 n C1 91 (t : Int) s0 Q := by
        intro s0 hs
        rw [hs]
        unfold J_G_taken_102
        simp only [gS hn, Int.reduceToNat, Int.toNat_natCast, true_and, x2]
        exact bI_br (fun w => k2 q3 w) (fun w => ⟨by omega, k1 q3 w⟩)
      refine ⟨fun q4 => J _ ?_, fun q4 => ⟨fun q5 => ?_, fun q5 => J _ ?_⟩⟩
      · rw [w32_s (by omega)]
        have w2 := kdd_hi e8.2 (by clear J k1 k2 k5 q3; omega : v2 = 6 ∨ v2 = 7)
        by_cases w : x = v2 - 4
        · rw [if_pos w, bI_t (w2.mp (ex.symm.trans w))]
        · rw [if_neg w, bI_f (fun w3 => w (ex.trans (w2.mpr w3)))]
      · obtain ⟨i, hi⟩ : ∃ i : Nat, C 80 t = (i : Int) := ⟨(C 80 t).toNat, by omega⟩
        have q3' : C 80 t < (m : Int) := q3.2 (by omega)
        have im : i < m := by omega
        have r := gR92 hn (by omega : i < 6)
        simp only [x2, hi, Int.toNat_natCast, r, true_and]
        refine ⟨by omega, by omega, by omega, g_under ?_⟩
        rw [ite_01]
        refine J _ (bI_iff ?_)
        rw [o _ _ (by omega), m3 i im 0]
        exact kdd_eq (by clear J k1 k2 k5 q3 q3'; omega) hi (by omega)
      · rw [bI_f (kdd_lo (by clear J k1 k2 k5; omega) (by omega) (by omega))]
    simp only [fS hf, Int.reduceToNat, Int.toNat_natCast, true_and]
    rw [m1]
    refine f_isFull hf ht (bI_br (fun q3 => ?_) (fun q3 => f_ofKind hf ht m6 q3 i8 (fun i hi => (m4 i hi).1) q2 (bI_br (fun q4 => ?_) (fun q4 => ?_))))
    · refine f_tell hf (by decide) (fun C1 c1 => ?_)
      exact G C1 _ (why0 c1) (fun _ => both hn (by decide) inv c1 (fun _ _ _ => rfl)) (fun w => absurd w q3) (fun w => absurd w q3)
    · refine f_tell hf (by decide) (fun C1 c1 => ?_)
      exact G C1 _ (why0 c1) (fun w => absurd q3 w) (fun _ _ => both hn (by decide) inv c1 (fun _ _ _ => rfl)) (fun _ w => absurd w q4)
    · refine ⟨by omega, ?_⟩
      exact G C _ (fun _ _ _ => rfl) (fun w => absurd q3 w) (fun _ w => absurd q4 w) (fun _ _ => ⟨rfl, inv⟩)
theorem and255 (x : Int) : and32 x 255 = x % 256 := by
  unfold and32
  rw [← Int32.toInt_toBitVec, Int32.toBitVec_and, Int32.toBitVec_ofInt, Int32.toBitVec_ofInt]
  have h1 : (BitVec.ofInt 32 x &&& BitVec.ofInt 32 255).toNat = (x % 256).toNat := by
    rw [BitVec.toNat_and, BitVec.toNat_ofInt]
    have h2 : (BitVec.ofInt 32 255).toNat = 2 ^ 8 - 1 := by decide
    rw [h2, Nat.and_two_pow_sub_one_eq_mod]
    have h3 : ((2 ^ 32 : Nat) : Int) = 4294967296 := by decide
    rw [h3]
    omega
  rw [BitVec.toInt_eq_toNat_of_lt (by rw [h1]; omega), h1]
  omega
theorem c_feed {n : Nat} {C : Cn} {v1 v2 : Int} (hn : 320 ≤ n) (inv : Inv C) : P_F_feed n C 1 v1 v2 (fun r C1 => P_G_feed n C1 91 v1 v2 (fun r2 C2 => r = r2 ∧ Inv C2)) := by
  have hf : 91 ≤ n := by omega
  have inv' := inv
  obtain ⟨m, -, -, -, -, -, ⟨T, t1, t2, t3, t4⟩, -⟩ := inv'
  unfold P_F_feed
  refine f_isIn (bI_br (fun q => ?_) (fun q => ?_))
  · simp only [fS hf, true_and]
    refine f_tell hf (by decide) (fun C1 c1 => ?_)
    unfold P_G_feed
    refine g_in (bI_br (fun _ => ?_) (fun w => absurd w q))
    simp only [gS hn, true_and]
    exact both hn (by decide) inv c1 (fun _ _ _ => rfl)
  · simp only [fS hf, Int.reduceToNat, true_and, t2]
    obtain ⟨k0, rfl⟩ : ∃ k : Nat, v2 = (k : Int) := ⟨v2.toNat, by omega⟩
    have w1 : w32 (120 - (k0 : Int)) = 120 - (k0 : Int) := w32_s (by omega)
    have w2 : w32 ((k0 : Int) - 1) = (k0 : Int) - 1 := w32_s (by omega)
    have w3 : w32 ((T : Int) + (k0 : Int)) = (T : Int) + (k0 : Int) := w32_s (by omega)
    rw [w1, w2]
    clear w1
    refine ⟨fun q2 => ?_, fun q2 => ?_⟩
    · generalize hy : (fun j : Nat => shr32 v1 (w32 (8 * ((k0 : Int) - 1 - (j : Int))))) = y
      have hy2 : ∀ j : Nat, shr32 v1 (w32 (8 * ((k0 : Int) - 1 - (j : Int)))) = y j := fun j => by rw [← hy]
      clear hy
      refine lp_rule (fun (z : Cn × Int) => ∃ j : Nat, j ≤ k0 ∧ z.2 = (k0 : Int) - 1 - (j : Int) ∧ ∀ b t, z.1 b t = if b = 72 ∧ t = 1 then ((T + j : Nat) : Int) else if b = 73 ∧ T ≤ t ∧ t < T + j then w8 (w8 (y (t - T))) else C b t) (fun z => (z.2 + 5).toNat) ?_ (C, (k0 : Int) - 1) ⟨0, by omega, by dsimp only; omega, fun b t => ?_⟩
      · rintro ⟨D, v3⟩ ⟨j, z0, z1, z2⟩ K hK
        dsimp only at z1 z2
        subst z1
        have d1 : D 72 1 = ((T + j : Nat) : Int) := by rw [z2, if_pos ⟨rfl, rfl⟩]
        unfold B_F_feed_39
        simp only [fS hf, Int.reduceToNat, Int.toNat_natCast, true_and, d1]
        refine ⟨fun q3 => ?_, fun q3 => ⟨by omega, fun C8 c8 C9 c9 => ?_⟩⟩
        · have hj : j = k0 := by omega
          subst hj
          unfold P_G_feed
          refine g_in (bI_br (fun w => absurd q w) (fun _ => ?_))
          have d2 : D 91 38 = (T : Int) := by rw [z2, if_neg (by omega), if_neg (by omega), t3]
          simp only [gS hn, Int.reduceToNat, true_and, d2]
          rw [w3, w2]
          clear w3 w2
          refine ⟨fun _ => ?_, fun w => absurd w (by omega)⟩
          refine lp_rule (fun (z : Cn × Int) => ∃ i : Nat, i ≤ j ∧ z.2 = (j : Int) - 1 - (i : Int) ∧ ∀ b t, z.1 b t = if b = 91 ∧ t = 38 then ((T + i : Nat) : Int) else if b = 302 ∧ T ≤ t ∧ t < T + i then y (t - T) % 256 else D b t) (fun z => (z.2 + 5).toNat) ?_ (D, (j : Int) - 1) ⟨0, by omega, by dsimp only; omega, fun b t => ?_⟩
          · rintro ⟨F, v3⟩ ⟨i, y0, y1, y2⟩ K2 hK2
            dsimp only at y1 y2
            subst y1
            have e1 : F 91 38 = ((T + i : Nat) : Int) := by rw [y2, if_pos ⟨rfl, rfl⟩]
            unfold B_G_feed_39
            simp only [gS hn, Int.reduceToNat, Int.toNat_natCast, true_and, e1]
            refine ⟨fun q4 => ?_, fun q4 => ⟨by omega, fun C8 c8 C9 c9 => ?_⟩⟩
            · have hi : i = j := by omega
              subst hi
              refine ⟨rfl, inv.up6 (fun b t hb hb2 => by rw [y2, if_neg (by omega), if_neg (by omega), z2, if_neg (by omega), if_neg (by omega)]) ⟨T + i, by omega, ?_, e1, fun t ht => ?_⟩⟩
              · rw [y2, if_neg (by omega), if_neg (by omega), d1]
              · rw [y2 73 t, if_neg (by omega), if_neg (by omega), z2 73 t, if_neg (by omega), y2 302 t, if_neg (by omega)]
                by_cases e : T ≤ t ∧ t < T + i
                · rw [if_pos ⟨rfl, e⟩, if_pos ⟨rfl, e⟩]
                  generalize y (t - T) = a
                  unfold w8
                  omega
                · rw [if_neg (fun w => e w.2), if_neg (fun w => e w.2), z2 302 t, if_neg (by omega), if_neg (by omega)]
                  exact t4 t (by omega)
            · have f1 : C8 91 38 = ((T + i : Nat) : Int) := by rw [c8, wr_ne (by omega), e1]
              rw [f1, w32_n (by omega)] at c9
              rw [and255, hy2] at c8
              have w4 : w32 ((j : Int) - 1 - (i : Int) + -1) = (j : Int) - 1 - ((i + 1 : Nat) : Int) := by
                rw [w32_s (by omega)]
                omega
              rw [w4]
              clear w4
              refine hK2 _ ⟨i + 1, by omega, rfl, fun b t => ?_⟩ (by dsimp only; omega)
              dsimp only
              by_cases g1 : b = 91 ∧ t = 38
              · rw [if_pos g1, g1.1, g1.2, c9, wr_same]
                rfl
              · rw [if_neg g1, c9, wr_ne g1]
                by_cases g2 : b = 302 ∧ t = T + i
                · rw [g2.1, g2.2, c8, wr_same, if_pos (by omega), (by omega : T + i - T = i)]
                · rw [c8, wr_ne g2, y2, if_neg g1]
                  by_cases g3 : b = 302 ∧ T ≤ t ∧ t < T + i
                  · rw [if_pos g3, if_pos (by omega)]
                  · rw [if_neg g3, if_neg (by omega)]
          · dsimp only
            by_cases g1 : b = 91 ∧ t = 38
            · rw [if_pos g1, g1.1, g1.2, d2]
              rfl
            · rw [if_neg g1, if_neg (by omega)]
        · clear w2 w3
          have f1 : C8 72 1 = ((T + j : Nat) : Int) := by rw [c8, wr_ne (by omega), d1]
          rw [f1, w32_n (by omega)] at c9
          rw [hy2] at c8
          have w4 : w32 ((k0 : Int) - 1 - (j : Int) + -1) = (k0 : Int) - 1 - ((j + 1 : Nat) : Int) := by
            rw [w32_s (by omega)]
            omega
          rw [w4]
          clear w4
          refine hK _ ⟨j + 1, by omega, rfl, fun b t => ?_⟩ (by dsimp only; omega)
          dsimp only
          by_cases g1 : b = 72 ∧ t = 1
          · rw [if_pos g1, g1.1, g1.2, c9, wr_same]
            rfl
          · rw [if_neg g1, c9, wr_ne g1]
            by_cases g2 : b = 73 ∧ t = T + j
            · rw [g2.1, g2.2, c8, wr_same, if_pos (by omega), (by omega : T + j - T = j)]
            · rw [c8, wr_ne g2, z2, if_neg g1]
              by_cases g3 : b = 73 ∧ T ≤ t ∧ t < T + j
              · rw [if_pos g3, if_pos (by omega)]
              · rw [if_neg g3, if_neg (by omega)]
      · dsimp only
        by_cases g1 : b = 72 ∧ t = 1
        · rw [if_pos g1, g1.1, g1.2, t2]
          rfl
        · rw [if_neg g1, if_neg (by omega)]
    · refine f_tell hf (by decide) (fun C1 c1 => ?_)
      unfold P_G_feed
      refine g_in (bI_br (fun w => absurd q w) (fun _ => ?_))
      have d2 : C1 91 38 = (T : Int) := by rw [why0 c1 _ _ (by omega), t3]
      simp only [gS hn, Int.reduceToNat, true_and, d2]
      rw [w3]
      clear w3 w2
      exact ⟨fun w => absurd w (by omega), fun _ => both hn (by decide) inv c1 (fun _ _ _ => rfl)⟩
