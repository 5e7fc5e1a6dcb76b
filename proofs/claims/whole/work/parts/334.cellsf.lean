/-! my own: the class lays the cells of a strip -/
theorem f_lay {n : Nat} {C : Cn} {l j : Nat} {M : Mp} {Q : Int → Cn → Prop} (hn : 91 ≤ n) (hl : l = 26 ∨ l = 42) (ok : okM M) (hj : j ≤ mE M)
    (hst : ∀ k, k < mH M j → C (l + 5) (6 * j + k) = mT M j k) (hh : C (l + 6) j = mH M j) (hc : C l 8 = FC M j)
    (h : ∀ C2 : Cn, (∀ b t, b ≠ l + 7 → b ≠ l + 8 → b ≠ l + 9 → b ≠ l + 10 → ¬ (b = l ∧ t = 8) → C2 b t = C b t) → (∀ t, t ≠ j → C2 (l + 7) t = C (l + 7) t) → C2 (l + 7) j = FC M j → C2 l 8 = FC M (j + 1) →
      (∀ t, t < FC M j → C2 (l + 8) t = C (l + 8) t ∧ C2 (l + 9) t = C (l + 9) t ∧ C2 (l + 10) t = C (l + 10) t) → (∀ k, k ≤ mH M j → C2 (l + 8) (FC M j + k) = j ∧ C2 (l + 9) (FC M j + k) = flo M j k ∧ C2 (l + 10) (FC M j + k) = roo M j k) → Q 0 C2) : P_La_layCells n C (l : Int) (j : Int) Q := by
  have e12 := ok.e
  have h6 := ok.h6 j
  have c49 := ok.c49
  have fcm := FC_mono (M := M) (a := j + 1) (b := mE M + 1) (by omega)
  rw [FC_s] at fcm
  unfold P_La_layCells
  simp only [lS hn hl, Int.toNat_natCast, true_and]
  refine ⟨by omega, fun v3 hv3 => ⟨by omega, fun C7 c7 => ?_⟩⟩
  rw [hh] at hv3
  rw [hc] at c7
  have wj : w32 ((j : Int) * 6) = ((6 * j : Nat) : Int) := by rw [w32_s (by omega)]; omega
  rw [wj, hv3]
  clear wj
  refine lp_rule (fun (z : Cn × Int) => ∃ c : Nat, c ≤ mH M j + 1 ∧ z.2 = (c : Int) ∧ (∀ b t, b ≠ l + 7 → b ≠ l + 8 → b ≠ l + 9 → b ≠ l + 10 → ¬ (b = l ∧ t = 8) → z.1 b t = C b t) ∧ (∀ t, t ≠ j → z.1 (l + 7) t = C (l + 7) t) ∧ z.1 (l + 7) j = FC M j ∧ z.1 l 8 = ((FC M j + c : Nat) : Int) ∧
      (∀ t, t < FC M j → z.1 (l + 8) t = C (l + 8) t ∧ z.1 (l + 9) t = C (l + 9) t ∧ z.1 (l + 10) t = C (l + 10) t) ∧ (∀ k, k < c → z.1 (l + 8) (FC M j + k) = j ∧ z.1 (l + 9) (FC M j + k) = flo M j k ∧ z.1 (l + 10) (FC M j + k) = roo M j k)) (fun z => (10 - z.2).toNat) ?_ (C7, 0) ?_
  · rintro ⟨D, v4⟩ ⟨c, z0, z1, z2, z3, z4, z5, z6, z7⟩ K hK
    dsimp only at z1 z2 z3 z4 z5 z6 z7
    subst z1
    unfold B_La_layCells_25
    simp only [lS hn hl, Int.toNat_natCast, true_and]
    refine ⟨fun q => ?_, fun q => ?_⟩
    · have ec : c = mH M j + 1 := by omega
      subst ec
      exact h D z2 z3 z4 (by rw [z5, FC_s]) z6 (fun k hk => z7 k (by omega))
    · have hck : c ≤ mH M j := by omega
      rw [z5]
      simp only [Int.toNat_natCast]
      refine ⟨fun q2 => by omega, fun _ => ⟨by omega, fun C13 c13 => ?_⟩⟩
      have a8 : C13 l 8 = ((FC M j + c : Nat) : Int) := by rw [c13, wr_ne (fun q => by omega), z5]
      have fin2 : ∀ (D1 : Cn) (x : Int), x = roo M j c → D1 = wr C13 (l + 9) (FC M j + c) (flo M j c) → J_La_layCells_106 n D1 (l : Int) (j : Int) ((6 * j : Nat) : Int) ((mH M j : Nat) : Int) (c : Int) ((l + 10 : Nat) : Int) ((FC M j + c : Nat) : Int) x K Q := by
        intro D1 x hx d1
        unfold J_La_layCells_106
        simp only [lS hn hl, Int.toNat_natCast, true_and]
        refine ⟨by omega, fun C26 c26 C28 c28 => ?_⟩
        have b8 : C26 l 8 = ((FC M j + c : Nat) : Int) := by rw [c26, wr_ne (fun q => by omega), d1, wr_ne (fun q => by omega), a8]
        rw [b8, w32_n (by omega)] at c28
        rw [w32_n (by omega)]
        refine hK _ ⟨c + 1, by omega, rfl, fun b t b1 b2 b3 b4 b5 => ?_, fun t ht => ?_, ?_, ?_, fun t ht => ?_, fun k hk => ?_⟩ (by dsimp only; omega)
        · dsimp only
          rw [c28, wr_ne b5, c26, wr_ne (fun q => b4 q.1), d1, wr_ne (fun q => b3 q.1), c13, wr_ne (fun q => b2 q.1), z2 b t b1 b2 b3 b4 b5]
        · dsimp only
          rw [c28, wr_ne (fun q => by omega), c26, wr_ne (fun q => by omega), d1, wr_ne (fun q => by omega), c13, wr_ne (fun q => by omega), z3 t ht]
        · dsimp only
          rw [c28, wr_ne (fun q => by omega), c26, wr_ne (fun q => by omega), d1, wr_ne (fun q => by omega), c13, wr_ne (fun q => by omega), z4]
        · dsimp only
          rw [c28, wr_same]
          rfl
        · dsimp only
          obtain ⟨x1, x2, x3⟩ := z6 t ht
          refine ⟨?_, ?_, ?_⟩
          · rw [c28, wr_ne (fun q => by omega), c26, wr_ne (fun q => by omega), d1, wr_ne (fun q => by omega), c13, wr_ne (fun q => by omega), x1]
          · rw [c28, wr_ne (fun q => by omega), c26, wr_ne (fun q => by omega), d1, wr_ne (fun q => by omega), c13, wr_ne (fun q => by omega), x2]
          · rw [c28, wr_ne (fun q => by omega), c26, wr_ne (fun q => by omega), d1, wr_ne (fun q => by omega), c13, wr_ne (fun q => by omega), x3]
        · dsimp only
          by_cases e : k = c
          · subst e
            refine ⟨?_, ?_, ?_⟩
            · rw [c28, wr_ne (fun q => by omega), c26, wr_ne (fun q => by omega), d1, wr_ne (fun q => by omega), c13, wr_same]
            · rw [c28, wr_ne (fun q => by omega), c26, wr_ne (fun q => by omega), d1, wr_same]
            · rw [c28, wr_ne (fun q => by omega), c26, wr_same, hx]
          · obtain ⟨x1, x2, x3⟩ := z7 k (by omega)
            refine ⟨?_, ?_, ?_⟩
            · rw [c28, wr_ne (fun q => by omega), c26, wr_ne (fun q => by omega), d1, wr_ne (fun q => by omega), c13, wr_ne (fun q => by omega), x1]
            · rw [c28, wr_ne (fun q => by omega), c26, wr_ne (fun q => by omega), d1, wr_ne (fun q => by omega), c13, wr_ne (fun q => by omega), x2]
            · rw [c28, wr_ne (fun q => by omega), c26, wr_ne (fun q => by omega), d1, wr_ne (fun q => by omega), c13, wr_ne (fun q => by omega), x3]
      have fin1 : ∀ (x : Int), x = flo M j c → J_La_layCells_78 n C13 (l : Int) (j : Int) ((6 * j : Nat) : Int) ((mH M j : Nat) : Int) (c : Int) ((l + 9 : Nat) : Int) ((FC M j + c : Nat) : Int) x K Q := by
        intro x hx
        unfold J_La_layCells_78
        simp only [lS hn hl, Int.toNat_natCast, true_and]
        refine ⟨by omega, fun C19 c19 => ?_⟩
        rw [hx] at c19
        have b8 : C19 l 8 = ((FC M j + c : Nat) : Int) := by rw [c19, wr_ne (fun q => by omega), a8]
        rw [b8]
        refine ⟨fun e => fin2 C19 (-1) ?_ c19, fun e => ?_⟩
        · rw [(by omega : c = mH M j), roo_t]
        · have w1 : w32 (((6 * j : Nat) : Int) + (c : Int)) = ((6 * j + c : Nat) : Int) := by
            rw [w32_s (by omega)]
            omega
          rw [w1]
          clear w1
          simp only [Int.toNat_natCast]
          refine ⟨by omega, fin2 C19 _ ?_ c19⟩
          rw [c19, wr_ne (fun q => by omega), c13, wr_ne (fun q => by omega), z2 _ _ (by omega) (by omega) (by omega) (by omega) (by omega), hst c (by omega), roo_k (by omega)]
      rw [a8]
      refine ⟨fun e => fin1 (-1) ?_, fun e => ?_⟩
      · rw [(by omega : c = 0), flo_0]
      · have w1 : w32 (w32 (((6 * j : Nat) : Int) + (c : Int)) - 1) = ((6 * j + (c - 1) : Nat) : Int) := by
          rw [w32_s (x := ((6 * j : Nat) : Int) + (c : Int)) (by omega), w32_s (by omega)]
          omega
        rw [w1]
        clear w1
        simp only [Int.toNat_natCast]
        refine ⟨by omega, fin1 _ ?_⟩
        rw [c13, wr_ne (fun q => by omega), z2 _ _ (by omega) (by omega) (by omega) (by omega) (by omega), hst (c - 1) (by omega), flo_p (by omega)]
  · refine ⟨0, by omega, rfl, fun b t b1 _ _ _ _ => ?_, fun t ht => ?_, ?_, ?_, fun t ht => ⟨?_, ?_, ?_⟩, fun k hk => absurd hk (Nat.not_lt_zero k)⟩
    · dsimp only
      rw [c7, wr_ne (fun q => b1 q.1)]
    · dsimp only
      rw [c7, wr_ne (fun q => ht q.2)]
    · dsimp only
      rw [c7, wr_same]
    · dsimp only
      rw [c7, wr_ne (fun q => by omega), hc]
      rfl
    · dsimp only
      rw [c7, wr_ne (fun q => by omega)]
    · dsimp only
      rw [c7, wr_ne (fun q => by omega)]
    · dsimp only
      rw [c7, wr_ne (fun q => by omega)]
/-- the cells of all strips are laid -/
def LC (C : Cn) (l : Nat) (M : Mp) : Prop := C l 1 = mE M ∧ C l 8 = FC M (mE M + 1) ∧ (∀ j, j ≤ mE M → C (l + 7) j = FC M j ∧ C (l + 6) j = mH M j) ∧ (∀ j k, j ≤ mE M → k ≤ mH M j → C (l + 8) (FC M j + k) = j ∧ C (l + 9) (FC M j + k) = flo M j k ∧ C (l + 10) (FC M j + k) = roo M j k)
theorem LC.congr {C D : Cn} {l : Nat} {M : Mp} (h : LC C l M) (g : ∀ b t, (b = l ∧ (t = 1 ∨ t = 8)) ∨ (l + 6 ≤ b ∧ b ≤ l + 10) → D b t = C b t) : LC D l M := by
  obtain ⟨a, b, c, d⟩ := h
  refine ⟨by rw [g _ _ (by omega)]; exact a, by rw [g _ _ (by omega)]; exact b, fun j hj => ?_, fun j k hj hk => ?_⟩
  · rw [g _ _ (by omega), g _ _ (by omega)]
    exact c j hj
  · rw [g _ _ (by omega), g _ _ (by omega), g _ _ (by omega)]
    exact d j k hj hk
/-- a cell ahead of another one -/
def bf (M : Mp) (i t j k : Nat) : Prop := t ≤ mH M i ∧ (i < j ∨ (i = j ∧ t < k))
theorem bf_e {M : Mp} {i t j : Nat} : bf M i t (j + 1) 0 ↔ bf M i t j (mH M j + 1) := by
  unfold bf
  constructor
  · rintro ⟨a, b⟩
    refine ⟨a, ?_⟩
    by_cases q : i = j
    · subst q
      exact Or.inr ⟨rfl, by omega⟩
    · exact Or.inl (by omega)
  · rintro ⟨a, b⟩
    exact ⟨a, by omega⟩
theorem bf_s {M : Mp} {i t j k : Nat} (h : bf M i t j (k + 1)) : bf M i t j k ∨ (i = j ∧ t = k) := by
  unfold bf at *
  omega
theorem f_ahead {n : Nat} {C : Cn} {l j k : Nat} {M : Mp} {Q : Int → Prop} (hn : 91 ≤ n) (hl : l = 26 ∨ l = 42) (ok : okM M) (lc : LC C l M) (hj : j ≤ mE M) (hk : k ≤ mH M j) (hf : ∀ i t, bf M i t j k → C (l + 11) (FC M i + t) = fo M i t)
    (h1 : nw M j k → Q (-1)) (h2 : ¬ nw M j k → Q (fo M j k)) : P_La_fieldAhead n C (l : Int) ((FC M j + k : Nat) : Int) Q := by
  have e12 := ok.e
  have c49 := ok.c49
  have fcm := FC_mono (M := M) (a := j + 1) (b := mE M + 1) (by omega)
  rw [FC_s] at fcm
  obtain ⟨l1, l2, l3, l4⟩ := lc
  have x := l4 j k hj hk
  unfold P_La_fieldAhead
  simp only [lS hn hl, Int.toNat_natCast, true_and]
  refine ⟨by omega, fun v2 hv2 => ?_⟩
  rw [x.1] at hv2
  rw [hv2]
  refine ⟨fun q => h1 (Or.inl (by omega)), fun q => ?_⟩
  obtain ⟨i, rfl⟩ : ∃ i, j = i + 1 := ⟨j - 1, by omega⟩
  have w1 : w32 (((i + 1 : Nat) : Int) - 1) = (i : Int) := by
    rw [w32_s (by omega)]
    omega
  rw [w1]
  clear w1
  simp only [Int.toNat_natCast]
  refine ⟨by omega, fun v3 hv3 => ?_⟩
  rw [(l3 i (by omega)).1] at hv3
  rw [hv3]
  refine lp_rule (fun v => ∃ t : Nat, t ≤ mH M i + 1 ∧ v = ((FC M i + t : Nat) : Int) ∧ ∀ s, s < t → ¬ (flo M i s = flo M (i + 1) k ∧ roo M i s = roo M (i + 1) k)) (fun v => (FC M i + 10 - v).toNat) ?_ _ ⟨0, by omega, by omega, fun s hs => absurd hs (Nat.not_lt_zero s)⟩
  rintro v ⟨t, t0, t1, t2⟩ K hK
  subst t1
  have h6 := ok.h6 i
  have fcs := FC_s M i
  have nx : t ≤ mH M i → ¬ (flo M i t = flo M (i + 1) k ∧ roo M i t = roo M (i + 1) k) → K (w32 (((FC M i + t : Nat) : Int) + 1)) := by
    intro a b
    rw [w32_n (by omega)]
    refine hK _ ⟨t + 1, by omega, by omega, fun s hs => ?_⟩ (by omega)
    by_cases e : s = t
    · rw [e]
      exact b
    · exact t2 s (by omega)
  unfold B_La_fieldAhead_22
  simp only [lS hn hl, Int.toNat_natCast, true_and]
  rw [(l3 (i + 1) hj).1]
  refine ⟨by omega, fun q2 => h1 (Or.inr ?_), fun q2 => ?_⟩
  · intro q3
    have q3' : mch M i (flo M (i + 1) k) (roo M (i + 1) k) < mH M i + 1 := q3
    exact t2 (mch M i (flo M (i + 1) k) (roo M (i + 1) k)) (by omega) ((fnd_spec _ _).2.1 q3')
  · have ti : t ≤ mH M i := by omega
    have y := l4 i t (by omega) ti
    rw [x.2.1, x.2.2, y.2.1, y.2.2]
    refine ⟨by omega, by omega, fun e1 => ⟨by omega, by omega, fun e2 => ⟨by omega, ?_⟩, fun e2 => nx ti (fun a => e2 a.2)⟩, fun e1 => nx ti (fun a => e1 a.1)⟩
    rw [hf i t ⟨ti, Or.inl (by omega)⟩]
    have z := ok.fo_m ti e1 e2
    rw [← z.2]
    exact h2 z.1
/-- what fields are known once all cells ahead of one have theirs -/
def FKn (D : Cn) (l : Nat) (M : Mp) (j k : Nat) : Prop :=
  D l 14 = nf M j k ∧ (∀ i t, bf M i t j k → D (l + 11) (FC M i + t) = fo M i t) ∧ (∀ i t, bf M i t j k → nw M i t → D (l + 12) (nf M i t) = ((FC M i + t : Nat) : Int) ∧ D (l + 13) (nf M i t) = i) ∧ (∀ f, f < nf M j k → D (l + 14) f = lsp M j k f)
theorem FKn.e {D : Cn} {l : Nat} {M : Mp} {j : Nat} (h : FKn D l M j (mH M j + 1)) : FKn D l M (j + 1) 0 := by
  obtain ⟨a, b, c, d⟩ := h
  refine ⟨a, fun i t x => b i t (bf_e.mp x), fun i t x => c i t (bf_e.mp x), fun f hf => ?_⟩
  rw [lsp_0, ← lsp_e]
  exact d f hf
theorem f_join {n : Nat} {C : Cn} {l : Nat} {M : Mp} {Q : Int → Cn → Prop} (hn : 91 ≤ n) (hl : l = 26 ∨ l = 42) (ok : okM M) (lc : LC C l M)
    (h : ∀ C2 : Cn, (∀ b t, b ≠ l + 11 → b ≠ l + 12 → b ≠ l + 13 → b ≠ l + 14 → ¬ (b = l ∧ t = 14) → C2 b t = C b t) → FKn C2 l M (mE M + 1) 0 → Q 0 C2) : P_La_joinFields n C (l : Int) Q := by
  have e12 := ok.e
  have c49 := ok.c49
  have f19 := ok.f19
  unfold P_La_joinFields
  simp only [lS hn hl, Int.toNat_natCast, true_and]
  intro C2 c2
  refine lp_rule (fun (z : Cn × Int) => ∃ j k : Nat, ((j ≤ mE M ∧ k ≤ mH M j) ∨ (j = mE M + 1 ∧ k = 0)) ∧ z.2 = ((FC M j + k : Nat) : Int) ∧ (∀ b t, b ≠ l + 11 → b ≠ l + 12 → b ≠ l + 13 → b ≠ l + 14 → ¬ (b = l ∧ t = 14) → z.1 b t = C b t) ∧ FKn z.1 l M j k) (fun z => (50 - z.2).toNat) ?_ (C2, 0) ?_
  · rintro ⟨D, v1⟩ ⟨j, k, z0, z1, z2, z3⟩ K hK
    dsimp only at z1 z2 z3
    subst z1
    obtain ⟨k1, k2, k3, k4⟩ := z3
    have lcD : LC D l M := lc.congr (fun b t hb => z2 b t (by omega) (by omega) (by omega) (by omega) (by omega))
    unfold B_La_joinFields_7
    simp only [lS hn hl, Int.toNat_natCast, true_and]
    rw [lcD.2.1]
    refine ⟨fun q => ?_, fun q => ?_⟩
    · rcases z0 with z0 | z0
      · have := FC_lt (M := M) (i := mE M + 1) (l := 0) z0.2 (by omega)
        omega
      · obtain ⟨rfl, rfl⟩ := z0
        exact h D z2 ⟨k1, k2, k3, k4⟩
    · have z4 : j ≤ mE M ∧ k ≤ mH M j := by
        rcases z0 with z0 | z0
        · exact z0
        · obtain ⟨rfl, rfl⟩ := z0
          omega
      obtain ⟨hj, hk⟩ := z4
      have fclt := FC_lt (M := M) (i := mE M + 1) (l := 0) hk (by omega)
      have x := lcD.2.2.2 j k hj hk
      have nfu := nf_le (M := M) (j := j) (k := k + 1) (i := mE M + 1) (l := 0) (by omega) (Or.inl (by omega))
      have nfE : nf M (mE M + 1) 0 = nF M := rfl
      have fol := fo_lt (M := M) j k hk
      -- the rest of a round, the field being known
      have rest : ∀ D1 : Cn, (∀ b t, b ≠ l + 11 → b ≠ l + 12 → b ≠ l + 13 → b ≠ l + 14 → ¬ (b = l ∧ t = 14) → D1 b t = C b t) → D1 l 14 = nf M j (k + 1) → (∀ i t, bf M i t j k → D1 (l + 11) (FC M i + t) = fo M i t) → (∀ i t, bf M i t j (k + 1) → nw M i t → D1 (l + 12) (nf M i t) = ((FC M i + t : Nat) : Int) ∧ D1 (l + 13) (nf M i t) = i) → (∀ f, f < nf M j (k + 1) → f ≠ fo M j k → D1 (l + 14) f = lsp M j k f) →
          J_La_joinFields_31 n D1 (l : Int) ((FC M j + k : Nat) : Int) ((fo M j k : Nat) : Int) K Q := by
        intro D1 d1 d2 d3 d4 d5
        unfold J_La_joinFields_31
        simp only [lS hn hl, Int.toNat_natCast, true_and]
        refine ⟨by omega, fun C13 c13 => ⟨by omega, by omega, fun C18 c18 => ?_⟩⟩
        have s8 : C13 (l + 8) (FC M j + k) = (j : Int) := by
          rw [c13, wr_ne (fun q => by omega), d1 _ _ (by omega) (by omega) (by omega) (by omega) (by omega), ← z2 _ _ (by omega) (by omega) (by omega) (by omega) (by omega), x.1]
        rw [s8] at c18
        rw [w32_n (by omega)]
        have fr : ∀ b t, b ≠ l + 11 → b ≠ l + 14 → C18 b t = D1 b t := fun b t b1 b2 => by rw [c18, wr_ne (fun q => b2 q.1), c13, wr_ne (fun q => b1 q.1)]
        have fk : FKn C18 l M j (k + 1) := by
          refine ⟨by rw [fr _ _ (by omega) (by omega), d2], fun i t hb => ?_, fun i t hb hw => ?_, fun f hf => ?_⟩
          · rw [c18, wr_ne (fun q => by omega), c13]
            rcases bf_s hb with hb2 | ⟨rfl, rfl⟩
            · have : ¬ (FC M i + t = FC M j + k) := fun e => by
                have := FC_inj hb2.1 hk e
                have := hb2.2
                omega
              rw [wr_ne (fun q => this q.2), d3 i t hb2]
            · rw [wr_same]
          · rw [fr _ _ (by omega) (by omega), fr _ _ (by omega) (by omega)]
            exact d4 i t hb hw
          · rw [c18]
            by_cases e : f = fo M j k
            · rw [e, wr_same, lsp_s rfl]
            · rw [wr_ne (fun q => e q.2), c13, wr_ne (fun q => by omega), lsp_n (fun q => e q.symm)]
              exact d5 f hf e
        have frC : ∀ b t, b ≠ l + 11 → b ≠ l + 12 → b ≠ l + 13 → b ≠ l + 14 → ¬ (b = l ∧ t = 14) → C18 b t = C b t := fun b t b1 b2 b3 b4 b5 => by rw [fr b t b1 b4, d1 b t b1 b2 b3 b4 b5]
        by_cases e : k = mH M j
        · refine hK _ ⟨j + 1, 0, by omega, ?_, frC, ?_⟩ (by dsimp only; omega)
          · dsimp only
            rw [FC_s, e]
            omega
          · rw [e] at fk
            exact fk.e
        · exact hK _ ⟨j, k + 1, by omega, rfl, frC, fk⟩ (by dsimp only; omega)
      refine f_ahead hn hl ok lcD hj hk k2 (fun a => ⟨fun q2 => by omega, fun _ => ?_⟩) (fun a => ⟨fun _ => rest D z2 (by rw [nf_f a]; exact k1) k2 (fun i t hb hw => ?_) (fun f hf he => k4 f (by rw [nf_f a] at hf; exact hf)), fun q2 => by omega⟩)
      · unfold P_La_newField
        simp only [lS hn hl, Int.toNat_natCast, true_and]
        intro v2 hv2
        have nt := nf_t a
        have im : imin (D l 14) 18 = ((nf M j k : Nat) : Int) := by
          rw [k1]
          unfold imin
          split <;> omega
        rw [im] at hv2
        rw [hv2]
        simp only [Int.toNat_natCast]
        refine ⟨by omega, fun C5 c5 => ⟨by omega, by omega, fun C10 c10 C11 c11 => ?_⟩⟩
        have s8 : C5 (l + 8) (FC M j + k) = (j : Int) := by rw [c5, wr_ne (fun q => by omega), x.1]
        rw [s8] at c10
        rw [w32_n (by omega)] at c11
        have fr : ∀ b t, b ≠ l + 12 → b ≠ l + 13 → ¬ (b = l ∧ t = 14) → C11 b t = D b t := fun b t b1 b2 b3 => by rw [c11, wr_ne b3, c10, wr_ne (fun q => b2 q.1), c5, wr_ne (fun q => b1 q.1)]
        rw [← fo_new a]
        refine rest C11 (fun b t b1 b2 b3 b4 b5 => by rw [fr b t b2 b3 b5, z2 b t b1 b2 b3 b4 b5]) ?_ (fun i t hb => by rw [fr _ _ (by omega) (by omega) (by omega), k2 i t hb]) (fun i t hb hw => ?_) (fun f hf he => ?_)
        · rw [c11, wr_same, nt]
        · rw [c11, wr_ne (fun q => by omega), wr_ne (fun q => by omega), c10, wr_ne (fun q => by omega), c5]
          rcases bf_s hb with hb2 | ⟨rfl, rfl⟩
          · have lt := nf_lt (i := j) (l := k) hw hb2.1 hb2.2
            rw [wr_ne (fun q => by omega), wr_ne (fun q => by omega), wr_ne (fun q => by omega)]
            exact k3 i t hb2 hw
          · rw [wr_same, wr_same]
            exact ⟨rfl, rfl⟩
        · rw [fr _ _ (by omega) (by omega) (by omega)]
          rw [fo_new a] at he
          exact k4 f (by omega)
      · rcases bf_s hb with hb2 | ⟨rfl, rfl⟩
        · exact k3 i t hb2 hw
        · exact absurd hw a
  · have g0 : FC M 0 = 0 := rfl
    refine ⟨0, 0, Or.inl ⟨by omega, by omega⟩, rfl, fun b t _ _ _ _ b5 => ?_, ?_, fun i t hb => ?_, fun i t hb => ?_, fun f hf => ?_⟩
    · dsimp only
      rw [c2, wr_ne b5]
    · dsimp only
      rw [c2, wr_same]
      rfl
    · have := hb.2
      omega
    · have := hb.2
      omega
    · exact absurd hf (Nat.not_lt_zero f)
