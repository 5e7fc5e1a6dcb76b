/-! my own: the class takes an end in -/
theorem f_isEndAt {n : Nat} {C : Cn} {L v x y : Int} {Q : Int → Prop} (hn : 91 ≤ n) (hL : lnd L) (hv : 0 ≤ v) (hm : C L.toNat 1 ≤ 12) (h : Q (bI (v < C L.toNat 1 ∧ C (L + 1).toNat v.toNat = x ∧ C (L + 2).toNat v.toNat = y))) : P_La_isEndAt n C L v x y Q := by
  obtain ⟨p1, p2, _⟩ := hL.p
  unfold P_La_isEndAt J_La_isEndAt_33
  rw [p1, p2]
  have l1 : ((lnL.getD (1 : Int).toNat 0 : Nat) : Int) = 12 := by decide
  have l2 : ((lnL.getD (2 : Int).toNat 0 : Nat) : Int) = 12 := by decide
  refine ⟨hL.o hn, fun h3 => use_Q h (bI_f (by omega)), fun h3 => ⟨hL.a hn (by decide) (by decide), hL.i (by decide) (by decide) hv (by omega), fun h4 => ⟨hL.a hn (by decide) (by decide), hL.i (by decide) (by decide) hv (by omega), ?_⟩, fun h4 => use_Q h (bI_f (fun q => h4 q.2.1))⟩⟩
  have e : (if C (L + 2).toNat v.toNat = y then (1 : Int) else 0) = bI (v < C L.toNat 1 ∧ C (L + 1).toNat v.toNat = x ∧ C (L + 2).toNat v.toNat = y) := by
    by_cases h5 : C (L + 2).toNat v.toNat = y
    · rw [if_pos h5, bI_t ⟨by omega, h4, h5⟩]
    · rw [if_neg h5, bI_f (fun q => h5 q.2.2)]
  rw [e]
  exact ⟨bI_or, h⟩
/-- C2 is C but for a land's ends -/
def frE (C C2 : Cn) (L : Int) : Prop := ∀ b j, b ≠ (L + 1).toNat → b ≠ (L + 2).toNat → ¬ (b = L.toNat ∧ j = 1) → C2 b j = C b j
theorem frE.rfl' (C : Cn) (L : Int) : frE C C L := fun _ _ _ _ _ => rfl
theorem frE.trans {A B C : Cn} {L : Int} (h1 : frE A B L) (h2 : frE B C L) : frE A C L := fun b j x y z => (h2 b j x y z).trans (h1 b j x y z)
theorem f_addEnd {n : Nat} {C : Cn} {L x y : Int} {S : Int → Prop} {Q : Int → Cn → Prop} (hn : 91 ≤ n) (hL : lnd L) (hm : 0 ≤ C L.toNat 1 ∧ C L.toNat 1 < 12) (bx : bd x) (b2 : bd y) (hE : En (C (L + 1).toNat) (C (L + 2).toNat) (C L.toNat 1) S)
    (h : ∀ C2, frE C C2 L → C L.toNat 1 ≤ C2 L.toNat 1 → C2 L.toNat 1 ≤ C L.toNat 1 + 1 → En (C2 (L + 1).toNat) (C2 (L + 2).toNat) (C2 L.toNat 1) (fun k => S k ∨ k = ky x y) → Q 0 C2) : P_La_addEnd n C L x y Q := by
  obtain ⟨p1, p2, _⟩ := hL.p
  have l1 : ((lnL.getD (1 : Int).toNat 0 : Nat) : Int) = 12 := by decide
  have l2 : ((lnL.getD (2 : Int).toNat 0 : Nat) : Int) = 12 := by decide
  have n1 : L.toNat ≠ (L + 1).toNat ∧ L.toNat ≠ (L + 2).toNat ∧ (L + 1).toNat ≠ (L + 2).toNat := by
    rcases hL with q | q <;> (rw [q]; decide)
  refine ⟨hL.o hn, f_endsAhead hn hL (by omega) (fun e he => (hE.2.1 e he).2) b2 (fun r r1 r2 r3 => f_isEndAt hn hL (by omega) (by omega) ⟨fun h4 => ⟨fun _ => ?_, fun h5 => absurd hm.2 h5⟩, fun h4 => ?_⟩)⟩
  · rw [bI_0] at h4
    have up : ∀ e : Nat, r ≤ e → (e : Int) < C L.toNat 1 → ky x y < ky (C (L + 1).toNat e) (C (L + 2).toNat e) := by
      intro e e1 e2
      have a1 := r3 (by omega)
      have a2 : eK C L r ≠ ky x y := by
        intro q
        have := (eq_ky (hE.2.1 r (by omega)).2 b2).mpr q
        exact h4 ⟨by omega, this.1, this.2⟩
      unfold eK at a1 a2
      by_cases q : e = r
      · rw [q]
        omega
      · have a3 := hE.1 r e (by omega) e2
        omega
    refine lp_rule (fun z => frE C z.1 L ∧ z.1 L.toNat 1 = C L.toNat 1 ∧ (r : Int) ≤ z.2 ∧ z.2 ≤ C L.toNat 1 ∧ (∀ e : Nat, (e : Int) ≤ z.2 → (e : Int) < C L.toNat 1 → z.1 (L + 1).toNat e = C (L + 1).toNat e ∧ z.1 (L + 2).toNat e = C (L + 2).toNat e) ∧ (∀ e : Nat, z.2 < (e : Int) → (e : Int) ≤ C L.toNat 1 → z.1 (L + 1).toNat e = C (L + 1).toNat (e - 1) ∧ z.1 (L + 2).toNat e = C (L + 2).toNat (e - 1))) (fun z => z.2.toNat) ?_ (C, C L.toNat 1) ⟨frE.rfl' C L, rfl, by omega, Int.le_refl _, fun e _ _ => ⟨rfl, rfl⟩, fun e e1 e2 => by omega⟩
    rintro ⟨D, v⟩ ⟨z1, z2, z3, z4, z5, z6⟩ K hK
    dsimp only at z1 z2 z3 z4 z5 z6
    unfold B_La_addEnd_33
    dsimp only
    rw [p1, p2]
    refine ⟨fun h5 => ?_, fun h5 => ⟨hL.o hn, hL.a hn (by decide) (by decide), hL.i (by decide) (by decide) ?_ ?_, hL.i (by decide) (by decide) (by omega) (by omega), ?_⟩⟩
    · unfold J_La_addEnd_77
      rw [p1, p2]
      have hv : v = r := by omega
      rw [Int.toNat_natCast]
      refine ⟨hL.o hn, hL.a hn (by decide) (by decide), hL.i (by decide) (by decide) (by omega) (by omega), fun D1 d1 => ⟨hL.a hn (by decide) (by decide), hL.i (by decide) (by decide) (by omega) (by omega), fun D2 d2 D3 d3 => ?_⟩⟩
      have m2 : D2 L.toNat 1 = C L.toNat 1 := by rw [d2, wr_ne (fun q => n1.2.1 q.1), d1, wr_ne (fun q => n1.1 q.1), z2]
      have m3 : D3 L.toNat 1 = C L.toNat 1 + 1 := by rw [d3, wr_same, m2, w32_s (by omega)]
      have f3 : frE C D3 L := by
        intro b j b1 b2 b3
        rw [d3, wr_ne b3, d2, wr_ne (fun q => b2 q.1), d1, wr_ne (fun q => b1 q.1)]
        exact z1 b j b1 b2 b3
      have x3 : ∀ e : Nat, D3 (L + 1).toNat e = if e = r then x else D (L + 1).toNat e := by
        intro e
        rw [d3, wr_ne (fun q => n1.1 q.1.symm), d2, wr_ne (fun q => n1.2.2 q.1), d1]
        by_cases q : e = r
        · rw [if_pos q, q, wr_same]
        · rw [if_neg q, wr_ne (fun k => q k.2)]
      have y3 : ∀ e : Nat, D3 (L + 2).toNat e = if e = r then y else D (L + 2).toNat e := by
        intro e
        rw [d3, wr_ne (fun q => n1.2.1 q.1.symm), d2]
        by_cases q : e = r
        · rw [if_pos q, q, wr_same]
        · rw [if_neg q, wr_ne (fun k => q k.2), d1, wr_ne (fun k => n1.2.2 k.1.symm)]
      refine h D3 f3 (by omega) (by omega) ?_
      rw [m3]
      refine hE.add bx b2 r1 r2 up (fun e he => ?_) (fun e he => ?_)
      · rw [x3 e]
        by_cases q : e = r
        · rw [if_pos q, if_neg (by omega), if_pos q]
        · rw [if_neg q]
          by_cases q2 : e < r
          · rw [if_pos q2, (z5 e (by omega) (by omega)).1]
          · rw [if_neg q2, if_neg q, (z6 e (by omega) he).1]
      · rw [y3 e]
        by_cases q : e = r
        · rw [if_pos q, if_neg (by omega), if_pos q]
        · rw [if_neg q]
          by_cases q2 : e < r
          · rw [if_pos q2, (z5 e (by omega) (by omega)).2]
          · rw [if_neg q2, if_neg q, (z6 e (by omega) he).2]
    · rw [w32_s (by omega)]
      omega
    · rw [w32_s (by omega)]
      omega
    · rw [w32_s (by omega : -1000000 ≤ v - 1 ∧ v - 1 ≤ 1000000), w32_s (by omega : -1000000 ≤ v + -1 ∧ v + -1 ≤ 1000000)]
      intro D1 d1
      refine ⟨hL.a hn (by decide) (by decide), hL.i (by decide) (by decide) (by omega) (by omega), hL.i (by decide) (by decide) (by omega) (by omega), fun D2 d2 => hK _ ?_ (by dsimp only; omega)⟩
      have x2 : ∀ e : Nat, D2 (L + 1).toNat e = if e = v.toNat then D (L + 1).toNat (v - 1).toNat else D (L + 1).toNat e := by
        intro e
        rw [d2, wr_ne (fun q => n1.2.2 q.1), d1]
        by_cases q : e = v.toNat
        · rw [if_pos q, q, wr_same]
        · rw [if_neg q, wr_ne (fun k => q k.2)]
      have y2 : ∀ e : Nat, D2 (L + 2).toNat e = if e = v.toNat then D (L + 2).toNat (v - 1).toNat else D (L + 2).toNat e := by
        intro e
        rw [d2]
        by_cases q : e = v.toNat
        · rw [if_pos q, q, wr_same, d1, wr_ne (fun k => n1.2.2 k.1.symm)]
        · rw [if_neg q, wr_ne (fun k => q k.2), d1, wr_ne (fun k => n1.2.2 k.1.symm)]
      refine ⟨fun b j b1 b2 b3 => ?_, ?_, ?_, ?_, fun e e1 e2 => ?_, fun e e1 e2 => ?_⟩
      · dsimp only
        rw [d2, wr_ne (fun q => b2 q.1), d1, wr_ne (fun q => b1 q.1)]
        exact z1 b j b1 b2 b3
      · dsimp only
        rw [d2, wr_ne (fun q => n1.2.1 q.1), d1, wr_ne (fun q => n1.1 q.1), z2]
      · dsimp only
        omega
      · dsimp only
        omega
      · dsimp only at e1 ⊢
        rw [x2 e, y2 e, if_neg (by omega), if_neg (by omega)]
        exact z5 e (by omega) e2
      · dsimp only at e1 ⊢
        rw [x2 e, y2 e]
        by_cases q : e = v.toNat
        · rw [if_pos q, if_pos q, (by omega : (v - 1).toNat = e - 1)]
          exact z5 (e - 1) (by omega) (by omega)
        · rw [if_neg q, if_neg q]
          exact z6 e (by omega) e2
  · rw [bI_0, Decidable.not_not] at h4
    refine h C (frE.rfl' C L) (Int.le_refl _) (by omega) (hE.same ⟨r, h4.1, ?_⟩)
    rw [Int.toNat_natCast] at h4
    rw [h4.2.1, h4.2.2]
