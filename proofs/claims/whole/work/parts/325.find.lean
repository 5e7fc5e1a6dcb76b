/-! my own: the class finds all ends, and each segment's own -/
/-- the segments' first and last ends, up to v, as the rows f and l tell them -/
def LFl (C D : Cn) (L w v : Int) : Prop := ∀ i : Int, 0 ≤ i → i < v →
  (0 ≤ D (L + 3).toNat i.toNat ∧ D (L + 3).toNat i.toNat < D L.toNat 1 ∧ eK D L (D (L + 3).toNat i.toNat).toNat = fK C (w + i)) ∧
  (0 ≤ D (L + 4).toNat i.toNat ∧ D (L + 4).toNat i.toNat < D L.toNat 1 ∧ eK D L (D (L + 4).toNat i.toNat).toNat = lK C (w + i))
theorem lnd.n {L : Int} (hL : lnd L) : (L + 1).toNat = L.toNat + 1 ∧ (L + 2).toNat = L.toNat + 2 ∧ (L + 3).toNat = L.toNat + 3 ∧ (L + 4).toNat = L.toNat + 4 ∧ (L + 5).toNat = L.toNat + 5 ∧ (L + 6).toNat = L.toNat + 6 ∧ (L + 7).toNat = L.toNat + 7 ∧ (L + 8).toNat = L.toNat + 8 ∧ (L + 9).toNat = L.toNat + 9 ∧ (L + 10).toNat = L.toNat + 10 ∧ (L + 11).toNat = L.toNat + 11 ∧ (L + 12).toNat = L.toNat + 12 ∧ (L + 13).toNat = L.toNat + 13 ∧ (L + 14).toNat = L.toNat + 14 ∧ (L + 15).toNat = L.toNat + 15 := by
  rcases hL with h | h <;> (rw [h]; decide)
theorem f_findEnds2 {n : Nat} {C D0 : Cn} {L E m : Int} {Q : Int → Cn → Prop} (hn : 91 ≤ n) (hL : lnd L) (hE : est E) (hs : Sg C (E + 2) m) (f0 : frL C D0 L) (m0 : D0 L.toNat 0 = m) (e0 : 0 ≤ D0 L.toNat 1 ∧ D0 L.toNat 1 ≤ 12) (E0 : En (D0 (L + 1).toNat) (D0 (L + 2).toNat) (D0 L.toNat 1) (sK C (E + 2) m))
    (h : ∀ C2, frL C C2 L → C2 L.toNat 0 = m → C2 L.toNat 1 = D0 L.toNat 1 → En (C2 (L + 1).toNat) (C2 (L + 2).toNat) (C2 L.toNat 1) (sK C (E + 2) m) → LFl C C2 L (E + 2) m → Q 0 C2) : ∃ f, lp (B_La_findEnds_67 n L E Q) f (D0, 0) := by
  obtain ⟨p1, p2, p3, p4, _⟩ := hL.p
  obtain ⟨s0, s6, hsg⟩ := hs
  have nn := hL.n
  have l3 : ((lnL.getD (3 : Int).toNat 0 : Nat) : Int) = 6 := by decide
  have l4 : ((lnL.getD (4 : Int).toNat 0 : Nat) : Int) = 6 := by decide
  refine lp_rule (fun z => frL C z.1 L ∧ z.1 L.toNat 0 = m ∧ z.1 L.toNat 1 = D0 L.toNat 1 ∧ En (z.1 (L + 1).toNat) (z.1 (L + 2).toNat) (z.1 L.toNat 1) (sK C (E + 2) m) ∧ 0 ≤ z.2 ∧ z.2 ≤ m ∧ LFl C z.1 L (E + 2) z.2) (fun z => (m - z.2).toNat) ?_ (D0, 0) ⟨f0, m0, rfl, E0, Int.le_refl _, s0, fun i i0 i1 => by dsimp only at i1; omega⟩
  rintro ⟨D, v⟩ ⟨z1, z2, z3, z4, z5, z6, z7⟩ K hK
  dsimp only at z1 z2 z3 z4 z5 z6 z7
  unfold B_La_findEnds_67
  dsimp only
  refine ⟨hL.o hn, fun h3 => h D z1 z2 z3 z4 ?_, fun h3 => ?_⟩
  · rw [(by omega : m = v)]
    exact z7
  · have iv := hE.i z5 (by omega : v < 6)
    have sv := hsg v z5 (by omega)
    rw [hE.p, iv.2, p3, p4]
    have g := z1.seg hE hL z5 (by omega : v < 6)
    refine ⟨(hE.o hn).1, (hE.o hn).2, iv.1, hE.w hn z5 (by omega), ?_⟩
    rw [g 2, g 3]
    refine f_endsAhead hn hL (by omega) (fun e he => (z4.2.1 e he).2) sv.1.2.1 (fun r r1 r2 r3 => ⟨hL.a hn (by decide) (by decide), hL.i (by decide) (by decide) z5 (by omega), fun D1 d1 => ?_⟩)
    have rA := z4.at (k := fK C (E + 2 + v)) ⟨v, z5, by omega, Or.inl rfl⟩ r2 r3
    have q1 : ∀ j, D1 L.toNat j = D L.toNat j := fun j => by rw [d1, wr_ne (by omega)]
    have q2 : ∀ j, D1 (L + 1).toNat j = D (L + 1).toNat j := fun j => by rw [d1, wr_ne (by omega)]
    have q3 : ∀ j, D1 (L + 2).toNat j = D (L + 2).toNat j := fun j => by rw [d1, wr_ne (by omega)]
    have fD1 : frL C D1 L := by
      rw [d1]
      exact z1.trans (frL.w ⟨by rw [nn.2.2.1]; exact Nat.le_add_right _ _, by rw [nn.2.2.1]; exact Nat.add_le_add_left (by decide) _⟩)
    have g1 := fD1.seg hE hL z5 (by omega : v < 6)
    rw [g1 4, g1 5]
    have z4' : En (D1 (L + 1).toNat) (D1 (L + 2).toNat) (D1 L.toNat 1) (sK C (E + 2) m) := by
      rw [q1]
      exact z4.congr (fun e _ => q2 e) (fun e _ => q3 e)
    refine f_endsAhead hn hL (by rw [q1]; omega) (fun e he => (z4'.2.1 e he).2) sv.1.2.2.2 (fun t t1 t2 t3 => ⟨hL.a hn (by decide) (by decide), hL.i (by decide) (by decide) z5 (by omega), fun D2 d2 => ?_⟩)
    have tA := z4'.at (k := lK C (E + 2 + v)) ⟨v, z5, by omega, Or.inr rfl⟩ t2 t3
    have u1 : ∀ j, D2 L.toNat j = D L.toNat j := fun j => by rw [d2, wr_ne (by omega), q1]
    have u2 : ∀ j, D2 (L + 1).toNat j = D (L + 1).toNat j := fun j => by rw [d2, wr_ne (by omega), q2]
    have u3 : ∀ j, D2 (L + 2).toNat j = D (L + 2).toNat j := fun j => by rw [d2, wr_ne (by omega), q3]
    have u4 : ∀ j, D2 (L + 3).toNat j = if j = v.toNat then (r : Int) else D (L + 3).toNat j := fun j => by
      rw [d2, wr_ne (by omega), d1]
      by_cases q : j = v.toNat
      · rw [if_pos q, q, wr_same]
      · rw [if_neg q, wr_ne (fun k => q k.2)]
    have u5 : ∀ j, D2 (L + 4).toNat j = if j = v.toNat then (t : Int) else D (L + 4).toNat j := fun j => by
      rw [d2]
      by_cases q : j = v.toNat
      · rw [if_pos q, q, wr_same]
      · rw [if_neg q, wr_ne (fun k => q k.2), d1, wr_ne (by omega)]
    have u6 : ∀ e, eK D2 L e = eK D L e := fun e => by unfold eK; rw [u2, u3]
    have u7 : ∀ e, eK D1 L e = eK D L e := fun e => by unfold eK; rw [q2, q3]
    rw [w32_s (by omega)]
    refine hK _ ⟨?_, ?_, ?_, ?_, ?_, ?_, ?_⟩ (by dsimp only; omega)
    · dsimp only
      rw [d2]
      exact fD1.trans (frL.w ⟨by rw [nn.2.2.2.1]; exact Nat.le_add_right _ _, by rw [nn.2.2.2.1]; exact Nat.add_le_add_left (by decide) _⟩)
    · dsimp only
      rw [u1, z2]
    · dsimp only
      rw [u1, z3]
    · dsimp only
      rw [u1]
      exact z4.congr (fun e _ => u2 e) (fun e _ => u3 e)
    · dsimp only
      omega
    · dsimp only
      omega
    · dsimp only
      intro i i0 i1
      rw [u1, u4, u5, u6, u6]
      by_cases q : i = v
      · rw [q, if_pos rfl, if_pos rfl, Int.toNat_natCast, Int.toNat_natCast]
        have tB := tA
        rw [q1] at tB
        refine ⟨⟨by omega, rA.1, rA.2⟩, ⟨by omega, tB.1, ?_⟩⟩
        rw [← u7]
        exact tB.2
      · rw [if_neg (by omega), if_neg (by omega)]
        exact z7 i i0 (by omega)
theorem f_findEnds {n : Nat} {C : Cn} {L E m : Int} {Q : Int → Cn → Prop} (hn : 91 ≤ n) (hL : lnd L) (hE : est E) (hs : Sg C (E + 2) m) (hm : C L.toNat 0 = m)
    (h : ∀ C2, frL C C2 L → C2 L.toNat 0 = m → 0 ≤ C2 L.toNat 1 → C2 L.toNat 1 ≤ 2 * m → En (C2 (L + 1).toNat) (C2 (L + 2).toNat) (C2 L.toNat 1) (sK C (E + 2) m) → LFl C C2 L (E + 2) m → Q 0 C2) : P_La_findEnds n C L E Q := by
  have hs' := hs
  obtain ⟨s0, s6, hsg⟩ := hs'
  have nn := hL.n
  refine ⟨hL.o hn, fun C1 c1 => ?_⟩
  refine lp_rule (fun z => frL C z.1 L ∧ z.1 L.toNat 0 = m ∧ 0 ≤ z.1 L.toNat 1 ∧ z.1 L.toNat 1 ≤ 2 * z.2 ∧ En (z.1 (L + 1).toNat) (z.1 (L + 2).toNat) (z.1 L.toNat 1) (sK C (E + 2) z.2) ∧ 0 ≤ z.2 ∧ z.2 ≤ m) (fun z => (m - z.2).toNat) ?_ (C1, 0) ?_
  · rintro ⟨D, v⟩ ⟨z1, z2, z3, z4, z5, z6, z7⟩ K hK
    dsimp only at z1 z2 z3 z4 z5 z6 z7
    unfold B_La_findEnds_7
    dsimp only
    refine ⟨hL.o hn, fun h3 => ?_, fun h3 => ?_⟩
    · have hv : v = m := by omega
      rw [hv] at z4 z5
      exact f_findEnds2 hn hL hE hs z1 z2 (by omega) z5 (fun C2 a1 a2 a3 a4 a5 => h C2 a1 a2 (by omega) (by omega) a4 a5)
    · have iv := hE.i z6 (by omega : v < 6)
      have sv := hsg v z6 (by omega)
      rw [hE.p, iv.2]
      have g := z1.seg hE hL z6 (by omega : v < 6)
      refine ⟨(hE.o hn).1, (hE.o hn).2, iv.1, hE.w hn z6 (by omega), ?_⟩
      rw [g 2, g 3]
      refine f_addEnd hn hL (by omega) sv.1.1 sv.1.2.1 z5 (fun D1 a1 a2 a3 a4 => ?_)
      have b1 := z1.trans (a1.l hL)
      have g1 := b1.seg hE hL z6 (by omega : v < 6)
      rw [g1 4, g1 5]
      refine f_addEnd hn hL (by omega) sv.1.2.2.1 sv.1.2.2.2 a4 (fun D2 c1 c2 c3 c4 => ?_)
      rw [w32_s (by omega)]
      refine hK _ ⟨b1.trans (c1.l hL), ?_, ?_, ?_, ?_, ?_, ?_⟩ (by dsimp only; omega)
      · dsimp only
        rw [c1 L.toNat 0 (by omega) (by omega) (by omega), a1 L.toNat 0 (by omega) (by omega) (by omega), z2]
      · dsimp only
        omega
      · dsimp only
        omega
      · dsimp only
        exact c4.iff (fun k => (sK_s z6).symm)
      · dsimp only
        omega
      · dsimp only
        omega
  · dsimp only
    rw [c1]
    refine ⟨frL.w (by omega), ?_, ?_, ?_, ?_, by omega, s0⟩
    · rw [wr_ne (by omega), hm]
    · rw [wr_same]
      omega
    · rw [wr_same]
      omega
    · rw [wr_same]
      exact (En.nil _ _).iff (fun k => sK_0.symm)
