/-! my own: the reference finds all ends, and each segment's own -/
theorem gs_i {i : Int} (h0 : 0 ≤ i) (h1 : i < 6) : okI 92 i ∧ PT 92 i.toNat = 93 + i := by
  have e : i = 0 ∨ i = 1 ∨ i = 2 ∨ i = 3 ∨ i = 4 ∨ i = 5 := by omega
  rcases e with e | e | e | e | e | e <;> (rw [e]; exact ⟨by unfold okI; decide, by decide⟩)
theorem gs_r {n : Nat} (hn : 320 ≤ n) {i : Int} (h0 : 0 ≤ i) (h1 : i < 6) : gr n (93 + i) := by
  have e : i = 0 ∨ i = 1 ∨ i = 2 ∨ i = 3 ∨ i = 4 ∨ i = 5 := by omega
  rcases e with e | e | e | e | e | e <;> (rw [e]; exact ⟨okm hn (by decide), by decide⟩)
/-- C2 is C but for the reference's ends and where its segments have them -/
def grM (C C2 : Cn) : Prop := ∀ b j, b ≠ 101 → b ≠ 102 → b ≠ 103 → b ≠ 104 → ¬ (b = 91 ∧ j = 10) → C2 b j = C b j
theorem grM.rfl' (C : Cn) : grM C C := fun _ _ _ _ _ _ _ => rfl
theorem grM.trans {A B C : Cn} (h1 : grM A B) (h2 : grM B C) : grM A C := fun b j x y z u v => (h2 b j x y z u v).trans (h1 b j x y z u v)
theorem grE.m {C C2 : Cn} (h : grE C C2) : grM C C2 := fun b j x y _ _ v => h b j x y v
theorem grM.seg {C C2 : Cn} (h : grM C C2) {i : Int} (h0 : 0 ≤ i) (h1 : i < 6) (f : Nat) : C2 (93 + i).toNat f = C (93 + i).toNat f := h _ _ (by omega) (by omega) (by omega) (by omega) (by omega)
/-- the segments' first and last ends, up to v, as the reference's rows tell them -/
def LGl (C D : Cn) (v : Int) : Prop := ∀ i : Int, 0 ≤ i → i < v →
  (0 ≤ D 103 i.toNat ∧ D 103 i.toNat < D 91 10 ∧ ky (D 101 (D 103 i.toNat).toNat) (D 102 (D 103 i.toNat).toNat) = fK C (93 + i)) ∧
  (0 ≤ D 104 i.toNat ∧ D 104 i.toNat < D 91 10 ∧ ky (D 101 (D 104 i.toNat).toNat) (D 102 (D 104 i.toNat).toNat) = lK C (93 + i))
theorem g_maps2 {n : Nat} {C D0 : Cn} {m : Int} {Q : Int → Cn → Prop} (hn : 320 ≤ n) (hs : Sg C 93 m) (f0 : grM C D0) (m0 : D0 91 0 = m) (e0 : 0 ≤ D0 91 10 ∧ D0 91 10 ≤ 12) (E0 : En (D0 101) (D0 102) (D0 91 10) (sK C 93 m))
    (h : ∀ C2 C3, grM C C2 → C2 91 0 = m → C2 91 10 = D0 91 10 → En (C2 101) (C2 102) (C2 91 10) (sK C 93 m) → LGl C C2 m → C3 = wr C2 91 18 0 → ∃ f, lp (B_G_maps_136 n 91 Q) f (C3, 0)) : ∃ f, lp (B_G_maps_63 n 91 Q) f (D0, 0) := by
  obtain ⟨s0, s6, hsg⟩ := hs
  refine lp_rule (fun z => grM C z.1 ∧ z.1 91 0 = m ∧ z.1 91 10 = D0 91 10 ∧ En (z.1 101) (z.1 102) (z.1 91 10) (sK C 93 m) ∧ 0 ≤ z.2 ∧ z.2 ≤ m ∧ LGl C z.1 z.2) (fun z => (m - z.2).toNat) ?_ (D0, 0) ⟨f0, m0, rfl, E0, Int.le_refl _, s0, fun i i0 i1 => by dsimp only at i1; omega⟩
  rintro ⟨D, v⟩ ⟨z1, z2, z3, z4, z5, z6, z7⟩ K hK
  dsimp only at z1 z2 z3 z4 z5 z6 z7
  unfold B_G_maps_63
  dsimp only
  refine ⟨gm_o hn, fun h3 C3 c3 => h D C3 z1 z2 z3 z4 ?_ c3, fun h3 => ?_⟩
  · have h3' : D 91 0 ≤ v := h3
    rw [(by omega : m = v)]
    exact z7
  · have h3' : ¬ D 91 0 ≤ v := h3
    have iv := gs_i z5 (by omega : v < 6)
    have rv := gs_r hn z5 (by omega : v < 6)
    have sv := hsg v z5 (by omega)
    have g := z1.seg z5 (by omega : v < 6)
    have e2 : PT (PT (Int.toNat 91) 1).toNat v.toNat = 93 + v := iv.2
    have ok : ∀ a : Int, (LAY a.toNat).2 = 6 → okI a v := fun a ha => ⟨z5, by rw [ha]; omega⟩
    rw [e2, g 2, g 3]
    refine ⟨okm hn (by decide), iv.1, rv.1, rv.i (by decide) (by decide), rv.i (by decide) (by decide), g_endAt hn (by omega) (fun r r1 r2 r3 => ⟨gm_a hn (by decide), ok _ (by decide), fun D1 d1 => ?_⟩) (fun no => ?_)⟩
    · change D1 = wr D 103 v.toNat r at d1
      have fD1 : grM C D1 := z1.trans (fun b j _ _ b3 _ _ => by rw [d1, wr_ne (fun q => b3 q.1)])
      have g1 := fD1.seg z5 (by omega : v < 6)
      have q1 : ∀ j, D1 91 j = D 91 j := fun j => by rw [d1, wr_ne (by omega)]
      have q2 : ∀ j, D1 101 j = D 101 j := fun j => by rw [d1, wr_ne (by omega)]
      have q3 : ∀ j, D1 102 j = D 102 j := fun j => by rw [d1, wr_ne (by omega)]
      rw [g1 4, g1 5]
      refine ⟨rv.i (by decide) (by decide), rv.i (by decide) (by decide), g_endAt hn (by rw [q1]; omega) (fun t t1 t2 t3 => ⟨gm_a hn (by decide), ok _ (by decide), fun D2 d2 => ?_⟩) (fun no => ?_)⟩
      · change D2 = wr D1 104 v.toNat t at d2
        rw [q1] at t1
        rw [q2] at t2
        rw [q3] at t3
        have u1 : ∀ j, D2 91 j = D 91 j := fun j => by rw [d2, wr_ne (by omega), q1]
        have u2 : ∀ j, D2 101 j = D 101 j := fun j => by rw [d2, wr_ne (by omega), q2]
        have u3 : ∀ j, D2 102 j = D 102 j := fun j => by rw [d2, wr_ne (by omega), q3]
        have u4 : ∀ j, D2 103 j = if j = v.toNat then (r : Int) else D 103 j := fun j => by
          rw [d2, wr_ne (by omega), d1]
          by_cases q : j = v.toNat
          · rw [if_pos q, q, wr_same]
          · rw [if_neg q, wr_ne (fun k => q k.2)]
        have u5 : ∀ j, D2 104 j = if j = v.toNat then (t : Int) else D 104 j := fun j => by
          rw [d2]
          by_cases q : j = v.toNat
          · rw [if_pos q, q, wr_same]
          · rw [if_neg q, wr_ne (fun k => q k.2), d1, wr_ne (by omega)]
        rw [w32_s (by omega)]
        refine hK _ ⟨?_, ?_, ?_, ?_, ?_, ?_, ?_⟩ (by dsimp only; omega)
        · dsimp only
          exact fD1.trans (fun b j _ _ _ b4 _ => by rw [d2, wr_ne (fun q => b4 q.1)])
        · dsimp only
          rw [u1, z2]
        · dsimp only
          rw [u1, z3]
        · dsimp only
          rw [u1]
          exact z4.congr (fun e _ => u2 e) (fun e _ => u3 e)
        · dsimp only
          omega
        · dsimp only
          omega
        · dsimp only
          intro i i0 i1
          rw [u1, u4, u5, u2, u3, u2, u3]
          by_cases q : i = v
          · rw [q, if_pos rfl, if_pos rfl, Int.toNat_natCast, Int.toNat_natCast, r2, r3, t2, t3]
            exact ⟨⟨by omega, r1, rfl⟩, ⟨by omega, t1, rfl⟩⟩
          · rw [if_neg (by omega), if_neg (by omega)]
            exact z7 i i0 (by omega)
      · exfalso
        obtain ⟨e, e1, e3⟩ := (z4.2.2 (lK C (93 + v))).mpr ⟨v, z5, by omega, Or.inr rfl⟩
        have w := (eq_ky (z4.2.1 e e1).2 sv.1.2.2.2).mpr e3
        refine no e (by rw [q1]; exact e1) ?_
        rw [q2, q3]
        exact w
    · exfalso
      obtain ⟨e, e1, e3⟩ := (z4.2.2 (fK C (93 + v))).mpr ⟨v, z5, by omega, Or.inl rfl⟩
      exact no e e1 ((eq_ky (z4.2.1 e e1).2 sv.1.2.1).mpr e3)
theorem g_maps1 {n : Nat} {C : Cn} {m : Int} {Q : Int → Cn → Prop} (hn : 320 ≤ n) (hs : Sg C 93 m) (hm : C 91 0 = m)
    (h : ∀ C2 C3, grM C C2 → C2 91 0 = m → 0 ≤ C2 91 10 → C2 91 10 ≤ 2 * m → En (C2 101) (C2 102) (C2 91 10) (sK C 93 m) → LGl C C2 m → C3 = wr C2 91 18 0 → ∃ f, lp (B_G_maps_136 n 91 Q) f (C3, 0)) : P_G_maps n C 91 Q := by
  have hs' := hs
  obtain ⟨s0, s6, hsg⟩ := hs'
  refine ⟨gm_o hn, fun C1 c1 => ?_⟩
  change C1 = wr C 91 10 0 at c1
  refine lp_rule (fun z => grM C z.1 ∧ z.1 91 0 = m ∧ 0 ≤ z.1 91 10 ∧ z.1 91 10 ≤ 2 * z.2 ∧ En (z.1 101) (z.1 102) (z.1 91 10) (sK C 93 z.2) ∧ 0 ≤ z.2 ∧ z.2 ≤ m) (fun z => (m - z.2).toNat) ?_ (C1, 0) ?_
  · rintro ⟨D, v⟩ ⟨z1, z2, z3, z4, z5, z6, z7⟩ K hK
    dsimp only at z1 z2 z3 z4 z5 z6 z7
    unfold B_G_maps_7
    dsimp only
    refine ⟨gm_o hn, fun h3 => ?_, fun h3 => ?_⟩
    · have h3' : D 91 0 ≤ v := h3
      have hv : v = m := by omega
      rw [hv] at z4 z5
      exact g_maps2 hn hs z1 z2 (by omega) z5 (fun C2 C3 a1 a2 a3 a4 a5 a6 => h C2 C3 a1 a2 (by omega) (by omega) a4 a5 a6)
    · have h3' : ¬ D 91 0 ≤ v := h3
      have iv := gs_i z6 (by omega : v < 6)
      have rv := gs_r hn z6 (by omega : v < 6)
      have sv := hsg v z6 (by omega)
      have g := z1.seg z6 (by omega : v < 6)
      have e2 : PT (PT (Int.toNat 91) 1).toNat v.toNat = 93 + v := iv.2
      rw [e2, g 2, g 3]
      refine ⟨okm hn (by decide), iv.1, rv.1, rv.i (by decide) (by decide), rv.i (by decide) (by decide), g_takesEnd hn (by omega) sv.1.1 sv.1.2.1 z5 (fun D1 a1 a2 a3 a4 => ⟨rv.i (by decide) (by decide), rv.i (by decide) (by decide), ?_⟩)⟩
      have b1 := z1.trans a1.m
      have g1 := b1.seg z6 (by omega : v < 6)
      rw [g1 4, g1 5]
      refine g_takesEnd hn (by omega) sv.1.2.2.1 sv.1.2.2.2 a4 (fun D2 c1 c2 c3 c4 => ?_)
      rw [w32_s (by omega)]
      refine hK _ ⟨b1.trans c1.m, ?_, ?_, ?_, ?_, ?_, ?_⟩ (by dsimp only; omega)
      · dsimp only
        rw [c1 91 0 (by omega) (by omega) (by omega), a1 91 0 (by omega) (by omega) (by omega), z2]
      · dsimp only
        omega
      · dsimp only
        omega
      · dsimp only
        exact c4.iff (fun k => (sK_s z6).symm)
      · dsimp only
        omega
      · dsimp only
        omega
  · dsimp only
    rw [c1]
    refine ⟨fun b j _ _ _ _ b5 => wr_ne b5, ?_, ?_, ?_, ?_, by omega, s0⟩
    · rw [wr_ne (by omega), hm]
    · rw [wr_same]
      omega
    · rw [wr_same]
      omega
    · rw [wr_same]
      exact (En.nil _ _).iff (fun k => sK_0.symm)
