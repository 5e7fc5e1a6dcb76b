/-! my own: the class finds the gap of a cell -/
def GP (C : Cn) (M : Mp) (p : Nat → Prop) (j k : Nat) : Prop := ∃ (fl rf : Int) (a b : Nat), isFl M p j k fl ∧ isRf M p j k rf ∧ isGap M p fl rf j a b ∧ C 58 8 = a ∧ C 58 9 = b ∧ bS (C 58 10) (fun u => shF M u fl ∧ shR M u rf)
/-- C2 is C but for the gap -/
def frG (C C2 : Cn) : Prop := ∀ b t, ¬ (b = 58 ∧ 8 ≤ t ∧ t ≤ 10) → C2 b t = C b t
theorem gap_right {n : Nat} {C D : Cn} {m j k a : Nat} {v9 v10 : Int} {M : Mp} {p : Nat → Prop} {fl rf : Int} {Q : Int → Cn → Prop} (hn : 91 ≤ n) (ok : okM M) (mm' : mm M = m) (st : ST C M) (hj : j ≤ mE M) (hk : k ≤ mH M j) (h1 : isFl M p j k fl) (h2 : isRf M p j k rf)
    (fr : frG C D) (d8 : D 58 8 = a) (aj : a ≤ j) (al : ∀ i, a ≤ i → i ≤ j → nx M p fl rf i) (ae : a = 0 ∨ ¬ nx M p fl rf (a - 1)) (d10 : bS (D 58 10) (fun u => shF M u fl ∧ shR M u rf)) (i10 : bS v10 (fun u => (shF M u fl ∧ shR M u rf) ∧ p u))
    (hmo : v9 ≤ mE M ∧ ∀ g : Nat, g < mE M → ((g : Int) < v9 ↔ ((∀ f : Nat, fl = (f : Int) → g < mL M f) ∧ (∀ r : Nat, rf = (r : Int) → g < mL M r))))
    (h : ∀ C2 : Cn, frG C C2 → GP C2 M p j k → Q 0 C2) : J_Se_findGap_326 n D 58 (j : Int) v9 v10 Q := by
  have e12 := ok.e
  have m6 := ok.m
  unfold J_Se_findGap_326
  simp only [fS hn, Int.reduceToNat, true_and]
  intro C28 c28
  refine lp_rule (fun (D2 : Cn) => ∃ g : Nat, j ≤ g ∧ g ≤ mE M ∧ D2 58 9 = (g : Int) ∧ (∀ b t, ¬ (b = 58 ∧ t = 9) → D2 b t = D b t) ∧ ∀ i, j ≤ i → i ≤ g → nx M p fl rf i) (fun D2 => (20 - D2 58 9).toNat) ?_ C28 ⟨j, by omega, hj, by rw [c28, wr_same], fun b t hb => by rw [c28, wr_ne hb], fun i h3 h4 => al i (by omega) h4⟩
  rintro D2 ⟨g, g0, g1, g2, g3, g4⟩ K hK
  have fin : (g = mE M ∨ ¬ nx M p fl rf (g + 1)) → J_Se_findGap_368 n D2 Q := by
    intro hg
    refine h D2 (fun b t hb => by rw [g3 b t (by omega), fr b t hb]) ⟨fl, rf, a, g, h1, h2, ⟨aj, g0, g1, fun i h3 h4 => ?_, ae, hg⟩, by rw [g3 _ _ (by omega), d8], g2, by rw [g3 _ _ (by omega)]; exact d10⟩
    by_cases q : i ≤ j
    · exact al i h3 q
    · exact g4 i (by omega) h4
  have nxg := g4 g g0 (Nat.le_refl _)
  unfold B_Se_findGap_331
  simp only [fS hn, Int.reduceToNat, true_and, g2, Int.toNat_natCast]
  refine ⟨fun q => fin ?_, fun q => ⟨by omega, ?_⟩⟩
  · by_cases e : g = mE M
    · exact Or.inl e
    · refine Or.inr (fun q2 => ?_)
      have x := (ok.gapR nxg).mp q2
      have := (hmo.2 g (by omega)).mpr ⟨x.1, x.2.1⟩
      omega
  · have hg : g < mE M := by omega
    have b62 := (st.2 g hg).1
    rw [← fr 62 g (by omega), ← g3 62 g (by omega)] at b62
    have z := (b62.and i10).zero
    have y := (hmo.2 g hg).mp (by omega)
    refine ⟨fun q2 C34 c34 => ?_, fun q2 => fin (Or.inr (fun q3 => q2 (z.mpr (fun u hu w => ?_))))⟩
    · have nx1 : nx M p fl rf (g + 1) := (ok.gapR nxg).mpr ⟨y.1, y.2, fun u hu pu s1 s2 e => z.mp q2 u (by omega) ⟨⟨hu, e⟩, ⟨s1, s2⟩, pu⟩⟩
      rw [w32_n (by omega)] at c34
      refine hK _ ⟨g + 1, by omega, by omega, by rw [c34, wr_same], fun b t hb => by rw [c34, wr_ne hb, g3 b t hb], fun i h3 h4 => ?_⟩ (by rw [c34, wr_same]; omega)
      by_cases e : i = g + 1
      · rw [e]
        exact nx1
      · exact g4 i h3 (by omega)
    · exact ((ok.gapR nxg).mp q3).2.2 u w.1.1 w.2.2 w.2.1.1 w.2.1.2 w.1.2
theorem gap_left {n : Nat} {C D : Cn} {m j k : Nat} {v v8 v9 : Int} {M : Mp} {p : Nat → Prop} {fl rf : Int} {Q : Int → Cn → Prop} (hn : 91 ≤ n) (ok : okM M) (mm' : mm M = m) (st : ST C M) (hj : j ≤ mE M) (hk : k ≤ mH M j) (h1 : isFl M p j k fl) (h2 : isRf M p j k rf) (hv : bS v p)
    (fr : frG C D) (d10 : bS (D 58 10) (fun u => shF M u fl ∧ shR M u rf))
    (hle : 0 ≤ v8 ∧ ∀ g : Nat, 0 < g → (v8 < (g : Int) ↔ ((∀ f : Nat, fl = (f : Int) → mF M f + 1 < g) ∧ (∀ r : Nat, rf = (r : Int) → mF M r + 1 < g))))
    (hmo : v9 ≤ mE M ∧ ∀ g : Nat, g < mE M → ((g : Int) < v9 ↔ ((∀ f : Nat, fl = (f : Int) → g < mL M f) ∧ (∀ r : Nat, rf = (r : Int) → g < mL M r))))
    (h : ∀ C2 : Cn, frG C C2 → GP C2 M p j k → Q 0 C2) : J_Se_findGap_274 n D 58 v (j : Int) v8 v9 Q := by
  have e12 := ok.e
  have m6 := ok.m
  unfold J_Se_findGap_274
  simp only [fS hn, Int.reduceToNat, true_and]
  intro v10 hv10 C24 c24
  have i10 : bS v10 (fun u => (shF M u fl ∧ shR M u rf) ∧ p u) := by
    rw [hv10]
    exact d10.and hv
  refine lp_rule (fun (D2 : Cn) => ∃ g : Nat, g ≤ j ∧ D2 58 8 = (g : Int) ∧ (∀ b t, ¬ (b = 58 ∧ t = 8) → D2 b t = D b t) ∧ ∀ i, g ≤ i → i ≤ j → nx M p fl rf i) (fun D2 => (D2 58 8).toNat) ?_ C24 ⟨j, by omega, by rw [c24, wr_same], fun b t hb => by rw [c24, wr_ne hb], fun i h3 h4 => ?_⟩
  · rintro D2 ⟨g, g1, g2, g3, g4⟩ K hK
    have nxg := g4 g (Nat.le_refl _) g1
    have fin : (g = 0 ∨ ¬ nx M p fl rf (g - 1)) → J_Se_findGap_326 n D2 58 (j : Int) v9 v10 Q := by
      intro hg
      exact gap_right hn ok mm' st hj hk h1 h2 (fun b t hb => by rw [g3 b t (by omega), fr b t hb]) g2 g1 g4 hg (by rw [g3 _ _ (by omega)]; exact d10) i10 hmo h
    unfold B_Se_findGap_287
    simp only [fS hn, Int.reduceToNat, true_and, g2, Int.toNat_natCast]
    refine ⟨fun q => fin ?_, fun q => ?_⟩
    · by_cases e : g = 0
      · exact Or.inl e
      · refine Or.inr (fun q2 => ?_)
        have x := (ok.gapL (by omega) nxg).mp q2
        have := (hle.2 g (by omega)).mpr ⟨x.1, x.2.1⟩
        omega
    · have hg : 0 < g := by omega
      have w1 : w32 ((g : Int) - 1) = ((g - 1 : Nat) : Int) := by
        rw [w32_s (by omega)]
        omega
      rw [w1]
      clear w1
      simp only [Int.toNat_natCast]
      have b63 := (st.2 (g - 1) (by omega)).2
      rw [← fr 63 (g - 1) (by omega), ← g3 63 (g - 1) (by omega)] at b63
      have z := (b63.and i10).zero
      have y := (hle.2 g hg).mp (by omega)
      refine ⟨by omega, fun q2 C39 c39 => ?_, fun q2 => fin (Or.inr (fun q3 => q2 (z.mpr (fun u hu w => ?_))))⟩
      · have nx1 : nx M p fl rf (g - 1) := (ok.gapL hg nxg).mpr ⟨y.1, y.2, fun u hu pu s1 s2 e => z.mp q2 u (by omega) ⟨⟨hu, e⟩, ⟨s1, s2⟩, pu⟩⟩
        refine hK _ ⟨g - 1, by omega, by rw [c39, wr_same], fun b t hb => by rw [c39, wr_ne hb, g3 b t hb], fun i h3 h4 => ?_⟩ (by rw [c39, wr_same]; omega)
        by_cases e : i = g - 1
        · rw [e]
          exact nx1
        · exact g4 i (by omega) h4
      · exact ((ok.gapL hg nxg).mp q3).2.2 u w.1.1 w.2.2 w.2.1.1 w.2.1.2 w.1.2
  · rw [(by omega : i = j)]
    exact ok.nx_own hk h1 h2
theorem gap_mid {n : Nat} {C : Cn} {m j k : Nat} {v : Int} {M : Mp} {p : Nat → Prop} {fl rf : Int} {Q : Int → Cn → Prop} (hn : 91 ≤ n) (ok : okM M) (mm' : mm M = m) (l26 : L26 C m M) (st : ST C M) (hj : j ≤ mE M) (hk : k ≤ mH M j) (h1 : isFl M p j k fl) (h2 : isRf M p j k rf) (hv : bS v p)
    (h : ∀ C2 : Cn, frG C C2 → GP C2 M p j k → Q 0 C2) : J_Se_findGap_152 n C 58 v (j : Int) fl rf Q := by
  have e12 := ok.e
  have m6 := ok.m
  have t1 := ok.isFl_th hk h1
  have t2 := ok.isRf_th h2
  unfold J_Se_findGap_152
  simp only [fS hn, fL hn, Int.reduceToNat, true_and]
  intro C16 c16 v9 hv9
  have o16 : ∀ b t, ¬ (b = 58 ∧ t = 10) → C16 b t = C b t := fun b t hb => by rw [c16, wr_ne hb]
  rw [o16 26 1 (by omega), l26.2.1] at hv9
  -- the roof
  have roof : ∀ (D : Cn) (v8 v9 : Int), (∀ b t, ¬ (b = 58 ∧ t = 10) → D b t = C b t) → bS (D 58 10) (fun u => shF M u fl) → (0 ≤ v8 ∧ ∀ g : Nat, 0 < g → (v8 < (g : Int) ↔ (∀ f : Nat, fl = (f : Int) → mF M f + 1 < g))) → (v9 ≤ mE M ∧ ∀ g : Nat, g < mE M → ((g : Int) < v9 ↔ (∀ f : Nat, fl = (f : Int) → g < mL M f))) → J_Se_findGap_217 n D 58 v (j : Int) rf v8 v9 Q := by
    intro D v8 v9 oD bD hle hmo
    have frD : frG C D := fun b t hb => oD b t (by omega)
    unfold J_Se_findGap_217
    refine ⟨fun q => ?_, fun q => ?_⟩
    · have er : rf = -1 := by
        rcases t2 with t2 | ⟨r, x, _⟩ <;> omega
      refine gap_left hn ok mm' st hj hk h1 h2 hv frD (bD.iff (fun u _ => ⟨fun x => ⟨x, Or.inl er⟩, fun x => x.1⟩)) ⟨hle.1, fun g hg => ?_⟩ ⟨hmo.1, fun g hg => ?_⟩ h
      · rw [hle.2 g hg]
        exact ⟨fun x => ⟨x, fun r hr => by omega⟩, fun x => x.1⟩
      · rw [hmo.2 g hg]
        exact ⟨fun x => ⟨x, fun r hr => by omega⟩, fun x => x.1⟩
    · rcases t2 with t2 | ⟨r, er, rm, rt⟩
      · omega
      · have fr := ok.fl rm
        subst er
        simp only [fS hn, fL hn, Int.reduceToNat, Int.toNat_natCast, true_and]
        refine ⟨by omega, fun C44 c44 => ⟨by omega, fun v8' hv8' => ⟨by omega, fun v9' hv9' => ?_⟩⟩⟩
        have g1 : C44 29 r = ((mF M r : Nat) : Int) := by rw [c44, wr_ne (by omega), oD _ _ (by omega), (l26.2.2.2.1 r (by omega)).1]
        have g2 : C44 30 r = ((mL M r : Nat) : Int) := by rw [c44, wr_ne (by omega), oD _ _ (by omega), (l26.2.2.2.1 r (by omega)).2]
        rw [g1, w32_n (by omega)] at hv8'
        rw [g2] at hv9'
        have b61 := (st.1 r rm).2
        rw [← oD 61 r (by omega)] at b61
        refine gap_left hn ok mm' st hj hk h1 h2 hv (fun b t hb => by rw [c44, wr_ne (by omega), frD b t hb]) ?_ ⟨?_, fun g hg => ?_⟩ ⟨?_, fun g hg => ?_⟩ h
        · rw [c44, wr_same]
          refine (bD.and b61).iff (fun u _ => and_congr Iff.rfl ?_)
          constructor
          · intro x
            exact Or.inr ⟨r, rfl, x⟩
          · rintro (x | ⟨r', x1, x2⟩)
            · omega
            · have e : r' = r := by omega
              rw [e] at x2
              exact x2
        · rw [hv8']
          unfold imax
          have := hle.1
          split <;> omega
        · have e1 := hle.2 g hg
          have e2 : (∀ r' : Nat, ((r : Nat) : Int) = (r' : Int) → mF M r' + 1 < g) ↔ mF M r + 1 < g := ⟨fun x => x r rfl, fun x r' hr => by
            have e : r' = r := by omega
            rw [e]
            exact x⟩
          rw [← e1, e2, hv8']
          unfold imax
          split <;> omega
        · rw [hv9']
          unfold imin
          have := hmo.1
          split <;> omega
        · have e1 := hmo.2 g hg
          have e2 : (∀ r' : Nat, ((r : Nat) : Int) = (r' : Int) → g < mL M r') ↔ g < mL M r := ⟨fun x => x r rfl, fun x r' hr => by
            have e : r' = r := by omega
            rw [e]
            exact x⟩
          rw [← e1, e2, hv9']
          unfold imin
          split <;> omega
  refine ⟨fun q => ?_, fun q => ?_⟩
  · have ef : fl = -1 := by
      rcases t1 with t1 | ⟨r, x, _⟩ <;> omega
    refine roof C16 0 v9 o16 ?_ ⟨by omega, fun g hg => ⟨fun _ f hf => by omega, fun _ => by omega⟩⟩ ⟨by omega, fun g hg => ⟨fun _ f hf => by omega, fun _ => by omega⟩⟩
    rw [c16, wr_same]
    exact bS_63.iff (fun u _ => ⟨fun _ => Or.inl ef, fun _ => trivial⟩)
  · rcases t1 with t1 | ⟨f, ef, fm, ft⟩
    · omega
    · have fr := ok.fl fm
      subst ef
      simp only [Int.toNat_natCast]
      refine ⟨by omega, fun C54 c54 => ⟨by omega, fun v8 hv8 => ⟨by omega, fun v9' hv9' => ?_⟩⟩⟩
      have o54 : ∀ b t, ¬ (b = 58 ∧ t = 10) → C54 b t = C b t := fun b t hb => by rw [c54, wr_ne hb, o16 b t hb]
      rw [o54 _ _ (by omega), (l26.2.2.2.1 f (by omega)).1, w32_n (by omega)] at hv8
      rw [o54 _ _ (by omega), (l26.2.2.2.1 f (by omega)).2] at hv9'
      have b60 := (st.1 f fm).1
      rw [← o16 60 f (by omega)] at b60
      have b10 : bS (C16 58 10) (fun _ => True) := by
        rw [c16, wr_same]
        exact bS_63
      refine roof C54 v8 v9' o54 ?_ ⟨by omega, fun g hg => ⟨fun x f' hf => ?_, fun x => ?_⟩⟩ ⟨by omega, fun g hg => ⟨fun x f' hf => ?_, fun x => ?_⟩⟩
      · rw [c54, wr_same]
        refine (b10.and b60).iff (fun u _ => ?_)
        constructor
        · intro x
          exact Or.inr ⟨f, rfl, x.2⟩
        · rintro (x | ⟨r', x1, x2⟩)
          · omega
          · have e : r' = f := by omega
            rw [e] at x2
            exact ⟨trivial, x2⟩
      · have e : f' = f := by omega
        rw [e]
        omega
      · have := x f rfl
        omega
      · have e : f' = f := by omega
        rw [e]
        omega
      · have := x f rfl
        omega
theorem f_gap {n : Nat} {C : Cn} {m j k : Nat} {v : Int} {M : Mp} {p : Nat → Prop} {Q : Int → Cn → Prop} (hn : 91 ≤ n) (ok : okM M) (mm' : mm M = m) (l26 : L26 C m M) (st : ST C M) (hj : j ≤ mE M) (hk : k ≤ mH M j) (hv : bS v p)
    (h : ∀ C2 : Cn, frG C C2 → GP C2 M p j k → Q 0 C2) : P_Se_findGap n C 58 v ((FC M j + k : Nat) : Int) Q := by
  have e12 := ok.e
  have m6 := ok.m
  have h6 := ok.h6 j
  have c49 := FC_49 ok hj hk
  have x := l26.2.2.2.2.2.2 j k hj hk
  have y := l26.2.2.2.2.2.1 j hj
  unfold P_Se_findGap
  simp only [fS hn, fL hn, Int.reduceToNat, Int.toNat_natCast, true_and]
  refine ⟨by omega, fun v3 hv3 => ?_⟩
  rw [x.1] at hv3
  rw [hv3]
  simp only [Int.toNat_natCast]
  refine ⟨by omega, fun v5 hv5 => ?_⟩
  rw [y.1] at hv5
  have e5 : w32 (((FC M j + k : Nat) : Int) - ((FC M j : Nat) : Int)) = (k : Int) := by
    rw [w32_s (by omega)]
    omega
  rw [e5] at hv5
  clear e5
  rw [hv5]
  have ej : w32 ((j : Int) * 6) = ((6 * j : Nat) : Int) := by
    rw [w32_s (by omega)]
    omega
  rw [ej]
  clear ej
  have ek : w32 ((k : Int) - 1) = (k : Int) - 1 := w32_s (by omega)
  rw [ek]
  clear ek
  -- the roof's loop
  have roof : ∀ fl : Int, isFl M p j k fl → J_Se_findGap_87 n C 58 v (j : Int) ((6 * j : Nat) : Int) (k : Int) fl Q := by
    intro fl hfl
    refine lp_rule (fun (z : Int × Int) => ∃ t : Nat, k ≤ t ∧ t ≤ mH M j ∧ z.2 = (t : Int) ∧ ((z.1 = -1 ∧ ∀ u, k ≤ u → u < t → ¬ p (mT M j u)) ∨ (0 ≤ z.1 ∧ isRf M p j k z.1))) (fun z => (10 - z.2).toNat) ?_ (-1, (k : Int)) ⟨k, by omega, hk, rfl, Or.inl ⟨rfl, fun u h1 h2 => by omega⟩⟩
    rintro ⟨v7, v8⟩ ⟨t, z0, z1, z2, z3⟩ K hK
    dsimp only at z2 z3
    subst z2
    unfold B_Se_findGap_94
    simp only [fS hn, fL hn, Int.reduceToNat, Int.toNat_natCast, true_and]
    rw [y.2]
    have fin : isRf M p j k v7 → J_Se_findGap_152 n C 58 v (j : Int) fl v7 Q := fun hr => gap_mid hn ok mm' l26 st hj hk hfl hr hv h
    refine ⟨by omega, fun q => fin ?_, fun q => ⟨fun q2 => fin ?_, fun q2 => ?_⟩⟩
    · rcases z3 with z3 | z3
      · exact Or.inl ⟨z3.1, fun u h1 h2 => z3.2 u h1 (by omega)⟩
      · exact z3.2
    · rcases z3 with z3 | z3
      · omega
      · exact z3.2
    · have w1 : w32 (((6 * j : Nat) : Int) + (t : Int)) = ((6 * j + t : Nat) : Int) := by
        rw [w32_s (by omega)]
        omega
      rw [w1]
      clear w1
      simp only [Int.toNat_natCast]
      refine ⟨by omega, fun v9 hv9 => ?_⟩
      rw [l26.2.2.2.2.1 j t hj (by omega)] at hv9
      rw [hv9]
      have tt := ok.tin (j := j) (k := t) (by omega)
      have bt := (hv.has (i := mT M j t) (by omega)).1
      have no := (z3.resolve_right (fun w => by omega)).2
      unfold J_Se_findGap_144
      rw [w32_n (by omega)]
      by_cases c : p (mT M j t)
      · rw [if_pos (bt.mpr c)]
        exact hK _ ⟨t + 1, by omega, by omega, rfl, Or.inr ⟨by dsimp only; omega, Or.inr ⟨t, z0, by omega, c, rfl, no⟩⟩⟩ (by dsimp only; omega)
      · rw [if_neg (fun w => c (bt.mp w))]
        refine hK _ ⟨t + 1, by omega, by omega, rfl, Or.inl ⟨rfl, fun u h1 h2 => ?_⟩⟩ (by dsimp only; omega)
        by_cases e : u = t
        · rw [e]
          exact c
        · exact no u h1 (by omega)
  -- the floor's loop
  refine lp_rule (fun (z : Int × Int) => ∃ t : Nat, t ≤ k ∧ z.2 = (t : Int) - 1 ∧ ((z.1 = -1 ∧ ∀ u, t ≤ u → u < k → ¬ p (mT M j u)) ∨ (0 ≤ z.1 ∧ isFl M p j k z.1))) (fun z => (z.2 + 1).toNat) ?_ (-1, (k : Int) - 1) ⟨k, by omega, rfl, Or.inl ⟨rfl, fun u h1 h2 => by omega⟩⟩
  rintro ⟨v6, v7⟩ ⟨t, z0, z1, z2⟩ K hK
  dsimp only at z1 z2
  subst z1
  unfold B_Se_findGap_38
  simp only [fS hn, fL hn, Int.reduceToNat, true_and]
  refine ⟨fun q => roof v6 ?_, fun q => ⟨fun q2 => roof v6 ?_, fun q2 => ?_⟩⟩
  · rcases z2 with z2 | z2
    · exact Or.inl ⟨z2.1, fun u hu => z2.2 u (by omega) hu⟩
    · exact z2.2
  · rcases z2 with z2 | z2
    · omega
    · exact z2.2
  · obtain ⟨s, rfl⟩ : ∃ s, t = s + 1 := ⟨t - 1, by omega⟩
    have w1 : w32 (((6 * j : Nat) : Int) + (((s + 1 : Nat) : Int) - 1)) = ((6 * j + s : Nat) : Int) := by
      rw [w32_s (by omega)]
      omega
    rw [w1]
    clear w1
    simp only [Int.toNat_natCast]
    refine ⟨by omega, fun v9 hv9 => ?_⟩
    rw [l26.2.2.2.2.1 j s hj (by omega)] at hv9
    rw [hv9]
    have tt := ok.tin (j := j) (k := s) (by omega)
    have bt := (hv.has (i := mT M j s) (by omega)).1
    have no := (z2.resolve_right (fun w => by omega)).2
    have w2 : w32 (((s + 1 : Nat) : Int) - 1 + -1) = (s : Int) - 1 := by
      rw [w32_s (by omega)]
      omega
    unfold J_Se_findGap_79
    rw [w2]
    clear w2
    by_cases c : p (mT M j s)
    · rw [if_pos (bt.mpr c)]
      exact hK _ ⟨s, by omega, rfl, Or.inr ⟨by dsimp only; omega, Or.inr ⟨s, by omega, c, rfl, fun u h1 h2 => no u (by omega) h2⟩⟩⟩ (by dsimp only; omega)
    · rw [if_neg (fun w => c (bt.mp w))]
      refine hK _ ⟨s, by omega, rfl, Or.inl ⟨rfl, fun u h1 h2 => ?_⟩⟩ (by dsimp only; omega)
      by_cases e : u = s
      · rw [e]
        exact c
      · exact no u (by omega) h2
/-- what a segment adds, in the gap that was found -/
theorem f_stepsAt {n : Nat} {C : Cn} {m j k s : Nat} {M : Mp} {p : Nat → Prop} {Q : Int → Prop} (hn : 91 ≤ n) (ok : okM M) (mm' : mm M = m) (l26 : L26 C m M) (gp : GP C M p j k) (hs : s < m) (h : Q (sN M p j k s)) : P_Se_stepsAt n C 58 (s : Int) (j : Int) Q := by
  have e12 := ok.e
  have m6 := ok.m
  obtain ⟨fl, rf, a, b, g1, g2, g3, g4, g5, g6⟩ := gp
  rw [← sN_eq g1 g2 g3] at h
  have fr := ok.fl (i := s) (by omega)
  obtain ⟨x1, x2, x3, x4, -, -⟩ := g3
  have lies := ok.lies (a := a) (b := b) (s := s) (by omega) (by omega)
  unfold P_Se_stepsAt
  simp only [fS hn, fL hn, Int.reduceToNat, Int.toNat_natCast, true_and]
  refine ⟨by omega, fun v3 hv3 => ⟨by omega, fun v4 hv4 => ?_⟩⟩
  rw [(l26.2.2.2.1 s hs).1] at hv3
  rw [(l26.2.2.2.1 s hs).2] at hv4
  rw [hv3, hv4]
  unfold J_Se_stepsAt_43 J_Se_stepsAt_85
  simp only [fS hn, Int.reduceToNat, true_and, g4, g5]
  have hb := (g6.has (i := s) (by omega)).2
  have bes : (if ((mL M s : Nat) : Int) < (a : Int) then (1 : Int) else (if ((mF M s : Nat) : Int) < (b : Int) then 0 else 1)) = 0 ↔ (a ≤ mL M s ∧ mF M s < b) := by
    split
    · exact ⟨fun q => absurd q (by decide), fun q => by omega⟩
    · split
      · exact ⟨fun _ => by omega, fun _ => rfl⟩
      · exact ⟨fun q => absurd q (by decide), fun q => by omega⟩
  unfold stN at h
  refine ⟨fun q => ?_, fun q => ?_⟩
  · have q' := bes.mp q
    have ex := lies.mpr q'
    obtain ⟨i, i1, i2, i3⟩ := ex
    have nxi := x4 i i1 i2
    have eqi : ins M s fl rf ↔ (shF M s fl ∧ shR M s rf) := ⟨fun w => ⟨w.1.s (by omega) i3 nxi.1, w.2.s (by omega) i3 nxi.2.1⟩, fun w => ⟨w.1.o, w.2.o⟩⟩
    refine ⟨fun q2 => ?_, fun q2 => ?_⟩
    · have no := hb.mp q2
      rw [cit_f (fun w => no (eqi.mp w.2))] at h
      exact h
    · have yes : ins M s fl rf := eqi.mpr (Classical.not_not.mp (fun w => q2 (hb.mpr w)))
      rw [cit_t ⟨⟨i, i1, i2, i3⟩, yes⟩] at h
      refine ⟨fun q3 => ⟨fun q4 => ?_, fun q4 => ⟨fun q5 => ?_, fun q5 => ?_⟩⟩, fun q3 => ⟨fun q4 => ⟨fun q5 => ?_, fun q5 => ⟨fun q6 => ?_, fun q6 => ?_⟩⟩, fun q4 => ?_⟩⟩
      · rw [if_neg (by omega), if_neg (by omega), if_neg (by omega), if_neg (by omega)] at h
        exact h
      · rw [if_neg (by omega), if_neg (by omega), if_pos (by omega), if_neg (by omega)] at h
        exact h
      · rw [if_neg (by omega), if_neg (by omega), if_pos (by omega), if_pos (by omega)] at h
        exact h
      · rw [if_pos (by omega), if_neg (by omega), if_neg (by omega), if_neg (by omega)] at h
        exact h
      · rw [if_pos (by omega), if_neg (by omega), if_pos (by omega), if_neg (by omega)] at h
        exact h
      · rw [if_pos (by omega), if_neg (by omega), if_pos (by omega), if_pos (by omega)] at h
        exact h
      · rw [if_pos (by omega), if_pos (by omega)] at h
        exact h
  · rw [cit_f (fun w => q (bes.mpr (lies.mp w.1)))] at h
    exact h
