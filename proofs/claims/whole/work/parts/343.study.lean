/-! my own: the class studies its land -/
theorem fL {n : Nat} (hn : 91 ≤ n) : okO n 26 2 ∧ PT 26 2 = 27 ∧ PT 26 3 = 28 ∧ PT 26 4 = 29 ∧ PT 26 5 = 30 ∧ PT 26 6 = 31 ∧ PT 26 7 = 32 ∧ PT 26 9 = 33 ∧ PT 26 10 = 34 ∧ PT 26 11 = 35 ∧ PT 26 12 = 36 ∧ PT 26 13 = 37 ∧ PT 26 15 = 38 ∧ PT 26 16 = 39 ∧ PT 26 17 = 40 ∧ PT 26 18 = 41 ∧ okO n 27 12 ∧ okO n 28 12 ∧ okO n 29 12 ∧ okO n 30 12 ∧ okO n 31 12 ∧ okO n 32 12 ∧ okO n 33 12 ∧ okO n 34 12 ∧ okO n 35 12 ∧ okO n 36 12 ∧ okO n 37 12 ∧ okO n 38 12 ∧ okO n 39 12 ∧ okO n 40 12 ∧ okO n 41 12 ∧ (∀ v : Int, okI 27 v ↔ (0 ≤ v ∧ v < 12)) ∧ (∀ v : Int, okI 28 v ↔ (0 ≤ v ∧ v < 12)) ∧ (∀ v : Int, okI 29 v ↔ (0 ≤ v ∧ v < 6)) ∧ (∀ v : Int, okI 30 v ↔ (0 ≤ v ∧ v < 6)) ∧ (∀ v : Int, okI 31 v ↔ (0 ≤ v ∧ v < 78)) ∧ (∀ v : Int, okI 32 v ↔ (0 ≤ v ∧ v < 13)) ∧ (∀ v : Int, okI 33 v ↔ (0 ≤ v ∧ v < 13)) ∧ (∀ v : Int, okI 34 v ↔ (0 ≤ v ∧ v < 49)) ∧ (∀ v : Int, okI 35 v ↔ (0 ≤ v ∧ v < 49)) ∧ (∀ v : Int, okI 36 v ↔ (0 ≤ v ∧ v < 49)) ∧ (∀ v : Int, okI 37 v ↔ (0 ≤ v ∧ v < 49)) ∧ (∀ v : Int, okI 38 v ↔ (0 ≤ v ∧ v < 19)) ∧ (∀ v : Int, okI 39 v ↔ (0 ≤ v ∧ v < 19)) ∧ (∀ v : Int, okI 40 v ↔ (0 ≤ v ∧ v < 19)) ∧ (∀ v : Int, okI 41 v ↔ (0 ≤ v ∧ v < 361)) := by
  exact ⟨okc hn (by decide), by decide, by decide, by decide, by decide, by decide, by decide, by decide, by decide, by decide, by decide, by decide, by decide, by decide, by decide, by decide, okc hn (by decide), okc hn (by decide), okc hn (by decide), okc hn (by decide), okc hn (by decide), okc hn (by decide), okc hn (by decide), okc hn (by decide), okc hn (by decide), okc hn (by decide), okc hn (by decide), okc hn (by decide), okc hn (by decide), okc hn (by decide), okc hn (by decide), fun v => Iff.rfl, fun v => Iff.rfl, fun v => Iff.rfl, fun v => Iff.rfl, fun v => Iff.rfl, fun v => Iff.rfl, fun v => Iff.rfl, fun v => Iff.rfl, fun v => Iff.rfl, fun v => Iff.rfl, fun v => Iff.rfl, fun v => Iff.rfl, fun v => Iff.rfl, fun v => Iff.rfl, fun v => Iff.rfl⟩
/-- what a land tells, by its own numbers -/
def L26 (C : Cn) (m : Nat) (M : Mp) : Prop := C 26 0 = m ∧ C 26 1 = mE M ∧ C 26 8 = FC M (mE M + 1) ∧ (∀ i, i < m → C 29 i = mF M i ∧ C 30 i = mL M i) ∧ (∀ j k, j ≤ mE M → k < mH M j → C 31 (6 * j + k) = mT M j k) ∧ (∀ j, j ≤ mE M → C 33 j = FC M j ∧ C 32 j = mH M j) ∧ (∀ j k, j ≤ mE M → k ≤ mH M j → C 34 (FC M j + k) = j ∧ C 35 (FC M j + k) = flo M j k ∧ C 36 (FC M j + k) = roo M j k ∧ C 37 (FC M j + k) = fo M j k)
theorem LM.f {C s : Cn} {m : Nat} {M : Mp} (h : LM C 26 s m M) : L26 C m M := by
  obtain ⟨-, a, b, c, d, -⟩ := h
  refine ⟨a, d.1.1, d.1.2.1, b, c, d.1.2.2.1, fun j k hj hk => ?_⟩
  have x := d.1.2.2.2 j k hj hk
  exact ⟨x.1, x.2.1, x.2.2, d.fo hj hk⟩
theorem L26.congr {C D : Cn} {m : Nat} {M : Mp} (h : L26 C m M) (g : ∀ b t, 26 ≤ b → b ≤ 41 → D b t = C b t) : L26 D m M := by
  obtain ⟨a, b, c, d, e, f, k⟩ := h
  refine ⟨by rw [g _ _ (by omega) (by omega)]; exact a, by rw [g _ _ (by omega) (by omega)]; exact b, by rw [g _ _ (by omega) (by omega)]; exact c, fun i hi => ?_, fun j t hj ht => ?_, fun j hj => ?_, fun j t hj ht => ?_⟩
  · rw [g _ _ (by omega) (by omega), g _ _ (by omega) (by omega)]
    exact d i hi
  · rw [g _ _ (by omega) (by omega)]
    exact e j t hj ht
  · rw [g _ _ (by omega) (by omega), g _ _ (by omega) (by omega)]
    exact f j hj
  · rw [g _ _ (by omega) (by omega), g _ _ (by omega) (by omega), g _ _ (by omega) (by omega), g _ _ (by omega) (by omega)]
    exact k j t hj ht
/-- the rows over and under hold a relation -/
def SB (C : Cn) (m : Nat) (R : Nat → Nat → Prop) : Prop := ∀ i, i < m → bS (C 60 i) (fun u => R u i) ∧ bS (C 61 i) (fun u => R i u)
theorem SB.iff {C : Cn} {m : Nat} {R R2 : Nat → Nat → Prop} (h : SB C m R) (e : ∀ u f, R u f ↔ R2 u f) : SB C m R2 := fun i hi => ⟨(h i hi).1.iff (fun u _ => e u i), (h i hi).2.iff (fun u _ => e i u)⟩
theorem SB.add {C D : Cn} {m : Nat} {R : Nat → Nat → Prop} (m6 : m ≤ 6) (h : SB C m R) {up lo : Nat} (hu : up < m) (hl : lo < m) (d : D = wr (wr C 60 lo (or32 (C 60 lo) (shl32 1 (up : Int)))) 61 up (or32 (C 61 up) (shl32 1 (lo : Int)))) : SB D m (fun u f => R u f ∨ (u = up ∧ f = lo)) := by
  intro i hi
  rw [d]
  constructor
  · rw [wr_ne (by omega)]
    by_cases e : i = lo
    · subst e
      rw [wr_same]
      exact ((h i hi).1.or (by omega)).iff (fun u _ => by simp only [and_true])
    · rw [wr_ne (fun q => e q.2)]
      exact (h i hi).1.iff (fun u _ => ⟨Or.inl, fun q => q.elim id (fun q => absurd q.2 e)⟩)
  · by_cases e : i = up
    · subst e
      rw [wr_same]
      exact ((h i hi).2.or (by omega)).iff (fun u _ => by simp only [true_and])
    · rw [wr_ne (fun q => e q.2), wr_ne (by omega)]
      exact (h i hi).2.iff (fun u _ => ⟨Or.inl, fun q => q.elim id (fun q => absurd q.1 e)⟩)
def ST (C : Cn) (M : Mp) : Prop := SB C (mm M) (shO M) ∧ ∀ e, e < mE M → bS (C 62 e) (fun u => u < mm M ∧ mF M u = e) ∧ bS (C 63 e) (fun u => u < mm M ∧ mL M u = e)
theorem ST.congr {C D : Cn} {M : Mp} (h : ST C M) (g : ∀ b t, 60 ≤ b → b ≤ 63 → D b t = C b t) : ST D M := by
  refine ⟨fun i hi => ?_, fun e he => ?_⟩
  · rw [g _ _ (by omega) (by omega), g _ _ (by omega) (by omega)]
    exact h.1 i hi
  · rw [g _ _ (by omega) (by omega), g _ _ (by omega) (by omega)]
    exact h.2 e he
theorem f_studyStrip {n : Nat} {C : Cn} {m j : Nat} {M : Mp} {R : Nat → Nat → Prop} {Q : Int → Cn → Prop} (hn : 91 ≤ n) (ok : okM M) (mm' : mm M = m) (l26 : L26 C m M) (hj : j ≤ mE M) (sb : SB C m R)
    (h : ∀ C2 : Cn, (∀ b t, b ≠ 60 → b ≠ 61 → C2 b t = C b t) → SB C2 m (fun u f => R u f ∨ ∃ a b, b < a ∧ a < mH M j ∧ u = mT M j a ∧ f = mT M j b) → Q 0 C2) : P_Se_studyStrip n C 58 ((6 * j : Nat) : Int) ((mH M j : Nat) : Int) Q := by
  have e12 := ok.e
  have m6 := ok.m
  have h6 := ok.h6 j
  refine lp_rule (fun (z : Cn × Int) => ∃ k : Nat, 1 ≤ k ∧ (k ≤ mH M j ∨ k = 1) ∧ z.2 = (k : Int) ∧ (∀ b t, b ≠ 60 → b ≠ 61 → z.1 b t = C b t) ∧ SB z.1 m (fun u f => R u f ∨ ∃ a b, b < a ∧ a < k ∧ a < mH M j ∧ u = mT M j a ∧ f = mT M j b)) (fun z => (10 - z.2).toNat) ?_ (C, 1) ⟨1, by omega, by omega, rfl, fun _ _ _ _ => rfl, sb.iff (fun u f => ⟨Or.inl, fun q => q.elim id (fun ⟨a, b, x, y, _⟩ => by omega)⟩)⟩
  rintro ⟨D, v3⟩ ⟨k, z0, z1, z2, z3, z4⟩ K hK
  dsimp only at z2 z3 z4
  subst z2
  have l26D : L26 D m M := l26.congr (fun b t h1 h2 => z3 b t (by omega) (by omega))
  have w1 : w32 (((6 * j : Nat) : Int) + (k : Int)) = ((6 * j + k : Nat) : Int) := by
    rw [w32_s (by omega)]
    omega
  unfold B_Se_studyStrip_2
  simp only [fS hn, fL hn, Int.reduceToNat, Int.toNat_natCast, true_and, w1]
  clear w1
  refine ⟨fun q => h D z3 (z4.iff (fun u f => or_congr Iff.rfl ?_)), fun q => ⟨by omega, fun v4 hv4 => ?_⟩⟩
  · constructor
    · rintro ⟨a, b, x1, x2, x3, x4⟩
      exact ⟨a, b, x1, x3, x4⟩
    · rintro ⟨a, b, x1, x2, x3⟩
      exact ⟨a, b, x1, by omega, x2, x3⟩
  · have hk : k < mH M j := by omega
    have tk := ok.tin hk
    rw [l26D.2.2.2.2.1 j k hj hk] at hv4
    rw [hv4]
    refine lp_rule (fun (z : Cn × Int) => ∃ t : Nat, t ≤ k ∧ z.2 = (t : Int) ∧ (∀ b t, b ≠ 60 → b ≠ 61 → z.1 b t = C b t) ∧ SB z.1 m (fun u f => (R u f ∨ ∃ a b, b < a ∧ a < k ∧ a < mH M j ∧ u = mT M j a ∧ f = mT M j b) ∨ ∃ b, b < t ∧ u = mT M j k ∧ f = mT M j b)) (fun z => (10 - z.2).toNat) ?_ (D, 0) ⟨0, by omega, rfl, z3, z4.iff (fun u f => ⟨Or.inl, fun q => q.elim id (fun ⟨b, x, _⟩ => by omega)⟩)⟩
    rintro ⟨D2, v5⟩ ⟨t, y0, y1, y2, y3⟩ K2 hK2
    dsimp only at y1 y2 y3
    subst y1
    have l26D2 : L26 D2 m M := l26.congr (fun b t h1 h2 => y2 b t (by omega) (by omega))
    have w1 : w32 (((6 * j : Nat) : Int) + (t : Int)) = ((6 * j + t : Nat) : Int) := by
      rw [w32_s (by omega)]
      omega
    unfold B_Se_studyStrip_23
    simp only [fS hn, fL hn, Int.reduceToNat, Int.toNat_natCast, true_and, w1]
    clear w1
    refine ⟨fun q2 => ?_, fun q2 => ⟨by omega, fun v6 hv6 => ?_⟩⟩
    · rw [w32_n (by omega)]
      refine hK _ ⟨k + 1, by omega, by omega, rfl, y2, y3.iff (fun u f => ?_)⟩ (by dsimp only; omega)
      constructor
      · rintro ((x | ⟨a, b, x1, x2, x3, x4⟩) | ⟨b, x1, x2, x3⟩)
        · exact Or.inl x
        · exact Or.inr ⟨a, b, x1, by omega, x3, x4⟩
        · exact Or.inr ⟨k, b, by omega, by omega, hk, x2, x3⟩
      · rintro (x | ⟨a, b, x1, x2, x3, x4, x5⟩)
        · exact Or.inl (Or.inl x)
        · by_cases e : a = k
          · rw [e] at x4
            exact Or.inr ⟨b, by omega, x4, x5⟩
          · exact Or.inl (Or.inr ⟨a, b, x1, by omega, x3, x4, x5⟩)
    · have ht : t < mH M j := by omega
      have tt := ok.tin ht
      rw [l26D2.2.2.2.2.1 j t hj ht] at hv6
      rw [hv6]
      simp only [Int.toNat_natCast]
      refine ⟨by omega, fun C15 c15 => ⟨by omega, fun C18 c18 => ?_⟩⟩
      have e61 : C15 61 (mT M j k) = D2 61 (mT M j k) := by rw [c15, wr_ne (by omega)]
      rw [e61, c15] at c18
      have sb2 := y3.add (by omega) (up := mT M j k) (lo := mT M j t) (by omega) (by omega) c18
      rw [w32_n (by omega)]
      refine hK2 _ ⟨t + 1, by omega, rfl, fun b t h1 h2 => ?_, sb2.iff (fun u f => ?_)⟩ (by dsimp only; omega)
      · dsimp only
        rw [c18, wr_ne (fun q => h2 q.1), wr_ne (fun q => h1 q.1), y2 b t h1 h2]
      · constructor
        · rintro ((x | ⟨b, x1, x2⟩) | ⟨x1, x2⟩)
          · exact Or.inl x
          · exact Or.inr ⟨b, by omega, x2⟩
          · exact Or.inr ⟨t, by omega, x1, x2⟩
        · rintro (x | ⟨b, x1, x2, x3⟩)
          · exact Or.inl (Or.inl x)
          · by_cases e : b = t
            · rw [e] at x3
              exact Or.inr ⟨x2, x3⟩
            · exact Or.inl (Or.inr ⟨b, by omega, x2, x3⟩)
/-- over and under, in the strips below J -/
def shJ (M : Mp) (J u f : Nat) : Prop := ∃ i a b, i < J ∧ b < a ∧ a < mH M i ∧ u = mT M i a ∧ f = mT M i b
theorem okM.shJ {M : Mp} (ok : okM M) (u f : Nat) : shJ M (mE M + 1) u f ↔ shO M u f := by
  constructor
  · rintro ⟨i, a, b, h1, h2, h3, rfl, rfl⟩
    have x := ok.tin h3
    have y := ok.tin (j := i) (k := b) (by omega)
    exact ⟨x.1, y.1, ⟨i, x.2, y.2⟩, ok.tov h2 h3⟩
  · rintro ⟨h1, h2, ⟨i, t1, t2⟩, o⟩
    obtain ⟨a, a1, rfl⟩ := ok.tall h1 t1
    obtain ⟨b, b1, rfl⟩ := ok.tall h2 t2
    have fl := ok.fl h1
    have := t1.2
    exact ⟨i, a, b, by omega, (ok.tlt b1 a1).mp o, a1, rfl, rfl⟩
theorem f_study {n : Nat} {C : Cn} {m : Nat} {M : Mp} {Q : Int → Cn → Prop} (hn : 91 ≤ n) (ok : okM M) (mm' : mm M = m) (l26 : L26 C m M)
    (h : ∀ C2 : Cn, (∀ b t, ¬ (60 ≤ b ∧ b ≤ 63) → ¬ (b = 58 ∧ t = 11) → C2 b t = C b t) → ST C2 M → C2 58 11 = -1 → Q 0 C2) : P_Se_study n C 58 Q := by
  have e12 := ok.e
  have m6 := ok.m
  unfold P_Se_study
  simp only [fS hn, Int.reduceToNat, true_and]
  intro C2 c2
  -- the third loop
  have third : ∀ D : Cn, (∀ b t, ¬ (60 ≤ b ∧ b ≤ 63) → ¬ (b = 58 ∧ t = 11) → D b t = C b t) → D 58 11 = -1 → (∀ i, i < m → D 60 i = 0 ∧ D 61 i = 0) → (∀ e, e < mE M → bS (D 62 e) (fun u => u < mm M ∧ mF M u = e) ∧ bS (D 63 e) (fun u => u < mm M ∧ mL M u = e)) → ∃ f, lp (B_Se_study_113 n 58 Q) f (D, 0) := by
    intro D d1 d2 d3 d4
    refine lp_rule (fun (z : Cn × Int) => ∃ J : Nat, J ≤ mE M + 1 ∧ z.2 = (J : Int) ∧ (∀ b t, ¬ (60 ≤ b ∧ b ≤ 61) → z.1 b t = D b t) ∧ SB z.1 m (shJ M J)) (fun z => (20 - z.2).toNat) ?_ (D, 0) ⟨0, by omega, rfl, fun _ _ _ => rfl, fun i hi => ?_⟩
    · rintro ⟨D2, v1⟩ ⟨J, z0, z1, z2, z3⟩ K hK
      dsimp only at z1 z2 z3
      subst z1
      have l26D : L26 D2 m M := l26.congr (fun b t h1 h2 => by rw [z2 b t (by omega), d1 b t (by omega) (by omega)])
      have w1 : w32 ((J : Int) * 6) = ((6 * J : Nat) : Int) := by
        rw [w32_s (by omega)]
        omega
      unfold B_Se_study_113
      simp only [fS hn, fL hn, Int.reduceToNat, Int.toNat_natCast, true_and, w1]
      clear w1
      rw [l26D.2.1]
      refine ⟨fun q => h D2 (fun b t h1 h2 => by rw [z2 b t (by omega), d1 b t h1 h2]) ⟨?_, fun e he => ?_⟩ (by rw [z2 _ _ (by omega), d2]), fun q => ⟨by omega, ?_⟩⟩
      · have eJ : J = mE M + 1 := by omega
        rw [eJ] at z3
        rw [mm']
        exact z3.iff (fun u f => ok.shJ u f)
      · rw [z2 _ _ (by omega), z2 _ _ (by omega)]
        exact d4 e he
      · rw [(l26D.2.2.2.2.2.1 J (by omega)).2]
        refine f_studyStrip hn ok mm' l26D (by omega) z3 (fun C14 x1 x2 => ?_)
        rw [w32_n (by omega)]
        refine hK _ ⟨J + 1, by omega, rfl, fun b t hb => by dsimp only; rw [x1 b t (by omega) (by omega), z2 b t hb], x2.iff (fun u f => ?_)⟩ (by dsimp only; omega)
        constructor
        · rintro (⟨i, a, b, y1, y2⟩ | ⟨a, b, y1, y2, y3⟩)
          · exact ⟨i, a, b, by omega, y2⟩
          · exact ⟨J, a, b, by omega, y1, y2, y3⟩
        · rintro ⟨i, a, b, y1, y2, y3, y4, y5⟩
          by_cases e : i = J
          · rw [e] at y3 y4 y5
            exact Or.inr ⟨a, b, y2, y3, y4, y5⟩
          · exact Or.inl ⟨i, a, b, by omega, y2, y3, y4, y5⟩
    · dsimp only
      rw [(d3 i hi).1, (d3 i hi).2]
      exact ⟨bS_0.iff (fun u _ => ⟨fun q => q.elim, fun ⟨i, _, _, q, _⟩ => by omega⟩), bS_0.iff (fun u _ => ⟨fun q => q.elim, fun ⟨i, _, _, q, _⟩ => by omega⟩)⟩
  -- the second loop
  have second : ∀ D : Cn, (∀ b t, ¬ (60 ≤ b ∧ b ≤ 63) → ¬ (b = 58 ∧ t = 11) → D b t = C b t) → D 58 11 = -1 → (∀ e, e < mE M → D 62 e = 0 ∧ D 63 e = 0) → ∃ f, lp (B_Se_study_40 n 58 Q) f (D, 0) := by
    intro D d1 d2 d3
    refine lp_rule (fun (z : Cn × Int) => ∃ i : Nat, i ≤ m ∧ z.2 = (i : Int) ∧ (∀ b t, ¬ (60 ≤ b ∧ b ≤ 63) → z.1 b t = D b t) ∧ (∀ t, t < i → z.1 60 t = 0 ∧ z.1 61 t = 0) ∧ (∀ e, e < mE M → bS (z.1 62 e) (fun u => u < i ∧ mF M u = e) ∧ bS (z.1 63 e) (fun u => u < i ∧ mL M u = e))) (fun z => (20 - z.2).toNat) ?_ (D, 0) ⟨0, by omega, rfl, fun _ _ _ => rfl, fun t ht => absurd ht (Nat.not_lt_zero t), fun e he => ?_⟩
    · rintro ⟨D2, v1⟩ ⟨i, z0, z1, z2, z3, z4⟩ K hK
      dsimp only at z1 z2 z3 z4
      subst z1
      have l26D : L26 D2 m M := l26.congr (fun b t h1 h2 => by rw [z2 b t (by omega), d1 b t (by omega) (by omega)])
      unfold B_Se_study_40
      simp only [fS hn, fL hn, Int.reduceToNat, Int.toNat_natCast, true_and]
      rw [l26D.1]
      refine ⟨fun q => ?_, fun q => ⟨by omega, fun C21 c21 => ⟨by omega, fun C24 c24 => ⟨by omega, ?_⟩⟩⟩⟩
      · have ei : i = m := by omega
        refine third D2 (fun b t h1 h2 => by rw [z2 b t h1, d1 b t h1 h2]) (by rw [z2 _ _ (by omega), d2]) (fun t ht => z3 t (by omega)) (fun e he => ?_)
        rw [mm', ← ei]
        exact z4 e he
      · have hi : i < m := by omega
        have fl := ok.fl (i := i) (by omega)
        have g1 : C24 29 i = ((mF M i : Nat) : Int) := by rw [c24, wr_ne (by omega), c21, wr_ne (by omega), (l26D.2.2.2.1 i hi).1]
        rw [g1]
        simp only [Int.toNat_natCast]
        refine ⟨by omega, fun C29 c29 => ⟨by omega, ?_⟩⟩
        have g2 : C29 30 i = ((mL M i : Nat) : Int) := by rw [c29, wr_ne (by omega), c24, wr_ne (by omega), c21, wr_ne (by omega), (l26D.2.2.2.1 i hi).2]
        rw [g2]
        simp only [Int.toNat_natCast]
        refine ⟨by omega, fun C34 c34 => ?_⟩
        rw [w32_n (by omega)]
        refine hK _ ⟨i + 1, by omega, rfl, fun b t hb => ?_, fun t ht => ?_, fun e he => ?_⟩ (by dsimp only; omega)
        · dsimp only
          rw [c34, wr_ne (by omega), c29, wr_ne (by omega), c24, wr_ne (by omega), c21, wr_ne (by omega), z2 b t hb]
        · dsimp only
          rw [c34, wr_ne (by omega), wr_ne (by omega), c29, wr_ne (by omega), wr_ne (by omega), c24]
          by_cases e : t = i
          · subst e
            rw [wr_ne (by omega), c21, wr_same, wr_same]
            exact ⟨rfl, rfl⟩
          · rw [wr_ne (by omega), wr_ne (by omega), c21, wr_ne (by omega), wr_ne (by omega)]
            exact z3 t (by omega)
        · dsimp only
          have o62 : ∀ t, C24 62 t = D2 62 t := fun t => by rw [c24, wr_ne (by omega), c21, wr_ne (by omega)]
          have o63 : ∀ t, C29 63 t = D2 63 t := fun t => by rw [c29, wr_ne (by omega), c24, wr_ne (by omega), c21, wr_ne (by omega)]
          constructor
          · rw [c34, wr_ne (by omega), c29]
            by_cases q2 : e = mF M i
            · rw [q2, wr_same, o62]
              refine ((z4 _ (by omega)).1.or (i := i) (by omega)).iff (fun u _ => ?_)
              constructor
              · rintro (x | x)
                · exact ⟨by omega, x.2⟩
                · rw [x]
                  exact ⟨by omega, rfl⟩
              · rintro ⟨x1, x2⟩
                by_cases y : u = i
                · exact Or.inr y
                · exact Or.inl ⟨by omega, x2⟩
            · rw [wr_ne (fun q => q2 q.2), o62]
              refine (z4 e he).1.iff (fun u _ => ?_)
              constructor
              · rintro x
                exact ⟨by omega, x.2⟩
              · rintro ⟨x1, x2⟩
                by_cases y : u = i
                · rw [y] at x2
                  exact absurd x2.symm q2
                · exact ⟨by omega, x2⟩
          · rw [c34]
            by_cases q2 : e = mL M i
            · rw [q2, wr_same, o63]
              refine ((z4 _ (by omega)).2.or (i := i) (by omega)).iff (fun u _ => ?_)
              constructor
              · rintro (x | x)
                · exact ⟨by omega, x.2⟩
                · rw [x]
                  exact ⟨by omega, rfl⟩
              · rintro ⟨x1, x2⟩
                by_cases y : u = i
                · exact Or.inr y
                · exact Or.inl ⟨by omega, x2⟩
            · rw [wr_ne (fun q => q2 q.2), o63]
              refine (z4 e he).2.iff (fun u _ => ?_)
              constructor
              · rintro x
                exact ⟨by omega, x.2⟩
              · rintro ⟨x1, x2⟩
                by_cases y : u = i
                · rw [y] at x2
                  exact absurd x2.symm q2
                · exact ⟨by omega, x2⟩
    · dsimp only
      rw [(d3 e he).1, (d3 e he).2]
      exact ⟨bS_0.iff (fun u _ => ⟨fun q => q.elim, fun q => by omega⟩), bS_0.iff (fun u _ => ⟨fun q => q.elim, fun q => by omega⟩)⟩
  -- the first loop
  refine lp_rule (fun (z : Cn × Int) => ∃ e : Nat, e ≤ mE M ∧ z.2 = (e : Int) ∧ (∀ b t, ¬ (60 ≤ b ∧ b ≤ 63) → ¬ (b = 58 ∧ t = 11) → z.1 b t = C b t) ∧ z.1 58 11 = -1 ∧ (∀ t, t < e → z.1 62 t = 0 ∧ z.1 63 t = 0)) (fun z => (20 - z.2).toNat) ?_ (C2, 0) ⟨0, by omega, rfl, fun b t _ h2 => by dsimp only; rw [c2, wr_ne h2], by dsimp only; rw [c2, wr_same], fun t ht => absurd ht (Nat.not_lt_zero t)⟩
  rintro ⟨D, v1⟩ ⟨e, z0, z1, z2, z3, z4⟩ K hK
  dsimp only at z1 z2 z3 z4
  subst z1
  unfold B_Se_study_7
  simp only [fS hn, fL hn, Int.reduceToNat, Int.toNat_natCast, true_and]
  rw [z2 26 1 (by omega) (by omega), l26.2.1]
  refine ⟨fun q => second D z2 z3 (fun t ht => z4 t (by omega)), fun q => ⟨by omega, fun C38 c38 => ⟨by omega, fun C41 c41 => ?_⟩⟩⟩
  rw [w32_n (by omega)]
  refine hK _ ⟨e + 1, by omega, rfl, fun b t h1 h2 => ?_, ?_, fun t ht => ?_⟩ (by dsimp only; omega)
  · dsimp only
    rw [c41, wr_ne (by omega), c38, wr_ne (by omega), z2 b t h1 h2]
  · dsimp only
    rw [c41, wr_ne (by omega), c38, wr_ne (by omega), z3]
  · dsimp only
    rw [c41, c38]
    by_cases q2 : t = e
    · rw [q2, wr_ne (by omega), wr_same, wr_same]
      exact ⟨rfl, rfl⟩
    · rw [wr_ne (by omega), wr_ne (by omega), wr_ne (by omega), wr_ne (by omega)]
      exact z4 t (by omega)
