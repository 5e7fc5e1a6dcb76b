/-! my own: text, on both sides -/
theorem Inv.low {C D : Cn} (h : Inv C) (g : ∀ b t, b < 320 → IC b t → D b t = C b t) : Inv D := by
  obtain ⟨m, i1, i2, i3, i4, i5, i6, i7, i8, i9, i10⟩ := h
  have m6 := i1.1
  refine ⟨m, i1.congr (fun b t hb => g b t ?_ ?_), i2.congr (fun b t hb => g b t ?_ ?_), i3.congr (fun b t hb => g b t ?_ ?_), i4.congr (fun b t hb => g b t ?_ ?_), i5.congr (fun b t hb => g b t ?_ ?_), i6.congr (fun b t hb => g b t ?_ ?_), i7.congr (fun b t hb => g b t ?_ ?_), i8.congr (fun b t hb => g b t ?_ ?_), i9.congr2 (fun b t hb => g b t ?_ ?_), i10.congr m6 (fun b t hb => g b t ?_ ?_)⟩ <;> (clear i1 i2 i3 i4 i5 i6 i7 i8 i9 i10 g m6; (try unfold IC); omega)
/-- the reference's estate is the class's -/
def relE (D : Cn) (k : Nat) (F : Cn) : Prop := F 91 0 = (k : Int) ∧ F 91 2 = D 2 2 ∧ (∀ i, i < k → ∀ f, f < 6 → F (93 + i) f = D (4 + i) f) ∧ ∀ t, t < 3 → F 91 (6 + t) = D 71 t
theorem relE.congr {D F G : Cn} {k : Nat} (h : relE D k F) (k6 : k ≤ 6) (g : ∀ b t, (b = 91 ∧ t ≤ 8) ∨ (93 ≤ b ∧ b ≤ 98) → G b t = F b t) : relE D k G := ⟨by rw [g _ _ (by omega)]; exact h.1, by rw [g _ _ (by omega)]; exact h.2.1, fun i hi f hf => by rw [g _ _ (by omega)]; exact h.2.2.1 i hi f hf, fun t ht => by rw [g _ _ (by omega)]; exact h.2.2.2 t ht⟩
def frY (n : Nat) (C C2 : Cn) : Prop := ∀ b t, b ≠ n → b ≠ 100 → ¬ (b = 91 ∧ (t = 0 ∨ t = 2 ∨ (6 ≤ t ∧ t ≤ 8) ∨ (39 ≤ t ∧ t ≤ 43))) → ¬ (93 ≤ b ∧ b ≤ 98 ∧ t < 6) → C2 b t = C b t
theorem pair1 {a b : Nat} {x y : Nat × (Nat → Int)} (h : (a, x) = (b, y)) : a = b := congrArg Prod.fst h
theorem g_itS {n p p2 L k k2 : Nat} {F D D2 : Cn} {T : Nat → Int} {Q : Int → Cn → Nat → Prop} (hn : 320 ≤ n) (rg : RG F T L p) (g : GD D k) (re : relE D k F) (ir : itmR T L D k p D2 p2) (g2 : GD D2 k2)
    (h : ∀ F2 : Cn, frY n F F2 → relE D2 k2 F2 → RG F2 T L p2 → Q 0 F2 (n + 1)) : P_G_itemText n F 91 Q := by
  have hn1 : 320 ≤ n + 1 := by omega
  have k6 := g.2.1
  obtain ⟨r0, r2, rr, rb⟩ := re
  refine g_item hn rg r0 (fun f F2 e fr e43 => ?_) (fun q y F2 e fr e2 rg2 => ?_) (fun q y F2 e kl y0 y1 V1 V2 fr rg2 => ?_)
  · exfalso
    rcases ir with ⟨a1, -⟩ | ⟨q, y, a1, -⟩
    · rw [e] at a1
      have : (0 : Nat) = 1 := a1
      omega
    · have := pair1 (e.symm.trans a1)
      omega
  · rcases ir with ⟨a1, a2, x1, x0, x2, x3, x5⟩ | ⟨q, y, a1, -⟩
    · rw [e] at a2 x0
      have a2' : p2 = q := a2
      have x0' : D2 2 2 = y 0 := x0
      have ek : k2 = k := by
        have := g2.1
        omega
      refine h F2 (fun b t h1 h2 h3 h4 => fr b t (by omega) (by omega) h1) ⟨by rw [fr _ _ (by omega) (by omega) (by omega), r0, ek], by rw [e2, x0'], fun i hi f hf => ?_, fun t ht => ?_⟩ (by rw [a2']; exact rg2)
      · rw [fr _ _ (by omega) (by omega) (by omega), rr i (by omega) f hf, x3 i (by omega) f hf]
      · rw [fr _ _ (by omega) (by omega) (by omega), rb t ht, x5 t ht]
    · have := pair1 (e.symm.trans a1)
      omega
  · rcases ir with ⟨a1, -⟩ | ⟨q', y', a1, -, -, a4, -, -, ns, al, x1, x2, x3, x4, x5⟩
    · rw [e] at a1
      have : (2 : Nat) = 1 := a1
      omega
    · obtain ⟨-, e3⟩ := Prod.mk.inj (e.symm.trans a1)
      obtain ⟨e4, e5⟩ := Prod.mk.inj e3
      subst e4
      subst e5
      have ek : k2 = k + 1 := by
        have := g2.1
        omega
      have fk : F2 91 0 = (k : Int) := by rw [fr _ _ (by omega) (by omega), r0]
      refine g_105 (D := D) (k := k) hn1 rg2 kl fk g.2.2.1 (fun i hi f hf => by rw [fr _ _ (by omega) (by omega), rr i hi f hf]) y0 y1 V1 V2 (fun s => absurd s ns) (fun _ i hi na => absurd (al i hi) na) (fun _ _ F3 f3 z0 zr rg3 => ?_)
      refine h F3 (fun b t h1 h2 h3 h4 => by rw [f3 b t h2 (by omega) (by omega) (by omega), fr b t (by omega) h1]) ⟨by rw [z0, ek], by rw [f3 _ _ (by omega) (by omega) (by omega) (by omega), fr _ _ (by omega) (by omega), r2, x2], fun i hi f hf => ?_, fun t ht => ?_⟩ (by rw [a4]; exact rg3)
      · by_cases ei : i = k
        · rw [ei, zr f hf, x4 f hf]
        · rw [f3 _ _ (by omega) (by omega) (by omega) (by omega), fr _ _ (by omega) (by omega), rr i (by omega) f hf, x3 i (by omega) f hf]
      · rw [f3 _ _ (by omega) (by omega) (by omega) (by omega), fr _ _ (by omega) (by omega), rb t ht, x5 t ht]
theorem g_itF {n p L k f : Nat} {F D D2 : Cn} {T : Nat → Int} {Q : Int → Cn → Nat → Prop} (hn : 320 ≤ n) (rg : RG F T L p) (g : GD D k) (re : relE D k F) (ir : itmF T L D k p f D2)
    (h : ∀ F2 : Cn, frY n F F2 → F2 91 43 = (f : Int) → (∀ t, t < 3 → F2 91 (6 + t) = D2 71 t) → Q 0 F2 (n + 1)) : P_G_itemText n F 91 Q := by
  have hn1 : 320 ≤ n + 1 := by omega
  have k6 := g.2.1
  obtain ⟨r0, r2, rr, rb⟩ := re
  obtain ⟨-, ir⟩ := ir
  refine g_item hn rg r0 (fun f' F2 e fr e43 => ?_) (fun q y F2 e fr e2 rg2 => ?_) (fun q y F2 e kl y0 y1 V1 V2 fr rg2 => ?_)
  · rcases ir with ⟨-, a2, a3⟩ | ⟨q, y, a1, -⟩
    · rw [e] at a2
      have a2' : f = f' := a2
      subst a2'
      exact h F2 (fun b t h1 h2 h3 h4 => fr b t (by omega) h1) e43 (fun t ht => by rw [fr _ _ (by omega) (by omega), rb t ht, a3 t ht])
    · have := pair1 (e.symm.trans a1)
      omega
  · exfalso
    rcases ir with ⟨a1, -⟩ | ⟨q, y, a1, -⟩
    · rw [e] at a1
      have : (1 : Nat) = 0 := a1
      omega
    · have := pair1 (e.symm.trans a1)
      omega
  · rcases ir with ⟨a1, -⟩ | ⟨q', y', a1, -, -, a4, -, -, a5⟩
    · rw [e] at a1
      have : (2 : Nat) = 0 := a1
      omega
    · obtain ⟨-, e3⟩ := Prod.mk.inj (e.symm.trans a1)
      obtain ⟨e4, e5⟩ := Prod.mk.inj e3
      subst e4
      subst e5
      have fk : F2 91 0 = (k : Int) := by rw [fr _ _ (by omega) (by omega), r0]
      refine g_105 (D := D) (k := k) hn1 rg2 kl fk g.2.2.1 (fun i hi f hf => by rw [fr _ _ (by omega) (by omega), rr i hi f hf]) y0 y1 V1 V2 (fun s F3 f3 e43 => ?_) (fun ns i hi na al F3 f3 z0 z1 z2 e43 => ?_) (fun ns al F3 f3 z0 zr rg3 => ?_)
      · rcases a5 with ⟨-, s2⟩ | ⟨s1, -⟩
        · exact h F3 (fun b t h1 h2 h3 h4 => by rw [f3 b t (by omega), fr b t (by omega) h1]) (by rw [e43, a4]) (fun t ht => by rw [f3 _ _ (by omega), fr _ _ (by omega) (by omega), rb t ht, s2 t ht])
        · exact absurd s s1
      · rcases a5 with ⟨s1, -⟩ | ⟨-, i2, hi2, na2, al2, x0, x1, x2⟩
        · exact absurd s1 ns
        · have ei : i = i2 := by
            by_cases w : i < i2
            · exact absurd (al2 i w) na
            · by_cases w2 : i2 < i
              · exact absurd (al i2 w2) na2
              · omega
          subst ei
          refine h F3 (fun b t h1 h2 h3 h4 => by rw [f3 b t h2 (by omega) (by omega), fr b t (by omega) h1]) (by rw [e43, a4]) (fun t ht => ?_)
          have : t = 0 ∨ t = 1 ∨ t = 2 := by omega
          rcases this with rfl | rfl | rfl
          · rw [x0, ← z0]
          · rw [x1, ← z1]
          · rw [x2, ← z2]
      · exfalso
        rcases a5 with ⟨s1, -⟩ | ⟨-, i2, hi2, na2, -⟩
        · exact ns s1
        · exact na2 (al i2 hi2)
theorem chn.b {T : Nat → Int} {L m J : Nat} {C : Cn} {H : Nat → Cn} {K P Z : Nat → Nat} (c : chn T L C m J H K P Z) : ∀ i, i ≤ J → ∀ t, t < 3 → H i 71 t = C 71 t
  | 0 => fun _ t ht => c.1 _ _ (by omega)
  | i + 1 => fun hi t ht => by
    rw [← c.b i (by omega) t ht]
    rcases (c.2.2.2.2.2 i (by omega)).1 with ⟨-, -, -, -, -, -, x⟩ | ⟨q, y, -, -, -, -, -, -, -, -, -, -, -, -, x⟩
    · exact x t ht
    · exact x t ht
/-- the reference's text, after what the class has read -/
theorem g_text {n L m J : Nat} {C C1 : Cn} {T : Nat → Int} {H : Nat → Cn} {K P Z : Nat → Nat} {Q : Int → Cn → Nat → Prop} (hn : 320 ≤ n) (g : GD C m) (re : relE C m C1) (tg : TG C1 T L) (c : chn T L C m J H K P Z) (D2 : Cn)
    (h : (∃ f : Nat, f ≤ L ∧ itmF T L (H J) (K J) (P J) f D2 ∧ (∀ (F : Cn) (n2 : Nat), n ≤ n2 → (∀ b t, b < 320 → ¬ (100 ≤ b ∧ b ≤ 281) → ¬ (b = 91 ∧ ((6 ≤ t ∧ t ≤ 8) ∨ t = 34 ∨ (38 ≤ t ∧ t ≤ 43))) → F b t = C1 b t) → F 91 38 = 0 → (∀ t, t < 3 → F 91 (6 + t) = D2 71 t) → Q (-1 - (f : Int)) F n2)) ∨
      ∃ z k2 : Nat, z ≤ L ∧ itmR T L (H J) (K J) (P J) D2 z ∧ GD D2 k2 ∧ tkK T L z ≠ 3 ∧ (tkK T L z = 0 → ∀ (F : Cn) (n2 : Nat), n ≤ n2 → (∀ b t, b < 320 → ¬ (100 ≤ b ∧ b ≤ 281) → ¬ (b = 91 ∧ (t = 0 ∨ t = 2 ∨ (6 ≤ t ∧ t ≤ 8) ∨ t = 34 ∨ (38 ≤ t ∧ t ≤ 43))) → ¬ (93 ≤ b ∧ b ≤ 98 ∧ t < 6) → F b t = C1 b t) → F 91 38 = 0 → relE D2 k2 F → Q ((J + 1 : Nat) : Int) F n2) ∧
        (tkK T L z ≠ 0 → ∀ (F : Cn) (n2 : Nat), n ≤ n2 → (∀ b t, b < 320 → ¬ (100 ≤ b ∧ b ≤ 281) → ¬ (b = 91 ∧ ((6 ≤ t ∧ t ≤ 8) ∨ t = 34 ∨ (38 ≤ t ∧ t ≤ 43))) → F b t = C1 b t) → F 91 38 = 0 → (∀ t, t < 3 → F 91 (6 + t) = D2 71 t) → Q (-1 - ((tkS T L z : Nat) : Int)) F n2)) : P_G_text n C1 91 Q := by
  have L120 := tg.1
  obtain ⟨c1, c2, c3, c4, c5, c6⟩ := c
  unfold P_G_text
  simp only [gS hn, Int.reduceToNat, true_and]
  refine g_aside hn (fun E2 f2 a34 ar => ?_)
  intro E6 e6
  have o6 : ∀ b t, ¬ (b = 91 ∧ (t = 34 ∨ t = 43)) → ¬ (233 ≤ b ∧ b ≤ 238) → E6 b t = C1 b t := fun b t h1 h2 => by rw [e6, wr_ne (by omega), f2 b t h2 (by omega)]
  have x34 : E6 91 34 = C1 91 0 := by rw [e6, wr_ne (by omega), a34]
  have xr : ∀ i, i < 6 → ∀ f, f < 6 → E6 (233 + i) f = C1 (93 + i) f := fun i hi f hf => by rw [e6, wr_ne (by omega), ar i hi f hf]
  have x43 : E6 91 43 = -1 := by rw [e6, wr_same]
  have v2E : E2 91 2 = C1 91 2 := f2 _ _ (by omega) (by omega)
  rw [v2E]
  clear e6 f2 a34 ar v2E
  have tg6 : TG E6 T L := tg.congr (fun b t hb => o6 b t (by omega) (by omega))
  refine g_looks (p := 0) hn tg6 (Nat.zero_le _) (fun E7 f7 t7 => ?_)
  have rg7 : RG E7 T L 0 := ⟨Nat.zero_le _, tg6.congr (fun b t hb => f7 b t (by omega)), t7, by rw [f7 _ _ (by omega), x43]⟩
  have m6 := g.2.1
  -- what holds behind item j
  generalize hS : (fun (j : Nat) (F : Cn) => (j < J ∧ relE (H (j + 1)) (K (j + 1)) F ∧ RG F T L (Z j)) ∨ (j = J ∧ ((∃ f : Nat, f ≤ L ∧ F 91 43 = (f : Int) ∧ (∀ t, t < 3 → F 91 (6 + t) = D2 71 t) ∧ (∀ (F : Cn) (n2 : Nat), n ≤ n2 → (∀ b t, b < 320 → ¬ (100 ≤ b ∧ b ≤ 281) → ¬ (b = 91 ∧ ((6 ≤ t ∧ t ≤ 8) ∨ t = 34 ∨ (38 ≤ t ∧ t ≤ 43))) → F b t = C1 b t) → F 91 38 = 0 → (∀ t, t < 3 → F 91 (6 + t) = D2 71 t) → Q (-1 - (f : Int)) F n2)) ∨ ∃ z k2 : Nat, k2 ≤ 6 ∧ relE D2 k2 F ∧ RG F T L z ∧ tkK T L z ≠ 3 ∧ (tkK T L z = 0 → ∀ (F : Cn) (n2 : Nat), n ≤ n2 → (∀ b t, b < 320 → ¬ (100 ≤ b ∧ b ≤ 281) → ¬ (b = 91 ∧ (t = 0 ∨ t = 2 ∨ (6 ≤ t ∧ t ≤ 8) ∨ t = 34 ∨ (38 ≤ t ∧ t ≤ 43))) → ¬ (93 ≤ b ∧ b ≤ 98 ∧ t < 6) → F b t = C1 b t) → F 91 38 = 0 → relE D2 k2 F → Q ((J + 1 : Nat) : Int) F n2) ∧ (tkK T L z ≠ 0 → ∀ (F : Cn) (n2 : Nat), n ≤ n2 → (∀ b t, b < 320 → ¬ (100 ≤ b ∧ b ≤ 281) → ¬ (b = 91 ∧ ((6 ≤ t ∧ t ≤ 8) ∨ t = 34 ∨ (38 ≤ t ∧ t ≤ 43))) → F b t = C1 b t) → F 91 38 = 0 → (∀ t, t < 3 → F 91 (6 + t) = D2 71 t) → Q (-1 - ((tkS T L z : Nat) : Int)) F n2)))) = S
  have item : ∀ (j : Nat), j ≤ J → ∀ (F : Cn) (n' : Nat) (Q' : Int → Cn → Nat → Prop), 320 ≤ n' → relE (H j) (K j) F → RG F T L (P j) → (∀ F2 : Cn, frY n' F F2 → S j F2 → Q' 0 F2 (n' + 1)) → P_G_itemText n' F 91 Q' := by
    intro j hj F n' Q' hn' rF rgF hh
    have gj := (c5 j hj).1
    by_cases ej : j = J
    · subst ej
      rcases h with ⟨f, f1, f3, f4⟩ | ⟨z, k2, z1, z2, z3, z4, z5, z6⟩
      · refine g_itF hn' rgF gj rF f3 (fun F2 a1 a2 a3 => hh F2 a1 ?_)
        rw [← hS]
        exact Or.inr ⟨rfl, Or.inl ⟨f, f1, a2, a3, f4⟩⟩
      · refine g_itS hn' rgF gj rF z2 z3 (fun F2 a1 a2 a3 => hh F2 a1 ?_)
        rw [← hS]
        exact Or.inr ⟨rfl, Or.inr ⟨z, k2, z3.2.1, a2, a3, z4, z5, z6⟩⟩
    · have cj := c6 j (by omega)
      refine g_itS hn' rgF gj rF cj.1 (c5 (j + 1) (by omega)).1 (fun F2 a1 a2 a3 => hh F2 a1 ?_)
      rw [← hS]
      exact Or.inl ⟨by omega, a2, a3⟩
  -- the first item
  have r00 : relE (H 0) (K 0) E7 := by
    rw [c2]
    refine ⟨?_, ?_, fun i hi f hf => ?_, fun t ht => ?_⟩
    · rw [f7 _ _ (by omega), o6 _ _ (by omega) (by omega), re.1]
    · rw [f7 _ _ (by omega), o6 _ _ (by omega) (by omega), re.2.1, c1 _ _ (by omega)]
    · rw [f7 _ _ (by omega), o6 _ _ (by omega) (by omega), re.2.2.1 i hi f hf, c1 _ _ (by omega)]
    · rw [f7 _ _ (by omega), o6 _ _ (by omega) (by omega), re.2.2.2 t ht, c1 _ _ (by omega)]
  refine item 0 (Nat.zero_le _) E7 n _ hn r00 (by rw [c3]; exact rg7) (fun F0 fr0 s0 => ?_)
  refine lp_rule (fun (w : Cn × Nat × Nat × Nat × Int) => ∃ j : Nat, j ≤ J ∧ w.2.2.2.2 = ((j + 1 : Nat) : Int) ∧ w.2.2.1 = j + 1 ∧ w.2.2.2.1 = 6 * (j + 1) ∧ n ≤ w.2.1 ∧ (∀ b t, b < 320 → b ≠ 100 → ¬ (b = 91 ∧ (t = 0 ∨ t = 2 ∨ (6 ≤ t ∧ t ≤ 8) ∨ (39 ≤ t ∧ t ≤ 43))) → ¬ (93 ≤ b ∧ b ≤ 98 ∧ t < 6) → w.1 b t = E6 b t) ∧ S j w.1) (fun w => (200 - w.2.2.2.2).toNat) ?_ (F0, n + 1, 1, 6, 1) ⟨0, Nat.zero_le _, rfl, rfl, rfl, by dsimp only; omega, fun b t h1 h2 h3 h4 => by dsimp only; rw [fr0 b t (by omega) h2 h3 h4, f7 b t (by omega)], s0⟩
  rintro ⟨F, n', kc, ks, v2⟩ ⟨j, y0, y1, y2, y3, y4, y5, y6⟩ Kc hKc
  dsimp only at y1 y2 y3 y4 y5 y6
  subst y1 y2 y3
  have hn' : 320 ≤ n' := by omega
  clear fr0 s0 r00 rg7 t7 f7
  -- the end with a fault
  have back : ∀ (G : Cn) (f : Nat) (Q0 : Int → Cn → Nat → Prop), (∀ b t, b < 320 → b ≠ 100 → ¬ (b = 91 ∧ (t = 0 ∨ t = 2 ∨ (6 ≤ t ∧ t ≤ 8) ∨ (39 ≤ t ∧ t ≤ 43))) → ¬ (93 ≤ b ∧ b ≤ 98 ∧ t < 6) → G b t = E6 b t) → f ≤ L → G 91 43 = (f : Int) → (∀ t, t < 3 → G 91 (6 + t) = D2 71 t) → (∀ (F : Cn) (n2 : Nat), n ≤ n2 → (∀ b t, b < 320 → ¬ (100 ≤ b ∧ b ≤ 281) → ¬ (b = 91 ∧ ((6 ≤ t ∧ t ≤ 8) ∨ t = 34 ∨ (38 ≤ t ∧ t ≤ 43))) → F b t = C1 b t) → F 91 38 = 0 → (∀ t, t < 3 → F 91 (6 + t) = D2 71 t) → Q0 (-1 - (f : Int)) F n2) → ∀ C27 : Cn, C27 = wr G 91 38 0 → (0 ≤ C27 91 43 → P_G_laysBack n' C27 91 (fun (_ : Int) (C_29 : Cn) => ∀ C_33 : Cn, C_33 = wr C_29 91 2 (C1 91 2) → Q0 (w32 (-1 - C_33 91 43)) C_33 n')) ∧ (¬ 0 ≤ C27 91 43 → Q0 ((j + 1 : Nat) : Int) C27 n') := by
    intro G f Q0 g1 fL g2 g3 hq C27 c27
    have e43 : C27 91 43 = (f : Int) := by rw [c27, wr_ne (by omega), g2]
    refine ⟨fun _ => g_layB hn' (fun B b1 b2 b3 C33 c33 => ?_), fun w => absurd (by omega) w⟩
    have x43' : C33 91 43 = (f : Int) := by rw [c33, wr_ne (by omega), b1 _ _ (by omega) (by omega), e43]
    rw [x43', w32_id (by omega) (by omega)]
    have gE : ∀ b t, b < 320 → b ≠ 100 → ¬ (b = 91 ∧ (t = 0 ∨ t = 2 ∨ (6 ≤ t ∧ t ≤ 8) ∨ (38 ≤ t ∧ t ≤ 43))) → ¬ (93 ≤ b ∧ b ≤ 98 ∧ t < 6) → C27 b t = E6 b t := fun b t h1 h2 h3 h4 => by rw [c27, wr_ne (by omega), g1 b t h1 h2 (by omega) h4]
    refine hq C33 n' y4 (fun b t h1 h2 h3 => ?_) ?_ (fun t ht => ?_)
    · by_cases ea : b = 91 ∧ t = 2
      · rw [ea.1, ea.2, c33, wr_same]
      · rw [c33, wr_ne ea]
        by_cases eb : b = 91 ∧ t = 0
        · rw [eb.1, eb.2, b2, gE _ _ (by omega) (by omega) (by omega) (by omega), x34]
        · by_cases ec : 93 ≤ b ∧ b ≤ 98 ∧ t < 6
          · obtain ⟨r, rfl⟩ : ∃ r, b = 93 + r := ⟨b - 93, by omega⟩
            rw [b3 r (by omega) t (by omega), gE _ _ (by omega) (by omega) (by omega) (by omega), xr r (by omega) t (by omega)]
          · rw [b1 b t ec eb, gE b t h1 (by omega) (by omega) ec, o6 b t (by omega) (by omega)]
    · rw [c33, wr_ne (by omega), b1 _ _ (by omega) (by omega), c27, wr_same]
    · rw [c33, wr_ne (by omega), b1 _ _ (by omega) (by omega), c27, wr_ne (by omega), g3 t ht]
  unfold B_G_text_25
  simp only [gS hn', Int.reduceToNat, true_and]
  rw [← hS] at y6
  rcases y6 with ⟨jJ, rF, rgF⟩ | ⟨ej, ⟨f, fL, e43, bl, hq⟩ | ⟨z, k2, k26, rF, rgF, z4, z5, z6⟩⟩
  · -- another item
    have cj := c6 j (by omega)
    have k3 : F 91 41 = ((tkK T L (Z j) : Nat) : Int) := rgF.2.2.1.2.2.1
    refine ⟨fun w => absurd w (by rw [rgF.2.2.2]; decide), fun _ => ⟨fun _ => ⟨by omega, by omega, ?_⟩, fun w => absurd (by rw [k3, cj.2.2.1]; rfl) w⟩⟩
    refine g_passes hn' rgF (fun F2 fr2 rg2 => ⟨by omega, by omega, ?_⟩)
    have kk6 := (c5 (j + 1) (by omega)).1.2.1
    refine item (j + 1) (by omega) F2 n' _ hn' (rF.congr kk6 (fun b t hb => fr2 b t (by omega))) (by rw [cj.2.2.2]; exact rg2) (fun F3 fr3 s3 => ?_)
    rw [w32_n (by omega)]
    refine hKc _ ⟨j + 1, by omega, rfl, rfl, by dsimp only; omega, by dsimp only; omega, fun b t h1 h2 h3 h4 => ?_, s3⟩ (by dsimp only; omega)
    dsimp only
    rw [fr3 b t (by omega) h2 h3 h4, fr2 b t (by omega), y5 b t h1 h2 h3 h4]
  · -- a fault
    have fa : 0 ≤ F 91 43 := by rw [e43]; omega
    refine ⟨fun _ => ?_, fun w => absurd fa w⟩
    unfold J_G_text_54 J_G_text_67
    simp only [gS hn', Int.reduceToNat, true_and]
    refine ⟨by omega, by omega, g_must0 hn' fa ?_⟩
    exact back F f Q y5 fL e43 bl hq
  · have k3 : F 91 41 = ((tkK T L z : Nat) : Int) := rgF.2.2.1.2.2.1
    refine ⟨fun w => absurd w (by rw [rgF.2.2.2]; decide), fun _ => ⟨fun w => absurd w (by rw [k3]; omega), fun _ => ?_⟩⟩
    have bz := tk_b (T := T) rgF.1
    unfold J_G_text_54 J_G_text_67
    simp only [gS hn', Int.reduceToNat, true_and, k3]
    refine ⟨by omega, by omega, ?_⟩
    by_cases e0 : tkK T L z = 0
    · rw [if_pos (by omega)]
      refine g_must hn' rgF (fun _ C27 c27 => ?_) (fun w => absurd w (by decide))
      have e43 : C27 91 43 = -1 := by rw [c27, wr_ne (by omega), rgF.2.2.2]
      rw [e43]
      refine ⟨fun w => absurd w (by decide), fun _ => ?_⟩
      have hh := z5 e0 C27 n' y4 (fun b t h1 h2 h3 h4 => by rw [c27, wr_ne (by omega), y5 b t h1 (by omega) (by omega) h4, o6 b t (by omega) (by omega)]) (by rw [c27, wr_same]) (rF.congr k26 (fun b t hb => by rw [c27, wr_ne (by omega)]))
      rw [← ej] at hh
      exact hh
    · rw [if_neg (by omega)]
      refine g_must hn' rgF (fun w => absurd rfl w) (fun _ G fG e43 => ?_)
      exact back G (tkS T L z) Q (fun b t h1 h2 h3 h4 => by rw [fG b t (by omega), y5 b t h1 h2 h3 h4]) (by omega) e43 (fun t ht => by rw [fG _ _ (by omega), rF.2.2.2 t ht]) (z6 e0)
