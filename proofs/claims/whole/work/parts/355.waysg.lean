/-! my own: the reference's ways -/
def SG1 (C : Cn) (M : Mp) (tl : Nat → Nat) : Prop := ∀ f g, f < nF M → g < nF M → (f = g → C (240 + f) g = 0) ∧ (f ≠ g → C (240 + f) g = 1000000 ∨ ∃ w, ed M tl f g w ∧ w ≤ 36 ∧ C (240 + f) g = ((w : Nat) : Int)) ∧ C (240 + f) g = C (240 + g) f
def nf1 (C : Cn) (f g : Nat) : Prop := f = g ∨ C (240 + f) g ≠ 1000000
theorem g_mayGo {n : Nat} {C : Cn} {f g w : Nat} {M : Mp} {tl : Nat → Nat} {Q : Int → Cn → Prop} (hn : 320 ≤ n) (ok : okM M) (hf : f < nF M) (hg : g < nF M) (sg : SG1 C M tl) (he : ed M tl f g w) (hw : w ≤ 36)
    (h : ∀ C2 : Cn, (∀ b t, ¬ (240 ≤ b ∧ b ≤ 259) → C2 b t = C b t) → SG1 C2 M tl → nf1 C2 f g → (∀ a b, nf1 C a b → nf1 C2 a b) → Q 0 C2) : P_G_mayGo n C 91 (f : Int) (g : Int) (w : Int) Q := by
  have f19 := ok.f19
  have rf := gR239 hn (by omega : f < 20)
  have rg := gR239 hn (by omega : g < 20)
  unfold P_G_mayGo
  refine ⟨fun e => h C (fun _ _ _ => rfl) sg (Or.inl (by omega)) (fun _ _ x => x), fun e => ?_⟩
  have ne : f ≠ g := by omega
  have sfg := sg f g hf hg
  simp only [gS hn, rf, rg, Int.reduceToNat, Int.toNat_natCast, true_and]
  refine ⟨by omega, by omega, fun q C8 c8 => ⟨by omega, by omega, fun C12 c12 => ?_⟩, fun q => ?_⟩
  · have o : ∀ b t, ¬ (b = 240 + f ∧ t = g) → ¬ (b = 240 + g ∧ t = f) → C12 b t = C b t := fun b t h1 h2 => by rw [c12, wr_ne h2, c8, wr_ne h1]
    have v1 : C12 (240 + f) g = ((w : Nat) : Int) := by rw [c12, wr_ne (by omega), c8, wr_same]
    have v2 : C12 (240 + g) f = ((w : Nat) : Int) := by rw [c12, wr_same]
    have he2 : ed M tl g f w := ((ok.sye tl) f g w he).1
    refine h C12 (fun b t hb => o b t (by omega) (by omega)) (fun a b ha hb => ?_) (Or.inr (by rw [v1]; omega)) (fun a b x => ?_)
    · by_cases c1 : a = f ∧ b = g
      · obtain ⟨rfl, rfl⟩ := c1
        exact ⟨fun x => absurd x ne, fun _ => Or.inr ⟨w, he, hw, v1⟩, by rw [v1, v2]⟩
      · by_cases c2 : a = g ∧ b = f
        · obtain ⟨rfl, rfl⟩ := c2
          exact ⟨fun x => absurd x.symm ne, fun _ => Or.inr ⟨w, he2, hw, v2⟩, by rw [v1, v2]⟩
        · rw [o (240 + a) b (by omega) (by omega), o (240 + b) a (by omega) (by omega)]
          exact sg a b ha hb
    · rcases x with x | x
      · exact Or.inl x
      · refine Or.inr ?_
        by_cases c1 : 240 + a = 240 + f ∧ b = g
        · rw [c1.1, c1.2, v1]
          omega
        · by_cases c2 : 240 + a = 240 + g ∧ b = f
          · rw [c2.1, c2.2, v2]
            omega
          · rw [o _ _ c1 c2]
            exact x
  · refine h C (fun _ _ _ => rfl) sg (Or.inr ?_) (fun _ _ x => x)
    rcases sfg.2.1 ne with x | ⟨w2, x1, x2, x3⟩
    · omega
    · omega
/-- the reference holds a map, and its segments have tolls -/
def gW (C : Cn) (m : Nat) (M : Mp) (tl : Nat → Nat) : Prop := gM C m M ∧ C 91 18 = ((nF M : Nat) : Int) ∧ (∀ j k, j ≤ mE M → k ≤ mH M j → C (121 + j) k = ((fo M j k : Nat) : Int)) ∧ ∀ i, i < m → tlF (C (93 + i) 0) (C (93 + i) 1) (C 91 2) = ((tl i : Nat) : Int) ∧ tl i ≤ 36
theorem gW.congr {C D : Cn} {m : Nat} {M : Mp} {tl : Nat → Nat} (ok : okM M) (m6 : m ≤ 6) (h : gW C m M tl) (g : ∀ b t, (b = 91 ∧ (t = 0 ∨ t = 2 ∨ t = 10 ∨ t = 18)) ∨ (93 ≤ b ∧ b ≤ 98) ∨ (101 ≤ b ∧ b ≤ 133) → D b t = C b t) : gW D m M tl := by
  have e12 := ok.e
  obtain ⟨a, b, c, d⟩ := h
  refine ⟨a.congr e12 (fun b t hb => g b t (by omega)), by rw [g _ _ (by omega)]; exact b, fun j k hj hk => by rw [g _ _ (by omega)]; exact c j k hj hk, fun i hi => ?_⟩
  rw [g _ _ (by omega), g _ _ (by omega), g _ _ (by omega)]
  exact d i hi
theorem g_steps1b {n : Nat} {C : Cn} {m j k : Nat} {M : Mp} {tl : Nat → Nat} {K0 K1 : Cn × Int → Prop} {Q : Int → Cn → Prop} (hn : 320 ≤ n) (ok : okM M) (m6 : m ≤ 6) (gw : gW C m M tl) (hj : j ≤ mE M) (hk : k ≤ mH M j) (sg : SG1 C M tl)
    (h : ∀ C2 : Cn, (∀ b t, ¬ (240 ≤ b ∧ b ≤ 259) → C2 b t = C b t) → SG1 C2 M tl → (∀ a b, nf1 C a b → nf1 C2 a b) → (0 < j → ∀ i, i ≤ mH M (j - 1) → (flo M j k = flo M (j - 1) i ∨ roo M j k = roo M (j - 1) i) → nf1 C2 (fo M j k) (fo M (j - 1) i)) → K1 (C2, w32 ((k : Int) + 1))) : ∃ f, lp (B_G_steps1_121 n 91 (j : Int) (k : Int) K0 K1 Q) f (C, 0) := by
  have e12 := ok.e
  have f19 := ok.f19
  have h6 := ok.h6 j
  refine lp_rule (fun (z : Cn × Int) => ∃ i : Nat, i ≤ 7 ∧ z.2 = (i : Int) ∧ (∀ b t, ¬ (240 ≤ b ∧ b ≤ 259) → z.1 b t = C b t) ∧ SG1 z.1 M tl ∧ (∀ a b, nf1 C a b → nf1 z.1 a b) ∧ (0 < j → i ≤ mH M (j - 1) + 1 ∧ ∀ t, t < i → (flo M j k = flo M (j - 1) t ∨ roo M j k = roo M (j - 1) t) → nf1 z.1 (fo M j k) (fo M (j - 1) t))) (fun z => (10 - z.2).toNat) ?_ (C, 0) ⟨0, by omega, rfl, fun _ _ _ => rfl, sg, fun _ _ x => x, fun _ => ⟨by omega, fun t ht => absurd ht (Nat.not_lt_zero t)⟩⟩
  rintro ⟨D, v3⟩ ⟨i, z0, z1, z2, z3, z4, z5⟩ K hK
  dsimp only at z1 z2 z3 z4 z5
  subst z1
  unfold B_G_steps1_121 J_G_steps1_200
  refine ⟨fun q => h D z2 z3 z4 (fun q2 => by omega), fun q => ?_⟩
  obtain ⟨a, rfl⟩ : ∃ a, j = a + 1 := ⟨j - 1, by omega⟩
  rw [Nat.add_sub_cancel] at z5
  obtain ⟨z5, z6⟩ := z5 (by omega)
  have gwD : gW D m M tl := gw.congr ok m6 (fun b t hb => z2 b t (by omega))
  have w1 : w32 (((a + 1 : Nat) : Int) - 1) = (a : Int) := by
    rw [w32_s (by omega)]
    omega
  have h6a := ok.h6 a
  have sra := gwD.1.2.2.2 a (by omega)
  have srj := gwD.1.2.2.2 (a + 1) hj
  simp only [gS hn, Int.reduceToNat, true_and, w1, Int.toNat_natCast, sra.2]
  refine ⟨by omega, fun q2 => ?_, fun q2 => ?_⟩
  · clear w1
    refine h D z2 z3 z4 (fun _ t ht => z6 t ?_)
    rw [Nat.add_sub_cancel] at ht
    omega
  · have hi : i ≤ mH M a := by
      clear w1
      omega
    have nxt : ∀ D2 : Cn, (∀ b t, ¬ (240 ≤ b ∧ b ≤ 259) → D2 b t = D b t) → SG1 D2 M tl → (∀ a b, nf1 D a b → nf1 D2 a b) → ((flo M (a + 1) k = flo M a i ∨ roo M (a + 1) k = roo M a i) → nf1 D2 (fo M (a + 1) k) (fo M a i)) → K (D2, w32 ((i : Int) + 1)) := by
      intro D2 e1 e2 e3 e4
      clear w1
      rw [w32_n (by omega)]
      refine hK _ ⟨i + 1, by omega, rfl, fun b t hb => by dsimp only; rw [e1 b t hb, z2 b t hb], e2, fun a b x => e3 a b (z4 a b x), fun _ => ⟨by rw [Nat.add_sub_cancel]; omega, fun t ht hs => ?_⟩⟩ (by dsimp only; omega)
      rw [Nat.add_sub_cancel] at hs ⊢
      by_cases e : t = i
      · rw [e] at hs ⊢
        exact e4 hs
      · exact e3 _ _ (z6 t (by omega) hs)
    have go : (flo M (a + 1) k = flo M a i ∨ roo M (a + 1) k = roo M a i) → J_G_steps1_171 n D 91 ((a + 1 : Nat) : Int) (k : Int) (i : Int) K0 K1 K Q := by
      intro hs
      have rj := gR120 hn (by clear w1; omega : a + 1 < 13)
      have ra := gR120 hn (by clear w1; omega : a < 13)
      unfold J_G_steps1_171
      simp only [gS hn, Int.reduceToNat, true_and, w1, Int.toNat_natCast, rj, ra]
      clear w1
      rw [gwD.2.2.1 (a + 1) k hj hk, gwD.2.2.1 a i (by omega) hi]
      refine ⟨by omega, by omega, by omega, by omega, ?_⟩
      refine g_mayGo (w := 0) hn ok (fo_nF hj hk) (fo_nF (by omega) hi) z3 (Or.inr ⟨⟨a, i, k, by omega, hi, hk, hs, Or.inr ⟨rfl, rfl⟩⟩, rfl⟩) (by omega) (fun C2 c1 c2 c3 c4 => nxt C2 c1 c2 c4 (fun _ => c3))
    refine g_floorAt hn (by clear w1; omega) ok srj hk (g_floorAt hn (by clear w1; omega) ok sra hi ⟨fun e => go (Or.inl e), fun e => g_roofAt hn (by clear w1; omega) ok srj hk (g_roofAt hn (by clear w1; omega) ok sra hi ⟨fun e2 => go (Or.inr e2), fun e2 => nxt D (fun _ _ _ => rfl) z3 (fun _ _ x => x) (fun x => absurd x (fun y => y.elim e e2))⟩)⟩)
theorem g_steps1 {n : Nat} {C : Cn} {m : Nat} {M : Mp} {tl : Nat → Nat} {Q : Int → Cn → Prop} (hn : 320 ≤ n) (ok : okM M) (mm' : mm M = m) (gw : gW C m M tl)
    (h : ∀ C2 : Cn, (∀ b t, ¬ (240 ≤ b ∧ b ≤ 259) → C2 b t = C b t) → SG1 C2 M tl → (∀ f g w, ed M tl f g w → nf1 C2 f g) → Q 0 C2) : P_G_steps1 n C 91 Q := by
  have e12 := ok.e
  have f19 := ok.f19
  have m6 : m ≤ 6 := by
    have := ok.m
    omega
  -- the second half
  have half : ∀ C1 : Cn, (∀ b t, ¬ (240 ≤ b ∧ b ≤ 259) → C1 b t = C b t) → SG1 C1 M tl → ∃ f, lp (B_G_steps1_54 n 91 Q) f (C1, 0) := by
    intro C1 c1 c2
    refine lp_rule (fun (z : Cn × Int) => ∃ j : Nat, j ≤ mE M + 1 ∧ z.2 = (j : Int) ∧ (∀ b t, ¬ (240 ≤ b ∧ b ≤ 259) → z.1 b t = C b t) ∧ SG1 z.1 M tl ∧ (∀ a t, bf M a t j 0 → (0 < t → nf1 z.1 (fo M a (t - 1)) (fo M a t)) ∧ (0 < a → ∀ i, i ≤ mH M (a - 1) → (flo M a t = flo M (a - 1) i ∨ roo M a t = roo M (a - 1) i) → nf1 z.1 (fo M a t) (fo M (a - 1) i)))) (fun z => (20 - z.2).toNat) ?_ (C1, 0) ⟨0, by omega, rfl, c1, c2, fun a t hb => by have := hb.2; omega⟩
    rintro ⟨D, v1⟩ ⟨j, z0, z1, z2, z3, z4⟩ K hK
    dsimp only at z1 z2 z3 z4
    subst z1
    have gwD : gW D m M tl := gw.congr ok m6 (fun b t hb => z2 b t (by omega))
    unfold B_G_steps1_54
    simp only [gS hn, Int.reduceToNat, true_and, gwD.1.2.1]
    refine ⟨fun q => ?_, fun q => ?_⟩
    · have ej : j = mE M + 1 := by omega
      subst ej
      refine h D z2 z3 (fun f g w he => ?_)
      have sy := ok.sye tl f g w he
      have sym : ∀ f g, f < nF M → g < nF M → nf1 D f g → nf1 D g f := fun f g hf hg x => x.imp Eq.symm (fun y => by rw [(z3 g f hg hf).2.2]; exact y)
      rcases he with ⟨s, ⟨a, t, x1, x2, x3, x4⟩, -⟩ | ⟨⟨a, t, i, x1, x2, x3, x4, x5⟩, -⟩
      · have y := (z4 a (t + 1) ⟨by omega, Or.inl (by omega)⟩).1 (by omega)
        rw [Nat.add_sub_cancel] at y
        rcases x4 with ⟨rfl, rfl⟩ | ⟨rfl, rfl⟩
        · exact y
        · exact sym _ _ sy.2.2 sy.2.1 y
      · have y := (z4 (a + 1) i ⟨x3, Or.inl (by omega)⟩).2 (by omega) t (by rw [Nat.add_sub_cancel]; exact x2) (by rw [Nat.add_sub_cancel]; exact x4)
        rw [Nat.add_sub_cancel] at y
        rcases x5 with ⟨rfl, rfl⟩ | ⟨rfl, rfl⟩
        · exact sym _ _ sy.2.2 sy.2.1 y
        · exact y
    · have hj : j ≤ mE M := by omega
      have h6 := ok.h6 j
      refine lp_rule (fun (z : Cn × Int) => ∃ k : Nat, k ≤ mH M j + 1 ∧ z.2 = (k : Int) ∧ (∀ b t, ¬ (240 ≤ b ∧ b ≤ 259) → z.1 b t = C b t) ∧ SG1 z.1 M tl ∧ (∀ a t, bf M a t j k → (0 < t → nf1 z.1 (fo M a (t - 1)) (fo M a t)) ∧ (0 < a → ∀ i, i ≤ mH M (a - 1) → (flo M a t = flo M (a - 1) i ∨ roo M a t = roo M (a - 1) i) → nf1 z.1 (fo M a t) (fo M (a - 1) i)))) (fun z => (20 - z.2).toNat) ?_ (D, 0) ⟨0, by omega, rfl, z2, z3, z4⟩
      rintro ⟨D2, v2⟩ ⟨k, y0, y1, y2, y3, y4⟩ K2 hK2
      dsimp only at y1 y2 y3 y4
      subst y1
      have gwD2 : gW D2 m M tl := gw.congr ok m6 (fun b t hb => y2 b t (by omega))
      have srj := gwD2.1.2.2.2 j hj
      have rj := gR120 hn (by omega : j < 13)
      have rl := gR106 hn (by omega : j < 13)
      unfold B_G_steps1_64
      simp only [gS hn, Int.reduceToNat, true_and, Int.toNat_natCast, srj.2, rj, rl]
      refine ⟨by omega, fun q2 => ?_, fun q2 => ?_⟩
      · have ek : k = mH M j + 1 := by omega
        subst ek
        rw [w32_n (by omega)]
        exact hK _ ⟨j + 1, by omega, rfl, y2, y3, fun a t hb => y4 a t (bf_e.mp hb)⟩ (by dsimp only; omega)
      · have hk : k ≤ mH M j := by omega
        -- the way to the strip ahead
        have rest : ∀ D3 : Cn, (∀ b t, ¬ (240 ≤ b ∧ b ≤ 259) → D3 b t = D2 b t) → SG1 D3 M tl → (∀ a b, nf1 D2 a b → nf1 D3 a b) → (0 < k → nf1 D3 (fo M j (k - 1)) (fo M j k)) → ∃ f, lp (B_G_steps1_121 n 91 (j : Int) (k : Int) K K2 Q) f (D3, 0) := by
          intro D3 e1 e2 e3 e4
          refine g_steps1b hn ok m6 (gwD2.congr ok m6 (fun b t hb => e1 b t (by omega))) hj hk e2 (fun C2 x1 x2 x3 x4 => ?_)
          rw [w32_n (by omega)]
          refine hK2 _ ⟨k + 1, by omega, rfl, fun b t hb => by dsimp only; rw [x1 b t hb, e1 b t hb, y2 b t hb], x2, fun a t hb => ?_⟩ (by dsimp only; omega)
          rcases bf_s hb with hb2 | ⟨rfl, rfl⟩
          · have o := y4 a t hb2
            exact ⟨fun q => x3 _ _ (e3 _ _ (o.1 q)), fun q i hi hs => x3 _ _ (e3 _ _ (o.2 q i hi hs))⟩
          · exact ⟨fun q => x3 _ _ (e4 q), x4⟩
        refine ⟨fun q3 => rest D2 (fun _ _ _ => rfl) y3 (fun _ _ x => x) (fun q4 => by omega), fun q3 => ?_⟩
        have w1 : w32 ((k : Int) - 1) = ((k - 1 : Nat) : Int) := by
          rw [w32_s (by omega)]
          omega
        rw [w1]
        clear w1
        simp only [Int.toNat_natCast]
        rw [srj.1 (k - 1) (by omega), gwD2.2.2.1 j (k - 1) hj (by omega), gwD2.2.2.1 j k hj hk]
        have tk := ok.tin (j := j) (k := k - 1) (by omega)
        have rs := gR92 hn (by omega : mT M j (k - 1) < 6)
        simp only [Int.toNat_natCast, rs]
        have tlk := gwD2.2.2.2 (mT M j (k - 1)) (by omega)
        refine ⟨by omega, by omega, by omega, by omega, by omega, by omega, g_toll hn ⟨rs.2.1, by rw [Int.toNat_natCast, (lay92 _ (by omega)).1]⟩ ?_⟩
        rw [Int.toNat_natCast, tlk.1]
        have hk1 : k - 1 + 1 = k := by omega
        refine g_mayGo hn ok (fo_nF hj (by omega)) (fo_nF hj hk) y3 (Or.inl ⟨mT M j (k - 1), ⟨j, k - 1, hj, by omega, rfl, Or.inl ⟨rfl, by rw [hk1]⟩⟩, rfl⟩) tlk.2 (fun C2 x1 x2 x3 x4 => rest C2 x1 x2 x4 (fun _ => x3))
  -- the first half
  refine lp_rule (fun (z : Cn × Int) => ∃ f : Nat, f ≤ nF M ∧ z.2 = (f : Int) ∧ (∀ b t, ¬ (240 ≤ b ∧ b ≤ 259) → z.1 b t = C b t) ∧ (∀ a b, a < f → b < nF M → z.1 (240 + a) b = if a = b then 0 else 1000000)) (fun z => (30 - z.2).toNat) ?_ (C, 0) ⟨0, by omega, rfl, fun _ _ _ => rfl, fun a b ha => absurd ha (Nat.not_lt_zero a)⟩
  rintro ⟨D, v1⟩ ⟨f, z0, z1, z2, z3⟩ K hK
  dsimp only at z1 z2 z3
  subst z1
  have n18 : ∀ D : Cn, (∀ b t, ¬ (240 ≤ b ∧ b ≤ 259) → D b t = C b t) → D 91 18 = ((nF M : Nat) : Int) := fun D hD => by rw [hD _ _ (by omega), gw.2.1]
  unfold B_G_steps1_2
  simp only [gS hn, Int.reduceToNat, true_and, n18 D z2]
  refine ⟨fun q => half D z2 (fun a b ha hb => ?_), fun q => ?_⟩
  · rw [z3 a b (by omega) hb, z3 b a (by omega) ha]
    refine ⟨fun e => if_pos e, fun e => Or.inl (if_neg e), ?_⟩
    by_cases e : a = b
    · rw [if_pos e, if_pos e.symm]
    · rw [if_neg e, if_neg (fun x => e x.symm)]
  · have rf := gR239 hn (by omega : f < 20)
    refine lp_rule (fun (z : Cn × Int) => ∃ g : Nat, g ≤ nF M ∧ z.2 = (g : Int) ∧ (∀ b t, ¬ (240 ≤ b ∧ b ≤ 259) → z.1 b t = C b t) ∧ (∀ a b, a < f → b < nF M → z.1 (240 + a) b = if a = b then 0 else 1000000) ∧ (∀ b, b < g → z.1 (240 + f) b = if f = b then 0 else 1000000)) (fun z => (30 - z.2).toNat) ?_ (D, 0) ⟨0, by omega, rfl, z2, z3, fun b hb => absurd hb (Nat.not_lt_zero b)⟩
    rintro ⟨D2, v2⟩ ⟨g, y0, y1, y2, y3, y4⟩ K2 hK2
    dsimp only at y1 y2 y3 y4
    subst y1
    unfold B_G_steps1_12
    simp only [gS hn, Int.reduceToNat, true_and, Int.toNat_natCast, n18 D2 y2, rf]
    have nxt : ∀ (C2 : Cn) (v : Int), v = (if f = g then 0 else 1000000) → g < nF M → C2 = wr D2 (240 + f) g v → K2 (C2, w32 ((g : Int) + 1)) := by
      intro C2 v hv hg c2
      rw [w32_n (by omega)]
      refine hK2 _ ⟨g + 1, by omega, rfl, fun b t hb => by dsimp only; rw [c2, wr_ne (by omega), y2 b t hb], fun a b ha hb => by dsimp only; rw [c2, wr_ne (by omega)]; exact y3 a b ha hb, fun b hb => ?_⟩ (by dsimp only; omega)
      dsimp only
      rw [c2]
      by_cases e : b = g
      · rw [e, wr_same, hv]
      · rw [wr_ne (fun q => e q.2)]
        exact y4 b (by omega)
    refine ⟨fun q2 => ?_, fun q2 => ⟨by omega, fun e => ⟨by omega, fun C78 c78 => nxt C78 0 ?_ (by omega) c78⟩, fun e => ⟨by omega, fun C75 c75 => nxt C75 1000000 ?_ (by omega) c75⟩⟩⟩
    · rw [w32_n (by omega)]
      refine hK _ ⟨f + 1, by omega, rfl, y2, fun a b ha hb => ?_⟩ (by dsimp only; omega)
      by_cases e : a = f
      · rw [e]
        exact y4 b (by omega)
      · exact y3 a b (by omega) hb
    · rw [if_pos (by omega)]
    · rw [if_neg (by omega)]
/-- after the places below t have been gone over -/
def FW (A : Nat → Nat → Int) (M : Mp) (tl : Nat → Nat) (t : Nat) : Prop := ∀ f g, f < nF M → g < nF M → (f = g → A f g = 0) ∧ 0 ≤ A f g ∧ A f g ≤ 1000000 ∧ aD (ed M tl) (nF M) f g (A f g) ∧ ∀ l c, wk (ed M tl) t l f g c → A f g ≤ (c : Int)
theorem FW.step {A B : Nat → Nat → Int} {M : Mp} {tl : Nat → Nat} {t : Nat} (ht : t < nF M) (h : FW A M tl t) (hb : ∀ f g, f < nF M → g < nF M → B f g = imin (A f g) (A f t + A t g)) : FW B M tl (t + 1) := by
  intro f g hf hg
  have fg := h f g hf hg
  have ft := h f t hf ht
  have tg := h t g ht hg
  rw [hb f g hf hg]
  have e1 : imin (A f g) (A f t + A t g) ≤ A f g := by
    unfold imin
    split <;> omega
  have e2 : imin (A f g) (A f t + A t g) ≤ A f t + A t g := by
    unfold imin
    split <;> omega
  have e3 : 0 ≤ imin (A f g) (A f t + A t g) := by
    unfold imin
    split <;> omega
  refine ⟨fun e => by have := fg.1 e; omega, e3, by omega, ?_, fun l c x => ?_⟩
  · by_cases q : A f t + A t g < A f g
    · have e4 : imin (A f g) (A f t + A t g) = A f t + A t g := if_pos q
      rw [e4]
      rcases ft.2.2.2.1 with a | ⟨c1, l1, a1, a2⟩
      · omega
      · rcases tg.2.2.2.1 with b | ⟨c2, l2, b1, b2⟩
        · omega
        · obtain ⟨l, y⟩ := wk_trans l1 f t c1 a2 ht l2 g c2 b2
          exact Or.inr ⟨c1 + c2, l, by omega, y⟩
    · have e4 : imin (A f g) (A f t + A t g) = A f g := if_neg q
      rw [e4]
      exact fg.2.2.2.1
  · rcases wk_split l f g c x with ⟨l', y⟩ | ⟨l1, l2, c1, c2, y1, y2, y3⟩
    · have := fg.2.2.2.2 l' c y
      omega
    · have := ft.2.2.2.2 l1 c1 y1
      have := tg.2.2.2.2 l2 c2 y2
      omega
theorem wk_mono {e : Nat → Nat → Nat → Prop} {n : Nat} (s : sye e n) : ∀ l f g c, wk e n l f g c → ∀ t, n ≤ t → wk e t l f g c := by
  intro l
  induction l with
  | zero => intro f g c x t _; exact x
  | succ l ih =>
    intro f g c x t ht
    rcases x with x | ⟨h', w, c', x1, x2, x3⟩
    · exact Or.inl x
    · refine Or.inr ⟨h', w, c', x1, x2, x3.imp id (fun y => ⟨by have := (s f h' w x1).2.2; omega, ih h' g c' y.2 t ht⟩)⟩
theorem g_costs {n : Nat} {C : Cn} {m : Nat} {M : Mp} {tl : Nat → Nat} {Q : Int → Cn → Prop} (hn : 320 ≤ n) (ok : okM M) (mm' : mm M = m) (gw : gW C m M tl)
    (h : ∀ C2 : Cn, (∀ b t, ¬ (240 ≤ b ∧ b ≤ 280) → C2 b t = C b t) → (∀ f g, f < nF M → g < nF M → ∃ d : Nat, C2 (240 + f) g = (d : Int) ∧ d ≤ 432 ∧ isD (ed M tl) (nF M) f g d) → (∀ f g, f < nF M → g < nF M → f ≠ g → (∃ w, ed M tl f g w ∧ w ≤ 36 ∧ C2 (261 + f) g = ((w : Nat) : Int)) ∨ ((∀ w, ¬ ed M tl f g w) ∧ C2 (261 + f) g = 1000000)) → Q 0 C2) :
    P_G_steps1 n C 91 (fun (_ : Int) (C_6 : Cn) => ∃ f_42 : Nat, lp (B_G_costs_10 n 91 Q) f_42 (C_6, 0)) := by
  have e12 := ok.e
  have f19 := ok.f19
  have m6 : m ≤ 6 := by
    have := ok.m
    omega
  have sy := ok.sye tl
  refine g_steps1 hn ok mm' gw (fun C6 a1 a2 a3 => ?_)
  have n18 : ∀ D : Cn, (∀ b t, ¬ (240 ≤ b ∧ b ≤ 280) → D b t = C b t) → D 91 18 = ((nF M : Nat) : Int) := fun D hD => by rw [hD _ _ (by omega), gw.2.1]
  have st1 : ∀ f g, f < nF M → g < nF M → f ≠ g → (∃ w, ed M tl f g w ∧ w ≤ 36 ∧ C6 (240 + f) g = ((w : Nat) : Int)) ∨ ((∀ w, ¬ ed M tl f g w) ∧ C6 (240 + f) g = 1000000) := by
    intro f g hf hg ne
    rcases (a2 f g hf hg).2.1 ne with x | ⟨w, x⟩
    · refine Or.inr ⟨fun w hw => ?_, x⟩
      rcases a3 f g w hw with y | y
      · exact ne y
      · exact y x
    · exact Or.inl ⟨w, x⟩
  have fw0 : FW (fun f g => C6 (240 + f) g) M tl 0 := by
    intro f g hf hg
    have s := a2 f g hf hg
    by_cases e : f = g
    · have s1 := s.1 e
      dsimp only
      exact ⟨fun _ => s1, by omega, by omega, Or.inr ⟨0, 0, s1, e, rfl⟩, fun l c x => by omega⟩
    · refine ⟨fun x => absurd x e, ?_⟩
      rcases st1 f g hf hg e with ⟨w, w1, w2, w3⟩ | ⟨w1, w2⟩
      · dsimp only
        rw [w3]
        refine ⟨by omega, by omega, Or.inr ⟨w, 1, rfl, wk_one w1⟩, fun l c x => ?_⟩
        cases l with
        | zero => exact absurd x.1 e
        | succ l =>
          rcases x with x | ⟨h', w', c', x1, x2, x3⟩
          · exact absurd x.1 e
          · rcases x3 with ⟨rfl, rfl⟩ | ⟨x3, _⟩
            · have := ok.ed1 w1 x1
              omega
            · exact absurd x3 (Nat.not_lt_zero _)
      · dsimp only
        rw [w2]
        refine ⟨by omega, by omega, Or.inl rfl, fun l c x => ?_⟩
        cases l with
        | zero => exact absurd x.1 e
        | succ l =>
          rcases x with x | ⟨h', w', c', x1, x2, x3⟩
          · exact absurd x.1 e
          · rcases x3 with ⟨rfl, rfl⟩ | ⟨x3, _⟩
            · exact absurd x1 (w1 w')
            · exact absurd x3 (Nat.not_lt_zero _)
  -- the last loops
  have last : ∀ C7 : Cn, (∀ b t, ¬ (240 ≤ b ∧ b ≤ 280) → C7 b t = C b t) → FW (fun f g => C7 (240 + f) g) M tl 0 → (∀ f g, f < nF M → g < nF M → f ≠ g → (∃ w, ed M tl f g w ∧ w ≤ 36 ∧ C7 (261 + f) g = ((w : Nat) : Int)) ∨ ((∀ w, ¬ ed M tl f g w) ∧ C7 (261 + f) g = 1000000)) → ∃ f, lp (B_G_costs_58 n 91 Q) f (C7, 0) := by
    intro C7 b1 b2 b3
    refine lp_rule (fun (z : Cn × Int) => ∃ t : Nat, t ≤ nF M ∧ z.2 = (t : Int) ∧ (∀ b u, ¬ (240 ≤ b ∧ b ≤ 259) → z.1 b u = C7 b u) ∧ FW (fun f g => z.1 (240 + f) g) M tl t) (fun z => (30 - z.2).toNat) ?_ (C7, 0) ⟨0, by omega, rfl, fun _ _ _ => rfl, b2⟩
    rintro ⟨D, v1⟩ ⟨t, z0, z1, z2, z3⟩ K hK
    dsimp only at z1 z2 z3
    subst z1
    have oD : ∀ b u, ¬ (240 ≤ b ∧ b ≤ 280) → D b u = C b u := fun b u hb => by rw [z2 b u (by omega), b1 b u hb]
    unfold B_G_costs_58
    simp only [gS hn, Int.reduceToNat, true_and, n18 D oD]
    refine ⟨fun q => ?_, fun q => ?_⟩
    · have et : t = nF M := by omega
      subst et
      refine h D oD (fun f g hf hg => ?_) (fun f g hf hg ne => by rw [z2 _ _ (by omega)]; exact b3 f g hf hg ne)
      have x := z3 f g hf hg
      exact ok.toD (fun s hs => (gw.2.2.2 s (by omega)).2) hf hg x.2.2.2.1 x.2.2.2.2
    · have ht : t < nF M := by omega
      have rt := gR239 hn (by omega : t < 20)
      -- the row f of the round t
      refine lp_rule (fun (z : Cn × Int) => ∃ f : Nat, f ≤ nF M ∧ z.2 = (f : Int) ∧ (∀ b u, ¬ (240 ≤ b ∧ b ≤ 259) → z.1 b u = C7 b u) ∧ (∀ a b, a < f → b < nF M → z.1 (240 + a) b = imin (D (240 + a) b) (D (240 + a) t + D (240 + t) b)) ∧ (∀ a b, f ≤ a → a < nF M → b < nF M → z.1 (240 + a) b = D (240 + a) b)) (fun z => (30 - z.2).toNat) ?_ (D, 0) ⟨0, by omega, rfl, z2, fun a b ha => absurd ha (Nat.not_lt_zero a), fun _ _ _ _ _ => rfl⟩
      rintro ⟨D2, v2⟩ ⟨f, y0, y1, y2, y3, y4⟩ K2 hK2
      dsimp only at y1 y2 y3 y4
      subst y1
      have oD2 : ∀ b u, ¬ (240 ≤ b ∧ b ≤ 280) → D2 b u = C b u := fun b u hb => by rw [y2 b u (by omega), b1 b u hb]
      unfold B_G_costs_68
      simp only [gS hn, Int.reduceToNat, true_and, n18 D2 oD2]
      refine ⟨fun q2 => ?_, fun q2 => ?_⟩
      · have ef : f = nF M := by omega
        subst ef
        rw [w32_n (by omega)]
        exact hK _ ⟨t + 1, by omega, rfl, y2, z3.step ht (fun a b ha hb => y3 a b ha hb)⟩ (by dsimp only; omega)
      · have hf : f < nF M := by omega
        have rf := gR239 hn (by omega : f < 20)
        have tt := (z3 t t ht ht).1 rfl
        dsimp only at tt
        refine lp_rule (fun (z : Cn × Int) => ∃ g : Nat, g ≤ nF M ∧ z.2 = (g : Int) ∧ (∀ b u, ¬ (240 ≤ b ∧ b ≤ 259) → z.1 b u = C7 b u) ∧ (∀ a b, a < f → b < nF M → z.1 (240 + a) b = imin (D (240 + a) b) (D (240 + a) t + D (240 + t) b)) ∧ (∀ b, b < g → z.1 (240 + f) b = imin (D (240 + f) b) (D (240 + f) t + D (240 + t) b)) ∧ (∀ b, g ≤ b → b < nF M → z.1 (240 + f) b = D (240 + f) b) ∧ (∀ a b, f < a → a < nF M → b < nF M → z.1 (240 + a) b = D (240 + a) b)) (fun z => (30 - z.2).toNat) ?_ (D2, 0) ⟨0, by omega, rfl, y2, y3, fun b hb => absurd hb (Nat.not_lt_zero b), fun b _ hb => y4 f b (Nat.le_refl _) hf hb, fun a b ha hb hc => y4 a b (by omega) hb hc⟩
        rintro ⟨D3, v3⟩ ⟨g, x0, x1, x2, x3, x4, x5, x6⟩ K3 hK3
        dsimp only at x1 x2 x3 x4 x5 x6
        subst x1
        have oD3 : ∀ b u, ¬ (240 ≤ b ∧ b ≤ 280) → D3 b u = C b u := fun b u hb => by rw [x2 b u (by omega), b1 b u hb]
        unfold B_G_costs_78
        simp only [gS hn, Int.reduceToNat, true_and, Int.toNat_natCast, n18 D3 oD3, rt, rf]
        refine ⟨fun q3 => ?_, fun q3 => ⟨by omega, by omega, by omega, by omega, by omega, fun C26 c26 => ?_⟩⟩
        · have eg : g = nF M := by omega
          subst eg
          rw [w32_n (by omega)]
          refine hK2 _ ⟨f + 1, by omega, rfl, x2, fun a b ha hb => ?_, fun a b ha hb hc => x6 a b (by omega) hb hc⟩ (by dsimp only; omega)
          by_cases e : a = f
          · rw [e]
            exact x4 b hb
          · exact x3 a b (by omega) hb
        · have hg : g < nF M := by omega
          have ft := z3 f t hf ht
          have tg := z3 t g ht hg
          dsimp only at ft tg
          -- what is read there is what stood there at first
          have r1 : D3 (240 + f) t = D (240 + f) t := by
            by_cases e : t < g
            · rw [x4 t e, tt]
              unfold imin
              rw [if_neg (by omega)]
            · exact x5 t (by omega) ht
          have r2 : D3 (240 + t) g = D (240 + t) g := by
            rcases Nat.lt_trichotomy t f with e | e | e
            · rw [x3 t g e hg, tt]
              unfold imin
              rw [if_neg (by omega)]
            · rw [e]
              exact x5 g (Nat.le_refl _) hg
            · exact x6 t g e ht hg
          rw [r1, r2, x5 g (Nat.le_refl _) hg, w32_id (by omega) (by omega)] at c26
          rw [w32_n (by omega)]
          refine hK3 _ ⟨g + 1, by omega, rfl, fun b u hb => ?_, fun a b ha hb => ?_, fun b hb => ?_, fun b hb hc => ?_, fun a b ha hb hc => ?_⟩ (by dsimp only; omega)
          · dsimp only
            rw [c26, wr_ne (by omega), x2 b u hb]
          · dsimp only
            rw [c26, wr_ne (by omega)]
            exact x3 a b ha hb
          · dsimp only
            rw [c26]
            by_cases e : b = g
            · rw [e, wr_same]
            · rw [wr_ne (fun q => e q.2)]
              exact x4 b (by omega)
          · dsimp only
            rw [c26, wr_ne (by omega)]
            exact x5 b (by omega) hc
          · dsimp only
            rw [c26, wr_ne (by omega)]
            exact x6 a b ha hb hc
  -- the steps are put aside
  refine lp_rule (fun (z : Cn × Int) => ∃ f : Nat, f ≤ nF M ∧ z.2 = (f : Int) ∧ (∀ b u, ¬ (261 ≤ b ∧ b ≤ 280) → z.1 b u = C6 b u) ∧ (∀ a b, a < f → b < nF M → z.1 (261 + a) b = C6 (240 + a) b)) (fun z => (30 - z.2).toNat) ?_ (C6, 0) ⟨0, by omega, rfl, fun _ _ _ => rfl, fun a b ha => absurd ha (Nat.not_lt_zero a)⟩
  rintro ⟨D, v1⟩ ⟨f, z0, z1, z2, z3⟩ K hK
  dsimp only at z1 z2 z3
  subst z1
  have oD : ∀ b u, ¬ (240 ≤ b ∧ b ≤ 280) → D b u = C b u := fun b u hb => by rw [z2 b u (by omega), a1 b u (by omega)]
  unfold B_G_costs_10
  simp only [gS hn, Int.reduceToNat, true_and, n18 D oD]
  refine ⟨fun q => last D oD ?_ (fun a b ha hb ne => ?_), fun q => ?_⟩
  · intro a b ha hb
    have x := fw0 a b ha hb
    dsimp only at x ⊢
    rw [z2 (240 + a) b (by omega)]
    exact x
  · rw [z3 a b (by omega) hb]
    exact st1 a b ha hb ne
  · have hf : f < nF M := by omega
    have rf := gR239 hn (by omega : f < 20)
    have sf := gR260 hn (by omega : f < 20)
    refine lp_rule (fun (z : Cn × Int) => ∃ g : Nat, g ≤ nF M ∧ z.2 = (g : Int) ∧ (∀ b u, ¬ (261 ≤ b ∧ b ≤ 280) → z.1 b u = C6 b u) ∧ (∀ a b, a < f → b < nF M → z.1 (261 + a) b = C6 (240 + a) b) ∧ (∀ b, b < g → z.1 (261 + f) b = C6 (240 + f) b)) (fun z => (30 - z.2).toNat) ?_ (D, 0) ⟨0, by omega, rfl, z2, z3, fun b hb => absurd hb (Nat.not_lt_zero b)⟩
    rintro ⟨D2, v2⟩ ⟨g, y0, y1, y2, y3, y4⟩ K2 hK2
    dsimp only at y1 y2 y3 y4
    subst y1
    have oD2 : ∀ b u, ¬ (240 ≤ b ∧ b ≤ 280) → D2 b u = C b u := fun b u hb => by rw [y2 b u (by omega), a1 b u (by omega)]
    unfold B_G_costs_20
    simp only [gS hn, Int.reduceToNat, true_and, Int.toNat_natCast, n18 D2 oD2, rf, sf]
    refine ⟨fun q2 => ?_, fun q2 => ⟨by omega, by omega, by omega, by omega, fun C40 c40 => ?_⟩⟩
    · have eg : g = nF M := by omega
      subst eg
      rw [w32_n (by omega)]
      refine hK _ ⟨f + 1, by omega, rfl, y2, fun a b ha hb => ?_⟩ (by dsimp only; omega)
      by_cases e : a = f
      · rw [e]
        exact y4 b hb
      · exact y3 a b (by omega) hb
    · rw [y2 (240 + f) g (by omega)] at c40
      rw [w32_n (by omega)]
      refine hK2 _ ⟨g + 1, by omega, rfl, fun b u hb => ?_, fun a b ha hb => ?_, fun b hb => ?_⟩ (by dsimp only; omega)
      · dsimp only
        rw [c40, wr_ne (by omega), y2 b u hb]
      · dsimp only
        rw [c40, wr_ne (by omega)]
        exact y3 a b ha hb
      · dsimp only
        rw [c40]
        by_cases e : b = g
        · rw [e, wr_same]
        · rw [wr_ne (fun q => e q.2)]
          exact y4 b (by omega)
