/-! my own: taking estates; image, back -/
theorem f_take {n a b : Nat} {C : Cn} {Q : Int → Cn → Prop} (oa : okO n (a : Int) 7) (ob : okO n (b : Int) 7) (hab : a ≠ b) (h : ∀ D : Cn, (∀ q t, ¬ (q = a ∧ t < 6) → D q t = C q t) → (∀ f, f < 6 → D a f = C b f) → Q 0 D) : P_Wa_take n C (a : Int) (b : Int) Q := by
  unfold P_Wa_take
  simp only [oa, ob, Int.toNat_natCast, true_and]
  intro C3 c3 C4 c4 C5 c5 C6 c6 C7 c7 C8 c8
  refine h C8 (fun q t hq => by rw [c8, wr_ne (by omega), c7, wr_ne (by omega), c6, wr_ne (by omega), c5, wr_ne (by omega), c4, wr_ne (by omega), c3, wr_ne (by omega)]) (fun f hf => ?_)
  have e : f = 0 ∨ f = 1 ∨ f = 2 ∨ f = 3 ∨ f = 4 ∨ f = 5 := by omega
  rcases e with e | e | e | e | e | e <;> subst e
  · rw [c8, wr_ne (by omega), c7, wr_ne (by omega), c6, wr_ne (by omega), c5, wr_ne (by omega), c4, wr_ne (by omega), c3, wr_same]
  · rw [c8, wr_ne (by omega), c7, wr_ne (by omega), c6, wr_ne (by omega), c5, wr_ne (by omega), c4, wr_same, c3, wr_ne (by omega)]
  · rw [c8, wr_ne (by omega), c7, wr_ne (by omega), c6, wr_ne (by omega), c5, wr_same, c4, wr_ne (by omega), c3, wr_ne (by omega)]
  · rw [c8, wr_ne (by omega), c7, wr_ne (by omega), c6, wr_same, c5, wr_ne (by omega), c4, wr_ne (by omega), c3, wr_ne (by omega)]
  · rw [c8, wr_ne (by omega), c7, wr_same, c6, wr_ne (by omega), c5, wr_ne (by omega), c4, wr_ne (by omega), c3, wr_ne (by omega)]
  · rw [c8, wr_same, c7, wr_ne (by omega), c6, wr_ne (by omega), c5, wr_ne (by omega), c4, wr_ne (by omega), c3, wr_ne (by omega)]
theorem f_add {n e b p : Nat} {C : Cn} {Q : Int → Cn → Prop} (hn : 91 ≤ n) (he : e = 2 ∨ e = 10 ∨ e = 18) (hp : p < 6) (h0 : C e 1 = p) (ob : okO n (b : Int) 7) (hb : b ≠ e + 2 + p) (hbe : b ≠ e) (h : ∀ D : Cn, (∀ q t, ¬ (q = e + 2 + p ∧ t < 6) → ¬ (q = e ∧ t = 1) → D q t = C q t) → D e 1 = ((p + 1 : Nat) : Int) → (∀ f, f < 6 → D (e + 2 + p) f = C b f) → Q 0 D) : P_Es_add n C (e : Int) (b : Int) Q := by
  have r := ES hn he
  have w := EW hn he hp
  unfold P_Es_add
  simp only [r, Int.toNat_natCast, true_and, h0, w]
  refine ⟨fun q => absurd q (by omega), fun _ => ⟨by omega, ?_⟩⟩
  refine f_take w.2 ob (fun q => hb q.symm) (fun D d1 d2 => ?_)
  intro C10 c10
  have e1 : D e 1 = (p : Int) := by rw [d1 _ _ (by omega), h0]
  rw [e1, w32_n (by omega)] at c10
  exact h C10 (fun q t h1 h2 => by rw [c10, wr_ne h2, d1 q t h1]) (by rw [c10, wr_same]) (fun f hf => by rw [c10, wr_ne (by omega), d2 f hf])
/-- where a row comes from, s left out -/
def srcW (s : Int) (r : Nat) : Nat := if 0 ≤ s ∧ s ≤ (r : Int) then r + 1 else r
def lenW (s : Int) (k : Nat) : Nat := if 0 ≤ s ∧ s < (k : Int) then k - 1 else k
theorem f_takeWithout {n a b m : Nat} {C : Cn} {s : Int} {Q : Int → Cn → Prop} (hn : 91 ≤ n) (ha : a = 2 ∨ a = 10 ∨ a = 18) (hb : b = 2 ∨ b = 10 ∨ b = 18) (hab : a ≠ b) (m6 : m ≤ 6) (h0 : C b 1 = m)
    (h : ∀ D : Cn, (∀ q t, ¬ (a + 2 ≤ q ∧ q ≤ a + 7 ∧ t < 6) → ¬ (q = a ∧ 1 ≤ t ∧ t ≤ 4) → D q t = C q t) → D a 1 = ((lenW s m : Nat) : Int) → D a 2 = C b 2 → D a 3 = C b 3 → D a 4 = C b 4 → (∀ r, r < lenW s m → ∀ f, f < 6 → D (a + 2 + r) f = C (b + 2 + srcW s r) f) → Q 0 D) : P_Es_takeWithout n C (a : Int) (b : Int) s Q := by
  have ra := ES hn ha
  have rb := ES hn hb
  unfold P_Es_takeWithout
  simp only [ra, Int.toNat_natCast, true_and]
  intro C2 c2
  refine lp_rule (fun (z : Cn × Int) => ∃ k : Nat, k ≤ m ∧ z.2 = (k : Int) ∧ (∀ q t, ¬ (a + 2 ≤ q ∧ q ≤ a + 7 ∧ t < 6) → ¬ (q = a ∧ t = 1) → z.1 q t = C q t) ∧ z.1 a 1 = ((lenW s k : Nat) : Int) ∧ ∀ r, r < lenW s k → ∀ f, f < 6 → z.1 (a + 2 + r) f = C (b + 2 + srcW s r) f) (fun z => (20 - z.2).toNat) ?_ (C2, 0) ⟨0, by omega, rfl, fun q t h1 h2 => by dsimp only; rw [c2, wr_ne h2], ?_, fun r hr => ?_⟩
  · rintro ⟨D, v3⟩ ⟨k, z0, z1, z2, z3, z4⟩ K hK
    dsimp only at z1 z2 z3 z4
    subst z1
    have d0 : D b 1 = (m : Int) := by rw [z2 _ _ (by omega) (by omega), h0]
    unfold B_Es_takeWithout_7 J_Es_takeWithout_36
    simp only [ra, rb, Int.toNat_natCast, true_and, d0]
    refine ⟨fun q => ?_, fun q => ⟨fun e => ?_, fun e => ⟨by omega, ?_⟩⟩⟩
    · have ek : k = m := by omega
      subst ek
      intro C7 c7 C8 c8 C9 c9
      refine h C9 (fun q t h1 h2 => by rw [c9, wr_ne (by omega), c8, wr_ne (by omega), c7, wr_ne (by omega), z2 q t h1 (by omega)]) (by rw [c9, wr_ne (by omega), c8, wr_ne (by omega), c7, wr_ne (by omega), z3]) ?_ ?_ ?_ (fun r hr f hf => by rw [c9, wr_ne (by omega), c8, wr_ne (by omega), c7, wr_ne (by omega), z4 r hr f hf])
      · rw [c9, wr_ne (by omega), c8, wr_ne (by omega), c7, wr_same, z2 _ _ (by omega) (by omega)]
      · rw [c9, wr_ne (by omega), c8, wr_same, c7, wr_ne (by omega), z2 _ _ (by omega) (by omega)]
      · rw [c9, wr_same, c8, wr_ne (by omega), c7, wr_ne (by omega), z2 _ _ (by omega) (by omega)]
    · rw [w32_n (by omega)]
      have el : lenW s (k + 1) = lenW s k := by
        unfold lenW
        rw [if_pos (by omega), if_neg (by omega)]
        omega
      refine hK _ ⟨k + 1, by omega, rfl, z2, ?_, ?_⟩ (by dsimp only; omega)
      · rw [el]
        exact z3
      · rw [el]
        exact z4
    · have wk := EW hn hb (by omega : k < 6)
      have el : lenW s (k + 1) = lenW s k + 1 ∧ srcW s (lenW s k) = k ∧ lenW s k ≤ k := by
        unfold lenW srcW
        by_cases e2 : 0 ≤ s ∧ s < (k : Int)
        · rw [if_pos e2, if_pos (by omega), if_pos (by omega)]
          omega
        · rw [if_neg e2, if_neg (by omega), if_neg (by omega)]
          omega
      simp only [wk]
      refine f_add hn ha (by omega) z3 wk.2 (by omega) (by omega) (fun D2 d1 d2 d3 => ?_)
      rw [w32_n (by omega)]
      refine hK _ ⟨k + 1, by omega, rfl, fun q t h1 h2 => ?_, ?_, fun r hr f hf => ?_⟩ (by dsimp only; omega)
      · dsimp only
        rw [d1 q t (by omega) h2, z2 q t h1 h2]
      · dsimp only
        rw [d2, el.1]
      · dsimp only
        by_cases er : r = lenW s k
        · rw [er, d3 f hf, el.2.1, z2 _ _ (by omega) (by omega)]
        · rw [d1 _ _ (by omega) (by omega), z4 r (by omega) f hf]
  · dsimp only
    rw [c2, wr_same]
    unfold lenW
    rw [if_neg (by omega)]
    rfl
  · exfalso
    revert hr
    unfold lenW
    rw [if_neg (by omega)]
    omega
theorem f_takeAll {n a b m : Nat} {C : Cn} {Q : Int → Cn → Prop} (hn : 91 ≤ n) (ha : a = 2 ∨ a = 10 ∨ a = 18) (hb : b = 2 ∨ b = 10 ∨ b = 18) (hab : a ≠ b) (m6 : m ≤ 6) (h0 : C b 1 = m)
    (h : ∀ D : Cn, (∀ q t, ¬ (a + 2 ≤ q ∧ q ≤ a + 7 ∧ t < 6) → ¬ (q = a ∧ 1 ≤ t ∧ t ≤ 4) → D q t = C q t) → D a 1 = (m : Int) → D a 2 = C b 2 → D a 3 = C b 3 → D a 4 = C b 4 → (∀ r, r < m → ∀ f, f < 6 → D (a + 2 + r) f = C (b + 2 + r) f) → Q 0 D) : P_Es_takeAll n C (a : Int) (b : Int) Q := by
  unfold P_Es_takeAll
  simp only [ES hn ha, true_and]
  have e1 : ∀ k, lenW (-1) k = k := fun k => if_neg (by omega)
  have e2 : ∀ k, srcW (-1) k = k := fun k => if_neg (by omega)
  refine f_takeWithout hn ha hb hab m6 h0 (fun D d1 d2 d3 d4 d5 d6 => ?_)
  rw [e1] at d2 d6
  exact h D d1 d2 d3 d4 d5 (fun r hr f hf => by rw [d6 r hr f hf, e2])
theorem g_copies {n a b : Nat} {C : Cn} {Q : Int → Cn → Prop} (oa : okO n (a : Int) 12 ∧ (∀ v : Int, okI (a : Int) v ↔ (0 ≤ v ∧ v < 6))) (ob : okO n (b : Int) 12 ∧ (∀ v : Int, okI (b : Int) v ↔ (0 ≤ v ∧ v < 6))) (hab : a ≠ b) (h : ∀ D : Cn, (∀ q t, ¬ (q = b ∧ t < 6) → D q t = C q t) → (∀ f, f < 6 → D b f = C a f) → Q 0 D) : P_G_copies n C (a : Int) (b : Int) Q := by
  unfold P_G_copies
  refine lp_rule (fun (z : Cn × Int) => ∃ k : Nat, k ≤ 6 ∧ z.2 = (k : Int) ∧ (∀ q t, ¬ (q = b ∧ t < 6) → z.1 q t = C q t) ∧ ∀ f, f < k → z.1 b f = C a f) (fun z => (20 - z.2).toNat) ?_ (C, 0) ⟨0, by omega, rfl, fun _ _ _ => rfl, fun f hf => absurd hf (Nat.not_lt_zero f)⟩
  rintro ⟨D, v3⟩ ⟨k, z0, z1, z2, z3⟩ K hK
  dsimp only at z1 z2 z3
  subst z1
  unfold B_G_copies_2
  simp only [oa, ob, Int.toNat_natCast, true_and]
  refine ⟨fun q => h D z2 (fun f hf => z3 f (by omega)), fun q => ⟨by omega, by omega, fun C6 c6 => ?_⟩⟩
  rw [w32_n (by omega)]
  refine hK _ ⟨k + 1, by omega, rfl, fun q t hq => ?_, fun f hf => ?_⟩ (by dsimp only; omega)
  · dsimp only
    rw [c6, wr_ne (by omega), z2 q t hq]
  · dsimp only
    by_cases e : f = k
    · rw [e, c6, wr_same, z2 _ _ (by omega)]
    · rw [c6, wr_ne (by omega), z3 f (by omega)]
theorem c_image {n : Nat} {C : Cn} (hn : 320 ≤ n) (inv : Inv C) : P_F_image n C 1 (fun r C1 => P_G_image n C1 91 (fun r2 C2 => r = r2 ∧ Inv C2)) := by
  have hf : 91 ≤ n := by omega
  have inv' := inv
  obtain ⟨m, i1, i2, -⟩ := inv'
  obtain ⟨m6, m1, m2, m3, m4, m5, m7⟩ := i1
  unfold P_F_image
  simp only [fS hf, Int.reduceToNat, true_and]
  refine f_takeAll (a := 10) (b := 2) hf (Or.inr (Or.inl rfl)) (Or.inl rfl) (by decide) m6 m1 (fun D d1 d2 d3 d4 d5 d6 => ?_)
  intro C7 c7
  have o7 : ∀ q t, ¬ (10 ≤ q ∧ q ≤ 17) → ¬ (q = 1 ∧ t = 15) → C7 q t = C q t := fun q t h1 h2 => by rw [c7, wr_ne h2, d1 q t (by omega) (by omega)]
  have r7 : ∀ q t, (10 ≤ q ∧ q ≤ 17) → C7 q t = D q t := fun q t h1 => by rw [c7, wr_ne (by omega)]
  unfold P_G_image
  simp only [gS hn, Int.reduceToNat, true_and]
  intro E2 e2 E3 e3
  refine lp_rule (fun (z : Cn × Int) => ∃ k : Nat, k ≤ 6 ∧ z.2 = (k : Int) ∧ (∀ q t, ¬ (314 ≤ q ∧ q ≤ 319) → z.1 q t = E3 q t) ∧ ∀ i, i < k → ∀ f, f < 6 → z.1 (314 + i) f = E3 (93 + i) f) (fun z => (20 - z.2).toNat) ?_ (E3, 0) ⟨0, by omega, rfl, fun _ _ _ => rfl, fun i hi => absurd hi (Nat.not_lt_zero i)⟩
  rintro ⟨F, v3⟩ ⟨k, z0, z1, z2, z3⟩ K hK
  dsimp only at z1 z2 z3
  subst z1
  unfold B_G_image_15 J_G_image_42
  simp only [gS hn, Int.reduceToNat, Int.toNat_natCast, true_and]
  refine ⟨fun q => ?_, fun q => ⟨by omega, by omega, ?_⟩⟩
  · intro F6 f6 F7 f7 F8 f8
    have g8 : ∀ q t, ¬ (314 ≤ q ∧ q ≤ 319) → ¬ (q = 91 ∧ 50 ≤ t) → F8 q t = C7 q t := fun q t h1 h2 => by rw [f8, wr_ne (by omega), f7, wr_ne (by omega), f6, wr_ne (by omega), z2 q t h1, e3, wr_ne (by omega), e2, wr_ne (by omega)]
    have x50 : F8 91 50 = 1 := by rw [f8, wr_ne (by omega), f7, wr_ne (by omega), f6, wr_ne (by omega), z2 _ _ (by omega), e3, wr_ne (by omega), e2, wr_same]
    have x51 : F8 91 51 = (m : Int) := by rw [f8, wr_ne (by omega), f7, wr_ne (by omega), f6, wr_ne (by omega), z2 _ _ (by omega), e3, wr_same, e2, wr_ne (by omega), o7 _ _ (by omega) (by omega), m2]
    have x53 : F8 91 53 = C 91 2 := by rw [f8, wr_ne (by omega), f7, wr_ne (by omega), f6, wr_same, z2 _ _ (by omega), e3, wr_ne (by omega), e2, wr_ne (by omega), o7 _ _ (by omega) (by omega)]
    have x54 : F8 91 54 = C 91 3 := by rw [f8, wr_ne (by omega), f7, wr_same, f6, wr_ne (by omega), z2 _ _ (by omega), e3, wr_ne (by omega), e2, wr_ne (by omega), o7 _ _ (by omega) (by omega)]
    have x55 : F8 91 55 = C 91 4 := by rw [f8, wr_same, f7, wr_ne (by omega), f6, wr_ne (by omega), z2 _ _ (by omega), e3, wr_ne (by omega), e2, wr_ne (by omega), o7 _ _ (by omega) (by omega)]
    have xr : ∀ i, i < m → ∀ f, f < 6 → F8 (12 + i) f = C (4 + i) f := fun i hi f hf => by
      rw [g8 _ _ (by omega) (by omega), r7 _ _ (by omega)]
      exact d6 i hi f hf
    have xg : ∀ i, i < m → ∀ f, f < 6 → F8 (314 + i) f = C (4 + i) f := fun i hi f hf => by
      rw [f8, wr_ne (by omega), f7, wr_ne (by omega), f6, wr_ne (by omega), z3 i (by omega) f hf, e3, wr_ne (by omega), e2, wr_ne (by omega), o7 _ _ (by omega) (by omega), m3 i hi f]
    refine inv.up9 (fun b t hb hb2 => by rw [g8 b t (by omega) (by omega), o7 b t (by omega) (by omega)]) (Or.inr ⟨by rw [g8 _ _ (by omega) (by omega), c7, wr_same], x50, m, m6, ?_, x51, fun i hi f hf => by rw [xg i hi f hf, xr i hi f hf], fun i hi => ?_, ?_, ?_⟩)
    · rw [g8 _ _ (by omega) (by omega), r7 _ _ (by omega), d2]
    · rw [xr i hi 0 (by omega), xr i hi 1 (by omega)]
      exact m4 i hi
    · exact m5.sub (Nat.le_refl _) (fun i hi f h1 h2 => by rw [tb_lt hi, tb_lt hi]; exact xr i hi f (by omega))
    · have y2 : F8 10 2 = C 2 2 := by rw [g8 _ _ (by omega) (by omega), r7 _ _ (by omega), d3]
      have y3 : F8 10 3 = C 2 3 := by rw [g8 _ _ (by omega) (by omega), r7 _ _ (by omega), d4]
      have y4 : F8 10 4 = C 2 4 := by rw [g8 _ _ (by omega) (by omega), r7 _ _ (by omega), d5]
      rw [x53, x54, x55, y2, y3, y4]
      exact i2
  · have ga := gR92 hn (by omega : k < 6)
    have gb := gR313 hn (by omega : k < 6)
    rw [ga.1, gb.1]
    refine g_copies ga.2 gb.2 (by omega) (fun F2 h1 h2 => ?_)
    rw [w32_n (by omega)]
    refine hK _ ⟨k + 1, by omega, rfl, fun q t hq => ?_, fun i hi f hf => ?_⟩ (by dsimp only; omega)
    · dsimp only
      rw [h1 q t (by omega), z2 q t hq]
    · dsimp only
      by_cases e : i = k
      · rw [e, h2 f hf, z2 _ _ (by omega)]
      · rw [h1 _ _ (by omega), z3 i (by omega) f hf]
