/-! my own: text -/
theorem I9.congr2 {C D : Cn} (h : I9 C) (g : ∀ b t, (b = 1 ∧ t = 15) ∨ (10 ≤ b ∧ b ≤ 17) ∨ (b = 91 ∧ 50 ≤ t) ∨ (314 ≤ b ∧ b ≤ 319) → D b t = C b t) : I9 D := by
  unfold I9 at *
  rw [g 1 15 (by omega), g 91 50 (by omega)]
  rcases h with h | ⟨h1, h2, m, a, b, c, d, e, f, k1, k2, k3, k4, k5, k6⟩
  · exact Or.inl h
  · have et : tb D 12 m = tb C 12 m := tb_congr (fun i hi f => g _ _ (by omega))
    refine Or.inr ⟨h1, h2, m, a, by rw [g _ _ (by omega)]; exact b, by rw [g _ _ (by omega)]; exact c, fun i hi f hf => ?_, fun i hi => ?_, by rw [et]; exact f, ?_⟩
    · rw [g _ _ (by omega), g _ _ (by omega)]
      exact d i hi f hf
    · rw [g _ _ (by omega), g _ _ (by omega)]
      exact e i hi
    · rw [g 91 53 (by omega), g 10 2 (by omega), g 91 54 (by omega), g 10 3 (by omega), g 91 55 (by omega), g 10 4 (by omega)]
      exact ⟨k1, k2, k3, k4, k5, k6⟩
/-- an estate is good -/
def GD (D : Cn) (k : Nat) : Prop := D 2 1 = (k : Int) ∧ k ≤ 6 ∧ gd (tb D 4 k) k ∧ (∀ i, i < k → (0 ≤ D (4 + i) 0 ∧ D (4 + i) 0 < 6) ∧ (0 ≤ D (4 + i) 1 ∧ D (4 + i) 1 < 10)) ∧ (0 ≤ D 2 2 ∧ D 2 2 < 4)
theorem GD.congr {C D : Cn} {k : Nat} (h : GD C k) (g : ∀ b t, (b = 2 ∧ (t = 1 ∨ t = 2)) ∨ (4 ≤ b ∧ b ≤ 9 ∧ t < 6) → D b t = C b t) : GD D k := by
  obtain ⟨a, b, c, d, e⟩ := h
  refine ⟨by rw [g _ _ (by omega)]; exact a, b, c.sub (Nat.le_refl _) (fun i hi f h1 h2 => by rw [tb_lt hi, tb_lt hi, g _ _ (by omega)]), fun i hi => ?_, by rw [g _ _ (by omega)]; exact e⟩
  rw [g _ _ (by omega), g _ _ (by omega)]
  exact d i hi
theorem itmR.gd {T : Nat → Int} {L k p p2 : Nat} {C C2 : Cn} (h : itmR T L C k p C2 p2) (g : GD C k) : ∃ k2 : Nat, GD C2 k2 ∧ k ≤ k2 ∧ (∀ i, i < k → ∀ f, f < 6 → C2 (4 + i) f = C (4 + i) f) := by
  obtain ⟨a, b, c, d, e⟩ := g
  rcases h with ⟨-, -, x1, -, x2, x3, -⟩ | ⟨q, y, -, k6, -, -, kw, V, ns, al, x1, x2, x3, x4, -⟩
  · refine ⟨k, ⟨x1, b, c.sub (Nat.le_refl _) (fun i hi f h1 h2 => by rw [tb_lt hi, tb_lt hi, x3 i hi f (by omega)]), fun i hi => ?_, x2⟩, Nat.le_refl _, x3⟩
    rw [x3 i hi 0 (by omega), x3 i hi 1 (by omega)]
    exact d i hi
  · have l := ld_ok V.1 V.2 ns
    refine ⟨k + 1, ⟨x1, by omega, ?_, fun i hi => ?_, by rw [x2]; exact e⟩, by omega, x3⟩
    · have tl : ∀ f, f < 6 → tb C2 4 (k + 1) k f = tbW C k y k f := fun f h6 => by rw [tb_lt (by omega), x4 f h6]
      refine c.add k6 (fun i hi f h1 h2 => by rw [tb_lt (by omega), tb_lt hi, x3 i hi f (by omega)]) ?_ ?_ (fun i hi => ?_)
      · rw [tl 2 (by omega), tl 3 (by omega), tl 4 (by omega), tl 5 (by omega), tbW_w (by omega), tbW_w (by omega), tbW_w (by omega), tbW_w (by omega)]
        exact l.1
      · rw [tl 2 (by omega), tl 3 (by omega), tl 4 (by omega), tl 5 (by omega), tbW_w (by omega), tbW_w (by omega), tbW_w (by omega), tbW_w (by omega)]
        exact l.2
      · refine (cApK_tr (C := tbW C k y) (a := i) (b := k) (c := i) (d := k) (fun f h1 h2 => ?_) (fun f h1 h2 => tl f (by omega))).mpr (al i hi)
        rw [tb_lt (by omega), x3 i hi f (by omega), tbW_lt hi]
    · by_cases ei : i = k
      · rw [ei, x4 0 (by omega), x4 1 (by omega), tbW_0, tbW_1]
        exact kw
      · rw [x3 i (by omega) 0 (by omega), x3 i (by omega) 1 (by omega)]
        exact d i (by omega)
theorem itmR.congr {T : Nat → Int} {L k p p2 : Nat} {C C2 D2 : Cn} (h : itmR T L C k p C2 p2) (g : ∀ b t, (b = 2 ∧ (t = 1 ∨ t = 2)) ∨ (4 ≤ b ∧ b ≤ 9 ∧ t < 6) ∨ (b = 71 ∧ t < 3) → D2 b t = C2 b t) (k6 : k ≤ 6) : itmR T L C k p D2 p2 := by
  rcases h with ⟨a1, a2, x1, x0, x2, x3, x5⟩ | ⟨q, y, a1, a2, a3, a4, kw, V, ns, al, x1, x2, x3, x4, x5⟩
  · exact Or.inl ⟨a1, a2, by rw [g _ _ (by omega)]; exact x1, by rw [g _ _ (by omega)]; exact x0, by rw [g _ _ (by omega)]; exact x2, fun i hi f hf => by rw [g _ _ (by omega)]; exact x3 i hi f hf, fun t ht => by rw [g _ _ (by omega)]; exact x5 t ht⟩
  · exact Or.inr ⟨q, y, a1, a2, a3, a4, kw, V, ns, al, by rw [g _ _ (by omega)]; exact x1, by rw [g _ _ (by omega)]; exact x2, fun i hi f hf => by rw [g _ _ (by omega)]; exact x3 i hi f hf, fun f hf => by rw [g _ _ (by omega)]; exact x4 f hf, fun t ht => by rw [g _ _ (by omega)]; exact x5 t ht⟩
/-- J items have been read, each with a semicolon behind it -/
def chn (T : Nat → Int) (L : Nat) (C : Cn) (m J : Nat) (H : Nat → Cn) (K P Z : Nat → Nat) : Prop := (∀ b t, (b = 2 ∧ (t = 1 ∨ t = 2)) ∨ (4 ≤ b ∧ b ≤ 9 ∧ t < 6) ∨ (b = 71 ∧ t < 3) → H 0 b t = C b t) ∧ K 0 = m ∧ P 0 = 0 ∧ J ≤ 60 ∧ (∀ i, i ≤ J → GD (H i) (K i) ∧ P i ≤ L ∧ 2 * i ≤ P i ∧ m ≤ K i ∧ ∀ j, j < m → ∀ f, f < 6 → H i (4 + j) f = C (4 + j) f) ∧ ∀ i, i < J → itmR T L (H i) (K i) (P i) (H (i + 1)) (Z i) ∧ Z i ≤ L ∧ tkK T L (Z i) = 3 ∧ P (i + 1) = tkE T L (Z i)
theorem f_items {n L m : Nat} {C : Cn} {T : Nat → Int} {Q : Int → Cn → Prop} (hf : 91 ≤ n) (tc : TC C T L) (g : GD C m)
    (hA : ∀ (J f : Nat) (H : Nat → Cn) (K P Z : Nat → Nat) (C2 : Cn), chn T L C m J H K P Z → f ≤ L → itmF T L (H J) (K J) (P J) f C2 → frI C C2 → (∀ j, j < m → ∀ f, f < 6 → C2 (4 + j) f = C (4 + j) f) → Q (-1 - (f : Int)) C2)
    (hB : ∀ (J z k2 : Nat) (H : Nat → Cn) (K P Z : Nat → Nat) (C2 : Cn), chn T L C m J H K P Z → z ≤ L → itmR T L (H J) (K J) (P J) C2 z → tkK T L z = 0 → GD C2 k2 → m ≤ k2 → frI C C2 → Q ((J + 1 : Nat) : Int) C2)
    (hC : ∀ (J z k2 : Nat) (H : Nat → Cn) (K P Z : Nat → Nat) (C2 : Cn), chn T L C m J H K P Z → z ≤ L → itmR T L (H J) (K J) (P J) C2 z → tkK T L z ≠ 0 → tkK T L z ≠ 3 → GD C2 k2 → m ≤ k2 → frI C C2 → (∀ j, j < m → ∀ f, f < 6 → C2 (4 + j) f = C (4 + j) f) → Q (-1 - ((tkS T L z : Nat) : Int)) C2) : P_Re_readItems n C 72 2 71 Q := by
  have L120 := tc.1
  have m6 := g.2.1
  unfold P_Re_readItems
  simp only [fS hf, Int.reduceToNat, true_and]
  intro C0 c0
  have o0 : ∀ b t, ¬ (b = 72 ∧ t = 4) → C0 b t = C b t := fun b t hb => by rw [c0, wr_ne hb]
  refine lp_rule (fun (z : Cn × Int) => ∃ (J : Nat) (H : Nat → Cn) (K P Z : Nat → Nat), chn T L C m J H K P Z ∧ z.2 = ((J + 1 : Nat) : Int) ∧ H J = z.1 ∧ z.1 72 4 = ((P J : Nat) : Int) ∧ frI C z.1) (fun z => (200 - z.2).toNat) ?_ (C0, 1) ⟨0, fun _ => C0, fun _ => m, fun _ => 0, fun _ => 0, ⟨fun b t hb => o0 b t (by omega), rfl, rfl, by omega, fun i hi => ⟨g.congr (fun b t hb => o0 b t (by omega)), Nat.zero_le _, by omega, Nat.le_refl _, fun j hj f hf => o0 _ _ (by omega)⟩, fun i hi => absurd hi (Nat.not_lt_zero i)⟩, rfl, rfl, by dsimp only; rw [c0, wr_same]; rfl, fun b t h1 _ _ _ _ _ => o0 b t (by omega)⟩
  rintro ⟨E, v3⟩ ⟨J, H, K, P, Z, ch, z1, z2, z3, z4⟩ Kc hKc
  dsimp only at z1 z2 z3 z4
  subst z1
  obtain ⟨ch1, ch2, ch3, ch4, ch5, ch6⟩ := ch
  obtain ⟨gJ, pL, pJ, mK, rJ⟩ := ch5 J (Nat.le_refl _)
  have ch : chn T L C m J H K P Z := ⟨ch1, ch2, ch3, ch4, ch5, ch6⟩
  have tE : TC E T L := tc.congr (fun b t hb => z4 b t (by omega) (by omega) (by omega) (by omega) (by omega) (by omega))
  unfold B_Re_readItems_7
  simp only [fS hf, Int.reduceToNat, true_and]
  refine ⟨fun q => by omega, fun q => ?_⟩
  refine f_step hf tE pL z3 (fun C1 f1 t1 => ?_)
  have g1 := frR.st f1
  have gC1 : GD C1 (K J) := by
    rw [← z2] at f1
    exact gJ.congr (fun b t hb => f1 b t (by omega))
  have frC1 : frI C C1 := fun b t h1 h2 h3 h4 h5 h6 => by rw [f1 b t (by omega), z4 b t h1 h2 h3 h4 h5 h6]
  -- an item's relation speaks of the estate before the step
  have EI : ∀ b t, (b = 2 ∧ (t = 1 ∨ t = 2)) ∨ (4 ≤ b ∧ b ≤ 9 ∧ t < 6) ∨ (b = 71 ∧ t < 3) → C1 b t = H J b t := fun b t hb => by rw [f1 b t (by omega), z2]
  have tW : ∀ y, ∀ i f, f < 6 → K J ≤ 6 → i ≤ K J → tbW C1 (K J) y i f = tbW (H J) (K J) y i f := fun y i f h6 k6 ik => by
    unfold tbW
    by_cases e : i < K J
    · rw [if_pos e, if_pos e, EI _ _ (by omega)]
    · rw [if_neg e, if_neg e]
  have apT : ∀ y (i : Nat), i < K J → (cApK (tbW C1 (K J) y) (i : Int) ((K J : Nat) : Int) ↔ cApK (tbW (H J) (K J) y) (i : Int) ((K J : Nat) : Int)) := fun y i hi => cApK_tr (fun f h1 h2 => tW y i f (by omega) gJ.2.1 (by omega)) (fun f h1 h2 => tW y _ f (by omega) gJ.2.1 (Nat.le_refl _))
  have toT : ∀ y (i : Nat), i < K J → (cTo (tbW C1 (K J) y) (i : Int) ((K J : Nat) : Int) ↔ cTo (tbW (H J) (K J) y) (i : Int) ((K J : Nat) : Int)) := fun y i hi => cTo_tr (fun f h1 h2 => tW y i f (by omega) gJ.2.1 (by omega)) (fun f h1 h2 => tW y _ f (by omega) gJ.2.1 (Nat.le_refl _))
  have k6 := gJ.2.1
  refine f_item hf (g1.tc tE) pL t1 gC1.2.1 gC1.1 gC1.2.2.1 (fun p2 C2 h1 h2 h3 h4 h5 => ⟨fun x => absurd x (by decide), fun _ => ?_⟩) (fun f C2 h1 h2 h3 h4 => ⟨fun _ => ?_, fun x => absurd rfl x⟩)
  · -- the item has been read
    have frC2 : frI C C2 := fun b t a1 a2 a3 a4 a5 a6 => by rw [h3 b t a1 a2 a3 a4 a5 a6, frC1 b t a1 a2 a3 a4 a5 a6]
    have h4' : itmR T L (H J) (K J) (P J) C2 p2 := by
      rcases h4 with ⟨a1, a2, x1, x0, x2, x3, x5⟩ | ⟨q, y, a1, a2, a3, a4, kw, V, ns, al, x1, x2, x3, x4, x5⟩
      · exact Or.inl ⟨a1, a2, x1, x0, x2, fun i hi f hf => by rw [x3 i hi f hf, EI _ _ (by omega)], fun t ht => by rw [x5 t ht, EI _ _ (by omega)]⟩
      · exact Or.inr ⟨q, y, a1, a2, a3, a4, kw, V, ns, fun i hi => (apT y i hi).mp (al i hi), x1, by rw [x2, EI _ _ (by omega)], fun i hi f hf => by rw [x3 i hi f hf, EI _ _ (by omega)], fun f hf => by rw [x4 f hf, tW y _ f hf k6 (Nat.le_refl _)], fun t ht => by rw [x5 t ht, EI _ _ (by omega)]⟩
    have tc2 : TC C2 T L := tc.congr (fun b t hb => frC2 b t (by omega) (by omega) (by omega) (by omega) (by omega) (by omega))
    refine f_step hf tc2 h1 h5 (fun C3 f3 t3 => ?_)
    have h6 : itmR T L (H J) (K J) (P J) C3 p2 := h4'.congr (fun b t hb => f3 b t (by omega)) k6
    obtain ⟨k2, gk2, mk2, rk2⟩ := h6.gd gJ
    have frC3 : frI C C3 := fun b t a1 a2 a3 a4 a5 a6 => by rw [f3 b t (by omega), frC2 b t a1 a2 a3 a4 a5 a6]
    have rows3 : ∀ j, j < m → ∀ f, f < 6 → C3 (4 + j) f = C (4 + j) f := fun j hj f hf => by rw [rk2 j (by omega) f hf, rJ j hj f hf]
    have b2 := tk_b (T := T) h1
    rw [t3.1, t3.2.1]
    refine ⟨fun e => ?_, fun e => ⟨fun e2 => ?_, fun e2 => ?_⟩⟩
    · exact hB J p2 k2 H K P Z C3 ch h1 h6 (by omega) gk2 (by omega) frC3
    · have e3 : tkK T L p2 = 3 := by omega
      have s3 := b2.2.2.2.1 (by omega)
      rw [w32_n (by omega)]
      have u1 : ∀ {α : Type} (F : Nat → α) (v : α) (i : Nat), i ≤ J → (fun j => if j = J + 1 then v else F j) i = F i := fun F v i hi => if_neg (by omega)
      refine hKc _ ⟨J + 1, fun j => if j = J + 1 then C3 else H j, fun j => if j = J + 1 then k2 else K j, fun j => if j = J + 1 then tkE T L p2 else P j, fun j => if j = J then p2 else Z j, ⟨?_, ?_, ?_, by omega, fun i hi => ?_, fun i hi => ?_⟩, rfl, if_pos rfl, ?_, frC3⟩ (by dsimp only; omega)
      · rw [u1 H C3 0 (by omega)]
        exact ch1
      · rw [u1 K k2 0 (by omega)]
        exact ch2
      · rw [u1 P (tkE T L p2) 0 (by omega)]
        exact ch3
      · by_cases ei : i = J + 1
        · rw [ei]
          dsimp only
          rw [if_pos rfl, if_pos rfl, if_pos rfl]
          exact ⟨gk2, b2.2.2.1, by omega, by omega, rows3⟩
        · rw [u1 H C3 i (by omega), u1 K k2 i (by omega), u1 P (tkE T L p2) i (by omega)]
          exact ch5 i (by omega)
      · rw [u1 H C3 i (by omega), u1 K k2 i (by omega), u1 P (tkE T L p2) i (by omega)]
        dsimp only
        by_cases ei : i = J
        · rw [ei, if_pos rfl, if_pos rfl, if_pos rfl]
          exact ⟨h6, h1, e3, rfl⟩
        · rw [if_neg (by omega), if_neg ei, if_neg (by omega)]
          exact ch6 i (by omega)
      · dsimp only
        rw [if_pos rfl, t3.2.2.1]
    · rw [w32_id (by omega) (by omega)]
      exact hC J p2 k2 H K P Z C3 ch h1 h6 (by omega) (by omega) gk2 (by omega) frC3 rows3
  · -- the item can't be read
    have frC2 : frI C C2 := fun b t a1 a2 a3 a4 a5 a6 => by rw [h2 b t a1 a2 a3 a4 a5 a6, frC1 b t a1 a2 a3 a4 a5 a6]
    rw [h4, w32_id (by omega) (by omega)]
    obtain ⟨r1, r2⟩ := h3
    have r1' : ∀ i, i < K J → ∀ f, f < 6 → C2 (4 + i) f = H J (4 + i) f := fun i hi f hf => by rw [r1 i hi f hf, EI _ _ (by omega)]
    refine hA J f H K P Z C2 ch h1 ⟨r1', ?_⟩ frC2 (fun j hj f hf => by rw [r1' j (by omega) f hf, rJ j hj f hf])
    rcases r2 with ⟨a1, a2, a3⟩ | ⟨q, y, a1, a2, a3, a4, kw, V, a5⟩
    · exact Or.inl ⟨a1, a2, fun t ht => by rw [a3 t ht, EI _ _ (by omega)]⟩
    · refine Or.inr ⟨q, y, a1, a2, a3, a4, kw, V, ?_⟩
      rcases a5 with ⟨s1, s2⟩ | ⟨s1, i, hi, na, al, x0, x1, x2⟩
      · exact Or.inl ⟨s1, fun t ht => by rw [s2 t ht, EI _ _ (by omega)]⟩
      · refine Or.inr ⟨s1, i, hi, fun w => na ((apT y i hi).mpr w), fun j hj => (apT y j (by omega)).mp (al j hj), ?_, x1, x2⟩
        rw [x0]
        by_cases w : cTo (tbW (H J) (K J) y) (i : Int) ((K J : Nat) : Int)
        · rw [if_pos ((toT y i hi).mpr w), if_pos w]
        · rw [if_neg (fun w2 => w ((toT y i hi).mp w2)), if_neg w]
