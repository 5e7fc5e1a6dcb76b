/-! my own: what holds behind the constructors -/
theorem cf_pt : ∀ k, k < 91 → ∀ i, i < 20 → tyE (LAY k).1 i = 2 → CF k i = PT k i := by decide +kernel
theorem pt_len : ∀ k, k < 320 → (PTL.getD k []).length ≤ 100 ∧ (k < 91 → (PTL.getD k []).length ≤ 20) := by decide +kernel
theorem pt_hi {k i : Nat} (h : (PTL.getD k []).length ≤ i) : PT k i = 0 := by
  unfold PT
  rw [List.getD_eq_getElem?_getD (l := PTL.getD k []), List.getElem?_eq_none h]
  rfl
theorem cf_hi {k i : Nat} (h : 20 ≤ i) : CF k i = 0 := by
  unfold CF shC CF8 CF7 CF6 CF5 CF4 CF3 seC CF2 laC CF1 esC Z0 wr
  repeat (first | rw [if_neg (by omega)] | dsimp only)
theorem cf_ptC : ptC CF 91 := by
  intro k i h1 _ h3
  by_cases e : i < 20
  · exact cf_pt k h1 i e h3
  · rw [cf_hi (by omega), pt_hi (by have := (pt_len k (by omega)).2 h1; omega)]
theorem cf_ge {b t : Nat} (h : 91 ≤ b) : CF b t = 0 := by
  unfold CF shC CF8 CF7 CF6 CF5 CF4 CF3 seC CF2 laC CF1 esC Z0 wr
  repeat (first | rw [if_neg (by omega)] | dsimp only)
theorem cf_row {b t : Nat} (h : (4 ≤ b ∧ b ≤ 9) ∨ (20 ≤ b ∧ b ≤ 25)) : CF b t = 0 := by
  unfold CF shC CF8 CF7 CF6 CF5 CF4 CF3 seC CF2 laC CF1 esC Z0 wr
  repeat (first | rw [if_neg (by omega)] | dsimp only)
theorem cg_lo {C : Cn} {b t : Nat} (h : b < 91) : CGf C b t = C b t := by
  unfold CGf wr mrow
  repeat (first | rw [if_neg (by omega)] | dsimp only)
theorem cg_z {C : Cn} {b t : Nat} (h : C b t = 0) : CGf C b t = CGf Z0 b t := by
  unfold CGf wr mrow Z0
  dsimp only
  rw [h]
theorem cg_hi {k i : Nat} (h : 100 ≤ i) : CGf Z0 k i = 0 := by
  unfold CGf wr mrow Z0
  repeat (first | rw [if_neg (by omega)] | dsimp only)
theorem cg_row {b t : Nat} (h : 93 ≤ b ∧ b ≤ 98) : CGf Z0 b t = 0 := by
  unfold CGf wr mrow Z0
  repeat (first | rw [if_neg (by omega)] | dsimp only)
theorem cg_pt : ∀ k, k < 229 → ∀ i, i < 100 → tyE (LAY (91 + k)).1 i = 2 → CGf Z0 (91 + k) i = PT (91 + k) i := by decide +kernel
theorem cg_ptC {C : Cn} (h1 : ptC C 91) (h2 : ∀ b t, 91 ≤ b → C b t = 0) : ptC (CGf C) 320 := by
  intro k i k1 k2 k3
  by_cases e : k < 91
  · rw [cg_lo e]
    exact h1 k i e k2 k3
  · obtain ⟨j, rfl⟩ : ∃ j, k = 91 + j := ⟨k - 91, by omega⟩
    rw [cg_z (h2 _ _ (by omega))]
    by_cases e2 : i < 100
    · exact cg_pt j (by omega) i e2 k3
    · rw [cg_hi (by omega), pt_hi (by have := (pt_len (91 + j) (by omega)).1; omega)]
theorem gd_0 (s : Cn) : gd s 0 := ⟨by omega, fun i hi => absurd hi (Nat.not_lt_zero i), fun i _ hi => absurd hi (Nat.not_lt_zero i)⟩
theorem i_F {Q : Int → Cn → Nat → Prop} (h : ∀ (C5 : Cn) (M : Mp), (∀ b t, ¬ (26 ≤ b ∧ b ≤ 41) → ¬ (60 ≤ b ∧ b ≤ 63) → ¬ (b = 58 ∧ t = 11) → C5 b t = CF b t) → LM C5 26 (tb C5 4 0) 0 M → ST C5 M → C5 58 11 = -1 → ptC C5 91 → Q 0 C5 91) : P_F_init 2 Z0 1 Q := by
  refine i_F0 ⟨cf_ptC, ?_⟩
  refine f_settle (m := 0) (Nat.le_refl _) (by decide +kernel) (gd_0 _) (fun C5 M f5 lm st x11 => fun hp => ?_)
  exact h C5 M f5 lm st x11 hp
theorem cf_v : (CF 2 1 = 0 ∧ CF 2 2 = 0 ∧ CF 2 3 = 0 ∧ CF 2 4 = 1) ∧ (CF 71 0 = 0 ∧ CF 71 1 = -1 ∧ CF 71 2 = 0) ∧ (CF 1 14 = 0 ∧ CF 1 15 = 0 ∧ CF 72 1 = 0) ∧ (∀ k, k < 8 → CF 82 k = 0) ∧ (∀ k, k < 10 → CF 79 k = 0 ∧ CF 80 k = 0) ∧ (∀ s, s < 4 → CF (83 + 2 * s) 0 = -1 ∧ CF (83 + 2 * s) 1 = 0 ∧ ∀ i, i < 40 → CF (84 + 2 * s) i = 0) ∧ (∀ t, t < 49 → CF 66 t = 0) := by decide +kernel
theorem cg_v : (CGf Z0 91 0 = 0 ∧ CGf Z0 91 2 = 0 ∧ CGf Z0 91 3 = 0 ∧ CGf Z0 91 4 = 1) ∧ (CGf Z0 91 6 = 0 ∧ CGf Z0 91 7 = -1 ∧ CGf Z0 91 8 = 0) ∧ (CGf Z0 91 35 = 0 ∧ CGf Z0 91 38 = 0 ∧ CGf Z0 91 50 = 0) ∧ (∀ k, k < 8 → CGf Z0 99 k = 0) ∧ (∀ k, k < 10 → CGf Z0 311 k = 0 ∧ CGf Z0 312 k = 0) ∧ (∀ s, s < 4 → CGf Z0 303 s = -1 ∧ CGf Z0 304 s = 0 ∧ ∀ i, i < 40 → CGf Z0 (306 + s) i = 0) := by decide +kernel
theorem i_inv {C : Cn} {M : Mp} (f5 : ∀ b t, ¬ (26 ≤ b ∧ b ≤ 41) → ¬ (60 ≤ b ∧ b ≤ 63) → ¬ (b = 58 ∧ t = 11) → C b t = CF b t) (lm : LM C 26 (tb C 4 0) 0 M) (st : ST C M) (x11 : C 58 11 = -1) : Inv (CGf C) := by
  obtain ⟨⟨a1, a2, a3, a4⟩, ⟨a5, a6, a7⟩, ⟨a8, a9, a10⟩, a11, a12, a13, a14⟩ := cf_v
  obtain ⟨⟨b1, b2, b3, b4⟩, ⟨b5, b6, b7⟩, ⟨b8, b9, b10⟩, b11, b12, b13⟩ := cg_v
  have lo : ∀ b t, b < 91 → ¬ (26 ≤ b ∧ b ≤ 41) → ¬ (60 ≤ b ∧ b ≤ 63) → ¬ (b = 58 ∧ t = 11) → CGf C b t = CF b t := fun b t h1 h2 h3 h4 => by rw [cg_lo h1, f5 b t h2 h3 h4]
  have hi : ∀ b t, 91 ≤ b → CGf C b t = CGf Z0 b t := fun b t h => cg_z (by rw [f5 b t (by omega) (by omega) (by omega), cf_ge h])
  have et : tb (CGf C) 4 0 = tb C 4 0 := tb_congr (fun i hi => absurd hi (Nat.not_lt_zero i))
  have n0 : ∀ {p : Prop} (i : Nat), i < 0 → p := fun i hi => absurd hi (Nat.not_lt_zero i)
  refine ⟨0, ⟨by omega, ?_, ?_, fun i hi => n0 i hi, fun i hi => n0 i hi, gd_0 _, fun b f h1 h2 => ?_⟩, ?_, fun k hk => ?_, ?_, ⟨0, by omega, ?_, ?_, fun k i hk => n0 k hk⟩, ⟨0, by omega, ?_, ?_, fun t ht => n0 t ht⟩, fun s hs => ?_, fun t ht => ?_, Or.inl ⟨?_, ?_⟩, ⟨M, ?_, st.congr (fun b t h1 h2 => cg_lo (by omega)), Or.inl ?_, fun t ht => ?_⟩⟩
  · rw [lo _ _ (by omega) (by omega) (by omega) (by omega), a1]
    rfl
  · rw [hi _ _ (by omega), b1]
    rfl
  · by_cases e : b < 91
    · rw [lo _ _ e (by omega) (by omega) (by omega), cf_row (by omega)]
    · rw [hi _ _ (by omega), cg_row (by omega)]
  · unfold I2
    rw [hi 91 2 (by omega), hi 91 3 (by omega), hi 91 4 (by omega), lo 2 2 (by omega) (by omega) (by omega) (by omega), lo 2 3 (by omega) (by omega) (by omega) (by omega), lo 2 4 (by omega) (by omega) (by omega) (by omega), a2, a3, a4, b2, b3, b4]
    exact ⟨rfl, by decide, rfl, ⟨by decide, by decide⟩, rfl, ⟨by decide, by decide⟩⟩
  · rw [hi _ _ (by omega), lo _ _ (by omega) (by omega) (by omega) (by omega), b11 k hk, a11 k hk]
    exact ⟨rfl, ⟨by decide, by decide⟩⟩
  · unfold I4
    rw [hi 91 6 (by omega), hi 91 7 (by omega), hi 91 8 (by omega), lo 71 0 (by omega) (by omega) (by omega) (by omega), lo 71 1 (by omega) (by omega) (by omega) (by omega), lo 71 2 (by omega) (by omega) (by omega) (by omega), a5, a6, a7, b5, b6, b7]
    exact ⟨rfl, rfl, rfl, Or.inl rfl⟩
  · rw [lo _ _ (by omega) (by omega) (by omega) (by omega), a8]
    rfl
  · rw [hi _ _ (by omega), b8]
    rfl
  · rw [lo _ _ (by omega) (by omega) (by omega) (by omega), a10]
    rfl
  · rw [hi _ _ (by omega), b9]
    rfl
  · rw [hi 303 s (by omega), hi 304 s (by omega), lo (83 + 2 * s) 0 (by omega) (by omega) (by omega) (by omega), lo (83 + 2 * s) 1 (by omega) (by omega) (by omega) (by omega), (a13 s hs).1, (a13 s hs).2.1, (b13 s hs).1, (b13 s hs).2.1]
    refine ⟨rfl, by decide, rfl, by decide, fun i hi2 => ?_⟩
    rw [hi (306 + s) i (by omega), lo (84 + 2 * s) i (by omega) (by omega) (by omega) (by omega), (a13 s hs).2.2 i hi2, (b13 s hs).2.2 i hi2]
  · rw [hi 312 t (by omega), hi 311 t (by omega), lo 80 t (by omega) (by omega) (by omega) (by omega), lo 79 t (by omega) (by omega) (by omega) (by omega), (a12 t ht).1, (a12 t ht).2, (b12 t ht).1, (b12 t ht).2]
    exact ⟨rfl, Or.inl ⟨rfl, rfl⟩⟩
  · rw [lo _ _ (by omega) (by omega) (by omega) (by omega), a9]
  · rw [hi _ _ (by omega), b10]
  · rw [et]
    exact lm.congr (fun b t h1 h2 => cg_lo (by omega))
  · rw [cg_lo (by omega), x11]
  · rw [lo _ _ (by omega) (by omega) (by omega) (by omega)]
    exact a14 t ht
