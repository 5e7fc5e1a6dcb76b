/-! my own: what holds between two calls -/
def r32 (x : Int) : Prop := -2147483648 ≤ x ∧ x ≤ 2147483647
def r64 (x : Int) : Prop := -9223372036854775808 ≤ x ∧ x ≤ 9223372036854775807
theorem r32_w (x : Int) : r32 (w32 x) := w32_in x
theorem r64_w (x : Int) : r64 (w64 x) := w64_in x
/-- the cells that the invariant speaks of -/
def IC (b t : Nat) : Prop := ¬ (100 ≤ b ∧ b ≤ 281) ∧ ¬ (b = 91 ∧ (t = 1 ∨ t = 5 ∨ (9 ≤ t ∧ t ≤ 34) ∨ t = 36 ∨ t = 37 ∨ (39 ≤ t ∧ t ≤ 49))) ∧ ¬ (b = 58 ∧ t ≠ 11) ∧ ¬ (b = 66 ∧ 49 ≤ t) ∧ ¬ (b = 72 ∧ t ≠ 1) ∧ ¬ (42 ≤ b ∧ b ≤ 57) ∧ b ≠ 59 ∧ b ≠ 64 ∧ b ≠ 65 ∧ ¬ (67 ≤ b ∧ b ≤ 70) ∧ ¬ (74 ≤ b ∧ b ≤ 78) ∧ b ≠ 18 ∧ b ≠ 19 ∧ ¬ (20 ≤ b ∧ b ≤ 25 ∧ t < 6) ∧ b ≠ 92 ∧ b ≠ 305 ∧ b ≠ 310 ∧ b ≠ 313
/-- segments -/
def I1 (C : Cn) (m : Nat) : Prop := m ≤ 6 ∧ C 2 1 = m ∧ C 91 0 = m ∧ (∀ i, i < m → ∀ f, C (93 + i) f = C (4 + i) f) ∧ (∀ i, i < m → (0 ≤ C (4 + i) 0 ∧ C (4 + i) 0 < 6) ∧ (0 ≤ C (4 + i) 1 ∧ C (4 + i) 1 < 10)) ∧ gd (tb C 4 m) m ∧
  (∀ b f, 6 ≤ f → (4 ≤ b ∧ b ≤ 9) ∨ (20 ≤ b ∧ b ≤ 25) ∨ (93 ≤ b ∧ b ≤ 98) → C b f = 0)
/-- tide, ledger, z -/
def I2 (C : Cn) : Prop := C 91 2 = C 2 2 ∧ (0 ≤ C 2 2 ∧ C 2 2 < 4) ∧ C 91 3 = C 2 3 ∧ r64 (C 2 3) ∧ C 91 4 = C 2 4 ∧ r32 (C 2 4)
/-- findings -/
def I3 (C : Cn) : Prop := ∀ k, k < 8 → C 99 k = C 82 k ∧ r32 (C 82 k)
/-- the blame -/
def I4 (C : Cn) : Prop := C 91 6 = C 71 0 ∧ C 91 7 = C 71 1 ∧ C 91 8 = C 71 2 ∧ (C 71 2 = 0 ∨ C 71 2 = 1)
/-- rows of fields -/
def I5 (C : Cn) : Prop := ∃ R : Nat, R ≤ 19 ∧ C 1 14 = R ∧ C 91 35 = R ∧ ∀ k i, k < R → i < 4 → C (282 + k) i = C 81 (4 * k + i)
/-- the tape -/
def I6 (C : Cn) : Prop := ∃ T : Nat, T ≤ 120 ∧ C 72 1 = T ∧ C 91 38 = T ∧ ∀ t, t < T → (0 ≤ C 302 t ∧ C 302 t < 256) ∧ C 73 t = w8 (C 302 t)
/-- sheets -/
def I7 (C : Cn) : Prop := ∀ s, s < 4 → C 303 s = C (83 + 2 * s) 0 ∧ (-1 ≤ C (83 + 2 * s) 0 ∧ C (83 + 2 * s) 0 ≤ 2) ∧ C 304 s = C (83 + 2 * s) 1 ∧ (0 ≤ C (83 + 2 * s) 1 ∧ C (83 + 2 * s) 1 ≤ 40) ∧ ∀ i, i < 40 → C (306 + s) i = C (84 + 2 * s) i
/-- spots -/
def I8 (C : Cn) : Prop := ∀ t, t < 10 → C 312 t = C 80 t ∧ ((C 79 t = 0 ∧ C 311 t = 0) ∨ (C 79 t = 1 ∧ C 311 t = 2) ∨ (C 79 t = 2 ∧ C 311 t = 3) ∨ (C 79 t = 3 ∧ C 311 t = 1 ∧ 0 ≤ C 80 t ∧ C 80 t < 6))
/-- what is kept -/
def I9 (C : Cn) : Prop := (C 1 15 = 0 ∧ C 91 50 = 0) ∨ (C 1 15 = 1 ∧ C 91 50 = 1 ∧ ∃ m : Nat, m ≤ 6 ∧ C 10 1 = m ∧ C 91 51 = m ∧ (∀ i, i < m → ∀ f, f < 6 → C (314 + i) f = C (12 + i) f) ∧ (∀ i, i < m → (0 ≤ C (12 + i) 0 ∧ C (12 + i) 0 < 6) ∧ (0 ≤ C (12 + i) 1 ∧ C (12 + i) 1 < 10)) ∧ gd (tb C 12 m) m ∧
  C 91 53 = C 10 2 ∧ (0 ≤ C 10 2 ∧ C 10 2 < 4) ∧ C 91 54 = C 10 3 ∧ r64 (C 10 3) ∧ C 91 55 = C 10 4 ∧ r32 (C 10 4))
/-- the land and what is known of searches -/
def I10 (C : Cn) (m : Nat) : Prop := ∃ M, LM C 26 (tb C 4 m) m M ∧ ST C M ∧ (C 58 11 = -1 ∨ ∃ b : Nat, bst M (fct m) b ∧ C 58 11 = (b : Int)) ∧ (∀ t, t < 49 → C 66 t = 0)
def Inv (C : Cn) : Prop := ∃ m, I1 C m ∧ I2 C ∧ I3 C ∧ I4 C ∧ I5 C ∧ I6 C ∧ I7 C ∧ I8 C ∧ I9 C ∧ I10 C m
theorem LM.congr {C D s : Cn} {m : Nat} {M : Mp} (h : LM C 26 s m M) (g : ∀ b t, 26 ≤ b → b ≤ 41 → D b t = C b t) : LM D 26 s m M := by
  obtain ⟨a, b, c, d, ⟨e1, e2⟩, f⟩ := h
  have x1 : D (26 + 1) = C (26 + 1) := by
    funext t
    exact g _ _ (by omega) (by omega)
  have x2 : D (26 + 2) = C (26 + 2) := by
    funext t
    exact g _ _ (by omega) (by omega)
  refine ⟨by rw [x1, x2]; exact a, by rw [g _ _ (by omega) (by omega)]; exact b, fun i hi => ?_, fun j k hj hk => ?_, ⟨e1.congr (fun b t hb => g b t (by omega) (by omega)), ?_⟩, fun f' g' hf hg => ?_⟩
  · rw [g _ _ (by omega) (by omega), g _ _ (by omega) (by omega)]
    exact c i hi
  · rw [g _ _ (by omega) (by omega)]
    exact d j k hj hk
  · obtain ⟨k1, k2, k3, k4⟩ := e2
    refine ⟨by rw [g _ _ (by omega) (by omega)]; exact k1, fun i t hb => by rw [g _ _ (by omega) (by omega)]; exact k2 i t hb, fun i t hb hw => ?_, fun f hf => by rw [g _ _ (by omega) (by omega)]; exact k4 f hf⟩
    rw [g _ _ (by omega) (by omega), g _ _ (by omega) (by omega)]
    exact k3 i t hb hw
  · rw [g _ _ (by omega) (by omega)]
    exact f f' g' hf hg
theorem I1.congr {C D : Cn} {m : Nat} (h : I1 C m) (g : ∀ b t, (b = 2 ∧ t = 1) ∨ (4 ≤ b ∧ b ≤ 9) ∨ (20 ≤ b ∧ b ≤ 25 ∧ 6 ≤ t) ∨ (b = 91 ∧ t = 0) ∨ (93 ≤ b ∧ b ≤ 98) → D b t = C b t) : I1 D m := by
  obtain ⟨a, b, c, d, e, f, z⟩ := h
  have et : tb D 4 m = tb C 4 m := tb_congr (fun i hi f => g _ _ (by omega))
  refine ⟨a, by rw [g _ _ (by omega)]; exact b, by rw [g _ _ (by omega)]; exact c, fun i hi f => ?_, fun i hi => ?_, by rw [et]; exact f, fun b f hf hb => by rw [g b f (by omega)]; exact z b f hf hb⟩
  · rw [g _ _ (by omega), g _ _ (by omega)]
    exact d i hi f
  · rw [g _ _ (by omega), g _ _ (by omega)]
    exact e i hi
theorem I2.congr {C D : Cn} (h : I2 C) (g : ∀ b t, (b = 2 ∨ b = 91) ∧ 2 ≤ t ∧ t ≤ 4 → D b t = C b t) : I2 D := by
  unfold I2 at *
  rw [g 91 2 (by omega), g 91 3 (by omega), g 91 4 (by omega), g 2 2 (by omega), g 2 3 (by omega), g 2 4 (by omega)]
  exact h
theorem I3.congr {C D : Cn} (h : I3 C) (g : ∀ b t, b = 82 ∨ b = 99 → D b t = C b t) : I3 D := fun k hk => by
  rw [g _ _ (by omega), g _ _ (by omega)]
  exact h k hk
theorem I4.congr {C D : Cn} (h : I4 C) (g : ∀ b t, b = 71 ∨ (b = 91 ∧ 6 ≤ t ∧ t ≤ 8) → D b t = C b t) : I4 D := by
  unfold I4 at *
  rw [g 91 6 (by omega), g 91 7 (by omega), g 91 8 (by omega), g 71 0 (by omega), g 71 1 (by omega), g 71 2 (by omega)]
  exact h
theorem I5.congr {C D : Cn} (h : I5 C) (g : ∀ b t, (b = 1 ∧ t = 14) ∨ b = 81 ∨ (b = 91 ∧ t = 35) ∨ (282 ≤ b ∧ b ≤ 300) → D b t = C b t) : I5 D := by
  obtain ⟨R, a, b, c, d⟩ := h
  refine ⟨R, a, by rw [g _ _ (by omega)]; exact b, by rw [g _ _ (by omega)]; exact c, fun k i hk hi => ?_⟩
  rw [g _ _ (by omega), g _ _ (by omega)]
  exact d k i hk hi
theorem I6.congr {C D : Cn} (h : I6 C) (g : ∀ b t, (b = 72 ∧ t = 1) ∨ b = 73 ∨ (b = 91 ∧ t = 38) ∨ b = 302 → D b t = C b t) : I6 D := by
  obtain ⟨T, a, b, c, d⟩ := h
  refine ⟨T, a, by rw [g _ _ (by omega)]; exact b, by rw [g _ _ (by omega)]; exact c, fun t ht => ?_⟩
  rw [g _ _ (by omega), g _ _ (by omega)]
  exact d t ht
theorem I7.congr {C D : Cn} (h : I7 C) (g : ∀ b t, (83 ≤ b ∧ b ≤ 90) ∨ b = 303 ∨ b = 304 ∨ (306 ≤ b ∧ b ≤ 309) → D b t = C b t) : I7 D := fun s hs => by
  obtain ⟨a, b, c, d, e⟩ := h s hs
  rw [g 303 s (by omega), g 304 s (by omega), g (83 + 2 * s) 0 (by omega), g (83 + 2 * s) 1 (by omega)]
  refine ⟨a, b, c, d, fun i hi => ?_⟩
  rw [g _ _ (by omega), g _ _ (by omega)]
  exact e i hi
theorem I8.congr {C D : Cn} (h : I8 C) (g : ∀ b t, b = 79 ∨ b = 80 ∨ b = 311 ∨ b = 312 → D b t = C b t) : I8 D := fun t ht => by
  rw [g _ _ (by omega), g _ _ (by omega), g _ _ (by omega), g _ _ (by omega)]
  exact h t ht
theorem I9.congr {C D : Cn} (h : I9 C) (g : ∀ b t, (b = 1 ∧ t = 15) ∨ (10 ≤ b ∧ b ≤ 17) ∨ (b = 91 ∧ 50 ≤ t) ∨ 314 ≤ b → D b t = C b t) : I9 D := by
  unfold I9 at *
  rw [g 1 15 (by omega), g 91 50 (by omega)]
  rcases h with h | ⟨h1, h2, m, a, b, c, d, e, f, k1, k2, k3, k4, k5, k6⟩
  · exact Or.inl h
  · have et : tb D 12 m = tb C 12 m := tb_congr (fun i hi f => g _ _ (by omega))
    refine Or.inr ⟨h1, h2, m, a, by rw [g _ _ (by omega)]; exact b, by rw [g _ _ (by omega)]; exact c, fun i hi f hf => ?_, fun i hi => ?_, by rw [et]; exact f, ?_⟩
    · rw [g _ _ (by omega), g _ _ (by omega)]
      exact d i hi f hf
    · rw [g _ _ (by omega), g _ _ (by omega)]
      exact e i hi
    · rw [g 91 53 (by omega), g 10 2 (by omega), g 91 54 (by omega), g 10 3 (by omega), g 91 55 (by omega), g 10 4 (by omega)]
      exact ⟨k1, k2, k3, k4, k5, k6⟩
theorem I10.congr {C D : Cn} {m : Nat} (m6 : m ≤ 6) (h : I10 C m) (g : ∀ b t, (4 ≤ b ∧ b ≤ 9) ∨ (26 ≤ b ∧ b ≤ 41) ∨ (b = 58 ∧ t = 11) ∨ (60 ≤ b ∧ b ≤ 63) ∨ (b = 66 ∧ t < 49) → D b t = C b t) : I10 D m := by
  obtain ⟨M, a, b, c, d⟩ := h
  have et : tb D 4 m = tb C 4 m := tb_congr (fun i hi f => g _ _ (by omega))
  refine ⟨M, by rw [et]; exact a.congr (fun b t h1 h2 => g b t (by omega)), b.congr (fun b t h1 h2 => g b t (by omega)), by rw [g _ _ (by omega)]; exact c, fun t ht => by rw [g _ _ (by omega)]; exact d t ht⟩
theorem Inv.congr {C D : Cn} (h : Inv C) (g : ∀ b t, IC b t → D b t = C b t) : Inv D := by
  obtain ⟨m, i1, i2, i3, i4, i5, i6, i7, i8, i9, i10⟩ := h
  have m6 := i1.1
  refine ⟨m, i1.congr (fun b t hb => g b t ?_), i2.congr (fun b t hb => g b t ?_), i3.congr (fun b t hb => g b t ?_), i4.congr (fun b t hb => g b t ?_), i5.congr (fun b t hb => g b t ?_), i6.congr (fun b t hb => g b t ?_), i7.congr (fun b t hb => g b t ?_), i8.congr (fun b t hb => g b t ?_), i9.congr (fun b t hb => g b t ?_), i10.congr m6 (fun b t hb => g b t ?_)⟩ <;> (clear i1 i2 i3 i4 i5 i6 i7 i8 i9 i10 g m6; unfold IC; omega)
/-- a finding is told on both sides -/
theorem Inv.find {C D : Cn} {k : Nat} (hk : k < 8) (h : Inv C) (g : ∀ b t, IC b t → ¬ ((b = 82 ∨ b = 99) ∧ t = k) → D b t = C b t) (g1 : D 82 k = w32 (C 82 k + 1)) (g2 : D 99 k = w32 (C 99 k + 1)) : Inv D := by
  obtain ⟨m, i1, i2, i3, i4, i5, i6, i7, i8, i9, i10⟩ := h
  have m6 := i1.1
  have j3 : I3 D := by
    intro t ht
    by_cases e : t = k
    · rw [e, g1, g2, (i3 k hk).1]
      exact ⟨rfl, r32_w _⟩
    · rw [g 99 t (by clear i1 i2 i3 i4 i5 i6 i7 i8 i9 i10 g g1 g2 m6; unfold IC; omega) (by omega), g 82 t (by clear i1 i2 i3 i4 i5 i6 i7 i8 i9 i10 g g1 g2 m6; unfold IC; omega) (by omega)]
      exact i3 t ht
  clear g1 g2
  refine ⟨m, i1.congr (fun b t hb => g b t ?_ ?_), i2.congr (fun b t hb => g b t ?_ ?_), j3, i4.congr (fun b t hb => g b t ?_ ?_), i5.congr (fun b t hb => g b t ?_ ?_), i6.congr (fun b t hb => g b t ?_ ?_), i7.congr (fun b t hb => g b t ?_ ?_), i8.congr (fun b t hb => g b t ?_ ?_), i9.congr (fun b t hb => g b t ?_ ?_), i10.congr m6 (fun b t hb => g b t ?_ ?_)⟩ <;> (clear i1 i2 i3 i4 i5 i6 i7 i8 i9 i10 j3 g m6; (try unfold IC); omega)
theorem bI_br {p A B : Prop} [Decidable p] (h0 : ¬ p → A) (h1 : p → B) : (bI p = 0 → A) ∧ (¬ bI p = 0 → B) := ⟨fun q => h0 (bI_0.mp q), fun q => h1 (Decidable.not_not.mp (fun w => q (bI_0.mpr w)))⟩
theorem f_isIn {n : Nat} {C : Cn} {v a b : Int} {Q : Int → Prop} (h : Q (bI (a ≤ v ∧ v ≤ b))) : P_F_isIn n C v a b Q := by
  unfold P_F_isIn J_F_isIn_15
  have e : (if v < a then (0 : Int) else (if b < v then 0 else 1)) = bI (a ≤ v ∧ v ≤ b) := by
    unfold bI
    (repeat' split) <;> omega
  rw [e]
  exact ⟨bI_or, h⟩
theorem f_isKm {n : Nat} {C : Cn} {v : Int} {Q : Int → Prop} (h : Q (bI (0 ≤ v ∧ v ≤ 59))) : P_F_isKm n C v Q := f_isIn ⟨bI_or, h⟩
theorem g_isKm {n : Nat} {C : Cn} {v : Int} {Q : Int → Prop} (h : Q (bI (0 ≤ v ∧ v ≤ 59))) : P_G_isKm n C v Q := g_in ⟨bI_or, h⟩
theorem f_isSheet {n : Nat} {C : Cn} {v : Int} {Q : Int → Prop} (h : Q (bI (0 ≤ v ∧ v ≤ 3))) : P_F_isSheet n C v Q := f_isIn ⟨bI_or, h⟩
theorem f_isFew {n : Nat} {C : Cn} {v : Int} {Q : Int → Prop} (h : Q (bI (bd v))) : P_F_isFew n C v Q := by
  refine ⟨fun q => use_Q h (bI_f (by unfold bd; omega)), fun q => ?_⟩
  unfold J_F_isFew_21
  have e : (if 99 < v then (0 : Int) else 1) = bI (bd v) := by
    unfold bI bd
    split <;> split <;> omega
  rw [e]
  exact ⟨bI_or, h⟩
theorem f_isPoint {n : Nat} {C : Cn} {x y : Int} {Q : Int → Prop} (h : Q (bI (bd x ∧ bd y))) : P_F_isPoint n C x y Q := by
  refine f_isFew (bI_br (fun q => use_Q h (bI_f (fun w => q w.1))) (fun q => f_isFew ?_))
  unfold J_F_isPoint_21
  rw [ite_01]
  exact ⟨bI_or, use_Q h (bI_iff ⟨fun w => w.2, fun w => ⟨q, w⟩⟩)⟩
theorem f_areTwo {n : Nat} {C : Cn} {x y u v : Int} {Q : Int → Prop} (h : Q (bI ((bd x ∧ bd y) ∧ (bd u ∧ bd v) ∧ ¬ (x = u ∧ y = v)))) : P_F_areTwoPoints n C x y u v Q := by
  refine f_isPoint (bI_br (fun q => use_Q h (bI_f (fun w => q w.1))) (fun q => f_isPoint ?_))
  unfold J_F_areTwoPoints_31
  have e : (if bI (bd u ∧ bd v) = 0 then (0 : Int) else (if x = u then (if y = v then 0 else 1) else 1)) = bI ((bd x ∧ bd y) ∧ (bd u ∧ bd v) ∧ ¬ (x = u ∧ y = v)) := by
    by_cases a : bd u ∧ bd v
    · rw [bI_t a, if_neg (by decide)]
      by_cases b : x = u
      · rw [if_pos b]
        by_cases c : y = v
        · rw [if_pos c, bI_f (fun w => w.2.2 ⟨b, c⟩)]
        · rw [if_neg c, bI_t ⟨q, a, fun w => c w.2⟩]
      · rw [if_neg b, bI_t ⟨q, a, fun w => b w.1⟩]
    · rw [bI_f a, if_pos rfl, bI_f (fun w => a w.2.1)]
  rw [e]
  exact ⟨bI_or, h⟩
theorem f_isSegment {n : Nat} {C : Cn} {v : Int} {m : Nat} {Q : Int → Prop} (hn : 91 ≤ n) (m6 : m ≤ 6) (hm : C 2 1 = m) (h : Q (bI (0 ≤ v ∧ v < m))) : P_F_isSegment n C 1 v Q := by
  unfold P_F_isSegment
  simp only [fS hn, Int.reduceToNat, true_and, hm]
  rw [w32_s (by omega)]
  refine f_isIn ⟨bI_or, use_Q h (bI_iff (by omega))⟩
theorem g_isSegment {n : Nat} {C : Cn} {v : Int} {m : Nat} {Q : Int → Prop} (hn : 320 ≤ n) (m6 : m ≤ 6) (hm : C 91 0 = m) (h : Q (bI (0 ≤ v ∧ v < m))) : P_G_isSegment n C 91 v Q := by
  unfold P_G_isSegment
  simp only [gS hn, Int.reduceToNat, true_and, hm]
  rw [w32_s (by omega)]
  refine g_in ⟨bI_or, use_Q h (bI_iff (by omega))⟩
theorem f_tell {n : Nat} {C : Cn} {k : Int} {Q : Int → Cn → Prop} (hn : 91 ≤ n) (hk : 0 ≤ k ∧ k < 8) (h : ∀ C2 : Cn, C2 = wr C 82 k.toNat (w32 (C 82 k.toNat + 1)) → Q (-1000001 - k) C2) : P_F_tell n C 1 k Q := by
  unfold P_F_tell
  simp only [fS hn, Int.reduceToNat, true_and]
  refine ⟨by omega, fun C4 c4 => ?_⟩
  rw [w32_id (by omega) (by omega)]
  exact h C4 c4
theorem f_tellLong {n : Nat} {C : Cn} {k : Int} {Q : Int → Cn → Prop} (hn : 91 ≤ n) (hk : 0 ≤ k ∧ k < 8) (h : ∀ C2 : Cn, C2 = wr C 82 k.toNat (w32 (C 82 k.toNat + 1)) → Q (-1000000000000000001 - k) C2) : P_F_tellLong n C 1 k Q := by
  unfold P_F_tellLong
  simp only [fS hn, Int.reduceToNat, true_and]
  refine ⟨by omega, fun C4 c4 => ?_⟩
  rw [w64_id (by omega) (by omega)]
  exact h C4 c4
/-- the end of a call that finds something, on the reference's side -/
theorem IC_f {b t : Nat} (h : (b = 82 ∨ b = 99)) : IC b t := by
  unfold IC
  omega
theorem both {n : Nat} {C C1 D : Cn} {k : Int} (hn : 320 ≤ n) (hk : 0 ≤ k ∧ k < 8) (inv : Inv C) (c1 : C1 = wr C 82 k.toNat (w32 (C 82 k.toNat + 1))) (g : ∀ b t, IC b t → D b t = C1 b t) : P_G_finds n D 91 k (fun r2 C2 => -1000001 - k = r2 ∧ Inv C2) := by
  unfold P_G_finds
  simp only [gS hn, Int.reduceToNat, true_and]
  refine ⟨by omega, fun C4 c4 => ⟨(w32_id (by omega) (by omega)).symm, inv.find (k := k.toNat) (by omega) (fun b t hb hb2 => ?_) ?_ ?_⟩⟩
  · rw [c4, wr_ne (fun q => hb2 (by omega)), g b t hb, c1, wr_ne (fun q => hb2 (by omega))]
  · rw [c4, wr_ne (by omega), g _ _ (IC_f (Or.inl rfl)), c1, wr_same]
  · rw [c4, wr_same, g _ _ (IC_f (Or.inr rfl)), c1, wr_ne (by omega)]
theorem bothL {n : Nat} {C C1 D : Cn} {k : Int} (hn : 320 ≤ n) (hk : 0 ≤ k ∧ k < 8) (inv : Inv C) (c1 : C1 = wr C 82 k.toNat (w32 (C 82 k.toNat + 1))) (g : ∀ b t, IC b t → D b t = C1 b t) : P_G_findsLong n D 91 k (fun r2 C2 => -1000000000000000001 - k = r2 ∧ Inv C2) := by
  unfold P_G_findsLong
  simp only [gS hn, Int.reduceToNat, true_and]
  refine ⟨by omega, fun C4 c4 => ⟨(w64_id (by omega) (by omega)).symm, inv.find (k := k.toNat) (by omega) (fun b t hb hb2 => ?_) ?_ ?_⟩⟩
  · rw [c4, wr_ne (fun q => hb2 (by omega)), g b t hb, c1, wr_ne (fun q => hb2 (by omega))]
  · rw [c4, wr_ne (by omega), g _ _ (IC_f (Or.inl rfl)), c1, wr_same]
  · rw [c4, wr_same, g _ _ (IC_f (Or.inr rfl)), c1, wr_ne (by omega)]
