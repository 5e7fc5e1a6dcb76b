/-! my own: the reference takes an end in -/
theorem gm_o {n : Nat} (hn : 320 ≤ n) : okO n 91 10 := okm hn (by decide)
theorem gm_a {n : Nat} (hn : 320 ≤ n) {k : Int} (h : k = 99 ∨ k = 100 ∨ k = 101 ∨ k = 102 ∨ k = 103 ∨ k = 104 ∨ k = 105) : okO n k 12 := by
  rcases h with h | h | h | h | h | h | h <;> (rw [h]; exact okm hn (by decide))
theorem g_endAt {n : Nat} {C : Cn} {x y : Int} {Q : Int → Prop} (hn : 320 ≤ n) (hm : 0 ≤ C 91 10 ∧ C 91 10 ≤ 12)
    (h1 : ∀ r : Nat, (r : Int) < C 91 10 → C 101 r = x → C 102 r = y → Q r) (h2 : (∀ e : Nat, (e : Int) < C 91 10 → ¬ (C 101 e = x ∧ C 102 e = y)) → Q (-1)) : P_G_endAt n C 91 x y Q := by
  refine lp_rule (fun v => 0 ≤ v ∧ v ≤ C 91 10 ∧ ∀ e : Nat, (e : Int) < v → ¬ (C 101 e = x ∧ C 102 e = y)) (fun v => (12 - v).toNat) ?_ 0 ⟨by omega, by omega, fun e he => by omega⟩
  intro v hv K hK
  obtain ⟨z0, z1, z2⟩ := hv
  have ev : ((v.toNat : Nat) : Int) = v := by omega
  have nx : ¬ (C 101 v.toNat = x ∧ C 102 v.toNat = y) → ¬ C 91 10 ≤ v → K (w32 (v + 1)) := by
    intro q q2
    rw [w32_s (by omega)]
    refine hK _ ⟨by omega, by omega, fun e he => ?_⟩ (by omega)
    by_cases h5 : (e : Int) < v
    · exact z2 e h5
    · rw [(by omega : e = v.toNat)]
      exact q
  have ok : ∀ a : Int, (LAY a.toNat).2 = 12 → ¬ C 91 10 ≤ v → okI a v := fun a ha q => ⟨z0, by rw [ha]; omega⟩
  unfold B_G_endAt_2
  refine ⟨gm_o hn, fun h3 => h2 (fun e he => z2 e ?_), fun h3 => ⟨gm_a hn (by decide), ok _ (by decide) h3, fun h4 => ⟨gm_a hn (by decide), ok _ (by decide) h3, fun h5 => ?_, fun h5 => nx (fun q => h5 q.2) h3⟩, fun h4 => nx (fun q => h4 q.1) h3⟩⟩
  · have h3' : C 91 10 ≤ v := h3
    omega
  · have q := h1 v.toNat (by have h3' : ¬ C 91 10 ≤ v := h3; omega) h4 h5
    rw [ev] at q
    exact q
/-- C2 is C but for the reference's ends -/
def grE (C C2 : Cn) : Prop := ∀ b j, b ≠ 101 → b ≠ 102 → ¬ (b = 91 ∧ j = 10) → C2 b j = C b j
theorem grE.rfl' (C : Cn) : grE C C := fun _ _ _ _ _ => rfl
theorem grE.trans {A B C : Cn} (h1 : grE A B) (h2 : grE B C) : grE A C := fun b j x y z => (h2 b j x y z).trans (h1 b j x y z)
theorem g_takesEnd {n : Nat} {C : Cn} {x y : Int} {S : Int → Prop} {Q : Int → Cn → Prop} (hn : 320 ≤ n) (hm : 0 ≤ C 91 10 ∧ C 91 10 < 12) (bx : bd x) (b2 : bd y) (hE : En (C 101) (C 102) (C 91 10) S)
    (h : ∀ C2, grE C C2 → C 91 10 ≤ C2 91 10 → C2 91 10 ≤ C 91 10 + 1 → En (C2 101) (C2 102) (C2 91 10) (fun k => S k ∨ k = ky x y) → Q 0 C2) : P_G_takesEnd n C 91 x y Q := by
  have ok : ∀ a v : Int, (LAY a.toNat).2 = 12 → 0 ≤ v → v < 12 → okI a v := fun a v ha q r => ⟨q, by rw [ha]; omega⟩
  refine ⟨gm_o hn, g_endAt hn (by omega) (fun r r1 r2 r3 => ⟨fun q => by omega, fun _ => ?_⟩) (fun h4 => ⟨fun _ => ?_, fun q => absurd (by decide : (-1 : Int) < 0) q⟩)⟩
  · exact h C (grE.rfl' C) (Int.le_refl _) (by omega) (hE.same ⟨r, r1, by rw [r2, r3]⟩)
  · refine lp_rule (fun z => grE C z.1 ∧ z.1 91 10 = C 91 10 ∧ 0 ≤ z.2 ∧ z.2 ≤ C 91 10 ∧ (∀ e : Nat, (e : Int) < z.2 → z.1 101 e = C 101 e ∧ z.1 102 e = C 102 e) ∧ (∀ e : Nat, z.2 < (e : Int) → (e : Int) ≤ C 91 10 → z.1 101 e = C 101 (e - 1) ∧ z.1 102 e = C 102 (e - 1) ∧ ky x y < ky (C 101 (e - 1)) (C 102 (e - 1)))) (fun z => z.2.toNat) ?_ (C, C 91 10) ⟨grE.rfl' C, rfl, hm.1, Int.le_refl _, fun e _ => ⟨rfl, rfl⟩, fun e e1 e2 => by omega⟩
    rintro ⟨D, v⟩ ⟨z1, z2, z3, z4, z5, z6⟩ K hK
    dsimp only at z1 z2 z3 z4 z5 z6
    have fin : (∀ e : Nat, (e : Int) < v → ky (C 101 e) (C 102 e) < ky x y) → J_G_takesEnd_77 n D 91 x y v Q := by
      intro lo
      refine ⟨gm_o hn, gm_a hn (by decide), ok _ _ (by decide) z3 (by omega), fun D1 d1 => ⟨gm_a hn (by decide), ok _ _ (by decide) z3 (by omega), fun D2 d2 D3 d3 => ?_⟩⟩
      change D1 = wr D 101 v.toNat x at d1
      change D2 = wr D1 102 v.toNat y at d2
      change D3 = wr D2 91 10 (w32 (D2 91 10 + 1)) at d3
      have m2 : D2 91 10 = C 91 10 := by rw [d2, wr_ne (by omega), d1, wr_ne (by omega), z2]
      have m3 : D3 91 10 = C 91 10 + 1 := by rw [d3, wr_same, m2, w32_s (by omega)]
      have x3 : ∀ e : Nat, D3 101 e = if e = v.toNat then x else D 101 e := by
        intro e
        rw [d3, wr_ne (by omega), d2, wr_ne (by omega), d1]
        by_cases q : e = v.toNat
        · rw [if_pos q, q, wr_same]
        · rw [if_neg q, wr_ne (fun k => q k.2)]
      have y3 : ∀ e : Nat, D3 102 e = if e = v.toNat then y else D 102 e := by
        intro e
        rw [d3, wr_ne (by omega), d2]
        by_cases q : e = v.toNat
        · rw [if_pos q, q, wr_same]
        · rw [if_neg q, wr_ne (fun k => q k.2), d1, wr_ne (by omega)]
      refine h D3 (fun b j b1 b2 b3 => ?_) (by omega) (by omega) ?_
      · rw [d3, wr_ne b3, d2, wr_ne (fun q => b2 q.1), d1, wr_ne (fun q => b1 q.1)]
        exact z1 b j b1 b2 b3
      rw [m3]
      refine hE.add (p := v.toNat) bx b2 (by omega) (fun e he => lo e (by omega)) (fun e e1 e2 => ?_) (fun e he => ?_) (fun e he => ?_)
      · have := (z6 (e + 1) (by omega) (by omega)).2.2
        rw [Nat.add_sub_cancel] at this
        exact this
      · rw [x3 e]
        by_cases q : e = v.toNat
        · rw [if_pos q, if_neg (by omega), if_pos q]
        · rw [if_neg q]
          by_cases q2 : e < v.toNat
          · rw [if_pos q2, (z5 e (by omega)).1]
          · rw [if_neg q2, if_neg q, (z6 e (by omega) he).1]
      · rw [y3 e]
        by_cases q : e = v.toNat
        · rw [if_pos q, if_neg (by omega), if_pos q]
        · rw [if_neg q]
          by_cases q2 : e < v.toNat
          · rw [if_pos q2, (z5 e (by omega)).2]
          · rw [if_neg q2, if_neg q, (z6 e (by omega) he).2.1]
    unfold B_G_takesEnd_15
    dsimp only
    refine ⟨fun h5 => fin (fun e he => by omega), fun h5 => ?_⟩
    rw [w32_s (by omega : -1000000 ≤ v - 1 ∧ v - 1 ≤ 1000000), w32_s (by omega : -1000000 ≤ v + -1 ∧ v + -1 ≤ 1000000)]
    refine ⟨gm_o hn, gm_a hn (by decide), ok _ _ (by decide) (by omega) (by omega), gm_a hn (by decide), ok _ _ (by decide) (by omega) (by omega), ?_⟩
    change P_G_isAhead n D x y (D 101 (v - 1).toNat) (D 102 (v - 1).toNat) _
    have g5 := z5 (v - 1).toNat (by omega)
    rw [g5.1, g5.2]
    have be := hE.2.1 (v - 1).toNat (by omega)
    refine g_isAhead ⟨fun h6 => fin (fun e he => ?_), fun h6 => ⟨ok _ _ (by decide) (by omega) (by omega), fun D1 d1 => ⟨ok _ _ (by decide) (by omega) (by omega), fun D2 d2 => hK _ ?_ (by dsimp only; omega)⟩⟩⟩
    · rw [bI_0, ahd_ky b2 be.2] at h6
      have ne : ky (C 101 (v - 1).toNat) (C 102 (v - 1).toNat) ≠ ky x y := fun q => h4 (v - 1).toNat (by omega) ((eq_ky be.2 b2).mpr q)
      by_cases q : e = (v - 1).toNat
      · rw [q]
        omega
      · have := hE.1 e (v - 1).toNat (by omega) (by omega)
        omega
    · rw [bI_0, Decidable.not_not, ahd_ky b2 be.2] at h6
      change D1 = wr D 101 v.toNat (D 101 (v - 1).toNat) at d1
      rw [g5.1] at d1
      change D2 = wr D1 102 v.toNat (D1 102 (v - 1).toNat) at d2
      have x2 : ∀ e : Nat, D2 101 e = if e = v.toNat then C 101 (v - 1).toNat else D 101 e := by
        intro e
        rw [d2, wr_ne (by omega), d1]
        by_cases q : e = v.toNat
        · rw [if_pos q, q, wr_same]
        · rw [if_neg q, wr_ne (fun k => q k.2)]
      have y2 : ∀ e : Nat, D2 102 e = if e = v.toNat then C 102 (v - 1).toNat else D 102 e := by
        intro e
        rw [d2]
        by_cases q : e = v.toNat
        · rw [if_pos q, q, wr_same, d1, wr_ne (by omega), g5.2]
        · rw [if_neg q, wr_ne (fun k => q k.2), d1, wr_ne (by omega)]
      refine ⟨fun b j b1 b2 b3 => ?_, ?_, ?_, ?_, fun e e1 => ?_, fun e e1 e2 => ?_⟩
      · dsimp only
        rw [d2, wr_ne (fun q => b2 q.1), d1, wr_ne (fun q => b1 q.1)]
        exact z1 b j b1 b2 b3
      · dsimp only
        rw [d2, wr_ne (by omega), d1, wr_ne (by omega), z2]
      · dsimp only
        omega
      · dsimp only
        omega
      · dsimp only at e1 ⊢
        rw [x2 e, y2 e, if_neg (by omega), if_neg (by omega)]
        exact z5 e (by omega)
      · dsimp only at e1 ⊢
        rw [x2 e, y2 e]
        by_cases q : e = v.toNat
        · rw [if_pos q, if_pos q, (by omega : e - 1 = (v - 1).toNat)]
          exact ⟨rfl, rfl, h6⟩
        · rw [if_neg q, if_neg q]
          exact z6 e (by omega) e2
