/-! my own: the constructors -/
def Z0 : Cn := fun _ _ => 0
def esC (C : Cn) (v n : Nat) : Cn := fun b t => if b = v ∧ t = 0 then (n : Int) else if b = v ∧ t = 4 then 1 else if b = n ∧ t < 6 then ((n + 1 + t : Nat) : Int) else C b t
theorem i_Es {n v : Nat} {C : Cn} {Q : Int → Cn → Nat → Prop} (hv : 0 < v ∧ v < n) (hk : (LAY v).1 = 1) (h0 : LAY n = (16, 6)) (h7 : ∀ j, j < 6 → LAY (n + 1 + j) = (7, 6)) (h : Q 0 (esC C v n) (n + 7)) : P_Es_init n C (v : Int) Q := by
  have ok1 : ∀ k, n ≤ k → okO k (v : Int) 1 := fun k hk2 => ⟨by omega, by omega, by rw [Int.toNat_natCast]; exact hk⟩
  have o16 : ∀ k, n < k → okO k (n : Int) 16 := fun k hk2 => ⟨by omega, by omega, by rw [Int.toNat_natCast, h0]⟩
  have i16 : ∀ i : Int, 0 ≤ i → i < 6 → okI (n : Int) i := fun i g1 g2 => ⟨g1, by rw [Int.toNat_natCast, h0]; exact g2⟩
  unfold P_Es_init
  simp only [Int.toNat_natCast]
  refine ⟨by omega, h0, ok1 _ (by omega), fun C4 c4 C5 c5 => ?_⟩
  have o5 : ∀ b t, ¬ (b = v ∧ (t = 0 ∨ t = 4)) → C5 b t = C b t := fun b t hb => by rw [c5, wr_ne (by omega), c4, wr_ne (by omega)]
  have x0 : C5 v 0 = (n : Int) := by rw [c5, wr_ne (by omega), c4, wr_same]
  have x4 : C5 v 4 = 1 := by rw [c5, wr_same]
  clear c4 c5
  refine lp_rule (fun (z : Cn × Nat × Nat × Nat × Int) => ∃ k : Nat, k ≤ 6 ∧ z.2.2.2.2 = (k : Int) ∧ z.2.1 = n + 1 + k ∧ z.2.2.1 = 1 + k ∧ z.2.2.2.1 = 6 + 6 * k ∧ (∀ b t, b ≠ n → z.1 b t = C5 b t) ∧ ∀ t, z.1 n t = if t < k then ((n + 1 + t : Nat) : Int) else C n t) (fun z => (20 - z.2.2.2.2).toNat) ?_ (C5, n + 1, 1, 6, 0) ⟨0, by omega, rfl, rfl, rfl, rfl, fun _ _ _ => rfl, fun t => by rw [if_neg (by omega)]; exact o5 _ _ (by omega)⟩
  rintro ⟨D, n', kc, ks, v1⟩ ⟨k, z0, z1, z2, z3, z4, z5, z6⟩ K hK
  dsimp only at z1 z2 z3 z4 z5 z6
  subst z1 z2 z3 z4
  have d0 : D v 0 = (n : Int) := by rw [z5 _ _ (by omega), x0]
  unfold B_Es_init_20 P_Wa_init
  simp only [Int.toNat_natCast, d0]
  refine ⟨fun q => ⟨by omega, by omega, ?_⟩, fun q => ⟨ok1 _ (by omega), h7 k (by omega), by omega, by omega, by omega, by omega, o16 _ (by omega), i16 _ (by omega) (by omega), ⟨by omega, by omega, by rw [Int.toNat_natCast, h7 k (by omega)]⟩, fun C21 c21 => ?_⟩⟩
  · have ek : k = 6 := by omega
    subst ek
    have e : D = esC C v n := by
      funext b t
      unfold esC
      by_cases e1 : b = v ∧ t = 0
      · rw [if_pos e1, e1.1, e1.2, d0]
      · rw [if_neg e1]
        by_cases e2 : b = v ∧ t = 4
        · rw [if_pos e2, e2.1, e2.2, z5 _ _ (by omega), x4]
        · rw [if_neg e2]
          by_cases e3 : b = n
          · subst e3
            rw [z6 t]
            by_cases e4 : t < 6
            · rw [if_pos e4, if_pos ⟨rfl, e4⟩]
            · rw [if_neg e4, if_neg (fun w => e4 w.2)]
          · rw [if_neg (fun w => e3 w.1), z5 b t e3, o5 b t (by omega)]
    rw [e]
    exact h
  · rw [w32_n (by omega)]
    refine hK _ ⟨k + 1, by omega, rfl, by dsimp only; omega, by dsimp only; omega, by dsimp only; omega, fun b t hb => ?_, fun t => ?_⟩ (by dsimp only; omega)
    · dsimp only
      rw [c21, wr_ne (by omega), z5 b t hb]
    · dsimp only
      by_cases e : t = k
      · rw [e, c21, wr_same, if_pos (by omega)]
      · rw [c21, wr_ne (by omega), z6 t]
        by_cases e2 : t < k
        · rw [if_pos e2, if_pos (by omega)]
        · rw [if_neg e2, if_neg (by omega)]
/-- the four sheets -/
def shC (C : Cn) : Cn := fun b t => if b = 77 ∧ t < 4 then ((83 + 2 * t : Nat) : Int) else if 83 ≤ b ∧ b < 83 + 2 * 4 ∧ b % 2 = 1 ∧ t = 0 then -1 else if 83 ≤ b ∧ b < 83 + 2 * 4 ∧ b % 2 = 1 ∧ t = 2 then ((b + 1 : Nat) : Int) else C b t
theorem lay_sh : ∀ s, s < 4 → LAY (83 + 2 * s) = (5, 3) ∧ LAY (84 + 2 * s) = (13, 40) := by decide +kernel
theorem i_sh {C : Cn} {Q : Int → Cn → Nat → Prop} (h77 : C 1 10 = 77) (hs : ptC (shC C) 91 ∧ P_F_settle 91 (shC C) 1 (fun _ C105 => ptC C105 91 → Q 0 C105 91)) : ∃ f : Nat, lp (B_F_init_155 1 Q) f (C, 83, 81, 5537, 0) := by
  have ok9 : ∀ k : Nat, 83 ≤ k → okO k 1 9 := fun k hk => okc (by omega : 91 ≤ k + 8) ⟨by decide, by decide, by decide +kernel⟩ |> fun w => ⟨w.1, by omega, w.2.2⟩
  have o15 : ∀ k : Nat, 83 ≤ k → okO k 77 15 := fun k hk => ⟨by decide, by omega, by decide +kernel⟩
  have l77 : ((LAY (77 : Int).toNat).2 : Int) = 4 := by decide +kernel
  have i15 : ∀ i : Int, 0 ≤ i → i < 4 → okI 77 i := fun i g1 g2 => ⟨g1, by rw [l77]; exact g2⟩
  refine lp_rule (fun (z : Cn × Nat × Nat × Nat × Int) => ∃ k : Nat, k ≤ 4 ∧ z.2.2.2.2 = (k : Int) ∧ z.2.1 = 83 + 2 * k ∧ z.2.2.1 = 81 + 2 * k ∧ z.2.2.2.1 = 5537 + 43 * k ∧ ∀ b t, z.1 b t = if b = 77 ∧ t < k then ((83 + 2 * t : Nat) : Int) else if 83 ≤ b ∧ b < 83 + 2 * k ∧ b % 2 = 1 ∧ t = 0 then -1 else if 83 ≤ b ∧ b < 83 + 2 * k ∧ b % 2 = 1 ∧ t = 2 then ((b + 1 : Nat) : Int) else C b t) (fun z => (20 - z.2.2.2.2).toNat) ?_ (C, 83, 81, 5537, 0) ⟨0, by omega, rfl, rfl, rfl, rfl, fun b t => by rw [if_neg (by omega), if_neg (by omega), if_neg (by omega)]⟩
  rintro ⟨D, n', kc, ks, v1⟩ ⟨k, z0, z1, z2, z3, z4, z5⟩ K hK
  dsimp only at z1 z2 z3 z4 z5
  subst z1 z2 z3 z4
  have d77 : D 1 10 = 77 := by rw [z5, if_neg (by omega), if_neg (by omega), if_neg (by omega), h77]
  unfold B_F_init_155 P_Sh_init
  simp only [Int.toNat_natCast, Int.reduceToNat, d77]
  refine ⟨fun q => ⟨ok9 _ (by omega), by omega, by omega, ?_⟩, fun q => ?_⟩
  · have ek : k = 4 := by omega
    subst ek
    have e : D = shC C := by
      funext b t
      rw [z5]
      rfl
    rw [e]
    exact hs
  · have hk : k < 4 := by omega
    have ls := lay_sh k hk
    have ls2 : LAY (83 + 2 * k + 1) = (13, 40) := by
      rw [(by omega : 83 + 2 * k + 1 = 84 + 2 * k)]
      exact ls.2
    have o5 : ∀ j : Nat, 83 + 2 * k < j → okO j ((83 + 2 * k : Nat) : Int) 5 := fun j hj => ⟨by omega, by omega, by rw [Int.toNat_natCast, ls.1]⟩
    refine ⟨ok9 _ (by omega), ls.1, by omega, by omega, by omega, by omega, by omega, by omega, o5 _ (by omega), fun C3 c3 => ⟨ls2, o5 _ (by omega), fun C6 c6 => ⟨o15 _ (by omega), i15 _ (by omega) (by omega), o5 _ (by omega), fun C124 c124 => ?_⟩⟩⟩
    rw [w32_n (by omega)]
    refine hK _ ⟨k + 1, by omega, rfl, by dsimp only; omega, by dsimp only; omega, by dsimp only; omega, fun b t => ?_⟩ (by dsimp only; omega)
    dsimp only
    by_cases e1 : b = 77 ∧ t = k
    · rw [e1.1, e1.2, c124, wr_same, if_pos (by omega)]
    · rw [c124, wr_ne e1]
      by_cases e2 : b = 83 + 2 * k ∧ t = 2
      · rw [e2.1, e2.2, c6, wr_same, if_neg (by omega), if_neg (by omega), if_pos (by omega)]
      · rw [c6, wr_ne e2]
        by_cases e3 : b = 83 + 2 * k ∧ t = 0
        · rw [e3.1, e3.2, c3, wr_same, if_neg (by omega), if_pos (by omega)]
        · rw [c3, wr_ne e3, z5]
          (repeat' split) <;> omega
/-- the class's cells, behind its constructor, but for what settle does -/
def CF1 : Cn := wr (esC (wr (esC (wr (esC Z0 2 3) 1 0 2) 10 11) 1 1 10) 18 19) 1 2 18
def laC (C : Cn) (v n : Nat) : Cn := wr (wr (wr (wr (wr (wr (wr (wr (wr (wr (wr (wr (wr (wr (wr C v 2 (n : Int)) v 3 ((n + 1 : Nat) : Int)) v 4 ((n + 2 : Nat) : Int)) v 5 ((n + 3 : Nat) : Int)) v 6 ((n + 4 : Nat) : Int)) v 7 ((n + 5 : Nat) : Int)) v 9 ((n + 6 : Nat) : Int)) v 10 ((n + 7 : Nat) : Int)) v 11 ((n + 8 : Nat) : Int)) v 12 ((n + 9 : Nat) : Int)) v 13 ((n + 10 : Nat) : Int)) v 15 ((n + 11 : Nat) : Int)) v 16 ((n + 12 : Nat) : Int)) v 17 ((n + 13 : Nat) : Int)) v 18 ((n + 14 : Nat) : Int)
def CF2 : Cn := wr (laC (wr (laC CF1 26 27) 1 3 26) 42 43) 1 4 42
def seC (C : Cn) (v n : Nat) (x : Int) : Cn := wr (wr (wr (wr (wr (wr (wr (wr (wr (wr C v 1 (n : Int)) v 4 ((n + 1 : Nat) : Int)) v 5 ((n + 2 : Nat) : Int)) v 6 ((n + 3 : Nat) : Int)) v 7 ((n + 4 : Nat) : Int)) v 11 (-1)) v 14 ((n + 5 : Nat) : Int)) v 15 ((n + 6 : Nat) : Int)) v 17 ((n + 7 : Nat) : Int)) v 0 x
def CF3 : Cn := wr (seC CF2 58 59 26) 1 5 58
def CF4 : Cn := wr (wr (wr (wr CF3 67 0 68) 67 1 69) 67 2 70) 1 6 67
def CF5 : Cn := wr (wr CF4 71 1 (-1)) 1 7 71
def CF6 : Cn := wr (wr (wr (wr CF5 72 0 73) 72 7 74) 72 8 75) 1 8 72
def CF7 : Cn := wr (wr CF6 1 9 76) 1 10 77
def CF8 : Cn := wr (wr (wr (wr (wr CF7 78 0 79) 78 1 80) 1 11 78) 1 12 81) 1 13 82
def CF : Cn := shC CF8
theorem i_La {n v : Nat} {C : Cn} {Q : Int → Cn → Nat → Prop} (hv : 0 < v ∧ v < n) (hk : (LAY v).1 = 2) (hl : LAY n = (12, 12) ∧ LAY (n + 1) = (12, 12) ∧ LAY (n + 1 + 1) = (12, 6) ∧ LAY (n + 1 + 1 + 1) = (12, 6) ∧ LAY (n + 1 + 1 + 1 + 1) = (12, 78) ∧ LAY (n + 1 + 1 + 1 + 1 + 1) = (12, 13) ∧ LAY (n + 1 + 1 + 1 + 1 + 1 + 1) = (12, 13) ∧ LAY (n + 1 + 1 + 1 + 1 + 1 + 1 + 1) = (12, 49) ∧ LAY (n + 1 + 1 + 1 + 1 + 1 + 1 + 1 + 1) = (12, 49) ∧ LAY (n + 1 + 1 + 1 + 1 + 1 + 1 + 1 + 1 + 1) = (12, 49) ∧ LAY (n + 1 + 1 + 1 + 1 + 1 + 1 + 1 + 1 + 1 + 1) = (12, 49) ∧ LAY (n + 1 + 1 + 1 + 1 + 1 + 1 + 1 + 1 + 1 + 1 + 1) = (12, 19) ∧ LAY (n + 1 + 1 + 1 + 1 + 1 + 1 + 1 + 1 + 1 + 1 + 1 + 1) = (12, 19) ∧ LAY (n + 1 + 1 + 1 + 1 + 1 + 1 + 1 + 1 + 1 + 1 + 1 + 1 + 1) = (12, 19) ∧ LAY (n + 1 + 1 + 1 + 1 + 1 + 1 + 1 + 1 + 1 + 1 + 1 + 1 + 1 + 1) = (12, 361)) (h : Q 0 (laC C v n) (n + 15)) : P_La_init n C (v : Int) Q := by
  have ok2 : ∀ k, n ≤ k → okO k (v : Int) 2 := fun k hk2 => ⟨by omega, by omega, by rw [Int.toNat_natCast]; exact hk⟩
  obtain ⟨l0, l1, l2, l3, l4, l5, l6, l7, l8, l9, l10, l11, l12, l13, l14⟩ := hl
  unfold P_La_init
  simp only [Int.toNat_natCast]
  refine ⟨by omega, l0, ok2 _ (by omega), fun _ e => ?_⟩
  subst e
  refine ⟨l1, ok2 _ (by omega), fun _ e => ?_⟩
  subst e
  refine ⟨l2, ok2 _ (by omega), fun _ e => ?_⟩
  subst e
  refine ⟨l3, ok2 _ (by omega), fun _ e => ?_⟩
  subst e
  refine ⟨l4, ok2 _ (by omega), fun _ e => ?_⟩
  subst e
  refine ⟨l5, ok2 _ (by omega), fun _ e => ?_⟩
  subst e
  refine ⟨l6, ok2 _ (by omega), fun _ e => ?_⟩
  subst e
  refine ⟨l7, ok2 _ (by omega), fun _ e => ?_⟩
  subst e
  refine ⟨l8, ok2 _ (by omega), fun _ e => ?_⟩
  subst e
  refine ⟨l9, ok2 _ (by omega), fun _ e => ?_⟩
  subst e
  refine ⟨l10, ok2 _ (by omega), fun _ e => ?_⟩
  subst e
  refine ⟨l11, ok2 _ (by omega), fun _ e => ?_⟩
  subst e
  refine ⟨l12, ok2 _ (by omega), fun _ e => ?_⟩
  subst e
  refine ⟨l13, ok2 _ (by omega), fun _ e => ?_⟩
  subst e
  refine ⟨l14, ok2 _ (by omega), fun _ e => ?_⟩
  subst e
  exact h
theorem okD {n : Nat} {a : Int} {k : Nat} (h : 0 < a ∧ a < n ∧ (LAY a.toNat).1 = k) : okO n a k := h
theorem i_F0 {Q : Int → Cn → Nat → Prop} (hs : ptC CF 91 ∧ P_F_settle 91 CF 1 (fun _ C105 => ptC C105 91 → Q 0 C105 91)) : P_F_init 2 Z0 1 Q := by
  have o9 : ∀ k : Nat, 2 ≤ k → okO k 1 9 := fun k hk => ⟨by decide, by omega, by decide +kernel⟩
  unfold P_F_init
  simp only [Int.reduceToNat]
  refine ⟨by decide, by decide +kernel, by decide, ?_⟩
  refine i_Es (v := 2) (n := 3) ⟨by decide, by decide⟩ (by decide +kernel) (by decide +kernel) (by decide +kernel) ⟨o9 _ (by decide), fun _ e => ?_⟩
  subst e
  refine ⟨by decide +kernel, by decide, i_Es (v := 10) (n := 11) ⟨by decide, by decide⟩ (by decide +kernel) (by decide +kernel) (by decide +kernel) ⟨o9 _ (by decide), fun _ e => ?_⟩⟩
  subst e
  refine ⟨by decide +kernel, by decide, i_Es (v := 18) (n := 19) ⟨by decide, by decide⟩ (by decide +kernel) (by decide +kernel) (by decide +kernel) ⟨o9 _ (by decide), fun C25 e => ?_⟩⟩
  have e1 : C25 = CF1 := e
  subst e1
  clear e
  refine ⟨by decide +kernel, by decide, i_La (v := 26) (n := 27) ⟨by decide, by decide⟩ (by decide +kernel) (by decide +kernel) ⟨o9 _ (by decide), fun _ e => ?_⟩⟩
  subst e
  refine ⟨by decide +kernel, by decide, i_La (v := 42) (n := 43) ⟨by decide, by decide⟩ (by decide +kernel) (by decide +kernel) ⟨o9 _ (by decide), fun C41 e => ?_⟩⟩
  have e1 : C41 = CF2 := e
  subst e1
  clear e
  refine ⟨by decide +kernel, o9 _ (by decide), by decide, ?_⟩
  have x3 : CF2 1 3 = 26 := by decide +kernel
  rw [x3]
  have o58 : ∀ k : Nat, 59 ≤ k → okO k ((58 : Nat) : Int) 4 := fun k hk => ⟨by decide, by omega, by decide +kernel⟩
  show P_Se_init 59 CF2 ((58 : Nat) : Int) 26 _
  unfold P_Se_init
  simp only [Int.toNat_natCast]
  refine ⟨by decide, by decide +kernel, o58 _ (by decide), fun _ e => ?_⟩
  subst e
  refine ⟨by decide +kernel, o58 _ (by decide), fun _ e => ?_⟩
  subst e
  refine ⟨by decide +kernel, o58 _ (by decide), fun _ e => ?_⟩
  subst e
  refine ⟨by decide +kernel, o58 _ (by decide), fun _ e => ?_⟩
  subst e
  refine ⟨by decide +kernel, o58 _ (by decide), fun _ e _ e2 => ?_⟩
  subst e e2
  refine ⟨by decide +kernel, o58 _ (by decide), fun _ e => ?_⟩
  subst e
  refine ⟨by decide +kernel, o58 _ (by decide), fun _ e => ?_⟩
  subst e
  refine ⟨by decide +kernel, o58 _ (by decide), fun _ e _ e2 => ?_⟩
  subst e e2
  refine ⟨o9 _ (by decide), fun C50 e => ?_⟩
  have e1 : C50 = CF3 := e
  subst e1
  clear e
  refine ⟨by decide +kernel, by decide, ?_⟩
  show P_Ws_init 68 CF3 ((67 : Nat) : Int) _
  have o67 : ∀ k : Nat, 68 ≤ k → okO k ((67 : Nat) : Int) 8 := fun k hk => ⟨by decide, by omega, by decide +kernel⟩
  unfold P_Ws_init
  simp only [Int.toNat_natCast]
  refine ⟨by decide, by decide +kernel, o67 _ (by decide), fun _ e => ?_⟩
  subst e
  refine ⟨by decide +kernel, o67 _ (by decide), fun _ e => ?_⟩
  subst e
  refine ⟨by decide +kernel, o67 _ (by decide), fun _ e => ?_⟩
  subst e
  refine ⟨o9 _ (by decide), fun C58 e => ?_⟩
  have e1 : C58 = CF4 := e
  subst e1
  clear e
  refine ⟨by decide +kernel, by decide, ?_⟩
  show P_Bl_init 72 CF4 ((71 : Nat) : Int) _
  unfold P_Bl_init
  simp only [Int.toNat_natCast]
  refine ⟨by decide, ⟨by decide, by decide, by decide +kernel⟩, fun _ e => ?_⟩
  subst e
  refine ⟨o9 _ (by decide), fun C66 e => ?_⟩
  have e1 : C66 = CF5 := e
  subst e1
  clear e
  refine ⟨by decide +kernel, by decide, ?_⟩
  show P_Re_init 73 CF5 ((72 : Nat) : Int) _
  have o72 : ∀ k : Nat, 73 ≤ k → okO k ((72 : Nat) : Int) 3 := fun k hk => ⟨by decide, by omega, by decide +kernel⟩
  unfold P_Re_init P_Wa_init
  simp only [Int.toNat_natCast]
  refine ⟨by decide, by decide +kernel, o72 _ (by decide), fun _ e => ?_⟩
  subst e
  refine ⟨by decide +kernel, by decide, by decide, o72 _ (by decide), fun _ e => ?_⟩
  subst e
  refine ⟨by decide +kernel, o72 _ (by decide), fun _ e => ?_⟩
  subst e
  refine ⟨o9 _ (by decide), fun C74 e => ?_⟩
  have e1 : C74 = CF6 := e
  subst e1
  clear e
  refine ⟨by decide +kernel, by decide, by decide, o9 _ (by decide), fun _ e => ?_⟩
  subst e
  refine ⟨by decide +kernel, o9 _ (by decide), fun C85 e => ?_⟩
  have e1 : C85 = CF7 := e
  subst e1
  clear e
  refine ⟨by decide +kernel, by decide, ?_⟩
  show P_Sp_init 79 CF7 ((78 : Nat) : Int) _
  have o78 : ∀ k : Nat, 79 ≤ k → okO k ((78 : Nat) : Int) 6 := fun k hk => ⟨by decide, by omega, by decide +kernel⟩
  unfold P_Sp_init
  simp only [Int.toNat_natCast]
  refine ⟨by decide, by decide +kernel, o78 _ (by decide), fun _ e => ?_⟩
  subst e
  refine ⟨by decide +kernel, o78 _ (by decide), fun _ e => ?_⟩
  subst e
  refine ⟨o9 _ (by decide), fun _ e => ?_⟩
  subst e
  refine ⟨by decide +kernel, o9 _ (by decide), fun _ e => ?_⟩
  subst e
  refine ⟨by decide +kernel, o9 _ (by decide), fun C99 e => ?_⟩
  have e1 : C99 = CF8 := e
  subst e1
  exact i_sh (by decide +kernel) hs
