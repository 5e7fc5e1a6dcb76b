/-! my own: what the class's SEGMENTS answer -/
def bI (p : Prop) [Decidable p] : Int := if p then 1 else 0
theorem bI_0 {p : Prop} [Decidable p] : bI p = 0 ↔ ¬ p := by
  unfold bI
  by_cases h : p <;> simp [h]
theorem bI_1 {p : Prop} [Decidable p] : bI p = 1 ↔ p := by
  unfold bI
  by_cases h : p <;> simp [h]
theorem bI_t {p : Prop} [Decidable p] (h : p) : bI p = 1 := if_pos h
theorem bI_f {p : Prop} [Decidable p] (h : ¬ p) : bI p = 0 := if_neg h
theorem bI_or {p : Prop} [Decidable p] : bI p = 0 ∨ bI p = 1 := by
  by_cases h : p
  · exact Or.inr (bI_t h)
  · exact Or.inl (bI_f h)
theorem bI_iff {p q : Prop} [Decidable p] [Decidable q] (h : p ↔ q) : bI p = bI q := by
  by_cases hp : p
  · rw [bI_t hp, bI_t (h.mp hp)]
  · rw [bI_f hp, bI_f (fun q => hp (h.mpr q))]
theorem use_Q {Q : Int → Prop} {x y : Int} (h : Q x) (e : x = y) : Q y := e ▸ h
/-- lexicographic order of points -/
abbrev ahd (x y u v : Int) : Prop := x < u ∨ (x = u ∧ y < v)
abbrev bd (x : Int) : Prop := -99 ≤ x ∧ x ≤ 99
theorem mul_bd {a b : Int} (ha : -198 ≤ a ∧ a ≤ 198) (hb : -198 ≤ b ∧ b ≤ 198) : -39204 ≤ a * b ∧ a * b ≤ 39204 := by
  have h1 : 0 ≤ (198 - a) * (198 + b) := Int.mul_nonneg (by omega) (by omega)
  have h2 : 0 ≤ (198 + a) * (198 - b) := Int.mul_nonneg (by omega) (by omega)
  have h3 : 0 ≤ (198 - a) * (198 - b) := Int.mul_nonneg (by omega) (by omega)
  have h4 : 0 ≤ (198 + a) * (198 + b) := Int.mul_nonneg (by omega) (by omega)
  have e1 : (198 - a) * (198 + b) = 39204 + 198 * b - 198 * a - a * b := by grind
  have e2 : (198 + a) * (198 - b) = 39204 - 198 * b + 198 * a - a * b := by grind
  have e3 : (198 - a) * (198 - b) = 39204 - 198 * b - 198 * a + a * b := by grind
  have e4 : (198 + a) * (198 + b) = 39204 + 198 * b + 198 * a + a * b := by grind
  omega
theorem w32_trn {x y u v px py : Int} (hx : bd x) (hy : bd y) (hu : bd u) (hv : bd v) (hp : bd px) (hq : bd py) : w32 (w32 ((w32 (u - x)) * (w32 (py - y))) - (w32 ((w32 (v - y)) * (w32 (px - x))))) = trn x y u v px py := by
  dsimp only [bd] at *
  rw [w32_id (x := u - x) (by omega) (by omega), w32_id (x := py - y) (by omega) (by omega), w32_id (x := v - y) (by omega) (by omega), w32_id (x := px - x) (by omega) (by omega)]
  have h1 := mul_bd (a := u - x) (b := py - y) (by omega) (by omega)
  have h2 := mul_bd (a := v - y) (b := px - x) (by omega) (by omega)
  rw [w32_id (x := (u - x) * (py - y)) (by omega) (by omega), w32_id (x := (v - y) * (px - x)) (by omega) (by omega), w32_id (by omega) (by omega)]
  rfl
/-- a wall of the class: its cell, within bounds -/
def wb (n : Nat) (C : Cn) (a : Int) : Prop := okO n a 7 ∧ bd (C a.toNat 2) ∧ bd (C a.toNat 3) ∧ bd (C a.toNat 4) ∧ bd (C a.toNat 5)
abbrev tC (C : Cn) (a : Int) (px py : Int) : Int := trn (C a.toNat 2) (C a.toNat 3) (C a.toNat 4) (C a.toNat 5) px py
theorem f_isAhead {n : Nat} {C : Cn} {x y u v : Int} {Q : Int → Prop} (h : Q (bI (ahd x y u v))) : P_Wa_isAhead n C x y u v Q := by
  unfold P_Wa_isAhead J_Wa_isAhead_20
  have e : (if x < u then 1 else (if x = u then (if v ≤ y then 0 else 1) else 0)) = bI (ahd x y u v) := by
    unfold bI ahd
    split <;> split <;> (try split) <;> (try split) <;> omega
  rw [e]
  exact ⟨bI_or, h⟩
theorem f_turnTo {n : Nat} {C : Cn} {a px py : Int} {Q : Int → Prop} (hw : wb n C a) (hp : bd px) (hq : bd py) (h : Q (tC C a px py)) : P_Wa_turnTo n C a px py Q := by
  obtain ⟨h0, h1, h2, h3, h4⟩ := hw
  refine ⟨h0, ?_⟩
  rw [w32_trn h1 h2 h3 h4 hp hq]
  exact h
theorem f_areOpposite {n : Nat} {C : Cn} {x y : Int} {Q : Int → Prop} (h : Q (bI ((x < 0 ∧ 0 < y) ∨ (0 < x ∧ y < 0)))) : P_Wa_areOpposite n C x y Q := by
  unfold P_Wa_areOpposite J_Wa_areOpposite_21
  have e : (if 0 ≤ x then (if x ≤ 0 then 0 else (if 0 ≤ y then 0 else 1)) else (if 0 < y then 1 else (if x ≤ 0 then 0 else (if 0 ≤ y then 0 else 1)))) = bI ((x < 0 ∧ 0 < y) ∨ (0 < x ∧ y < 0)) := by
    unfold bI
    split <;> split <;> (try split) <;> (try split) <;> (try split) <;> omega
  rw [e]
  exact ⟨bI_or, h⟩
theorem f_isEnd {n : Nat} {C : Cn} {a px py : Int} {Q : Int → Prop} (h0 : okO n a 7) (h : Q (bI ((px = C a.toNat 2 ∧ py = C a.toNat 3) ∨ (px = C a.toNat 4 ∧ py = C a.toNat 5)))) : P_Wa_isEnd n C a px py Q := by
  unfold P_Wa_isEnd J_Wa_isEnd_37
  have e : (if px = C a.toNat 2 then (if py = C a.toNat 3 then 1 else (if px = C a.toNat 4 then (if py = C a.toNat 5 then 1 else 0) else 0)) else (if px = C a.toNat 4 then (if py = C a.toNat 5 then 1 else 0) else 0)) = bI ((px = C a.toNat 2 ∧ py = C a.toNat 3) ∨ (px = C a.toNat 4 ∧ py = C a.toNat 5)) := by
    unfold bI
    split <;> split <;> (try split) <;> (try split) <;> (try split) <;> omega
  rw [e]
  exact ⟨h0, bI_or, h⟩
theorem ite_01 {p : Prop} [Decidable p] : (if bI p = 0 then (0 : Int) else 1) = bI p := by
  by_cases h : p
  · rw [bI_t h]; rfl
  · rw [bI_f h]; rfl
theorem ite_10 {p : Prop} [Decidable p] : (if bI p = 0 then (1 : Int) else 0) = bI (¬ p) := by
  by_cases h : p
  · rw [bI_t h, bI_f (fun q => q h)]; rfl
  · rw [bI_f h, bI_t h]; rfl
abbrev cIn (C : Cn) (a px py : Int) : Prop := tC C a px py = 0 ∧ ahd (C a.toNat 2) (C a.toNat 3) px py ∧ ahd px py (C a.toNat 4) (C a.toNat 5)
abbrev cOn (C : Cn) (a px py : Int) : Prop := tC C a px py = 0 ∧ ¬ ahd px py (C a.toNat 2) (C a.toNat 3) ∧ ¬ ahd (C a.toNat 4) (C a.toNat 5) px py
theorem f_carriesInside {n : Nat} {C : Cn} {a px py : Int} {Q : Int → Prop} (hw : wb n C a) (hp : bd px) (hq : bd py) (h : Q (bI (cIn C a px py))) : P_Wa_carriesInside n C a px py Q := by
  refine ⟨hw.1, f_turnTo hw hp hq ⟨fun h1 => f_isAhead ⟨fun h2 => ?_, fun h2 => f_isAhead ?_⟩, fun h1 => ?_⟩⟩
  · rw [bI_0] at h2
    exact use_Q h (bI_f (fun q => h2 q.2.1))
  · rw [bI_0, Decidable.not_not] at h2
    unfold J_Wa_carriesInside_46
    rw [ite_01]
    exact ⟨bI_or, use_Q h (bI_iff ⟨fun q => q.2.2, fun q => ⟨h1, h2, q⟩⟩)⟩
  · exact use_Q h (bI_f (fun q => h1 q.1))
theorem f_carries {n : Nat} {C : Cn} {a px py : Int} {Q : Int → Prop} (hw : wb n C a) (hp : bd px) (hq : bd py) (h : Q (bI (cOn C a px py))) : P_Wa_carries n C a px py Q := by
  refine ⟨hw.1, f_turnTo hw hp hq ⟨fun h1 => f_isAhead ⟨fun h2 => f_isAhead ?_, fun h2 => ?_⟩, fun h1 => ?_⟩⟩
  · rw [bI_0] at h2
    unfold J_Wa_carries_46
    rw [ite_10]
    exact ⟨bI_or, use_Q h (bI_iff ⟨fun q => q.2.2, fun q => ⟨h1, h2, q⟩⟩)⟩
  · rw [bI_0, Decidable.not_not] at h2
    exact use_Q h (bI_f (fun q => q.2.1 h2))
  · exact use_Q h (bI_f (fun q => h1 q.1))
abbrev cTo (C : Cn) (a b : Int) : Prop := cOn C a (C b.toNat 2) (C b.toNat 3) ∨ cOn C a (C b.toNat 4) (C b.toNat 5) ∨ cOn C b (C a.toNat 2) (C a.toNat 3) ∨ cOn C b (C a.toNat 4) (C a.toNat 5)
abbrev op2 (x y : Int) : Prop := (x < 0 ∧ 0 < y) ∨ (0 < x ∧ y < 0)
abbrev cCr (C : Cn) (a b : Int) : Prop := op2 (tC C a (C b.toNat 2) (C b.toNat 3)) (tC C a (C b.toNat 4) (C b.toNat 5)) ∧ op2 (tC C b (C a.toNat 2) (C a.toNat 3)) (tC C b (C a.toNat 4) (C a.toNat 5))
theorem f_touches {n : Nat} {C : Cn} {a b : Int} {Q : Int → Prop} (ha : wb n C a) (hb : wb n C b) (h : Q (bI (cTo C a b))) : P_Wa_touches n C a b Q := by
  refine ⟨hb.1, ha.1, f_carries ha hb.2.1 hb.2.2.1 ⟨fun h1 => f_carries ha hb.2.2.2.1 hb.2.2.2.2 ⟨fun h2 => f_carries hb ha.2.1 ha.2.2.1 ⟨fun h3 => f_carries hb ha.2.2.2.1 ha.2.2.2.2 ?_, fun h3 => ?_⟩, fun h2 => ?_⟩, fun h1 => ?_⟩⟩
  · rw [bI_0] at h1 h2 h3
    unfold J_Wa_touches_65
    rw [ite_01]
    refine ⟨bI_or, use_Q h (bI_iff ⟨fun q => ?_, fun q => Or.inr (Or.inr (Or.inr q))⟩)⟩
    rcases q with q | q | q | q
    · exact absurd q h1
    · exact absurd q h2
    · exact absurd q h3
    · exact q
  · rw [bI_0, Decidable.not_not] at h3
    exact use_Q h (bI_t (Or.inr (Or.inr (Or.inl h3))))
  · rw [bI_0, Decidable.not_not] at h2
    exact use_Q h (bI_t (Or.inr (Or.inl h2)))
  · rw [bI_0, Decidable.not_not] at h1
    exact use_Q h (bI_t (Or.inl h1))
theorem f_crosses {n : Nat} {C : Cn} {a b : Int} {Q : Int → Prop} (ha : wb n C a) (hb : wb n C b) (h : Q (bI (cCr C a b))) : P_Wa_crosses n C a b Q := by
  refine ⟨hb.1, ha.1, f_turnTo ha hb.2.1 hb.2.2.1 (f_turnTo ha hb.2.2.2.1 hb.2.2.2.2 (f_areOpposite ⟨fun h1 => ?_, fun h1 => f_turnTo hb ha.2.1 ha.2.2.1 (f_turnTo hb ha.2.2.2.1 ha.2.2.2.2 (f_areOpposite ?_))⟩))⟩
  · rw [bI_0] at h1
    exact use_Q h (bI_f (fun q => h1 q.1))
  · rw [bI_0, Decidable.not_not] at h1
    unfold J_Wa_crosses_65
    rw [ite_01]
    exact ⟨bI_or, use_Q h (bI_iff ⟨fun q => q.2, fun q => ⟨h1, q⟩⟩)⟩
theorem f_meets {n : Nat} {C : Cn} {a b : Int} {Q : Int → Prop} (ha : wb n C a) (hb : wb n C b) (h : Q (bI (cTo C a b ∨ cCr C a b))) : P_Wa_meets n C a b Q := by
  refine ⟨ha.1, f_touches ha hb ⟨fun h1 => f_crosses ha hb ?_, fun h1 => ?_⟩⟩
  · rw [bI_0] at h1
    unfold J_Wa_meets_21
    rw [ite_01]
    exact ⟨bI_or, use_Q h (bI_iff ⟨fun q => q.resolve_left h1, Or.inr⟩)⟩
  · rw [bI_0, Decidable.not_not] at h1
    exact use_Q h (bI_t (Or.inl h1))
abbrev cEn (C : Cn) (a px py : Int) : Prop := (px = C a.toNat 2 ∧ py = C a.toNat 3) ∨ (px = C a.toNat 4 ∧ py = C a.toNat 5)
abbrev cAp (C : Cn) (a b : Int) : Prop := ¬ cCr C a b ∧ ¬ (cEn C a (C b.toNat 2) (C b.toNat 3) ∧ cEn C a (C b.toNat 4) (C b.toNat 5)) ∧ ¬ cIn C a (C b.toNat 2) (C b.toNat 3) ∧ ¬ cIn C a (C b.toNat 4) (C b.toNat 5) ∧ ¬ cIn C b (C a.toNat 2) (C a.toNat 3) ∧ ¬ cIn C b (C a.toNat 4) (C a.toNat 5)
theorem f_isApartFrom {n : Nat} {C : Cn} {a b : Int} {Q : Int → Prop} (ha : wb n C a) (hb : wb n C b) (h : Q (bI (cAp C a b))) : P_Wa_isApartFrom n C a b Q := by
  have tail : ¬ cCr C a b → ¬ (cEn C a (C b.toNat 2) (C b.toNat 3) ∧ cEn C a (C b.toNat 4) (C b.toNat 5)) → J_Wa_isApartFrom_40 n C a b Q := by
    intro k1 k2
    refine ⟨hb.1, ha.1, f_carriesInside ha hb.2.1 hb.2.2.1 ⟨fun h1 => f_carriesInside ha hb.2.2.2.1 hb.2.2.2.2 ⟨fun h2 => f_carriesInside hb ha.2.1 ha.2.2.1 ⟨fun h3 => f_carriesInside hb ha.2.2.2.1 ha.2.2.2.2 ?_, fun h3 => ?_⟩, fun h2 => ?_⟩, fun h1 => ?_⟩⟩
    · rw [bI_0] at h1 h2 h3
      unfold J_Wa_isApartFrom_105
      rw [ite_10]
      exact ⟨bI_or, use_Q h (bI_iff ⟨fun q => q.2.2.2.2.2, fun q => ⟨k1, k2, h1, h2, h3, q⟩⟩)⟩
    · rw [bI_0, Decidable.not_not] at h3
      exact use_Q h (bI_f (fun q => q.2.2.2.2.1 h3))
    · rw [bI_0, Decidable.not_not] at h2
      exact use_Q h (bI_f (fun q => q.2.2.2.1 h2))
    · rw [bI_0, Decidable.not_not] at h1
      exact use_Q h (bI_f (fun q => q.2.2.1 h1))
  refine ⟨ha.1, f_crosses ha hb ⟨fun h1 => ⟨hb.1, f_isEnd ha.1 ⟨fun h2 => ?_, fun h2 => f_isEnd ha.1 ⟨fun h3 => ?_, fun h3 => ?_⟩⟩⟩, fun h1 => ?_⟩⟩
  · rw [bI_0] at h1 h2
    exact tail h1 (fun q => h2 q.1)
  · rw [bI_0] at h1 h3
    exact tail h1 (fun q => h3 q.2)
  · rw [bI_0, Decidable.not_not] at h2 h3
    exact use_Q h (bI_f (fun q => q.2.1 ⟨h2, h3⟩))
  · rw [bI_0, Decidable.not_not] at h1
    exact use_Q h (bI_f (fun q => q.1 h1))
abbrev cOv (C : Cn) (a b : Int) : Prop :=
  if C a.toNat 2 = C b.toNat 2 ∧ C a.toNat 3 = C b.toNat 3 then (if ahd (C a.toNat 4) (C a.toNat 5) (C b.toNat 4) (C b.toNat 5) then 0 < tC C b (C a.toNat 4) (C a.toNat 5) else tC C a (C b.toNat 4) (C b.toNat 5) < 0)
  else if ahd (C b.toNat 2) (C b.toNat 3) (C a.toNat 2) (C a.toNat 3) then 0 < tC C b (C a.toNat 2) (C a.toNat 3) else tC C a (C b.toNat 2) (C b.toNat 3) < 0
theorem ite_le {x : Int} : (if x ≤ 0 then (0 : Int) else 1) = bI (0 < x) := by
  unfold bI
  split <;> split <;> omega
theorem ite_ge {x : Int} : (if 0 ≤ x then (0 : Int) else 1) = bI (x < 0) := by
  unfold bI
  split <;> split <;> omega
theorem f_isOver {n : Nat} {C : Cn} {a b : Int} {Q : Int → Prop} (ha : wb n C a) (hb : wb n C b) (h : Q (bI (cOv C a b))) : P_Wa_isOver n C a b Q := by
  have tail : ¬ (C a.toNat 2 = C b.toNat 2 ∧ C a.toNat 3 = C b.toNat 3) → J_Wa_isOver_88 n C a b Q := by
    intro k1
    refine ⟨hb.1, ha.1, f_isAhead ⟨fun h1 => f_turnTo ha hb.2.1 hb.2.2.1 ?_, fun h1 => f_turnTo hb ha.2.1 ha.2.2.1 ?_⟩⟩
    · rw [bI_0] at h1
      unfold J_Wa_isOver_153
      rw [ite_ge]
      exact ⟨bI_or, use_Q h (bI_iff (by unfold cOv; rw [if_neg k1, if_neg h1]))⟩
    · rw [bI_0, Decidable.not_not] at h1
      unfold J_Wa_isOver_153
      rw [ite_le]
      exact ⟨bI_or, use_Q h (bI_iff (by unfold cOv; rw [if_neg k1, if_pos h1]))⟩
  refine ⟨ha.1, hb.1, fun h1 => ⟨fun h2 => f_isAhead ⟨fun h3 => f_turnTo ha hb.2.2.2.1 hb.2.2.2.2 ?_, fun h3 => f_turnTo hb ha.2.2.2.1 ha.2.2.2.2 ?_⟩, fun h2 => tail (fun q => h2 q.2)⟩, fun h1 => tail (fun q => h1 q.1)⟩
  · rw [bI_0] at h3
    unfold J_Wa_isOver_87
    rw [ite_ge]
    exact ⟨bI_or, use_Q h (bI_iff (by unfold cOv; rw [if_pos ⟨h1, h2⟩, if_neg h3]))⟩
  · rw [bI_0, Decidable.not_not] at h3
    unfold J_Wa_isOver_87
    rw [ite_le]
    exact ⟨bI_or, use_Q h (bI_iff (by unfold cOv; rw [if_pos ⟨h1, h2⟩, if_pos h3]))⟩
