/-! my own: what the reference's segments answer -/
theorem ahd_ite (x y u v : Int) : (if x < u then (1 : Int) else (if x = u then (if v ≤ y then 0 else 1) else 0)) = bI (ahd x y u v) := by
  unfold bI ahd
  split <;> split <;> (try split) <;> (try split) <;> omega
theorem g_isAhead {n : Nat} {C : Cn} {x y u v : Int} {Q : Int → Prop} (h : Q (bI (ahd x y u v))) : P_G_isAhead n C x y u v Q := by
  unfold P_G_isAhead J_G_isAhead_20
  rw [ahd_ite]
  exact ⟨bI_or, h⟩
theorem g_in {n : Nat} {C : Cn} {v a b : Int} {Q : Int → Prop} (h : Q (bI (a ≤ v ∧ v ≤ b))) : P_G_in n C v a b Q := by
  refine ⟨fun h1 => use_Q h (bI_f (by omega)), fun h1 => ?_⟩
  unfold J_G_in_18
  have e : (if b < v then (0 : Int) else 1) = bI (a ≤ v ∧ v ≤ b) := by
    unfold bI
    split <;> split <;> omega
  rw [e]
  exact ⟨bI_or, h⟩
theorem g_isPoint {n : Nat} {C : Cn} {x y : Int} {Q : Int → Prop} (h : Q (bI (bd x ∧ bd y))) : P_G_isPoint n C x y Q := by
  refine g_in ⟨fun h1 => ?_, fun h1 => g_in ?_⟩
  · rw [bI_0] at h1
    exact use_Q h (bI_f (fun q => h1 q.1))
  · rw [bI_0, Decidable.not_not] at h1
    unfold J_G_isPoint_33
    rw [ite_01]
    exact ⟨bI_or, use_Q h (bI_iff ⟨fun q => q.2, fun q => ⟨h1, q⟩⟩)⟩
/-- a row of six numbers of the reference, its points within bounds -/
def gr (n : Nat) (a : Int) : Prop := okO n a 12 ∧ (LAY a.toNat).2 = 6
def gb (n : Nat) (C : Cn) (a : Int) : Prop := gr n a ∧ bd (C a.toNat 2) ∧ bd (C a.toNat 3) ∧ bd (C a.toNat 4) ∧ bd (C a.toNat 5)
theorem gr.i {n : Nat} {a : Int} (h : gr n a) {k : Int} (h0 : 0 ≤ k) (h1 : k < 6) : okI a k := ⟨h0, by rw [h.2]; omega⟩
theorem g_side {n : Nat} {C : Cn} {a px py : Int} {Q : Int → Prop} (hw : gb n C a) (hp : bd px) (hq : bd py) (h : Q (tC C a px py)) : P_G_side n C a px py Q := by
  obtain ⟨h0, h1, h2, h3, h4⟩ := hw
  refine ⟨h0.1, h0.i (by decide) (by decide), h0.i (by decide) (by decide), h0.i (by decide) (by decide), h0.i (by decide) (by decide), ?_⟩
  unfold P_G_turn
  rw [w32_trn h1 h2 h3 h4 hp hq]
  exact h
theorem g_isEnd {n : Nat} {C : Cn} {a px py : Int} {Q : Int → Prop} (h0 : gr n a) (h : Q (bI (cEn C a px py))) : P_G_isEnd n C a px py Q := by
  have tail : ¬ (px = C a.toNat 2 ∧ py = C a.toNat 3) → J_G_isEnd_14 n C a px py Q := by
    intro k
    refine ⟨h0.1, h0.i (by decide) (by decide), fun h1 => ⟨h0.i (by decide) (by decide), ?_⟩, fun h1 => ?_⟩
    · unfold J_G_isEnd_33
      have e : (if C a.toNat 5 = py then (1 : Int) else 0) = bI (cEn C a px py) := by
        unfold bI cEn
        split <;> split <;> omega
      rw [e]
      exact ⟨bI_or, h⟩
    · exact use_Q h (bI_f (fun q => by rcases q with q | q; exact k q; exact h1 q.1.symm))
  refine ⟨h0.1, h0.i (by decide) (by decide), fun h1 => ⟨h0.i (by decide) (by decide), fun h2 => ?_, fun h2 => tail (fun q => h2 q.2.symm)⟩, fun h1 => tail (fun q => h1 q.1.symm)⟩
  exact use_Q h (bI_t (Or.inl ⟨h1.symm, h2.symm⟩))
theorem g_isOn {n : Nat} {C : Cn} {a px py : Int} {Q : Int → Prop} (hw : gb n C a) (hp : bd px) (hq : bd py) (h : Q (bI (cOn C a px py))) : P_G_isOn n C a px py Q := by
  have h0 := hw.1
  refine g_side hw hp hq ⟨fun h1 => ⟨h0.1, h0.i (by decide) (by decide), h0.i (by decide) (by decide), g_isAhead ⟨fun h2 => ⟨h0.i (by decide) (by decide), h0.i (by decide) (by decide), g_isAhead ?_⟩, fun h2 => ?_⟩⟩, fun h1 => ?_⟩
  · rw [bI_0] at h2
    unfold J_G_isOn_42
    rw [ite_10]
    exact ⟨bI_or, use_Q h (bI_iff ⟨fun q => q.2.2, fun q => ⟨h1, h2, q⟩⟩)⟩
  · rw [bI_0, Decidable.not_not] at h2
    exact use_Q h (bI_f (fun q => q.2.1 h2))
  · exact use_Q h (bI_f (fun q => h1 q.1))
theorem g_areApartSides {n : Nat} {C : Cn} {x y : Int} {Q : Int → Prop} (h : Q (bI (op2 x y))) : P_G_areApartSides n C x y Q := by
  unfold P_G_areApartSides J_G_areApartSides_21
  have e : (if x ≤ 0 then (if 0 ≤ x then (0 : Int) else (if y ≤ 0 then 0 else 1)) else (if y < 0 then 1 else (if 0 ≤ x then 0 else (if y ≤ 0 then 0 else 1)))) = bI (op2 x y) := by
    unfold bI op2
    split <;> split <;> (try split) <;> (try split) <;> (try split) <;> omega
  rw [e]
  exact ⟨bI_or, h⟩
theorem g_doCross {n : Nat} {C : Cn} {a b : Int} {Q : Int → Prop} (ha : gb n C a) (hb : gb n C b) (h : Q (bI (cCr C a b))) : P_G_doCross n C a b Q := by
  have a0 := ha.1
  have b0 := hb.1
  refine ⟨b0.1, b0.i (by decide) (by decide), b0.i (by decide) (by decide), g_side ha hb.2.1 hb.2.2.1 ⟨b0.i (by decide) (by decide), b0.i (by decide) (by decide), g_side ha hb.2.2.2.1 hb.2.2.2.2 (g_areApartSides ⟨fun h1 => ?_, fun h1 => ⟨a0.1, a0.i (by decide) (by decide), a0.i (by decide) (by decide), g_side hb ha.2.1 ha.2.2.1 ⟨a0.i (by decide) (by decide), a0.i (by decide) (by decide), g_side hb ha.2.2.2.1 ha.2.2.2.2 (g_areApartSides ?_)⟩⟩⟩)⟩⟩
  · rw [bI_0] at h1
    exact use_Q h (bI_f (fun q => h1 q.1))
  · rw [bI_0, Decidable.not_not] at h1
    unfold J_G_doCross_57
    rw [ite_01]
    exact ⟨bI_or, use_Q h (bI_iff ⟨fun q => q.2, fun q => ⟨h1, q⟩⟩)⟩
/-- the reference asks in another order -/
theorem g_hasEndOn {n : Nat} {C : Cn} {a b : Int} {Q : Int → Prop} (ha : gb n C a) (hb : gb n C b) (h : Q (bI (cTo C b a))) : P_G_hasEndOn n C a b Q := by
  have a0 := ha.1
  have b0 := hb.1
  refine ⟨a0.1, a0.i (by decide) (by decide), a0.i (by decide) (by decide), g_isOn hb ha.2.1 ha.2.2.1 ⟨fun h1 => ⟨a0.i (by decide) (by decide), a0.i (by decide) (by decide), g_isOn hb ha.2.2.2.1 ha.2.2.2.2 ⟨fun h2 => ⟨b0.1, b0.i (by decide) (by decide), b0.i (by decide) (by decide), g_isOn ha hb.2.1 hb.2.2.1 ⟨fun h3 => ⟨b0.i (by decide) (by decide), b0.i (by decide) (by decide), g_isOn ha hb.2.2.2.1 hb.2.2.2.2 ?_⟩, fun h3 => ?_⟩⟩, fun h2 => ?_⟩⟩, fun h1 => ?_⟩⟩
  · rw [bI_0] at h1 h2 h3
    unfold J_G_hasEndOn_57
    rw [ite_01]
    refine ⟨bI_or, use_Q h (bI_iff ⟨fun q => ?_, fun q => Or.inr (Or.inr (Or.inr q))⟩)⟩
    rcases q with q | q | q | q
    · exact absurd q h1
    · exact absurd q h2
    · exact absurd q h3
    · exact q
  · rw [bI_0, Decidable.not_not] at h3
    exact use_Q h (bI_t (Or.inr (Or.inr (Or.inl h3))))
  · rw [bI_0, Decidable.not_not] at h2
    exact use_Q h (bI_t (Or.inr (Or.inl h2)))
  · rw [bI_0, Decidable.not_not] at h1
    exact use_Q h (bI_t (Or.inl h1))
abbrev cLi (C : Cn) (a b : Int) : Prop := tC C a (C b.toNat 2) (C b.toNat 3) = 0 ∧ tC C a (C b.toNat 4) (C b.toNat 5) = 0
theorem g_areInLine {n : Nat} {C : Cn} {a b : Int} {Q : Int → Prop} (ha : gb n C a) (hb : gb n C b) (h : Q (bI (cLi C a b))) : P_G_areInLine n C a b Q := by
  have b0 := hb.1
  refine ⟨b0.1, b0.i (by decide) (by decide), b0.i (by decide) (by decide), g_side ha hb.2.1 hb.2.2.1 ⟨fun h1 => ⟨b0.i (by decide) (by decide), b0.i (by decide) (by decide), g_side ha hb.2.2.2.1 hb.2.2.2.2 ?_⟩, fun h1 => ?_⟩⟩
  · unfold J_G_areInLine_31
    have e : (if tC C a (C b.toNat 4) (C b.toNat 5) = 0 then (1 : Int) else 0) = bI (cLi C a b) := by
      by_cases h2 : tC C a (C b.toNat 4) (C b.toNat 5) = 0
      · rw [if_pos h2, bI_t ⟨h1, h2⟩]
      · rw [if_neg h2, bI_f (fun q => h2 q.2)]
    rw [e]
    exact ⟨bI_or, h⟩
  · exact use_Q h (bI_f (fun q => h1 q.1))
abbrev cOl (C : Cn) (a b : Int) : Prop := ahd (C a.toNat 2) (C a.toNat 3) (C b.toNat 4) (C b.toNat 5) ∧ ahd (C b.toNat 2) (C b.toNat 3) (C a.toNat 4) (C a.toNat 5)
theorem g_overlap {n : Nat} {C : Cn} {a b : Int} {Q : Int → Prop} (a0 : gr n a) (b0 : gr n b) (h : Q (bI (cOl C a b))) : P_G_overlap n C a b Q := by
  refine ⟨a0.1, a0.i (by decide) (by decide), a0.i (by decide) (by decide), b0.1, b0.i (by decide) (by decide), b0.i (by decide) (by decide), g_isAhead ⟨fun h1 => ?_, fun h1 => ⟨b0.i (by decide) (by decide), b0.i (by decide) (by decide), a0.i (by decide) (by decide), a0.i (by decide) (by decide), g_isAhead ?_⟩⟩⟩
  · rw [bI_0] at h1
    exact use_Q h (bI_f (fun q => h1 q.1))
  · rw [bI_0, Decidable.not_not] at h1
    unfold J_G_overlap_41
    rw [ite_01]
    exact ⟨bI_or, use_Q h (bI_iff ⟨fun q => q.2, fun q => ⟨h1, q⟩⟩)⟩
abbrev cRs (C : Cn) (a b : Int) : Prop := (cOn C b (C a.toNat 2) (C a.toNat 3) ∧ ¬ cEn C b (C a.toNat 2) (C a.toNat 3)) ∨ (cOn C b (C a.toNat 4) (C a.toNat 5) ∧ ¬ cEn C b (C a.toNat 4) (C a.toNat 5))
theorem g_rests {n : Nat} {C : Cn} {a b : Int} {Q : Int → Prop} (ha : gb n C a) (hb : gb n C b) (h : Q (bI (cRs C a b))) : P_G_rests n C a b Q := by
  have a0 := ha.1
  have tail : ¬ (cOn C b (C a.toNat 2) (C a.toNat 3) ∧ ¬ cEn C b (C a.toNat 2) (C a.toNat 3)) → J_G_rests_26 n C a b Q := by
    intro k
    refine ⟨a0.1, a0.i (by decide) (by decide), a0.i (by decide) (by decide), g_isOn hb ha.2.2.2.1 ha.2.2.2.2 ⟨fun h1 => ?_, fun h1 => g_isEnd hb.1 ?_⟩⟩
    · rw [bI_0] at h1
      exact use_Q h (bI_f (fun q => by rcases q with q | q; exact k q; exact h1 q.1))
    · rw [bI_0, Decidable.not_not] at h1
      unfold J_G_rests_57
      rw [ite_10]
      exact ⟨bI_or, use_Q h (bI_iff ⟨fun q => (q.resolve_left k).2, fun q => Or.inr ⟨h1, q⟩⟩)⟩
  refine ⟨a0.1, a0.i (by decide) (by decide), a0.i (by decide) (by decide), g_isOn hb ha.2.1 ha.2.2.1 ⟨fun h1 => ?_, fun h1 => g_isEnd hb.1 ⟨fun h2 => ?_, fun h2 => ?_⟩⟩⟩
  · rw [bI_0] at h1
    exact tail (fun q => h1 q.1)
  · rw [bI_0, Decidable.not_not] at h1
    rw [bI_0] at h2
    exact use_Q h (bI_t (Or.inl ⟨h1, h2⟩))
  · rw [bI_0, Decidable.not_not] at h2
    exact tail (fun q => q.2 h2)
def cAg (C : Cn) (a b : Int) : Prop := (cLi C a b → ¬ cOl C a b) ∧ (¬ cLi C a b → ¬ cCr C a b ∧ ¬ cRs C a b ∧ ¬ cRs C b a)
theorem g_areApart {n : Nat} {C : Cn} {a b : Int} {Q : Int → Prop} [Decidable (cAg C a b)] (ha : gb n C a) (hb : gb n C b) (h : Q (bI (cAg C a b))) : P_G_areApart n C a b Q := by
  refine g_areInLine ha hb ⟨fun h1 => g_doCross ha hb ⟨fun h2 => g_rests ha hb ⟨fun h3 => g_rests hb ha ?_, fun h3 => ?_⟩, fun h2 => ?_⟩, fun h1 => g_overlap ha.1 hb.1 ?_⟩
  · rw [bI_0] at h1 h2 h3
    unfold J_G_areApart_51
    rw [ite_10]
    exact ⟨bI_or, use_Q h (bI_iff ⟨fun q => (q.2 h1).2.2, fun q => ⟨fun k => absurd k h1, fun _ => ⟨h2, h3, q⟩⟩⟩)⟩
  · rw [bI_0] at h1
    rw [bI_0, Decidable.not_not] at h3
    exact use_Q h (bI_f (fun q => (q.2 h1).2.1 h3))
  · rw [bI_0] at h1
    rw [bI_0, Decidable.not_not] at h2
    exact use_Q h (bI_f (fun q => (q.2 h1).1 h2))
  · rw [bI_0, Decidable.not_not] at h1
    unfold J_G_areApart_21
    rw [ite_10]
    exact ⟨bI_or, use_Q h (bI_iff ⟨fun q => q.1 h1, fun q => ⟨fun _ => q, fun k => absurd h1 k⟩⟩)⟩
