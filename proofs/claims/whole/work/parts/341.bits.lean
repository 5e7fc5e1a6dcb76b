/-! my own: sets of at most six segments as bits -/
set_option maxRecDepth 20000 in
theorem b_has : ∀ S, S < 64 → ∀ i, i < 6 → and32 (shr32 (S : Nat) (i : Nat)) 1 = if Nat.testBit S i then 1 else 0 := by decide +kernel
set_option maxRecDepth 20000 in
theorem b_set : ∀ S, S < 64 → ∀ i, i < 6 → (S ||| 2 ^ i) < 64 ∧ or32 (S : Nat) (shl32 1 (i : Nat)) = ((S ||| 2 ^ i : Nat) : Int) ∧ ∀ t, t < 6 → Nat.testBit (S ||| 2 ^ i) t = (Nat.testBit S t || decide (t = i)) := by decide +kernel
set_option maxRecDepth 20000 in
theorem b_and2 : ∀ S, S < 64 → ∀ R, R < 64 → (S &&& R) < 64 ∧ and32 (S : Nat) (R : Nat) = ((S &&& R : Nat) : Int) := by decide +kernel
set_option maxRecDepth 20000 in
theorem b_del : ∀ S, S < 64 → ∀ i, i < 6 → (S &&& (63 - 2 ^ i)) < 64 ∧ and32 (S : Nat) (xor32 (shl32 1 (i : Nat)) (-1)) = ((S &&& (63 - 2 ^ i) : Nat) : Int) ∧ ∀ t, t < 6 → Nat.testBit (S &&& (63 - 2 ^ i)) t = (Nat.testBit S t && decide (t ≠ i)) := by decide +kernel
theorem b_all : ∀ m, m < 7 → (2 ^ m - 1) < 64 ∧ shl32 1 (m : Nat) = ((2 ^ m : Nat) : Int) ∧ ∀ t, t < 6 → Nat.testBit (2 ^ m - 1) t = decide (t < m) := by decide +kernel
set_option maxRecDepth 20000 in
theorem b_ext6 : ∀ S, S < 64 → ∀ R, R < 64 → (∀ t, t < 6 → Nat.testBit S t = Nat.testBit R t) → S = R := by decide +kernel
theorem b_63 : ∀ t, t < 6 → Nat.testBit 63 t = true := by decide +kernel
/-- v is the set p -/
def bS (v : Int) (p : Nat → Prop) : Prop := ∃ S : Nat, S < 64 ∧ v = (S : Int) ∧ ∀ u, u < 6 → (Nat.testBit S u = true ↔ p u)
theorem bS.iff {v : Int} {p q : Nat → Prop} (h : bS v p) (hq : ∀ u, u < 6 → (p u ↔ q u)) : bS v q := by
  obtain ⟨S, a, b, c⟩ := h
  exact ⟨S, a, b, fun u hu => (c u hu).trans (hq u hu)⟩
theorem bS.has {v : Int} {p : Nat → Prop} (h : bS v p) {i : Nat} (hi : i < 6) : (and32 (shr32 v (i : Int)) 1 = 1 ↔ p i) ∧ (and32 (shr32 v (i : Int)) 1 = 0 ↔ ¬ p i) := by
  obtain ⟨S, a, b, c⟩ := h
  rw [b, b_has S a i hi, ← c i hi]
  cases Nat.testBit S i
  · exact ⟨⟨fun q => (by cases q), fun q => (by cases q)⟩, ⟨fun _ q => (by cases q), fun _ => rfl⟩⟩
  · exact ⟨⟨fun _ => rfl, fun _ => rfl⟩, ⟨fun q => (by cases q), fun q => absurd rfl q⟩⟩
theorem bS.or {v : Int} {p : Nat → Prop} (h : bS v p) {i : Nat} (hi : i < 6) : bS (or32 v (shl32 1 (i : Int))) (fun u => p u ∨ u = i) := by
  obtain ⟨S, a, b, c⟩ := h
  obtain ⟨x, y, z⟩ := b_set S a i hi
  refine ⟨S ||| 2 ^ i, x, by rw [b, y], fun u hu => ?_⟩
  rw [z u hu, Bool.or_eq_true, c u hu, decide_eq_true_iff]
theorem bS.and {v w : Int} {p q : Nat → Prop} (h : bS v p) (h2 : bS w q) : bS (and32 v w) (fun u => p u ∧ q u) := by
  obtain ⟨S, a, b, c⟩ := h
  obtain ⟨R, a2, b2, c2⟩ := h2
  obtain ⟨x, y⟩ := b_and2 S a R a2
  refine ⟨S &&& R, x, by rw [b, b2, y], fun u hu => ?_⟩
  rw [Nat.testBit_and, Bool.and_eq_true, c u hu, c2 u hu]
theorem bS.zero {v : Int} {p : Nat → Prop} (h : bS v p) : v = 0 ↔ ∀ u, u < 6 → ¬ p u := by
  obtain ⟨S, a, b, c⟩ := h
  constructor
  · intro q u hu pu
    have e : S = 0 := by omega
    have := (c u hu).mpr pu
    rw [e, Nat.zero_testBit] at this
    cases this
  · intro q
    have e : S = 0 := b_ext6 S a 0 (by omega) (fun t ht => by
      rw [Nat.zero_testBit]
      cases hh : Nat.testBit S t
      · rfl
      · exact absurd ((c t ht).mp hh) (q t ht))
    rw [b, e]
    rfl
theorem bS.del {v : Int} {p : Nat → Prop} (h : bS v p) {i : Nat} (hi : i < 6) : bS (and32 v (xor32 (shl32 1 (i : Int)) (-1))) (fun u => p u ∧ u ≠ i) := by
  obtain ⟨S, a, b, c⟩ := h
  obtain ⟨x, y, z⟩ := b_del S a i hi
  refine ⟨S &&& (63 - 2 ^ i), x, by rw [b, y], fun u hu => ?_⟩
  rw [z u hu, Bool.and_eq_true, c u hu, decide_eq_true_iff]
theorem bS_all {m : Nat} (hm : m ≤ 6) : shl32 1 (m : Int) = ((2 ^ m : Nat) : Int) ∧ bS (((2 ^ m : Nat) : Int) - 1) (fun u => u < m) := by
  obtain ⟨x, y, z⟩ := b_all m (by omega)
  have p : 0 < 2 ^ m := Nat.two_pow_pos m
  refine ⟨y, 2 ^ m - 1, x, by omega, fun u hu => ?_⟩
  rw [z u hu, decide_eq_true_iff]
theorem bS_63 : bS 63 (fun _ => True) := ⟨63, by decide, rfl, fun u hu => ⟨fun _ => trivial, fun _ => b_63 u hu⟩⟩
theorem bS_0 : bS 0 (fun _ => False) := ⟨0, by decide, rfl, fun u _ => ⟨fun q => (by rw [Nat.zero_testBit] at q; cases q), fun q => q.elim⟩⟩
theorem bS.rng {v : Int} {p : Nat → Prop} (h : bS v p) : 0 ≤ v ∧ v < 64 := by
  obtain ⟨S, a, b, c⟩ := h
  omega
theorem bS.nat {S : Nat} (h : S < 64) : bS (S : Int) (fun u => Nat.testBit S u = true) := ⟨S, h, rfl, fun _ _ => Iff.rfl⟩
theorem bS.uniq {v w : Int} {p q : Nat → Prop} (h : bS v p) (h2 : bS w q) (e : ∀ u, u < 6 → (p u ↔ q u)) : v = w := by
  obtain ⟨S, a, b, c⟩ := h
  obtain ⟨R, a2, b2, c2⟩ := h2
  have : S = R := b_ext6 S a R a2 (fun t ht => by
    have := (c t ht).trans ((e t ht).trans (c2 t ht).symm)
    cases hs : Nat.testBit S t <;> cases hr : Nat.testBit R t
    · rfl
    · rw [hs, hr] at this
      exact absurd (this.mpr rfl) (by decide)
    · rw [hs, hr] at this
      exact absurd (this.mp rfl) (by decide)
    · rfl)
  rw [b, b2, this]
