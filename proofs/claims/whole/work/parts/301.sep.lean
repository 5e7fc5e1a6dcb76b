/-! my own: two segments that keep apart: which one is over the other -/
def opp (a b : Int) : Prop := (a < 0 ∧ 0 < b) ∨ (0 < a ∧ b < 0)
theorem aff_lo {D : Int → Int} {lo hi k : Int} (haff : (hi - lo) * D k = (hi - k) * D lo + (k - lo) * D hi) (h : lo < hi) (h1 : 0 < D lo) (h2 : D hi < 0) (hk : k ≤ lo) : 0 < D k := by
  have a1 : 0 < (hi - k) * D lo := Int.mul_pos (by omega) h1
  have a2 : 0 ≤ (k - lo) * D hi := Int.mul_nonneg_of_nonpos_of_nonpos (by omega) (by omega)
  exact (mul_pos_iff' (by omega : 0 < hi - lo)).mp (by omega)
theorem aff_hi {D : Int → Int} {lo hi k : Int} (haff : (hi - lo) * D k = (hi - k) * D lo + (k - lo) * D hi) (h : lo < hi) (h1 : 0 < D lo) (h2 : D hi < 0) (hk : hi ≤ k) : D k < 0 := by
  have a1 : (hi - k) * D lo ≤ 0 := Int.mul_nonpos_of_nonpos_of_nonneg (by omega) (by omega)
  have a2 : (k - lo) * D hi < 0 := Int.mul_neg_of_pos_of_neg (by omega) h2
  exact (mul_neg_iff' (by omega : 0 < hi - lo)).mp (by omega)
theorem aff_in {D : Int → Int} {lo hi k : Int} (haff : (hi - lo) * D k = (hi - k) * D lo + (k - lo) * D hi) (h : lo < hi) (h1 : 0 ≤ D lo) (h2 : 0 ≤ D hi) (h3 : 0 < D lo + D hi) (hk1 : lo < k) (hk2 : k < hi) : 0 < D k := by
  rcases Int.lt_or_eq_of_le h1 with h4 | h4
  · have a1 : 0 < (hi - k) * D lo := Int.mul_pos (by omega) h4
    have a2 : 0 ≤ (k - lo) * D hi := Int.mul_nonneg (by omega) h2
    exact (mul_pos_iff' (by omega : 0 < hi - lo)).mp (by omega)
  · have a1 : 0 < (k - lo) * D hi := Int.mul_pos (by omega) (by omega)
    have a2 : 0 ≤ (hi - k) * D lo := Int.mul_nonneg (by omega) h1
    exact (mul_pos_iff' (by omega : 0 < hi - lo)).mp (by omega)
theorem aff_mid {D : Int → Int} {lo hi e f : Int} (he : (hi - lo) * D e = (hi - e) * D lo + (e - lo) * D hi) (hf : (hi - lo) * D f = (hi - f) * D lo + (f - lo) * D hi) (h1 : 0 ≤ D lo) (h2 : 0 ≤ D hi) (h3 : 0 < D lo + D hi) (k1 : lo ≤ e) (k2 : e < f) (k3 : f ≤ hi) : 0 < D e + D f := by
  have e1 : (hi - lo) * (D e + D f) = (2 * hi - e - f) * D lo + (e + f - 2 * lo) * D hi := by
    rw [Int.mul_add, he, hf]
    grind
  refine (mul_pos_iff' (by omega : 0 < hi - lo)).mp ?_
  rw [e1]
  rcases Int.lt_or_eq_of_le h1 with h4 | h4
  · have a1 : 0 < (2 * hi - e - f) * D lo := Int.mul_pos (by omega) h4
    have a2 : 0 ≤ (e + f - 2 * lo) * D hi := Int.mul_nonneg (by omega) h2
    omega
  · have a1 : 0 < (e + f - 2 * lo) * D hi := Int.mul_pos (by omega) (by omega)
    have a2 : 0 ≤ (2 * hi - e - f) * D lo := Int.mul_nonneg (by omega) h1
    omega
/-- the segments (a, b), (c, d) keep apart: as it is computed -/
def apK (ak ay bk by_ ck cy dk dy : Int) : Prop :=
  ¬ (opp (Tt ak ay bk by_ ck cy) (Tt ak ay bk by_ dk dy) ∧ opp (Tt ck cy dk dy ak ay) (Tt ck cy dk dy bk by_)) ∧ ¬ (ak = ck ∧ bk = dk) ∧
  ¬ (Tt ak ay bk by_ ck cy = 0 ∧ ak < ck ∧ ck < bk) ∧ ¬ (Tt ak ay bk by_ dk dy = 0 ∧ ak < dk ∧ dk < bk) ∧ ¬ (Tt ck cy dk dy ak ay = 0 ∧ ck < ak ∧ ak < dk) ∧ ¬ (Tt ck cy dk dy bk by_ = 0 ∧ ck < bk ∧ bk < dk)
/-- (a, b) is over (c, d): as it is computed -/
def ovK (ak ay bk by_ ck cy dk dy : Int) : Prop :=
  if ak = ck then (if bk < dk then 0 < Tt ck cy dk dy bk by_ else Tt ak ay bk by_ dk dy < 0) else if ck < ak then 0 < Tt ck cy dk dy ak ay else Tt ak ay bk by_ ck cy < 0
theorem Tt_self (ak ay bk by_ : Int) : Tt ak ay bk by_ ak ay = 0 := by
  unfold Tt
  grind
theorem Tt_last (ak ay bk by_ : Int) : Tt ak ay bk by_ bk by_ = 0 := by
  unfold Tt
  grind
/-- the sign at the two ends of what they have in common -/
theorem sep_lo {ak ay bk by_ ck cy dk dy : Int} (h1 : ak < bk) (h2 : ck < dk) (hac : ak = ck → ay = cy) (hap : apK ak ay bk by_ ck cy dk dy) (ho : ak < dk) (ho2 : ck < bk) : (Dd ak ay bk by_ ck cy dk dy (if ak < ck then ck else ak) = 0 ↔ ak = ck) := by
  obtain ⟨-, -, q1, -, q3, -⟩ := hap
  constructor
  · intro h
    by_cases hlt : ak < ck
    · rw [if_pos hlt, Dd_c] at h
      exact absurd ⟨(mul_zero_iff' (by omega : 0 < dk - ck)).mp (by omega), hlt, ho2⟩ q1
    · rw [if_neg hlt, Dd_a] at h
      rcases Int.lt_trichotomy ck ak with h3 | h3 | h3
      · exact absurd ⟨(mul_zero_iff' (by omega : 0 < bk - ak)).mp h, h3, ho⟩ q3
      · exact h3.symm
      · omega
  · intro h
    rw [if_neg (by omega), Dd_a]
    have := hac h
    subst h
    subst this
    rw [Tt_self]
    simp
theorem sep_hi {ak ay bk by_ ck cy dk dy : Int} (h1 : ak < bk) (h2 : ck < dk) (hbd : bk = dk → by_ = dy) (hap : apK ak ay bk by_ ck cy dk dy) (ho : ak < dk) (ho2 : ck < bk) : (Dd ak ay bk by_ ck cy dk dy (if bk < dk then bk else dk) = 0 ↔ bk = dk) := by
  obtain ⟨-, -, -, q2, -, q4⟩ := hap
  constructor
  · intro h
    by_cases hlt : bk < dk
    · rw [if_pos hlt, Dd_b] at h
      exact absurd ⟨(mul_zero_iff' (by omega : 0 < bk - ak)).mp h, ho2, hlt⟩ q4
    · rw [if_neg hlt, Dd_d] at h
      rcases Int.lt_trichotomy dk bk with h3 | h3 | h3
      · exact absurd ⟨(mul_zero_iff' (by omega : 0 < dk - ck)).mp (by omega), ho, h3⟩ q2
      · exact h3.symm
      · omega
  · intro h
    have := hbd h
    rw [if_neg (by omega), Dd_d]
    subst h
    subst this
    rw [Tt_last]
    simp
theorem sep_opp {ak ay bk by_ ck cy dk dy lo hi : Int} (h1 : ak < bk) (h2 : ck < dk) (hap : apK ak ay bk by_ ck cy dk dy) (hl : lo < hi) (la : ak ≤ lo) (lc : ck ≤ lo) (lb : hi ≤ bk) (ld : hi ≤ dk) : ¬ opp (Dd ak ay bk by_ ck cy dk dy lo) (Dd ak ay bk by_ ck cy dk dy hi) := by
  intro h
  obtain ⟨q0, -⟩ := hap
  have aff := fun k => Dd_aff ak ay bk by_ ck cy dk dy k lo hi
  have aff2 : ∀ k, (hi - lo) * (-Dd ak ay bk by_ ck cy dk dy k) = (hi - k) * (-Dd ak ay bk by_ ck cy dk dy lo) + (k - lo) * (-Dd ak ay bk by_ ck cy dk dy hi) := fun k => by
    have := aff k
    grind
  have ha := Dd_a ak ay bk by_ ck cy dk dy
  have hb := Dd_b ak ay bk by_ ck cy dk dy
  have hc := Dd_c ak ay bk by_ ck cy dk dy
  have hd := Dd_d ak ay bk by_ ck cy dk dy
  have pA := mul_pos_iff' (b := Tt ck cy dk dy ak ay) (by omega : 0 < bk - ak)
  have pB := mul_pos_iff' (b := Tt ck cy dk dy bk by_) (by omega : 0 < bk - ak)
  have nA := mul_neg_iff' (b := Tt ck cy dk dy ak ay) (by omega : 0 < bk - ak)
  have nB := mul_neg_iff' (b := Tt ck cy dk dy bk by_) (by omega : 0 < bk - ak)
  have pC := mul_pos_iff' (b := Tt ak ay bk by_ ck cy) (by omega : 0 < dk - ck)
  have pD := mul_pos_iff' (b := Tt ak ay bk by_ dk dy) (by omega : 0 < dk - ck)
  have nC := mul_neg_iff' (b := Tt ak ay bk by_ ck cy) (by omega : 0 < dk - ck)
  have nD := mul_neg_iff' (b := Tt ak ay bk by_ dk dy) (by omega : 0 < dk - ck)
  apply q0
  rcases h with ⟨x1, x2⟩ | ⟨x1, x2⟩
  · have y1 := aff_lo (D := fun k => -Dd ak ay bk by_ ck cy dk dy k) (aff2 ak) hl (by omega) (by omega) la
    have y2 := aff_lo (D := fun k => -Dd ak ay bk by_ ck cy dk dy k) (aff2 ck) hl (by omega) (by omega) lc
    have y3 := aff_hi (D := fun k => -Dd ak ay bk by_ ck cy dk dy k) (aff2 bk) hl (by omega) (by omega) lb
    have y4 := aff_hi (D := fun k => -Dd ak ay bk by_ ck cy dk dy k) (aff2 dk) hl (by omega) (by omega) ld
    rw [ha] at y1
    rw [hc] at y2
    rw [hb] at y3
    rw [hd] at y4
    exact ⟨Or.inr ⟨pC.mp (by omega), nD.mp (by omega)⟩, Or.inl ⟨nA.mp (by omega), pB.mp (by omega)⟩⟩
  · have y1 := aff_lo (D := Dd ak ay bk by_ ck cy dk dy) (aff ak) hl x1 x2 la
    have y2 := aff_lo (D := Dd ak ay bk by_ ck cy dk dy) (aff ck) hl x1 x2 lc
    have y3 := aff_hi (D := Dd ak ay bk by_ ck cy dk dy) (aff bk) hl x1 x2 lb
    have y4 := aff_hi (D := Dd ak ay bk by_ ck cy dk dy) (aff dk) hl x1 x2 ld
    rw [ha] at y1
    rw [hc] at y2
    rw [hb] at y3
    rw [hd] at y4
    exact ⟨Or.inl ⟨nC.mp (by omega), pD.mp (by omega)⟩, Or.inr ⟨pA.mp (by omega), nB.mp (by omega)⟩⟩
