/-! my own: plane geometry of segments over keys (key of a point: 1000 x + y) -/
def ky (x y : Int) : Int := 1000 * x + y
/-- the turn of a, b, c, in keys and heights -/
def Tt (ak ay bk by_ pk py : Int) : Int := (bk - ak) * (py - ay) - (by_ - ay) * (pk - ak)
/-- the turn, as both programs compute it -/
def trn (x y u v px py : Int) : Int := (u - x) * (py - y) - (v - y) * (px - x)
theorem Tt_trn (x y u v px py : Int) : Tt (ky x y) y (ky u v) v (ky px py) py = 1000 * trn x y u v px py := by
  unfold Tt ky trn
  grind
theorem trn_pos {x y u v px py : Int} : 0 < trn x y u v px py ↔ 0 < Tt (ky x y) y (ky u v) v (ky px py) py := by
  rw [Tt_trn]
  omega
theorem trn_neg {x y u v px py : Int} : trn x y u v px py < 0 ↔ Tt (ky x y) y (ky u v) v (ky px py) py < 0 := by
  rw [Tt_trn]
  omega
theorem trn_zero {x y u v px py : Int} : trn x y u v px py = 0 ↔ Tt (ky x y) y (ky u v) v (ky px py) py = 0 := by
  rw [Tt_trn]
  omega
/-- how much higher s = (a, b) is than t = (c, d) at the key k, times both lengths -/
def Dd (ak ay bk by_ ck cy dk dy k : Int) : Int := (ay * (bk - ak) + (by_ - ay) * (k - ak)) * (dk - ck) - (cy * (dk - ck) + (dy - cy) * (k - ck)) * (bk - ak)
theorem Dd_a (ak ay bk by_ ck cy dk dy : Int) : Dd ak ay bk by_ ck cy dk dy ak = (bk - ak) * Tt ck cy dk dy ak ay := by
  unfold Dd Tt
  grind
theorem Dd_b (ak ay bk by_ ck cy dk dy : Int) : Dd ak ay bk by_ ck cy dk dy bk = (bk - ak) * Tt ck cy dk dy bk by_ := by
  unfold Dd Tt
  grind
theorem Dd_c (ak ay bk by_ ck cy dk dy : Int) : Dd ak ay bk by_ ck cy dk dy ck = -((dk - ck) * Tt ak ay bk by_ ck cy) := by
  unfold Dd Tt
  grind
theorem Dd_d (ak ay bk by_ ck cy dk dy : Int) : Dd ak ay bk by_ ck cy dk dy dk = -((dk - ck) * Tt ak ay bk by_ dk dy) := by
  unfold Dd Tt
  grind
theorem Dd_sw (ak ay bk by_ ck cy dk dy k : Int) : Dd ck cy dk dy ak ay bk by_ k = -Dd ak ay bk by_ ck cy dk dy k := by
  unfold Dd
  grind
theorem Dd_aff (ak ay bk by_ ck cy dk dy k e f : Int) : (f - e) * Dd ak ay bk by_ ck cy dk dy k = (f - k) * Dd ak ay bk by_ ck cy dk dy e + (k - e) * Dd ak ay bk by_ ck cy dk dy f := by
  unfold Dd
  grind
theorem Dd_p (ak ay bk by_ ck cy dk dy pk py : Int) : (bk - ak) * Tt ck cy dk dy pk py = (dk - ck) * Tt ak ay bk by_ pk py + Dd ak ay bk by_ ck cy dk dy pk := by
  unfold Dd Tt
  grind
/-- signs of products with a positive factor -/
theorem mul_pos_iff' {a b : Int} (h : 0 < a) : 0 < a * b ↔ 0 < b := by
  constructor
  · intro hb
    rcases Int.lt_trichotomy b 0 with h1 | h1 | h1
    · have := Int.mul_neg_of_pos_of_neg h h1
      omega
    · rw [h1] at hb
      simp at hb
    · exact h1
  · intro hb
    exact Int.mul_pos h hb
theorem mul_neg_iff' {a b : Int} (h : 0 < a) : a * b < 0 ↔ b < 0 := by
  constructor
  · intro hb
    rcases Int.lt_trichotomy b 0 with h1 | h1 | h1
    · exact h1
    · rw [h1] at hb
      simp at hb
    · have := Int.mul_pos h h1
      omega
  · intro hb
    exact Int.mul_neg_of_pos_of_neg h hb
theorem mul_zero_iff' {a b : Int} (h : 0 < a) : a * b = 0 ↔ b = 0 := by
  constructor
  · intro hb
    rcases Int.mul_eq_zero.mp hb with h1 | h1
    · omega
    · exact h1
  · intro hb
    rw [hb]
    simp
theorem mul_nonneg_iff' {a b : Int} (h : 0 < a) : 0 ≤ a * b ↔ 0 ≤ b := by
  have h1 := mul_neg_iff' (b := b) h
  omega
/-- a fraction's order is transitive (positive denominators) -/
theorem frac_trans {a b c d e f : Int} (hb : 0 < b) (hd : 0 < d) (hf : 0 < f) (h1 : c * b < a * d) (h2 : e * d < c * f) : e * b < a * f := by
  have k1 : c * b * f < a * d * f := Int.mul_lt_mul_of_pos_right h1 hf
  have k2 : e * d * b < c * f * b := Int.mul_lt_mul_of_pos_right h2 hb
  have k3 : (e * b) * d < (a * f) * d := by
    have e1 : (e * b) * d = e * d * b := by grind
    have e2 : (a * f) * d = a * d * f := by grind
    have e3 : c * f * b = c * b * f := by grind
    rw [e1, e2]
    omega
  exact Int.lt_of_mul_lt_mul_right k3 (Int.le_of_lt hd)
