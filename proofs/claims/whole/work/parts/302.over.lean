/-! my own: the order of the segments in a strip -/
def loK (a c : Int) : Int := if a < c then c else a
def hiK (b d : Int) : Int := if b < d then b else d
theorem sep_cases {ak ay bk by_ ck cy dk dy : Int} (h1 : ak < bk) (h2 : ck < dk) (hac : ak = ck → ay = cy) (hbd : bk = dk → by_ = dy) (hap : apK ak ay bk by_ ck cy dk dy) (ho : ak < dk) (ho2 : ck < bk) :
    (0 ≤ Dd ak ay bk by_ ck cy dk dy (loK ak ck) ∧ 0 ≤ Dd ak ay bk by_ ck cy dk dy (hiK bk dk) ∧ 0 < Dd ak ay bk by_ ck cy dk dy (loK ak ck) + Dd ak ay bk by_ ck cy dk dy (hiK bk dk)) ∨
    (Dd ak ay bk by_ ck cy dk dy (loK ak ck) ≤ 0 ∧ Dd ak ay bk by_ ck cy dk dy (hiK bk dk) ≤ 0 ∧ Dd ak ay bk by_ ck cy dk dy (loK ak ck) + Dd ak ay bk by_ ck cy dk dy (hiK bk dk) < 0) := by
  have z1 := sep_lo h1 h2 hac hap ho ho2
  have z2 := sep_hi h1 h2 hbd hap ho ho2
  have z3 := sep_opp (lo := loK ak ck) (hi := hiK bk dk) h1 h2 hap (by unfold loK hiK; split <;> split <;> omega) (by unfold loK; split <;> omega) (by unfold loK; split <;> omega) (by unfold hiK; split <;> omega) (by unfold hiK; split <;> omega)
  have z4 := hap.2.1
  unfold opp at z3
  show _ ∨ _
  unfold loK hiK at *
  omega
theorem ov_iff {ak ay bk by_ ck cy dk dy : Int} (h1 : ak < bk) (h2 : ck < dk) (hac : ak = ck → ay = cy) (hbd : bk = dk → by_ = dy) (hap : apK ak ay bk by_ ck cy dk dy) (ho : ak < dk) (ho2 : ck < bk) :
    ovK ak ay bk by_ ck cy dk dy ↔ 0 < Dd ak ay bk by_ ck cy dk dy (loK ak ck) + Dd ak ay bk by_ ck cy dk dy (hiK bk dk) := by
  have z0 := sep_cases h1 h2 hac hbd hap ho ho2
  have z1 : Dd ak ay bk by_ ck cy dk dy (loK ak ck) = 0 ↔ ak = ck := sep_lo h1 h2 hac hap ho ho2
  have z2 : Dd ak ay bk by_ ck cy dk dy (hiK bk dk) = 0 ↔ bk = dk := sep_hi h1 h2 hbd hap ho ho2
  have z4 := hap.2.1
  have pA := mul_pos_iff' (b := Tt ck cy dk dy ak ay) (by omega : 0 < bk - ak)
  have pB := mul_pos_iff' (b := Tt ck cy dk dy bk by_) (by omega : 0 < bk - ak)
  have nC := mul_neg_iff' (b := Tt ak ay bk by_ ck cy) (by omega : 0 < dk - ck)
  have nD := mul_neg_iff' (b := Tt ak ay bk by_ dk dy) (by omega : 0 < dk - ck)
  unfold ovK
  by_cases hac2 : ak = ck
  · rw [if_pos hac2]
    have hz := z1.mpr hac2
    by_cases hb : bk < dk
    · rw [if_pos hb]
      have e : hiK bk dk = bk := by unfold hiK; rw [if_pos hb]
      rw [e, Dd_b] at z0 ⊢
      rw [hz] at z0 ⊢
      omega
    · rw [if_neg hb]
      have e : hiK bk dk = dk := by unfold hiK; rw [if_neg hb]
      rw [e, Dd_d] at z0 ⊢
      rw [hz] at z0 ⊢
      omega
  · rw [if_neg hac2]
    have hz : ¬ Dd ak ay bk by_ ck cy dk dy (loK ak ck) = 0 := fun h => hac2 (z1.mp h)
    by_cases hc : ck < ak
    · rw [if_pos hc]
      have e : loK ak ck = ak := by unfold loK; rw [if_neg (by omega)]
      rw [e] at z0 hz ⊢
      rw [Dd_a] at z0 hz ⊢
      omega
    · rw [if_neg hc]
      have e : loK ak ck = ck := by unfold loK; rw [if_pos (by omega)]
      rw [e] at z0 hz ⊢
      rw [Dd_c] at z0 hz ⊢
      omega
/-- in a strip e, f that both go through -/
theorem ov_strip {ak ay bk by_ ck cy dk dy e f : Int} (hac : ak = ck → ay = cy) (hbd : bk = dk → by_ = dy) (hap : apK ak ay bk by_ ck cy dk dy) (k1 : ak ≤ e) (k2 : ck ≤ e) (k3 : e < f) (k4 : f ≤ bk) (k5 : f ≤ dk) :
    (ovK ak ay bk by_ ck cy dk dy ↔ 0 < Dd ak ay bk by_ ck cy dk dy e + Dd ak ay bk by_ ck cy dk dy f) ∧ (¬ ovK ak ay bk by_ ck cy dk dy ↔ Dd ak ay bk by_ ck cy dk dy e + Dd ak ay bk by_ ck cy dk dy f < 0) ∧
    (∀ k, e < k → k < f → (ovK ak ay bk by_ ck cy dk dy ↔ 0 < Dd ak ay bk by_ ck cy dk dy k) ∧ (¬ ovK ak ay bk by_ ck cy dk dy ↔ Dd ak ay bk by_ ck cy dk dy k < 0)) := by
  have hi := ov_iff (by omega) (by omega) hac hbd hap (by omega) (by omega)
  have hlo : loK ak ck ≤ e := by unfold loK; split <;> omega
  have hhi : f ≤ hiK bk dk := by unfold hiK; split <;> omega
  have aff := fun k => Dd_aff ak ay bk by_ ck cy dk dy k (loK ak ck) (hiK bk dk)
  have aff2 : ∀ k, (hiK bk dk - loK ak ck) * (-Dd ak ay bk by_ ck cy dk dy k) = (hiK bk dk - k) * (-Dd ak ay bk by_ ck cy dk dy (loK ak ck)) + (k - loK ak ck) * (-Dd ak ay bk by_ ck cy dk dy (hiK bk dk)) := fun k => by
    have := aff k
    grind
  simp only [hi]
  rcases sep_cases (by omega) (by omega) hac hbd hap (by omega) (by omega) with ⟨x1, x2, x3⟩ | ⟨x1, x2, x3⟩
  · have y := aff_mid (D := Dd ak ay bk by_ ck cy dk dy) (aff e) (aff f) x1 x2 x3 hlo k3 hhi
    refine ⟨by omega, by omega, fun k g1 g2 => ?_⟩
    have y2 := aff_in (D := Dd ak ay bk by_ ck cy dk dy) (aff k) (by omega) x1 x2 x3 (by omega) (by omega)
    omega
  · have y := aff_mid (D := fun k => -Dd ak ay bk by_ ck cy dk dy k) (aff2 e) (aff2 f) (by omega) (by omega) (by omega) hlo k3 hhi
    try dsimp only at y
    refine ⟨by omega, by omega, fun k g1 g2 => ?_⟩
    have y2 := aff_in (D := fun k => -Dd ak ay bk by_ ck cy dk dy k) (aff2 k) (by omega) (by omega) (by omega) (by omega) (by omega) (by omega)
    try dsimp only at y2
    omega
def mdN (ak ay bk by_ w : Int) : Int := 2 * ay * (bk - ak) + (by_ - ay) * (w - 2 * ak)
theorem Dd_md (ak ay bk by_ ck cy dk dy e f : Int) : Dd ak ay bk by_ ck cy dk dy e + Dd ak ay bk by_ ck cy dk dy f = mdN ak ay bk by_ (e + f) * (dk - ck) - mdN ck cy dk dy (e + f) * (bk - ak) := by
  unfold Dd mdN
  grind
theorem apK_sym {ak ay bk by_ ck cy dk dy : Int} (h : apK ak ay bk by_ ck cy dk dy) : apK ck cy dk dy ak ay bk by_ := by
  unfold apK at h ⊢
  obtain ⟨h1, h2, h3, h4, h5, h6⟩ := h
  refine ⟨fun q => h1 ⟨q.2, q.1⟩, fun q => h2 ⟨q.1.symm, q.2.symm⟩, h5, h6, h3, h4⟩
