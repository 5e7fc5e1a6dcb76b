/-! my own: both sides' words for apart and over come to the same -/
/-- the reference's word for apart, over keys -/
def agK (ak ay bk by_ ck cy dk dy : Int) : Prop :=
  ((Tt ak ay bk by_ ck cy = 0 ∧ Tt ak ay bk by_ dk dy = 0) → ¬ (ak < dk ∧ ck < bk)) ∧
  (¬ (Tt ak ay bk by_ ck cy = 0 ∧ Tt ak ay bk by_ dk dy = 0) → ¬ (opp (Tt ak ay bk by_ ck cy) (Tt ak ay bk by_ dk dy) ∧ opp (Tt ck cy dk dy ak ay) (Tt ck cy dk dy bk by_)) ∧
    ¬ ((Tt ck cy dk dy ak ay = 0 ∧ ck < ak ∧ ak < dk) ∨ (Tt ck cy dk dy bk by_ = 0 ∧ ck < bk ∧ bk < dk)) ∧ ¬ ((Tt ak ay bk by_ ck cy = 0 ∧ ak < ck ∧ ck < bk) ∨ (Tt ak ay bk by_ dk dy = 0 ∧ ak < dk ∧ dk < bk)))
theorem agK_iff {ak ay bk by_ ck cy dk dy : Int} (h1 : ak < bk) (h2 : ck < dk) (hac : ak = ck → ay = cy) (hbd : bk = dk → by_ = dy) :
    agK ak ay bk by_ ck cy dk dy ↔ apK ak ay bk by_ ck cy dk dy := by
  unfold agK apK
  by_cases hL : Tt ak ay bk by_ ck cy = 0 ∧ Tt ak ay bk by_ dk dy = 0
  · have dc : Dd ak ay bk by_ ck cy dk dy ck = 0 := by rw [Dd_c, hL.1]; omega
    have dd : Dd ak ay bk by_ ck cy dk dy dk = 0 := by rw [Dd_d, hL.2]; omega
    have ha : Tt ck cy dk dy ak ay = 0 := by
      have e := Dd_aff ak ay bk by_ ck cy dk dy ak ck dk
      rw [dc, dd, Dd_a, Int.mul_zero, Int.mul_zero, Int.add_zero] at e
      exact (mul_zero_iff' (by omega : 0 < bk - ak)).mp ((mul_zero_iff' (by omega : 0 < dk - ck)).mp e)
    have hb : Tt ck cy dk dy bk by_ = 0 := by
      have e := Dd_aff ak ay bk by_ ck cy dk dy bk ck dk
      rw [dc, dd, Dd_b, Int.mul_zero, Int.mul_zero, Int.add_zero] at e
      exact (mul_zero_iff' (by omega : 0 < bk - ak)).mp ((mul_zero_iff' (by omega : 0 < dk - ck)).mp e)
    unfold opp
    omega
  · have hE : ¬ (ak = ck ∧ bk = dk) := by
      intro q
      refine hL ?_
      rw [← q.1, ← q.2, ← hac q.1, ← hbd q.2]
      exact ⟨Tt_self _ _ _ _, Tt_last _ _ _ _⟩
    unfold opp
    omega
theorem ahd_ky {x y u v : Int} (hy : bd y) (hv : bd v) : ahd x y u v ↔ ky x y < ky u v := by
  unfold ky
  unfold ahd bd at *
  omega
theorem eq_ky {x y u v : Int} (hy : bd y) (hv : bd v) : (x = u ∧ y = v) ↔ ky x y = ky u v := by
  unfold ky
  unfold bd at *
  omega
theorem ky_y {x y u v : Int} (hy : bd y) (hv : bd v) : ky x y = ky u v → y = v := fun h => ((eq_ky hy hv).mpr h).2
theorem op2_trn {x y u v px py qx qy : Int} : op2 (trn x y u v px py) (trn x y u v qx qy) ↔ opp (Tt (ky x y) y (ky u v) v (ky px py) py) (Tt (ky x y) y (ky u v) v (ky qx qy) qy) := by
  unfold op2 opp
  rw [trn_pos, trn_pos, trn_neg, trn_neg]
/-- the key of a segment's first and last point -/
abbrev fK (C : Cn) (a : Int) : Int := ky (C a.toNat 2) (C a.toNat 3)
abbrev lK (C : Cn) (a : Int) : Int := ky (C a.toNat 4) (C a.toNat 5)
/-- a segment's points lie within bounds -/
abbrev cB (C : Cn) (a : Int) : Prop := bd (C a.toNat 2) ∧ bd (C a.toNat 3) ∧ bd (C a.toNat 4) ∧ bd (C a.toNat 5)
abbrev cApK (C : Cn) (a b : Int) : Prop := apK (fK C a) (C a.toNat 3) (lK C a) (C a.toNat 5) (fK C b) (C b.toNat 3) (lK C b) (C b.toNat 5)
abbrev cOvK (C : Cn) (a b : Int) : Prop := ovK (fK C a) (C a.toNat 3) (lK C a) (C a.toNat 5) (fK C b) (C b.toNat 3) (lK C b) (C b.toNat 5)
theorem cCr_K {C : Cn} {a b : Int} : cCr C a b ↔ (opp (Tt (fK C a) (C a.toNat 3) (lK C a) (C a.toNat 5) (fK C b) (C b.toNat 3)) (Tt (fK C a) (C a.toNat 3) (lK C a) (C a.toNat 5) (lK C b) (C b.toNat 5)) ∧ opp (Tt (fK C b) (C b.toNat 3) (lK C b) (C b.toNat 5) (fK C a) (C a.toNat 3)) (Tt (fK C b) (C b.toNat 3) (lK C b) (C b.toNat 5) (lK C a) (C a.toNat 5))) := by
  unfold cCr tC
  rw [op2_trn, op2_trn]
theorem cIn_K {C : Cn} {a px py : Int} (ha : cB C a) (hp : bd py) : cIn C a px py ↔ (Tt (fK C a) (C a.toNat 3) (lK C a) (C a.toNat 5) (ky px py) py = 0 ∧ fK C a < ky px py ∧ ky px py < lK C a) := by
  unfold cIn tC
  rw [trn_zero, ahd_ky ha.2.1 hp, ahd_ky hp ha.2.2.2]
theorem cOn_K {C : Cn} {a px py : Int} (ha : cB C a) (hp : bd py) : cOn C a px py ↔ (Tt (fK C a) (C a.toNat 3) (lK C a) (C a.toNat 5) (ky px py) py = 0 ∧ fK C a ≤ ky px py ∧ ky px py ≤ lK C a) := by
  unfold cOn tC
  rw [trn_zero, ahd_ky hp ha.2.1, ahd_ky ha.2.2.2 hp, Int.not_lt, Int.not_lt]
theorem cEn_K {C : Cn} {a px py : Int} (ha : cB C a) (hp : bd py) : cEn C a px py ↔ (ky px py = fK C a ∨ ky px py = lK C a) := by
  unfold cEn
  rw [eq_ky hp ha.2.1, eq_ky hp ha.2.2.2]
theorem cAp_K {C : Cn} {a b : Int} (ha : cB C a) (hb : cB C b) (oa : fK C a < lK C a) (ob : fK C b < lK C b) : cAp C a b ↔ cApK C a b := by
  unfold cAp cApK apK
  rw [cCr_K, cIn_K ha hb.2.1, cIn_K ha hb.2.2.2, cIn_K hb ha.2.1, cIn_K hb ha.2.2.2, cEn_K ha hb.2.1, cEn_K ha hb.2.2.2]
  refine and_congr Iff.rfl (and_congr (not_congr ?_) Iff.rfl)
  clear ha hb
  dsimp only [fK, lK] at *
  omega
theorem cRs_K {C : Cn} {a b : Int} (ha : cB C a) (hb : cB C b) : cRs C a b ↔ ((Tt (fK C b) (C b.toNat 3) (lK C b) (C b.toNat 5) (fK C a) (C a.toNat 3) = 0 ∧ fK C b < fK C a ∧ fK C a < lK C b) ∨ (Tt (fK C b) (C b.toNat 3) (lK C b) (C b.toNat 5) (lK C a) (C a.toNat 5) = 0 ∧ fK C b < lK C a ∧ lK C a < lK C b)) := by
  unfold cRs
  rw [cOn_K hb ha.2.1, cOn_K hb ha.2.2.2, cEn_K hb ha.2.1, cEn_K hb ha.2.2.2]
  clear ha hb
  dsimp only [fK, lK] at *
  omega
theorem cAg_K {C : Cn} {a b : Int} (ha : cB C a) (hb : cB C b) (oa : fK C a < lK C a) (ob : fK C b < lK C b) : cAg C a b ↔ cApK C a b := by
  refine Iff.trans ?_ (agK_iff oa ob (ky_y ha.2.1 hb.2.1) (ky_y ha.2.2.2 hb.2.2.2))
  unfold cAg agK cLi cOl tC
  rw [cCr_K, cRs_K ha hb, cRs_K hb ha, trn_zero, trn_zero, ahd_ky ha.2.1 hb.2.2.2, ahd_ky hb.2.1 ha.2.2.2]
theorem cApK_sym {C : Cn} {a b : Int} : cApK C a b ↔ cApK C b a := ⟨apK_sym, apK_sym⟩
theorem cOv_K {C : Cn} {a b : Int} (ha : cB C a) (hb : cB C b) : cOv C a b ↔ cOvK C a b := by
  unfold cOv cOvK ovK
  simp only [tC, trn_pos, trn_neg, eq_ky ha.2.1 hb.2.1, ahd_ky ha.2.2.2 hb.2.2.2, ahd_ky hb.2.1 ha.2.1]
