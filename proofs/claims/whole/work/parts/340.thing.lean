/-! my own: what a point is in -/
/-- how many ends are ahead of a key -/
noncomputable def stp0 (X Y : Nat → Int) (M : Mp) (k : Int) : Nat := fnd (fun e => ¬ ky (X e) (Y e) < k) (mE M)
noncomputable def onS (s : Cn) (m : Nat) (x y : Int) : Nat := fnd (fun i => cOn s (i : Int) x y) m
noncomputable def cel0 (s : Cn) (M : Mp) (r : Nat) (x y : Int) : Nat := fnd (fun t => ¬ 0 < tC s ((mT M r t : Nat) : Int) x y) (mH M r)
/-- what a point is in: (0, strip, cell), (1, end, 0), (2, segment, 0) -/
noncomputable def thg (s : Cn) (m : Nat) (X Y : Nat → Int) (M : Mp) (x y : Int) : Nat × Nat × Nat :=
  cit (stp0 X Y M (ky x y) < mE M ∧ ky (X (stp0 X Y M (ky x y))) (Y (stp0 X Y M (ky x y))) = ky x y) (1, stp0 X Y M (ky x y), 0) (cit (onS s m x y < m) (2, onS s m x y, 0) (0, stp0 X Y M (ky x y), cel0 s M (stp0 X Y M (ky x y)) x y))
theorem tC_p (s : Cn) (a : Int) (px py : Int) : (tC s a px py = 0 ↔ Tt (fK s a) (s a.toNat 3) (lK s a) (s a.toNat 5) (ky px py) py = 0) ∧ (0 < tC s a px py ↔ 0 < Tt (fK s a) (s a.toNat 3) (lK s a) (s a.toNat 5) (ky px py) py) := ⟨trn_zero, trn_pos⟩
section
variable {s : Cn} {m : Nat} {X Y : Nat → Int} {M : Mp}
theorem stp0_spec (h : isMap s m X Y M) (k : Int) : stp0 X Y M k ≤ mE M ∧ (∀ e, e < stp0 X Y M k → ky (X e) (Y e) < k) ∧ (∀ e, stp0 X Y M k ≤ e → e < mE M → ¬ ky (X e) (Y e) < k) := by
  obtain ⟨a, b, c⟩ := fnd_spec (fun e => ¬ ky (X e) (Y e) < k) (mE M)
  refine ⟨a, fun e he => Decidable.not_not.mp (c e he), fun e h1 h2 q => ?_⟩
  have h3 : stp0 X Y M k < mE M := by omega
  have x := b h3
  have y := h.le h1 h2
  have z : ¬ ky (X (stp0 X Y M k)) (Y (stp0 X Y M k)) < k := x
  omega
theorem stp0_eq (h : isMap s m X Y M) {k : Int} {r : Nat} (h1 : r ≤ mE M) (h2 : ∀ e, e < r → ky (X e) (Y e) < k) (h3 : r < mE M → ¬ ky (X r) (Y r) < k) : stp0 X Y M k = r := fnd_eq h1 h3 (fun e he q => q (h2 e he))
theorem stp0_at (h : isMap s m X Y M) {k : Int} {r : Nat} (h1 : r < mE M) (h2 : ky (X r) (Y r) = k) : stp0 X Y M k = r :=
  stp0_eq h (by omega) (fun e he => by have := h.lt he h1; omega) (fun _ => by omega)
/-- a segment that holds a point that is no end goes through its strip -/
theorem on_thr (g : gd s m) (h : isMap s m X Y M) {x y : Int} (by_ : bd y) (ne : ¬ (stp0 X Y M (ky x y) < mE M ∧ ky (X (stp0 X Y M (ky x y))) (Y (stp0 X Y M (ky x y))) = ky x y)) {i : Nat} (hi : i < m) (ho : cOn s (i : Int) x y) : thr M (stp0 X Y M (ky x y)) i := by
  rw [cOn_K (g.2.1 i hi).1 by_] at ho
  obtain ⟨⟨f1, f2⟩, ⟨l1, l2⟩⟩ := h.2.2.2.2.1 i hi
  obtain ⟨a, b, c⟩ := stp0_spec h (ky x y)
  have n1 : ky (X (mF M i)) (Y (mF M i)) ≠ ky x y := fun q => ne (by rw [stp0_at h f1 q]; exact ⟨f1, q⟩)
  have n2 : ky (X (mL M i)) (Y (mL M i)) ≠ ky x y := fun q => ne (by rw [stp0_at h l1 q]; exact ⟨l1, q⟩)
  constructor
  · by_cases q : mF M i < stp0 X Y M (ky x y)
    · exact q
    · have := c (mF M i) (by omega) f1
      omega
  · by_cases q : stp0 X Y M (ky x y) ≤ mL M i
    · exact q
    · have := b (mL M i) (by omega)
      omega
/-- in its strip a point lies between the two ends -/
theorem stp0_in (h : isMap s m X Y M) {k : Int} (ne : ¬ (stp0 X Y M k < mE M ∧ ky (X (stp0 X Y M k)) (Y (stp0 X Y M k)) = k)) {i : Nat} (hi : i < m) (t : thr M (stp0 X Y M k) i) : ky (X (stp0 X Y M k - 1)) (Y (stp0 X Y M k - 1)) < k ∧ k < ky (X (stp0 X Y M k)) (Y (stp0 X Y M k)) := by
  obtain ⟨a, b, c⟩ := stp0_spec h k
  obtain ⟨t1, t2, -⟩ := h.thrK hi t
  refine ⟨b _ (by omega), ?_⟩
  have x := c _ (Nat.le_refl _) t2
  have y : ky (X (stp0 X Y M k)) (Y (stp0 X Y M k)) ≠ k := fun q => ne ⟨t2, q⟩
  omega
theorem thr_on (g : gd s m) (h : isMap s m X Y M) {x y : Int} (by_ : bd y) (ne : ¬ (stp0 X Y M (ky x y) < mE M ∧ ky (X (stp0 X Y M (ky x y))) (Y (stp0 X Y M (ky x y))) = ky x y)) {i : Nat} (hi : i < m) (t : thr M (stp0 X Y M (ky x y)) i) (h0 : tC s (i : Int) x y = 0) : cOn s (i : Int) x y := by
  rw [cOn_K (g.2.1 i hi).1 by_]
  have a := stp0_in h ne hi t
  obtain ⟨-, -, t3, t4, -⟩ := h.thrK hi t
  exact ⟨(tC_p s i x y).1.mp h0, by omega, by omega⟩
/-- who is left of the upper one, or on it, is left of the lower one -/
theorem tC_mono (g : gd s m) (h : isMap s m X Y M) {x y : Int} (ne : ¬ (stp0 X Y M (ky x y) < mE M ∧ ky (X (stp0 X Y M (ky x y))) (Y (stp0 X Y M (ky x y))) = ky x y)) {a b : Nat} (ha : a < m) (hb : b < m) (ta : thr M (stp0 X Y M (ky x y)) a) (tb : thr M (stp0 X Y M (ky x y)) b) (o : mO M a b) (h0 : 0 ≤ tC s (a : Int) x y) : 0 < tC s (b : Int) x y := by
  have ok := g.ok h
  have nab : a ≠ b := by
    intro q
    subst q
    exact ok.irr (by rw [h.1]; exact ha) ta o
  have kk := stp0_in h ne ha ta
  have st := ((g.strip h ha hb nab ta tb).2.2 (ky x y) kk.1 kk.2).1.mp o
  rw [(tC_p s b x y).2]
  have h1 : 0 ≤ Tt (fK s a) (s (a : Int).toNat 3) (lK s a) (s (a : Int).toNat 5) (ky x y) y := by
    have p1 := (tC_p s a x y).1
    have p2 := (tC_p s a x y).2
    by_cases q : tC s (a : Int) x y = 0
    · have := p1.mp q
      omega
    · have := p2.mp (by omega)
      omega
  have la := (g.2.1 a ha).2
  have lb := (g.2.1 b hb).2
  refine (mul_pos_iff' (by omega : 0 < lK s a - fK s a)).mp ?_
  rw [Dd_p]
  have : 0 ≤ (lK s b - fK s b) * Tt (fK s a) (s (a : Int).toNat 3) (lK s a) (s (a : Int).toNat 5) (ky x y) y := Int.mul_nonneg (by omega) h1
  exact Int.lt_of_lt_of_le (b := (lK s b - fK s b) * Tt (fK s a) (s (a : Int).toNat 3) (lK s a) (s (a : Int).toNat 5) (ky x y) y + cDd s a b (ky x y)) (by omega) (Int.le_refl _)
/-- the signs along a stack -/
theorem cel0_spec (g : gd s m) (h : isMap s m X Y M) {x y : Int} (ne : ¬ (stp0 X Y M (ky x y) < mE M ∧ ky (X (stp0 X Y M (ky x y))) (Y (stp0 X Y M (ky x y))) = ky x y)) :
    cel0 s M (stp0 X Y M (ky x y)) x y ≤ mH M (stp0 X Y M (ky x y)) ∧ (∀ t, t < cel0 s M (stp0 X Y M (ky x y)) x y → 0 < tC s ((mT M (stp0 X Y M (ky x y)) t : Nat) : Int) x y) ∧ (∀ t, cel0 s M (stp0 X Y M (ky x y)) x y ≤ t → t < mH M (stp0 X Y M (ky x y)) → ¬ 0 < tC s ((mT M (stp0 X Y M (ky x y)) t : Nat) : Int) x y) := by
  have ok := g.ok h
  obtain ⟨a, b, c⟩ := fnd_spec (fun t => ¬ 0 < tC s ((mT M (stp0 X Y M (ky x y)) t : Nat) : Int) x y) (mH M (stp0 X Y M (ky x y)))
  refine ⟨a, fun t ht => Decidable.not_not.mp (c t ht), fun t h1 h2 q => ?_⟩
  have h3 : cel0 s M (stp0 X Y M (ky x y)) x y < mH M (stp0 X Y M (ky x y)) := by omega
  have z : ¬ 0 < tC s ((mT M (stp0 X Y M (ky x y)) (cel0 s M (stp0 X Y M (ky x y)) x y) : Nat) : Int) x y := b h3
  by_cases e : t = cel0 s M (stp0 X Y M (ky x y)) x y
  · rw [← e] at z
    exact z q
  · have i1 := ok.tin h2
    have i2 := ok.tin h3
    rw [h.1] at i1 i2
    exact z (tC_mono g h ne i1.1 i2.1 i1.2 i2.2 (ok.tov (by omega) h2) (by omega))
theorem thg_E (h : isMap s m X Y M) {x y : Int} {r : Nat} (h1 : r < mE M) (h2 : ky (X r) (Y r) = ky x y) : thg s m X Y M x y = (1, r, 0) := by
  have e := stp0_at h h1 h2
  unfold thg
  rw [cit_t (by rw [e]; exact ⟨h1, h2⟩), e]
theorem thg_S (g : gd s m) (h : isMap s m X Y M) {x y : Int} (by_ : bd y) (ne : ¬ (stp0 X Y M (ky x y) < mE M ∧ ky (X (stp0 X Y M (ky x y))) (Y (stp0 X Y M (ky x y))) = ky x y)) {i : Nat} (hi : i < m) (ho : cOn s (i : Int) x y) : thg s m X Y M x y = (2, i, 0) := by
  have ok := g.ok h
  unfold thg
  rw [cit_f ne]
  have e : onS s m x y = i := by
    refine fnd_eq (by omega) (fun _ => ho) (fun k hk q => ?_)
    have ti := on_thr g h by_ ne hi ho
    have tk := on_thr g h by_ ne (by omega : k < m) q
    have z1 : tC s (i : Int) x y = 0 := ho.1
    have z2 : tC s (k : Int) x y = 0 := q.1
    have mm' := h.1
    rcases ok.2.2.2.2.2.1 _ i k (by omega) (by omega) ti tk (by omega) with o | o
    · have := tC_mono g h ne hi (by omega : k < m) ti tk o (by omega)
      omega
    · have := tC_mono g h ne (by omega : k < m) hi tk ti o (by omega)
      omega
  rw [e, cit_t hi]
theorem thg_C {x y : Int} (ne : ¬ (stp0 X Y M (ky x y) < mE M ∧ ky (X (stp0 X Y M (ky x y))) (Y (stp0 X Y M (ky x y))) = ky x y)) (no : ∀ i : Nat, i < m → ¬ cOn s (i : Int) x y) : thg s m X Y M x y = (0, stp0 X Y M (ky x y), cel0 s M (stp0 X Y M (ky x y)) x y) := by
  have nn : ¬ onS s m x y < m := fun q => no _ q ((fnd_spec (fun i : Nat => cOn s (i : Int) x y) m).2.1 q)
  unfold thg
  rw [cit_f ne, cit_f nn]
/-- what kinds of thing there are -/
theorem thg_k (g : gd s m) (h : isMap s m X Y M) (x y : Int) : ((thg s m X Y M x y).1 = 0 ∧ (thg s m X Y M x y).2.1 ≤ mE M ∧ (thg s m X Y M x y).2.2 ≤ mH M (thg s m X Y M x y).2.1) ∨ ((thg s m X Y M x y).1 = 1 ∧ (thg s m X Y M x y).2.1 < mE M) ∨ ((thg s m X Y M x y).1 = 2 ∧ (thg s m X Y M x y).2.1 < m) := by
  unfold thg
  by_cases q : stp0 X Y M (ky x y) < mE M ∧ ky (X (stp0 X Y M (ky x y))) (Y (stp0 X Y M (ky x y))) = ky x y
  · rw [cit_t q]
    exact Or.inr (Or.inl ⟨rfl, q.1⟩)
  · rw [cit_f q]
    by_cases r : onS s m x y < m
    · rw [cit_t r]
      exact Or.inr (Or.inr ⟨rfl, r⟩)
    · rw [cit_f r]
      exact Or.inl ⟨rfl, (stp0_spec h _).1, (cel0_spec g h q).1⟩
end
/-- the class's number for a thing -/
noncomputable def cdF (M : Mp) (t : Nat × Nat × Nat) : Nat := if t.1 = 0 then FC M t.2.1 + t.2.2 else if t.1 = 1 then 100 + t.2.1 else 200 + t.2.1
/-- the reference's -/
noncomputable def cdG (M : Mp) (t : Nat × Nat × Nat) : Nat := if t.1 = 0 then fo M t.2.1 t.2.2 else if t.1 = 1 then 100 + t.2.1 else 200 + t.2.1
theorem f_thing {n : Nat} {C s : Cn} {l e m : Nat} {M : Mp} {x y : Int} {Q : Int → Prop} (hn : 91 ≤ n) (hl : l = 26 ∨ l = 42) (he : e = 2 ∨ e = 10 ∨ e = 18) (g : gd s m) (lm : LM C l s m M) (hs : ∀ i, i < m → ∀ f, C (e + 2 + i) f = s i f) (bx : bd x) (by_ : bd y)
    (h : Q (cdF M (thg s m (C (l + 1)) (C (l + 2)) M x y))) : P_La_thingAt n C (l : Int) (e : Int) x y Q := by
  obtain ⟨isM, l0, lFL, lst, lf, -⟩ := lm
  have ok := g.ok isM
  have e12 := ok.e
  have m6 := g.1
  have lc := lf.1
  have hL : lnd (l : Int) := by unfold lnd; omega
  have En' := isM.2.2.1
  have e1 : C l 1 = mE M := lc.1
  have sp := stp0_spec isM (ky x y)
  unfold P_La_thingAt
  simp only [lS hn hl, Int.toNat_natCast, true_and]
  refine f_endsAhead hn hL (by rw [Int.toNat_natCast, e1]; omega) (fun e he => ?_) by_ (fun r r1 r2 r3 => ?_)
  · rw [Int.toNat_natCast, e1] at he
    rw [tl2]
    exact (En'.2.1 e he).2
  · unfold eK at r2 r3
    rw [Int.toNat_natCast, e1] at r1 r3
    rw [tl1, tl2] at r2 r3
    have er := stp0_eq isM (k := ky x y) (r := r) (by omega) r2 (fun q => r3 (by omega))
    refine f_isEndAt hn hL (by omega) (by rw [Int.toNat_natCast, e1]; omega) ⟨fun q => ?_, fun q => ?_⟩
    · rw [bI_0, tl1, tl2, Int.toNat_natCast, Int.toNat_natCast, e1] at q
      have ne : ¬ (stp0 (C (l + 1)) (C (l + 2)) M (ky x y) < mE M ∧ ky (C (l + 1) (stp0 (C (l + 1)) (C (l + 2)) M (ky x y))) (C (l + 2) (stp0 (C (l + 1)) (C (l + 2)) M (ky x y))) = ky x y) := by
        rw [er]
        intro w
        have := (eq_ky (En'.2.1 r (by omega)).2 by_).mpr w.2
        exact q ⟨by omega, this.1, this.2⟩
      refine ⟨by omega, fun v5 hv5 => ?_⟩
      rw [Int.toNat_natCast, (lc.2.2.1 r (by omega)).1] at hv5
      rw [hv5]
      have cs := cel0_spec g isM ne
      have thr_i : ∀ t, t < mH M r → mT M r t < m ∧ thr M r (mT M r t) := fun t ht => by
        have := ok.tin ht
        rw [isM.1] at this
        exact this
      rw [er] at cs
      have h6 := ok.h6 r
      refine lp_rule (fun (z : Int × Int) => ∃ t : Nat, t ≤ mH M r ∧ z.2 = (t : Int) ∧ z.1 = ((FC M r + (if t ≤ cel0 s M r x y then t else cel0 s M r x y) : Nat) : Int) ∧ ∀ u, u < t → tC s ((mT M r u : Nat) : Int) x y ≠ 0) (fun z => (10 - z.2).toNat) ?_ (((FC M r : Nat) : Int), 0) ⟨0, by omega, rfl, by rw [if_pos (by omega)]; rfl, fun u hu => absurd hu (Nat.not_lt_zero u)⟩
      rintro ⟨v5, v6⟩ ⟨t, t0, t1, t2, t3⟩ K hK
      dsimp only at t1 t2 t3
      subst t1
      subst t2
      unfold B_La_thingAt_37
      simp only [lS hn hl, ES hn he, Int.toNat_natCast, true_and]
      rw [(lc.2.2.1 r (by omega)).2]
      refine ⟨by omega, fun q2 => ?_, fun q2 => ?_⟩
      · have et : t = mH M r := by omega
        subst et
        have no : ∀ i : Nat, i < m → ¬ cOn s (i : Int) x y := by
          intro i hi ho
          have ti := on_thr g isM by_ ne hi ho
          rw [er] at ti
          obtain ⟨u, u1, u2⟩ := ok.tall (by rw [isM.1]; exact hi) ti
          have := t3 u u1
          rw [u2] at this
          exact this ho.1
        rw [thg_C ne no, er] at h
        have ec : (if mH M r ≤ cel0 s M r x y then mH M r else cel0 s M r x y) = cel0 s M r x y := by
          split <;> omega
        rw [ec]
        exact h
      · have ht : t < mH M r := by omega
        have tt := thr_i t ht
        have w1 : w32 (w32 ((r : Int) * 6) + (t : Int)) = ((6 * r + t : Nat) : Int) := by
          rw [w32_s (x := (r : Int) * 6) (by omega), w32_s (by omega)]
          omega
        rw [w1]
        clear w1
        simp only [Int.toNat_natCast]
        refine ⟨by omega, fun v7 hv7 => ?_⟩
        rw [lst r t (by omega) ht] at hv7
        rw [hv7]
        have ew := EW hn he (i := mT M r t) (by omega)
        simp only [Int.toNat_natCast, ew, true_and]
        refine ⟨by omega, ?_⟩
        have sg := hs (mT M r t) tt.1
        have wbb : wb n C ((e + 2 + mT M r t : Nat) : Int) := by
          refine ⟨ew.2, ?_⟩
          have x1 := (g.2.1 _ tt.1).1
          unfold cB at x1
          simp only [Int.toNat_natCast] at x1 ⊢
          rw [sg, sg, sg, sg]
          exact x1
        have etC : tC C ((e + 2 + mT M r t : Nat) : Int) x y = tC s ((mT M r t : Nat) : Int) x y := by
          unfold tC
          simp only [Int.toNat_natCast, sg]
        refine f_turnTo wbb bx by_ ?_
        rw [etC]
        have nx : ∀ v : Int, v = ((FC M r + (if t + 1 ≤ cel0 s M r x y then t + 1 else cel0 s M r x y) : Nat) : Int) → tC s ((mT M r t : Nat) : Int) x y ≠ 0 → K (v, w32 ((t : Int) + 1)) := by
          intro v hv h0
          rw [w32_n (by omega)]
          refine hK _ ⟨t + 1, by omega, rfl, hv, fun u hu => ?_⟩ (by dsimp only; omega)
          by_cases eu : u = t
          · rw [eu]
            exact h0
          · exact t3 u (by omega)
        refine ⟨fun q3 => ?_, fun q3 => ⟨fun q4 => nx _ ?_ q3, fun q4 => ?_⟩⟩
        · have tt2 : thr M (stp0 (C (l + 1)) (C (l + 2)) M (ky x y)) (mT M r t) := by
            rw [er]
            exact tt.2
          rw [thg_S g isM by_ ne tt.1 (thr_on g isM by_ ne tt.1 tt2 q3)] at h
          rw [w32_s (by omega)]
          have ee : (200 : Int) + ((mT M r t : Nat) : Int) = ((200 + mT M r t : Nat) : Int) := by omega
          rw [ee]
          exact h
        · have : ¬ t < cel0 s M r x y := fun a => by
            have := cs.2.1 t a
            omega
          split <;> split <;> omega
        · have a : t < cel0 s M r x y := by
            by_cases a : t < cel0 s M r x y
            · exact a
            · exact absurd (by omega) (cs.2.2 t (by omega) ht)
          have fc := FC_49 ok (j := r) (k := 0) (by omega) (by omega)
          refine ⟨by omega, fun v hv => nx v ?_ q3⟩
          rw [hv, (lc.2.2.1 r (by omega)).1, if_pos (by omega), w32_s (x := ((FC M r : Nat) : Int) + (t : Int)) (by omega), w32_s (by omega)]
          omega
    · rw [bI_0, Decidable.not_not, tl1, tl2, Int.toNat_natCast, Int.toNat_natCast, e1] at q
      rw [thg_E isM (r := r) (by omega) ((eq_ky (En'.2.1 r (by omega)).2 by_).mp ⟨q.2.1, q.2.2⟩)] at h
      rw [w32_s (by omega)]
      have ee : (100 : Int) + (r : Int) = ((100 + r : Nat) : Int) := by omega
      rw [ee]
      exact h
/-- the reference's side of it -/
theorem g_onSegment {n : Nat} {C s : Cn} {m : Nat} {x y : Int} {Q : Int → Prop} (hn : 320 ≤ n) (g : gd s m) (hm : C 91 0 = m) (hs : ∀ i, i < m → ∀ f, C (93 + i) f = s i f) (bx : bd x) (by_ : bd y)
    (h1 : ∀ i : Nat, i < m → cOn s (i : Int) x y → Q i) (h2 : (∀ i : Nat, i < m → ¬ cOn s (i : Int) x y) → Q (-1)) : P_G_onSegment n C 91 x y Q := by
  have m6 := g.1
  refine lp_rule (fun v => ∃ t : Nat, t ≤ m ∧ v = (t : Int) ∧ ∀ i : Nat, i < t → ¬ cOn s (i : Int) x y) (fun v => (10 - v).toNat) ?_ 0 ⟨0, by omega, rfl, fun i hi => absurd hi (Nat.not_lt_zero i)⟩
  rintro v ⟨t, t0, t1, t2⟩ K hK
  subst t1
  unfold B_G_onSegment_2
  simp only [gS hn, Int.reduceToNat, Int.toNat_natCast, true_and]
  rw [hm]
  refine ⟨fun q => h2 (fun i hi => t2 i (by omega)), fun q => ?_⟩
  have ht : t < m := by omega
  have rt := gR92 hn (by omega : t < 6)
  simp only [rt, true_and]
  have sg := hs t ht
  have gbb : gb n C ((93 + t : Nat) : Int) := by
    refine ⟨⟨rt.2.1, by rw [Int.toNat_natCast, (lay92 t (by omega)).1]⟩, ?_⟩
    have x1 := (g.2.1 t ht).1
    unfold cB at x1
    simp only [Int.toNat_natCast] at x1 ⊢
    rw [sg, sg, sg, sg]
    exact x1
  have eo : cOn C ((93 + t : Nat) : Int) x y ↔ cOn s (t : Int) x y := by
    unfold cOn tC
    simp only [Int.toNat_natCast, sg]
  refine ⟨by omega, g_isOn gbb bx by_ ⟨fun q2 => ?_, fun q2 => ?_⟩⟩
  · rw [bI_0, eo] at q2
    rw [w32_n (by omega)]
    refine hK _ ⟨t + 1, by omega, rfl, fun i hi => ?_⟩ (by omega)
    by_cases e : i = t
    · rw [e]
      exact q2
    · exact t2 i (by omega)
  · rw [bI_0, Decidable.not_not, eo] at q2
    exact h1 t ht q2
theorem g_isIn {n : Nat} {C s : Cn} {m : Nat} {M : Mp} {x y : Int} {Q : Int → Cn → Prop} (hn : 320 ≤ n) (g : gd s m) (gm : GM C s m M) (hm : C 91 0 = m) (hs : ∀ i, i < m → ∀ f, C (93 + i) f = s i f) (bx : bd x) (by_ : bd y)
    (h : ∀ C2 : Cn, (∀ b t, ¬ (b = 91 ∧ (t = 23 ∨ t = 24)) → C2 b t = C b t) → ((thg s m (C 101) (C 102) M x y).1 = 0 → C2 91 23 = ((thg s m (C 101) (C 102) M x y).2.1 : Nat) ∧ C2 91 24 = ((thg s m (C 101) (C 102) M x y).2.2 : Nat)) → Q (cdG M (thg s m (C 101) (C 102) M x y)) C2) : P_G_isIn n C 91 x y Q := by
  obtain ⟨isM, e1, lFL, sr, gk⟩ := gm
  have ok := g.ok isM
  have e12 := ok.e
  have m6 := g.1
  have En' := isM.2.2.1
  unfold P_G_isIn
  simp only [gS hn, Int.reduceToNat, true_and]
  refine g_endAt hn (by rw [e1]; omega) (fun r r1 r2 r3 => ⟨fun q => by omega, fun _ => ?_⟩) (fun no => ⟨fun _ => ?_, fun q => absurd (by decide : (-1 : Int) < 0) q⟩)
  · rw [e1] at r1
    have et := thg_E (s := s) isM (x := x) (y := y) (r := r) (by omega) (by rw [r2, r3])
    refine g_endAt hn (by rw [e1]; omega) (fun r' q1 q2 q3 => ?_) (fun no => absurd ⟨r2, r3⟩ (no r (by rw [e1]; omega)))
    rw [e1] at q1
    have er : r' = r := isM.inj (by omega) (by omega) (by rw [r2, r3, q2, q3])
    have hh := h C (fun _ _ _ => rfl) (fun q => by rw [et] at q; cases q)
    rw [et] at hh
    rw [er, w32_s (by omega)]
    have ee : (100 : Int) + (r : Int) = ((100 + r : Nat) : Int) := by omega
    rw [ee]
    exact hh
  · have ne : ¬ (stp0 (C 101) (C 102) M (ky x y) < mE M ∧ ky (C 101 (stp0 (C 101) (C 102) M (ky x y))) (C 102 (stp0 (C 101) (C 102) M (ky x y))) = ky x y) := by
      intro w
      have := (eq_ky (En'.2.1 _ (by omega)).2 by_).mpr w.2
      exact no _ (by rw [e1]; omega) this
    refine g_onSegment hn g hm hs bx by_ (fun i hi ho => ⟨fun q => by omega, fun _ => ?_⟩) (fun no2 => ⟨fun _ => ?_, fun q => absurd (by decide : (-1 : Int) < 0) q⟩)
    · have et := thg_S g isM by_ ne hi ho
      refine g_onSegment hn g hm hs bx by_ (fun i' hi' ho' => ?_) (fun no2 => absurd ho (no2 i hi))
      have et' := thg_S g isM by_ ne hi' ho'
      have er : i' = i := by
        rw [et] at et'
        injection et' with _ et'
        injection et' with et' _
        exact et'.symm
      have hh := h C (fun _ _ _ => rfl) (fun q => by rw [et] at q; cases q)
      rw [et] at hh
      rw [er, w32_s (by omega)]
      have ee : (200 : Int) + (i : Int) = ((200 + i : Nat) : Int) := by omega
      rw [ee]
      exact hh
    · have et := thg_C (s := s) ne no2
      have cs := cel0_spec g isM ne
      have sp := stp0_spec isM (ky x y)
      rw [et] at h
      intro C12 c12
      -- the strip, then the cell
      refine lp_rule (fun D : Cn => ∃ r : Nat, r ≤ mE M ∧ D 91 23 = (r : Int) ∧ (∀ b t, ¬ (b = 91 ∧ (t = 23 ∨ t = 24)) → D b t = C b t) ∧ ∀ e, e < r → ky (C 101 e) (C 102 e) < ky x y) (fun D => (20 - D 91 23).toNat) ?_ C12 ⟨0, by omega, by rw [c12, wr_same]; rfl, fun b t hb => by rw [c12, wr_ne (fun q => hb (by omega))], fun e he => absurd he (Nat.not_lt_zero e)⟩
      rintro D ⟨r, r0, r1, r2, r3⟩ K hK
      have fin : (r < mE M → ¬ ky (C 101 r) (C 102 r) < ky x y) → J_G_isIn_94 n D 91 x y Q := by
        intro hr
        have er := stp0_eq isM (k := ky x y) r0 r3 hr
        rw [er] at cs h
        have srr := sr r r0
        have h6 := ok.h6 r
        unfold J_G_isIn_94
        simp only [gS hn, Int.reduceToNat, true_and]
        intro C16 c16
        refine lp_rule (fun D2 : Cn => ∃ c : Nat, c ≤ cel0 s M r x y ∧ D2 91 24 = (c : Int) ∧ D2 91 23 = (r : Int) ∧ (∀ b t, ¬ (b = 91 ∧ (t = 23 ∨ t = 24)) → D2 b t = C b t)) (fun D2 => (10 - D2 91 24).toNat) ?_ C16 ⟨0, by omega, by rw [c16, wr_same]; rfl, by rw [c16, wr_ne (by omega), r1], fun b t hb => by rw [c16, wr_ne (fun q => hb (by omega)), r2 b t hb]⟩
        rintro D2 ⟨c, y0, y1, y2, y3⟩ K2 hK2
        have fin2 : c = cel0 s M r x y → J_G_isIn_155 n D2 91 Q := by
          intro ec
          have rr := gR120 hn (by omega : r < 13)
          unfold J_G_isIn_155
          simp only [gS hn, Int.reduceToNat, true_and, y1, y2, Int.toNat_natCast, rr]
          refine ⟨by omega, by omega, ?_⟩
          rw [y3 _ _ (by omega), gk.2.1 r c ⟨by omega, Or.inl (by omega)⟩]
          have hh := h D2 y3 (fun _ => ⟨y2, by rw [y1, ec]⟩)
          rw [ec]
          exact hh
        have rl := gR106 hn (by omega : r < 13)
        unfold B_G_isIn_99
        simp only [gS hn, Int.reduceToNat, true_and, y1, y2, Int.toNat_natCast, rl]
        rw [y3 105 r (by omega), srr.2]
        refine ⟨by omega, fun q => fin2 (by omega), fun q => ?_⟩
        rw [y3 (107 + r) c (by omega), srr.1 c (by omega)]
        have tt := ok.tin (j := r) (k := c) (by omega)
        rw [isM.1] at tt
        have rt := gR92 hn (by omega : mT M r c < 6)
        simp only [Int.toNat_natCast, rt]
        have sg : ∀ f, D2 (93 + mT M r c) f = s (mT M r c) f := fun f => by rw [y3 _ _ (by omega), hs _ tt.1]
        have gbb : gb n D2 ((93 + mT M r c : Nat) : Int) := by
          refine ⟨⟨rt.2.1, by rw [Int.toNat_natCast, (lay92 _ (by omega)).1]⟩, ?_⟩
          have x1 := (g.2.1 _ tt.1).1
          unfold cB at x1
          simp only [Int.toNat_natCast] at x1 ⊢
          rw [sg, sg, sg, sg]
          exact x1
        have etC : tC D2 ((93 + mT M r c : Nat) : Int) x y = tC s ((mT M r c : Nat) : Int) x y := by
          unfold tC
          simp only [Int.toNat_natCast, sg]
        refine ⟨by omega, by omega, by omega, g_side gbb bx by_ ?_⟩
        rw [etC]
        refine ⟨fun q2 => fin2 ?_, fun q2 C37 c37 => ?_⟩
        · by_cases a : c < cel0 s M r x y
          · have := cs.2.1 c a
            omega
          · omega
        · have a : c < cel0 s M r x y := by
            by_cases a : c < cel0 s M r x y
            · exact a
            · exact absurd (by omega) (cs.2.2 c (by omega) (by omega))
          rw [w32_n (by omega)] at c37
          refine hK2 _ ⟨c + 1, by omega, by rw [c37, wr_same], by rw [c37, wr_ne (by omega), y2], fun b t hb => by rw [c37, wr_ne (fun q => hb (by omega)), y3 b t hb]⟩ ?_
          rw [c37, wr_same]
          omega
      unfold B_G_isIn_44
      simp only [gS hn, Int.reduceToNat, true_and, r1, Int.toNat_natCast]
      rw [r2 91 10 (by omega), e1, r2 101 r (by omega), r2 102 r (by omega)]
      refine ⟨fun q => fin (fun q2 => by omega), fun q => ⟨by omega, by omega, g_isAhead ⟨fun q2 => fin (fun _ => ?_), fun q2 C48 c48 => ?_⟩⟩⟩
      · rw [bI_0, ahd_ky (En'.2.1 r (by omega)).2 by_] at q2
        exact q2
      · rw [bI_0, Decidable.not_not, ahd_ky (En'.2.1 r (by omega)).2 by_] at q2
        rw [w32_n (by omega)] at c48
        refine hK _ ⟨r + 1, by omega, by rw [c48, wr_same], fun b t hb => by rw [c48, wr_ne (fun q => hb (by omega)), r2 b t hb], fun e he => ?_⟩ ?_
        · by_cases ee : e = r
          · rw [ee]
            exact q2
          · exact r3 e (by omega)
        · rw [c48, wr_same]
          omega
