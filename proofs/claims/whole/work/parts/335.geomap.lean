/-! my own: segments that keep apart make a map -/
/-- a table of m segments, each within bounds and in order, any two apart -/
def gd (s : Cn) (m : Nat) : Prop := m ≤ 6 ∧ (∀ i : Nat, i < m → cB s (i : Int) ∧ fK s (i : Int) < lK s (i : Int)) ∧ (∀ i k : Nat, i < m → k < m → i ≠ k → cApK s (i : Int) (k : Int))
/-- M is the map of the table s, X and Y its ends -/
def isMap (s : Cn) (m : Nat) (X Y : Nat → Int) (M : Mp) : Prop := mm M = m ∧ (M.2.2.2.2 = fun (a b : Nat) => cOv s (a : Int) (b : Int)) ∧ En X Y (mE M) (sK s 0 m) ∧ mE M ≤ 12 ∧
  (∀ i, i < m → (mF M i < mE M ∧ ky (X (mF M i)) (Y (mF M i)) = fK s (i : Int)) ∧ (mL M i < mE M ∧ ky (X (mL M i)) (Y (mL M i)) = lK s (i : Int))) ∧ (∀ i, m ≤ i → mF M i = 0 ∧ mL M i = 0)
theorem isMap.lt {s : Cn} {m : Nat} {X Y : Nat → Int} {M : Mp} (h : isMap s m X Y M) {e f : Nat} (h1 : e < f) (h2 : f < mE M) : ky (X e) (Y e) < ky (X f) (Y f) := h.2.2.1.1 e f h1 (by omega)
theorem isMap.le {s : Cn} {m : Nat} {X Y : Nat → Int} {M : Mp} (h : isMap s m X Y M) {e f : Nat} (h1 : e ≤ f) (h2 : f < mE M) : ky (X e) (Y e) ≤ ky (X f) (Y f) := by
  by_cases q : e = f
  · rw [q]
    exact Int.le_refl _
  · exact Int.le_of_lt (h.lt (by omega) h2)
theorem isMap.inj {s : Cn} {m : Nat} {X Y : Nat → Int} {M : Mp} (h : isMap s m X Y M) {e f : Nat} (h1 : e < mE M) (h2 : f < mE M) (q : ky (X e) (Y e) = ky (X f) (Y f)) : e = f := by
  rcases Nat.lt_trichotomy e f with r | r | r
  · have := h.lt r h2
    omega
  · exact r
  · have := h.lt r h1
    omega
theorem isMap.o {s : Cn} {m : Nat} {X Y : Nat → Int} {M : Mp} (h : isMap s m X Y M) (a b : Nat) : mO M a b ↔ cOv s (a : Int) (b : Int) := by
  unfold mO
  rw [h.2.1]
/-- the keys of a strip's two ends lie between those of a segment that goes through it -/
theorem isMap.thrK {s : Cn} {m : Nat} {X Y : Nat → Int} {M : Mp} (h : isMap s m X Y M) {j a : Nat} (ha : a < m) (t : thr M j a) : 1 ≤ j ∧ j < mE M ∧ fK s (a : Int) ≤ ky (X (j - 1)) (Y (j - 1)) ∧ ky (X j) (Y j) ≤ lK s (a : Int) ∧ ky (X (j - 1)) (Y (j - 1)) < ky (X j) (Y j) := by
  obtain ⟨⟨f1, f2⟩, ⟨l1, l2⟩⟩ := h.2.2.2.2.1 a ha
  have t1 := t.1
  have t2 := t.2
  have x1 := h.le (e := mF M a) (f := j - 1) (by omega) (by omega)
  have x2 := h.le (e := j) (f := mL M a) (by omega) (by omega)
  have x3 := h.lt (e := j - 1) (f := j) (by omega) (by omega)
  exact ⟨by omega, by omega, by omega, by omega, x3⟩
abbrev cDd (s : Cn) (a b : Int) (k : Int) : Int := Dd (fK s a) (s a.toNat 3) (lK s a) (s a.toNat 5) (fK s b) (s b.toNat 3) (lK s b) (s b.toNat 5) k
theorem gd.strip {s : Cn} {m : Nat} {X Y : Nat → Int} {M : Mp} (g : gd s m) (h : isMap s m X Y M) {j a b : Nat} (ha : a < m) (hb : b < m) (ne : a ≠ b) (ta : thr M j a) (tb : thr M j b) :
    (mO M a b ↔ 0 < cDd s a b (ky (X (j - 1)) (Y (j - 1))) + cDd s a b (ky (X j) (Y j))) ∧ (¬ mO M a b ↔ cDd s a b (ky (X (j - 1)) (Y (j - 1))) + cDd s a b (ky (X j) (Y j)) < 0) ∧
    (∀ k, ky (X (j - 1)) (Y (j - 1)) < k → k < ky (X j) (Y j) → (mO M a b ↔ 0 < cDd s a b k) ∧ (¬ mO M a b ↔ cDd s a b k < 0)) := by
  have ca := (g.2.1 a ha).1
  have cb := (g.2.1 b hb).1
  obtain ⟨-, -, x1, x2, x3⟩ := h.thrK ha ta
  obtain ⟨-, -, y1, y2, -⟩ := h.thrK hb tb
  rw [h.o a b, cOv_K ca cb]
  exact ov_strip (ky_y ca.2.1 cb.2.1) (ky_y ca.2.2.2 cb.2.2.2) (g.2.2 a b ha hb ne) x1 y1 x3 x2 y2
abbrev nmd (s : Cn) (a : Int) (w : Int) : Int := mdN (fK s a) (s a.toNat 3) (lK s a) (s a.toNat 5) w
theorem ovK_irr (ak ay bk by_ : Int) : ¬ ovK ak ay bk by_ ak ay bk by_ := by
  unfold ovK
  rw [if_pos rfl, if_neg (Int.lt_irrefl _), Tt_last]
  omega
theorem gd.ok {s : Cn} {m : Nat} {X Y : Nat → Int} {M : Mp} (g : gd s m) (h : isMap s m X Y M) : okM M := by
  have hm := h.1
  have irr : ∀ a, a < m → ¬ mO M a a := by
    intro a ha q
    rw [h.o, cOv_K (g.2.1 a ha).1 (g.2.1 a ha).1] at q
    exact ovK_irr _ _ _ _ q
  have asy : ∀ j a b, a < m → b < m → thr M j a → thr M j b → mO M a b → ¬ mO M b a := by
    intro j a b ha hb ta tb o
    by_cases e : a = b
    · subst e
      exact absurd o (irr a ha)
    · have x := (g.strip h ha hb e ta tb).1.mp o
      refine (g.strip h hb ha (fun q => e q.symm) tb ta).2.1.mpr ?_
      unfold cDd at *
      rw [Dd_sw (fK s a), Dd_sw (fK s a)]
      omega
  refine ⟨by rw [hm]; exact g.1, h.2.2.2.1, fun i hi => ?_, fun e he => ?_, ?_, ?_, ?_⟩
  · rw [hm] at hi
    obtain ⟨⟨f1, f2⟩, ⟨l1, l2⟩⟩ := h.2.2.2.2.1 i hi
    refine ⟨?_, l1⟩
    by_cases q : mF M i < mL M i
    · exact q
    · have x := h.le (e := mL M i) (f := mF M i) (by omega) f1
      have y := (g.2.1 i hi).2
      omega
  · obtain ⟨t, t0, t1, q⟩ := (h.2.2.1.2.2 _).mp ⟨e, by omega, rfl⟩
    have ti : ((t.toNat : Nat) : Int) = 0 + t := by omega
    rw [← ti] at q
    have ht : t.toNat < m := by omega
    obtain ⟨⟨f1, f2⟩, ⟨l1, l2⟩⟩ := h.2.2.2.2.1 t.toNat ht
    refine ⟨t.toNat, by rw [hm]; exact ht, ?_⟩
    rcases q with q | q
    · exact Or.inl (h.inj f1 he (by rw [f2, q]))
    · exact Or.inr (h.inj l1 he (by rw [l2, q]))
  · rw [hm]
    exact asy
  · rw [hm]
    intro j a b ha hb ta tb ne
    by_cases o : mO M a b
    · exact Or.inl o
    · have x := (g.strip h ha hb ne ta tb).2.1.mp o
      refine Or.inr ((g.strip h hb ha (fun q => ne q.symm) tb ta).1.mpr ?_)
      unfold cDd at *
      rw [Dd_sw (fK s a), Dd_sw (fK s a)]
      omega
  · rw [hm]
    intro j a b c ha hb hc ta tb tc o1 o2
    by_cases e1 : a = b
    · subst e1
      exact o2
    · by_cases e2 : b = c
      · subst e2
        exact o1
      · by_cases e3 : a = c
        · subst e3
          exact absurd o2 (asy j a b ha hb ta tb o1)
        · have x1 := (g.strip h ha hb e1 ta tb).1.mp o1
          have x2 := (g.strip h hb hc e2 tb tc).1.mp o2
          refine (g.strip h ha hc e3 ta tc).1.mpr ?_
          unfold cDd at *
          rw [Dd_md] at x1 x2 ⊢
          have la := (g.2.1 a ha).2
          have lb := (g.2.1 b hb).2
          have lc := (g.2.1 c hc).2
          exact Int.sub_pos_of_lt (frac_trans (by omega) (by omega) (by omega) (Int.lt_of_sub_pos x1) (Int.lt_of_sub_pos x2))
/-- a table has one map -/
theorem isMap.uniq {s : Cn} {m : Nat} {X Y X2 Y2 : Nat → Int} {M M2 : Mp} (h : isMap s m X Y M) (h2 : isMap s m X2 Y2 M2) : M = M2 ∧ ∀ e, e < mE M → X e = X2 e ∧ Y e = Y2 e := by
  obtain ⟨a1, a2, a3, a4, a5, a6⟩ := h
  have h2' := h2
  obtain ⟨b1, b2, b3, b4, b5, b6⟩ := h2
  obtain ⟨c1, c2⟩ := a3.eq (by omega) (by omega) b3
  have eE : mE M = mE M2 := by omega
  have eF : M.2.2.1 = M2.2.2.1 := by
    funext i
    show mF M i = mF M2 i
    by_cases q : i < m
    · obtain ⟨⟨f1, f2⟩, -⟩ := a5 i q
      obtain ⟨⟨g1, g2⟩, -⟩ := b5 i q
      have := c2 (mF M i) (by omega)
      rw [this.1, this.2] at f2
      exact h2'.inj (by omega) g1 (by rw [f2, g2])
    · rw [(a6 i (by omega)).1, (b6 i (by omega)).1]
  have eL : M.2.2.2.1 = M2.2.2.2.1 := by
    funext i
    show mL M i = mL M2 i
    by_cases q : i < m
    · obtain ⟨-, ⟨f1, f2⟩⟩ := a5 i q
      obtain ⟨-, ⟨g1, g2⟩⟩ := b5 i q
      have := c2 (mL M i) (by omega)
      rw [this.1, this.2] at f2
      exact h2'.inj (by omega) g1 (by rw [f2, g2])
    · rw [(a6 i (by omega)).2, (b6 i (by omega)).2]
  have e1 : M.1 = M2.1 := by
    show mm M = mm M2
    rw [a1, b1]
  have e5 : M.2.2.2.2 = M2.2.2.2.2 := by rw [a2, b2]
  refine ⟨Prod.ext e1 (Prod.ext eE (Prod.ext eF (Prod.ext eL e5))), fun e he => c2 e (by omega)⟩
/-- the table of the m segments from w on -/
def tb (C : Cn) (w m : Nat) : Cn := fun i f => if i < m then C (w + i) f else 0
theorem tb_lt {C : Cn} {w m i : Nat} (h : i < m) (f : Nat) : tb C w m i f = C (w + i) f := if_pos h
theorem tb_cOv {C : Cn} {w m a b : Nat} (ha : a < m) (hb : b < m) : cOv (tb C w m) (a : Int) (b : Int) ↔ cOv C ((w + a : Nat) : Int) ((w + b : Nat) : Int) := by
  unfold cOv tC
  simp only [Int.toNat_natCast, tb_lt ha, tb_lt hb]
theorem tb_fK {C : Cn} {w m a : Nat} (ha : a < m) : fK (tb C w m) (a : Int) = fK C ((w + a : Nat) : Int) ∧ lK (tb C w m) (a : Int) = lK C ((w + a : Nat) : Int) := by
  unfold fK lK
  simp only [Int.toNat_natCast, tb_lt ha, and_self]
theorem tb_cB {C : Cn} {w m a : Nat} (ha : a < m) : cB (tb C w m) (a : Int) ↔ cB C ((w + a : Nat) : Int) := by
  unfold cB
  simp only [Int.toNat_natCast, tb_lt ha]
theorem tb_sK {C : Cn} {w m : Nat} (k : Int) : sK C (w : Int) (m : Int) k ↔ sK (tb C w m) 0 (m : Int) k := by
  unfold sK
  constructor
  · rintro ⟨t, t0, t1, q⟩
    obtain ⟨i, rfl⟩ : ∃ i : Nat, t = (i : Int) := ⟨t.toNat, by omega⟩
    have x := tb_fK (C := C) (w := w) (m := m) (a := i) (by omega)
    refine ⟨i, t0, t1, ?_⟩
    rw [(by omega : (0 : Int) + (i : Int) = (i : Int)), x.1, x.2, (by omega : ((w + i : Nat) : Int) = (w : Int) + (i : Int))]
    exact q
  · rintro ⟨t, t0, t1, q⟩
    obtain ⟨i, rfl⟩ : ∃ i : Nat, t = (i : Int) := ⟨t.toNat, by omega⟩
    have x := tb_fK (C := C) (w := w) (m := m) (a := i) (by omega)
    refine ⟨i, t0, t1, ?_⟩
    rw [(by omega : (0 : Int) + (i : Int) = (i : Int)), x.1, x.2, (by omega : ((w + i : Nat) : Int) = (w : Int) + (i : Int))] at q
    exact q
theorem gd.sg {C : Cn} {w m : Nat} (g : gd (tb C w m) m) : Sg C (w : Int) (m : Int) := by
  refine ⟨by omega, by have := g.1; omega, fun i i0 i1 => ?_⟩
  obtain ⟨t, rfl⟩ : ∃ t : Nat, i = (t : Int) := ⟨i.toNat, by omega⟩
  have x := g.2.1 t (by omega)
  rw [tb_cB (by omega), (tb_fK (by omega)).1, (tb_fK (by omega)).2, (by omega : ((w + t : Nat) : Int) = (w : Int) + (t : Int))] at x
  exact x
