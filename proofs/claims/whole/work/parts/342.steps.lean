/-! my own: steps of a cell, as the document tells them -/
def isFl (M : Mp) (p : Nat → Prop) (j k : Nat) (a : Int) : Prop := (a = -1 ∧ ∀ t, t < k → ¬ p (mT M j t)) ∨ ∃ t, t < k ∧ p (mT M j t) ∧ a = ((mT M j t : Nat) : Int) ∧ ∀ u, t < u → u < k → ¬ p (mT M j u)
def isRf (M : Mp) (p : Nat → Prop) (j k : Nat) (b : Int) : Prop := (b = -1 ∧ ∀ t, k ≤ t → t < mH M j → ¬ p (mT M j t)) ∨ ∃ t, k ≤ t ∧ t < mH M j ∧ p (mT M j t) ∧ b = ((mT M j t : Nat) : Int) ∧ ∀ u, k ≤ u → u < t → ¬ p (mT M j u)
def ovF (M : Mp) (u : Nat) (fl : Int) : Prop := fl = -1 ∨ ∃ f : Nat, fl = (f : Int) ∧ mO M u f
def ovR (M : Mp) (u : Nat) (rf : Int) : Prop := rf = -1 ∨ ∃ r : Nat, rf = (r : Int) ∧ mO M r u
def ins (M : Mp) (u : Nat) (fl rf : Int) : Prop := ovF M u fl ∧ ovR M u rf
def thI (M : Mp) (i : Nat) (fl : Int) : Prop := fl = -1 ∨ ∃ f : Nat, fl = (f : Int) ∧ f < mm M ∧ thr M i f
/-- in strip i floor and roof lie next to one another, of those of p -/
def nx (M : Mp) (p : Nat → Prop) (fl rf : Int) (i : Nat) : Prop := thI M i fl ∧ thI M i rf ∧ ∀ u, u < mm M → p u → thr M i u → ¬ ins M u fl rf
def isGap (M : Mp) (p : Nat → Prop) (fl rf : Int) (j a b : Nat) : Prop := a ≤ j ∧ j ≤ b ∧ b ≤ mE M ∧ (∀ i, a ≤ i → i ≤ b → nx M p fl rf i) ∧ (a = 0 ∨ ¬ nx M p fl rf (a - 1)) ∧ (b = mE M ∨ ¬ nx M p fl rf (b + 1))
noncomputable def stN (M : Mp) (fl rf : Int) (a b j s : Nat) : Nat := cit ((∃ i, a ≤ i ∧ i ≤ b ∧ thr M i s) ∧ ins M s fl rf) ((if a ≤ mF M s then 1 else 0) + (if j ≤ mF M s then 0 else (if mL M s < b then 1 else 0) + (if mL M s < j then 0 else 1))) 0
def stepR (M : Mp) (p : Nat → Prop) (j k s n : Nat) : Prop := ∃ (fl rf : Int) (a b : Nat), isFl M p j k fl ∧ isRf M p j k rf ∧ isGap M p fl rf j a b ∧ n = stN M fl rf a b j s
theorem stN_le (M : Mp) (fl rf : Int) (a b j s : Nat) : stN M fl rf a b j s ≤ 3 := by
  unfold stN
  by_cases h : (∃ i, a ≤ i ∧ i ≤ b ∧ thr M i s) ∧ ins M s fl rf
  · rw [cit_t h]
    (repeat' split) <;> omega
  · rw [cit_f h]
    omega
theorem isFl.uniq {M : Mp} {p : Nat → Prop} {j k : Nat} {a b : Int} (h1 : isFl M p j k a) (h2 : isFl M p j k b) : a = b := by
  rcases h1 with ⟨rfl, h1⟩ | ⟨t, t1, t2, rfl, t3⟩
  · rcases h2 with ⟨rfl, h2⟩ | ⟨u, u1, u2, u3, u4⟩
    · rfl
    · exact absurd u2 (h1 u u1)
  · rcases h2 with ⟨rfl, h2⟩ | ⟨u, u1, u2, rfl, u4⟩
    · exact absurd t2 (h2 t t1)
    · rcases Nat.lt_trichotomy t u with q | q | q
      · exact absurd u2 (t3 u q u1)
      · rw [q]
      · exact absurd t2 (u4 t q t1)
theorem isRf.uniq {M : Mp} {p : Nat → Prop} {j k : Nat} {a b : Int} (h1 : isRf M p j k a) (h2 : isRf M p j k b) : a = b := by
  rcases h1 with ⟨rfl, h1⟩ | ⟨t, t0, t1, t2, rfl, t3⟩
  · rcases h2 with ⟨rfl, h2⟩ | ⟨u, u0, u1, u2, u3, u4⟩
    · rfl
    · exact absurd u2 (h1 u u0 u1)
  · rcases h2 with ⟨rfl, h2⟩ | ⟨u, u0, u1, u2, rfl, u4⟩
    · exact absurd t2 (h2 t t0 t1)
    · rcases Nat.lt_trichotomy t u with q | q | q
      · exact absurd t2 (u4 t t0 q)
      · rw [q]
      · exact absurd u2 (t3 u u0 q)
theorem isGap.uniq {M : Mp} {p : Nat → Prop} {fl rf : Int} {j a b c d : Nat} (h1 : isGap M p fl rf j a b) (h2 : isGap M p fl rf j c d) : a = c ∧ b = d := by
  obtain ⟨x1, x2, x3, x4, x5, x6⟩ := h1
  obtain ⟨y1, y2, y3, y4, y5, y6⟩ := h2
  constructor
  · rcases Nat.lt_trichotomy a c with q | q | q
    · exact absurd (x4 (c - 1) (by omega) (by omega)) (y5.resolve_left (by omega))
    · exact q
    · exact absurd (y4 (a - 1) (by omega) (by omega)) (x5.resolve_left (by omega))
  · rcases Nat.lt_trichotomy b d with q | q | q
    · exact absurd (y4 (b + 1) (by omega) (by omega)) (x6.resolve_left (by omega))
    · exact q
    · exact absurd (x4 (d + 1) (by omega) (by omega)) (y6.resolve_left (by omega))
theorem stepR.uniq {M : Mp} {p : Nat → Prop} {j k s n n2 : Nat} (h1 : stepR M p j k s n) (h2 : stepR M p j k s n2) : n = n2 := by
  obtain ⟨fl, rf, a, b, x1, x2, x3, x4⟩ := h1
  obtain ⟨fl2, rf2, c, d, y1, y2, y3, y4⟩ := h2
  obtain rfl := x1.uniq y1
  obtain rfl := x2.uniq y2
  obtain ⟨rfl, rfl⟩ := x3.uniq y3
  rw [x4, y4]
/-- the steps that s adds for a cell, p being ahead of it -/
noncomputable def sN (M : Mp) (p : Nat → Prop) (j k s : Nat) : Nat := fnd (fun n => stepR M p j k s n) 4
theorem sN_eq {M : Mp} {p : Nat → Prop} {j k s : Nat} {fl rf : Int} {a b : Nat} (h1 : isFl M p j k fl) (h2 : isRf M p j k rf) (h3 : isGap M p fl rf j a b) : stN M fl rf a b j s = sN M p j k s := by
  have h : stepR M p j k s (stN M fl rf a b j s) := ⟨fl, rf, a, b, h1, h2, h3, rfl⟩
  have l := stN_le M fl rf a b j s
  refine (fnd_eq (by omega) (fun _ => h) (fun n hn q => ?_)).symm
  have := stepR.uniq h q
  omega
theorem sN_le (M : Mp) (p : Nat → Prop) (j k s : Nat) : sN M p j k s ≤ 4 := (fnd_spec _ _).1
theorem okM.isFl_th {M : Mp} (ok : okM M) {p : Nat → Prop} {j k : Nat} {a : Int} (hk : k ≤ mH M j) (h : isFl M p j k a) : thI M j a := by
  rcases h with ⟨rfl, -⟩ | ⟨t, t1, t2, rfl, t3⟩
  · exact Or.inl rfl
  · have := ok.tin (j := j) (k := t) (by omega)
    exact Or.inr ⟨_, rfl, this.1, this.2⟩
theorem okM.isRf_th {M : Mp} (ok : okM M) {p : Nat → Prop} {j k : Nat} {a : Int} (h : isRf M p j k a) : thI M j a := by
  rcases h with ⟨rfl, -⟩ | ⟨t, t0, t1, t2, rfl, t3⟩
  · exact Or.inl rfl
  · have := ok.tin (j := j) (k := t) (by omega)
    exact Or.inr ⟨_, rfl, this.1, this.2⟩
/-- the roof is over the floor -/
theorem okM.fl_rf {M : Mp} (ok : okM M) {p : Nat → Prop} {j k : Nat} {a b : Int} (h1 : isFl M p j k a) (h2 : isRf M p j k b) : ∀ f r : Nat, a = (f : Int) → b = (r : Int) → mO M r f := by
  intro f r hf hr
  rcases h1 with ⟨rfl, -⟩ | ⟨t, t1, t2, rfl, t3⟩
  · omega
  · rcases h2 with ⟨rfl, -⟩ | ⟨u, u0, u1, u2, rfl, u3⟩
    · omega
    · have e1 : f = mT M j t := by omega
      have e2 : r = mT M j u := by omega
      rw [e1, e2]
      exact ok.tov (by omega) u1
theorem okM.nx_own {M : Mp} (ok : okM M) {p : Nat → Prop} {j k : Nat} {a b : Int} (hk : k ≤ mH M j) (h1 : isFl M p j k a) (h2 : isRf M p j k b) : nx M p a b j := by
  refine ⟨ok.isFl_th hk h1, ok.isRf_th h2, fun u hu pu tu q => ?_⟩
  obtain ⟨v, v1, v2⟩ := ok.tall hu tu
  subst v2
  by_cases c : v < k
  · rcases h1 with ⟨rfl, h1⟩ | ⟨t, t1, t2, rfl, t3⟩
    · exact h1 v c pu
    · rcases q.1 with q1 | ⟨f, q1, q2⟩
      · omega
      · have e : f = mT M j t := by omega
        rw [e] at q2
        have := (ok.tlt (j := j) (by omega) v1).mp q2
        exact t3 v this c pu
  · rcases h2 with ⟨rfl, h2⟩ | ⟨t, t0, t1, t2, rfl, t3⟩
    · exact h2 v (by omega) v1 pu
    · rcases q.2 with q1 | ⟨f, q1, q2⟩
      · omega
      · have e : f = mT M j t := by omega
        rw [e] at q2
        have := (ok.tlt (j := j) v1 t1).mp q2
        exact t3 v (by omega) this pu
theorem isFl_congr {M : Mp} {p q : Nat → Prop} (ok : okM M) (e : ∀ u, u < mm M → (p u ↔ q u)) {j k : Nat} {a : Int} (hk : k ≤ mH M j) (h : isFl M p j k a) : isFl M q j k a := by
  have ee : ∀ t, t < k → (p (mT M j t) ↔ q (mT M j t)) := fun t ht => e _ (ok.tin (by omega)).1
  rcases h with ⟨x, h1⟩ | ⟨t, t1, t2, x, t3⟩
  · exact Or.inl ⟨x, fun t ht => fun w => h1 t ht ((ee t ht).mpr w)⟩
  · exact Or.inr ⟨t, t1, (ee t t1).mp t2, x, fun u h1 h2 w => t3 u h1 h2 ((ee u h2).mpr w)⟩
theorem isRf_congr {M : Mp} {p q : Nat → Prop} (ok : okM M) (e : ∀ u, u < mm M → (p u ↔ q u)) {j k : Nat} {a : Int} (h : isRf M p j k a) : isRf M q j k a := by
  have ee : ∀ t, t < mH M j → (p (mT M j t) ↔ q (mT M j t)) := fun t ht => e _ (ok.tin ht).1
  rcases h with ⟨x, h1⟩ | ⟨t, t0, t1, t2, x, t3⟩
  · exact Or.inl ⟨x, fun t h0 ht => fun w => h1 t h0 ht ((ee t ht).mpr w)⟩
  · exact Or.inr ⟨t, t0, t1, (ee t t1).mp t2, x, fun u h1 h2 w => t3 u h1 h2 ((ee u (by omega)).mpr w)⟩
theorem nx_congr {M : Mp} {p q : Nat → Prop} (e : ∀ u, u < mm M → (p u ↔ q u)) (fl rf : Int) (i : Nat) : nx M p fl rf i ↔ nx M q fl rf i := by
  unfold nx
  exact ⟨fun h => ⟨h.1, h.2.1, fun u hu w => h.2.2 u hu ((e u hu).mpr w)⟩, fun h => ⟨h.1, h.2.1, fun u hu w => h.2.2 u hu ((e u hu).mp w)⟩⟩
theorem sN_congr {M : Mp} {p q : Nat → Prop} (ok : okM M) (e : ∀ u, u < mm M → (p u ↔ q u)) {j k s : Nat} (hk : k ≤ mH M j) : sN M p j k s = sN M q j k s := by
  have half : ∀ {p q : Nat → Prop}, (∀ u, u < mm M → (p u ↔ q u)) → ∀ n, stepR M p j k s n → stepR M q j k s n := by
    rintro p q e n ⟨fl, rf, a, b, x1, x2, x3, x4⟩
    refine ⟨fl, rf, a, b, isFl_congr ok e hk x1, isRf_congr ok e x2, ?_, x4⟩
    unfold isGap at *
    simp only [nx_congr e] at x3
    exact x3
  exact fnd_congr (fun n _ => ⟨half e n, half (fun u hu => (e u hu).symm) n⟩)
/-- who shares a strip with whom, and is over it -/
def shO (M : Mp) (u f : Nat) : Prop := u < mm M ∧ f < mm M ∧ (∃ i, thr M i u ∧ thr M i f) ∧ mO M u f
def shF (M : Mp) (u : Nat) (fl : Int) : Prop := fl = -1 ∨ ∃ f : Nat, fl = (f : Int) ∧ shO M u f
def shR (M : Mp) (u : Nat) (rf : Int) : Prop := rf = -1 ∨ ∃ r : Nat, rf = (r : Int) ∧ shO M r u
theorem shF.o {M : Mp} {u : Nat} {fl : Int} (h : shF M u fl) : ovF M u fl := by
  rcases h with h | ⟨f, h1, h2⟩
  · exact Or.inl h
  · exact Or.inr ⟨f, h1, h2.2.2.2⟩
theorem shR.o {M : Mp} {u : Nat} {fl : Int} (h : shR M u fl) : ovR M u fl := by
  rcases h with h | ⟨f, h1, h2⟩
  · exact Or.inl h
  · exact Or.inr ⟨f, h1, h2.2.2.2⟩
theorem ovF.s {M : Mp} {u i : Nat} {fl : Int} (h : ovF M u fl) (hu : u < mm M) (tu : thr M i u) (tf : thI M i fl) : shF M u fl := by
  rcases h with h | ⟨f, h1, h2⟩
  · exact Or.inl h
  · rcases tf with tf | ⟨g, t1, t2, t3⟩
    · omega
    · have e : g = f := by omega
      rw [e] at t2 t3
      exact Or.inr ⟨f, h1, hu, t2, ⟨i, tu, t3⟩, h2⟩
theorem ovR.s {M : Mp} {u i : Nat} {fl : Int} (h : ovR M u fl) (hu : u < mm M) (tu : thr M i u) (tf : thI M i fl) : shR M u fl := by
  rcases h with h | ⟨f, h1, h2⟩
  · exact Or.inl h
  · rcases tf with tf | ⟨g, t1, t2, t3⟩
    · omega
    · have e : g = f := by omega
      rw [e] at t2 t3
      exact Or.inr ⟨f, h1, t2, hu, ⟨i, t3, tu⟩, h2⟩
/-- going on to the left -/
theorem okM.gapL {M : Mp} (ok : okM M) {p : Nat → Prop} {fl rf : Int} {g : Nat} (hg : 0 < g) (h : nx M p fl rf g) :
    nx M p fl rf (g - 1) ↔ ((∀ f : Nat, fl = (f : Int) → mF M f + 1 < g) ∧ (∀ r : Nat, rf = (r : Int) → mF M r + 1 < g) ∧ ∀ u, u < mm M → p u → shF M u fl → shR M u rf → mL M u ≠ g - 1) := by
  obtain ⟨h1, h2, h3⟩ := h
  constructor
  · rintro ⟨x1, x2, x3⟩
    refine ⟨fun f hf => ?_, fun r hr => ?_, fun u hu pu s1 s2 e => ?_⟩
    · rcases x1 with x1 | ⟨f', y1, y2, y3⟩
      · omega
      · have e : f' = f := by omega
        rw [e] at y3
        have := y3.1
        omega
    · rcases x2 with x2 | ⟨f', y1, y2, y3⟩
      · omega
      · have e : f' = r := by omega
        rw [e] at y3
        have := y3.1
        omega
    · have := ok.fl hu
      exact x3 u hu pu ⟨by omega, by omega⟩ ⟨s1.o, s2.o⟩
  · rintro ⟨x1, x2, x3⟩
    have down : ∀ q : Int, thI M g q → (∀ f : Nat, q = (f : Int) → mF M f + 1 < g) → thI M (g - 1) q := by
      intro q t x
      rcases t with t | ⟨f, t1, t2, t3⟩
      · exact Or.inl t
      · have := x f t1
        have := t3.2
        exact Or.inr ⟨f, t1, t2, by omega, by omega⟩
    have d1 := down fl h1 x1
    have d2 := down rf h2 x2
    refine ⟨d1, d2, fun u hu pu tu q => ?_⟩
    by_cases c : thr M g u
    · exact h3 u hu pu c q
    · have t1 := tu.1
      have t2 := tu.2
      have e : mL M u = g - 1 := by
        unfold thr at c
        omega
      exact x3 u hu pu (q.1.s hu tu d1) (q.2.s hu tu d2) e
/-- going on to the right -/
theorem okM.gapR {M : Mp} (ok : okM M) {p : Nat → Prop} {fl rf : Int} {g : Nat} (h : nx M p fl rf g) :
    nx M p fl rf (g + 1) ↔ ((∀ f : Nat, fl = (f : Int) → g < mL M f) ∧ (∀ r : Nat, rf = (r : Int) → g < mL M r) ∧ ∀ u, u < mm M → p u → shF M u fl → shR M u rf → mF M u ≠ g) := by
  obtain ⟨h1, h2, h3⟩ := h
  constructor
  · rintro ⟨x1, x2, x3⟩
    refine ⟨fun f hf => ?_, fun r hr => ?_, fun u hu pu s1 s2 e => ?_⟩
    · rcases x1 with x1 | ⟨f', y1, y2, y3⟩
      · omega
      · have e : f' = f := by omega
        rw [e] at y3
        have := y3.2
        omega
    · rcases x2 with x2 | ⟨f', y1, y2, y3⟩
      · omega
      · have e : f' = r := by omega
        rw [e] at y3
        have := y3.2
        omega
    · have := ok.fl hu
      exact x3 u hu pu ⟨by omega, by omega⟩ ⟨s1.o, s2.o⟩
  · rintro ⟨x1, x2, x3⟩
    have up : ∀ q : Int, thI M g q → (∀ f : Nat, q = (f : Int) → g < mL M f) → thI M (g + 1) q := by
      intro q t x
      rcases t with t | ⟨f, t1, t2, t3⟩
      · exact Or.inl t
      · have := x f t1
        have := t3.1
        exact Or.inr ⟨f, t1, t2, by omega, by omega⟩
    have d1 := up fl h1 x1
    have d2 := up rf h2 x2
    refine ⟨d1, d2, fun u hu pu tu q => ?_⟩
    by_cases c : thr M g u
    · exact h3 u hu pu c q
    · have t1 := tu.1
      have t2 := tu.2
      have e : mF M u = g := by
        unfold thr at c
        omega
      exact x3 u hu pu (q.1.s hu tu d1) (q.2.s hu tu d2) e
/-- a segment goes through a strip of the gap -/
theorem okM.lies {M : Mp} (ok : okM M) {a b s : Nat} (hs : s < mm M) (hab : a ≤ b) : (∃ i, a ≤ i ∧ i ≤ b ∧ thr M i s) ↔ (a ≤ mL M s ∧ mF M s < b) := by
  have := ok.fl hs
  constructor
  · rintro ⟨i, h1, h2, h3, h4⟩
    omega
  · rintro ⟨h1, h2⟩
    by_cases c : a ≤ mF M s + 1
    · exact ⟨mF M s + 1, c, by omega, by omega, by omega⟩
    · exact ⟨a, by omega, by omega, by omega, by omega⟩
