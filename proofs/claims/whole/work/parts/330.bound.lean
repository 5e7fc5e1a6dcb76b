/-! my own: there are at most 49 cells and 19 fields -/
theorem cnt_ivl (a b n : Nat) (hb : b < n) (hab : a ≤ b) : cnt (fun j => a < j ∧ j ≤ b) n = b - a := by
  have key : ∀ n, cnt (fun j => a < j ∧ j ≤ b) n = if n ≤ a + 1 then 0 else if n ≤ b + 1 then n - 1 - a else b - a := by
    intro n
    induction n with
    | zero => rw [if_pos (by omega)]; rfl
    | succ n ih =>
      rw [cnt_s, ih]
      by_cases q : a < n ∧ n ≤ b
      · rw [ind_t q]
        (repeat' split) <;> omega
      · rw [ind_f q]
        (repeat' split) <;> omega
  rw [key n]
  split
  · omega
  · split <;> omega
theorem okM.sumH {M : Mp} (h : okM M) : sm (fun j => mH M j) (mE M + 1) = sm (fun i => mL M i - mF M i) (mm M) := by
  have e1 : sm (fun j => mH M j) (mE M + 1) = sm (fun j => sm (fun i => ind (thr M j i)) (mm M)) (mE M + 1) := sm_congr (fun j _ => mH_cnt M j)
  rw [e1, sm_comm]
  refine sm_congr (fun i hi => ?_)
  have := h.fl hi
  exact cnt_ivl (mF M i) (mL M i) (mE M + 1) (by omega) (by omega)
theorem okM.cover {M : Mp} (h : okM M) (b : Nat → Nat) : sm b (mE M) ≤ sm (fun i => b (mF M i) + b (mL M i)) (mm M) := by
  have e1 : sm b (mE M) ≤ sm (fun p => sm (fun i => ind (mF M i = p) * b p + ind (mL M i = p) * b p) (mm M)) (mE M) := by
    refine sm_le (fun p hp => ?_)
    obtain ⟨i, hi, q⟩ := h.cov hp
    have key : ∀ n, i < n → b p ≤ sm (fun i => ind (mF M i = p) * b p + ind (mL M i = p) * b p) n := by
      intro n
      induction n with
      | zero => intro q; omega
      | succ n ih =>
        intro hn
        rw [sm_s]
        by_cases r : i = n
        · rcases q with q | q
          · rw [← r, ind_t q]
            omega
          · rw [← r, ind_t q]
            omega
        · have := ih (by omega)
          omega
    exact key _ hi
  refine Nat.le_trans e1 ?_
  rw [sm_comm]
  refine sm_le (fun i hi => ?_)
  have := h.fl hi
  rw [sm_add, sm_pick (by omega), sm_pick (by omega)]
  exact Nat.le_refl _
theorem okM.c49 {M : Mp} (h : okM M) : FC M (mE M + 1) ≤ 49 := by
  have e0 : FC M (mE M + 1) = sm (fun j => mH M j) (mE M + 1) + (mE M + 1) := by
    show sm (fun i => mH M i + 1) (mE M + 1) = _
    rw [sm_add, sm_const, Nat.one_mul]
  rw [e0, h.sumH]
  have hm := h.m
  have hE := h.e
  have hc := h.cover (fun p => if p ≤ mE M - 1 - p then p else mE M - 1 - p)
  have hs : sm (fun i => mL M i - mF M i) (mm M) + sm (fun i => (if mF M i ≤ mE M - 1 - mF M i then mF M i else mE M - 1 - mF M i) + (if mL M i ≤ mE M - 1 - mL M i then mL M i else mE M - 1 - mL M i)) (mm M) ≤ (mE M - 1) * mm M := by
    rw [← sm_add, ← sm_const]
    refine sm_le (fun i hi => ?_)
    have := h.fl hi
    split <;> split <;> omega
  have hx : (mE M - 1) * mm M ≤ (mE M - 1) * 6 := Nat.mul_le_mul_left _ hm
  generalize mE M = e at *
  have ee : e = 0 ∨ e = 1 ∨ e = 2 ∨ e = 3 ∨ e = 4 ∨ e = 5 ∨ e = 6 ∨ e = 7 ∨ e = 8 ∨ e = 9 ∨ e = 10 ∨ e = 11 ∨ e = 12 := by omega
  have key : (e - 1) * 6 + e ≤ 48 + sm (fun p => if p ≤ e - 1 - p then p else e - 1 - p) e := by
    rcases ee with q | q | q | q | q | q | q | q | q | q | q | q | q <;> (rw [q]; decide)
  omega
/-- a closing segment lies between a cell's floor and roof, in the strip ahead -/
def btw (M : Mp) (j k i : Nat) : Prop :=
  (flo M (j + 1) k = -1 ∨ ∃ a, a < mm M ∧ flo M (j + 1) k = (a : Int) ∧ thr M j a ∧ mO M i a) ∧ (roo M (j + 1) k = -1 ∨ ∃ b, b < mm M ∧ roo M (j + 1) k = (b : Int) ∧ thr M j b ∧ mO M b i)
theorem okM.btw1 {M : Mp} (h : okM M) {j k l i : Nat} (hi : i < mm M) (ti : thr M j i) (hkl : k < l) (hl : l < mH M (j + 1) + 1) (h1 : btw M j k i) : ¬ btw M j l i := by
  intro h2
  have a1 := h1.2
  have a2 := h2.1
  rw [roo_k (by omega)] at a1
  rw [flo_p (by omega)] at a2
  rcases a1 with a1 | ⟨b, b0, b1, b2, b3⟩
  · omega
  · rcases a2 with a2 | ⟨a, c0, c1, c2, c3⟩
    · omega
    · have x1 := (h.ixo hi b0 ti b2).mp b3
      have x2 := (h.ixo c0 hi c2 ti).mp c3
      have e1 : b = mT M (j + 1) k := by omega
      have e2 : a = mT M (j + 1) (l - 1) := by omega
      by_cases q : k = l - 1
      · rw [← q] at e2
        rw [e1, ← e2] at x1
        omega
      · have o := h.tov (j := j + 1) (k := k) (l := l - 1) (by omega) (by omega)
        rw [← e1, ← e2] at o
        have x3 := (h.ixo b0 c0 b2 c2).mp o
        omega
theorem okM.adjm {M : Mp} (h : okM M) {j k : Nat} (hk : k ≤ mH M (j + 1)) (h1 : k = 0 ∨ thr M j (mT M (j + 1) (k - 1))) (h2 : k = mH M (j + 1) ∨ thr M j (mT M (j + 1) k)) (h3 : ∀ i, i < mm M → mL M i = j → thr M j i → ¬ btw M j k i) :
    ∃ l, l ≤ mH M j ∧ flo M j l = flo M (j + 1) k ∧ roo M j l = roo M (j + 1) k := by
  -- the cell over the floor, in the strip ahead
  have hp : ∃ p, p ≤ mH M j ∧ flo M j p = flo M (j + 1) k ∧ (k = 0 → p = 0) ∧ (0 < k → ix M j (mT M (j + 1) (k - 1)) + 1 = p) := by
    by_cases q : k = 0
    · exact ⟨0, Nat.zero_le _, by rw [q, flo_0, flo_0], fun _ => rfl, fun r => by omega⟩
    · have t1 := h1.resolve_left q
      have t2 := h.tin (j := j + 1) (k := k - 1) (by omega)
      have t3 := h.ixs t2.1 t1
      refine ⟨ix M j (mT M (j + 1) (k - 1)) + 1, by omega, ?_, fun r => absurd r q, fun _ => rfl⟩
      rw [flo_s, flo_p (by omega), t3.2]
  obtain ⟨p, p1, p2, p3, p4⟩ := hp
  refine ⟨p, p1, p2, ?_⟩
  -- nothing of the next strip lies between floor and roof
  have no : ∀ y, y < mm M → thr M j y → (0 < k → ix M j (mT M (j + 1) (k - 1)) < ix M j y) → (k < mH M (j + 1) → ix M j y < ix M j (mT M (j + 1) k)) → False := by
    intro y y1 y2 y3 y4
    by_cases q : mL M y = j
    · refine h3 y y1 q y2 ⟨?_, ?_⟩
      · by_cases r : k = 0
        · rw [r, flo_0]
          exact Or.inl rfl
        · have t1 := h1.resolve_left r
          have t2 := h.tin (j := j + 1) (k := k - 1) (by omega)
          exact Or.inr ⟨_, t2.1, flo_p (by omega), t1, (h.ixo t2.1 y1 t1 y2).mpr (y3 (by omega))⟩
      · by_cases r : k = mH M (j + 1)
        · rw [r, roo_t]
          exact Or.inl rfl
        · have t1 := h2.resolve_left r
          have t2 := h.tin (j := j + 1) (k := k) (by omega)
          exact Or.inr ⟨_, t2.1, roo_k (by omega), t1, (h.ixo y1 t2.1 y2 t1).mpr (y4 (by omega))⟩
    · have ty : thr M (j + 1) y := ⟨by have := y2.1; omega, by have := y2.2; omega⟩
      obtain ⟨r1, r2⟩ := h.ixs y1 ty
      generalize hr : ix M (j + 1) y = r at r1 r2
      by_cases c : r < k
      · have t1 := h1.resolve_left (by omega)
        have t2 := h.tin (j := j + 1) (k := k - 1) (by omega)
        have x1 := y3 (by omega)
        by_cases d : r = k - 1
        · rw [← d, r2] at x1
          omega
        · have o := h.tov (j := j + 1) (k := r) (l := k - 1) (by omega) (by omega)
          rw [r2] at o
          have x2 := (h.ixo y1 t2.1 y2 t1).mp o
          omega
      · have t1 := h2.resolve_left (by omega)
        have t2 := h.tin (j := j + 1) (k := k) (by omega)
        have x1 := y4 (by omega)
        by_cases d : r = k
        · rw [← d, r2] at x1
          omega
        · have o := h.tov (j := j + 1) (k := k) (l := r) (by omega) (by omega)
          rw [r2] at o
          have x2 := (h.ixo t2.1 y1 t1 y2).mp o
          omega
  -- the roof lies over the floor
  have up : 0 < k → k < mH M (j + 1) → ix M j (mT M (j + 1) (k - 1)) < ix M j (mT M (j + 1) k) := by
    intro q r
    have t1 := h1.resolve_left (by omega)
    have t2 := h2.resolve_left (by omega)
    have a1 := h.tin (j := j + 1) (k := k - 1) (by omega)
    have a2 := h.tin (j := j + 1) (k := k) (by omega)
    exact (h.ixo a1.1 a2.1 t1 t2).mp (h.tov (by omega) r)
  by_cases q : p = mH M j
  · rw [q, roo_t]
    by_cases r : k = mH M (j + 1)
    · rw [r, roo_t]
    · exfalso
      have t2 := h2.resolve_left r
      have a2 := h.tin (j := j + 1) (k := k) (by omega)
      have a3 := h.ixs a2.1 t2
      by_cases s : k = 0
      · have := p3 s
        omega
      · have := p4 (by omega)
        have := up (by omega) (by omega)
        omega
  · have y1 := h.tin (j := j) (k := p) (by omega)
    have y2 := h.ixT (j := j) (k := p) (by omega)
    rw [roo_k (by omega)]
    by_cases r : k = mH M (j + 1)
    · exfalso
      refine no (mT M j p) y1.1 y1.2 (fun s => ?_) (fun s => by omega)
      have := p4 s
      omega
    · have t2 := h2.resolve_left r
      have a2 := h.tin (j := j + 1) (k := k) (by omega)
      have a3 := h.ixs a2.1 t2
      rw [roo_k (by omega)]
      have ple : p ≤ ix M j (mT M (j + 1) k) := by
        by_cases s : k = 0
        · have := p3 s
          omega
        · have := p4 (by omega)
          have := up (by omega) (by omega)
          omega
      by_cases s : p = ix M j (mT M (j + 1) k)
      · rw [s, a3.2]
      · exfalso
        refine no (mT M j p) y1.1 y1.2 (fun s => ?_) (fun s => by omega)
        have := p4 s
        omega
theorem okM.new_le {M : Mp} (h : okM M) (j : Nat) : cnt (nw M (j + 1)) (mH M (j + 1) + 1) ≤ sm (fun i => 2 * ind (mF M i = j) + ind (mL M i = j)) (mm M) := by
  have e1 : cnt (nw M (j + 1)) (mH M (j + 1) + 1) ≤ sm (fun k => sm (fun i => ind (flo M (j + 1) k = (i : Int) ∧ mF M i = j) + ind (roo M (j + 1) k = (i : Int) ∧ mF M i = j) + ind (mL M i = j ∧ thr M j i ∧ btw M j k i)) (mm M)) (mH M (j + 1) + 1) := by
    refine sm_le (fun k hk => ?_)
    by_cases q : nw M (j + 1) k
    · rw [ind_t q]
      have pick : ∀ i, i < mm M → (flo M (j + 1) k = (i : Int) ∧ mF M i = j) ∨ (roo M (j + 1) k = (i : Int) ∧ mF M i = j) ∨ (mL M i = j ∧ thr M j i ∧ btw M j k i) → 1 ≤ sm (fun i => ind (flo M (j + 1) k = (i : Int) ∧ mF M i = j) + ind (roo M (j + 1) k = (i : Int) ∧ mF M i = j) + ind (mL M i = j ∧ thr M j i ∧ btw M j k i)) (mm M) := by
        intro i hi hp
        have hs := sm_mono (f := fun i => ind (flo M (j + 1) k = (i : Int) ∧ mF M i = j) + ind (roo M (j + 1) k = (i : Int) ∧ mF M i = j) + ind (mL M i = j ∧ thr M j i ∧ btw M j k i)) (a := i + 1) (b := mm M) (by omega)
        rw [sm_s] at hs
        rcases hp with hp | hp | hp
        · rw [ind_t hp] at hs; omega
        · rw [ind_t hp] at hs; omega
        · rw [ind_t hp] at hs; omega
      by_cases c1 : k = 0 ∨ thr M j (mT M (j + 1) (k - 1))
      · by_cases c2 : k = mH M (j + 1) ∨ thr M j (mT M (j + 1) k)
        · by_cases c3 : ∀ i, i < mm M → mL M i = j → thr M j i → ¬ btw M j k i
          · obtain ⟨l, l1, l2, l3⟩ := h.adjm (by omega) c1 c2 c3
            exact absurd q (h.fo_m l1 l2 l3).1
          · have : ∃ i, i < mm M ∧ mL M i = j ∧ thr M j i ∧ btw M j k i := by
              refine Classical.byContradiction (fun no => c3 (fun i a b c d => no ⟨i, a, b, c, d⟩))
            obtain ⟨i, a, b⟩ := this
            exact pick i a (Or.inr (Or.inr b))
        · have k1 : k < mH M (j + 1) := by omega
          have t := h.tin k1
          refine pick _ t.1 (Or.inr (Or.inl ⟨roo_k k1, ?_⟩))
          have t2 := t.2
          unfold thr at t2 c2
          omega
      · have k1 : 0 < k := by omega
        have t := h.tin (j := j + 1) (k := k - 1) (by omega)
        refine pick _ t.1 (Or.inl ⟨flo_p k1, ?_⟩)
        have t2 := t.2
        unfold thr at t2 c1
        omega
    · rw [ind_f q]
      exact Nat.zero_le _
  refine Nat.le_trans e1 ?_
  rw [sm_comm]
  refine sm_le (fun i hi => ?_)
  rw [sm_add, sm_add]
  have a1 : sm (fun k => ind (flo M (j + 1) k = (i : Int) ∧ mF M i = j)) (mH M (j + 1) + 1) ≤ ind (mF M i = j) := by
    by_cases q : mF M i = j
    · rw [ind_t q]
      refine cnt_one (p := fun k => flo M (j + 1) k = (i : Int) ∧ mF M i = j) (fun a b hab hb pa pb => ?_)
      have := h.flo_inj (j := j + 1) (k := a) (l := b) (by omega) (by omega) (by rw [pa.1, pb.1])
      omega
    · rw [ind_f q]
      exact Nat.le_of_eq (sm_zero (fun k _ => ind_f (fun r => q r.2)))
  have a2 : sm (fun k => ind (roo M (j + 1) k = (i : Int) ∧ mF M i = j)) (mH M (j + 1) + 1) ≤ ind (mF M i = j) := by
    by_cases q : mF M i = j
    · rw [ind_t q]
      refine cnt_one (p := fun k => roo M (j + 1) k = (i : Int) ∧ mF M i = j) (fun a b hab hb pa pb => ?_)
      have := h.roo_inj (j := j + 1) (k := a) (l := b) (by omega) (by omega) (by rw [pa.1, pb.1])
      omega
    · rw [ind_f q]
      exact Nat.le_of_eq (sm_zero (fun k _ => ind_f (fun r => q r.2)))
  have a3 : sm (fun k => ind (mL M i = j ∧ thr M j i ∧ btw M j k i)) (mH M (j + 1) + 1) ≤ ind (mL M i = j) := by
    by_cases q : mL M i = j
    · rw [ind_t q]
      exact cnt_one (p := fun k => mL M i = j ∧ thr M j i ∧ btw M j k i) (fun a b hab hb pa pb => h.btw1 hi pa.2.1 hab hb pa.2.2 pb.2.2)
    · rw [ind_f q]
      exact Nat.le_of_eq (sm_zero (fun k _ => ind_f (fun r => q r.1)))
  omega
theorem cnt_eq_le (a n : Nat) : cnt (fun j => a = j) n ≤ 1 := cnt_one (fun x y h _ p q => by omega)
theorem okM.f19 {M : Mp} (h : okM M) : nF M ≤ 19 := by
  have key : ∀ J, nfS M (J + 1) ≤ 1 + sm (fun j => sm (fun i => 2 * ind (mF M i = j) + ind (mL M i = j)) (mm M)) J := by
    intro J
    induction J with
    | zero =>
      show 0 + cnt (nw M 0) (mH M 0 + 1) ≤ 1 + 0
      rw [mH_0]
      have := cnt_le (nw M 0) (0 + 1)
      omega
    | succ J ih =>
      have a := h.new_le J
      have e : nfS M (J + 1 + 1) = nfS M (J + 1) + cnt (nw M (J + 1)) (mH M (J + 1) + 1) := rfl
      rw [e, sm_s]
      omega
  have a := key (mE M)
  rw [sm_comm] at a
  have b : sm (fun i => sm (fun j => 2 * ind (mF M i = j) + ind (mL M i = j)) (mE M)) (mm M) ≤ sm (fun _ => 3) (mm M) := by
    refine sm_le (fun i hi => ?_)
    have c1 := cnt_eq_le (mF M i) (mE M)
    have c2 := cnt_eq_le (mL M i) (mE M)
    have e : sm (fun j => 2 * ind (mF M i = j) + ind (mL M i = j)) (mE M) = (cnt (fun j => mF M i = j) (mE M) + cnt (fun j => mF M i = j) (mE M)) + cnt (fun j => mL M i = j) (mE M) := by
      unfold cnt
      rw [← sm_add, ← sm_add]
      refine sm_congr (fun k _ => ?_)
      show 2 * ind (mF M i = k) + ind (mL M i = k) = ind (mF M i = k) + ind (mF M i = k) + ind (mL M i = k)
      omega
    rw [e]
    omega
  rw [sm_const] at b
  have := h.m
  unfold nF
  omega
