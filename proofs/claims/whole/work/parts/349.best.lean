/-! my own: the best order -/
/-- digits to the base of four -/
def pk4 (d : Nat → Nat) (n : Nat) : Nat := sm (fun t => d t * 4 ^ t) n
theorem pk4_s (d : Nat → Nat) (n : Nat) : pk4 d (n + 1) = pk4 d n + d n * 4 ^ n := rfl
theorem pk4_lt {d : Nat → Nat} {n : Nat} (h : ∀ t, t < n → d t < 4) : pk4 d n < 4 ^ n := by
  induction n with
  | zero => exact Nat.zero_lt_one
  | succ n ih =>
    have a := ih (fun t ht => h t (by omega))
    have b := h n (by omega)
    have c : d n * 4 ^ n ≤ 3 * 4 ^ n := Nat.mul_le_mul_right _ (by omega)
    rw [pk4_s, Nat.pow_succ]
    omega
theorem pk4_dg {d : Nat → Nat} {n i : Nat} (h : ∀ t, t < n → d t < 4) (hi : i < n) : pk4 d n / 4 ^ i % 4 = d i := by
  induction n with
  | zero => omega
  | succ n ih =>
    have b := h n (by omega)
    rw [pk4_s]
    by_cases e : i = n
    · subst e
      have a := pk4_lt (d := d) (n := i) (fun t ht => h t (by omega))
      have p : 0 < 4 ^ i := Nat.pow_pos (by decide)
      rw [Nat.add_mul_div_right _ _ p, Nat.div_eq_of_lt a, Nat.zero_add]
      exact Nat.mod_eq_of_lt b
    · have a := ih (fun t ht => h t (by omega)) (by omega)
      obtain ⟨k, rfl⟩ : ∃ k, n = i + (k + 1) := ⟨n - i - 1, by omega⟩
      have p : 0 < 4 ^ i := Nat.pow_pos (by decide)
      have e2 : d (i + (k + 1)) * 4 ^ (i + (k + 1)) = (4 * (d (i + (k + 1)) * 4 ^ k)) * 4 ^ i := by
        rw [Nat.pow_add, Nat.pow_succ]
        generalize 4 ^ i = x
        generalize 4 ^ k = y
        generalize d (i + (k + 1)) = z
        have e3 : z * (x * (y * 4)) = 4 * (z * y) * x := by grind
        exact e3
      rw [e2, Nat.add_mul_div_right _ _ p, Nat.add_mul_mod_self_left]
      exact a
theorem fct_dvd (k d : Nat) : ∃ c, fct (k + d) = fct k * c := by
  induction d with
  | zero => exact ⟨1, by rw [Nat.add_zero, Nat.mul_one]⟩
  | succ d ih =>
    obtain ⟨c, hc⟩ := ih
    refine ⟨(k + d + 1) * c, ?_⟩
    show (k + d + 1) * fct (k + d) = _
    rw [hc]
    exact Nat.mul_left_comm _ _ _
/-- orders with the same quotient begin alike -/
theorem oF_pre {m a b l : Nat} (hl : l ≤ m) (h : a / fct (m - l) = b / fct (m - l)) : ∀ i, i < l → oF m a i = oF m b i := by
  have rk : ∀ i, i < l → rnk m a i = rnk m b i := by
    intro i hi
    unfold rnk
    obtain ⟨c, hc⟩ := fct_dvd (m - l) (l - 1 - i)
    have e : m - l + (l - 1 - i) = m - 1 - i := by omega
    rw [e] at hc
    rw [hc, ← Nat.div_div_eq_div_mul, ← Nat.div_div_eq_div_mul, h]
  have o1 : isOrd m b (oF m a) l := fun i hi => by
    have := oF_ord m a i (by omega)
    rw [← rk i hi]
    exact this
  exact isOrd_uniq o1 (fun i hi => oF_ord m b i (by omega))
theorem oF_num {m a b : Nat} (ha : a < fct m) (hb : b < fct m) (h : ∀ i, i < m → oF m a i = oF m b i) : a = b := by
  have rk : ∀ i, i < m → rnk m a i = rnk m b i := by
    intro i hi
    rw [← (oF_ord m a i hi).2.2, ← (oF_ord m b i hi).2.2, h i hi, unu_congr (fun t ht => h t (by omega))]
  have key : ∀ k, k ≤ m → a % fct k = b % fct k := by
    intro k
    induction k with
    | zero =>
      intro _
      show a % 1 = b % 1
      rw [Nat.mod_one, Nat.mod_one]
    | succ k ih =>
      intro hk
      have r := rk (m - 1 - k) (by omega)
      unfold rnk at r
      rw [(by omega : m - 1 - (m - 1 - k) = k), (by omega : m - (m - 1 - k) = k + 1)] at r
      rw [fct_s, Nat.mul_comm, Nat.mod_mul, Nat.mod_mul, ih (by omega), r]
  have := key m (Nat.le_refl _)
  rw [Nat.mod_eq_of_lt ha, Nat.mod_eq_of_lt hb] at this
  exact this
/-- steps by the first l of an order -/
noncomputable def ptot (M : Mp) (o : Nat → Nat) (l j k : Nat) : Nat := sm (fun i => sN M (pre o i) j k (o i)) l
theorem ptot_s (M : Mp) (o : Nat → Nat) (l j k : Nat) : ptot M o (l + 1) j k = ptot M o l j k + sN M (pre o l) j k (o l) := rfl
theorem pre_congr {o o2 : Nat → Nat} {i : Nat} (h : ∀ t, t < i → o t = o2 t) : pre o i = pre o2 i := by
  funext u
  unfold pre
  exact propext ⟨fun ⟨t, h1, h2⟩ => ⟨t, h1, by rw [← h t h1]; exact h2⟩, fun ⟨t, h1, h2⟩ => ⟨t, h1, by rw [h t h1]; exact h2⟩⟩
theorem ptot_congr {M : Mp} {o o2 : Nat → Nat} {l : Nat} (h : ∀ t, t < l → o t = o2 t) (j k : Nat) : ptot M o l j k = ptot M o2 l j k := by
  refine sm_congr (fun i hi => ?_)
  rw [pre_congr (fun t ht => h t (by omega)), h i hi]
theorem ptot_mono {M : Mp} {o : Nat → Nat} {a b : Nat} (h : a ≤ b) (j k : Nat) : ptot M o a j k ≤ ptot M o b j k := sm_mono h
theorem ptot_le (M : Mp) (o : Nat → Nat) (l j k : Nat) : ptot M o l j k ≤ 4 * l := sm_ub (fun i _ => sN_le _ _ _ _ _)
/-- the greatest of a function over the cells ahead of one -/
noncomputable def mxC (M : Mp) (f : Nat → Nat → Nat) (j k : Nat) : Nat := if mx (fun j => mx (f j) (mH M j + 1)) j < mx (f j) k then mx (f j) k else mx (fun j => mx (f j) (mH M j + 1)) j
theorem mxC_e (M : Mp) (f : Nat → Nat → Nat) (j : Nat) : mxC M f (j + 1) 0 = mxC M f j (mH M j + 1) := by
  have z : mx (f (j + 1)) 0 = 0 := rfl
  have e : mx (fun j => mx (f j) (mH M j + 1)) (j + 1) = if mx (fun j => mx (f j) (mH M j + 1)) j < mx (f j) (mH M j + 1) then mx (f j) (mH M j + 1) else mx (fun j => mx (f j) (mH M j + 1)) j := rfl
  unfold mxC
  rw [z, if_neg (Nat.not_lt_zero _), e]
theorem mxC_s (M : Mp) (f : Nat → Nat → Nat) (j k : Nat) : mxC M f j (k + 1) = if mxC M f j k < f j k then f j k else mxC M f j k := by
  have e : mx (f j) (k + 1) = if mx (f j) k < f j k then f j k else mx (f j) k := rfl
  unfold mxC
  rw [e]
  (repeat' split) <;> omega
theorem mxC_all (M : Mp) (f : Nat → Nat → Nat) : mxC M f (mE M + 1) 0 = mx (fun j => mx (f j) (mH M j + 1)) (mE M + 1) := if_neg (Nat.not_lt_zero _)
theorem mx_mono {f g : Nat → Nat} {n : Nat} (h : ∀ k, k < n → f k ≤ g k) : mx f n ≤ mx g n := by
  induction n with
  | zero => exact Nat.le_refl _
  | succ n ih =>
    have a := ih (fun k hk => h k (by omega))
    have b := h n (by omega)
    show (if mx f n < f n then f n else mx f n) ≤ if mx g n < g n then g n else mx g n
    split <;> split <;> omega
theorem mxC_mono {M : Mp} {f g : Nat → Nat → Nat} (h : ∀ j k, f j k ≤ g j k) : mxC M f (mE M + 1) 0 ≤ mxC M g (mE M + 1) 0 := by
  rw [mxC_all, mxC_all]
  exact mx_mono (fun j _ => mx_mono (fun k _ => h j k))
theorem mxC_le {M : Mp} {f : Nat → Nat → Nat} {c : Nat} (h : ∀ j k, f j k ≤ c) (j k : Nat) : mxC M f j k ≤ c := by
  have a : mx (fun j => mx (f j) (mH M j + 1)) j ≤ c := mx_le (fun j _ => mx_le (fun k _ => h j k))
  have b : mx (f j) k ≤ c := mx_le (fun k _ => h j k)
  unfold mxC
  split <;> omega
/-- depth and sum of order a -/
noncomputable def Dp (M : Mp) (a : Nat) : Nat := dpt M (oF (mm M) a)
noncomputable def Sm (M : Mp) (a : Nat) : Nat := sms M (oF (mm M) a)
theorem Dp_eq (M : Mp) (a : Nat) : Dp M a = mxC M (ptot M (oF (mm M) a) (mm M)) (mE M + 1) 0 := (mxC_all M _).symm
def btr (M : Mp) (a b : Nat) : Prop := Dp M a < Dp M b ∨ (Dp M a = Dp M b ∧ Sm M a < Sm M b)
/-- the best of the first n orders -/
def bst (M : Mp) (n b : Nat) : Prop := b < n ∧ (∀ a, a < n → ¬ btr M a b) ∧ (∀ a, a < b → btr M b a)
theorem bst.uniq {M : Mp} {n b c : Nat} (h : bst M n b) (h2 : bst M n c) : b = c := by
  rcases Nat.lt_trichotomy b c with q | q | q
  · exact absurd (h2.2.2 b q) (h.2.1 c h2.1)
  · exact q
  · exact absurd (h.2.2 c q) (h2.2.1 b h.1)
theorem bst.one (M : Mp) : bst M 1 0 := ⟨by omega, fun a ha q => by
  have e : a = 0 := by omega
  subst e
  unfold btr at q
  omega, fun a ha => absurd ha (Nat.not_lt_zero a)⟩
theorem bst.new {M : Mp} {n b : Nat} (h : bst M n b) (q : btr M n b) : bst M (n + 1) n := by
  refine ⟨by omega, fun a ha w => ?_, fun a ha => ?_⟩
  · by_cases e : a = n
    · subst e
      unfold btr at w
      omega
    · refine h.2.1 a (by omega) ?_
      unfold btr at *
      omega
  · have := h.2.1 a ha
    unfold btr at *
    omega
theorem bst.keep {M : Mp} {n b : Nat} (h : bst M n b) (q : ¬ btr M n b) : bst M (n + 1) b := by
  refine ⟨by have := h.1; omega, fun a ha w => ?_, h.2.2⟩
  by_cases e : a = n
  · subst e
    exact q w
  · exact h.2.1 a (by omega) w
theorem bst.skip {M : Mp} {n n2 b : Nat} (h : bst M n b) (hn : n ≤ n2) (q : ∀ a, n ≤ a → a < n2 → Dp M b < Dp M a) : bst M n2 b := by
  refine ⟨by have := h.1; omega, fun a ha w => ?_, h.2.2⟩
  by_cases e : a < n
  · exact h.2.1 a e w
  · have := q a (by omega) ha
    unfold btr at w
    omega
theorem Dp_le {M : Mp} (ok : okM M) (a : Nat) : Dp M a ≤ 24 := mx_le (fun j _ => mx_le (fun k _ => tot_le ok _ j k))
theorem Sm_le {M : Mp} (ok : okM M) (a : Nat) : Sm M a ≤ 2500 := smC_le ok (oF (mm M) a) (j := mE M + 1) (k := 0) (Nat.le_refl _) (by omega)
