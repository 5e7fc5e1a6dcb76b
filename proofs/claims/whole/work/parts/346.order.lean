/-! my own: orders of segments -/
def fct : Nat → Nat
  | 0 => 1
  | n + 1 => (n + 1) * fct n
theorem fct_s (n : Nat) : fct (n + 1) = (n + 1) * fct n := rfl
theorem fct_pos (n : Nat) : 0 < fct n := by
  induction n with
  | zero => decide
  | succ n ih => exact Nat.mul_pos (by omega) ih
theorem fct_le : ∀ n, n < 7 → fct n ≤ 720 := by decide +kernel
theorem cnt_del {p : Nat → Prop} {q n : Nat} (hq : q < n) (hp : p q) : cnt (fun u => p u ∧ u ≠ q) n + 1 = cnt p n := by
  induction n with
  | zero => omega
  | succ n ih =>
    rw [cnt_s, cnt_s]
    by_cases e : q = n
    · subst e
      rw [ind_f (fun w => w.2 rfl), ind_t hp, cnt_congr (p := fun u => p u ∧ u ≠ q) (q := p) (fun k hk => ⟨fun w => w.1, fun w => ⟨w, by omega⟩⟩)]
    · have := ih (by omega)
      rw [ind_iff (p := p n ∧ n ≠ q) (q := p n) ⟨fun w => w.1, fun w => ⟨w, fun x => e x.symm⟩⟩]
      omega
theorem cnt_true {p : Nat → Prop} {n : Nat} (h : ∀ k, k < n → p k) : cnt p n = n := by
  induction n with
  | zero => rfl
  | succ n ih => rw [cnt_s, ih (fun k hk => h k (by omega)), ind_t (h n (by omega))]
theorem cnt_mono {p : Nat → Prop} {a b : Nat} (h : a ≤ b) : cnt p a ≤ cnt p b := sm_mono h
/-- not among the first i of o -/
def unu (o : Nat → Nat) (i u : Nat) : Prop := ∀ t, t < i → o t ≠ u
/-- the rank of the i-th in order num of m -/
def rnk (m num i : Nat) : Nat := num / fct (m - 1 - i) % (m - i)
def isOrd (m num : Nat) (o : Nat → Nat) (n : Nat) : Prop := ∀ i, i < n → o i < m ∧ unu o i (o i) ∧ cnt (unu o i) (o i) = rnk m num i
theorem unu_s {o : Nat → Nat} {i u : Nat} : unu o (i + 1) u ↔ (unu o i u ∧ u ≠ o i) := by
  unfold unu
  constructor
  · intro h
    exact ⟨fun t ht => h t (by omega), fun e => h i (by omega) e.symm⟩
  · rintro ⟨h1, h2⟩ t ht
    by_cases e : t = i
    · rw [e]
      exact fun x => h2 x.symm
    · exact h1 t (by omega)
theorem unu_cnt {m num : Nat} {o : Nat → Nat} {n : Nat} (h : isOrd m num o n) : ∀ i, i ≤ n → cnt (unu o i) m + i = m := by
  intro i
  induction i with
  | zero =>
    intro _
    rw [cnt_true (fun k _ t ht => absurd ht (Nat.not_lt_zero t))]
    rfl
  | succ i ih =>
    intro hi
    have a := ih (by omega)
    have b := h i (by omega)
    have c := cnt_del (p := unu o i) (q := o i) (n := m) b.1 b.2.1
    rw [cnt_congr (p := unu o (i + 1)) (q := fun u => unu o i u ∧ u ≠ o i) (fun k _ => unu_s)]
    omega
theorem isOrd_uniq {m num : Nat} {o o2 : Nat → Nat} {n : Nat} (h : isOrd m num o n) (h2 : isOrd m num o2 n) : ∀ i, i < n → o i = o2 i := by
  intro i
  induction i using Nat.strongRecOn with
  | ind i ih =>
    intro hi
    have eu : unu o i = unu o2 i := by
      funext u
      unfold unu
      exact propext ⟨fun x t ht => by rw [← ih t ht (by omega)]; exact x t ht, fun x t ht => by rw [ih t ht (by omega)]; exact x t ht⟩
    have a := h i hi
    have b := h2 i hi
    rw [← eu] at b
    rcases Nat.lt_trichotomy (o i) (o2 i) with q | q | q
    · have := cnt_mono (p := unu o i) (a := o i + 1) (b := o2 i) q
      rw [cnt_s, ind_t a.2.1] at this
      omega
    · exact q
    · have := cnt_mono (p := unu o i) (a := o2 i + 1) (b := o i) q
      rw [cnt_s, ind_t b.2.1] at this
      omega
/-- the first i of order num of m -/
noncomputable def oS (m num : Nat) : Nat → Nat → Nat
  | 0 => fun _ => 0
  | i + 1 => fun t => if t = i then fnd (fun u => unu (oS m num i) i u ∧ cnt (unu (oS m num i) i) u = rnk m num i) m else oS m num i t
noncomputable def oF (m num : Nat) : Nat → Nat := oS m num m
theorem unu_congr {o o2 : Nat → Nat} {i : Nat} (h : ∀ t, t < i → o t = o2 t) : unu o i = unu o2 i := by
  funext u
  unfold unu
  exact propext ⟨fun x t ht => by rw [← h t ht]; exact x t ht, fun x t ht => by rw [h t ht]; exact x t ht⟩
theorem oS_ord (m num : Nat) : ∀ i, i ≤ m → isOrd m num (oS m num i) i := by
  intro i
  induction i with
  | zero => intro _ t ht; exact absurd ht (Nat.not_lt_zero t)
  | succ i ih =>
    intro hi
    have h := ih (by omega)
    have keep : ∀ t, t < i → oS m num (i + 1) t = oS m num i t := fun t ht => if_neg (by omega)
    have new : oS m num (i + 1) i = fnd (fun u => unu (oS m num i) i u ∧ cnt (unu (oS m num i) i) u = rnk m num i) m := if_pos rfl
    intro t ht
    have eu : unu (oS m num (i + 1)) t = unu (oS m num i) t := unu_congr (fun s hs => keep s (by omega))
    rw [eu]
    by_cases e : t = i
    · subst e
      have c := unu_cnt h t (Nat.le_refl _)
      have r : rnk m num t < m - t := Nat.mod_lt _ (by omega)
      obtain ⟨k, k1, k2, k3⟩ := cnt_inv (p := unu (oS m num t) t) (n := m) (f := rnk m num t) (by omega)
      have lt : fnd (fun u => unu (oS m num t) t u ∧ cnt (unu (oS m num t) t) u = rnk m num t) m < m := fnd_lt.mpr ⟨k, k1, k2, k3⟩
      have sp := (fnd_spec (fun u => unu (oS m num t) t u ∧ cnt (unu (oS m num t) t) u = rnk m num t) m).2.1 lt
      rw [new]
      exact ⟨lt, sp.1, sp.2⟩
    · rw [keep t (by omega)]
      exact h t (by omega)
theorem oF_ord (m num : Nat) : isOrd m num (oF m num) m := oS_ord m num m (Nat.le_refl _)
theorem oF_lt {m num i : Nat} (hi : i < m) : oF m num i < m := (oF_ord m num i hi).1
theorem oF_eq {m num : Nat} {o : Nat → Nat} (h : isOrd m num o m) {i : Nat} (hi : i < m) : o i = oF m num i := isOrd_uniq h (oF_ord m num) i hi
/-- order 0 is that of the numbers -/
theorem oF_0 {m i : Nat} (hi : i < m) : oF m 0 i = i := by
  refine (oF_eq (o := fun i => i) (fun i hi => ⟨hi, fun t ht => Nat.ne_of_lt ht, ?_⟩) hi).symm
  have r : rnk m 0 i = 0 := by
    unfold rnk
    rw [Nat.zero_div, Nat.zero_mod]
  rw [r]
  exact cnt_zero (fun k hk q => q k hk rfl)
theorem oF_inj {m num a b : Nat} (ha : a < b) (hb : b < m) : oF m num a ≠ oF m num b := (oF_ord m num b hb).2.1 a ha
/-- the set of the first i -/
def pre (o : Nat → Nat) (i : Nat) : Nat → Prop := fun u => ∃ t, t < i ∧ o t = u
theorem pre_s {o : Nat → Nat} {i u : Nat} : pre o (i + 1) u ↔ (pre o i u ∨ u = o i) := by
  unfold pre
  constructor
  · rintro ⟨t, h1, h2⟩
    by_cases e : t = i
    · rw [e] at h2
      exact Or.inr h2.symm
    · exact Or.inl ⟨t, by omega, h2⟩
  · rintro (⟨t, h1, h2⟩ | h)
    · exact ⟨t, by omega, h2⟩
    · exact ⟨i, by omega, h.symm⟩
noncomputable def tot (M : Mp) (o : Nat → Nat) (j k : Nat) : Nat := sm (fun i => sN M (pre o i) j k (o i)) (mm M)
def mx (f : Nat → Nat) : Nat → Nat
  | 0 => 0
  | n + 1 => if mx f n < f n then f n else mx f n
noncomputable def dpt (M : Mp) (o : Nat → Nat) : Nat := mx (fun j => mx (tot M o j) (mH M j + 1)) (mE M + 1)
noncomputable def sms (M : Mp) (o : Nat → Nat) : Nat := sm (fun j => sm (tot M o j) (mH M j + 1)) (mE M + 1)
theorem sm_ub {f : Nat → Nat} {c n : Nat} (h : ∀ k, k < n → f k ≤ c) : sm f n ≤ c * n := by
  have := sm_le (f := f) (g := fun _ => c) (n := n) h
  rw [sm_const] at this
  exact this
theorem tot_le {M : Mp} (ok : okM M) (o : Nat → Nat) (j k : Nat) : tot M o j k ≤ 24 := by
  have a := sm_ub (f := fun i => sN M (pre o i) j k (o i)) (c := 4) (n := mm M) (fun i _ => sN_le _ _ _ _ _)
  have b := ok.m
  unfold tot
  omega
theorem mx_le {f : Nat → Nat} {c n : Nat} (h : ∀ k, k < n → f k ≤ c) : mx f n ≤ c := by
  induction n with
  | zero => exact Nat.zero_le c
  | succ n ih =>
    have a := ih (fun k hk => h k (by omega))
    have b := h n (by omega)
    show (if mx f n < f n then f n else mx f n) ≤ c
    split <;> omega
/-- up to a cell -/
noncomputable def dpC (M : Mp) (o : Nat → Nat) (j k : Nat) : Nat := if mx (fun j => mx (tot M o j) (mH M j + 1)) j < mx (tot M o j) k then mx (tot M o j) k else mx (fun j => mx (tot M o j) (mH M j + 1)) j
noncomputable def smC (M : Mp) (o : Nat → Nat) (j k : Nat) : Nat := sm (fun j => sm (tot M o j) (mH M j + 1)) j + sm (tot M o j) k
theorem dpC_0 (M : Mp) (o : Nat → Nat) : dpC M o 0 0 = 0 := rfl
theorem dpC_e (M : Mp) (o : Nat → Nat) (j : Nat) : dpC M o (j + 1) 0 = dpC M o j (mH M j + 1) := by
  have z : mx (tot M o (j + 1)) 0 = 0 := rfl
  have e : mx (fun j => mx (tot M o j) (mH M j + 1)) (j + 1) = if mx (fun j => mx (tot M o j) (mH M j + 1)) j < mx (tot M o j) (mH M j + 1) then mx (tot M o j) (mH M j + 1) else mx (fun j => mx (tot M o j) (mH M j + 1)) j := rfl
  unfold dpC
  rw [z, if_neg (Nat.not_lt_zero _), e]
theorem dpC_s (M : Mp) (o : Nat → Nat) (j k : Nat) : dpC M o j (k + 1) = if dpC M o j k < tot M o j k then tot M o j k else dpC M o j k := by
  have e : mx (tot M o j) (k + 1) = if mx (tot M o j) k < tot M o j k then tot M o j k else mx (tot M o j) k := rfl
  unfold dpC
  rw [e]
  (repeat' split) <;> omega
theorem smC_e (M : Mp) (o : Nat → Nat) (j : Nat) : smC M o (j + 1) 0 = smC M o j (mH M j + 1) := rfl
theorem smC_s (M : Mp) (o : Nat → Nat) (j k : Nat) : smC M o j (k + 1) = smC M o j k + tot M o j k := by
  unfold smC
  rw [sm_s]
  omega
theorem dpC_le {M : Mp} (ok : okM M) (o : Nat → Nat) (j k : Nat) : dpC M o j k ≤ 24 := by
  have a : mx (fun j => mx (tot M o j) (mH M j + 1)) j ≤ 24 := mx_le (fun j _ => mx_le (fun k _ => tot_le ok o j k))
  have b : mx (tot M o j) k ≤ 24 := mx_le (fun k _ => tot_le ok o j k)
  unfold dpC
  split <;> omega
theorem smC_le {M : Mp} (ok : okM M) (o : Nat → Nat) {j k : Nat} (hj : j ≤ mE M + 1) (hk : k ≤ 7) : smC M o j k ≤ 2500 := by
  have a : sm (fun j => sm (tot M o j) (mH M j + 1)) j ≤ 168 * j := sm_ub (fun i _ => by
    have := sm_ub (f := tot M o i) (c := 24) (n := mH M i + 1) (fun k _ => tot_le ok o i k)
    have := ok.h6 i
    omega)
  have b := sm_ub (f := tot M o j) (c := 24) (n := k) (fun t _ => tot_le ok o j t)
  have := ok.e
  unfold smC
  omega
theorem imax_n (a b : Nat) : imax (a : Int) (b : Int) = ((if a < b then b else a : Nat) : Int) := by
  unfold imax
  split <;> split <;> omega
theorem tdiv_n (a b : Nat) : Int.tdiv (a : Int) (b : Int) = ((a / b : Nat) : Int) := rfl
theorem tmod_n (a b : Nat) : Int.tmod (a : Int) (b : Int) = ((a % b : Nat) : Int) := rfl
theorem sav_f : SAL 0 = 7 ∧ ∀ k, k < 7 → ((SAV 0).getD k 0).toInt = ((fct k : Nat) : Int) := by decide +kernel
