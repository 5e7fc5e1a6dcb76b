/-! my own: sums, counts, searches over the first numbers -/
noncomputable def cit {α : Type} (p : Prop) (a b : α) : α := @ite α p (Classical.propDecidable p) a b
theorem cit_t {α : Type} {p : Prop} {a b : α} (h : p) : cit p a b = a := by
  unfold cit
  rw [if_pos h]
theorem cit_f {α : Type} {p : Prop} {a b : α} (h : ¬ p) : cit p a b = b := by
  unfold cit
  rw [if_neg h]
def sm (f : Nat → Nat) : Nat → Nat
  | 0 => 0
  | n + 1 => sm f n + f n
theorem sm_s (f : Nat → Nat) (n : Nat) : sm f (n + 1) = sm f n + f n := rfl
noncomputable def ind (p : Prop) : Nat := cit p 1 0
theorem ind_t {p : Prop} (h : p) : ind p = 1 := cit_t h
theorem ind_f {p : Prop} (h : ¬ p) : ind p = 0 := cit_f h
theorem ind_le (p : Prop) : ind p ≤ 1 := by
  by_cases h : p
  · rw [ind_t h]; exact Nat.le_refl 1
  · rw [ind_f h]; exact Nat.zero_le 1
theorem ind_iff {p q : Prop} (h : p ↔ q) : ind p = ind q := by rw [propext h]
noncomputable def cnt (p : Nat → Prop) (n : Nat) : Nat := sm (fun k => ind (p k)) n
theorem cnt_s (p : Nat → Prop) (n : Nat) : cnt p (n + 1) = cnt p n + ind (p n) := rfl
theorem sm_le {f g : Nat → Nat} {n : Nat} (h : ∀ k, k < n → f k ≤ g k) : sm f n ≤ sm g n := by
  induction n with
  | zero => exact Nat.le_refl _
  | succ n ih =>
    have h1 := ih (fun k hk => h k (by omega))
    have h2 := h n (by omega)
    rw [sm_s, sm_s]
    omega
theorem sm_congr {f g : Nat → Nat} {n : Nat} (h : ∀ k, k < n → f k = g k) : sm f n = sm g n :=
  Nat.le_antisymm (sm_le (fun k hk => Nat.le_of_eq (h k hk))) (sm_le (fun k hk => Nat.le_of_eq (h k hk).symm))
theorem cnt_congr {p q : Nat → Prop} {n : Nat} (h : ∀ k, k < n → (p k ↔ q k)) : cnt p n = cnt q n := sm_congr (fun k hk => ind_iff (h k hk))
theorem cnt_le (p : Nat → Prop) (n : Nat) : cnt p n ≤ n := by
  induction n with
  | zero => exact Nat.le_refl _
  | succ n ih =>
    have := ind_le (p n)
    rw [cnt_s]
    omega
theorem sm_add (f g : Nat → Nat) (n : Nat) : sm (fun k => f k + g k) n = sm f n + sm g n := by
  induction n with
  | zero => rfl
  | succ n ih =>
    rw [sm_s, sm_s, sm_s, ih]
    omega
theorem sm_zero {f : Nat → Nat} {n : Nat} (h : ∀ k, k < n → f k = 0) : sm f n = 0 := by
  induction n with
  | zero => rfl
  | succ n ih => rw [sm_s, ih (fun k hk => h k (by omega)), h n (by omega)]
theorem sm_const (c n : Nat) : sm (fun _ => c) n = c * n := by
  induction n with
  | zero => rfl
  | succ n ih => rw [sm_s, ih, Nat.mul_succ]
theorem sm_comm (f : Nat → Nat → Nat) (m n : Nat) : sm (fun i => sm (fun j => f i j) n) m = sm (fun j => sm (fun i => f i j) m) n := by
  induction m with
  | zero => exact (sm_zero (fun _ _ => rfl)).symm
  | succ m ih =>
    rw [sm_s, ih]
    have : (fun j => sm (fun i => f i j) (m + 1)) = fun j => sm (fun i => f i j) m + f m j := rfl
    rw [this, sm_add]
theorem cnt_zero {p : Nat → Prop} {n : Nat} (h : ∀ k, k < n → ¬ p k) : cnt p n = 0 := sm_zero (fun k hk => ind_f (h k hk))
theorem cnt_one {p : Nat → Prop} {n : Nat} (h : ∀ a b, a < b → b < n → p a → ¬ p b) : cnt p n ≤ 1 := by
  induction n with
  | zero => exact Nat.zero_le 1
  | succ n ih =>
    rw [cnt_s]
    by_cases q : p n
    · rw [ind_t q, cnt_zero (fun k hk hp => h k n hk (by omega) hp q)]
      omega
    · rw [ind_f q]
      exact ih (fun a b h1 h2 => h a b h1 (by omega))
theorem cnt_pos {p : Nat → Prop} {n k : Nat} (hk : k < n) (h : p k) : 1 ≤ cnt p n := by
  induction n with
  | zero => omega
  | succ n ih =>
    rw [cnt_s]
    by_cases q : k = n
    · rw [← q, ind_t h]
      omega
    · have := ih (by omega)
      omega
/-- what is taken at one place of a row -/
theorem sm_pick {b : Nat → Nat} {q n : Nat} (h : q < n) : sm (fun k => ind (q = k) * b k) n = b q := by
  induction n with
  | zero => omega
  | succ n ih =>
    rw [sm_s]
    by_cases e : q = n
    · rw [sm_zero (fun k hk => by rw [ind_f (by omega), Nat.zero_mul]), ind_t e, e]
      omega
    · rw [ih (by omega), ind_f e]
      omega
theorem sm_mono {f : Nat → Nat} {a b : Nat} (h : a ≤ b) : sm f a ≤ sm f b := by
  induction b with
  | zero => rw [(by omega : a = 0)]; exact Nat.le_refl _
  | succ b ih =>
    by_cases q : a = b + 1
    · rw [q]; exact Nat.le_refl _
    · have := ih (by omega)
      rw [sm_s]
      omega
/-- the least k below n with p, or n -/
noncomputable def fnd (p : Nat → Prop) : Nat → Nat
  | 0 => 0
  | n + 1 => cit (fnd p n < n) (fnd p n) (cit (p n) n (n + 1))
theorem fnd_spec (p : Nat → Prop) (n : Nat) : fnd p n ≤ n ∧ (fnd p n < n → p (fnd p n)) ∧ (∀ k, k < fnd p n → ¬ p k) := by
  induction n with
  | zero => exact ⟨Nat.le_refl _, fun h => absurd h (Nat.lt_irrefl _), fun k hk => absurd hk (Nat.not_lt_zero k)⟩
  | succ n ih =>
    obtain ⟨h1, h2, h3⟩ := ih
    unfold fnd
    by_cases q : fnd p n < n
    · rw [cit_t q]
      exact ⟨by omega, fun _ => h2 q, h3⟩
    · rw [cit_f q]
      have e : fnd p n = n := by omega
      rw [e] at h3
      by_cases r : p n
      · rw [cit_t r]
        exact ⟨by omega, fun _ => r, h3⟩
      · rw [cit_f r]
        refine ⟨Nat.le_refl _, fun h => absurd h (Nat.lt_irrefl _), fun k hk => ?_⟩
        by_cases s : k = n
        · rw [s]; exact r
        · exact h3 k (by omega)
theorem fnd_eq {p : Nat → Prop} {n r : Nat} (h1 : r ≤ n) (h2 : r < n → p r) (h3 : ∀ k, k < r → ¬ p k) : fnd p n = r := by
  obtain ⟨g1, g2, g3⟩ := fnd_spec p n
  by_cases a : fnd p n < r
  · exact absurd (g2 (by omega)) (h3 _ a)
  · by_cases b : r < fnd p n
    · exact absurd (h2 (by omega)) (g3 r b)
    · omega
theorem fnd_lt {p : Nat → Prop} {n : Nat} : fnd p n < n ↔ ∃ k, k < n ∧ p k := by
  obtain ⟨g1, g2, g3⟩ := fnd_spec p n
  constructor
  · intro h
    exact ⟨_, h, g2 h⟩
  · rintro ⟨k, hk, hp⟩
    by_cases a : fnd p n < n
    · exact a
    · exact absurd hp (g3 k (by omega))
theorem fnd_congr {p q : Nat → Prop} {n : Nat} (h : ∀ k, k < n → (p k ↔ q k)) : fnd p n = fnd q n := by
  obtain ⟨g1, g2, g3⟩ := fnd_spec q n
  exact fnd_eq g1 (fun a => (h _ a).mpr (g2 a)) (fun k hk hp => g3 k hk ((h k (by omega)).mp hp))
