/-! my own: the stack of a strip, as both sides build it -/
/-- where i goes among the h of T, asked from the top -/
noncomputable def plc (ov : Nat → Nat → Prop) (T : Nat → Nat) (i : Nat) : Nat → Nat
  | 0 => 0
  | p + 1 => cit (ov (T p) i) (plc ov T i p) (p + 1)
theorem plc_eq {ov : Nat → Nat → Prop} {T : Nat → Nat} {i : Nat} {h p : Nat} (h1 : ∀ e, p ≤ e → e < h → ov (T e) i) (h2 : p = 0 ∨ ¬ ov (T (p - 1)) i) (h3 : p ≤ h) : plc ov T i h = p := by
  induction h with
  | zero =>
    show 0 = p
    omega
  | succ h ih =>
    show cit (ov (T h) i) (plc ov T i h) (h + 1) = p
    by_cases q : p = h + 1
    · rw [cit_f]
      · exact q.symm
      · rcases h2 with r | r
        · omega
        · rw [q, Nat.add_sub_cancel] at r
          exact r
    · rw [cit_t (h1 h (by omega) (by omega))]
      exact ih (fun e e1 e2 => h1 e e1 (by omega)) (by omega)
theorem plc_spec (ov : Nat → Nat → Prop) (T : Nat → Nat) (i : Nat) (h : Nat) : plc ov T i h ≤ h ∧ (∀ e, plc ov T i h ≤ e → e < h → ov (T e) i) ∧ (plc ov T i h = 0 ∨ ¬ ov (T (plc ov T i h - 1)) i) := by
  induction h with
  | zero => exact ⟨Nat.le_refl _, fun e _ h => absurd h (Nat.not_lt_zero e), Or.inl rfl⟩
  | succ h ih =>
    obtain ⟨a, b, c⟩ := ih
    unfold plc
    by_cases q : ov (T h) i
    · rw [cit_t q]
      refine ⟨by omega, fun e e1 e2 => ?_, c⟩
      by_cases r : e = h
      · rw [r]; exact q
      · exact b e e1 (by omega)
    · rw [cit_f q]
      exact ⟨Nat.le_refl _, fun e e1 e2 => by omega, Or.inr q⟩
def insT (T : Nat → Nat) (p : Nat) (i : Nat) : Nat → Nat := fun e => if e < p then T e else if e = p then i else T (e - 1)
/-- the stack after the first i segments: how high, and who -/
noncomputable def stk0 (ov : Nat → Nat → Prop) (thr : Nat → Prop) : Nat → Nat × (Nat → Nat)
  | 0 => (0, fun _ => 0)
  | i + 1 => cit (thr i) ((stk0 ov thr i).1 + 1, insT (stk0 ov thr i).2 (plc ov (stk0 ov thr i).2 i (stk0 ov thr i).1) i) (stk0 ov thr i)
theorem stk_ex : ∃ f : (Nat → Nat → Prop) → (Nat → Prop) → Nat → Nat × (Nat → Nat), f = stk0 := ⟨stk0, rfl⟩
/-- the same, shut -/
noncomputable def stk : (Nat → Nat → Prop) → (Nat → Prop) → Nat → Nat × (Nat → Nat) := Classical.choose stk_ex
theorem stk_def : stk = stk0 := Classical.choose_spec stk_ex
theorem stk_z (ov : Nat → Nat → Prop) (thr : Nat → Prop) : stk ov thr 0 = (0, fun _ => 0) := by
  rw [stk_def]
  rfl
theorem stk_t {ov : Nat → Nat → Prop} {thr : Nat → Prop} {i : Nat} (h : thr i) : stk ov thr (i + 1) = ((stk ov thr i).1 + 1, insT (stk ov thr i).2 (plc ov (stk ov thr i).2 i (stk ov thr i).1) i) := by
  rw [stk_def]
  exact cit_t h
theorem stk_f {ov : Nat → Nat → Prop} {thr : Nat → Prop} {i : Nat} (h : ¬ thr i) : stk ov thr (i + 1) = stk ov thr i := by
  rw [stk_def]
  exact cit_f h
theorem stk_le (ov : Nat → Nat → Prop) (thr : Nat → Prop) (i : Nat) : (stk ov thr i).1 ≤ i := by
  induction i with
  | zero =>
    rw [stk_z]
    exact Nat.le_refl _
  | succ i ih =>
    by_cases q : thr i
    · rw [stk_t q]
      exact Nat.add_le_add_right ih 1
    · rw [stk_f q]
      omega
theorem stk_cnt (ov : Nat → Nat → Prop) (thr : Nat → Prop) (i : Nat) : (stk ov thr i).1 = cnt thr i := by
  induction i with
  | zero =>
    rw [stk_z]
    rfl
  | succ i ih =>
    rw [cnt_s]
    by_cases q : thr i
    · rw [stk_t q, ind_t q, ih]
    · rw [stk_f q, ind_f q, ih, Nat.add_zero]
/-- the stack of the first i: who is in it; all are; each over those below it -/
def skp (ov : Nat → Nat → Prop) (thr : Nat → Prop) (i h : Nat) (T : Nat → Nat) : Prop :=
  (∀ e, e < h → T e < i ∧ thr (T e)) ∧ (∀ s, s < i → thr s → ∃ e, e < h ∧ T e = s) ∧ (∀ d e, d < e → e < h → ov (T e) (T d))
theorem stk_skp {ov : Nat → Nat → Prop} {thr : Nat → Prop} {m : Nat} (tot : ∀ a b, a < m → b < m → thr a → thr b → a ≠ b → ov a b ∨ ov b a) (trs : ∀ a b c, a < m → b < m → c < m → thr a → thr b → thr c → ov a b → ov b c → ov a c) (i : Nat) (hi : i ≤ m) :
    skp ov thr i (stk ov thr i).1 (stk ov thr i).2 := by
  induction i with
  | zero =>
    rw [stk_z]
    exact ⟨fun e he => absurd he (Nat.not_lt_zero e), fun s hs => absurd hs (Nat.not_lt_zero s), fun d e _ he => absurd he (Nat.not_lt_zero e)⟩
  | succ i ih =>
    obtain ⟨a, b, c⟩ := ih (by omega)
    by_cases q : thr i
    · rw [stk_t q]
      obtain ⟨p1, p2, p3⟩ := plc_spec ov (stk ov thr i).2 i (stk ov thr i).1
      show skp ov thr (i + 1) ((stk ov thr i).1 + 1) (insT (stk ov thr i).2 (plc ov (stk ov thr i).2 i (stk ov thr i).1) i)
      generalize plc ov (stk ov thr i).2 i (stk ov thr i).1 = p at p1 p2 p3 ⊢
      generalize (stk ov thr i).2 = T at a b c p2 p3 ⊢
      generalize (stk ov thr i).1 = h at a b c p1 p2 ⊢
      have i1 : ∀ e, e < p → insT T p i e = T e := fun e he => by unfold insT; rw [if_pos he]
      have i2 : insT T p i p = i := by unfold insT; rw [if_neg (by omega), if_pos rfl]
      have i3 : ∀ e, p < e → insT T p i e = T (e - 1) := fun e he => by unfold insT; rw [if_neg (by omega), if_neg (by omega)]
      have lo : ∀ e, e < p → ov i (T e) := by
        intro e he
        have hn : ¬ ov (T (p - 1)) i := p3.resolve_left (by omega)
        have h1 := a (p - 1) (by omega)
        have h2 : ov i (T (p - 1)) := (tot (T (p - 1)) i (by omega) (by omega) h1.2 q (by omega)).resolve_left hn
        by_cases r : e = p - 1
        · rw [r]; exact h2
        · have h3 := a e (by omega)
          exact trs i (T (p - 1)) (T e) (by omega) (by omega) (by omega) q h1.2 h3.2 h2 (c e (p - 1) (by omega) (by omega))
      refine ⟨fun e he => ?_, fun s hs ht => ?_, fun d e hd he => ?_⟩
      · rcases Nat.lt_trichotomy e p with r | r | r
        · rw [i1 e r]
          have := a e (by omega)
          exact ⟨by omega, this.2⟩
        · rw [r, i2]
          exact ⟨by omega, q⟩
        · rw [i3 e r]
          have := a (e - 1) (by omega)
          exact ⟨by omega, this.2⟩
      · by_cases r : s = i
        · exact ⟨p, by omega, by rw [i2, r]⟩
        · obtain ⟨e, e1, e2⟩ := b s (by omega) ht
          by_cases u : e < p
          · exact ⟨e, by omega, by rw [i1 e u, e2]⟩
          · exact ⟨e + 1, by omega, by rw [i3 (e + 1) (by omega), Nat.add_sub_cancel, e2]⟩
      · rcases Nat.lt_trichotomy e p with r | r | r
        · rw [i1 e r, i1 d (by omega)]
          exact c d e hd (by omega)
        · rw [r, i2, i1 d (by omega)]
          exact lo d (by omega)
        · rw [i3 e r]
          rcases Nat.lt_trichotomy d p with u | u | u
          · rw [i1 d u]
            exact c d (e - 1) (by omega) (by omega)
          · rw [u, i2]
            exact p2 (e - 1) (by omega) (by omega)
          · rw [i3 d u]
            exact c (d - 1) (e - 1) (by omega) (by omega)
    · rw [stk_f q]
      refine ⟨fun e he => ?_, fun s hs ht => ?_, c⟩
      · have := a e he
        exact ⟨by omega, this.2⟩
      · by_cases r : s = i
        · rw [r] at ht
          exact absurd ht q
        · exact b s (by omega) ht
