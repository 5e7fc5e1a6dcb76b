/-! my own: the stack of a strip, as both sides build it -/
noncomputable def cit {α : Type} (p : Prop) (a b : α) : α := @ite α p (Classical.propDecidable p) a b
theorem cit_t {α : Type} {p : Prop} {a b : α} (h : p) : cit p a b = a := by
  unfold cit
  rw [if_pos h]
theorem cit_f {α : Type} {p : Prop} {a b : α} (h : ¬ p) : cit p a b = b := by
  unfold cit
  rw [if_neg h]
/-- where i goes among the h of T, asked from the top -/
noncomputable def plc (ov : Int → Int → Prop) (T : Nat → Int) (i : Int) : Nat → Nat
  | 0 => 0
  | p + 1 => cit (ov (T p) i) (plc ov T i p) (p + 1)
theorem plc_eq {ov : Int → Int → Prop} {T : Nat → Int} {i : Int} {h p : Nat} (h1 : ∀ e, p ≤ e → e < h → ov (T e) i) (h2 : p = 0 ∨ ¬ ov (T (p - 1)) i) (h3 : p ≤ h) : plc ov T i h = p := by
  induction h with
  | zero =>
    show 0 = p
    omega
  | succ h ih =>
    show cit (ov (T h) i) (plc ov T i h) (h + 1) = p
    by_cases q : p = h + 1
    · rw [cit_f]
      · exact q.symm
      · rcases h2 with r | r
        · omega
        · rw [q, Nat.add_sub_cancel] at r
          exact r
    · rw [cit_t (h1 h (by omega) (by omega))]
      exact ih (fun e e1 e2 => h1 e e1 (by omega)) (by omega)
theorem plc_le (ov : Int → Int → Prop) (T : Nat → Int) (i : Int) (h : Nat) : plc ov T i h ≤ h := by
  induction h with
  | zero => exact Nat.le_refl _
  | succ h ih =>
    show cit (ov (T h) i) (plc ov T i h) (h + 1) ≤ h + 1
    by_cases q : ov (T h) i
    · rw [cit_t q]
      omega
    · rw [cit_f q]
      exact Nat.le_refl _
def insT (T : Nat → Int) (p : Nat) (i : Int) : Nat → Int := fun e => if e < p then T e else if e = p then i else T (e - 1)
/-- the stack after the first i segments: how high, and who -/
noncomputable def stk (ov : Int → Int → Prop) (thr : Nat → Prop) : Nat → Nat × (Nat → Int)
  | 0 => (0, fun _ => 0)
  | i + 1 => cit (thr i) ((stk ov thr i).1 + 1, insT (stk ov thr i).2 (plc ov (stk ov thr i).2 i (stk ov thr i).1) i) (stk ov thr i)
theorem stk_le (ov : Int → Int → Prop) (thr : Nat → Prop) (i : Nat) : (stk ov thr i).1 ≤ i := by
  induction i with
  | zero => exact Nat.le_refl _
  | succ i ih =>
    show (cit (thr i) ((stk ov thr i).1 + 1, insT (stk ov thr i).2 (plc ov (stk ov thr i).2 i (stk ov thr i).1) i) (stk ov thr i)).1 ≤ i + 1
    by_cases q : thr i
    · rw [cit_t q]
      exact Nat.add_le_add_right ih 1
    · rw [cit_f q]
      omega
/-- who is in the stack -/
theorem stk_mem (ov : Int → Int → Prop) (thr : Nat → Prop) (i : Nat) : ∀ e, e < (stk ov thr i).1 → 0 ≤ (stk ov thr i).2 e ∧ (stk ov thr i).2 e < i ∧ thr ((stk ov thr i).2 e).toNat := by
  induction i with
  | zero =>
    intro e he
    exact absurd he (Nat.not_lt_zero e)
  | succ i ih =>
    intro e
    show e < (cit (thr i) ((stk ov thr i).1 + 1, insT (stk ov thr i).2 (plc ov (stk ov thr i).2 i (stk ov thr i).1) i) (stk ov thr i)).1 → 0 ≤ (cit (thr i) ((stk ov thr i).1 + 1, insT (stk ov thr i).2 (plc ov (stk ov thr i).2 i (stk ov thr i).1) i) (stk ov thr i)).2 e ∧ (cit (thr i) ((stk ov thr i).1 + 1, insT (stk ov thr i).2 (plc ov (stk ov thr i).2 i (stk ov thr i).1) i) (stk ov thr i)).2 e < ((i + 1 : Nat) : Int) ∧ thr ((cit (thr i) ((stk ov thr i).1 + 1, insT (stk ov thr i).2 (plc ov (stk ov thr i).2 i (stk ov thr i).1) i) (stk ov thr i)).2 e).toNat
    by_cases q : thr i
    · rw [cit_t q]
      intro he
      have he' : e < (stk ov thr i).1 + 1 := he
      have pl := plc_le ov (stk ov thr i).2 i (stk ov thr i).1
      show 0 ≤ insT (stk ov thr i).2 (plc ov (stk ov thr i).2 i (stk ov thr i).1) i e ∧ insT (stk ov thr i).2 (plc ov (stk ov thr i).2 i (stk ov thr i).1) i e < ((i + 1 : Nat) : Int) ∧ thr (insT (stk ov thr i).2 (plc ov (stk ov thr i).2 i (stk ov thr i).1) i e).toNat
      generalize plc ov (stk ov thr i).2 i (stk ov thr i).1 = p at pl ⊢
      unfold insT
      by_cases a : e < p
      · rw [if_pos a]
        have := ih e (by omega)
        exact ⟨this.1, by omega, this.2.2⟩
      · rw [if_neg a]
        by_cases b : e = p
        · rw [if_pos b]
          exact ⟨by omega, by omega, by rw [Int.toNat_natCast]; exact q⟩
        · rw [if_neg b]
          have := ih (e - 1) (by omega)
          exact ⟨this.1, by omega, this.2.2⟩
    · rw [cit_f q]
      intro he
      have := ih e he
      exact ⟨this.1, by omega, this.2.2⟩
