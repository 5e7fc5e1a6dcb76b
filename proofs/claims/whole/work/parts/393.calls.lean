/-! my own: tokens -/
noncomputable def tkR (c : Int → Prop) (T : Nat → Int) (L q : Nat) : Nat := q + fnd (fun i => ¬ c (T (q + i))) (L - q)
theorem tkR_b {c : Int → Prop} {T : Nat → Int} {L q : Nat} (h : q ≤ L) : q ≤ tkR c T L q ∧ tkR c T L q ≤ L := by
  have := (fnd_spec (fun i => ¬ c (T (q + i))) (L - q)).1
  unfold tkR
  omega
theorem tkR_iff {c : Int → Prop} {T : Nat → Int} {L q j : Nat} (h : q ≤ L) (h1 : q ≤ j) (h2 : j ≤ tkR c T L q) : j < tkR c T L q ↔ (j < L ∧ c (T j)) := by
  obtain ⟨a, b, d⟩ := fnd_spec (fun i => ¬ c (T (q + i))) (L - q)
  unfold tkR at h2 ⊢
  have ej : q + (j - q) = j := by omega
  constructor
  · intro w
    have x := d (j - q) (by omega)
    rw [ej] at x
    exact ⟨by omega, Classical.byContradiction x⟩
  · rintro ⟨w1, w2⟩
    by_cases e : j - q = fnd (fun i => ¬ c (T (q + i))) (L - q)
    · have x := b (by omega)
      rw [← e, ej] at x
      exact absurd w2 x
    · omega
abbrev isSp (v : Int) : Prop := v = 32
abbrev isLt (v : Int) : Prop := 97 ≤ v ∧ v ≤ 122
abbrev isDg (v : Int) : Prop := 48 ≤ v ∧ v ≤ 57
noncomputable def tkS (T : Nat → Int) (L p : Nat) : Nat := tkR isSp T L p
noncomputable def tkK (T : Nat → Int) (L p : Nat) : Nat := if tkS T L p = L then 0 else if isLt (T (tkS T L p)) then 1 else if isDg (T (tkS T L p)) then 2 else if T (tkS T L p) = 59 then 3 else if T (tkS T L p) = 45 then 4 else 5
noncomputable def tkE (T : Nat → Int) (L p : Nat) : Nat := if tkK T L p = 0 then tkS T L p else if tkK T L p = 1 then tkR isLt T L (tkS T L p) else if tkK T L p = 2 then tkR isDg T L (tkS T L p) else tkS T L p + 1
def vlc (T : Nat → Int) (q : Nat) (c : Int) : Nat → Int
  | 0 => 0
  | k + 1 => imin c (10 * vlc T q c k + T (q + k) - 48)
noncomputable def tkV (T : Nat → Int) (L p : Nat) : Int := if tkK T L p = 2 then vlc T (tkS T L p) 1000 (tkE T L p - tkS T L p) else 0
theorem imin_lt {a b : Int} (h : b < a) : imin a b = b := if_pos h
theorem imin_ge {a b : Int} (h : ¬ b < a) : imin a b = a := if_neg h
theorem vlc_b {T : Nat → Int} {q : Nat} : ∀ k, (∀ i, i < k → isDg (T (q + i))) → (0 ≤ vlc T q 1000 k ∧ vlc T q 1000 k ≤ 1000) ∧ vlc T q 100 k = imin 100 (vlc T q 1000 k)
  | 0 => fun _ => ⟨by unfold vlc; omega, by unfold vlc; rfl⟩
  | k + 1 => fun h => by
    obtain ⟨a, b⟩ := vlc_b (T := T) (q := q) k (fun i hi => h i (by omega))
    have d := h k (by omega)
    have e1 : vlc T q 1000 (k + 1) = imin 1000 (10 * vlc T q 1000 k + T (q + k) - 48) := rfl
    have e2 : vlc T q 100 (k + 1) = imin 100 (10 * vlc T q 100 k + T (q + k) - 48) := rfl
    rw [e1, e2, b]
    generalize vlc T q 1000 k = v at a
    generalize T (q + k) = t at d
    unfold imin
    refine ⟨?_, ?_⟩
    · split <;> omega
    · split <;> split <;> split <;> (try split) <;> omega
theorem tk_b {T : Nat → Int} {L p : Nat} (h : p ≤ L) : p ≤ tkS T L p ∧ tkS T L p ≤ tkE T L p ∧ tkE T L p ≤ L ∧ (tkK T L p ≠ 0 → tkS T L p < tkE T L p) ∧ tkK T L p ≤ 5 ∧ (tkK T L p = 0 ↔ tkS T L p = L) := by
  have a : p ≤ tkS T L p ∧ tkS T L p ≤ L := tkR_b h
  have b := tkR_b (c := isLt) (T := T) a.2
  have c := tkR_b (c := isDg) (T := T) a.2
  have b2 := tkR_iff (c := isLt) (T := T) (j := tkS T L p) a.2 (Nat.le_refl _) b.1
  have c2 := tkR_iff (c := isDg) (T := T) (j := tkS T L p) a.2 (Nat.le_refl _) c.1
  unfold tkE
  by_cases e0 : tkS T L p = L
  · have k : tkK T L p = 0 := by
      unfold tkK
      rw [if_pos e0]
    rw [k, if_pos rfl]
    omega
  · by_cases e1 : isLt (T (tkS T L p))
    · have k : tkK T L p = 1 := by
        unfold tkK
        rw [if_neg e0, if_pos e1]
      have b3 := b2.mpr ⟨by omega, e1⟩
      rw [k, if_neg (by omega), if_pos rfl]
      clear b2 c2 e1
      omega
    · by_cases e2 : isDg (T (tkS T L p))
      · have k : tkK T L p = 2 := by
          unfold tkK
          rw [if_neg e0, if_neg e1, if_pos e2]
        have c3 := c2.mpr ⟨by omega, e2⟩
        rw [k, if_neg (by omega), if_neg (by omega), if_pos rfl]
        clear b2 c2 e1 e2
        omega
      · have k : 3 ≤ tkK T L p ∧ tkK T L p ≤ 5 := by
          unfold tkK
          rw [if_neg e0, if_neg e1, if_neg e2]
          split
          · omega
          · split <;> omega
        rw [if_neg (by omega), if_neg (by omega), if_neg (by omega)]
        clear b2 c2 e1 e2
        omega
theorem tkV_b {T : Nat → Int} {L p : Nat} (h : p ≤ L) : 0 ≤ tkV T L p ∧ tkV T L p ≤ 1000 := by
  unfold tkV
  by_cases k : tkK T L p = 2
  · rw [if_pos k]
    have a : p ≤ tkS T L p ∧ tkS T L p ≤ L := tkR_b h
    have e : tkE T L p = tkR isDg T L (tkS T L p) := by
      unfold tkE
      rw [if_neg (by omega), if_neg (by omega), if_pos k]
    rw [e]
    refine (vlc_b _ (fun i hi => ?_)).1
    exact ((tkR_iff (c := isDg) (T := T) (j := tkS T L p + i) a.2 (by omega) (by omega)).mp (by omega)).2
  · rw [if_neg k]
    omega
/-- the class's tape, and its token -/
def TC (C : Cn) (T : Nat → Int) (L : Nat) : Prop := L ≤ 120 ∧ C 72 1 = (L : Int) ∧ ∀ t, t < L → (0 ≤ T t ∧ T t < 256) ∧ C 73 t = w8 (T t)
theorem TC.congr {C D : Cn} {T : Nat → Int} {L : Nat} (h : TC C T L) (g : ∀ b t, (b = 72 ∧ t = 1) ∨ b = 73 → D b t = C b t) : TC D T L := ⟨h.1, by rw [g _ _ (by omega)]; exact h.2.1, fun t ht => by rw [g _ _ (by omega)]; exact h.2.2 t ht⟩
def TkC (C : Cn) (T : Nat → Int) (L p : Nat) : Prop := C 72 2 = (tkK T L p : Nat) ∧ C 72 3 = (tkS T L p : Nat) ∧ C 72 4 = (tkE T L p : Nat) ∧ (tkK T L p = 2 → C 72 5 = imin 100 (tkV T L p))
theorem TkC.congr {C D : Cn} {T : Nat → Int} {L p : Nat} (h : TkC C T L p) (g : ∀ t, 2 ≤ t → t ≤ 5 → D 72 t = C 72 t) : TkC D T L p := by
  unfold TkC at *
  rw [g 2 (by omega) (by omega), g 3 (by omega) (by omega), g 4 (by omega) (by omega), g 5 (by omega) (by omega)]
  exact h
theorem w8_c {b : Int} (h : 0 ≤ b ∧ b < 256) : (b < 128 ∧ w8 b = b) ∨ (128 ≤ b ∧ w8 b = b - 256) := by
  unfold w8
  omega
theorem f_isLt {n j L : Nat} {C : Cn} {T : Nat → Int} {Q : Int → Prop} (hf : 91 ≤ n) (tc : TC C T L) (hj : j < L) (h : Q (bI (isLt (T j)))) : P_Re_isLetter n C 72 (j : Int) Q := by
  obtain ⟨a, b, c⟩ := tc
  obtain ⟨c1, c2⟩ := c j hj
  have w := w8_c c1
  unfold P_Re_isLetter J_Re_isLetter_27
  simp only [fS hf, Int.reduceToNat, Int.toNat_natCast, true_and, c2]
  generalize w8 (T j) = u at w
  refine ⟨by omega, fun q => use_Q h (bI_f (by omega)), fun q => ?_⟩
  by_cases e : 122 < u
  · rw [if_pos e]
    exact ⟨Or.inl rfl, use_Q h (bI_f (by omega))⟩
  · rw [if_neg e]
    exact ⟨Or.inr rfl, use_Q h (bI_t (by omega))⟩
theorem f_isDg {n j L : Nat} {C : Cn} {T : Nat → Int} {Q : Int → Prop} (hf : 91 ≤ n) (tc : TC C T L) (hj : j < L) (h : Q (bI (isDg (T j)))) : P_Re_isDigit n C 72 (j : Int) Q := by
  obtain ⟨a, b, c⟩ := tc
  obtain ⟨c1, c2⟩ := c j hj
  have w := w8_c c1
  unfold P_Re_isDigit J_Re_isDigit_27
  simp only [fS hf, Int.reduceToNat, Int.toNat_natCast, true_and, c2]
  generalize w8 (T j) = u at w
  refine ⟨by omega, fun q => use_Q h (bI_f (by omega)), fun q => ?_⟩
  by_cases e : 57 < u
  · rw [if_pos e]
    exact ⟨Or.inl rfl, use_Q h (bI_f (by omega))⟩
  · rw [if_neg e]
    exact ⟨Or.inr rfl, use_Q h (bI_t (by omega))⟩
theorem f_step {n p L : Nat} {C : Cn} {T : Nat → Int} {Q : Int → Cn → Prop} (hf : 91 ≤ n) (tc : TC C T L) (hp : p ≤ L) (h4 : C 72 4 = (p : Int)) (h : ∀ C2 : Cn, (∀ b t, ¬ (b = 72 ∧ 2 ≤ t ∧ t ≤ 5) → C2 b t = C b t) → TkC C2 T L p → Q 0 C2) : P_Re_step n C 72 Q := by
  have L120 := tc.1
  have sb : p ≤ tkS T L p ∧ tkS T L p ≤ L := tkR_b hp
  unfold P_Re_step
  simp only [fS hf, Int.reduceToNat, true_and]
  intro C2 c2
  rw [h4] at c2
  -- at the token's start
  have A : ∀ D : Cn, (∀ b t, ¬ (b = 72 ∧ t = 3) → D b t = C b t) → D 72 3 = (tkS T L p : Nat) → J_Re_step_46 n D 72 Q := by
    intro D d1 d2
    unfold J_Re_step_46
    simp only [fS hf, Int.reduceToNat, true_and]
    intro D6 d6
    rw [d2] at d6
    have o6 : ∀ b t, ¬ (b = 72 ∧ (t = 3 ∨ t = 4)) → D6 b t = C b t := fun b t hb => by rw [d6, wr_ne (by omega), d1 b t (by omega)]
    have e3 : D6 72 3 = (tkS T L p : Nat) := by rw [d6, wr_ne (by omega), d2]
    have e4 : D6 72 4 = (tkS T L p : Nat) := by rw [d6, wr_same]
    have e1 : D6 72 1 = (L : Int) := by rw [o6 _ _ (by omega), tc.2.1]
    have t6 : TC D6 T L := tc.congr (fun b t hb => o6 b t (by omega))
    clear d6 d1 d2
    rw [e3, e1]
    refine ⟨fun q => ?_, fun q => ?_⟩
    · have hS : tkS T L p < L := by omega
      refine f_isLt hf t6 hS (bI_br (fun n1 => f_isDg hf t6 hS (bI_br (fun n2 => ?_) (fun y2 => ?_))) (fun y1 => ?_))
      · -- one byte
        obtain ⟨c1, c2⟩ := t6.2.2 _ hS
        have w := w8_c c1
        have w45 : w8 (T (tkS T L p)) = 45 ↔ T (tkS T L p) = 45 := by
          generalize w8 (T (tkS T L p)) = u at w
          omega
        have w59 : w8 (T (tkS T L p)) = 59 ↔ T (tkS T L p) = 59 := by
          generalize w8 (T (tkS T L p)) = u at w
          omega
        have F : ∀ k : Nat, k = tkK T L p → 3 ≤ k → J_Re_step_185 n D6 72 72 (k : Int) Q := by
          intro k hk k3
          unfold J_Re_step_185
          simp only [fS hf, Int.reduceToNat, true_and]
          intro D23 d23 D25 d25
          have x4 : D23 72 4 = (tkS T L p : Nat) := by rw [d23, wr_ne (by omega), e4]
          rw [x4, w32_n (by omega)] at d25
          refine h D25 (fun b t hb => by rw [d25, wr_ne (by omega), d23, wr_ne (by omega), o6 b t (by omega)]) ⟨?_, ?_, ?_, fun w => by omega⟩
          · rw [d25, wr_ne (by omega), d23, wr_same, hk]
          · rw [d25, wr_ne (by omega), d23, wr_ne (by omega), e3]
          · rw [d25, wr_same]
            unfold tkE
            rw [if_neg (by omega), if_neg (by omega), if_neg (by omega)]
        have K : tkK T L p = if T (tkS T L p) = 59 then 3 else if T (tkS T L p) = 45 then 4 else 5 := by
          unfold tkK
          rw [if_neg (by omega), if_neg n1, if_neg n2]
        simp only [Int.toNat_natCast, c2]
        clear c2 w
        refine ⟨by omega, fun e => F 3 (by rw [K, if_pos (w59.mp e)]) (by omega), fun e => ?_⟩
        have e' : ¬ T (tkS T L p) = 59 := fun x => e (w59.mpr x)
        by_cases e5 : T (tkS T L p) = 45
        · rw [if_pos (w45.mpr e5)]
          exact F 4 (by rw [K, if_neg e', if_pos e5]) (by omega)
        · rw [if_neg (fun x => e5 (w45.mp x))]
          exact F 5 (by rw [K, if_neg e', if_neg e5]) (by omega)
      · -- digits
        have K : tkK T L p = 2 := by
          unfold tkK
          rw [if_neg (by omega), if_neg n1, if_pos y2]
        have eE : tkE T L p = tkR isDg T L (tkS T L p) := by
          unfold tkE
          rw [if_neg (by omega), if_neg (by omega), if_pos K]
        have rb := tkR_b (c := isDg) (T := T) sb.2
        intro D26 d26
        unfold P_Re_readDigits
        simp only [fS hf, Int.reduceToNat, true_and]
        intro D27 d27
        refine lp_rule (fun (z : Cn) => ∃ j : Nat, tkS T L p ≤ j ∧ j ≤ tkR isDg T L (tkS T L p) ∧ (∀ b t, ¬ (b = 72 ∧ (t = 4 ∨ t = 5)) → z b t = D26 b t) ∧ z 72 4 = (j : Int) ∧ z 72 5 = vlc T (tkS T L p) 100 (j - tkS T L p)) (fun z => (200 - z 72 4).toNat) ?_ D27 ⟨tkS T L p, Nat.le_refl _, rb.1, fun b t hb => by rw [d27, wr_ne (by omega)], by rw [d27, wr_ne (by omega), d26, wr_ne (by omega), e4], by rw [d27, wr_same, Nat.sub_self]; rfl⟩
        rintro z ⟨j, z0, z1, z2, z3, z4⟩ K2 hK2
        have zC : ∀ b t, ¬ (b = 72 ∧ 2 ≤ t ∧ t ≤ 5) → z b t = C b t := fun b t hb => by rw [z2 b t (by omega), d26, wr_ne (by omega), o6 b t (by omega)]
        have tz : TC z T L := tc.congr (fun b t hb => zC b t (by omega))
        have ri := tkR_iff (c := isDg) (T := T) sb.2 z0 z1
        have fin : j = tkR isDg T L (tkS T L p) → Q 0 z := by
          intro ej
          have V : tkV T L p = vlc T (tkS T L p) 1000 (j - tkS T L p) := by
            unfold tkV
            rw [if_pos K, eE, ej]
          have vb := (vlc_b (T := T) (q := tkS T L p) (j - tkS T L p) (fun i hi => ((tkR_iff (c := isDg) (T := T) (j := tkS T L p + i) sb.2 (by omega) (by omega)).mp (by omega)).2)).2
          refine h z zC ⟨?_, ?_, ?_, fun _ => by rw [z4, V, vb]⟩
          · rw [z2 _ _ (by omega), d26, wr_same, K]
            rfl
          · rw [z2 _ _ (by omega), d26, wr_ne (by omega), e3]
          · rw [z3, eE, ej]
        unfold B_Re_readDigits_5 J_Re_readDigits_69
        simp only [fS hf, Int.reduceToNat, true_and, z3, tz.2.1]
        refine ⟨fun q2 => fin ?_, fun q2 => ?_⟩
        · by_cases e : j = tkR isDg T L (tkS T L p)
          · exact e
          · have := (ri.mp (by omega)).1
            omega
        · have hj : j < L := by omega
          refine f_isDg hf tz hj (bI_br (fun n3 => fin ?_) (fun y3 => ?_))
          · by_cases e : j = tkR isDg T L (tkS T L p)
            · exact e
            · exact absurd (ri.mp (by omega)).2 n3
          · have jl := ri.mpr ⟨hj, y3⟩
            obtain ⟨c1, c2⟩ := tz.2.2 j hj
            have ew : w8 (T j) = T j := by
              rcases w8_c c1 with w | w
              · exact w.2
              · omega
            have vbj := vlc_b (T := T) (q := tkS T L p) (j - tkS T L p) (fun i hi => ((tkR_iff (c := isDg) (T := T) (j := tkS T L p + i) sb.2 (by omega) (by omega)).mp (by omega)).2)
            have vb0 : 0 ≤ vlc T (tkS T L p) 100 (j - tkS T L p) ∧ vlc T (tkS T L p) 100 (j - tkS T L p) ≤ 100 := by
              rw [vbj.2]
              have := vbj.1
              unfold imin
              split <;> omega
            have sv : vlc T (tkS T L p) 100 (j + 1 - tkS T L p) = imin 100 (10 * vlc T (tkS T L p) 100 (j - tkS T L p) + T j - 48) := by
              rw [(by omega : j + 1 - tkS T L p = (j - tkS T L p) + 1)]
              show imin 100 (10 * vlc T (tkS T L p) 100 (j - tkS T L p) + T (tkS T L p + (j - tkS T L p)) - 48) = _
              rw [(by omega : tkS T L p + (j - tkS T L p) = j)]
            simp only [Int.toNat_natCast, c2, ew, z4]
            clear c2 ew vbj
            refine ⟨by omega, fun D12 d12 D13 d13 => ?_⟩
            rw [w32_id (x := 10 * vlc T (tkS T L p) 100 (j - tkS T L p)) (by omega) (by omega), w32_id (x := 10 * vlc T (tkS T L p) 100 (j - tkS T L p) + T j) (by omega) (by omega), w32_id (by omega) (by omega), ← sv] at d12
            have x4 : D12 72 4 = (j : Int) := by rw [d12, wr_ne (by omega), z3]
            rw [x4, w32_n (by omega)] at d13
            have y4 : D13 72 4 = ((j + 1 : Nat) : Int) := by rw [d13, wr_same]
            refine hK2 _ ⟨j + 1, by omega, by omega, fun b t hb => ?_, y4, ?_⟩ (by rw [y4, z3]; omega)
            · rw [d13, wr_ne (by omega), d12, wr_ne (by omega), z2 b t hb]
            · rw [d13, wr_ne (by omega), d12, wr_same]
      · -- letters
        have K : tkK T L p = 1 := by
          unfold tkK
          rw [if_neg (by omega), if_pos y1]
        have eE : tkE T L p = tkR isLt T L (tkS T L p) := by
          unfold tkE
          rw [if_neg (by omega), if_pos K]
        have rb := tkR_b (c := isLt) (T := T) sb.2
        intro D31 d31
        refine lp_rule (fun (z : Cn) => ∃ j : Nat, tkS T L p ≤ j ∧ j ≤ tkR isLt T L (tkS T L p) ∧ (∀ b t, ¬ (b = 72 ∧ t = 4) → z b t = D31 b t) ∧ z 72 4 = (j : Int)) (fun z => (200 - z 72 4).toNat) ?_ D31 ⟨tkS T L p, Nat.le_refl _, rb.1, fun _ _ _ => rfl, by rw [d31, wr_ne (by omega), e4]⟩
        rintro z ⟨j, z0, z1, z2, z3⟩ K2 hK2
        have zC : ∀ b t, ¬ (b = 72 ∧ 2 ≤ t ∧ t ≤ 5) → z b t = C b t := fun b t hb => by rw [z2 b t (by omega), d31, wr_ne (by omega), o6 b t (by omega)]
        have tz : TC z T L := tc.congr (fun b t hb => zC b t (by omega))
        have ri := tkR_iff (c := isLt) (T := T) sb.2 z0 z1
        have fin : j = tkR isLt T L (tkS T L p) → Q 0 z := by
          intro ej
          refine h z zC ⟨?_, ?_, ?_, fun w => by omega⟩
          · rw [z2 _ _ (by omega), d31, wr_same, K]
            rfl
          · rw [z2 _ _ (by omega), d31, wr_ne (by omega), e3]
          · rw [z3, eE, ej]
        unfold B_Re_step_89 J_Re_step_198
        simp only [fS hf, Int.reduceToNat, true_and, z3, tz.2.1]
        refine ⟨fun q2 => fin ?_, fun q2 => ?_⟩
        · by_cases e : j = tkR isLt T L (tkS T L p)
          · exact e
          · have := (ri.mp (by omega)).1
            omega
        · have hj : j < L := by omega
          refine f_isLt hf tz hj (bI_br (fun n3 => fin ?_) (fun y3 => ?_))
          · by_cases e : j = tkR isLt T L (tkS T L p)
            · exact e
            · exact absurd (ri.mp (by omega)).2 n3
          · have jl := ri.mpr ⟨hj, y3⟩
            rw [w32_n (by omega)]
            intro D39 d39
            have y4 : D39 72 4 = ((j + 1 : Nat) : Int) := by rw [d39, wr_same]
            exact hK2 _ ⟨j + 1, by omega, by omega, fun b t hb => by rw [d39, wr_ne hb, z2 b t hb], y4⟩ (by rw [y4, z3]; omega)
    · -- nothing
      have K : tkK T L p = 0 := by
        unfold tkK
        rw [if_pos (by omega)]
      intro D41 d41
      refine h D41 (fun b t hb => by rw [d41, wr_ne (by omega), o6 b t (by omega)]) ⟨?_, ?_, ?_, fun w => by omega⟩
      · rw [d41, wr_same, K]
        rfl
      · rw [d41, wr_ne (by omega), e3]
      · rw [d41, wr_ne (by omega), e4]
        unfold tkE
        rw [if_pos K]
  refine lp_rule (fun (z : Cn) => ∃ j : Nat, p ≤ j ∧ j ≤ tkS T L p ∧ (∀ b t, ¬ (b = 72 ∧ t = 3) → z b t = C b t) ∧ z 72 3 = (j : Int)) (fun z => (200 - z 72 3).toNat) ?_ C2 ⟨p, Nat.le_refl _, sb.1, fun b t hb => by rw [c2, wr_ne hb], by rw [c2, wr_same]⟩
  rintro z ⟨j, z0, z1, z2, z3⟩ K2 hK2
  have tz : TC z T L := tc.congr (fun b t hb => z2 b t (by omega))
  have ri : j < tkS T L p ↔ (j < L ∧ isSp (T j)) := tkR_iff (c := isSp) (T := T) hp z0 z1
  unfold B_Re_step_8
  simp only [fS hf, Int.reduceToNat, true_and, z3, tz.2.1]
  refine ⟨fun q => A z z2 ?_, fun q => ?_⟩
  · rw [z3]
    by_cases e : j = tkS T L p
    · rw [e]
    · have := (ri.mp (by omega)).1
      omega
  · have hj : j < L := by omega
    obtain ⟨c1, c3⟩ := tz.2.2 j hj
    have w := w8_c c1
    simp only [Int.toNat_natCast, c3]
    refine ⟨by omega, fun e => ?_, fun e => A z z2 ?_⟩
    · have t32 : T j = 32 := by omega
      have jl := ri.mpr ⟨hj, t32⟩
      clear w e c3
      rw [w32_n (by omega)]
      intro D45 d45
      have y4 : D45 72 3 = ((j + 1 : Nat) : Int) := by rw [d45, wr_same]
      exact hK2 _ ⟨j + 1, by omega, by omega, fun b t hb => by rw [d45, wr_ne hb, z2 b t hb], y4⟩ (by rw [y4, z3]; omega)
    · rw [z3]
      by_cases e2 : j = tkS T L p
      · rw [e2]
      · have t32 : T j = 32 := (ri.mp (by omega)).2
        rw [t32] at e
        exact absurd (by decide) e
