/-! my own: book -/
theorem neg64 {X : Int64} : X.toBitVec.msb = decide (X.toInt < 0) := by
  rw [BitVec.msb_eq_toInt, Int64.toInt_toBitVec]
theorem xa_neg {a b s : Int} (ha : r64 a) (hb : r64 b) (hs : r64 s) : and64 (xor64 a s) (xor64 b s) < 0 ↔ (¬ (a < 0 ↔ s < 0)) ∧ ¬ (b < 0 ↔ s < 0) := by
  have ea : (Int64.ofInt a).toInt = a := Int64.toInt_ofInt_of_le ha.1 (by have := ha.2; omega)
  have eb : (Int64.ofInt b).toInt = b := Int64.toInt_ofInt_of_le hb.1 (by have := hb.2; omega)
  have es : (Int64.ofInt s).toInt = s := Int64.toInt_ofInt_of_le hs.1 (by have := hs.2; omega)
  unfold and64 xor64
  rw [Int64.ofInt_toInt, Int64.ofInt_toInt]
  have k := neg64 (X := (Int64.ofInt a ^^^ Int64.ofInt s) &&& (Int64.ofInt b ^^^ Int64.ofInt s))
  rw [Int64.toBitVec_and, Int64.toBitVec_xor, Int64.toBitVec_xor, BitVec.msb_and, BitVec.msb_xor, BitVec.msb_xor, neg64, neg64, neg64, ea, eb, es] at k
  generalize ((Int64.ofInt a ^^^ Int64.ofInt s) &&& (Int64.ofInt b ^^^ Int64.ofInt s)).toInt = y at k ⊢
  by_cases h1 : a < 0 <;> by_cases h2 : b < 0 <;> by_cases h3 : s < 0 <;> simp [h1, h2, h3] at k ⊢ <;> omega
theorem g_tooMuch {n : Nat} {C : Cn} {a b : Int} {Q : Int → Prop} (ha : r64 a) (hb : r64 b) (h : Q (bI (¬ (-9223372036854775808 ≤ a + b ∧ a + b ≤ 9223372036854775807)))) : P_G_isTooMuch n C a b Q := by
  unfold P_G_isTooMuch J_G_isTooMuch_24
  have k := xa_neg ha hb (r64_w (a + b))
  have e : (if 0 ≤ and64 (xor64 a (w64 (a + b))) (xor64 b (w64 (a + b))) then (0 : Int) else 1) = bI (¬ (-9223372036854775808 ≤ a + b ∧ a + b ≤ 9223372036854775807)) := by
    unfold r64 at ha hb
    generalize and64 (xor64 a (w64 (a + b))) (xor64 b (w64 (a + b))) = y at k ⊢
    have w : w64 (a + b) = a + b ∨ (a + b > 9223372036854775807 ∧ w64 (a + b) = a + b - 18446744073709551616) ∨ (a + b < -9223372036854775808 ∧ w64 (a + b) = a + b + 18446744073709551616) := by
      clear k
      unfold w64
      omega
    have zi := w64_in (a + b)
    generalize w64 (a + b) = z at k w zi
    by_cases q : 0 ≤ y
    · rw [if_pos q, bI_f (by omega)]
    · rw [if_neg q, bI_t (by omega)]
  rw [e]
  exact ⟨bI_or, h⟩
theorem f_sumOver {n : Nat} {C : Cn} {a b : Int} {Q : Int → Prop} (ha : r64 a) (hb : r64 b) (h : Q (bI (¬ (-9223372036854775808 ≤ a + b ∧ a + b ≤ 9223372036854775807)))) : P_F_sumIsOver n C a b Q := by
  unfold P_F_sumIsOver J_F_sumIsOver_39
  unfold r64 at ha hb
  refine ⟨fun q => ?_, fun q => ?_⟩
  · rw [w64_id (by omega) (by omega)]
    have e : (if -9223372036854775808 - b ≤ a then (0 : Int) else 1) = bI (¬ (-9223372036854775808 ≤ a + b ∧ a + b ≤ 9223372036854775807)) := by
      by_cases q2 : -9223372036854775808 - b ≤ a
      · rw [if_pos q2, bI_f (by omega)]
      · rw [if_neg q2, bI_t (by omega)]
    rw [e]
    exact ⟨bI_or, h⟩
  · rw [w64_id (by omega) (by omega)]
    have e : (if a ≤ 9223372036854775807 - b then (0 : Int) else 1) = bI (¬ (-9223372036854775808 ≤ a + b ∧ a + b ≤ 9223372036854775807)) := by
      by_cases q2 : a ≤ 9223372036854775807 - b
      · rw [if_pos q2, bI_f (by omega)]
      · rw [if_neg q2, bI_t (by omega)]
    rw [e]
    exact ⟨bI_or, h⟩
abbrev o64 (x : Int) : Prop := ¬ (-9223372036854775808 ≤ x ∧ x ≤ 9223372036854775807)
theorem div_back {a b : Int} (ha : r64 a) (h0 : b ≠ 0) (h : ¬ o64 (a * b)) : w64 (Int.tdiv (w64 (a * b)) b) = a := by
  unfold o64 at h
  unfold r64 at ha
  rw [w64_id (x := a * b) (by omega) (by omega), Int.mul_tdiv_cancel _ h0, w64_id ha.1 ha.2]
theorem div_over {a b : Int} (hb : r64 b) (h0 : b ≠ 0) (h1 : b ≠ -1) (e : w64 (Int.tdiv (w64 (a * b)) b) = a) : ¬ o64 (a * b) := by
  unfold o64
  unfold r64 at hb
  have wi := w64_in (a * b)
  have wm : ∃ t : Int, w64 (a * b) = a * b + 18446744073709551616 * t := ⟨-((a * b + 9223372036854775808) / 18446744073709551616), by unfold w64; omega⟩
  obtain ⟨t, ht⟩ := wm
  generalize w64 (a * b) = p at e wi ht
  have e2 : Int.tdiv p b = a := by
    rw [← e]
    refine (w64_id ?_ ?_).symm
    · by_cases hb1 : b = 1
      · rw [hb1, Int.tdiv_one]
        exact wi.1
      · have k : (Int.tdiv p b).natAbs = p.natAbs / b.natAbs := Int.natAbs_tdiv p b
        have k2 : 2 ≤ b.natAbs := by omega
        have k3 : p.natAbs / b.natAbs ≤ p.natAbs / 2 := Nat.div_le_div_left k2 (by omega)
        rw [← k] at k3
        clear k e ht
        generalize Int.tdiv p b = d at *
        omega
    · by_cases hb1 : b = 1
      · rw [hb1, Int.tdiv_one]
        exact wi.2
      · have k : (Int.tdiv p b).natAbs = p.natAbs / b.natAbs := Int.natAbs_tdiv p b
        have k2 : 2 ≤ b.natAbs := by omega
        have k3 : p.natAbs / b.natAbs ≤ p.natAbs / 2 := Nat.div_le_div_left k2 (by omega)
        rw [← k] at k3
        clear k e ht
        generalize Int.tdiv p b = d at *
        omega
  have k := Int.tdiv_mul_add_tmod p b
  rw [e2] at k
  have k2 := Int.natAbs_tmod p b
  have k3 : p.natAbs % b.natAbs < b.natAbs := Nat.mod_lt _ (by omega)
  generalize a * b = c at *
  generalize Int.tmod p b = r at *
  omega
theorem f_prodOver {n : Nat} {C : Cn} {a b : Int} {Q : Int → Prop} (ha : r64 a) (hb : r64 b) (h : Q (bI (o64 (a * b)))) : P_F_productIsOver n C a b Q := by
  unfold P_F_productIsOver J_F_productIsOver_35 J_F_productIsOver_57 J_F_productIsOver_73
  refine ⟨fun q => use_Q h (bI_f (by rw [q, Int.zero_mul]; decide)), fun q => ⟨fun q2 => use_Q h (bI_f (by rw [q2, Int.mul_zero]; decide)), fun q2 => ⟨fun q3 => ?_, fun q3 => ⟨fun q4 => ?_, fun q4 => ⟨q2, ?_⟩⟩⟩⟩⟩
  · have e : (if b = -9223372036854775808 then (1 : Int) else 0) = bI (o64 (a * b)) := by
      unfold r64 at hb
      rw [q3]
      by_cases w : b = -9223372036854775808
      · rw [if_pos w, bI_t (by omega)]
      · rw [if_neg w, bI_f (by omega)]
    rw [e]
    exact ⟨bI_or, h⟩
  · have e : (if a = -9223372036854775808 then (1 : Int) else 0) = bI (o64 (a * b)) := by
      unfold r64 at ha
      rw [q4]
      by_cases w : a = -9223372036854775808
      · rw [if_pos w, bI_t (by omega)]
      · rw [if_neg w, bI_f (by omega)]
    rw [e]
    exact ⟨bI_or, h⟩
  · have e : (if w64 (Int.tdiv (w64 (a * b)) b) = a then (0 : Int) else 1) = bI (o64 (a * b)) := by
      by_cases w : w64 (Int.tdiv (w64 (a * b)) b) = a
      · rw [if_pos w, bI_f (div_over hb q2 q4 w)]
      · rw [if_neg w, bI_t (Decidable.not_not.mp (fun w2 => w (div_back ha q2 w2)))]
    rw [e]
    exact ⟨bI_or, h⟩
theorem g_prodOver {n : Nat} {C : Cn} {a b : Int} {Q : Int → Prop} (ha : r64 a) (hb : r64 b) (h : Q (bI (o64 (a * b)))) : P_G_isTimesTooMuch n C a b Q := by
  unfold P_G_isTimesTooMuch J_G_isTimesTooMuch_27 J_G_isTimesTooMuch_41
  refine ⟨fun q => use_Q h (bI_f (by rw [q, Int.zero_mul]; decide)), fun q => ⟨fun q2 => ⟨fun q3 => use_Q h (bI_t (by rw [q2, q3]; decide)), fun q3 => ⟨q, ?_⟩⟩, fun q2 => ⟨q, ?_⟩⟩⟩
  · have o : ¬ o64 (a * b) := by
      unfold r64 at hb
      rw [q2]
      omega
    have e : (if w64 (Int.tdiv (w64 (a * b)) a) = b then (0 : Int) else 1) = bI (o64 (a * b)) := by
      rw [if_pos (by rw [Int.mul_comm a b] at o ⊢; exact div_back hb q o), bI_f o]
    rw [e]
    exact ⟨bI_or, h⟩
  · have e : (if w64 (Int.tdiv (w64 (a * b)) a) = b then (0 : Int) else 1) = bI (o64 (a * b)) := by
      rw [Int.mul_comm a b]
      by_cases w : w64 (Int.tdiv (w64 (b * a)) a) = b
      · rw [if_pos w, bI_f (div_over ha q q2 w)]
      · rw [if_neg w, bI_t (Decidable.not_not.mp (fun w2 => w (div_back hb q w2)))]
    rw [e]
    exact ⟨bI_or, h⟩
theorem c_book {n : Nat} {C : Cn} {v1 v2 : Int} (hn : 320 ≤ n) (inv : Inv C) (hv : r64 v2) : P_F_book n C 1 v1 v2 (fun r C1 => P_G_book n C1 91 v1 v2 (fun r2 C2 => r = r2 ∧ Inv C2)) := by
  have hf : 91 ≤ n := by omega
  have inv' := inv
  obtain ⟨m, i1, i2, -⟩ := inv'
  obtain ⟨a1, a2, a3, a4, a5, a6⟩ := i2
  have U : ∀ (x : Int) (C1 C2 : Cn), r64 x → C1 = wr C 2 3 x → C2 = wr C1 91 3 x → Inv C2 := by
    intro x C1 C2 hx c1 c2
    refine inv.up2 (fun b t hb hb2 => by rw [c2, wr_ne (by omega), c1, wr_ne (by omega)]) ?_
    have g : ∀ b t, ¬ ((b = 2 ∨ b = 91) ∧ t = 3) → C2 b t = C b t := fun b t hb => by rw [c2, wr_ne (by omega), c1, wr_ne (by omega)]
    have g1 : C2 91 3 = x := by rw [c2, wr_same]
    have g2 : C2 2 3 = x := by rw [c2, wr_ne (by omega), c1, wr_same]
    unfold I2
    rw [g1, g2, g 91 2 (by omega), g 2 2 (by omega), g 91 4 (by omega), g 2 4 (by omega)]
    exact ⟨a1, a2, rfl, hx, a5, a6⟩
  unfold P_F_book
  refine f_isIn (bI_br (fun q => ?_) (fun q => ⟨fun q2 => ?_, fun q2 => ?_⟩))
  · simp only [fS hf, true_and]
    refine f_tellLong hf (by decide) (fun C1 c1 => ?_)
    unfold P_G_book
    refine g_in (bI_br (fun _ => ?_) (fun w => absurd w q))
    simp only [gS hn, true_and]
    exact bothL hn (by decide) inv c1 (fun _ _ _ => rfl)
  · simp only [fS hf, Int.reduceToNat, true_and]
    refine f_sumOver a4 hv ?_
    unfold J_F_book_44
    simp only [fS hf, Int.reduceToNat, true_and]
    refine bI_br (fun q3 => ⟨fun _ C1 c1 => ?_, fun w => absurd q2 w⟩) (fun q3 => f_tellLong hf (by decide) (fun C1 c1 => ?_))
    · unfold P_G_book
      refine g_in (bI_br (fun w => absurd q w) (fun _ => ⟨fun _ => ?_, fun w => absurd q2 w⟩))
      have e : C1 91 3 = C 2 3 := by rw [c1, wr_ne (by omega), a3]
      unfold J_G_book_52
      simp only [gS hn, Int.reduceToNat, true_and, e]
      refine g_tooMuch a4 hv (bI_br (fun _ => ⟨fun _ C2 c2 => ⟨?_, U _ C1 C2 (r64_w _) c1 c2⟩, fun w => absurd q2 w⟩) (fun w => absurd w q3))
      rw [c2, wr_same, c1, wr_same]
    · unfold P_G_book
      refine g_in (bI_br (fun w => absurd q w) (fun _ => ⟨fun _ => ?_, fun w => absurd q2 w⟩))
      have e : C1 91 3 = C 2 3 := by rw [why0 c1 _ _ (by omega), a3]
      simp only [gS hn, Int.reduceToNat, true_and, e]
      exact g_tooMuch a4 hv (bI_br (fun w => absurd q3 w) (fun _ => bothL hn (by decide) inv c1 (fun _ _ _ => rfl)))
  · simp only [fS hf, Int.reduceToNat, true_and]
    refine f_prodOver a4 hv ?_
    unfold J_F_book_44
    simp only [fS hf, Int.reduceToNat, true_and]
    refine bI_br (fun q3 => ⟨fun w => absurd w q2, fun _ C1 c1 => ?_⟩) (fun q3 => f_tellLong hf (by decide) (fun C1 c1 => ?_))
    · unfold P_G_book
      refine g_in (bI_br (fun w => absurd q w) (fun _ => ⟨fun w => absurd w q2, fun _ => ?_⟩))
      have e : C1 91 3 = C 2 3 := by rw [c1, wr_ne (by omega), a3]
      unfold J_G_book_52
      simp only [gS hn, Int.reduceToNat, true_and, e]
      refine g_prodOver a4 hv (bI_br (fun _ => ⟨fun w => absurd w q2, fun _ C2 c2 => ⟨?_, U _ C1 C2 (r64_w _) c1 c2⟩⟩) (fun w => absurd w q3))
      rw [c2, wr_same, c1, wr_same]
    · unfold P_G_book
      refine g_in (bI_br (fun w => absurd q w) (fun _ => ⟨fun w => absurd w q2, fun _ => ?_⟩))
      have e : C1 91 3 = C 2 3 := by rw [why0 c1 _ _ (by omega), a3]
      simp only [gS hn, Int.reduceToNat, true_and, e]
      exact g_prodOver a4 hv (bI_br (fun w => absurd q3 w) (fun _ => bothL hn (by decide) inv c1 (fun _ _ _ => rfl)))
