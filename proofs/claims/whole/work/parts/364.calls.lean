/-! my own: copy, count, taken, feed -/
theorem why0 {C C1 : Cn} {x : Int} {k : Nat} (c1 : C1 = wr C 82 k x) : ∀ b t, b ≠ 82 → C1 b t = C b t := fun b t hb => by rw [c1, wr_ne (by omega)]
theorem acp_in {C : Cn} {a i b j k z : Nat} (h : j ≤ z ∧ z < j + k) : acp C a i b j k b z = C a (i + (z - j)) := if_pos ⟨rfl, h⟩
theorem acp_out {C : Cn} {a i b j k q z : Nat} (h : ¬ (q = b ∧ j ≤ z ∧ z < j + k)) : acp C a i b j k q z = C q z := if_neg h
theorem g_copy2 {n s2 j0 k0 : Nat} {C : Cn} {Q : Int → Cn → Prop} (hn : 320 ≤ n) (h2 : s2 < 4) (hj : j0 + k0 ≤ 40) (h : ∀ D : Cn, (∀ b t, D b t = if b = 306 + s2 ∧ j0 ≤ t ∧ t < j0 + k0 then C 310 (t - j0) else C b t) → Q (k0 : Int) D) : ∃ f, lp (B_G_copy_157 n 91 (s2 : Int) (j0 : Int) (k0 : Int) Q) f (C, 0) := by
  have r := gR305 hn h2
  refine lp_rule (fun (z : Cn × Int) => ∃ k : Nat, k ≤ k0 ∧ z.2 = (k : Int) ∧ ∀ b t, z.1 b t = if b = 306 + s2 ∧ j0 ≤ t ∧ t < j0 + k then C 310 (t - j0) else C b t) (fun z => (50 - z.2).toNat) ?_ (C, 0) ⟨0, by omega, rfl, fun b t => ?_⟩
  · rintro ⟨D, v3⟩ ⟨k, z0, z1, z2⟩ K hK
    dsimp only at z1 z2
    subst z1
    unfold B_G_copy_157
    simp only [gS hn, r, Int.reduceToNat, Int.toNat_natCast, true_and]
    refine ⟨fun q => h D (fun b t => by rw [z2 b t, (by omega : k = k0)]), fun q => ⟨by omega, by omega, ?_⟩⟩
    have w1 : w32 ((j0 : Int) + (k : Int)) = ((j0 + k : Nat) : Int) := by
      rw [w32_s (by omega)]
      omega
    rw [w1]
    clear w1
    refine ⟨by omega, fun C8 c8 => ?_⟩
    rw [Int.toNat_natCast] at c8
    rw [w32_n (by omega)]
    refine hK _ ⟨k + 1, by omega, rfl, fun b t => ?_⟩ (by dsimp only; omega)
    dsimp only
    by_cases e : b = 306 + s2 ∧ t = j0 + k
    · rw [c8, e.1, e.2, wr_same, if_pos (by omega), z2 310 k, if_neg (by omega), (by omega : j0 + k - j0 = k)]
    · rw [c8, wr_ne (by omega), z2 b t]
      by_cases e3 : b = 306 + s2 ∧ j0 ≤ t ∧ t < j0 + k
      · rw [if_pos e3, if_pos (by omega)]
      · rw [if_neg e3, if_neg (by omega)]
  · dsimp only
    rw [if_neg (by omega)]
theorem g_copy1 {n s1 i0 k0 : Nat} {s2 j0 : Int} {C : Cn} {Q : Int → Cn → Prop} (hn : 320 ≤ n) (h2 : s1 < 4) (hj : i0 + k0 ≤ 40) (h : ∀ D : Cn, (∀ b t, D b t = if b = 310 ∧ t < k0 then C (306 + s1) (i0 + t) else C b t) → ∃ f, lp (B_G_copy_157 n 91 s2 j0 (k0 : Int) Q) f (D, 0)) : ∃ f, lp (B_G_copy_123 n 91 (s1 : Int) (i0 : Int) s2 j0 (k0 : Int) Q) f (C, 0) := by
  have r := gR305 hn h2
  refine lp_rule (fun (z : Cn × Int) => ∃ k : Nat, k ≤ k0 ∧ z.2 = (k : Int) ∧ ∀ b t, z.1 b t = if b = 310 ∧ t < k then C (306 + s1) (i0 + t) else C b t) (fun z => (50 - z.2).toNat) ?_ (C, 0) ⟨0, by omega, rfl, fun b t => ?_⟩
  · rintro ⟨D, v3⟩ ⟨k, z0, z1, z2⟩ K hK
    dsimp only at z1 z2
    subst z1
    unfold B_G_copy_123
    simp only [gS hn, r, Int.reduceToNat, Int.toNat_natCast, true_and]
    refine ⟨fun q => h D (fun b t => by rw [z2 b t, (by omega : k = k0)]), fun q => ⟨by omega, ?_⟩⟩
    have w1 : w32 ((i0 : Int) + (k : Int)) = ((i0 + k : Nat) : Int) := by
      rw [w32_s (by omega)]
      omega
    rw [w1]
    clear w1
    refine ⟨by omega, by omega, fun C8 c8 => ?_⟩
    rw [Int.toNat_natCast] at c8
    rw [w32_n (by omega)]
    refine hK _ ⟨k + 1, by omega, rfl, fun b t => ?_⟩ (by dsimp only; omega)
    dsimp only
    by_cases e : b = 310 ∧ t = k
    · rw [c8, e.1, e.2, wr_same, if_pos (by omega), z2, if_neg (by omega)]
    · rw [c8, wr_ne (by omega), z2 b t]
      by_cases e3 : b = 310 ∧ t < k
      · rw [if_pos e3, if_pos (by omega)]
      · rw [if_neg e3, if_neg (by omega)]
  · dsimp only
    rw [if_neg (by omega)]
theorem c_copy {n : Nat} {C : Cn} {v1 v2 v3 v4 v5 : Int} (hn : 320 ≤ n) (inv : Inv C) (r2 : r32 v2) (r4 : r32 v4) (r5 : r32 v5) : P_F_copy n C 1 v1 v2 v3 v4 v5 (fun r C1 => P_G_copy n C1 91 v1 v2 v3 v4 v5 (fun r2 C2 => r = r2 ∧ Inv C2)) := by
  have hf : 91 ≤ n := by omega
  have inv' := inv
  obtain ⟨m, -, -, -, -, -, -, i7, -⟩ := inv'
  unfold P_F_copy
  refine f_isSheet (bI_br (fun q => ?_) (fun q => f_isSheet (bI_br (fun q2 => ?_) (fun q2 => ?_))))
  · simp only [fS hf, true_and]
    refine f_tell hf (by decide) (fun C1 c1 => ?_)
    unfold P_G_copy
    refine g_isSheet (bI_br (fun _ => ?_) (fun w => absurd w q))
    simp only [gS hn, true_and]
    exact both hn (by decide) inv c1 (fun _ _ _ => rfl)
  · simp only [fS hf, true_and]
    refine f_tell hf (by decide) (fun C1 c1 => ?_)
    unfold P_G_copy
    refine g_isSheet (bI_br (fun w => absurd q w) (fun _ => g_isSheet (bI_br (fun _ => ?_) (fun w => absurd w q2))))
    simp only [gS hn, true_and]
    exact both hn (by decide) inv c1 (fun _ _ _ => rfl)
  · obtain ⟨s, rfl⟩ : ∃ s : Nat, v1 = (s : Int) := ⟨v1.toNat, by omega⟩
    obtain ⟨u, rfl⟩ : ∃ s : Nat, v3 = (s : Int) := ⟨v3.toNat, by omega⟩
    have hs : s < 4 := by omega
    have hu : u < 4 := by omega
    have rs := fR77 hf hs
    have ru := fR77 hf hu
    obtain ⟨a1, a2, a3, a4, a5⟩ := i7 s hs
    obtain ⟨b1, b2, b3, b4, b5⟩ := i7 u hu
    unfold r32 at r2 r4 r5
    -- what the reference finds
    have T : ∀ k : Int, 0 ≤ k ∧ k < 8 → k = (if C (83 + 2 * s) 0 < 0 then 5 else if C (83 + 2 * u) 0 < 0 then 5 else if C (83 + 2 * s) 0 = C (83 + 2 * u) 0 then 0 else 2) → (C (83 + 2 * s) 0 < 0 ∨ C (83 + 2 * u) 0 < 0 ∨ C (83 + 2 * s) 0 ≠ C (83 + 2 * u) 0 ∨ ¬ (0 ≤ v2 ∧ 0 ≤ v4 ∧ 0 ≤ v5 ∧ v2 + v5 ≤ C (83 + 2 * s) 1 ∧ v4 + v5 ≤ C (83 + 2 * u) 1)) → P_F_tell n C 1 k (fun r C1 => P_G_copy n C1 91 (s : Int) v2 (u : Int) v4 v5 (fun r2 C2 => r = r2 ∧ Inv C2)) := by
      intro k hk ek hh
      refine f_tell hf hk (fun C1 c1 => ?_)
      have B := both hn hk inv c1 (fun _ _ _ => rfl)
      have x1 : C1 303 s = C (83 + 2 * s) 0 := by rw [why0 c1 _ _ (by omega), a1]
      have x2 : C1 303 u = C (83 + 2 * u) 0 := by rw [why0 c1 _ _ (by omega), b1]
      have x3 : C1 304 s = C (83 + 2 * s) 1 := by rw [why0 c1 _ _ (by omega), a3]
      have x4 : C1 304 u = C (83 + 2 * u) 1 := by rw [why0 c1 _ _ (by omega), b3]
      unfold P_G_copy
      refine g_isSheet (bI_br (fun w => absurd q w) (fun _ => g_isSheet (bI_br (fun w => absurd q2 w) (fun _ => ?_))))
      simp only [gS hn, Int.reduceToNat, Int.toNat_natCast, true_and, x1, x2, x3, x4]
      rw [w64_id (x := v2 + v5) (by omega) (by omega), w64_id (x := v4 + v5) (by omega) (by omega)]
      by_cases e1 : C (83 + 2 * s) 0 < 0
      · rw [if_pos e1] at ek
        subst ek
        exact ⟨by omega, fun _ => B, fun w => absurd e1 w⟩
      · rw [if_neg e1] at ek
        refine ⟨by omega, fun w => absurd w e1, fun _ => ⟨by omega, ?_⟩⟩
        by_cases e2 : C (83 + 2 * u) 0 < 0
        · rw [if_pos e2] at ek
          subst ek
          exact ⟨fun w => absurd w (by omega), fun _ => B⟩
        · rw [if_neg e2] at ek
          refine ⟨fun _ => ?_, fun w => absurd w (by omega)⟩
          by_cases e3 : C (83 + 2 * s) 0 = C (83 + 2 * u) 0
          · rw [if_pos e3] at ek
            subst ek
            refine ⟨fun _ => ⟨fun _ => B, fun _ => ⟨fun _ => B, fun _ => ⟨fun _ => B, fun _ => ⟨by omega, fun _ => B, fun _ => ⟨by omega, fun w => absurd hh (by omega), fun _ => B⟩⟩⟩⟩⟩, fun w => absurd e3 w⟩
          · rw [if_neg e3] at ek
            subst ek
            exact ⟨fun w => absurd w e3, fun _ => B⟩
    simp only [fS hf, Int.reduceToNat, Int.toNat_natCast, rs, ru, true_and]
    refine ⟨by omega, by omega, f_missing hf hs (bI_br (fun q3 => f_missing hf hu (bI_br (fun q4 => ⟨fun q5 => f_has hf hs i7 (bI_br (fun q6 => ?_) (fun q6 => f_has hf hu i7 (bI_br (fun q7 => ?_) (fun q7 => ?_)))), fun q5 => ?_⟩) (fun q4 => ?_))) (fun q3 => ?_))⟩
    · exact T 0 (by decide) (by rw [if_neg q3, if_neg q4, if_pos q5]) (by omega)
    · exact T 0 (by decide) (by rw [if_neg q3, if_neg q4, if_pos q5]) (by omega)
    · clear T
      obtain ⟨i0, rfl⟩ : ∃ s : Nat, v2 = (s : Int) := ⟨v2.toNat, by omega⟩
      obtain ⟨j0, rfl⟩ : ∃ s : Nat, v4 = (s : Int) := ⟨v4.toNat, by omega⟩
      obtain ⟨k0, rfl⟩ : ∃ s : Nat, v5 = (s : Int) := ⟨v5.toNat, by omega⟩
      have ls := (lay77 s hs).2.1
      have lu := (lay77 u hu).2.1
      rw [ls, lu]
      refine ⟨by omega, by omega, by omega, by show _ ≤ (40 : Int); omega, by show _ ≤ (40 : Int); omega, fun C1 c1 => ?_⟩
      simp only [Int.toNat_natCast] at c1
      have o : ∀ b t, b ≠ 84 + 2 * u → C1 b t = C b t := fun b t hb => by rw [c1, acp_out (by omega)]
      have x1 : C1 303 s = C (83 + 2 * s) 0 := by rw [o _ _ (by omega), a1]
      have x2 : C1 303 u = C (83 + 2 * u) 0 := by rw [o _ _ (by omega), b1]
      have x3 : C1 304 s = C (83 + 2 * s) 1 := by rw [o _ _ (by omega), a3]
      have x4 : C1 304 u = C (83 + 2 * u) 1 := by rw [o _ _ (by omega), b3]
      unfold P_G_copy
      refine g_isSheet (bI_br (fun w => absurd q w) (fun _ => g_isSheet (bI_br (fun w => absurd q2 w) (fun _ => ?_))))
      simp only [gS hn, Int.reduceToNat, Int.toNat_natCast, true_and, x1, x2, x3, x4]
      rw [w64_id (x := (i0 : Int) + (k0 : Int)) (by omega) (by omega), w64_id (x := (j0 : Int) + (k0 : Int)) (by omega) (by omega)]
      refine ⟨by omega, fun w => absurd w (by omega), fun _ => ⟨by omega, fun _ => ⟨fun _ => ⟨fun w => absurd w (by omega), fun _ => ⟨fun w => absurd w (by omega), fun _ => ⟨fun w => absurd w (by omega), fun _ => ⟨by omega, fun w => absurd w (by omega), fun _ => ⟨by omega, fun _ => ?_, fun w => absurd w (by omega)⟩⟩⟩⟩⟩, fun w => absurd q5 w⟩, fun w => absurd w (by omega)⟩⟩
      refine g_copy1 hn hs (by omega) (fun D1 d1 => g_copy2 hn hu (by omega) (fun D d => ⟨rfl, ?_⟩))
      clear x1 x2 x3 x4
      have g : ∀ b t, b ≠ 310 → b ≠ 306 + u → b ≠ 84 + 2 * u → D b t = C b t := fun b t h1 h2 h3 => by
        rw [d, if_neg (by omega), d1, if_neg (by omega), o b t h3]
      refine inv.up7 (fun b t hb hb2 => ?_) (fun s' hs' => ?_)
      · by_cases e : b = 310
        · exact absurd e hb.2.2.2.2.2.2.2.2.2.2.2.2.2.2.2.2.1
        · exact g b t e (by omega) (by omega)
      · obtain ⟨y1, y2, y3, y4, y5⟩ := i7 s' hs'
        rw [g 303 s' (by omega) (by omega) (by omega), g 304 s' (by omega) (by omega) (by omega), g (83 + 2 * s') 0 (by omega) (by omega) (by omega), g (83 + 2 * s') 1 (by omega) (by omega) (by omega)]
        refine ⟨y1, y2, y3, y4, fun i hi => ?_⟩
        by_cases e : s' = u
        · subst e
          rw [d (84 + 2 * s') i, if_neg (by omega), d1 (84 + 2 * s') i, if_neg (by omega), c1]
          by_cases e2 : j0 ≤ i ∧ i < j0 + k0
          · rw [acp_in e2, d, if_pos ⟨rfl, e2⟩, d1, if_pos (by omega), c1, acp_out (by omega)]
            exact a5 _ (by omega)
          · rw [acp_out (by omega), d, if_neg (by omega), d1, if_neg (by omega), c1, acp_out (by omega)]
            exact y5 i hi
        · rw [g (306 + s') i (by omega) (by omega) (by omega), g (84 + 2 * s') i (by omega) (by omega) (by omega)]
          exact y5 i hi
    · exact T 2 (by decide) (by rw [if_neg q3, if_neg q4, if_neg q5]) (by omega)
    · exact T 5 (by decide) (by rw [if_neg q3, if_pos q4]) (by omega)
    · exact T 5 (by decide) (by rw [if_pos q3]) (by omega)
