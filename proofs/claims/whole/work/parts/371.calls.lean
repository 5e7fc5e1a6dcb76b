/-! my own: hold, end, of -/
theorem c_hold {n : Nat} {C : Cn} {v1 v2 v3 : Int} (hn : 320 ≤ n) (inv : Inv C) : P_F_hold n C 1 v1 v2 v3 (fun r C1 => P_G_hold n C1 91 v1 v2 v3 (fun r2 C2 => r = r2 ∧ Inv C2)) := by
  have hf : 91 ≤ n := by omega
  have inv' := inv
  obtain ⟨m, i1, -, -, -, -, -, -, i8, -, ⟨M, lm, -, -, -⟩⟩ := inv'
  have ok := Inv.ok i1 lm
  have m6 := i1.1
  unfold P_F_hold
  refine f_isIn (bI_br (fun q => ?_) (fun q => f_isPoint (bI_br (fun q2 => ?_) (fun q2 => ?_))))
  · simp only [fS hf, true_and]
    refine f_tell hf (by decide) (fun C1 c1 => ?_)
    unfold P_G_hold
    refine g_in (bI_br (fun _ => ?_) (fun w => absurd w q))
    simp only [gS hn, true_and]
    exact both hn (by decide) inv c1 (fun _ _ _ => rfl)
  · simp only [fS hf, true_and]
    refine f_tell hf (by decide) (fun C1 c1 => ?_)
    unfold P_G_hold
    refine g_in (bI_br (fun w => absurd q w) (fun _ => g_isPoint (bI_br (fun _ => ?_) (fun w => absurd w q2))))
    simp only [gS hn, true_and]
    exact both hn (by decide) inv c1 (fun _ _ _ => rfl)
  · obtain ⟨t, rfl⟩ : ∃ t : Nat, v1 = (t : Int) := ⟨v1.toNat, by omega⟩
    have ht : t < 10 := by omega
    have k := thg_k i1.2.2.2.2.2.1 lm.1 v2 v3
    -- what both write
    have U : ∀ (kf kg x : Int) (C1 C2 C3 C4 C5 : Cn), ((kf = 1 ∧ kg = 2) ∨ (kf = 2 ∧ kg = 3) ∨ (kf = 3 ∧ kg = 1 ∧ 0 ≤ x ∧ x < 6)) → C1 = wr C 79 t kf → C2 = wr C1 80 t x → (∀ b t, IC b t → C3 b t = C2 b t) → C4 = wr C3 311 t kg → C5 = wr C4 312 t x → Inv C5 := by
      intro kf kg x C1 C2 C3 C4 C5 hk c1 c2 c3 c4 c5
      refine inv.up8 (fun b t hb hb2 => by rw [c5, wr_ne (by omega), c4, wr_ne (by omega), c3 b t hb, c2, wr_ne (by omega), c1, wr_ne (by omega)]) (fun t' ht' => ?_)
      have e79 : C5 79 t' = C1 79 t' := by rw [c5, wr_ne (by omega), c4, wr_ne (by omega), c3 _ _ (by unfold IC; omega), c2, wr_ne (by omega)]
      have e80 : C5 80 t' = C2 80 t' := by rw [c5, wr_ne (by omega), c4, wr_ne (by omega), c3 _ _ (by unfold IC; omega)]
      have e311 : C5 311 t' = C4 311 t' := by rw [c5, wr_ne (by omega)]
      by_cases e : t' = t
      · subst e
        rw [e79, e80, e311, c5, wr_same, c4, wr_same, c2, wr_same, c1, wr_same]
        refine ⟨rfl, ?_⟩
        rcases hk with h | h | h
        · exact Or.inr (Or.inl h)
        · exact Or.inr (Or.inr (Or.inl h))
        · exact Or.inr (Or.inr (Or.inr h))
      · rw [e79, e80, e311, c5, wr_ne (by omega), c4, wr_ne (by omega), wr_ne (by omega), c3 _ _ (by unfold IC; omega), c3 _ _ (by unfold IC; omega), c2, wr_ne (by omega), wr_ne (by omega), wr_ne (by omega), c1, wr_ne (by omega), wr_ne (by omega), wr_ne (by omega), wr_ne (by omega)]
        exact i8 t' ht'
    have G : ∀ (kf kg x : Int) (C1 C2 : Cn), ((kf = 1 ∧ kg = 2) ∨ (kf = 2 ∧ kg = 3) ∨ (kf = 3 ∧ kg = 1 ∧ 0 ≤ x ∧ x < 6)) → C1 = wr C 79 t kf → C2 = wr C1 80 t x → (∀ c : Nat, c = cdG M (thg (tb C 4 m) m (C 27) (C 28) M v2 v3) → kg = (if (100 : Int) ≤ c then (if (200 : Int) ≤ c then 1 else 3) else 2) ∧ x = (if (100 : Int) ≤ c then (if (200 : Int) ≤ c then w32 ((c : Int) - 200) else w32 (w32 (1000 * v2) + v3)) else (c : Int))) → P_G_hold n C2 91 (t : Int) v2 v3 (fun r2 C2 => 1 = r2 ∧ Inv C2) := by
      intro kf kg x C1 C2 hk c1 c2 hc
      obtain ⟨hc1, hc2⟩ := hc _ rfl
      unfold P_G_hold J_G_hold_67 J_G_hold_109
      refine g_in (bI_br (fun w => absurd q w) (fun _ => g_isPoint (bI_br (fun w => absurd q2 w) (fun _ => ?_))))
      simp only [gS hn, Int.reduceToNat, Int.toNat_natCast, true_and]
      have o : ∀ b t, b ≠ 79 → b ≠ 80 → C2 b t = C b t := fun b t h1 h2 => by rw [c2, wr_ne (by omega), c1, wr_ne (by omega)]
      refine g_mapsI hn i1 lm (fun b t hb => o b t (by omega) (by omega)) (fun D2 fr gm xy rw' => ?_)
      refine g_thingI hn i1 gm (by rw [fr _ _ (by clear k hk; unfold IC; omega), o _ _ (by omega) (by omega)]) xy rw' q2.1 q2.2 (fun D3 f3 _ => ?_)
      rw [← hc1, ← hc2]
      refine ⟨by omega, fun D4 d4 => ⟨by omega, fun D5 d5 => ?_⟩⟩
      exact U kf kg x C1 C2 D3 D4 D5 hk c1 c2 (fun b t hb => by rw [f3 b t (IC_23 hb), fr b t hb]) d4 d5
    clear U
    simp only [fS hf, fL hf, Int.reduceToNat, true_and]
    refine f_thingI hf i1 lm q2.1 q2.2 ?_
    generalize thg (tb C 4 m) m (C 27) (C 28) M v2 v3 = th at k G ⊢
    obtain ⟨a, j, c⟩ := th
    dsimp only at k
    unfold cdF
    unfold cdG at G
    dsimp only at G ⊢
    unfold P_Sp_fill
    simp only [fS hf, Int.reduceToNat, Int.toNat_natCast, true_and]
    rcases k with ⟨rfl, k1, k2⟩ | ⟨rfl, k1⟩ | ⟨rfl, k1⟩
    · have h49 := FC_49 ok k1 k2
      have f19 := ok.f19
      have fl := fo_nF k1 k2
      have e1 : (if (0 : Nat) = 0 then FC M j + c else if (0 : Nat) = 1 then 100 + j else 200 + j) = FC M j + c := if_pos rfl
      have e2 : (if (0 : Nat) = 0 then fo M j c else if (0 : Nat) = 1 then 100 + j else 200 + j) = fo M j c := if_pos rfl
      have e3 : C 37 (FC M j + c) = ((fo M j c : Nat) : Int) := lm.2.2.2.2.1.fo k1 k2
      rw [e2] at G
      rw [e1, e3]
      refine ⟨fun _ => ⟨fun _ => ⟨by omega, by omega, fun C1 c1 => ⟨by omega, fun C2 c2 => G 1 2 _ C1 C2 (Or.inl ⟨rfl, rfl⟩) c1 c2 (fun c' hc' => ?_)⟩⟩, fun w => absurd w (by omega)⟩, fun w => absurd w (by omega)⟩
      subst hc'
      rw [if_neg (by omega), if_neg (by omega)]
      exact ⟨rfl, rfl⟩
    · have e12 := ok.e
      have e1 : (if (1 : Nat) = 0 then FC M j + c else if (1 : Nat) = 1 then 100 + j else 200 + j) = 100 + j := by rw [if_neg (by decide), if_pos rfl]
      have e2 : (if (1 : Nat) = 0 then fo M j c else if (1 : Nat) = 1 then 100 + j else 200 + j) = 100 + j := by rw [if_neg (by decide), if_pos rfl]
      rw [e2] at G
      rw [e1]
      refine ⟨fun _ => ⟨fun w => absurd w (by omega), fun _ => ⟨by omega, fun C1 c1 => ⟨by omega, fun C2 c2 => G 2 3 _ C1 C2 (Or.inr (Or.inl ⟨rfl, rfl⟩)) c1 c2 (fun c' hc' => ?_)⟩⟩⟩, fun w => absurd w (by omega)⟩
      subst hc'
      rw [if_pos (by omega), if_neg (by omega), if_pos (by omega), if_neg (by omega)]
      exact ⟨rfl, rfl⟩
    · have e1 : (if (2 : Nat) = 0 then FC M j + c else if (2 : Nat) = 1 then 100 + j else 200 + j) = 200 + j := by rw [if_neg (by decide), if_neg (by decide)]
      have e2 : (if (2 : Nat) = 0 then fo M j c else if (2 : Nat) = 1 then 100 + j else 200 + j) = 200 + j := by rw [if_neg (by decide), if_neg (by decide)]
      have w1 : w32 (((200 + j : Nat) : Int) - 200) = (j : Int) := by
        rw [w32_s (by omega)]
        omega
      rw [e2] at G
      rw [e1, w1]
      refine ⟨fun w => absurd w (by clear w1; omega), fun _ => ⟨by clear w1; omega, fun C1 c1 => ⟨by clear w1; omega, fun C2 c2 => G 3 1 _ C1 C2 (Or.inr (Or.inr ⟨rfl, rfl, by clear w1; omega, by clear w1; omega⟩)) c1 c2 (fun c' hc' => ?_)⟩⟩⟩
      subst hc'
      rw [w1]
      clear w1
      rw [if_pos (by omega), if_pos (by omega), if_pos (by omega), if_pos (by omega)]
      exact ⟨rfl, rfl⟩
