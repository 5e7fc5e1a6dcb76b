/-! my own: steps, depth, ordered, best -/
theorem GM.g {C s : Cn} {m : Nat} {M : Mp} (h : GM C s m M) (h0 : C 91 0 = m) : gM C m M := ⟨h0, h.2.1, h.2.2.1, h.2.2.2.1⟩
theorem IC_0 (t : Nat) : IC 91 0 ∧ (t < 9 → IC 91 2) := by
  unfold IC
  omega
theorem g_freeI {n : Nat} {C C1 : Cn} {m : Nat} {M : Mp} {x y : Int} {Q : Int → Cn → Prop} (hn : 320 ≤ n) (i1 : I1 C m) (lm : LM C 26 (tb C 4 m) m M) (o : ∀ b t, (b = 91 ∧ t = 0) ∨ (93 ≤ b ∧ b ≤ 98) → C1 b t = C b t) (bx : bd x) (by_ : bd y)
    (h0 : ¬ (thg (tb C 4 m) m (C 27) (C 28) M x y).1 = 0 → ∀ C3 : Cn, (∀ b t, IC b t → C3 b t = C1 b t) → Q 0 C3)
    (h1 : (thg (tb C 4 m) m (C 27) (C 28) M x y).1 = 0 → ∀ C3 : Cn, (∀ b t, IC b t → C3 b t = C1 b t) → gM C3 m M → C3 91 23 = ((thg (tb C 4 m) m (C 27) (C 28) M x y).2.1 : Nat) → C3 91 24 = ((thg (tb C 4 m) m (C 27) (C 28) M x y).2.2 : Nat) → Q 1 C3) : P_G_maps n C1 91 (fun _ C2 => P_G_isFree n C2 91 x y Q) := by
  have ok := Inv.ok i1 lm
  have e12 := ok.e
  have f19 := ok.f19
  have k := thg_k i1.2.2.2.2.2.1 lm.1 x y
  refine g_mapsI hn i1 lm o (fun C2 fr gm xy rw' => ?_)
  unfold P_G_isFree J_G_isFree_16
  simp only [gS hn, true_and]
  have c0 : C2 91 0 = C 91 0 := by rw [fr _ _ (IC_0 0).1, o _ _ (by omega)]
  refine g_thingI hn i1 gm c0 xy rw' bx by_ (fun C3 f3 k3 => ?_)
  have fr3 : ∀ b t, IC b t → C3 b t = C1 b t := fun b t hb => by rw [f3 b t (IC_23 hb), fr b t hb]
  have g3 : gM C3 m M := (gm.g (by rw [c0, i1.2.2.1])).congr e12 (fun b t hb => f3 b t (by omega))
  generalize thg (tb C 4 m) m (C 27) (C 28) M x y = th at *
  obtain ⟨a, b, c⟩ := th
  dsimp only at *
  unfold cdG
  dsimp only
  rcases k with ⟨rfl, k1, k2⟩ | ⟨rfl, k1⟩ | ⟨rfl, k1⟩
  · have fl := fo_nF k1 k2
    have e1 : (if (0 : Nat) = 0 then fo M b c else if (0 : Nat) = 1 then 100 + b else 200 + b) = fo M b c := if_pos rfl
    rw [e1, if_neg (by omega)]
    exact ⟨Or.inr rfl, h1 rfl C3 fr3 g3 (k3 rfl).1 (k3 rfl).2⟩
  · have e1 : (if (1 : Nat) = 0 then fo M b c else if (1 : Nat) = 1 then 100 + b else 200 + b) = 100 + b := by rw [if_neg (by decide), if_pos rfl]
    rw [e1, if_pos (by omega)]
    exact ⟨Or.inl rfl, h0 (by decide) C3 fr3⟩
  · have e1 : (if (2 : Nat) = 0 then fo M b c else if (2 : Nat) = 1 then 100 + b else 200 + b) = 200 + b := by rw [if_neg (by decide), if_neg (by decide)]
    rw [e1, if_pos (by omega)]
    exact ⟨Or.inl rfl, h0 (by decide) C3 fr3⟩
theorem ICb {b t : Nat} (h : IC b t) : b ≠ 138 ∧ b ≠ 59 ∧ ¬ (b = 58 ∧ t ≠ 11) ∧ ¬ (b = 91 ∧ (9 ≤ t ∧ t ≤ 34)) ∧ ¬ (140 ≤ b ∧ b ≤ 281) ∧ b ≠ 64 ∧ b ≠ 65 ∧ ¬ (b = 66 ∧ 49 ≤ t) := by
  refine ⟨?_, h.2.2.2.2.2.2.1, h.2.2.1, ?_, ?_, h.2.2.2.2.2.2.2.1, h.2.2.2.2.2.2.2.2.1, h.2.2.2.1⟩
  · have := h.1
    omega
  · have := h.2.1
    omega
  · have := h.1
    omega
theorem c_steps {n : Nat} {C : Cn} {v1 v2 : Int} (hn : 320 ≤ n) (inv : Inv C) : P_F_steps n C 1 v1 v2 (fun r C1 => P_G_steps n C1 91 v1 v2 (fun r2 C2 => r = r2 ∧ Inv C2)) := by
  have hf : 91 ≤ n := by omega
  have inv' := inv
  obtain ⟨m, i1, -, -, -, -, -, -, -, -, ⟨M, lm, st, -, -⟩⟩ := inv'
  have ok := Inv.ok i1 lm
  have m6 := i1.1
  have e12 := ok.e
  have mm' : mm M = m := lm.1.1
  unfold P_F_steps
  refine f_isPoint (bI_br (fun q => ?_) (fun q => ?_))
  · simp only [fS hf, true_and]
    refine f_tell hf (by decide) (fun C1 c1 => ?_)
    unfold P_G_steps
    refine g_isPoint (bI_br (fun _ => ?_) (fun w => absurd w q))
    simp only [gS hn, true_and]
    exact both hn (by decide) inv c1 (fun _ _ _ => rfl)
  · have k := thg_k i1.2.2.2.2.2.1 lm.1 v1 v2
    simp only [fS hf, fL hf, Int.reduceToNat, true_and]
    refine f_thingI hf i1 lm q.1 q.2 ?_
    have T : ¬ (thg (tb C 4 m) m (C 27) (C 28) M v1 v2).1 = 0 → P_F_tell n C 1 4 (fun r C1 => P_G_steps n C1 91 v1 v2 (fun r2 C2 => r = r2 ∧ Inv C2)) := by
      intro ht
      refine f_tell hf (by decide) (fun C1 c1 => ?_)
      unfold P_G_steps
      refine g_isPoint (bI_br (fun w => absurd q w) (fun _ => ?_))
      simp only [gS hn, true_and]
      exact g_freeI hn i1 lm (fun b t hb => why0 c1 b t (by omega)) q.1 q.2 (fun _ C3 f3 => ⟨fun _ => both hn (by decide) inv c1 f3, fun w => absurd rfl w⟩) (fun w => absurd w ht)
    have G : (thg (tb C 4 m) m (C 27) (C 28) M v1 v2).1 = 0 → ∀ C1 : Cn, (∀ b t, IC b t → C1 b t = C b t) → P_G_steps n C1 91 v1 v2 (fun r2 C2 => ((tot M (oF m 0) (thg (tb C 4 m) m (C 27) (C 28) M v1 v2).2.1 (thg (tb C 4 m) m (C 27) (C 28) M v1 v2).2.2 : Nat) : Int) = r2 ∧ Inv C2) := by
      intro ht C1 o1
      unfold P_G_steps
      refine g_isPoint (bI_br (fun w => absurd q w) (fun _ => ?_))
      simp only [gS hn, Int.reduceToNat, true_and]
      refine g_freeI hn i1 lm (fun b t hb => o1 b t (by clear k T; unfold IC; omega)) q.1 q.2 (fun w => absurd ht w) (fun _ C3 f3 g3 y1 y2 => ⟨fun w => absurd w (by decide), fun _ => ?_⟩)
      refine g_asNumbered hn m6 g3.1 (fun C4 f4 n4 => ?_)
      rw [f4 _ _ (by omega), f4 _ _ (by omega), y1, y2]
      have kk : (thg (tb C 4 m) m (C 27) (C 28) M v1 v2).2.1 ≤ mE M ∧ (thg (tb C 4 m) m (C 27) (C 28) M v1 v2).2.2 ≤ mH M (thg (tb C 4 m) m (C 27) (C 28) M v1 v2).2.1 := by
        rcases k with w | w | w
        · exact w.2
        · exact absurd (w.1.symm.trans ht) (by decide)
        · exact absurd (w.1.symm.trans ht) (by decide)
      refine g_searched (o := oF m 0) hn ok mm' (g3.congr e12 (fun b t hb => f4 b t (by omega))) (fun i hi => ⟨n4 i hi, oF_lt hi⟩) (fun a b h1 h2 => oF_inj h1 h2) kk.1 kk.2 (fun C5 f5 => ⟨rfl, inv.congr (fun b t hb => ?_)⟩)
      have hb2 := ICb hb
      rw [f5 b t (by have := hb2.2.2.2.1; omega), f4 b t hb2.1, f3 b t hb, o1 b t hb]
    generalize thg (tb C 4 m) m (C 27) (C 28) M v1 v2 = th at *
    obtain ⟨a, j, c⟩ := th
    dsimp only at *
    unfold cdF
    dsimp only
    rcases k with ⟨rfl, k1, k2⟩ | ⟨rfl, k1⟩ | ⟨rfl, k1⟩
    · have h49 := FC_49 ok k1 k2
      have e1 : (if (0 : Nat) = 0 then FC M j + c else if (0 : Nat) = 1 then 100 + j else 200 + j) = FC M j + c := if_pos rfl
      rw [e1]
      refine ⟨fun _ => ?_, fun w => absurd w (by omega)⟩
      unfold P_F_stepsOfCell
      simp only [fS hf, Int.reduceToNat, true_and]
      refine f_takeOrder (num := 0) hf m6 lm.f.1 (by omega) (fun C2 f2 n2 => ?_)
      have lm2 : LM C2 26 (tb C 4 m) m M := lm.congr (fun b t h1 h2 => f2 b t (by omega))
      refine f_stepsOf (o := oF m 0) hf ok mm' lm2.f (st.congr (fun b t h1 h2 => f2 b t (by omega))) (fun i hi => ⟨n2 i hi, oF_lt hi⟩) k1 k2 (fun C3 f3 => ?_)
      refine G rfl C3 (fun b t hb => ?_)
      have hb2 := ICb hb
      rw [f3 b t (by have := hb2.2.2.1; omega), f2 b t hb2.2.1]
    · have e1 : (if (1 : Nat) = 0 then FC M j + c else if (1 : Nat) = 1 then 100 + j else 200 + j) = 100 + j := by rw [if_neg (by decide), if_pos rfl]
      rw [e1]
      exact ⟨fun w => absurd w (by omega), fun _ => T (by decide)⟩
    · have e1 : (if (2 : Nat) = 0 then FC M j + c else if (2 : Nat) = 1 then 100 + j else 200 + j) = 200 + j := by rw [if_neg (by decide), if_neg (by decide)]
      rw [e1]
      exact ⟨fun w => absurd w (by omega), fun _ => T (by decide)⟩
theorem c_depth {n : Nat} {C : Cn} {v1 : Int} (hn : 320 ≤ n) (inv : Inv C) : P_F_depth n C 1 v1 (fun r C1 => P_G_depth n C1 91 v1 (fun r2 C2 => r = r2 ∧ Inv C2)) := by
  have hf : 91 ≤ n := by omega
  have inv' := inv
  obtain ⟨m, i1, -, -, -, -, -, -, -, -, ⟨M, lm, st, -, -⟩⟩ := inv'
  have ok := Inv.ok i1 lm
  have m6 := i1.1
  have e12 := ok.e
  have mm' : mm M = m := lm.1.1
  unfold P_F_depth
  refine f_isIn (bI_br (fun q => ?_) (fun q => ?_))
  · simp only [fS hf, true_and]
    refine f_tell hf (by decide) (fun C1 c1 => ?_)
    unfold P_G_depth
    refine g_in (bI_br (fun _ => ?_) (fun w => absurd w q))
    simp only [gS hn, true_and]
    exact both hn (by decide) inv c1 (fun _ _ _ => rfl)
  · simp only [fS hf, Int.reduceToNat, true_and]
    refine f_takeOrder (num := 0) hf m6 lm.f.1 (by omega) (fun C2 f2 n2 => ?_)
    have lm2 : LM C2 26 (tb C 4 m) m M := lm.congr (fun b t h1 h2 => f2 b t (by omega))
    refine f_measure (o := oF m 0) hf ok mm' lm2.f (st.congr (fun b t h1 h2 => f2 b t (by omega))) (fun i hi => ⟨n2 i hi, oF_lt hi⟩) (fun C3 f3 x1 x2 => ?_)
    unfold J_F_depth_51
    rw [x1, x2]
    have o3 : ∀ b t, IC b t → C3 b t = C b t := fun b t hb => by
      have hb2 := ICb hb
      rw [f3 b t (by have := hb2.2.2.1; omega), f2 b t hb2.2.1]
    unfold P_G_depth J_G_depth_43
    refine g_in (bI_br (fun w => absurd q w) (fun _ => ?_))
    simp only [gS hn, Int.reduceToNat, true_and]
    refine g_mapsI hn i1 lm (fun b t hb => o3 b t (by unfold IC; omega)) (fun C4 f4 gm _ _ => ?_)
    have g4 := gm.g (by rw [f4 _ _ (IC_0 0).1, o3 _ _ (IC_0 0).1, i1.2.2.1])
    refine g_asNumbered hn m6 g4.1 (fun C5 f5 n5 => ?_)
    refine g_searches (o := oF m 0) hn ok mm' (g4.congr e12 (fun b t hb => f5 b t (by omega))) (fun i hi => ⟨n5 i hi, oF_lt hi⟩) (fun a b h1 h2 => oF_inj h1 h2) (fun C6 f6 y1 y2 => ⟨by rw [y1, y2], inv.congr (fun b t hb => ?_)⟩)
    have hb2 := ICb hb
    rw [f6 b t (by have := hb2.2.2.2.1; omega), f5 b t hb2.1, f4 b t hb, o3 b t hb]
