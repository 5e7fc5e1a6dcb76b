/-! my own: the map on both sides -/
theorem I1.tbe {C : Cn} {m : Nat} (h : I1 C m) : tb C 93 m = tb C 4 m := by
  funext i f
  unfold tb
  by_cases e : i < m
  · rw [if_pos e, if_pos e]
    exact h.2.2.2.1 i e f
  · rw [if_neg e, if_neg e]
theorem g_mapsI {n : Nat} {C C1 : Cn} {m : Nat} {M : Mp} {Q : Int → Cn → Prop} (hn : 320 ≤ n) (i1 : I1 C m) (lm : LM C 26 (tb C 4 m) m M) (o : ∀ b t, (b = 91 ∧ t = 0) ∨ (93 ≤ b ∧ b ≤ 98) → C1 b t = C b t)
    (h : ∀ C2 : Cn, (∀ b t, IC b t → C2 b t = C1 b t) → GM C2 (tb C 4 m) m M → (∀ e, e < mE M → C2 101 e = C 27 e ∧ C2 102 e = C 28 e) → (∀ i, i < m → ∀ f, C2 (93 + i) f = tb C 4 m i f) → Q 0 C2) : P_G_maps n C1 91 Q := by
  have m6 := i1.1
  have et : tb C1 93 m = tb C 4 m := by
    rw [← i1.tbe]
    exact tb_congr (fun i hi f => o _ _ (by omega))
  have g : gd (tb C1 93 m) m := by
    rw [et]
    exact i1.2.2.2.2.2.1
  refine g_maps hn (by rw [o _ _ (by omega), i1.2.2.1]) g (fun C2 M2 fr gm => ?_)
  rw [et] at gm
  obtain ⟨e1, e2⟩ := lm.1.uniq gm.1
  subst e1
  refine h C2 (fun b t hb => fr b t ?_ ?_) gm (fun e he => ⟨(e2 e he).1.symm, (e2 e he).2.symm⟩) (fun i hi f => ?_)
  · have := hb.1
    have := hb.2.1
    omega
  · have := hb.2.1
    omega
  · rw [fr _ _ (by omega) (by omega), o _ _ (by omega), ← i1.tbe]
    unfold tb
    rw [if_pos hi]
