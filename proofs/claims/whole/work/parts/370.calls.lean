/-! my own: at, near, hold -/
theorem f_thingI {n : Nat} {C : Cn} {m : Nat} {M : Mp} {x y : Int} {Q : Int → Prop} (hn : 91 ≤ n) (i1 : I1 C m) (lm : LM C 26 (tb C 4 m) m M) (bx : bd x) (by_ : bd y) (h : Q (cdF M (thg (tb C 4 m) m (C 27) (C 28) M x y))) : P_La_thingAt n C 26 2 x y Q :=
  f_thing (l := 26) (e := 2) hn (Or.inl rfl) (Or.inl rfl) i1.2.2.2.2.2.1 lm tb4 bx by_ h
theorem g_thingI {n : Nat} {C C2 : Cn} {m : Nat} {M : Mp} {x y : Int} {Q : Int → Cn → Prop} (hn : 320 ≤ n) (i1 : I1 C m) (gm : GM C2 (tb C 4 m) m M) (o0 : C2 91 0 = C 91 0) (xy : ∀ e, e < mE M → C2 101 e = C 27 e ∧ C2 102 e = C 28 e) (rw' : ∀ i, i < m → ∀ f, C2 (93 + i) f = tb C 4 m i f) (bx : bd x) (by_ : bd y)
    (h : ∀ C3 : Cn, (∀ b t, ¬ (b = 91 ∧ (t = 23 ∨ t = 24)) → C3 b t = C2 b t) → ((thg (tb C 4 m) m (C 27) (C 28) M x y).1 = 0 → C3 91 23 = ((thg (tb C 4 m) m (C 27) (C 28) M x y).2.1 : Nat) ∧ C3 91 24 = ((thg (tb C 4 m) m (C 27) (C 28) M x y).2.2 : Nat)) → Q (cdG M (thg (tb C 4 m) m (C 27) (C 28) M x y)) C3) : P_G_isIn n C2 91 x y Q := by
  have e := thg_congr (s := tb C 4 m) (m := m) xy x y
  refine g_isIn hn i1.2.2.2.2.2.1 gm (by rw [o0, i1.2.2.1]) rw' bx by_ (fun C3 f3 k3 => ?_)
  rw [e] at k3 ⊢
  exact h C3 f3 k3
theorem IC_23 {b t : Nat} (h : IC b t) : ¬ (b = 91 ∧ (t = 23 ∨ t = 24)) := by
  have := h.2.1
  omega
theorem c_at {n : Nat} {C : Cn} {v1 v2 : Int} (hn : 320 ≤ n) (inv : Inv C) : P_F_at n C 1 v1 v2 (fun r C1 => P_G_at n C1 91 v1 v2 (fun r2 C2 => r = r2 ∧ Inv C2)) := by
  have hf : 91 ≤ n := by omega
  have inv' := inv
  obtain ⟨m, i1, -, -, -, -, -, -, -, -, ⟨M, lm, -, -, -⟩⟩ := inv'
  have ok := Inv.ok i1 lm
  unfold P_F_at
  refine f_isPoint (bI_br (fun q => ?_) (fun q => ?_))
  · simp only [fS hf, true_and]
    refine f_tell hf (by decide) (fun C1 c1 => ?_)
    unfold P_G_at
    refine g_isPoint (bI_br (fun _ => ?_) (fun w => absurd w q))
    simp only [gS hn, true_and]
    exact both hn (by decide) inv c1 (fun _ _ _ => rfl)
  · have G : P_G_at n C 91 v1 v2 (fun r2 C2 => ((cdG M (thg (tb C 4 m) m (C 27) (C 28) M v1 v2) : Nat) : Int) = r2 ∧ Inv C2) := by
      unfold P_G_at
      refine g_isPoint (bI_br (fun w => absurd q w) (fun _ => ?_))
      simp only [gS hn, true_and]
      refine g_mapsI hn i1 lm (fun b t hb => rfl) (fun C2 fr gm xy rw' => ?_)
      refine g_thingI hn i1 gm (fr _ _ (by unfold IC; omega)) xy rw' q.1 q.2 (fun C3 f3 _ => ⟨rfl, inv.congr (fun b t hb => ?_)⟩)
      rw [f3 b t (IC_23 hb), fr b t hb]
    unfold P_F_whatHolds
    simp only [fS hf, fL hf, Int.reduceToNat, true_and]
    refine f_thingI hf i1 lm q.1 q.2 ?_
    have k := thg_k i1.2.2.2.2.2.1 lm.1 v1 v2
    generalize thg (tb C 4 m) m (C 27) (C 28) M v1 v2 = th at k G ⊢
    obtain ⟨a, b, c⟩ := th
    dsimp only at k
    unfold cdG at G
    unfold cdF
    dsimp only at G ⊢
    rcases k with ⟨rfl, k1, k2⟩ | ⟨rfl, k1⟩ | ⟨rfl, k1⟩
    · rw [if_pos rfl] at G
      rw [if_pos rfl, Int.toNat_natCast, lm.2.2.2.2.1.fo k1 k2]
      have h49 := FC_49 ok k1 k2
      exact ⟨fun w => absurd w (by omega), fun _ => ⟨by omega, G⟩⟩
    · rw [if_neg (by decide), if_pos rfl] at G
      rw [if_neg (by decide), if_pos rfl]
      exact ⟨fun _ => G, fun w => absurd w (by omega)⟩
    · rw [if_neg (by decide), if_neg (by decide)] at G
      rw [if_neg (by decide), if_neg (by decide)]
      exact ⟨fun _ => G, fun w => absurd w (by omega)⟩
theorem c_near {n : Nat} {C : Cn} {v1 v2 v3 : Int} (hn : 320 ≤ n) (inv : Inv C) : P_F_near n C 1 v1 v2 v3 (fun r C1 => P_G_near n C1 91 v1 v2 v3 (fun r2 C2 => r = r2 ∧ Inv C2)) := by
  have hf : 91 ≤ n := by omega
  have inv' := inv
  obtain ⟨m, i1, -, -, -, -, -, -, -, -, ⟨M, lm, -, -, -⟩⟩ := inv'
  have ok := Inv.ok i1 lm
  have e12 := ok.e
  unfold P_F_near
  refine f_isPoint (bI_br (fun q => ?_) (fun q => f_isIn (bI_br (fun q2 => ?_) (fun q2 => ?_))))
  · simp only [fS hf, true_and]
    refine f_tell hf (by decide) (fun C1 c1 => ?_)
    unfold P_G_near
    refine g_isPoint (bI_br (fun _ => ?_) (fun w => absurd w q))
    simp only [gS hn, true_and]
    exact both hn (by decide) inv c1 (fun _ _ _ => rfl)
  · simp only [fS hf, true_and]
    refine f_tell hf (by decide) (fun C1 c1 => ?_)
    unfold P_G_near
    refine g_isPoint (bI_br (fun w => absurd q w) (fun _ => g_in (bI_br (fun _ => ?_) (fun w => absurd w q2))))
    simp only [gS hn, true_and]
    exact both hn (by decide) inv c1 (fun _ _ _ => rfl)
  · have k := thg_k i1.2.2.2.2.2.1 lm.1 v1 v2
    have G : ∀ (C1 : Cn) (Q : Int → Cn → Prop), (∀ b t, IC b t → b ≠ 82 → C1 b t = C b t) →
        (∀ C3 : Cn, (∀ b t, IC b t → C3 b t = C1 b t) → (∀ j, j ≤ mE M → SR C3 M j) → ((thg (tb C 4 m) m (C 27) (C 28) M v1 v2).1 = 0 → C3 91 23 = ((thg (tb C 4 m) m (C 27) (C 28) M v1 v2).2.1 : Nat) ∧ C3 91 24 = ((thg (tb C 4 m) m (C 27) (C 28) M v1 v2).2.2 : Nat)) → (¬ (thg (tb C 4 m) m (C 27) (C 28) M v1 v2).1 = 0 → P_G_finds n C3 91 4 Q) ∧ ((thg (tb C 4 m) m (C 27) (C 28) M v1 v2).1 = 0 → ((v3 = 0 → (P_G_floorAt n C3 91 (C3 91 23) (C3 91 24) (fun (r : Int) => Q r C3))) ∧ (¬ v3 = 0 → ((v3 = 1 → (P_G_roofAt n C3 91 (C3 91 23) (C3 91 24) (fun (r : Int) => Q r C3))) ∧ (¬ v3 = 1 → Q (if v3 = 2 then C3 91 23 else C3 91 24) C3)))))) → P_G_near n C1 91 v1 v2 v3 Q := by
      intro C1 Q o h
      unfold P_G_near P_G_isFree J_G_isFree_16 J_G_near_100
      refine g_isPoint (bI_br (fun w => absurd q w) (fun _ => g_in (bI_br (fun w => absurd q2 w) (fun _ => ?_))))
      simp only [gS hn, Int.reduceToNat, true_and]
      have io : ∀ b t, (b = 91 ∧ t = 0) ∨ (93 ≤ b ∧ b ≤ 98) → C1 b t = C b t := fun b t hb => o b t (by clear k h o; unfold IC; omega) (by omega)
      refine g_mapsI hn i1 lm io (fun C2 fr gm xy rw' => ?_)
      refine g_thingI hn i1 gm (by rw [fr _ _ (by clear k h o io; unfold IC; omega), io _ _ (by omega)]) xy rw' q.1 q.2 (fun C3 f3 k3 => ?_)
      have hh := h C3 (fun b t hb => by rw [f3 b t (IC_23 hb), fr b t hb]) (fun j hj => (gm.2.2.2.1 j hj).congr (fun t => f3 _ _ (by omega)) (f3 _ _ (by omega))) k3
      clear h k3
      generalize thg (tb C 4 m) m (C 27) (C 28) M v1 v2 = th at k hh ⊢
      obtain ⟨a, b, c⟩ := th
      dsimp only at k hh
      unfold cdG
      dsimp only
      rcases k with ⟨rfl, k1, k2⟩ | ⟨rfl, k1⟩ | ⟨rfl, k1⟩
      · have f19 := ok.f19
        have fl := fo_nF k1 k2
        rw [if_pos rfl, if_neg (by omega)]
        exact ⟨Or.inr rfl, fun w => absurd w (by decide), fun _ => hh.2 rfl⟩
      · have e1 : (if (1 : Nat) = 0 then fo M b c else if (1 : Nat) = 1 then 100 + b else 200 + b) = 100 + b := by rw [if_neg (by decide), if_pos rfl]
        rw [e1, if_pos (by omega)]
        exact ⟨Or.inl rfl, fun _ => hh.1 (by decide), fun w => absurd rfl w⟩
      · have e1 : (if (2 : Nat) = 0 then fo M b c else if (2 : Nat) = 1 then 100 + b else 200 + b) = 200 + b := by rw [if_neg (by decide), if_neg (by decide)]
        rw [e1, if_pos (by omega)]
        exact ⟨Or.inl rfl, fun _ => hh.1 (by decide), fun w => absurd rfl w⟩
    simp only [fS hf, fL hf, Int.reduceToNat, true_and]
    refine f_thingI hf i1 lm q.1 q.2 ?_
    generalize thg (tb C 4 m) m (C 27) (C 28) M v1 v2 = th at k G ⊢
    obtain ⟨a, j, c⟩ := th
    dsimp only at k G
    unfold cdF
    dsimp only
    rcases k with ⟨rfl, k1, k2⟩ | ⟨rfl, k1⟩ | ⟨rfl, k1⟩
    · have h49 := FC_49 ok k1 k2
      obtain ⟨x1, x2, x3⟩ := lm.2.2.2.2.1.1.2.2.2 j c k1 k2
      have x4 := (lm.2.2.2.2.1.1.2.2.1 j k1).1
      have x1' : C 34 (FC M j + c) = (j : Int) := x1
      have x2' : C 35 (FC M j + c) = flo M j c := x2
      have x3' : C 36 (FC M j + c) = roo M j c := x3
      have x4' : C 33 j = ((FC M j : Nat) : Int) := x4
      have h6 := ok.h6 j
      rw [if_pos rfl]
      simp only [Int.toNat_natCast, x1', x2', x3', x4']
      have R : ∀ r : Int, (v3 = 0 → r = flo M j c) → (v3 = 1 → r = roo M j c) → (v3 = 2 → r = (j : Int)) → (v3 = 3 → r = (c : Int)) → P_G_near n C 91 v1 v2 v3 (fun r2 C2 => r = r2 ∧ Inv C2) := by
        intro r r0 r1 r2 r3
        refine G C _ (fun _ _ _ _ => rfl) (fun C3 f3 sr k3 => ⟨fun w => absurd rfl w, fun _ => ?_⟩)
        have inv3 := inv.congr f3
        obtain ⟨y1, y2⟩ := k3 rfl
        rw [y1, y2]
        refine ⟨fun e => g_floorAt hn (by omega) ok (sr j k1) k2 ⟨r0 e, inv3⟩, fun _ => ⟨fun e => g_roofAt hn (by omega) ok (sr j k1) k2 ⟨r1 e, inv3⟩, fun _ => ⟨?_, inv3⟩⟩⟩
        by_cases e : v3 = 2
        · rw [if_pos e, r2 e]
        · rw [if_neg e, r3 (by omega)]
      refine ⟨fun _ => ⟨fun e => ⟨by omega, R _ (fun _ => rfl) (fun w => absurd w (by omega)) (fun w => absurd w (by omega)) (fun w => absurd w (by omega))⟩, fun e => ⟨by omega, R _ (fun w => absurd w (by omega)) (fun _ => rfl) (fun w => absurd w (by omega)) (fun w => absurd w (by omega))⟩, fun e => ⟨by omega, R _ (fun w => absurd w (by omega)) (fun w => absurd w (by omega)) (fun _ => rfl) (fun w => absurd w (by omega))⟩, fun e => ⟨by omega, by omega, R _ (fun w => absurd w (by omega)) (fun w => absurd w (by omega)) (fun w => absurd w (by omega)) (fun _ => ?_)⟩⟩, fun w => absurd w (by omega)⟩
      rw [w32_s (by omega)]
      omega
    · rw [if_neg (by decide), if_pos rfl]
      refine ⟨fun w => absurd w (by omega), fun _ => f_tell hf (by decide) (fun C1 c1 => ?_)⟩
      exact G C1 _ (fun b t _ hb => why0 c1 b t hb) (fun C3 f3 _ _ => ⟨fun _ => both hn (by decide) inv c1 f3, fun w => absurd w (by decide)⟩)
    · rw [if_neg (by decide), if_neg (by decide)]
      refine ⟨fun w => absurd w (by omega), fun _ => f_tell hf (by decide) (fun C1 c1 => ?_)⟩
      exact G C1 _ (fun b t _ hb => why0 c1 b t hb) (fun C3 f3 _ _ => ⟨fun _ => both hn (by decide) inv c1 f3, fun w => absurd w (by decide)⟩)
