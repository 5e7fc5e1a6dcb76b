/-! my own: asks -/
theorem f_what {n : Nat} {C E : Cn} {m : Nat} {M : Mp} {x y : Int} {Q : Int → Prop} (hf : 91 ≤ n) (i1 : I1 C m) (lm : LM C 26 (tb C 4 m) m M) (o : ∀ b t, (4 ≤ b ∧ b ≤ 9) ∨ (26 ≤ b ∧ b ≤ 41) → E b t = C b t) (bx : bd x) (by_ : bd y)
    (h : Q ((cdG M (thg (tb C 4 m) m (C 27) (C 28) M x y) : Nat) : Int)) : P_F_whatHolds n E 1 x y Q := by
  have ok := Inv.ok i1 lm
  have m6 := i1.1
  have k := thg_k i1.2.2.2.2.2.1 lm.1 x y
  have lmE : LM E 26 (tb C 4 m) m M := lm.congr (fun b t h1 h2 => o b t (by omega))
  have e27 : E 27 = C 27 := by
    funext t
    exact o _ _ (by omega)
  have e28 : E 28 = C 28 := by
    funext t
    exact o _ _ (by omega)
  unfold P_F_whatHolds
  simp only [fS hf, fL hf, Int.reduceToNat, true_and]
  refine f_thing (l := 26) (e := 2) hf (Or.inl rfl) (Or.inl rfl) i1.2.2.2.2.2.1 lmE (fun i hi f => by rw [o _ _ (by omega)]; exact tb4 i hi f) bx by_ ?_
  have e0 : thg (tb C 4 m) m (E (26 + 1)) (E (26 + 2)) M x y = thg (tb C 4 m) m (C 27) (C 28) M x y := by
    rw [(e27 : E (26 + 1) = C 27), (e28 : E (26 + 2) = C 28)]
  rw [e0]
  clear e0
  have k' : ((thg (tb C 4 m) m (C 27) (C 28) M x y).1 = 0 ∧ (thg (tb C 4 m) m (C 27) (C 28) M x y).2.1 ≤ mE M ∧ (thg (tb C 4 m) m (C 27) (C 28) M x y).2.2 ≤ mH M (thg (tb C 4 m) m (C 27) (C 28) M x y).2.1) ∨ ((thg (tb C 4 m) m (C 27) (C 28) M x y).1 = 1 ∧ (thg (tb C 4 m) m (C 27) (C 28) M x y).2.1 < mE M) ∨ ((thg (tb C 4 m) m (C 27) (C 28) M x y).1 = 2 ∧ (thg (tb C 4 m) m (C 27) (C 28) M x y).2.1 < m) := k
  clear k
  generalize thg (tb C 4 m) m (C 27) (C 28) M x y = th at k' h ⊢
  obtain ⟨a, b, c⟩ := th
  dsimp only at k'
  unfold cdG at h
  unfold cdF
  dsimp only at h ⊢
  rcases k' with ⟨rfl, k1, k2⟩ | ⟨rfl, k1⟩ | ⟨rfl, k1⟩
  · rw [if_pos rfl] at h
    rw [if_pos rfl, Int.toNat_natCast]
    have e37 : E 37 (FC M b + c) = ((fo M b c : Nat) : Int) := lmE.2.2.2.2.1.fo k1 k2
    rw [e37]
    have h49 := FC_49 ok k1 k2
    exact ⟨fun w => absurd w (by omega), fun _ => ⟨by omega, h⟩⟩
  · rw [if_neg (by decide), if_pos rfl] at h
    rw [if_neg (by decide), if_pos rfl]
    exact ⟨fun _ => h, fun w => absurd w (by omega)⟩
  · rw [if_neg (by decide), if_neg (by decide)] at h
    rw [if_neg (by decide), if_neg (by decide)]
    exact ⟨fun _ => h, fun w => absurd w (by omega)⟩
def cutv (kd v : Int) : Int := if kd = 0 then w8 (w32 v) else (if kd = 1 then w32 v else v)
/-- what a sheet holds after k askings -/
def akA (val : Int → Int → Int) (kd : Int) (same : Prop) [Decidable same] (S A0 : Nat → Int) : Nat → Nat → Int
  | 0 => A0
  | k + 1 => fun i => if i = k then cutv kd (val ((if same then akA val kd same S A0 k else S) (2 * k)) ((if same then akA val kd same S A0 k else S) (2 * k + 1))) else akA val kd same S A0 k i
theorem c_asks {n : Nat} {C : Cn} {v1 v2 : Int} (hn : 320 ≤ n) (inv : Inv C) : P_F_asks n C 1 v1 v2 (fun r C1 => P_G_asks n C1 91 v1 v2 (fun r2 C2 => r = r2 ∧ Inv C2)) := by
  have hf : 91 ≤ n := by omega
  have inv' := inv
  obtain ⟨m, i1, -, -, -, -, -, i7, -, -, ⟨M, lm, -, -, -⟩⟩ := inv'
  have ok := Inv.ok i1 lm
  have m6 := i1.1
  have m5 := i1.2.2.2.2.2.1
  unfold P_F_asks
  simp only [fS hf, Int.reduceToNat, true_and]
  have T0 : ¬ ((0 ≤ v1 ∧ v1 ≤ 3) ∧ (0 ≤ v2 ∧ v2 ≤ 3)) → P_F_tell n C 1 0 (fun r C1 => P_G_asks n C1 91 v1 v2 (fun r2 C2 => r = r2 ∧ Inv C2)) := by
    intro q
    refine f_tell hf (by decide) (fun C1 c1 => ?_)
    unfold P_G_asks
    simp only [gS hn, true_and]
    exact g_isSheet (bI_br (fun _ => both hn (by decide) inv c1 (fun _ _ _ => rfl)) (fun q1 => g_isSheet (bI_br (fun _ => both hn (by decide) inv c1 (fun _ _ _ => rfl)) (fun q2 => absurd ⟨q1, q2⟩ q))))
  refine f_isSheet (bI_br (fun q => T0 (fun w => q w.1)) (fun q => f_isSheet (bI_br (fun q2 => T0 (fun w => q2 w.2)) (fun q2 => ?_))))
  clear T0
  obtain ⟨s1, rfl⟩ : ∃ s : Nat, v1 = (s : Int) := ⟨v1.toNat, by omega⟩
  obtain ⟨s2, rfl⟩ : ∃ s : Nat, v2 = (s : Int) := ⟨v2.toNat, by omega⟩
  have h1 : s1 < 4 := by omega
  have h2 : s2 < 4 := by omega
  have r1 := fR77 hf h1
  have r2 := fR77 hf h2
  have g1 := gR305 hn h1
  have g2 := gR305 hn h2
  obtain ⟨a1, a2, a3, a4, a5⟩ := i7 s1 h1
  obtain ⟨b1, b2, b3, b4, b5⟩ := i7 s2 h2
  have T5 : ¬ (0 ≤ C (83 + 2 * s1) 0 ∧ 0 ≤ C (83 + 2 * s2) 0) → P_F_tell n C 1 5 (fun r C1 => P_G_asks n C1 91 (s1 : Int) (s2 : Int) (fun r2 C2 => r = r2 ∧ Inv C2)) := by
    intro w
    refine f_tell hf (by decide) (fun C1 c1 => ?_)
    have x1 : C1 303 s1 = C (83 + 2 * s1) 0 := by rw [why0 c1 _ _ (by omega), a1]
    have x2 : C1 303 s2 = C (83 + 2 * s2) 0 := by rw [why0 c1 _ _ (by omega), b1]
    unfold P_G_asks
    simp only [gS hn, Int.reduceToNat, Int.toNat_natCast, true_and, x1, x2]
    exact g_isSheet (bI_br (fun w => absurd q w) (fun _ => g_isSheet (bI_br (fun w => absurd q2 w) (fun _ => ⟨by omega, fun _ => both hn (by decide) inv c1 (fun _ _ _ => rfl), fun _ => ⟨by omega, fun w2 => absurd w (by omega), fun _ => both hn (by decide) inv c1 (fun _ _ _ => rfl)⟩⟩))))
  simp only [Int.toNat_natCast, r1, r2, true_and]
  refine ⟨by omega, by omega, f_missing hf h1 (bI_br (fun p1 => f_missing hf h2 (bI_br (fun p2 => ?_) (fun p2 => T5 (by omega)))) (fun p1 => T5 (by omega)))⟩
  clear T5
  generalize hv : (fun (x y : Int) => ((cdG M (thg (tb C 4 m) m (C 27) (C 28) M x y) : Nat) : Int)) = val
  have vE : ∀ x y, ((cdG M (thg (tb C 4 m) m (C 27) (C 28) M x y) : Nat) : Int) = val x y := fun x y => by rw [← hv]
  clear hv
  generalize hA : akA val (C (83 + 2 * s2) 0) (s1 = s2) (C (84 + 2 * s1)) (C (84 + 2 * s2)) = A
  have A0 : A 0 = C (84 + 2 * s2) := by rw [← hA]; rfl
  have As : ∀ k i, A (k + 1) i = if i = k then cutv (C (83 + 2 * s2) 0) (val ((if s1 = s2 then A k else C (84 + 2 * s1)) (2 * k)) ((if s1 = s2 then A k else C (84 + 2 * s1)) (2 * k + 1))) else A k i := by
    intro k i
    rw [← hA]
    rfl
  clear hA
  generalize hS : (fun (k : Nat) => if s1 = s2 then A k else C (84 + 2 * s1)) = S
  have Sk : ∀ k, (if s1 = s2 then A k else C (84 + 2 * s1)) = S k := fun k => by rw [← hS]
  simp only [Sk] at As
  generalize hg : (fun (k : Nat) => (k : Int) < C (83 + 2 * s2) 1 ∧ 2 * (k : Int) + 1 < C (83 + 2 * s1) 1 ∧ bd (S k (2 * k)) ∧ bd (S k (2 * k + 1))) = go
  have goE : ∀ k, go k ↔ ((k : Int) < C (83 + 2 * s2) 1 ∧ 2 * (k : Int) + 1 < C (83 + 2 * s1) 1 ∧ bd (S k (2 * k)) ∧ bd (S k (2 * k + 1))) := fun k => by rw [← hg]
  clear hg hS
  refine lp_rule (fun (z : Cn × Int) => ∃ k : Nat, k ≤ 20 ∧ z.2 = (k : Int) ∧ (∀ b t, b ≠ 84 + 2 * s2 → z.1 b t = C b t) ∧ (∀ i, z.1 (84 + 2 * s2) i = A k i) ∧ (∀ j, j < k → go j)) (fun z => (50 - z.2).toNat) ?_ (C, 0) ⟨0, by omega, rfl, fun _ _ _ => rfl, fun i => by rw [A0], fun j hj => absurd hj (Nat.not_lt_zero j)⟩
  rintro ⟨E, v5⟩ ⟨k, z0, z1, z2, z3, z4⟩ K hK
  dsimp only at z1 z2 z3 z4
  subst z1
  have l2 : E (83 + 2 * s2) 1 = C (83 + 2 * s2) 1 := z2 _ _ (by omega)
  have l1 : E (83 + 2 * s1) 1 = C (83 + 2 * s1) 1 := z2 _ _ (by omega)
  have kd2 : E (83 + 2 * s2) 0 = C (83 + 2 * s2) 0 := z2 _ _ (by omega)
  have src : E (84 + 2 * s1) = S k := by
    rw [← Sk]
    by_cases e : s1 = s2
    · rw [if_pos e, e]
      funext i
      exact z3 i
    · rw [if_neg e]
      funext i
      exact z2 _ _ (by omega)
  -- the end
  have fin : ¬ go k → J_F_asks_149 n E (k : Int) (fun r C1 => P_G_asks n C1 91 (s1 : Int) (s2 : Int) (fun r2 C2 => r = r2 ∧ Inv C2)) := by
    intro nk
    clear hK
    unfold J_F_asks_149 P_G_asks
    have x1 : E 303 s1 = C (83 + 2 * s1) 0 := by rw [z2 _ _ (by omega), a1]
    have x2 : E 303 s2 = C (83 + 2 * s2) 0 := by rw [z2 _ _ (by omega), b1]
    simp only [gS hn, Int.reduceToNat, Int.toNat_natCast, true_and, x1, x2]
    refine g_isSheet (bI_br (fun w => absurd q w) (fun _ => g_isSheet (bI_br (fun w => absurd q2 w) (fun _ => ⟨by omega, fun w => absurd w (by omega), fun _ => ⟨by omega, fun _ => ?_, fun w => absurd w (by omega)⟩⟩))))
    refine g_mapsI hn i1 lm (fun b t hb => z2 b t (by omega)) (fun D2 fr gm xy rw' => ?_)
    have d2C : ∀ b t, IC b t → b ≠ 84 + 2 * s2 → D2 b t = C b t := fun b t h1 h2 => by rw [fr b t h1, z2 b t h2]
    have d84 : ∀ i, D2 (84 + 2 * s2) i = A k i := fun i => by rw [fr _ _ (by clear p1 p2 nk goE As; unfold IC; omega), z3]
    have d0 : D2 91 0 = (m : Int) := by rw [d2C _ _ (IC_0 0).1 (by omega), i1.2.2.1]
    have dI : ∀ s t, s < 4 → IC (306 + s) t ∧ IC 303 t ∧ IC 304 t := fun s t hs => by
      clear p1 p2 nk goE As
      refine ⟨?_, ?_, ?_⟩ <;> (unfold IC; omega)
    refine lp_rule (fun (z : Cn × Int) => ∃ j : Nat, j ≤ 20 ∧ z.2 = (j : Int) ∧ (∀ b t, b ≠ 306 + s2 → ¬ (b = 91 ∧ (t = 23 ∨ t = 24)) → z.1 b t = D2 b t) ∧ (∀ i, i < 40 → z.1 (306 + s2) i = A j i) ∧ (∀ i, i < j → go i)) (fun z => (50 - z.2).toNat) ?_ (D2, 0) ⟨0, by omega, rfl, fun _ _ _ _ => rfl, fun i hi => ?_, fun j hj => absurd hj (Nat.not_lt_zero j)⟩
    · rintro ⟨F, v6⟩ ⟨j, y0, y1, y2, y3, y4⟩ K2 hK2
      dsimp only at y1 y2 y3 y4
      subst y1
      have f1 : F 304 s1 = C (83 + 2 * s1) 1 := by rw [y2 _ _ (by omega) (by omega), d2C _ _ (dI 0 _ (by omega)).2.2 (by omega), a3]
      have f2 : F 304 s2 = C (83 + 2 * s2) 1 := by rw [y2 _ _ (by omega) (by omega), d2C _ _ (dI 0 _ (by omega)).2.2 (by omega), b3]
      have f3 : F 303 s2 = C (83 + 2 * s2) 0 := by rw [y2 _ _ (by omega) (by omega), d2C _ _ (dI 0 _ (by omega)).2.1 (by omega), b1]
      have src2 : ∀ i, i < 40 → F (306 + s1) i = S j i := fun i hi => by
        rw [← Sk]
        by_cases e : s1 = s2
        · rw [if_pos e, e]
          exact y3 i hi
        · rw [if_neg e, y2 _ _ (by omega) (by omega), d2C _ _ (dI s1 _ h1).1 (by omega)]
          exact a5 i hi
      have fin2 : ¬ go j → ((k : Int) = (j : Int) ∧ Inv F) := by
        intro nj
        have ejk : j = k := by
          by_cases e1 : j < k
          · exact absurd (z4 j e1) nj
          · by_cases e2 : k < j
            · exact absurd (y4 k e2) nk
            · omega
        subst ejk
        refine ⟨rfl, inv.up7 (fun b t hb hb2 => ?_) (fun s' hs' => ?_)⟩
        · rw [y2 b t (by omega) (fun w => by have := hb.2.1; omega), d2C b t hb (by omega)]
        · obtain ⟨c1, c2, c3, c4, c5⟩ := i7 s' hs'
          have ic := dI s' 0 hs'
          have q1 : F 303 s' = C 303 s' := by rw [y2 _ _ (by omega) (by omega), d2C _ _ (dI 0 _ (by omega)).2.1 (by omega)]
          have q2 : F 304 s' = C 304 s' := by rw [y2 _ _ (by omega) (by omega), d2C _ _ (dI 0 _ (by omega)).2.2 (by omega)]
          have q3 : ∀ t, F (83 + 2 * s') t = C (83 + 2 * s') t := fun t => by rw [y2 _ _ (by omega) (by omega), d2C _ _ (by clear p1 p2 nk nj goE As c2 c4; unfold IC; omega) (by omega)]
          rw [q1, q2, q3, q3]
          refine ⟨c1, c2, c3, c4, fun i hi => ?_⟩
          rw [y2 (84 + 2 * s') i (by omega) (by omega)]
          by_cases e : s' = s2
          · rw [e, y3 i hi, d84]
          · rw [y2 _ _ (by omega) (by omega), d2C _ _ (dI s' _ hs').1 (by omega), d2C _ _ (by clear p1 p2 nk nj goE As c2 c4; unfold IC; omega) (by omega)]
            exact c5 i hi
      have w1 : w32 (2 * (j : Int)) = ((2 * j : Nat) : Int) := by
        rw [w32_s (by omega)]
        omega
      have w2 : w32 (((2 * j : Nat) : Int) + 1) = ((2 * j + 1 : Nat) : Int) := by
        rw [w32_s (by omega)]
        omega
      unfold B_G_asks_50 J_G_asks_164 J_G_asks_128
      simp only [gS hn, Int.reduceToNat, Int.toNat_natCast, true_and, w1, w2, f1, f2, f3, g1, g2]
      clear w1 w2
      refine ⟨by omega, fun e1 => fin2 (fun w => by have := (goE j).mp w; omega), fun e1 => ⟨by omega, fun e2 => fin2 (fun w => by have := (goE j).mp w; omega), fun e2 => ⟨by omega, by omega, fun v4 hv4 => ⟨by omega, fun v6 hv6 => ?_⟩⟩⟩⟩
      rw [src2 _ (by omega)] at hv4 hv6
      refine g_in (bI_br (fun e3 => fin2 (fun w => ?_)) (fun e3 => g_in (bI_br (fun e4 => fin2 (fun w => ?_)) (fun e4 => ⟨by omega, by omega, ?_⟩))))
      · have w' := ((goE j).mp w).2.2.1
        rw [← hv4] at w'
        unfold bd at w'
        exact e3 w'
      · have w' := ((goE j).mp w).2.2.2
        rw [← hv6] at w'
        unfold bd at w'
        exact e4 w'
      · clear fin2
        have bx : bd v4 := by unfold bd; exact e3
        have by_ : bd v6 := by unfold bd; exact e4
        rw [w32_id (x := v4) (by omega) (by omega), w32_id (x := v6) (by omega) (by omega)]
        have gmF : GM F (tb C 4 m) m M := gm.congr ok (fun b t hb => y2 b t (by omega) (by omega))
        refine g_isIn hn m5 gmF (by rw [y2 _ _ (by omega) (by omega), d0]) (fun i hi f => by rw [y2 _ _ (by omega) (by omega), rw' i hi f]) bx by_ (fun F3 ff3 _ => ?_)
        have et : thg (tb C 4 m) m (F 101) (F 102) M v4 v6 = thg (tb C 4 m) m (C 27) (C 28) M v4 v6 := thg_congr (fun e he => by
          rw [y2 _ _ (by omega) (by omega), y2 _ _ (by omega) (by omega)]
          exact xy e he) v4 v6
        rw [et, vE]
        unfold P_G_cut J_G_cut_23
        refine ⟨by omega, fun F4 f4 => ?_⟩
        have gj : go j := (goE j).mpr ⟨by omega, by omega, by rw [← hv4]; exact bx, by rw [← hv6]; exact by_⟩
        rw [w32_n (by omega)]
        refine hK2 _ ⟨j + 1, by omega, rfl, fun b t hb hb2 => ?_, fun i hi => ?_, fun i hi => ?_⟩ (by dsimp only; omega)
        · dsimp only
          rw [f4, wr_ne (by omega), ff3 b t hb2, y2 b t hb hb2]
        · dsimp only
          rw [As]
          by_cases ei : i = j
          · rw [if_pos ei, f4, ei, wr_same, ← hv4, ← hv6]
            rfl
          · rw [if_neg ei, f4, wr_ne (by omega), ff3 _ _ (by omega), y3 i hi]
        · by_cases ei : i = j
          · rw [ei]
            exact gj
          · exact y4 i (by omega)
    · dsimp only
      rw [A0, d2C _ _ (dI s2 _ h2).1 (by omega)]
      exact b5 i hi
  have w1 : w32 (2 * (k : Int)) = ((2 * k : Nat) : Int) := by
    rw [w32_s (by omega)]
    omega
  have w2 : w32 (((2 * k : Nat) : Int) + 1) = ((2 * k + 1 : Nat) : Int) := by
    rw [w32_s (by omega)]
    omega
  unfold B_F_asks_59
  simp only [Int.reduceToNat, Int.toNat_natCast, r1, r2, true_and, w1, w2, l1, l2, fS hf, src]
  clear w1 w2
  refine ⟨fun e1 => fin (fun w => by have := (goE k).mp w; omega), fun e1 => ⟨fun e2 => fin (fun w => by have := (goE k).mp w; omega), fun e2 => ⟨by omega, fun v6 hv6 => ⟨by omega, fun v8 hv8 => ?_⟩⟩⟩⟩
  refine f_isFew (bI_br (fun e3 => fin (fun w => ?_)) (fun e3 => f_isFew (bI_br (fun e4 => fin (fun w => ?_)) (fun e4 => ?_))))
  · have w' := ((goE k).mp w).2.2.1
    rw [← hv6] at w'
    exact e3 w'
  · have w' := ((goE k).mp w).2.2.2
    rw [← hv8] at w'
    exact e4 w'
  · clear fin
    have bx : bd v6 := e3
    have by_ : bd v8 := e4
    have gk : go k := (goE k).mpr ⟨by omega, by omega, by rw [← hv6]; exact bx, by rw [← hv8]; exact by_⟩
    have e6 : w32 v6 = v6 := by
      unfold bd at bx
      exact w32_id (by omega) (by omega)
    have e8 : w32 v8 = v8 := by
      unfold bd at by_
      exact w32_id (by omega) (by omega)
    rw [e6, e8]
    clear e6 e8
    refine f_what hf i1 lm (fun b t hb => z2 b t (by omega)) bx by_ ?_
    rw [vE]
    unfold P_Sh_put J_Sh_put_34
    simp only [Int.toNat_natCast, r2, true_and, kd2]
    refine ⟨by omega, fun E6 c6 => ?_⟩
    rw [w32_n (by omega)]
    refine hK _ ⟨k + 1, by omega, rfl, fun b t hb => ?_, fun i => ?_, fun i hi => ?_⟩ (by dsimp only; omega)
    · dsimp only
      rw [c6, wr_ne (by omega), z2 b t hb]
    · dsimp only
      rw [As]
      by_cases ei : i = k
      · rw [if_pos ei, c6, ei, wr_same, ← hv6, ← hv8]
        rfl
      · rw [if_neg ei, c6, wr_ne (by omega), z3 i]
    · by_cases ei : i = k
      · rw [ei]
        exact gk
      · exact z4 i (by omega)
