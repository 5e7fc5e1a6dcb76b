/-! my own: kindFor -/
theorem thg_same {s s2 : Cn} {m : Nat} {X Y : Nat → Int} {M : Mp} (g : ∀ i f, 2 ≤ f → f ≤ 5 → s2 i f = s i f) (x y : Int) : thg s2 m X Y M x y = thg s m X Y M x y := by
  have k2 : ∀ i, s2 i 2 = s i 2 := fun i => g i 2 (by omega) (by omega)
  have k3 : ∀ i, s2 i 3 = s i 3 := fun i => g i 3 (by omega) (by omega)
  have k4 : ∀ i, s2 i 4 = s i 4 := fun i => g i 4 (by omega) (by omega)
  have k5 : ∀ i, s2 i 5 = s i 5 := fun i => g i 5 (by omega) (by omega)
  have e1 : onS s2 m x y = onS s m x y := by
    unfold onS cOn tC
    simp only [k2, k3, k4, k5]
  have e2 : ∀ r, cel0 s2 M r x y = cel0 s M r x y := by
    intro r
    unfold cel0 tC
    simp only [k2, k3, k4, k5]
  unfold thg
  rw [e1, e2]
theorem cBw.same {s s2 : Cn} {m d : Nat} {tl : Nat → Nat} {x y u v : Int} (h : cBw s2 m tl x y u v d) (g : ∀ i f, 2 ≤ f → f ≤ 5 → s2 i f = s i f) : cBw s m tl x y u v d := by
  obtain ⟨X, Y, M, a1, a2, a3⟩ := h
  rw [thg_same g x y, thg_same g u v] at a3
  exact ⟨X, Y, M, a1.same (fun i f h1 h2 => (g i f h1 h2).symm), a2, a3⟩
theorem c_kindFor {n : Nat} {C : Cn} {v1 v2 v3 v4 v5 : Int} (hn : 320 ≤ n) (inv : Inv C) : P_F_kindFor n C 1 v1 v2 v3 v4 v5 (fun r C1 => P_G_kindFor n C1 91 v1 v2 v3 v4 v5 (fun r2 C2 => r = r2 ∧ Inv C2)) := by
  have hf : 91 ≤ n := by omega
  have inv' := inv
  obtain ⟨m, i1, i2, -, -, -, -, -, -, -, ⟨M, lm, -, -, -⟩⟩ := inv'
  have i1' := i1
  obtain ⟨m6, m1, m2, m3, m4, m5, m7⟩ := i1'
  have ok := Inv.ok i1 lm
  have mm' : mm M = m := lm.1.1
  have et : ∀ C1 : Cn, (∀ b t, 93 ≤ b → b ≤ 98 → C1 b t = C b t) → tb C1 93 m = tb C 4 m := fun C1 h => by
    rw [← i1.tbe]
    exact tb_congr (fun i hi f => h _ _ (by omega) (by omega))
  have T0 : ¬ ((0 ≤ v1 ∧ v1 < (m : Int)) ∧ (bd v2 ∧ bd v3) ∧ (bd v4 ∧ bd v5)) → P_F_tell n C 1 0 (fun r C1 => P_G_kindFor n C1 91 v1 v2 v3 v4 v5 (fun r2 C2 => r = r2 ∧ Inv C2)) := by
    intro q
    refine f_tell hf (by decide) (fun C1 c1 => ?_)
    unfold P_G_kindFor
    simp only [gS hn, true_and]
    exact g_isSegment hn m6 (by rw [why0 c1 _ _ (by omega), m2]) (bI_br (fun _ => both hn (by decide) inv c1 (fun _ _ _ => rfl)) (fun q0 => g_isPoint (bI_br (fun _ => both hn (by decide) inv c1 (fun _ _ _ => rfl)) (fun q1 => g_isPoint (bI_br (fun _ => both hn (by decide) inv c1 (fun _ _ _ => rfl)) (fun q2 => absurd ⟨q0, q1, q2⟩ q))))))
  unfold P_F_kindFor
  simp only [fS hf, Int.reduceToNat, true_and]
  refine f_isSegment hf m6 m1 (bI_br (fun q => T0 (fun w => q w.1)) (fun q0 => f_isPoint (bI_br (fun q => T0 (fun w => q w.2.1)) (fun q => f_isPoint (bI_br (fun q2 => T0 (fun w => q2 w.2.2)) (fun q2 => ?_))))))
  clear T0
  have T4 : ¬ (frP (tb C 4 m) m v2 v3 ∧ frP (tb C 4 m) m v4 v5) → P_F_tell n C 1 4 (fun r C1 => P_G_kindFor n C1 91 v1 v2 v3 v4 v5 (fun r2 C2 => r = r2 ∧ Inv C2)) := by
    intro w
    refine f_tell hf (by decide) (fun C1 c1 => ?_)
    have e := et C1 (fun b t h1 h2 => why0 c1 b t (by omega))
    unfold P_G_kindFor
    simp only [gS hn, true_and]
    refine g_isSegment hn m6 (by rw [why0 c1 _ _ (by omega), m2]) (bI_br (fun w => absurd q0 w) (fun _ => g_isPoint (bI_br (fun w => absurd q w) (fun _ => g_isPoint (bI_br (fun w => absurd q2 w) (fun _ => ?_))))))
    refine g_areFree (m := m) hn (by rw [why0 c1 _ _ (by omega), m2]) (by rw [e]; exact m5) q.1 q.2 q2.1 q2.2 (fun w1 w2 => ?_) (fun _ C2 f2 => ?_)
    · rw [e] at w1 w2
      exact absurd ⟨w1, w2⟩ w
    · refine ⟨fun _ => both hn (by decide) inv c1 (fun b t hb => ?_), fun w => absurd rfl w⟩
      have x := IC_l hb
      exact f2 b t (by omega) (by omega)
  refine f_held hf i1 lm q.1 q.2 (fun fx => ⟨fun w => absurd w (by decide), fun _ => f_held hf i1 lm q2.1 q2.2 (fun fu => ⟨fun w => absurd w (by decide), fun _ => ?_⟩) (fun w => ⟨fun _ => T4 (fun x => w x.2), fun x => absurd rfl x⟩)⟩) (fun w => ⟨fun _ => T4 (fun x => w x.1), fun x => absurd rfl x⟩)
  clear T4
  obtain ⟨i, rfl⟩ : ∃ k : Nat, v1 = (k : Int) := ⟨v1.toNat, by omega⟩
  have hi : i < m := by omega
  have ki := m4 i hi
  simp only [fL hf, true_and]
  refine f_fieldP (l := 26) (e := 2) hf (Or.inl rfl) (Or.inl rfl) m5 lm tb4 q.1 q.2 fx (fun k4 => ?_)
  refine f_fieldP (l := 26) (e := 2) hf (Or.inl rfl) (Or.inl rfl) m5 lm tb4 q2.1 q2.2 fu (fun k5 => ?_)
  generalize hDD : (fun (k d : Nat) => cBw (tb C 4 m) m (fun r => if r = i then (tlF (k : Int) (C (4 + i) 1) (C 2 2)).toNat else tlN C r) v2 v3 v4 v5 d) = DD
  have DDi : ∀ k d, DD k d ↔ cBw (tb C 4 m) m (fun r => if r = i then (tlF (k : Int) (C (4 + i) 1) (C 2 2)).toNat else tlN C r) v2 v3 v4 v5 d := fun k d => by rw [← hDD]
  have DDu : ∀ k d d', DD k d → DD k d' → d' = d := fun k d d' h1 h2 => ((DDi k d').mp h2).uniq ((DDi k d).mp h1)
  clear hDD
  have tb_i : ∀ k : Nat, k < 6 → tlF (k : Int) (C (4 + i) 1) (C 2 2) = (((tlF (k : Int) (C (4 + i) 1) (C 2 2)).toNat : Nat) : Int) ∧ (tlF (k : Int) (C (4 + i) 1) (C 2 2)).toNat ≤ 36 := fun k hk => by
    have b := tlF_b (k := (k : Int)) ⟨by omega, by omega⟩ ki.2 i2.2.1
    omega
  refine f_takeTolls (e := 2) hf (Or.inl rfl) m6 m1 (fun C3 f3 t3 => ?_)
  have zt0 : ∀ r, r < m → r ≠ i → C3 68 r = ((tlN C r : Nat) : Int) := fun r hr _ => by
    rw [t3 r hr]
    exact (tlN_b i1 i2 hr).1
  refine lp_rule (fun (z : Cn × Int × Int × Int) => ∃ k : Nat, k ≤ 6 ∧ z.2.2.2 = (k : Int) ∧ (∀ b t, ¬ (68 ≤ b ∧ b ≤ 70) → z.1 b t = C b t) ∧ (∀ r, r < m → r ≠ i → z.1 68 r = ((tlN C r : Nat) : Int)) ∧ ((k = 0 ∧ z.2.1 = 0 ∧ z.2.2.1 = 1000000) ∨ ∃ i d : Nat, z.2.1 = (i : Int) ∧ z.2.2.1 = (d : Int) ∧ bc DD k i d)) (fun z => (20 - z.2.2.2).toNat) ?_ (C3, 0, 1000000, 0) ⟨0, by omega, rfl, fun b t hb => f3 b t (by omega), zt0, Or.inl ⟨rfl, rfl, rfl⟩⟩
  rintro ⟨E, w5, w6, w7⟩ ⟨k, z0, z1, z2, zt, z3⟩ K hK
  dsimp only at z1 z2 zt z3
  subst z1
  have ra := f3R hf (by omega : i < 6)
  have lmE : LM E 26 (tb C 4 m) m M := lm.congr (fun b t h1 h2 => z2 b t (by omega))
  unfold B_F_kindFor_112
  simp only [fS hf, Int.reduceToNat, Int.toNat_natCast, ra, true_and]
  refine ⟨fun q3 => ?_, fun q3 => ⟨by omega, ?_⟩⟩
  · have ek : k = 6 := by omega
    subst ek
    rcases z3 with ⟨y1, -, -⟩ | ⟨ib, d, y1, y2, y3⟩
    · omega
    subst y1
    clear hK y2 zt
    have e := et E (fun b t h1 h2 => z2 b t (by omega))
    have ga := gR92 hn (by omega : i < 6)
    unfold P_G_kindFor
    simp only [gS hn, Int.reduceToNat, Int.toNat_natCast, ga, true_and]
    refine g_isSegment hn m6 (by rw [z2 _ _ (by omega), m2]) (bI_br (fun w => absurd q0 w) (fun _ => g_isPoint (bI_br (fun w => absurd q w) (fun _ => g_isPoint (bI_br (fun w => absurd q2 w) (fun _ => ?_))))))
    refine g_areFree (m := m) hn (by rw [z2 _ _ (by omega), m2]) (by rw [e]; exact m5) q.1 q.2 q2.1 q2.2 (fun _ _ E1 fe1 => ⟨fun w => absurd w (by decide), fun _ => ⟨by omega, by omega, fun v6 hv6 => ?_⟩⟩) (fun w => ?_)
    · have e1C : ∀ b t, ¬ (68 ≤ b ∧ b ≤ 70) → b < 101 ∨ 137 < b → ¬ (b = 91 ∧ (10 ≤ t ∧ t ≤ 24)) → E1 b t = C b t := fun b t h1 h2 h3 => by rw [fe1 b t h2 h3, z2 b t h1]
      clear fe1 z2 lmE
      refine lp_rule (fun (z : Cn × Int × Int × Int) => ∃ j : Nat, j ≤ 6 ∧ z.2.2.2 = (j : Int) ∧ (∀ b t, b < 101 ∨ 137 < b → ¬ (240 ≤ b ∧ b ≤ 280) → ¬ (b = 91 ∧ (10 ≤ t ∧ t ≤ 24)) → ¬ (b = 93 + i ∧ t = 0) → z.1 b t = E1 b t) ∧ ((j = 0 ∧ z.2.1 = -1) ∨ ∃ i d : Nat, z.2.1 = (i : Int) ∧ z.2.2.1 = (d : Int) ∧ bc DD j i d)) (fun z => (20 - z.2.2.2).toNat) ?_ (E1, -1, 0, 0) ⟨0, by omega, rfl, fun _ _ _ _ _ _ => rfl, Or.inl ⟨rfl, rfl⟩⟩
      rintro ⟨F, w5, w6, w7⟩ ⟨j, x0, x1, x2, x3⟩ K2 hK2
      dsimp only at x1 x2 x3
      subst x1
      unfold B_G_kindFor_70 J_G_kindFor_128
      simp only [gS hn, Int.reduceToNat, Int.toNat_natCast, ga, true_and]
      refine ⟨fun q4 => ⟨by omega, by omega, fun F2 cf2 => ?_⟩, fun q4 => ⟨by omega, by omega, fun I ci => ?_⟩⟩
      · have ej : j = 6 := by omega
        subst ej
        rcases x3 with ⟨y1, -⟩ | ⟨i2', d2, y1, y2, y4⟩
        · omega
        refine ⟨by rw [y1, y3.uniq y4], inv.congr (fun b t hb => ?_)⟩
        have x := IC_l hb
        by_cases e0 : b = 93 + i ∧ t = 0
        · rw [e0.1, e0.2, cf2, wr_same, hv6, e1C _ _ (by omega) (by omega) (by omega)]
        · rw [cf2, wr_ne e0, x2 b t (by omega) (by omega) (by omega) e0, e1C b t (by omega) (by omega) (by omega)]
      · clear y3
        have hj : j < 6 := by omega
        have io : ∀ q t, ¬ (q = 93 + i ∧ t = 0) → I q t = F q t := fun q t h1 => by rw [ci, wr_ne h1]
        have iC : ∀ b t, (93 ≤ b ∧ b ≤ 98) ∨ (b = 91 ∧ t < 9) → ¬ (b = 93 + i ∧ t = 0) → I b t = C b t := fun b t hb h1 => by rw [io b t h1, x2 b t (by omega) (by omega) (by omega) h1, e1C b t (by omega) (by omega) (by omega)]
        have ik : I (93 + i) 0 = (j : Int) := by rw [ci, wr_same]
        have sm : ∀ r f, 2 ≤ f → f ≤ 5 → tb I 93 m r f = tb C 4 m r f := by
          intro r f h1 h2
          unfold tb
          by_cases hr : r < m
          · rw [if_pos hr, if_pos hr, iC _ _ (by omega) (by omega), m3 r hr]
          · rw [if_neg hr, if_neg hr]
        have tl : ∀ r, r < m → tlF (I (93 + r) 0) (I (93 + r) 1) (I 91 2) = (((if r = i then (tlF (j : Int) (C (4 + i) 1) (C 2 2)).toNat else tlN C r : Nat) : Nat) : Int) ∧ (if r = i then (tlF (j : Int) (C (4 + i) 1) (C 2 2)).toNat else tlN C r) ≤ 36 := by
          intro r hr
          by_cases er : r = i
          · subst er
            rw [if_pos rfl, ik, iC _ 1 (by omega) (by omega), iC 91 2 (by omega) (by omega), m3 r hr, i2.1]
            exact tb_i j hj
          · rw [if_neg er, iC _ 0 (by omega) (by omega), iC _ 1 (by omega) (by omega), iC 91 2 (by omega) (by omega), m3 r hr, m3 r hr, i2.1]
            exact tlN_b i1 i2 hr
        refine g_costB (m := m) (tl := fun r => if r = i then (tlF (j : Int) (C (4 + i) 1) (C 2 2)).toNat else tlN C r) hn (by rw [iC _ _ (by omega) (by omega), m2]) (m5.sub (Nat.le_refl _) (fun r _ f h1 h2 => sm r f h1 h2)) tl q.1 q.2 q2.1 q2.2 (fx.per (σ := fun r => r) (fun r hr => hr) (fun r _ f h1 h2 => sm r f h1 h2)) (fu.per (σ := fun r => r) (fun r hr => hr) (fun r _ f h1 h2 => sm r f h1 h2)) (fun d G2 fg cb => ?_)
        have cb' : DD j d := (DDi j d).mpr (cb.same sm)
        have u' : ∀ d', DD j d' → d' = d := fun d' h => DDu j d d' cb' h
        have fL2 : ∀ b t, b < 101 ∨ 137 < b → ¬ (240 ≤ b ∧ b ≤ 280) → ¬ (b = 91 ∧ (10 ≤ t ∧ t ≤ 24)) → ¬ (b = 93 + i ∧ t = 0) → G2 b t = E1 b t := fun b t g1 g2 g3 g4 => by rw [fg b t g1 g2 g3, io b t g4, x2 b t g1 g2 g3 g4]
        clear cb tl sm ik iC io fg tb_i
        rw [w32_n (by omega)]
        rcases x3 with ⟨y1, y2⟩ | ⟨i3, d3, y1, y2, y4⟩
        · subst y1
          rw [y2]
          exact ⟨fun _ => hK2 _ ⟨1, by omega, rfl, fL2, Or.inr ⟨0, d, rfl, rfl, bc.first cb' u'⟩⟩ (by dsimp only; omega), fun w => absurd (by decide) w⟩
        · rw [y1, y2]
          exact ⟨fun w => absurd w (by omega), fun _ => ⟨fun w => hK2 _ ⟨j + 1, by omega, rfl, fL2, Or.inr ⟨j, d, rfl, rfl, y4.new cb' u' (by omega)⟩⟩ (by dsimp only; omega), fun w => hK2 _ ⟨j + 1, by omega, rfl, fL2, Or.inr ⟨i3, d3, rfl, rfl, y4.keep u' (by omega)⟩⟩ (by dsimp only; omega)⟩⟩
    · rw [e] at w
      exact absurd ⟨fx, fu⟩ w
  · have hk : k < 6 := by omega
    refine f_toll ⟨by omega, fun C6 c6 => ?_⟩
    rw [z2 _ _ (by omega), z2 _ _ (by omega)] at c6
    have tlk := tb_i k hk
    have lg6 : LG C6 26 M := by
      have lm6 : LM C6 26 (tb C 4 m) m M := lmE.congr (fun b t h1 h2 => by rw [c6, wr_ne (by omega)])
      exact ⟨lm6.nF, lm6.2.2.2.2.2⟩
    have tl6 : TL C6 M (fun r => if r = i then (tlF (k : Int) (C (4 + i) 1) (C 2 2)).toNat else tlN C r) := by
      intro r hr
      rw [mm'] at hr
      dsimp only
      by_cases er : r = i
      · rw [if_pos er, c6, er, wr_same]
        exact tlk
      · rw [if_neg er, c6, wr_ne (by omega), zt r hr er]
        exact ⟨rfl, (tlN_b i1 i2 hr).2⟩
    clear tb_i tlk
    refine f_costOf (l := 26) hf (Or.inl rfl) ok lg6 tl6 k4 k5 (fun d C4 f4 d432 hD => ?_)
    have cb' : DD k d := (DDi k d).mpr ⟨_, _, M, lm.1, d432, hD⟩
    have u' : ∀ d', DD k d' → d' = d := fun d' h => DDu k d d' cb' h
    have fr4 : ∀ b t, ¬ (68 ≤ b ∧ b ≤ 70) → C4 b t = C b t := fun b t h1 => by rw [f4 b t (by omega) (by omega), c6, wr_ne (by omega), z2 b t h1]
    have tl4 : ∀ r, r < m → r ≠ i → C4 68 r = ((tlN C r : Nat) : Int) := fun r hr er => by rw [f4 _ _ (by omega) (by omega), c6, wr_ne (by omega), zt r hr er]
    clear hD k4 k5 tl6 c6 zt
    rw [w32_n (by omega)]
    rcases z3 with ⟨y1, y2, y4⟩ | ⟨i3, d3', y1, y2, y4⟩
    · subst y1
      rw [y4]
      exact ⟨fun w => absurd w (by omega), fun _ => hK _ ⟨1, by omega, rfl, fr4, tl4, Or.inr ⟨0, d, rfl, rfl, bc.first cb' u'⟩⟩ (by dsimp only; omega)⟩
    · rw [y1, y2]
      exact ⟨fun w => hK _ ⟨k + 1, by omega, rfl, fr4, tl4, Or.inr ⟨i3, d3', rfl, rfl, y4.keep u' (by omega)⟩⟩ (by dsimp only; omega), fun w => hK _ ⟨k + 1, by omega, rfl, fr4, tl4, Or.inr ⟨k, d, rfl, rfl, y4.new cb' u' (by omega)⟩⟩ (by dsimp only; omega)⟩
