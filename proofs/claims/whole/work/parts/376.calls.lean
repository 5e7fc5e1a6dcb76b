/-! my own: next -/
def nxP (M : Mp) (tl : Nat → Nat) (a b k : Nat) : Prop := k ≠ a ∧ ∃ w d d' : Nat, ed M tl a k w ∧ isD (ed M tl) (nF M) k b d' ∧ isD (ed M tl) (nF M) a b d ∧ w + d' = d
theorem c_next {n : Nat} {C : Cn} {v1 v2 : Int} (hn : 320 ≤ n) (inv : Inv C) : P_F_next n C 1 v1 v2 (fun r C1 => P_G_next n C1 91 v1 v2 (fun r2 C2 => r = r2 ∧ Inv C2)) := by
  have hf : 91 ≤ n := by omega
  have inv' := inv
  obtain ⟨m, i1, i2, -, -, -, -, -, -, -, ⟨M, lm, -, -, -⟩⟩ := inv'
  have ok := Inv.ok i1 lm
  have f19 := ok.f19
  have T : ¬ ((0 ≤ v1 ∧ v1 < (nF M : Int)) ∧ (0 ≤ v2 ∧ v2 < (nF M : Int))) → P_F_tell n C 1 0 (fun r C1 => P_G_next n C1 91 v1 v2 (fun r2 C2 => r = r2 ∧ Inv C2)) := by
    intro q
    refine f_tell hf (by decide) (fun C1 c1 => ?_)
    unfold P_G_next
    simp only [gS hn, true_and]
    refine g_waysI hn i1 i2 lm (fun b t hb => why0 c1 b t (by omega)) (fun C2 fr c18 _ _ => ?_)
    exact g_isField hn f19 c18 (bI_br (fun _ => both hn (by decide) inv c1 fr) (fun q1 => g_isField hn f19 c18 (bI_br (fun _ => both hn (by decide) inv c1 fr) (fun q2 => absurd ⟨q1, q2⟩ q))))
  unfold P_F_next
  simp only [fS hf, Int.reduceToNat, true_and]
  refine f_isField hf f19 lm.nF (bI_br (fun q => T (fun w => q w.1)) (fun q => f_isField hf f19 lm.nF (bI_br (fun q2 => T (fun w => q2 w.2)) (fun q2 => ⟨fun e => ?_, fun e => ?_⟩))))
  · refine f_tell hf (by decide) (fun C1 c1 => ?_)
    unfold P_G_next
    simp only [gS hn, true_and]
    refine g_waysI hn i1 i2 lm (fun b t hb => why0 c1 b t (by omega)) (fun C2 fr c18 _ _ => ?_)
    refine g_isField hn f19 c18 (bI_br (fun w => absurd q w) (fun q1 => g_isField hn f19 c18 (bI_br (fun w => absurd q2 w) (fun _ => ?_))))
    refine lp_rule (fun (z : Int) => z = 0) (fun z => 1) ?_ 0 rfl
    rintro v3 rfl K hK
    unfold B_G_next_28 J_G_next_96
    simp only [gS hn, Int.reduceToNat, true_and, c18]
    exact ⟨fun w => absurd w (by omega), fun _ => ⟨fun _ => both hn (by decide) inv c1 fr, fun w => absurd e w⟩⟩
  · clear T
    obtain ⟨a, rfl⟩ : ∃ k : Nat, v1 = (k : Int) := ⟨v1.toNat, by omega⟩
    obtain ⟨b, rfl⟩ : ∃ k : Nat, v2 = (k : Int) := ⟨v2.toNat, by omega⟩
    have ha : a < nF M := by omega
    have hb : b < nF M := by omega
    have hab : a ≠ b := by omega
    have sy : sye (ed M (tlN C)) (nF M) := ok.sye _
    refine f_waysI hf i1 i2 lm hb (fun C2 f2 tl2 lg d2 => ?_)
    have d2s : ∀ g, g < nF M → ∃ d : Nat, C2 69 g = (d : Int) ∧ d ≤ 432 ∧ isD (ed M (tlN C)) (nF M) g b d := fun g hg => by
      obtain ⟨d, x1, x2, x3⟩ := d2 g hg
      exact ⟨d, x1, x2, x3.sym sy⟩
    obtain ⟨da, xa1, xa2, xa3⟩ := d2s a ha
    have ex : ∃ k, k < nF M ∧ nxP M (tlN C) a b k := by
      obtain ⟨h, w, d', y1, y2, y3, y4⟩ := isD.first sy hab (fun h hh => by obtain ⟨d, -, -, x3⟩ := d2s h hh; exact ⟨d, x3⟩) xa3
      exact ⟨h, (sy a h w y2).2.2, y1, w, da, d', y2, y3, xa3, y4⟩
    unfold P_Ws_firstBy
    refine lp_rule (fun (z : Int) => ∃ k : Nat, k ≤ nF M ∧ z = (k : Int) ∧ ∀ i, i < k → ¬ nxP M (tlN C) a b i) (fun z => (30 - z).toNat) ?_ 0 ⟨0, by omega, rfl, fun i hi => absurd hi (Nat.not_lt_zero i)⟩
    rintro v3 ⟨k, z0, rfl, z2⟩ K hK
    have nxt : k < nF M → ¬ nxP M (tlN C) a b k → K (w32 ((k : Int) + 1)) := by
      intro hk hp
      rw [w32_n (by omega)]
      refine hK _ ⟨k + 1, by omega, rfl, fun i hi => ?_⟩ (by omega)
      by_cases ei : i = k
      · rw [ei]
        exact hp
      · exact z2 i (by omega)
    unfold B_Ws_firstBy_2
    simp only [fS hf, fL hf, Int.reduceToNat, Int.toNat_natCast, true_and, lg.1]
    refine ⟨fun q3 => ?_, fun q3 => ?_⟩
    · obtain ⟨h, h1, h2⟩ := ex
      exact absurd h2 (z2 h (by omega))
    · have hk : k < nF M := by omega
      obtain ⟨dk, xk1, xk2, xk3⟩ := d2s k hk
      refine f_tollB (l := 26) hf (Or.inl rfl) ok lg.2 tl2 ha hk (fun w hw hw2 => ⟨fun e2 => ?_, fun e2 => ⟨fun e3 => absurd e3 (by omega), fun _ => ⟨by omega, by omega, ?_⟩⟩⟩) (fun no => ⟨fun e2 => ?_, fun e2 => ⟨fun _ => ?_, fun w => absurd w (by decide)⟩⟩)
      · exact nxt hk (fun w => w.1 (by omega))
      · rw [xk1, xa1, w32_s (by omega)]
        refine ⟨fun e4 => ?_, fun e4 => nxt hk (fun p => ?_)⟩
        · -- found
          have pk : nxP M (tlN C) a b k := ⟨by omega, w, da, dk, hw, xk3, xa3, by omega⟩
          unfold P_G_next
          simp only [gS hn, true_and]
          refine g_waysI hn i1 i2 lm (fun b t hb => f2 b t (by omega) (by omega) (by omega)) (fun C3 f3 c18 d3 e3 => ?_)
          refine g_isField hn f19 c18 (bI_br (fun w => absurd q w) (fun _ => g_isField hn f19 c18 (bI_br (fun w => absurd q2 w) (fun _ => ?_))))
          refine lp_rule (fun (z : Int) => ∃ j : Nat, j ≤ k ∧ z = (j : Int)) (fun z => (30 - z).toNat) ?_ 0 ⟨0, by omega, rfl⟩
          rintro v4 ⟨j, y0, rfl⟩ K2 hK2
          have ra := gR260 hn (by omega : a < 20)
          have rb := gR239 hn (by omega : a < 20)
          have rj := gR239 hn (by omega : j < 20)
          have nx2 : ¬ nxP M (tlN C) a b j → K2 (w32 ((j : Int) + 1)) := by
            intro hp
            rw [w32_n (by omega)]
            refine hK2 _ ⟨j + 1, ?_, rfl⟩ (by omega)
            by_cases ei : j = k
            · rw [ei] at hp
              exact absurd pk hp
            · omega
          unfold B_G_next_28
          simp only [gS hn, Int.reduceToNat, Int.toNat_natCast, ra, rb, rj, true_and, c18]
          refine ⟨fun w => absurd w (by omega), fun _ => ⟨fun w => absurd w e, fun _ => ⟨fun e5 => nx2 (fun w => w.1 (by omega)), fun e5 => ⟨by omega, by omega, ?_⟩⟩⟩⟩
          obtain ⟨dj, yj1, yj2, yj3⟩ := d3 j b (by omega) hb
          obtain ⟨da2, ya1, ya2, ya3⟩ := d3 a b ha hb
          rcases e3 a j ha (by omega) (by omega) with ⟨wj, g1, g2, g3⟩ | ⟨g1, g3⟩
          · rw [g3, yj1, ya1, w32_s (x := (wj : Int) + (dj : Int)) (by omega)]
            refine ⟨fun w => absurd w (by omega), fun _ => ⟨by omega, by omega, by omega, by omega, fun e6 => ?_, fun e6 => nx2 (fun p => ?_)⟩⟩
            · have pj : nxP M (tlN C) a b j := ⟨by omega, wj, da2, dj, g1, yj3, ya3, by omega⟩
              have ejk : j = k := by
                by_cases w : j < k
                · exact absurd pj (z2 j w)
                · omega
              refine ⟨by rw [ejk], inv.congr (fun b t hb => ?_)⟩
              have w := ICw hb
              rw [f3 b t hb, f2 b t w.1 w.2.1 w.2.2.1]
            · obtain ⟨-, w', d1, d1', p1, p2, p3, p4⟩ := p
              have h1 := ok.ed1 g1 p1
              have h2 := yj3.uniq p2
              have h3 := ya3.uniq p3
              omega
          · rw [g3]
            refine ⟨fun _ => nx2 (fun p => ?_), fun w => absurd (Int.le_refl _) w⟩
            obtain ⟨-, w', d1, d1', p1, p2, p3, p4⟩ := p
            exact g1 w' p1
        · obtain ⟨-, w', d1, d1', p1, p2, p3, p4⟩ := p
          have h1 := ok.ed1 hw p1
          have h2 := xk3.uniq p2
          have h3 := xa3.uniq p3
          omega
      · exact nxt hk (fun w => w.1 (by omega))
      · refine nxt hk (fun p => ?_)
        obtain ⟨-, w', d1, d1', p1, p2, p3, p4⟩ := p
        exact no w' p1
