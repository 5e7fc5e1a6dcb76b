/-! my own: the class surveys a land -/
/-- a land of the class holds the map of the table s -/
def LM (C : Cn) (l : Nat) (s : Cn) (m : Nat) (M : Mp) : Prop := isMap s m (C (l + 1)) (C (l + 2)) M ∧ C l 0 = m ∧ (∀ i, i < m → C (l + 3) i = mF M i ∧ C (l + 4) i = mL M i) ∧ (∀ j k, j ≤ mE M → k < mH M j → C (l + 5) (6 * j + k) = mT M j k) ∧ LF C l M ∧ GT C l M
theorem tb_congr {C D : Cn} {w m : Nat} (h : ∀ i, i < m → ∀ f, D (w + i) f = C (w + i) f) : tb D w m = tb C w m := by
  funext i f
  unfold tb
  split
  · rename_i q
    exact h i q f
  · rfl
theorem tl1 (l : Nat) : ((l : Int) + 1).toNat = l + 1 := by omega
theorem tl2 (l : Nat) : ((l : Int) + 2).toNat = l + 2 := by omega
theorem tl3 (l : Nat) : ((l : Int) + 3).toNat = l + 3 := by omega
theorem tl4 (l : Nat) : ((l : Int) + 4).toNat = l + 4 := by omega
theorem f_survey {n : Nat} {C : Cn} {l e m : Nat} {Q : Int → Cn → Prop} (hn : 91 ≤ n) (hl : l = 26 ∨ l = 42) (he : e = 2 ∨ e = 18) (hm : C e 1 = m) (g : gd (tb C (e + 2) m) m)
    (h : ∀ (C2 : Cn) (M : Mp), (∀ b t, ¬ (l ≤ b ∧ b ≤ l + 15) → C2 b t = C b t) → LM C2 l (tb C (e + 2) m) m M → Q 0 C2) : P_La_survey n C (l : Int) (e : Int) Q := by
  have m6 := g.1
  have he3 : e = 2 ∨ e = 10 ∨ e = 18 := by omega
  have hL : lnd (l : Int) := by unfold lnd; omega
  have hE : est (e : Int) := by unfold est; omega
  unfold P_La_survey
  simp only [lS hn hl, ES hn he3, Int.toNat_natCast, true_and]
  intro C3 c3
  rw [hm] at c3
  have s3 : ∀ i, i < m → ∀ f, C3 (e + 2 + i) f = C (e + 2 + i) f := fun i hi f => by rw [c3, wr_ne (fun q => by omega)]
  have t3 : tb C3 (e + 2) m = tb C (e + 2) m := tb_congr s3
  have hs : Sg C3 ((e : Int) + 2) (m : Int) := by
    have x := gd.sg (C := C3) (w := e + 2) (m := m) (by rw [t3]; exact g)
    rw [(by omega : ((e + 2 : Nat) : Int) = (e : Int) + 2)] at x
    exact x
  refine f_findEnds (m := (m : Int)) hn hL hE hs (by rw [Int.toNat_natCast, c3, wr_same]) (fun D0 a1 a2 a3 a4 a5 a6 C8 c8 => ?_)
  unfold frL at a1
  unfold LFl eK at a6
  simp only [Int.toNat_natCast, tl1, tl2, tl3, tl4] at a1 a2 a3 a4 a5 a6
  have e1 : (((D0 l 1).toNat : Nat) : Int) = D0 l 1 := by omega
  generalize hM : ((m, (D0 l 1).toNat, (fun i => if i < m then (D0 (l + 3) i).toNat else 0), (fun i => if i < m then (D0 (l + 4) i).toNat else 0), fun (a b : Nat) => cOv (tb C (e + 2) m) (a : Int) (b : Int)) : Mp) = M
  have mE' : ((mE M : Nat) : Int) = D0 l 1 := by rw [← hM]; exact e1
  have mF' : ∀ i, i < m → mF M i = (D0 (l + 3) i).toNat ∧ mL M i = (D0 (l + 4) i).toNat := by
    intro i hi
    rw [← hM]
    exact ⟨if_pos hi, if_pos hi⟩
  have mm' : mm M = m := by rw [← hM]; rfl
  have ewi : ∀ i : Nat, (e : Int) + 2 + (i : Int) = ((e + 2 + i : Nat) : Int) := fun i => by omega
  have a6' : ∀ i, i < m → ((0 ≤ D0 (l + 3) i ∧ D0 (l + 3) i < D0 l 1 ∧ ky (D0 (l + 1) (D0 (l + 3) i).toNat) (D0 (l + 2) (D0 (l + 3) i).toNat) = fK (tb C (e + 2) m) (i : Int)) ∧ (0 ≤ D0 (l + 4) i ∧ D0 (l + 4) i < D0 l 1 ∧ ky (D0 (l + 1) (D0 (l + 4) i).toNat) (D0 (l + 2) (D0 (l + 4) i).toNat) = lK (tb C (e + 2) m) (i : Int))) := by
    intro i hi
    have x := a6 (i : Int) (by omega) (by omega)
    rw [ewi, Int.toNat_natCast] at x
    rw [← t3, (tb_fK hi).1, (tb_fK hi).2]
    exact x
  have isM : isMap (tb C (e + 2) m) m (D0 (l + 1)) (D0 (l + 2)) M := by
    refine ⟨mm', by rw [← hM], ?_, by omega, fun i hi => ?_, fun i hi => ?_⟩
    · rw [mE', ← t3]
      refine a5.iff (fun k => ?_)
      rw [(by omega : (e : Int) + 2 = ((e + 2 : Nat) : Int))]
      exact tb_sK k
    · obtain ⟨⟨x1, x2, x3⟩, y1, y2, y3⟩ := a6' i hi
      obtain ⟨f1, f2⟩ := mF' i hi
      rw [f1, f2]
      exact ⟨⟨by omega, x3⟩, ⟨by omega, y3⟩⟩
    · rw [← hM]
      exact ⟨if_neg (by omega), if_neg (by omega)⟩
  have ok := g.ok isM
  have mF2 : ∀ i, i < m → D0 (l + 3) i = mF M i ∧ D0 (l + 4) i = mL M i := by
    intro i hi
    obtain ⟨⟨x1, x2, x3⟩, y1, y2, y3⟩ := a6' i hi
    obtain ⟨f1, f2⟩ := mF' i hi
    rw [f1, f2]
    exact ⟨by omega, by omega⟩
  have e12 := ok.e
  have f19 := ok.f19
  refine lp_rule (fun (z : Cn × Int) => ∃ j : Nat, j ≤ mE M + 1 ∧ z.2 = (j : Int) ∧ (∀ b t, ¬ (l + 5 ≤ b ∧ b ≤ l + 15) → ¬ (b = l ∧ t = 8) → z.1 b t = D0 b t) ∧ z.1 l 8 = FC M j ∧ (∀ i k, i < j → k < mH M i → z.1 (l + 5) (6 * i + k) = mT M i k) ∧ (∀ i, i < j → z.1 (l + 7) i = FC M i ∧ z.1 (l + 6) i = mH M i) ∧ (∀ i k, i < j → k ≤ mH M i → z.1 (l + 8) (FC M i + k) = i ∧ z.1 (l + 9) (FC M i + k) = flo M i k ∧ z.1 (l + 10) (FC M i + k) = roo M i k)) (fun z => (20 - z.2).toNat) ?_ (C8, 0) ⟨0, by omega, rfl, fun b t _ hb => by dsimp only; rw [c8, wr_ne hb], by dsimp only; rw [c8, wr_same]; rfl, fun i _ hi => absurd hi (Nat.not_lt_zero i), fun i hi => absurd hi (Nat.not_lt_zero i), fun i _ hi => absurd hi (Nat.not_lt_zero i)⟩
  rintro ⟨D, v2⟩ ⟨j, z0, z1, z2, z3, z4, z5, z6⟩ K hK
  dsimp only at z1 z2 z3 z4 z5 z6
  subst z1
  have segD : ∀ i, i < m → ∀ f, D (e + 2 + i) f = C (e + 2 + i) f := fun i hi f => by
    rw [z2 _ _ (by omega) (by omega), a1 _ _ (by omega), s3 i hi]
  unfold B_La_survey_20
  simp only [lS hn hl, Int.toNat_natCast, true_and]
  rw [z2 l 1 (by omega) (by omega), ← mE']
  refine ⟨fun q => ?_, fun q => ?_⟩
  · have ej : j = mE M + 1 := by omega
    subst ej
    have lc : LC D l M := ⟨by rw [z2 l 1 (by omega) (by omega), mE'], z3, fun i hi => z5 i (by omega), fun i k hi hk => z6 i k (by omega) hk⟩
    refine f_join hn hl ok lc (fun C11 b1 b2 => f_gates hn hl ok ⟨lc.congr (fun b t hb => b1 b t (by omega) (by omega) (by omega) (by omega) (by omega)), b2⟩ (fun C15 d1 d2 => ?_))
    have fr : ∀ b t, ¬ (l + 11 ≤ b ∧ b ≤ l + 15) → ¬ (b = l ∧ t = 14) → C15 b t = D b t := fun b t hb hb2 => by rw [d1 b t (by omega), b1 b t (by omega) (by omega) (by omega) (by omega) (by omega)]
    refine h C15 M (fun b t hb => ?_) ⟨?_, ?_, fun i hi => ?_, fun i k hi hk => ?_, ?_, d2⟩
    · rw [fr b t (by omega) (by omega), z2 b t (by omega) (by omega), a1 b t (by omega), c3, wr_ne (fun q => by omega)]
    · have x1 : C15 (l + 1) = D0 (l + 1) := by
        funext t
        rw [fr _ _ (by omega) (by omega), z2 _ _ (by omega) (by omega)]
      have x2 : C15 (l + 2) = D0 (l + 2) := by
        funext t
        rw [fr _ _ (by omega) (by omega), z2 _ _ (by omega) (by omega)]
      rw [x1, x2]
      exact isM
    · rw [fr _ _ (by omega) (by omega), z2 _ _ (by omega) (by omega), a2]
    · rw [fr _ _ (by omega) (by omega), z2 _ _ (by omega) (by omega), fr _ _ (by omega) (by omega), z2 _ _ (by omega) (by omega)]
      exact mF2 i hi
    · rw [fr _ _ (by omega) (by omega)]
      exact z4 i k (by omega) hk
    · exact LF.congr ⟨lc.congr (fun b t hb => b1 b t (by omega) (by omega) (by omega) (by omega) (by omega)), b2⟩ d1
  · refine f_stack hn hl he3 (by omega) ok.m ?_ (by omega) (fun i hi => ?_) (fun i hi => ?_) (fun a b ha hb => ?_) (fun C19 b1 b2 b3 b4 b5 => ?_)
    · rw [z2 l 0 (by omega) (by omega), a2, mm']
    · rw [mm'] at hi
      rw [z2 _ _ (by omega) (by omega), z2 _ _ (by omega) (by omega)]
      exact mF2 i hi
    · rw [mm'] at hi
      refine ⟨(EW hn he3 (by omega)).2, ?_⟩
      have x := (g.2.1 i hi).1
      rw [tb_cB hi] at x
      unfold cB at x
      simp only [Int.toNat_natCast] at x ⊢
      rw [segD i hi, segD i hi, segD i hi, segD i hi]
      exact x
    · rw [mm'] at ha hb
      rw [isM.o, tb_cOv ha hb]
      exact cOv_congr (segD a ha) (segD b hb)
    · refine f_lay hn hl ok (by omega) b4 b5 (by rw [b1 _ _ (by omega) (by omega), z3]) (fun C23 d1 d2 d3 d4 d5 d6 => ?_)
      rw [w32_n (by omega)]
      refine hK _ ⟨j + 1, by omega, rfl, fun b t hb hb2 => ?_, d4, fun i k hi hk => ?_, fun i hi => ?_, fun i k hi hk => ?_⟩ (by dsimp only; omega)
      · dsimp only
        rw [d1 b t (by omega) (by omega) (by omega) (by omega) hb2, b1 b t (by omega) (by omega), z2 b t hb hb2]
      · dsimp only
        rw [d1 _ _ (by omega) (by omega) (by omega) (by omega) (by omega)]
        by_cases q2 : i = j
        · subst q2
          exact b4 k hk
        · have := ok.h6 i
          rw [b2 _ (by omega)]
          exact z4 i k (by omega) hk
      · dsimp only
        rw [d1 (l + 6) _ (by omega) (by omega) (by omega) (by omega) (by omega)]
        by_cases q2 : i = j
        · subst q2
          exact ⟨d3, b5⟩
        · rw [d2 i q2, b1 _ _ (by omega) (by omega), b3 i q2]
          exact z5 i (by omega)
      · dsimp only
        by_cases q2 : i = j
        · subst q2
          exact d6 k hk
        · have lt := FC_lt (M := M) (i := j) (l := 0) hk (by omega)
          obtain ⟨x1, x2, x3⟩ := d5 (FC M i + k) (by omega)
          rw [x1, x2, x3, b1 _ _ (by omega) (by omega), b1 _ _ (by omega) (by omega), b1 _ _ (by omega) (by omega)]
          exact z6 i k (by omega) hk
