/-! my own: sight -/
theorem cTo_tr {C D : Cn} {a b c d : Nat} (h1 : ∀ f, 2 ≤ f → f ≤ 5 → D c f = C a f) (h2 : ∀ f, 2 ≤ f → f ≤ 5 → D d f = C b f) : cTo D (c : Int) (d : Int) ↔ cTo C (a : Int) (b : Int) := by
  unfold cTo cOn tC
  simp only [Int.toNat_natCast, h1 2 (by omega) (by omega), h1 3 (by omega) (by omega), h1 4 (by omega) (by omega), h1 5 (by omega) (by omega), h2 2 (by omega) (by omega), h2 3 (by omega) (by omega), h2 4 (by omega) (by omega), h2 5 (by omega) (by omega)]
theorem cCr_tr {C D : Cn} {a b c d : Nat} (h1 : ∀ f, 2 ≤ f → f ≤ 5 → D c f = C a f) (h2 : ∀ f, 2 ≤ f → f ≤ 5 → D d f = C b f) : cCr D (c : Int) (d : Int) ↔ cCr C (a : Int) (b : Int) := by
  unfold cCr tC
  simp only [Int.toNat_natCast, h1 2 (by omega) (by omega), h1 3 (by omega) (by omega), h1 4 (by omega) (by omega), h1 5 (by omega) (by omega), h2 2 (by omega) (by omega), h2 3 (by omega) (by omega), h2 4 (by omega) (by omega), h2 5 (by omega) (by omega)]
theorem cCr_sym {C : Cn} {a b : Int} : cCr C a b ↔ cCr C b a := by
  unfold cCr
  exact And.comm
theorem gd.bd4 {s : Cn} {m i : Nat} (g : gd s m) (hi : i < m) : bd (s i 2) ∧ bd (s i 3) ∧ bd (s i 4) ∧ bd (s i 5) := by
  have a := (g.2.1 i hi).1
  unfold cB at a
  simp only [Int.toNat_natCast] at a
  exact a
theorem c_sight {n : Nat} {C : Cn} {v1 v2 v3 v4 : Int} (hn : 320 ≤ n) (inv : Inv C) : P_F_sight n C 1 v1 v2 v3 v4 (fun r C1 => P_G_sight n C1 91 v1 v2 v3 v4 (fun r2 C2 => r = r2 ∧ Inv C2)) := by
  have hf : 91 ≤ n := by omega
  have inv' := inv
  obtain ⟨m, i1, -⟩ := inv'
  obtain ⟨m6, m1, m2, m3, m4, m5, m7⟩ := i1
  unfold P_F_sight
  refine f_areTwo (bI_br (fun q => ?_) (fun q => ?_))
  · simp only [fS hf, true_and]
    refine f_tell hf (by decide) (fun C1 c1 => ?_)
    have B := both hn (by decide) inv c1 (fun _ _ _ => rfl)
    unfold P_G_sight
    simp only [gS hn, true_and]
    refine g_isPoint (bI_br (fun _ => B) (fun q1 => g_isPoint (bI_br (fun _ => B) (fun q2 => ⟨fun e1 => ⟨fun _ => B, fun e2 => absurd ⟨q1, q2, fun w => e2 w.2⟩ q⟩, fun e1 => absurd ⟨q1, q2, fun w => e1 w.1⟩ q⟩))))
  · obtain ⟨qa, qb, qn⟩ := q
    have l := ld_ok qa qb qn
    simp only [fS hf, Int.reduceToNat, true_and]
    refine f_layW (a := 76) (fS hf).2.2.2.2.2.2.2.2.1 (fun D d1 d2 => ?_)
    have dm : D 2 1 = (m : Int) := by rw [d1 _ _ (by omega), m1]
    have w76 : wb n D 76 := ⟨(fS hf).2.2.2.2.2.2.2.2.1, by
      show bd (D 76 2) ∧ bd (D 76 3) ∧ bd (D 76 4) ∧ bd (D 76 5)
      rw [d2 2 (by omega) (by omega), d2 3 (by omega) (by omega), d2 4 (by omega) (by omega), d2 5 (by omega) (by omega)]
      exact l.1⟩
    have wi : ∀ i, i < m → wb n D ((4 + i : Nat) : Int) := fun i hi => ⟨(f3R hf (by omega)).2, by
      rw [Int.toNat_natCast, d1 _ _ (by omega), d1 _ _ (by omega), d1 _ _ (by omega), d1 _ _ (by omega)]
      have := m5.bd4 hi
      rw [tb_lt hi, tb_lt hi, tb_lt hi, tb_lt hi] at this
      exact this⟩
    refine lp_rule (fun (z : Int × Int) => ∃ k : Nat, k ≤ m ∧ z.2 = (k : Int) ∧ z.1 = ((cnt (fun i => cTo D ((4 + i : Nat) : Int) 76 ∨ cCr D ((4 + i : Nat) : Int) 76) k : Nat) : Int)) (fun z => (20 - z.2).toNat) ?_ (0, 0) ⟨0, by omega, rfl, rfl⟩
    rintro ⟨v5, v6⟩ ⟨k, z0, z1, z2⟩ K hK
    dsimp only at z1 z2
    subst z1
    subst z2
    have cl := cnt_le (fun i => cTo D ((4 + i : Nat) : Int) 76 ∨ cCr D ((4 + i : Nat) : Int) 76) k
    have cs := cnt_s (fun i => cTo D ((4 + i : Nat) : Int) 76 ∨ cCr D ((4 + i : Nat) : Int) 76) k
    unfold B_F_sight_35
    simp only [fS hf, Int.reduceToNat, Int.toNat_natCast, true_and, dm]
    refine ⟨fun q3 => ?_, fun q3 => ?_⟩
    · have ek : k = m := by omega
      subst ek
      have J : J_G_sight_34 n D 91 v1 v2 v3 v4 (fun r2 C2 => ((cnt (fun i => cTo D ((4 + i : Nat) : Int) 76 ∨ cCr D ((4 + i : Nat) : Int) 76) k : Nat) : Int) = r2 ∧ Inv C2) := by
        unfold J_G_sight_34
        simp only [gS hn, Int.reduceToNat, true_and]
        have o100 : okO n ((100 : Nat) : Int) 12 ∧ (∀ v : Int, okI ((100 : Nat) : Int) v ↔ (0 ≤ v ∧ v < 6)) := ⟨(gS hn).2.2.2.2.2.1, fun v => Iff.rfl⟩
        refine g_lays (a := 100) o100 (by decide) (fun E e1 _ _ e2 => ?_)
        have em : E 91 0 = (k : Int) := by rw [e1 _ _ (by omega), d1 _ _ (by omega), m2]
        have g100 : gb n E ((100 : Nat) : Int) := ⟨⟨o100.1, rfl⟩, by
          rw [Int.toNat_natCast, e2 2 (by omega) (by omega), e2 3 (by omega) (by omega), e2 4 (by omega) (by omega), e2 5 (by omega) (by omega)]
          exact l.1⟩
        have er : ∀ i, i < k → ∀ f, E (93 + i) f = D (4 + i) f := fun i hi f => by rw [e1 _ _ (by omega), d1 _ _ (by omega), d1 _ _ (by omega), m3 i hi f]
        have gi : ∀ i, i < k → gb n E ((93 + i : Nat) : Int) := fun i hi => ⟨⟨(gR92 hn (by omega)).2.1, by rw [Int.toNat_natCast, (lay92 i (by omega)).1]⟩, by
          rw [Int.toNat_natCast, er i hi, er i hi, er i hi, er i hi]
          have := (wi i hi).2
          rw [Int.toNat_natCast] at this
          exact this⟩
        have tT : ∀ i, i < k → (cTo E ((93 + i : Nat) : Int) 100 ↔ cTo D ((4 + i : Nat) : Int) 76) := fun i hi => cTo_tr (c := 93 + i) (d := 100) (a := 4 + i) (b := 76) (fun f _ _ => er i hi f) (fun f h1 h2 => by rw [e2 f h1 h2, d2 f h1 h2])
        have tC' : ∀ i, i < k → (cCr E ((93 + i : Nat) : Int) 100 ↔ cCr D ((4 + i : Nat) : Int) 76) := fun i hi => cCr_tr (c := 93 + i) (d := 100) (a := 4 + i) (b := 76) (fun f _ _ => er i hi f) (fun f h1 h2 => by rw [e2 f h1 h2, d2 f h1 h2])
        have invE : Inv E := inv.congr (fun b t hb => by
          have h1 := hb.1
          have h2 := hb.2.2.2.2.2.2.2.2.2.2.1
          rw [e1 b t (by omega), d1 b t (by omega)])
        refine lp_rule (fun (z : Int × Int) => ∃ j : Nat, j ≤ k ∧ z.2 = (j : Int) ∧ z.1 = ((cnt (fun i => cTo D ((4 + i : Nat) : Int) 76 ∨ cCr D ((4 + i : Nat) : Int) 76) j : Nat) : Int)) (fun z => (20 - z.2).toNat) ?_ (0, 0) ⟨0, by omega, rfl, rfl⟩
        rintro ⟨v5, v6⟩ ⟨j, y0, y1, y2⟩ K2 hK2
        dsimp only at y1 y2
        subst y1
        subst y2
        have cl := cnt_le (fun i => cTo D ((4 + i : Nat) : Int) 76 ∨ cCr D ((4 + i : Nat) : Int) 76) j
        have cs := cnt_s (fun i => cTo D ((4 + i : Nat) : Int) 76 ∨ cCr D ((4 + i : Nat) : Int) 76) j
        unfold B_G_sight_53 J_G_sight_103
        simp only [gS hn, Int.reduceToNat, Int.toNat_natCast, true_and, em]
        refine ⟨fun q4 => ⟨by rw [(by omega : j = k)], invE⟩, fun q4 => ?_⟩
        have hj : j < k := by omega
        rw [(gR92 hn (by omega : j < 6)).1]
        refine ⟨by omega, g_doCross g100 (gi j hj) (bI_br (fun q5 => g_hasEndOn g100 (gi j hj) ?_) (fun q5 => ?_))⟩
        · rw [ite_01, w32_n (a := j) (by omega)]
          have q6 : ¬ cCr D ((4 + j : Nat) : Int) 76 := fun w => q5 (cCr_sym.mp ((tC' j hj).mpr w))
          by_cases q7 : cTo D ((4 + j : Nat) : Int) 76
          · rw [bI_t ((tT j hj).mpr q7), w32_n (by omega)]
            refine hK2 _ ⟨j + 1, by omega, rfl, ?_⟩ (by dsimp only; omega)
            dsimp only
            rw [cs, ind_t (Or.inl q7)]
          · rw [bI_f (fun w => q7 ((tT j hj).mp w)), Int.add_zero, w32_id (by omega) (by omega)]
            refine hK2 _ ⟨j + 1, by omega, rfl, ?_⟩ (by dsimp only; omega)
            dsimp only
            rw [cs, ind_f (fun w => w.elim q7 q6), Nat.add_zero]
        · rw [w32_n (a := j) (by omega), w32_n (by omega)]
          refine hK2 _ ⟨j + 1, by omega, rfl, ?_⟩ (by dsimp only; omega)
          dsimp only
          rw [cs, ind_t (Or.inr ((tC' j hj).mp (cCr_sym.mp q5)))]
      unfold P_G_sight
      simp only [gS hn, true_and]
      exact g_isPoint (bI_br (fun w => absurd qa w) (fun _ => g_isPoint (bI_br (fun w => absurd qb w) (fun _ => ⟨fun e1 => ⟨fun e2 => absurd ⟨e1, e2⟩ qn, fun _ => J⟩, fun _ => J⟩))))
    · have r := f3R hf (by omega : k < 6)
      simp only [r, true_and]
      refine ⟨by omega, f_meets (wi k (by omega)) w76 (bI_br (fun q5 => ?_) (fun q5 => ?_))⟩
      · rw [w32_n (by omega)]
        refine hK _ ⟨k + 1, by omega, rfl, ?_⟩ (by dsimp only; omega)
        dsimp only
        rw [cs, ind_f q5, Nat.add_zero]
      · rw [w32_n (a := k) (by omega), w32_n (by omega)]
        refine hK _ ⟨k + 1, by omega, rfl, ?_⟩ (by dsimp only; omega)
        dsimp only
        rw [cs, ind_t q5]
