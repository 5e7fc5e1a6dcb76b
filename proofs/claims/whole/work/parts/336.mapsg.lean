/-! my own: the reference's cells, fields, map -/
/-- the reference's row of a strip -/
def SR (C : Cn) (M : Mp) (j : Nat) : Prop := (∀ k, k < mH M j → C (107 + j) k = mT M j k) ∧ C 105 j = mH M j
theorem SR.congr {C D : Cn} {M : Mp} {j : Nat} (h : SR C M j) (g : ∀ t, D (107 + j) t = C (107 + j) t) (g2 : D 105 j = C 105 j) : SR D M j := ⟨fun k hk => by rw [g, h.1 k hk], by rw [g2, h.2]⟩
theorem g_floorAt {n : Nat} {C : Cn} {j k : Nat} {M : Mp} {Q : Int → Prop} (hn : 320 ≤ n) (hj : j ≤ 12) (ok : okM M) (sr : SR C M j) (hk : k ≤ mH M j) (h : Q (flo M j k)) : P_G_floorAt n C 91 (j : Int) (k : Int) Q := by
  have rj := gR106 hn (by omega : j < 13)
  have h6 := ok.h6 j
  unfold P_G_floorAt
  refine ⟨fun q => ?_, fun q => ?_⟩
  · rw [(by omega : k = 0), flo_0] at h
    exact h
  · have w1 : w32 ((k : Int) - 1) = ((k - 1 : Nat) : Int) := by
      rw [w32_s (by omega)]
      omega
    simp only [gS hn, rj, Int.toNat_natCast, Int.reduceToNat, true_and, w1]
    clear w1
    refine ⟨by omega, by omega, ?_⟩
    rw [sr.1 (k - 1) (by omega), ← flo_p (by omega)]
    exact h
theorem g_roofAt {n : Nat} {C : Cn} {j k : Nat} {M : Mp} {Q : Int → Prop} (hn : 320 ≤ n) (hj : j ≤ 12) (ok : okM M) (sr : SR C M j) (hk : k ≤ mH M j) (h : Q (roo M j k)) : P_G_roofAt n C 91 (j : Int) (k : Int) Q := by
  have rj := gR106 hn (by omega : j < 13)
  have h6 := ok.h6 j
  unfold P_G_roofAt
  simp only [gS hn, rj, Int.toNat_natCast, Int.reduceToNat, true_and]
  rw [sr.2]
  refine ⟨by omega, fun q => ?_, fun q => ⟨by omega, by omega, ?_⟩⟩
  · rw [(by omega : k = mH M j), roo_t] at h
    exact h
  · rw [sr.1 k (by omega), ← roo_k (by omega)]
    exact h
theorem g_cellWith {n : Nat} {C : Cn} {j : Nat} {a b : Int} {M : Mp} {Q : Int → Prop} (hn : 320 ≤ n) (hj : j ≤ 12) (ok : okM M) (sr : SR C M j) (h1 : mch M j a b < mH M j + 1 → Q (mch M j a b)) (h2 : ¬ mch M j a b < mH M j + 1 → Q (-1)) : P_G_cellWith n C 91 (j : Int) a b Q := by
  have h6 := ok.h6 j
  refine lp_rule (fun v => ∃ t : Nat, t ≤ mH M j + 1 ∧ v = (t : Int) ∧ ∀ s, s < t → ¬ (flo M j s = a ∧ roo M j s = b)) (fun v => (10 - v).toNat) ?_ 0 ⟨0, by omega, rfl, fun s hs => absurd hs (Nat.not_lt_zero s)⟩
  rintro v ⟨t, t0, t1, t2⟩ K hK
  subst t1
  have nx : t ≤ mH M j → ¬ (flo M j t = a ∧ roo M j t = b) → K (w32 ((t : Int) + 1)) := by
    intro x y
    rw [w32_n (by omega)]
    refine hK _ ⟨t + 1, by omega, rfl, fun s hs => ?_⟩ (by omega)
    by_cases e : s = t
    · rw [e]
      exact y
    · exact t2 s (by omega)
  unfold B_G_cellWith_3
  simp only [gS hn, Int.toNat_natCast, Int.reduceToNat, true_and]
  rw [sr.2]
  refine ⟨by omega, fun q => h2 (fun q2 => ?_), fun q => g_floorAt hn hj ok sr (by omega) ⟨fun e1 => g_roofAt hn hj ok sr (by omega) ⟨fun e2 => ?_, fun e2 => nx (by omega) (fun x => e2 x.2)⟩, fun e1 => nx (by omega) (fun x => e1 x.1)⟩⟩
  · exact t2 (mch M j a b) (by omega) ((fnd_spec _ _).2.1 q2)
  · have e : mch M j a b = t := fnd_eq (by omega) (fun _ => ⟨e1, e2⟩) t2
    rw [← e]
    exact h1 (by rw [e]; omega)
/-- what fields the reference knows once all cells ahead of one have theirs -/
def GKn (D : Cn) (M : Mp) (j k : Nat) : Prop :=
  D 91 18 = nf M j k ∧ (∀ i t, bf M i t j k → D (121 + i) t = fo M i t) ∧ (∀ i t, bf M i t j k → nw M i t → D 134 (nf M i t) = flo M i t ∧ D 135 (nf M i t) = roo M i t ∧ D 136 (nf M i t) = i) ∧ (∀ f, f < nf M j k → D 137 f = lsp M j k f)
theorem GKn.e {D : Cn} {M : Mp} {j : Nat} (h : GKn D M j (mH M j + 1)) : GKn D M (j + 1) 0 := by
  obtain ⟨a, b, c, d⟩ := h
  refine ⟨a, fun i t x => b i t (bf_e.mp x), fun i t x => c i t (bf_e.mp x), fun f hf => ?_⟩
  rw [lsp_0, ← lsp_e]
  exact d f hf
theorem g_fields {n : Nat} {C : Cn} {j : Nat} {M : Mp} {Q : Int → Cn → Prop} (hn : 320 ≤ n) (ok : okM M) (hj : j ≤ mE M) (sr : ∀ i, i ≤ j → SR C M i) (gk : GKn C M j 0)
    (h : ∀ C2 : Cn, (∀ b t, b < 121 ∨ 137 < b → ¬ (b = 91 ∧ t = 18) → C2 b t = C b t) → GKn C2 M (j + 1) 0 → Q 0 C2) : P_G_fields n C 91 (j : Int) Q := by
  have e12 := ok.e
  have f19 := ok.f19
  have h6 := ok.h6 j
  have rj := gR120 hn (by omega : j < 13)
  refine lp_rule (fun (z : Cn × Int) => ∃ k : Nat, k ≤ mH M j + 1 ∧ z.2 = (k : Int) ∧ (∀ b t, b < 121 ∨ 137 < b → ¬ (b = 91 ∧ t = 18) → z.1 b t = C b t) ∧ GKn z.1 M j k) (fun z => (10 - z.2).toNat) ?_ (C, 0) ⟨0, by omega, rfl, fun _ _ _ _ => rfl, gk⟩
  rintro ⟨D, v2⟩ ⟨k, z0, z1, z2, z3⟩ K hK
  dsimp only at z1 z2 z3
  subst z1
  have srD : ∀ i, i ≤ j → SR D M i := fun i hi => (sr i hi).congr (fun t => z2 _ _ (by omega) (by omega)) (z2 _ _ (by omega) (by omega))
  unfold B_G_fields_2
  simp only [gS hn, Int.toNat_natCast, Int.reduceToNat, true_and]
  rw [(srD j (Nat.le_refl _)).2]
  refine ⟨by omega, fun q => ?_, fun q => ?_⟩
  · have ek : k = mH M j + 1 := by omega
    rw [ek] at z3
    exact h D z2 z3.e
  · have hk : k ≤ mH M j := by omega
    have srj := srD j (Nat.le_refl _)
    obtain ⟨k1, k2, k3, k4⟩ := z3
    have nfu := nf_le (M := M) (j := j) (k := k + 1) (i := mE M + 1) (l := 0) (by omega) (Or.inl (by omega))
    have nfE : nf M (mE M + 1) 0 = nF M := rfl
    have fol := fo_lt (M := M) j k hk
    -- the rest of a round, the field being known
    have rest : ∀ v3 : Int, (v3 < 0 ↔ nw M j k) → J_G_fields_61 n D 91 (j : Int) (k : Int) v3 ((fo M j k : Nat) : Int) K Q := by
      intro v3 hv3
      unfold J_G_fields_61
      simp only [gS hn, rj, Int.toNat_natCast, Int.reduceToNat, true_and]
      refine ⟨by omega, by omega, fun C29 c29 => ⟨by omega, fun C32 c32 => ⟨fun q3 => ?_, fun q3 => ?_⟩⟩⟩
      · have a := hv3.mp q3
        have nt := nf_t a
        have sr32 : SR C32 M j := srj.congr (fun t => by rw [c32, wr_ne (fun q => by omega), c29, wr_ne (fun q => by omega)]) (by rw [c32, wr_ne (fun q => by omega), c29, wr_ne (fun q => by omega)])
        refine g_floorAt hn (by omega) ok sr32 hk ⟨by omega, fun C40 c40 => ?_⟩
        have sr40 : SR C40 M j := sr32.congr (fun t => by rw [c40, wr_ne (fun q => by omega)]) (by rw [c40, wr_ne (fun q => by omega)])
        refine g_roofAt hn (by omega) ok sr40 hk ⟨by omega, fun C47 c47 => ⟨by omega, fun C50 c50 C51 c51 => ?_⟩⟩
        have e50 : C50 91 18 = ((nf M j k : Nat) : Int) := by rw [c50, wr_ne (fun q => by omega), c47, wr_ne (fun q => by omega), c40, wr_ne (fun q => by omega), c32, wr_ne (fun q => by omega), c29, wr_ne (fun q => by omega), k1]
        rw [e50, w32_n (by omega)] at c51
        rw [w32_n (by omega)]
        have fn := fo_new a
        rw [fn] at c29 c32 c40 c47 c50
        refine hK _ ⟨k + 1, by omega, rfl, fun b t hb hb2 => ?_, ?_, fun i t hb => ?_, fun i t hb hw => ?_, fun f hf => ?_⟩ (by dsimp only; omega)
        · dsimp only
          rw [c51, wr_ne hb2, c50, wr_ne (fun q => by omega), c47, wr_ne (fun q => by omega), c40, wr_ne (fun q => by omega), c32, wr_ne (fun q => by omega), c29, wr_ne (fun q => by omega), z2 b t hb hb2]
        · dsimp only
          rw [c51, wr_same, nt]
        · dsimp only
          have ht := hb.1
          have hi := hb.2
          rw [c51, wr_ne (fun q => by omega), c50, wr_ne (fun q => by omega), c47, wr_ne (fun q => by omega), c40, wr_ne (fun q => by omega), c32, wr_ne (fun q => by omega), c29]
          rcases bf_s hb with hb2 | ⟨rfl, rfl⟩
          · have := hb2.2
            rw [wr_ne (fun q => by omega), k2 i t hb2]
          · rw [wr_same, fn]
        · dsimp only
          rw [c51, wr_ne (fun q => by omega), wr_ne (fun q => by omega), wr_ne (fun q => by omega), c50, wr_ne (fun q => by omega), wr_ne (fun q => by omega), c47, wr_ne (fun q => by omega), c40]
          rcases bf_s hb with hb2 | ⟨rfl, rfl⟩
          · have lt := nf_lt (i := j) (l := k) hw hb2.1 hb2.2
            obtain ⟨x1, x2, x3⟩ := k3 i t hb2 hw
            refine ⟨?_, ?_, ?_⟩
            · rw [wr_ne (fun q => by omega), c32, wr_ne (fun q => by omega), c29, wr_ne (fun q => by omega), x1]
            · rw [wr_ne (fun q => by omega), wr_ne (fun q => by omega), c32, wr_ne (fun q => by omega), c29, wr_ne (fun q => by omega), x2]
            · rw [wr_ne (fun q => by omega), wr_ne (fun q => by omega), wr_ne (fun q => by omega), c32, wr_ne (fun q => by omega), c29, wr_ne (fun q => by omega), x3]
          · refine ⟨?_, ?_, ?_⟩
            · rw [wr_same]
            · rw [wr_same]
            · rw [wr_same]
        · dsimp only
          rw [c51, wr_ne (fun q => by omega), c50, wr_ne (fun q => by omega), c47, wr_ne (fun q => by omega), c40, wr_ne (fun q => by omega), c32]
          by_cases e : f = nf M j k
          · rw [e, wr_same, lsp_s fn]
          · rw [wr_ne (fun q => e q.2), c29, wr_ne (fun q => by omega), lsp_n (fun q => e (by rw [← q, fn]))]
            exact k4 f (by omega)
      · have a : ¬ nw M j k := fun x => q3 (hv3.mpr x)
        have nt := nf_f a
        rw [w32_n (by omega)]
        refine hK _ ⟨k + 1, by omega, rfl, fun b t hb hb2 => ?_, ?_, fun i t hb => ?_, fun i t hb hw => ?_, fun f hf => ?_⟩ (by dsimp only; omega)
        · dsimp only
          rw [c32, wr_ne (fun q => by omega), c29, wr_ne (fun q => by omega), z2 b t hb hb2]
        · dsimp only
          rw [c32, wr_ne (fun q => by omega), c29, wr_ne (fun q => by omega), nt, k1]
        · dsimp only
          have ht := hb.1
          have hi := hb.2
          rw [c32, wr_ne (fun q => by omega), c29]
          rcases bf_s hb with hb2 | ⟨rfl, rfl⟩
          · have := hb2.2
            rw [wr_ne (fun q => by omega), k2 i t hb2]
          · rw [wr_same]
        · dsimp only
          rcases bf_s hb with hb2 | ⟨rfl, rfl⟩
          · rw [c32, wr_ne (fun q => by omega), wr_ne (fun q => by omega), wr_ne (fun q => by omega), c29, wr_ne (fun q => by omega), wr_ne (fun q => by omega), wr_ne (fun q => by omega)]
            exact k3 i t hb2 hw
          · exact absurd hw a
        · dsimp only
          rw [c32]
          by_cases e : f = fo M j k
          · rw [e, wr_same, lsp_s rfl]
          · rw [wr_ne (fun q => e q.2), c29, wr_ne (fun q => by omega), lsp_n (fun q => e q.symm)]
            exact k4 f (by omega)
    have new : nw M j k → J_G_fields_39 n D 91 (j : Int) (k : Int) (-1) K Q := by
      intro a
      unfold J_G_fields_39
      simp only [gS hn, Int.toNat_natCast, Int.reduceToNat, true_and]
      refine ⟨fun q => by omega, fun _ => ?_⟩
      rw [k1, ← fo_new a]
      exact rest (-1) ⟨fun _ => a, fun _ => by omega⟩
    refine ⟨fun q2 => new (Or.inl (by omega)), fun q2 => g_floorAt hn (by omega) ok srj hk (g_roofAt hn (by omega) ok srj hk ?_)⟩
    obtain ⟨i, rfl⟩ : ∃ i, j = i + 1 := ⟨j - 1, by omega⟩
    have w1 : w32 (((i + 1 : Nat) : Int) - 1) = (i : Int) := by
      rw [w32_s (by omega)]
      omega
    rw [w1]
    refine g_cellWith hn (by omega) ok (srD i (by omega)) (fun q3 => ?_) (fun q3 => new (Or.inr q3))
    have a : ¬ nw M (i + 1) k := by
      rintro (q4 | q4)
      · omega
      · exact q4 q3
    obtain ⟨x1, x2, -, -⟩ := fo_old a
    have h6i := ok.h6 i
    have ri := gR120 hn (by omega : i < 13)
    unfold J_G_fields_39
    simp only [gS hn, ri, w1, Int.toNat_natCast, Int.reduceToNat, true_and]
    clear w1
    refine ⟨fun _ => ⟨by omega, by omega, ?_⟩, fun q4 => by omega⟩
    rw [k2 i _ ⟨x2, Or.inl (by omega)⟩, ← x1]
    exact rest _ ⟨fun q4 => by omega, fun q4 => absurd q4 a⟩
/-- the reference holds the map of the table s -/
def GM (C : Cn) (s : Cn) (m : Nat) (M : Mp) : Prop := isMap s m (C 101) (C 102) M ∧ C 91 10 = mE M ∧ (∀ i, i < m → C 103 i = mF M i ∧ C 104 i = mL M i) ∧ (∀ j, j ≤ mE M → SR C M j) ∧ GKn C M (mE M + 1) 0
theorem g_maps {n : Nat} {C : Cn} {m : Nat} {Q : Int → Cn → Prop} (hn : 320 ≤ n) (hm : C 91 0 = m) (g : gd (tb C 93 m) m)
    (h : ∀ (C2 : Cn) (M : Mp), (∀ b t, b < 101 ∨ 137 < b → ¬ (b = 91 ∧ (t = 10 ∨ t = 18)) → C2 b t = C b t) → GM C2 (tb C 93 m) m M → Q 0 C2) : P_G_maps n C 91 Q := by
  have sg := g.sg
  have m6 := g.1
  refine g_maps1 hn (m := (m : Int)) sg hm (fun C2 C3 a1 a2 a3 a4 a5 a6 a7 => ?_)
  have e1 : (((C2 91 10).toNat : Nat) : Int) = C2 91 10 := by omega
  -- the map
  generalize hM : ((m, (C2 91 10).toNat, (fun i => if i < m then (C2 103 i).toNat else 0), (fun i => if i < m then (C2 104 i).toNat else 0), fun (a b : Nat) => cOv (tb C 93 m) (a : Int) (b : Int)) : Mp) = M
  have mE' : ((mE M : Nat) : Int) = C2 91 10 := by rw [← hM]; exact e1
  have mF' : ∀ i, i < m → mF M i = (C2 103 i).toNat ∧ mL M i = (C2 104 i).toNat := by
    intro i hi
    rw [← hM]
    exact ⟨if_pos hi, if_pos hi⟩
  have mm' : mm M = m := by rw [← hM]; rfl
  have isM : isMap (tb C 93 m) m (C2 101) (C2 102) M := by
    refine ⟨mm', by rw [← hM], ?_, by omega, fun i hi => ?_, fun i hi => ?_⟩
    · rw [mE']
      exact a5.iff (fun k => tb_sK k)
    · obtain ⟨⟨x1, x2, x3⟩, y1, y2, y3⟩ := a6 (i : Int) (by omega) (by omega)
      rw [Int.toNat_natCast] at x1 x2 x3 y1 y2 y3
      obtain ⟨f1, f2⟩ := mF' i hi
      rw [f1, f2, (tb_fK hi).1, (tb_fK hi).2]
      refine ⟨⟨by omega, x3⟩, ⟨by omega, y3⟩⟩
    · rw [← hM]
      exact ⟨if_neg (by omega), if_neg (by omega)⟩
  have ok := g.ok isM
  have mF2 : ∀ i, i < m → C2 103 i = mF M i ∧ C2 104 i = mL M i := by
    intro i hi
    obtain ⟨⟨x1, x2, x3⟩, y1, y2, y3⟩ := a6 (i : Int) (by omega) (by omega)
    rw [Int.toNat_natCast] at x1 x2 x3 y1 y2 y3
    obtain ⟨f1, f2⟩ := mF' i hi
    rw [f1, f2]
    exact ⟨by omega, by omega⟩
  have e12 := ok.e
  refine lp_rule (fun (z : Cn × Int) => ∃ j : Nat, j ≤ mE M + 1 ∧ z.2 = (j : Int) ∧ (∀ b t, b < 105 ∨ 137 < b → ¬ (b = 91 ∧ t = 18) → z.1 b t = C2 b t) ∧ (∀ i, i < j → SR z.1 M i) ∧ GKn z.1 M j 0) (fun z => (20 - z.2).toNat) ?_ (C3, 0) ⟨0, by omega, rfl, fun b t _ hb => by dsimp only; rw [a7, wr_ne hb], fun i hi => absurd hi (Nat.not_lt_zero i), ?_⟩
  · rintro ⟨D, v1⟩ ⟨j, z0, z1, z2, z3, z4⟩ K hK
    dsimp only at z1 z2 z3 z4
    subst z1
    have segD : ∀ i, i < m → ∀ f, D (93 + i) f = C (93 + i) f := fun i hi f => by
      rw [z2 _ _ (by omega) (by omega), a1 _ _ (by omega) (by omega) (by omega) (by omega) (by omega)]
    unfold B_G_maps_136
    simp only [gS hn, Int.reduceToNat, true_and]
    rw [z2 91 10 (by omega) (by omega), ← mE']
    refine ⟨fun q => ?_, fun q => ?_⟩
    · have ej : j = mE M + 1 := by omega
      subst ej
      refine h D M (fun b t hb hb2 => ?_) ⟨?_, ?_, fun i hi => ?_, fun i hi => z3 i (by omega), z4⟩
      · rw [z2 b t (by omega) (by omega), a1 b t (by omega) (by omega) (by omega) (by omega) (by omega)]
      · have x1 : D 101 = C2 101 := by
          funext t
          exact z2 _ _ (by omega) (by omega)
        have x2 : D 102 = C2 102 := by
          funext t
          exact z2 _ _ (by omega) (by omega)
        rw [x1, x2]
        exact isM
      · rw [z2 91 10 (by omega) (by omega), mE']
      · rw [z2 _ _ (by omega) (by omega), z2 _ _ (by omega) (by omega)]
        exact mF2 i hi
    · refine g_sorts hn (by omega) ok.m ?_ (fun i hi => ?_) (fun i hi => ?_) (fun a b ha hb => ?_) (fun C10 c1 c2 c3 c4 => ?_)
      · rw [z2 91 0 (by omega) (by omega), a2, mm']
      · rw [mm'] at hi
        rw [z2 _ _ (by omega) (by omega), z2 _ _ (by omega) (by omega)]
        exact mF2 i hi
      · rw [mm'] at hi
        refine ⟨⟨(gR92 hn (by omega)).2.1, by rw [Int.toNat_natCast, (lay92 i (by omega)).1]⟩, ?_⟩
        have x := (g.2.1 i hi).1
        rw [tb_cB hi] at x
        unfold cB at x
        simp only [Int.toNat_natCast] at x ⊢
        rw [segD i hi, segD i hi, segD i hi, segD i hi]
        exact x
      · rw [mm'] at ha hb
        rw [isM.o, tb_cOv ha hb]
        exact cOv_congr (segD a ha) (segD b hb)
      · refine g_fields hn ok (by omega) (fun i hi => ?_) ?_ (fun C14 d1 d2 => ?_)
        · by_cases e : i = j
          · subst e
            exact ⟨c3, c4⟩
          · exact (z3 i (by omega)).congr (fun t => c1 _ _ (by omega) (by omega)) (c2 _ e)
        · obtain ⟨k1, k2, k3, k4⟩ := z4
          refine ⟨by rw [c1 _ _ (by omega) (by omega)]; exact k1, fun i t hb => by rw [c1 _ _ (by omega) (by omega)]; exact k2 i t hb, fun i t hb hw => ?_, fun f hf => by rw [c1 _ _ (by omega) (by omega)]; exact k4 f hf⟩
          rw [c1 _ _ (by omega) (by omega), c1 _ _ (by omega) (by omega), c1 _ _ (by omega) (by omega)]
          exact k3 i t hb hw
        · rw [w32_n (by omega)]
          refine hK _ ⟨j + 1, by omega, rfl, fun b t hb hb2 => ?_, fun i hi => ?_, d2⟩ (by dsimp only; omega)
          · dsimp only
            rw [d1 b t (by omega) hb2, c1 b t (by omega) (by omega), z2 b t hb hb2]
          · dsimp only
            by_cases e : i = j
            · subst e
              exact SR.congr ⟨c3, c4⟩ (fun t => d1 _ _ (by omega) (by omega)) (d1 _ _ (by omega) (by omega))
            · refine (z3 i (by omega)).congr (fun t => ?_) ?_
              · rw [d1 _ _ (by omega) (by omega), c1 _ _ (by omega) (by omega)]
              · rw [d1 _ _ (by omega) (by omega), c2 _ e]
  · dsimp only
    refine ⟨by rw [a7, wr_same]; rfl, fun i t hb => ?_, fun i t hb => ?_, fun f hf => absurd hf (Nat.not_lt_zero f)⟩
    · have := hb.2
      omega
    · have := hb.2
      omega
