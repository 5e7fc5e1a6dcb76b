/-! my own: what the blame is -/
theorem f_allows {n m w : Nat} {C : Cn} {s v4 : Int} {Q : Int → Cn → Prop} (hf : 91 ≤ n) (m6 : m ≤ 6) (hm : C 2 1 = m) (wi : ∀ i, i < m → wb n C ((4 + i : Nat) : Int)) (ww : wb n C (w : Int)) (h4 : v4 = 0 ∨ v4 = 1)
    (h1 : (∀ i, i < m → (i : Int) ≠ s → cAp C ((4 + i : Nat) : Int) (w : Int)) → Q 1 C)
    (h0 : ∀ i, i < m → (i : Int) ≠ s → ¬ cAp C ((4 + i : Nat) : Int) (w : Int) → (∀ j, j < i → (j : Int) ≠ s → cAp C ((4 + j : Nat) : Int) (w : Int)) → ∀ D : Cn, (∀ b t, ¬ (b = 71 ∧ t < 3) → D b t = C b t) → D 71 0 = (if cTo C ((4 + i : Nat) : Int) (w : Int) then 1 else 2) → D 71 1 = (i : Int) → D 71 2 = v4 → Q 0 D) : P_Bl_allows n C 71 2 s (w : Int) v4 Q := by
  unfold P_Bl_allows
  refine lp_rule (fun (z : Int) => ∃ k : Nat, k ≤ m ∧ z = (k : Int) ∧ ∀ j, j < k → (j : Int) ≠ s → cAp C ((4 + j : Nat) : Int) (w : Int)) (fun z => (20 - z).toNat) ?_ 0 ⟨0, by omega, rfl, fun j hj => absurd hj (Nat.not_lt_zero j)⟩
  rintro v5 ⟨k, z0, rfl, z2⟩ K hK
  unfold B_Bl_allows_3 J_Bl_allows_32 J_Bl_allows_52
  simp only [fS hf, Int.reduceToNat, Int.toNat_natCast, true_and, hm]
  refine ⟨fun q => h1 (fun i hi => z2 i (by omega)), fun q => ⟨fun e => ?_, fun e => ?_⟩⟩
  · rw [w32_n (by omega)]
    refine hK _ ⟨k + 1, by omega, rfl, fun j hj hs => ?_⟩ (by omega)
    exact z2 j (by omega) hs
  · have hk : k < m := by omega
    have r := f3R hf (by omega : k < 6)
    simp only [r, true_and]
    refine ⟨by omega, f_isApartFrom (wi k hk) ww (bI_br (fun q2 => ⟨by omega, f_touches (wi k hk) ww ?_⟩) (fun q2 => ?_))⟩
    · intro C1 c1 C2 c2
      refine ⟨h4, fun C3 c3 => ?_⟩
      refine h0 k hk e q2 z2 C3 (fun b t hb => by rw [c3, wr_ne (by omega), c2, wr_ne (by omega), c1, wr_ne (by omega)]) ?_ ?_ ?_
      · rw [c3, wr_ne (by omega), c2, wr_ne (by omega), c1, wr_same]
        by_cases q3 : cTo C ((4 + k : Nat) : Int) (w : Int)
        · rw [bI_t q3, if_pos q3, if_neg (by decide)]
        · rw [bI_f q3, if_neg q3, if_pos rfl]
      · rw [c3, wr_ne (by omega), c2, wr_same]
      · rw [c3, wr_same]
    · rw [w32_n (by omega)]
      refine hK _ ⟨k + 1, by omega, rfl, fun j hj hs => ?_⟩ (by omega)
      by_cases ej : j = k
      · rw [ej]
        exact q2
      · exact z2 j (by omega) hs
theorem g_stands {n m w : Nat} {C : Cn} {s v3 : Int} {Q : Int → Cn → Prop} (hn : 320 ≤ n) (m6 : m ≤ 6) (hm : C 91 0 = m) (gi : ∀ i, i < m → gb n C ((93 + i : Nat) : Int)) (gw : gb n C (w : Int)) (h4 : v3 = 0 ∨ v3 = 1)
    (h1 : (∀ i, i < m → (i : Int) ≠ s → cAg C (w : Int) ((93 + i : Nat) : Int)) → Q 1 C)
    (h0 : ∀ i, i < m → (i : Int) ≠ s → ¬ cAg C (w : Int) ((93 + i : Nat) : Int) → (∀ j, j < i → (j : Int) ≠ s → cAg C (w : Int) ((93 + j : Nat) : Int)) → ∀ D : Cn, (∀ b t, ¬ (b = 91 ∧ 6 ≤ t ∧ t ≤ 8) → D b t = C b t) → D 91 6 = (if cTo C ((93 + i : Nat) : Int) (w : Int) then 1 else 2) → D 91 7 = (i : Int) → D 91 8 = v3 → Q 0 D) : P_G_stands n C 91 (w : Int) s v3 Q := by
  unfold P_G_stands
  refine lp_rule (fun (z : Int) => ∃ k : Nat, k ≤ m ∧ z = (k : Int) ∧ ∀ j, j < k → (j : Int) ≠ s → cAg C (w : Int) ((93 + j : Nat) : Int)) (fun z => (20 - z).toNat) ?_ 0 ⟨0, by omega, rfl, fun j hj => absurd hj (Nat.not_lt_zero j)⟩
  rintro v5 ⟨k, z0, rfl, z2⟩ K hK
  unfold B_G_stands_3 J_G_stands_35 J_G_stands_55 J_G_stands_74
  simp only [gS hn, Int.reduceToNat, Int.toNat_natCast, true_and, hm]
  refine ⟨fun q => h1 (fun i hi => z2 i (by omega)), fun q => ⟨fun e => ?_, fun e => ?_⟩⟩
  · rw [w32_n (by omega)]
    refine hK _ ⟨k + 1, by omega, rfl, fun j hj hs => ?_⟩ (by omega)
    exact z2 j (by omega) hs
  · have hk : k < m := by omega
    have r := gR92 hn (by omega : k < 6)
    simp only [r]
    haveI dec : Decidable (cAg C (w : Int) ((93 + k : Nat) : Int)) := Classical.propDecidable _
    refine ⟨by omega, g_areApart gw (gi k hk) (bI_br (fun q2 => ⟨by omega, g_hasEndOn gw (gi k hk) ?_⟩) (fun q2 => ?_))⟩
    · intro C1 c1 C2 c2 C3 c3
      refine h0 k hk e q2 z2 C3 (fun b t hb => by rw [c3, wr_ne (by omega), c2, wr_ne (by omega), c1, wr_ne (by omega)]) ?_ ?_ ?_
      · rw [c3, wr_ne (by omega), c2, wr_ne (by omega), c1, wr_same]
        by_cases q3 : cTo C ((93 + k : Nat) : Int) (w : Int)
        · rw [bI_t q3, if_pos q3, if_neg (by decide)]
        · rw [bI_f q3, if_neg q3, if_pos rfl]
      · rw [c3, wr_ne (by omega), c2, wr_same]
      · rw [c3, wr_same]
        rcases h4 with e4 | e4
        · rw [e4]
          rfl
        · rw [e4]
          rfl
    · rw [w32_n (by omega)]
      refine hK _ ⟨k + 1, by omega, rfl, fun j hj hs => ?_⟩ (by omega)
      by_cases ej : j = k
      · rw [ej]
        exact q2
      · exact z2 j (by omega) hs
/-- apart, on both sides -/
theorem cApK_tr {C D : Cn} {a b c d : Nat} (h1 : ∀ f, 2 ≤ f → f ≤ 5 → D c f = C a f) (h2 : ∀ f, 2 ≤ f → f ≤ 5 → D d f = C b f) : cApK D (c : Int) (d : Int) ↔ cApK C (a : Int) (b : Int) := by
  unfold cApK fK lK
  simp only [Int.toNat_natCast, h1 2 (by omega) (by omega), h1 3 (by omega) (by omega), h1 4 (by omega) (by omega), h1 5 (by omega) (by omega), h2 2 (by omega) (by omega), h2 3 (by omega) (by omega), h2 4 (by omega) (by omega), h2 5 (by omega) (by omega)]
