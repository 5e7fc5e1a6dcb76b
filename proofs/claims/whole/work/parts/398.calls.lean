/-! my own: the reference's items, done -/
theorem RG.congr {C D : Cn} {T : Nat → Int} {L p : Nat} (h : RG C T L p) (g : ∀ b t, (b = 91 ∧ 38 ≤ t ∧ t ≤ 43) ∨ b = 302 → D b t = C b t) : RG D T L p := ⟨h.1, h.2.1.congr (fun b t hb => g b t (by omega)), h.2.2.1.congr (fun t _ _ => g _ _ (by omega)), by rw [g _ _ (by omega)]; exact h.2.2.2⟩
theorem lay_hi {n : Nat} (h : 320 ≤ n) : LAY n = (19, 6) := by
  have e : LAYL.length = 320 := by decide +kernel
  unfold LAY
  rw [List.getD_eq_getElem?_getD, List.getElem?_eq_none (by omega)]
  rfl
theorem g_kindHere {n p L : Nat} {C : Cn} {T : Nat → Int} {Q : Int → Cn → Nat → Prop} (hn : 320 ≤ n) (rg : RG C T L p) (h1 : kwd T L p < 6 → ∀ C2 : Cn, (∀ b t, b ≠ n → C2 b t = C b t) → Q ((kwd T L p : Nat) : Int) C2 (n + 1)) (h0 : kwd T L p = 6 → ∀ C2 : Cn, (∀ b t, b ≠ n → C2 b t = C b t) → Q (-1) C2 (n + 1)) : P_G_kindHere n C 91 Q := by
  have ly := lay_hi hn
  have o19 : okO (n + 1) ((n : Nat) : Int) 19 := ⟨by omega, by omega, by rw [Int.toNat_natCast, ly]⟩
  have oI : ∀ v : Int, okI ((n : Nat) : Int) v ↔ (0 ≤ v ∧ v < 6) := fun v => by
    unfold okI
    rw [Int.toNat_natCast, ly]
    exact Iff.rfl
  have l2 : (((LAY n).2 : Nat) : Int) = 6 := by rw [ly]; rfl
  unfold P_G_kindHere N0
  simp only [o19, oI, Int.toNat_natCast, true_and, ly]
  refine ⟨hn, by decide, by decide, by decide, fun C7 c7 => ⟨by decide, by decide, by decide, fun C11 c11 => ⟨by decide, by decide, by decide, fun C15 c15 => ⟨by decide, by decide, by decide, fun C19 c19 => ⟨by decide, by decide, by decide, fun C23 c23 => ⟨by decide, by decide, by decide, fun C27 c27 => ?_⟩⟩⟩⟩⟩⟩
  have o : ∀ b t, b ≠ n → C27 b t = C b t := fun b t hb => by rw [c27, wr_ne (by omega), c23, wr_ne (by omega), c19, wr_ne (by omega), c15, wr_ne (by omega), c11, wr_ne (by omega), c7, wr_ne (by omega)]
  have v : ∀ k : Nat, k < 6 → C27 n k = ((k + 1 : Nat) : Int) := by
    intro k hk
    have : k = 0 ∨ k = 1 ∨ k = 2 ∨ k = 3 ∨ k = 4 ∨ k = 5 := by omega
    rcases this with rfl | rfl | rfl | rfl | rfl | rfl
    · rw [c27, wr_ne (by omega), c23, wr_ne (by omega), c19, wr_ne (by omega), c15, wr_ne (by omega), c11, wr_ne (by omega), c7, wr_same]
      rfl
    · rw [c27, wr_ne (by omega), c23, wr_ne (by omega), c19, wr_ne (by omega), c15, wr_ne (by omega), c11, wr_same]
      rfl
    · rw [c27, wr_ne (by omega), c23, wr_ne (by omega), c19, wr_ne (by omega), c15, wr_same]
      rfl
    · rw [c27, wr_ne (by omega), c23, wr_ne (by omega), c19, wr_same]
      rfl
    · rw [c27, wr_ne (by omega), c23, wr_same]
      rfl
    · rw [c27, wr_same]
      rfl
  clear c7 c11 c15 c19 c23 c27
  have rg2 : RG C27 T L p := rg.congr (fun b t hb => o b t (by omega))
  refine lp_rule (fun (z : Int) => ∃ k : Nat, k ≤ 6 ∧ z = (k : Int) ∧ ∀ i, i < k → ¬ wdP T L p (i + 1)) (fun z => (20 - z).toNat) ?_ 0 ⟨0, by omega, rfl, fun i hi => absurd hi (Nat.not_lt_zero i)⟩
  rintro v2 ⟨k, z0, rfl, z2⟩ K hK
  unfold B_G_kindHere_44
  simp only [o19, oI, Int.toNat_natCast, true_and, l2, gS (by omega : 320 ≤ n + 1)]
  refine ⟨fun q => ⟨by decide, by decide, h0 (fnd_eq (Nat.le_refl _) (fun w => by omega) (fun i hi => z2 i (by omega))) C27 o⟩, fun q => ⟨by omega, by decide, by decide, ?_⟩⟩
  rw [v k (by omega)]
  refine g_isWord (w := k + 1) (by omega : 320 ≤ n + 1) rg2 (by omega) (fun y => ⟨fun x => absurd x (by decide), fun _ => ?_⟩) (fun y => ⟨fun _ => ?_, fun x => absurd rfl x⟩)
  · have e : kwd T L p = k := fnd_eq (by omega) (fun _ => y) z2
    have hh := h1 (by omega) C27 o
    rw [e] at hh
    exact hh
  · rw [w32_n (by omega)]
    refine hK _ ⟨k + 1, by omega, rfl, fun i hi => ?_⟩ (by omega)
    by_cases ei : i = k
    · rw [ei]
      exact y
    · exact z2 i (by omega)
def frX (n : Nat) (C C2 : Cn) : Prop := ∀ b t, ¬ (b = 91 ∧ 39 ≤ t ∧ t ≤ 43) → b ≠ n → C2 b t = C b t
theorem g_item {n p L k : Nat} {C : Cn} {T : Nat → Int} {Q : Int → Cn → Nat → Prop} (hn : 320 ≤ n) (rg : RG C T L p) (hk : C 91 0 = (k : Int))
    (H0 : ∀ (f : Nat) (C2 : Cn), pit T L k p = (0, f, fun _ => 0) → frX n C C2 → C2 91 43 = (f : Int) → Q 0 C2 (n + 1))
    (H1 : ∀ (p2 : Nat) (y : Nat → Int) (C2 : Cn), pit T L k p = (1, p2, y) → (∀ b t, ¬ (b = 91 ∧ t = 2) → ¬ (b = 91 ∧ 39 ≤ t ∧ t ≤ 43) → b ≠ n → C2 b t = C b t) → C2 91 2 = y 0 → RG C2 T L p2 → Q 0 C2 (n + 1))
    (H2 : ∀ (q : Nat) (y : Nat → Int) (C2 : Cn), pit T L k p = (2, q, y) → k < 6 → (0 ≤ y 0 ∧ y 0 < 6) → (0 ≤ y 1 ∧ y 1 < 10) → (bd (y 2) ∧ bd (y 3)) → (bd (y 4) ∧ bd (y 5)) → frX n C C2 → RG C2 T L q → J_G_segmentText_105 (n + 1) C2 91 (y 0) (y 1) (y 2) (y 3) (y 4) (y 5) 91 (if y 2 = y 4 then (if y 3 = y 5 then 0 else 1) else 1) (fun (_ : Int) (C_19 : Cn) => Q 0 C_19 (n + 1))) : P_G_itemText n C 91 Q := by
  have hn1 : 320 ≤ n + 1 := by omega
  have o91 : okO (n + 1) 91 10 := (gS hn1).1
  have X : ∀ D E : Cn, (∀ b t, b ≠ n → D b t = C b t) → frT D E → frX n C E := fun D E d e b t h1 h2 => by rw [e b t h1, d b t h2]
  unfold P_G_itemText
  simp only [gS hn, gS hn1, true_and]
  refine g_kindHere hn rg (fun kw D d => ⟨fun x => absurd x (by omega), fun _ => ?_⟩) (fun kw D d => ⟨fun _ => ?_, fun x => absurd (by decide) x⟩)
  · have rD : RG D T L p := rg.congr (fun b t hb => d b t (by omega))
    have n10 : ¬ wdP T L p 10 := fun w => by have := kwd_10 w; omega
    have hr : pit T L k p = cit (k < 6) (cit (wdP T L (tkE T L p) 7) (cit (nuP T L (tkE T L (tkE T L p)) 9) (psg T L (kwd T L p : Nat) (tkV T L (tkE T L (tkE T L p))) (tkE T L (tkE T L (tkE T L p)))) (0, tkS T L (tkE T L (tkE T L p)), fun _ => 0)) (psg T L (kwd T L p : Nat) 0 (tkE T L p))) (0, tkS T L p, fun _ => 0) := by
      unfold pit
      rw [cit_f n10]
      by_cases k6 : k < 6
      · rw [cit_t ⟨kw, k6⟩, cit_t k6]
      · rw [cit_f (fun w => k6 w.2), cit_f k6]
    refine ⟨o91, g_segT (Q := fun (_ : Int) (C_19 : Cn) => Q 0 C_19 (n + 1)) hn1 rD (by rw [d _ _ (by omega), hk]) hr (fun f E e1 e2 e3 => H0 f E e1 (X D E d e2) e3) (fun q y E e1 k6 e2 e3 e4 e5 e6 e7 => ?_)⟩
    have hh := H2 q y E e1 k6 (by rw [e2]; omega) e3 e4 e5 (X D E d e6) e7
    rw [e2] at hh
    exact hh
  · have rD : RG D T L p := rg.congr (fun b t hb => d b t (by omega))
    refine ⟨o91, g_word (w := 10) hn1 rD (by omega) (fun y10 E f1 r1 => ?_) (fun y10 E f1 e1 => ?_)⟩
    · refine g_num hn1 r1 (fun y F f2 r2 => ?_) (fun y F f2 e2 r => ?_)
      · have E1 : pit T L k p = (1, tkE T L (tkE T L p), fun _ => tkV T L (tkE T L p)) := by
          unfold pit
          rw [cit_t y10, cit_t y]
        simp only [Int.reduceToNat]
        rw [r2.2.2.2]
        refine ⟨fun x => absurd x (by decide), fun _ G g => ?_⟩
        have fr := X D F d (f1.tr f2)
        exact H1 _ _ G E1 (fun b t h1 h2 h3 => by rw [g, wr_ne h1, fr b t h2 h3]) (by rw [g, wr_same]) (r2.congr (fun b t hb => by rw [g, wr_ne (by omega)]))
      · have E1 : pit T L k p = (0, tkS T L (tkE T L p), fun _ => 0) := by
          unfold pit
          rw [cit_t y10, cit_f y]
        have fa : 0 ≤ F 91 43 := by rw [e2]; omega
        simp only [Int.reduceToNat]
        exact ⟨fun _ => H0 _ F E1 (X D F d (f1.tr f2)) e2, fun x => absurd fa x⟩
    · have E1 : pit T L k p = (0, tkS T L p, fun _ => 0) := by
        unfold pit
        rw [cit_f y10, cit_f (fun w => by omega)]
      have fa : 0 ≤ E 91 43 := by rw [e1]; omega
      refine g_num0 hn1 fa (fun r => ?_)
      simp only [Int.reduceToNat]
      exact ⟨fun _ => H0 _ E E1 (X D E d f1) e1, fun x => absurd fa x⟩
theorem g_105 {n q L k : Nat} {C D : Cn} {T : Nat → Int} {y : Nat → Int} {Q : Int → Cn → Prop} (hn : 320 ≤ n) (rg : RG C T L q) (k6 : k < 6) (hk : C 91 0 = (k : Int)) (g : gd (tb D 4 k) k) (rows : ∀ i, i < k → ∀ f, f < 6 → C (93 + i) f = D (4 + i) f) (y0 : 0 ≤ y 0 ∧ y 0 < 6) (y1 : 0 ≤ y 1 ∧ y 1 < 10) (V1 : bd (y 2) ∧ bd (y 3)) (V2 : bd (y 4) ∧ bd (y 5))
    (hs : (y 2 = y 4 ∧ y 3 = y 5) → ∀ C2 : Cn, frT C C2 → C2 91 43 = ((tkS T L q : Nat) : Int) → Q 0 C2)
    (hb : ¬ (y 2 = y 4 ∧ y 3 = y 5) → ∀ i : Nat, i < k → ¬ cApK (tbW D k y) (i : Int) (k : Int) → (∀ j : Nat, j < i → cApK (tbW D k y) (j : Int) (k : Int)) → ∀ C2 : Cn, (∀ b t, b ≠ 100 → ¬ (b = 91 ∧ 6 ≤ t ∧ t ≤ 8) → ¬ (b = 91 ∧ 39 ≤ t ∧ t ≤ 43) → C2 b t = C b t) → C2 91 6 = (if cTo (tbW D k y) (i : Int) (k : Int) then 1 else 2) → C2 91 7 = (i : Int) → C2 91 8 = 1 → C2 91 43 = ((tkS T L q : Nat) : Int) → Q 0 C2)
    (ha : ¬ (y 2 = y 4 ∧ y 3 = y 5) → (∀ i : Nat, i < k → cApK (tbW D k y) (i : Int) (k : Int)) → ∀ C2 : Cn, (∀ b t, b ≠ 100 → ¬ (b = 93 + k ∧ t < 6) → ¬ (b = 91 ∧ t = 0) → ¬ (b = 91 ∧ 39 ≤ t ∧ t ≤ 43) → C2 b t = C b t) → C2 91 0 = ((k + 1 : Nat) : Int) → (∀ f, f < 6 → C2 (93 + k) f = tbW D k y k f) → RG C2 T L (tkE T L q) → Q 0 C2) : J_G_segmentText_105 n C 91 (y 0) (y 1) (y 2) (y 3) (y 4) (y 5) 91 (if y 2 = y 4 then (if y 3 = y 5 then 0 else 1) else 1) Q := by
  unfold J_G_segmentText_105
  simp only [gS hn, Int.reduceToNat, true_and]
  by_cases sm : y 2 = y 4 ∧ y 3 = y 5
  · rw [if_pos sm.1, if_pos sm.2]
    refine g_must hn rg (fun e => absurd rfl e) (fun _ C2 f2 e2 => ?_)
    have fa : 0 ≤ C2 91 43 := by rw [e2]; omega
    exact ⟨fun x => absurd x (by omega), fun _ => hs sm C2 f2 e2⟩
  · have e1 : (if y 2 = y 4 then (if y 3 = y 5 then (0 : Int) else 1) else 1) = 1 := by
      by_cases a : y 2 = y 4
      · rw [if_pos a, if_neg (fun b => sm ⟨a, b⟩)]
      · rw [if_neg a]
    rw [e1]
    refine g_must hn rg (fun _ => ⟨fun _ => ?_, fun x => absurd (by rw [rg.2.2.2]; decide) x⟩) (fun e => absurd e (by decide))
    have l := ld_ok V1 V2 sm
    have km : w32 (w32 (10 * y 0) + y 1) = 10 * y 0 + y 1 := by rw [w32_id (x := 10 * y 0) (by omega) (by omega), w32_id (by omega) (by omega)]
    rw [km]
    clear km
    have o100 : okO n ((100 : Nat) : Int) 12 ∧ (∀ v : Int, okI ((100 : Nat) : Int) v ↔ (0 ≤ v ∧ v < 6)) := ⟨(gS hn).2.2.2.2.2.1, fun v => Iff.rfl⟩
    refine g_lays (a := 100) o100 (by omega) (fun E a1 a3 a4 a2 => ?_)
    have em : E 91 0 = (k : Int) := by rw [a1 _ _ (by omega), hk]
    have rE : RG E T L q := rg.congr (fun b t hb => a1 b t (by omega))
    have tr1 : ∀ i, i < k → ∀ f, 2 ≤ f → f ≤ 5 → E (93 + i) f = tbW D k y i f := fun i hi f _ _ => by rw [a1 _ _ (by omega), rows i hi f (by omega), tbW_lt hi]
    have tr2 : ∀ f, 2 ≤ f → f ≤ 5 → E 100 f = tbW D k y k f := fun f h1 h2 => by rw [a2 f h1 h2, tbW_w h1]
    have bi : ∀ i, i < k → bd (E (93 + i) 2) ∧ bd (E (93 + i) 3) ∧ bd (E (93 + i) 4) ∧ bd (E (93 + i) 5) := fun i hi => by
      have := g.bd4 hi
      rw [tb_lt hi, tb_lt hi, tb_lt hi, tb_lt hi] at this
      rw [a1 _ _ (by omega), a1 _ _ (by omega), a1 _ _ (by omega), a1 _ _ (by omega), rows i hi 2 (by omega), rows i hi 3 (by omega), rows i hi 4 (by omega), rows i hi 5 (by omega)]
      exact this
    have g100 : gb n E ((100 : Nat) : Int) := ⟨⟨o100.1, rfl⟩, by
      rw [Int.toNat_natCast, a2 2 (by omega) (by omega), a2 3 (by omega) (by omega), a2 4 (by omega) (by omega), a2 5 (by omega) (by omega)]
      exact l.1⟩
    have gi : ∀ i, i < k → gb n E ((93 + i : Nat) : Int) := fun i hi => ⟨⟨(gR92 hn (by omega)).2.1, by rw [Int.toNat_natCast, (lay92 i (by omega)).1]⟩, by
      rw [Int.toNat_natCast]
      exact bi i hi⟩
    have ap : ∀ i, i < k → (cAg E ((100 : Nat) : Int) ((93 + i : Nat) : Int) ↔ cApK (tbW D k y) (i : Int) (k : Int)) := fun i hi => by
      have t1 : fK E ((100 : Nat) : Int) < lK E ((100 : Nat) : Int) := by
        unfold fK lK
        simp only [Int.toNat_natCast]
        rw [a2 2 (by omega) (by omega), a2 3 (by omega) (by omega), a2 4 (by omega) (by omega), a2 5 (by omega) (by omega)]
        exact l.2
      have t2 : fK E ((93 + i : Nat) : Int) < lK E ((93 + i : Nat) : Int) := by
        have := (g.2.1 i hi).2
        unfold fK lK at this ⊢
        simp only [Int.toNat_natCast, tb_lt hi] at this ⊢
        rw [a1 _ _ (by omega), a1 _ _ (by omega), a1 _ _ (by omega), a1 _ _ (by omega), rows i hi 2 (by omega), rows i hi 3 (by omega), rows i hi 4 (by omega), rows i hi 5 (by omega)]
        exact this
      rw [cAg_K g100.2 (gi i hi).2 t1 t2, cApK_sym]
      exact cApK_tr (tr1 i hi) tr2
    have to : ∀ i, i < k → (cTo E ((93 + i : Nat) : Int) ((100 : Nat) : Int) ↔ cTo (tbW D k y) (i : Int) (k : Int)) := fun i hi => cTo_tr (tr1 i hi) tr2
    refine g_stands (w := 100) hn (by omega) em gi g100 (Or.inr rfl) (fun al => ?_) (fun i hi _ na al F f1 f2 f3 f4 => ?_)
    · refine g_must hn rE (fun _ => ⟨fun _ => ?_, fun x => absurd (by rw [rE.2.2.2]; decide) x⟩) (fun e => absurd e (by decide))
      have ga := gR92 hn (by omega : k < 6)
      rw [em, Int.toNat_natCast, ga.1]
      refine ⟨by omega, ?_⟩
      refine g_copies (a := 100) (b := 93 + k) o100 ga.2 (by omega) (fun G c1 c2 => ?_)
      intro G2 d2
      have gk : G 91 0 = (k : Int) := by rw [c1 _ _ (by omega), em]
      rw [gk, w32_n (by omega)] at d2
      have rG : RG G2 T L q := rE.congr (fun b t hb => by rw [d2, wr_ne (by omega), c1 b t (by omega)])
      refine g_passes hn rG (fun G3 f3 r3 => ha sm (fun i hi => (ap i hi).mp (al i hi (by omega))) G3 (fun b t h1 h2 h3 h4 => ?_) ?_ (fun f hf6 => ?_) r3)
      · rw [f3 b t h4, d2, wr_ne h3, c1 b t h2, a1 b t (by omega)]
      · rw [f3 _ _ (by omega), d2, wr_same]
      · rw [f3 _ _ (by omega), d2, wr_ne (by omega), c2 f hf6]
        by_cases ef : 2 ≤ f
        · exact tr2 f ef (by omega)
        · have : f = 0 ∨ f = 1 := by omega
          rcases this with rfl | rfl
          · rw [a3, tbW_0]
            omega
          · rw [a4, tbW_1]
            omega
    · have rF : RG F T L q := rE.congr (fun b t hb => f1 b t (by omega))
      refine g_must hn rF (fun e => absurd rfl e) (fun _ G g1 g2 => ?_)
      have fa : 0 ≤ G 91 43 := by rw [g2]; omega
      refine ⟨fun x => absurd x (by omega), fun _ => hb sm i hi (fun w => na ((ap i hi).mpr w)) (fun j hj => (ap j (by omega)).mp (al j hj (by omega))) G (fun b t h1 h2 h3 => ?_) ?_ ?_ ?_ g2⟩
      · rw [g1 b t h3, f1 b t h2, a1 b t (by omega)]
      · rw [g1 _ _ (by omega), f2]
        by_cases w : cTo (tbW D k y) (i : Int) (k : Int)
        · rw [if_pos ((to i hi).mpr w), if_pos w]
        · rw [if_neg (fun w2 => w ((to i hi).mp w2)), if_neg w]
      · rw [g1 _ _ (by omega), f3]
      · rw [g1 _ _ (by omega), f4]
