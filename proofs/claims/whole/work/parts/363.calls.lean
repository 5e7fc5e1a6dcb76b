/-! my own: sheets -/
theorem fR77 {n i : Nat} (hn : 91 ≤ n) (hi : i < 4) : PT 77 i = ((83 + 2 * i : Nat) : Int) ∧ okO n ((83 + 2 * i : Nat) : Int) 5 ∧ PT (83 + 2 * i) 2 = ((84 + 2 * i : Nat) : Int) ∧ okO n ((84 + 2 * i : Nat) : Int) 13 ∧ (∀ v : Int, okI ((84 + 2 * i : Nat) : Int) v ↔ (0 ≤ v ∧ v < 40)) := by
  have h := lay77 i hi
  refine ⟨h.2.2.1, ⟨by omega, by omega, by rw [Int.toNat_natCast, h.1]⟩, h.2.2.2, ⟨by omega, by omega, by rw [Int.toNat_natCast, h.2.1]⟩, fun v => ?_⟩
  unfold okI
  rw [Int.toNat_natCast, h.2.1]
  exact Iff.rfl
theorem g_isSheet {n : Nat} {C : Cn} {v : Int} {Q : Int → Prop} (h : Q (bI (0 ≤ v ∧ v ≤ 3))) : P_G_isSheet n C v Q := g_in ⟨bI_or, h⟩
def why (C : Cn) (v1 v2 : Int) : Int := if 0 ≤ v1 ∧ v1 ≤ 3 then (if 0 ≤ C 303 v1.toNat then (if 0 ≤ v2 ∧ v2 < C 304 v1.toNat then -1 else 0) else 5) else 0
theorem g_whyNot {n : Nat} {C : Cn} {v1 v2 : Int} {Q : Int → Prop} (hn : 320 ≤ n) (e0 : ∀ s, s < 4 → 0 ≤ C 304 s ∧ C 304 s ≤ 40) (h : Q (why C v1 v2)) : P_G_whyNot n C 91 v1 v2 Q := by
  unfold P_G_whyNot J_G_whyNot_47
  refine g_isSheet (bI_br (fun q => ?_) (fun q => ?_))
  · exact use_Q h (by unfold why; rw [if_neg q])
  · have e1 := e0 v1.toNat (by omega)
    simp only [gS hn, Int.reduceToNat, true_and]
    refine ⟨by omega, fun q2 => ⟨by omega, ?_⟩, fun q2 => ?_⟩
    · rw [w32_s (by omega)]
      refine g_in ?_
      have e2 : (if bI (0 ≤ v2 ∧ v2 ≤ C 304 v1.toNat - 1) = 0 then (0 : Int) else -1) = why C v1 v2 := by
        unfold why
        rw [if_pos q, if_pos q2]
        by_cases q3 : 0 ≤ v2 ∧ v2 < C 304 v1.toNat
        · rw [bI_t (by omega), if_pos q3]
          rfl
        · rw [bI_f (by omega), if_neg q3]
          rfl
      rw [e2]
      exact h
    · exact use_Q h (by unfold why; rw [if_pos q, if_neg q2])
theorem f_missing {n s : Nat} {C : Cn} {Q : Int → Prop} (hn : 91 ≤ n) (hs : s < 4) (h : Q (bI (C (83 + 2 * s) 0 < 0))) : P_Sh_isMissing n C ((83 + 2 * s : Nat) : Int) Q := by
  have r := fR77 hn hs
  unfold P_Sh_isMissing J_Sh_isMissing_12
  simp only [r, Int.toNat_natCast, true_and]
  have e : (if 0 ≤ C (83 + 2 * s) 0 then (0 : Int) else 1) = bI (C (83 + 2 * s) 0 < 0) := by
    unfold bI
    split <;> split <;> omega
  rw [e]
  exact ⟨bI_or, h⟩
theorem f_has {n s : Nat} {C : Cn} {v w : Int} {Q : Int → Prop} (hn : 91 ≤ n) (hs : s < 4) (i7 : I7 C) (h : Q (bI (0 ≤ v ∧ 0 ≤ w ∧ v + w ≤ C (83 + 2 * s) 1))) : P_Sh_has n C ((83 + 2 * s : Nat) : Int) v w Q := by
  have r := fR77 hn hs
  have e := (i7 s hs).2.2.2.1
  unfold P_Sh_has J_Sh_has_31
  simp only [r, Int.toNat_natCast, true_and]
  refine ⟨fun q => use_Q h (bI_f (by omega)), fun q => ⟨fun q2 => use_Q h (bI_f (by omega)), fun q2 => ?_⟩⟩
  have e2 : (if C (83 + 2 * s) 1 < v then (0 : Int) else (if w32 (C (83 + 2 * s) 1 - v) < w then 0 else 1)) = bI (0 ≤ v ∧ 0 ≤ w ∧ v + w ≤ C (83 + 2 * s) 1) := by
    by_cases q3 : C (83 + 2 * s) 1 < v
    · rw [if_pos q3, bI_f (by omega)]
    · rw [if_neg q3, w32_s (by omega)]
      by_cases q4 : C (83 + 2 * s) 1 - v < w
      · rw [if_pos q4, bI_f (by omega)]
      · rw [if_neg q4, bI_t (by omega)]
  rw [e2]
  exact ⟨bI_or, h⟩
theorem I7.le {C : Cn} (i7 : I7 C) : ∀ s, s < 4 → 0 ≤ C 304 s ∧ C 304 s ≤ 40 := by
  intro s hs
  have e := i7 s hs
  rw [e.2.2.1]
  exact e.2.2.2.1
theorem why_t {C C1 : Cn} {x : Int} {k : Nat} (v1 v2 : Int) (c1 : C1 = wr C 82 k x) : why C1 v1 v2 = why C v1 v2 := by
  unfold why
  rw [c1, wr_ne (by omega), wr_ne (by omega)]
theorem I7.t {C C1 : Cn} {x : Int} {k : Nat} (h : I7 C) (c1 : C1 = wr C 82 k x) : I7 C1 := h.congr (fun b t hb => by rw [c1, wr_ne (by omega)])
theorem c_write {n : Nat} {C : Cn} {v1 v2 v3 : Int} (hn : 320 ≤ n) (inv : Inv C) : P_F_write n C 1 v1 v2 v3 (fun r C1 => P_G_write n C1 91 v1 v2 v3 (fun r2 C2 => r = r2 ∧ Inv C2)) := by
  have hf : 91 ≤ n := by omega
  have inv' := inv
  obtain ⟨m, -, -, -, -, -, -, i7, -⟩ := inv'
  have T : ∀ k : Int, 0 ≤ k ∧ k < 8 → why C v1 v2 = k → P_F_tell n C 1 k (fun r C1 => P_G_write n C1 91 v1 v2 v3 (fun r2 C2 => r = r2 ∧ Inv C2)) := by
    intro k hk e
    refine f_tell hf hk (fun C1 c1 => ?_)
    unfold P_G_write
    simp only [gS hn, true_and]
    refine g_whyNot hn (i7.t c1).le ?_
    rw [why_t v1 v2 c1, e]
    exact ⟨fun q => absurd q (by omega), fun _ => both hn hk inv c1 (fun _ _ _ => rfl)⟩
  unfold P_F_write
  refine f_isSheet (bI_br (fun q => ?_) (fun q => ?_))
  · simp only [fS hf, true_and]
    exact T 0 (by decide) (by unfold why; rw [if_neg q])
  · obtain ⟨s, rfl⟩ : ∃ s : Nat, v1 = (s : Int) := ⟨v1.toNat, by omega⟩
    have hs : s < 4 := by omega
    have r := fR77 hf hs
    have g := gR305 hn hs
    obtain ⟨a1, a2, a3, a4, a5⟩ := i7 s hs
    simp only [fS hf, Int.reduceToNat, Int.toNat_natCast, r, true_and]
    refine ⟨by omega, f_missing hf hs (bI_br (fun q2 => ?_) (fun q2 => ?_))⟩
    · refine f_has hf hs i7 (bI_br (fun q3 => ?_) (fun q3 => ?_))
      · refine T 0 (by decide) ?_
        unfold why
        rw [if_pos q, Int.toNat_natCast, if_pos (by omega), if_neg (by omega)]
      · obtain ⟨i, rfl⟩ : ∃ i : Nat, v2 = (i : Int) := ⟨v2.toNat, by omega⟩
        have hi : i < 40 := by omega
        unfold P_Sh_put J_Sh_put_34
        simp only [Int.toNat_natCast, r, true_and]
        refine ⟨by omega, fun C2 c2 => ?_⟩
        unfold P_G_write
        simp only [gS hn, Int.reduceToNat, Int.toNat_natCast, g, true_and]
        have le2 : ∀ s, s < 4 → 0 ≤ C2 304 s ∧ C2 304 s ≤ 40 := fun s' hs' => by
          rw [c2, wr_ne (by omega)]
          exact i7.le s' hs'
        have f1 : C2 303 s = C (83 + 2 * s) 0 := by rw [c2, wr_ne (by omega), a1]
        have f2 : C2 304 s = C (83 + 2 * s) 1 := by rw [c2, wr_ne (by omega), a3]
        refine g_whyNot hn le2 ?_
        have e : why C2 (s : Int) (i : Int) = -1 := by
          unfold why
          rw [if_pos q, Int.toNat_natCast, f1, f2, if_pos (by omega), if_pos (by omega)]
        rw [e]
        refine ⟨fun _ => ⟨by omega, by omega, ⟨by omega, fun C3 c3 => ?_⟩⟩, fun w => absurd w (by decide)⟩
        rw [f1] at c3
        refine inv.up7 (fun b t hb hb2 => by rw [c3, wr_ne (by omega), c2, wr_ne (by omega)]) ?_
        clear le2 f1 f2 e
        intro s' hs'
        obtain ⟨b1, b2, b3, b4, b5⟩ := i7 s' hs'
        have k1 : ∀ x, C3 303 x = C 303 x := fun x => by rw [c3, wr_ne (by omega), c2, wr_ne (by omega)]
        have k2 : ∀ x, C3 304 x = C 304 x := fun x => by rw [c3, wr_ne (by omega), c2, wr_ne (by omega)]
        have k3 : ∀ x, C3 (83 + 2 * s') x = C (83 + 2 * s') x := fun x => by rw [c3, wr_ne (by omega), c2, wr_ne (by omega)]
        rw [k1, k2, k3, k3]
        refine ⟨b1, b2, b3, b4, fun i' hi' => ?_⟩
        by_cases e : s' = s ∧ i' = i
        · rw [e.1, e.2, c3, wr_same, wr_ne (by omega), c2, wr_same]
        · rw [c3, wr_ne (by omega), wr_ne (by omega), c2, wr_ne (by omega), wr_ne (by omega)]
          exact b5 i' hi'
    · refine T 5 (by decide) ?_
      unfold why
      rw [if_pos q, Int.toNat_natCast, if_neg (by omega)]
theorem c_item {n : Nat} {C : Cn} {v1 v2 : Int} (hn : 320 ≤ n) (inv : Inv C) : P_F_item n C 1 v1 v2 (fun r C1 => P_G_item n C1 91 v1 v2 (fun r2 C2 => r = r2 ∧ Inv C2)) := by
  have hf : 91 ≤ n := by omega
  have inv' := inv
  obtain ⟨m, -, -, -, -, -, -, i7, -⟩ := inv'
  have T : ∀ k : Int, 0 ≤ k ∧ k < 8 → why C v1 v2 = k → P_F_tellLong n C 1 k (fun r C1 => P_G_item n C1 91 v1 v2 (fun r2 C2 => r = r2 ∧ Inv C2)) := by
    intro k hk e
    refine f_tellLong hf hk (fun C1 c1 => ?_)
    unfold P_G_item
    simp only [gS hn, true_and]
    refine g_whyNot hn (i7.t c1).le ?_
    rw [why_t v1 v2 c1, e]
    exact ⟨fun q => absurd q (by omega), fun _ => bothL hn hk inv c1 (fun _ _ _ => rfl)⟩
  unfold P_F_item
  refine f_isSheet (bI_br (fun q => ?_) (fun q => ?_))
  · simp only [fS hf, true_and]
    exact T 0 (by decide) (by unfold why; rw [if_neg q])
  · obtain ⟨s, rfl⟩ : ∃ s : Nat, v1 = (s : Int) := ⟨v1.toNat, by omega⟩
    have hs : s < 4 := by omega
    have r := fR77 hf hs
    have g := gR305 hn hs
    obtain ⟨a1, a2, a3, a4, a5⟩ := i7 s hs
    simp only [fS hf, Int.reduceToNat, Int.toNat_natCast, r, true_and]
    refine ⟨by omega, f_missing hf hs (bI_br (fun q2 => ?_) (fun q2 => ?_))⟩
    · refine f_has hf hs i7 (bI_br (fun q3 => ?_) (fun q3 => ?_))
      · refine T 0 (by decide) ?_
        unfold why
        rw [if_pos q, Int.toNat_natCast, if_pos (by omega), if_neg (by omega)]
      · obtain ⟨i, rfl⟩ : ∃ i : Nat, v2 = (i : Int) := ⟨v2.toNat, by omega⟩
        have hi : i < 40 := by omega
        refine ⟨by omega, ?_⟩
        unfold P_G_item
        simp only [gS hn, Int.reduceToNat, Int.toNat_natCast, g, true_and]
        refine g_whyNot hn i7.le ?_
        have e : why C (s : Int) (i : Int) = -1 := by
          unfold why
          rw [if_pos q, Int.toNat_natCast, a1, a3, if_pos (by omega), if_pos (by omega)]
        rw [e]
        exact ⟨fun _ => ⟨by omega, by omega, (a5 i hi).symm, inv⟩, fun w => absurd w (by decide)⟩
    · refine T 5 (by decide) ?_
      unfold why
      rw [if_pos q, Int.toNat_natCast, if_neg (by omega)]
theorem f_begin {n s : Nat} {C : Cn} {v w : Int} {Q : Int → Cn → Prop} (hn : 91 ≤ n) (hs : s < 4) (h : ∀ D : Cn, (∀ b t, D b t = if b = 83 + 2 * s ∧ t = 0 then v else if b = 83 + 2 * s ∧ t = 1 then w else if b = 84 + 2 * s ∧ t < 40 then 0 else C b t) → Q 0 D) : P_Sh_begin n C ((83 + 2 * s : Nat) : Int) v w Q := by
  have r := fR77 hn hs
  unfold P_Sh_begin
  simp only [r, Int.toNat_natCast, true_and]
  intro C2 c2 C3 c3
  refine lp_rule (fun (z : Cn × Int) => ∃ k : Nat, k ≤ 40 ∧ z.2 = (k : Int) ∧ ∀ b t, z.1 b t = if b = 83 + 2 * s ∧ t = 0 then v else if b = 83 + 2 * s ∧ t = 1 then w else if b = 84 + 2 * s ∧ t < k then 0 else C b t) (fun z => (50 - z.2).toNat) ?_ (C3, 0) ⟨0, by omega, rfl, fun b t => ?_⟩
  · rintro ⟨D, v3⟩ ⟨k, z0, z1, z2⟩ K hK
    dsimp only at z1 z2
    subst z1
    unfold B_Sh_begin_12
    simp only [r, Int.toNat_natCast, true_and]
    refine ⟨fun q => h D (fun b t => by rw [z2 b t, (by omega : k = 40)]), fun q => ⟨by omega, fun C8 c8 => ?_⟩⟩
    rw [w32_n (by omega)]
    refine hK _ ⟨k + 1, by omega, rfl, fun b t => ?_⟩ (by dsimp only; omega)
    dsimp only
    by_cases e : b = 84 + 2 * s ∧ t = k
    · rw [c8, e.1, e.2, wr_same, if_neg (by omega), if_neg (by omega), if_pos (by omega)]
    · rw [c8, wr_ne (by omega), z2 b t]
      by_cases e1 : b = 83 + 2 * s ∧ t = 0
      · rw [if_pos e1, if_pos e1]
      · rw [if_neg e1, if_neg e1]
        by_cases e2 : b = 83 + 2 * s ∧ t = 1
        · rw [if_pos e2, if_pos e2]
        · rw [if_neg e2, if_neg e2]
          by_cases e3 : b = 84 + 2 * s ∧ t < k
          · rw [if_pos e3, if_pos (by omega)]
          · rw [if_neg e3, if_neg (by omega)]
  · dsimp only
    by_cases e1 : b = 83 + 2 * s ∧ t = 0
    · rw [if_pos e1, e1.1, e1.2, c3, wr_ne (by omega), c2, wr_same]
    · rw [if_neg e1]
      by_cases e2 : b = 83 + 2 * s ∧ t = 1
      · rw [if_pos e2, e2.1, e2.2, c3, wr_same]
      · rw [if_neg e2, if_neg (by omega), c3, wr_ne (by omega), c2, wr_ne (by omega)]
theorem g_begin {n s : Nat} {C : Cn} {v w : Int} {Q : Int → Cn → Prop} (hn : 320 ≤ n) (hs : s < 4) (h : ∀ D : Cn, (∀ b t, D b t = if b = 303 ∧ t = s then v else if b = 304 ∧ t = s then (if 0 ≤ v then w else 0) else if b = 306 + s ∧ t < 40 then 0 else C b t) → Q (if 0 ≤ v then w else 0) D) : J_G_sheet_58 n C 91 (s : Int) v w Q := by
  have r := gR305 hn hs
  unfold J_G_sheet_58 J_G_sheet_79
  simp only [gS hn, Int.reduceToNat, Int.toNat_natCast, true_and]
  refine ⟨by omega, fun C2 c2 => ⟨by omega, fun C3 c3 => ?_⟩⟩
  refine lp_rule (fun (z : Cn × Int) => ∃ k : Nat, k ≤ 40 ∧ z.2 = (k : Int) ∧ ∀ b t, z.1 b t = if b = 303 ∧ t = s then v else if b = 304 ∧ t = s then (if 0 ≤ v then w else 0) else if b = 306 + s ∧ t < k then 0 else C b t) (fun z => (50 - z.2).toNat) ?_ (C3, 0) ⟨0, by omega, rfl, fun b t => ?_⟩
  · rintro ⟨D, v3⟩ ⟨k, z0, z1, z2⟩ K hK
    dsimp only at z1 z2
    subst z1
    unfold B_G_sheet_83
    simp only [gS hn, r, Int.reduceToNat, Int.toNat_natCast, true_and]
    refine ⟨fun q => ⟨by omega, ?_⟩, fun q => ⟨by omega, by omega, fun C8 c8 => ?_⟩⟩
    · have e : D 304 s = if 0 ≤ v then w else 0 := by rw [z2, if_neg (by omega), if_pos ⟨rfl, rfl⟩]
      rw [e]
      exact h D (fun b t => by rw [z2 b t, (by omega : k = 40)])
    rw [w32_n (by omega)]
    refine hK _ ⟨k + 1, by omega, rfl, fun b t => ?_⟩ (by dsimp only; omega)
    dsimp only
    by_cases e : b = 306 + s ∧ t = k
    · rw [c8, e.1, e.2, wr_same, if_neg (by omega), if_neg (by omega), if_pos (by omega)]
    · rw [c8, wr_ne (by omega), z2 b t]
      by_cases e1 : b = 303 ∧ t = s
      · rw [if_pos e1, if_pos e1]
      · rw [if_neg e1, if_neg e1]
        by_cases e2 : b = 304 ∧ t = s
        · rw [if_pos e2, if_pos e2]
        · rw [if_neg e2, if_neg e2]
          by_cases e3 : b = 306 + s ∧ t < k
          · rw [if_pos e3, if_pos (by omega)]
          · rw [if_neg e3, if_neg (by omega)]
  · dsimp only
    by_cases e1 : b = 303 ∧ t = s
    · rw [if_pos e1, e1.1, e1.2, c3, wr_ne (by omega), c2, wr_same]
    · rw [if_neg e1]
      by_cases e2 : b = 304 ∧ t = s
      · rw [if_pos e2, e2.1, e2.2, c3, wr_same]
      · rw [if_neg e2, if_neg (by omega), c3, wr_ne (by omega), c2, wr_ne (by omega)]
theorem c_sheet {n : Nat} {C : Cn} {v1 v2 v3 : Int} (hn : 320 ≤ n) (inv : Inv C) : P_F_sheet n C 1 v1 v2 v3 (fun r C1 => P_G_sheet n C1 91 v1 v2 v3 (fun r2 C2 => r = r2 ∧ Inv C2)) := by
  have hf : 91 ≤ n := by omega
  have inv' := inv
  obtain ⟨m, -, -, -, -, -, -, i7, -⟩ := inv'
  have E : ∀ (s : Nat) (w : Int) (C1 : Cn), s < 4 → v1 = (s : Int) → -1 ≤ v2 ∧ v2 ≤ 2 → w = (if 0 ≤ v2 then v3 else 0) → 0 ≤ w ∧ w ≤ 40 → (∀ b t, C1 b t = if b = 83 + 2 * s ∧ t = 0 then v2 else if b = 83 + 2 * s ∧ t = 1 then w else if b = 84 + 2 * s ∧ t < 40 then 0 else C b t) → J_G_sheet_58 n C1 91 (s : Int) v2 v3 (fun r2 C2 => w = r2 ∧ Inv C2) := by
    intro s w C1 hs hv hv2 hw hw2 c1
    refine g_begin hn hs (fun D d => ⟨hw, ?_⟩)
    rw [← hw] at d
    refine inv.up7 (fun b t hb hb2 => ?_) ?_
    · rw [d, if_neg (by omega), if_neg (by omega), if_neg (by omega), c1, if_neg (by omega), if_neg (by omega), if_neg (by omega)]
    · intro s' hs'
      obtain ⟨b1, b2, b3, b4, b5⟩ := i7 s' hs'
      by_cases e : s' = s
      · subst e
        have x1 : D 303 s' = v2 := by rw [d, if_pos ⟨rfl, rfl⟩]
        have x2 : D 304 s' = w := by rw [d, if_neg (by omega), if_pos ⟨rfl, rfl⟩]
        have x3 : D (83 + 2 * s') 0 = v2 := by rw [d, if_neg (by omega), if_neg (by omega), if_neg (by omega), c1, if_pos ⟨rfl, rfl⟩]
        have x4 : D (83 + 2 * s') 1 = w := by rw [d, if_neg (by omega), if_neg (by omega), if_neg (by omega), c1, if_neg (by omega), if_pos ⟨rfl, rfl⟩]
        rw [x1, x2, x3, x4]
        refine ⟨rfl, hv2, rfl, hw2, fun i hi => ?_⟩
        rw [d, if_neg (by omega), if_neg (by omega), if_pos ⟨rfl, hi⟩, d, if_neg (by omega), if_neg (by omega), if_neg (by omega), c1, if_neg (by omega), if_neg (by omega), if_pos ⟨rfl, hi⟩]
      · have x : ∀ b t, b ≠ 83 + 2 * s → b ≠ 84 + 2 * s → b ≠ 306 + s → ¬ ((b = 303 ∨ b = 304) ∧ t = s) → D b t = C b t := fun b t h1 h2 h3 h4 => by
          rw [d, if_neg (by omega), if_neg (by omega), if_neg (by omega), c1, if_neg (by omega), if_neg (by omega), if_neg (by omega)]
        rw [x 303 s' (by omega) (by omega) (by omega) (by omega), x 304 s' (by omega) (by omega) (by omega) (by omega), x (83 + 2 * s') 0 (by omega) (by omega) (by omega) (by omega), x (83 + 2 * s') 1 (by omega) (by omega) (by omega) (by omega)]
        refine ⟨b1, b2, b3, b4, fun i hi => ?_⟩
        rw [x (306 + s') i (by omega) (by omega) (by omega) (by omega), x (84 + 2 * s') i (by omega) (by omega) (by omega) (by omega)]
        exact b5 i hi
  unfold P_F_sheet
  refine f_isSheet (bI_br (fun q => ?_) (fun q => f_isIn (bI_br (fun q2 => ?_) (fun q2 => ?_))))
  · simp only [fS hf, true_and]
    refine f_tell hf (by decide) (fun C1 c1 => ?_)
    unfold P_G_sheet
    refine g_isSheet (bI_br (fun _ => ?_) (fun w => absurd w q))
    simp only [gS hn, true_and]
    exact both hn (by decide) inv c1 (fun _ _ _ => rfl)
  · simp only [fS hf, true_and]
    refine f_tell hf (by decide) (fun C1 c1 => ?_)
    unfold P_G_sheet
    refine g_isSheet (bI_br (fun w => absurd q w) (fun _ => g_in (bI_br (fun _ => ?_) (fun w => absurd w q2))))
    simp only [gS hn, true_and]
    exact both hn (by decide) inv c1 (fun _ _ _ => rfl)
  · obtain ⟨s, rfl⟩ : ∃ s : Nat, v1 = (s : Int) := ⟨v1.toNat, by omega⟩
    have hs : s < 4 := by omega
    have r := fR77 hf hs
    simp only [fS hf, Int.reduceToNat, Int.toNat_natCast, r, true_and]
    refine ⟨fun e => ⟨by omega, f_begin hf hs (fun C1 c1 => ?_)⟩, fun e => ⟨fun e2 => ⟨fun e3 => ⟨by omega, f_begin hf hs (fun C1 c1 => ?_)⟩, fun e3 => ?_⟩, fun e2 => ?_⟩⟩
    · unfold P_G_sheet
      refine g_isSheet (bI_br (fun w => absurd q w) (fun _ => g_in (bI_br (fun w => absurd q2 w) (fun _ => ?_))))
      refine ⟨fun _ => ?_, fun w => absurd w (by omega)⟩
      unfold J_G_sheet_42
      refine ⟨fun _ => E s 0 C1 hs rfl q2 (by rw [if_neg (by omega)]) (by omega) c1, fun w => absurd w (by omega)⟩
    · unfold P_G_sheet
      refine g_isSheet (bI_br (fun w => absurd q w) (fun _ => g_in (bI_br (fun w => absurd q2 w) (fun _ => ?_))))
      refine ⟨fun w => absurd w (by omega), fun _ => ⟨fun _ => ?_, fun w => absurd e2 w⟩⟩
      unfold J_G_sheet_42
      refine ⟨fun w => absurd w (by omega), fun _ => ⟨fun _ => E s v3 C1 hs rfl q2 (by rw [if_pos (by omega)]) (by omega) c1, fun w => absurd e3 w⟩⟩
    · refine f_tell hf (by decide) (fun C1 c1 => ?_)
      unfold P_G_sheet
      refine g_isSheet (bI_br (fun w => absurd q w) (fun _ => g_in (bI_br (fun w => absurd q2 w) (fun _ => ?_))))
      refine ⟨fun w => absurd w (by omega), fun _ => ⟨fun _ => ?_, fun w => absurd e2 w⟩⟩
      unfold J_G_sheet_42
      simp only [gS hn, true_and]
      exact ⟨fun w => absurd w (by omega), fun _ => ⟨fun w => absurd w e3, fun _ => both hn (by decide) inv c1 (fun _ _ _ => rfl)⟩⟩
    · refine f_tell hf (by decide) (fun C1 c1 => ?_)
      unfold P_G_sheet
      refine g_isSheet (bI_br (fun w => absurd q w) (fun _ => g_in (bI_br (fun w => absurd q2 w) (fun _ => ?_))))
      simp only [gS hn, true_and]
      exact ⟨fun w => absurd w (by omega), fun _ => ⟨fun w => absurd w e2, fun _ => both hn (by decide) inv c1 (fun _ _ _ => rfl)⟩⟩
