/-! my own: the class's ways -/
theorem f_takeTolls {n : Nat} {C : Cn} {e m : Nat} {Q : Int → Cn → Prop} (hn : 91 ≤ n) (he : e = 2 ∨ e = 10 ∨ e = 18) (m6 : m ≤ 6) (hm : C e 1 = m)
    (h : ∀ C2 : Cn, (∀ b t, b ≠ 68 → C2 b t = C b t) → (∀ i, i < m → C2 68 i = tlF (C (e + 2 + i) 0) (C (e + 2 + i) 1) (C e 2)) → Q 0 C2) : P_Ws_takeTolls n C 67 (e : Int) Q := by
  refine lp_rule (fun (z : Cn × Int) => ∃ i : Nat, i ≤ m ∧ z.2 = (i : Int) ∧ (∀ b t, b ≠ 68 → z.1 b t = C b t) ∧ (∀ t, t < i → z.1 68 t = tlF (C (e + 2 + t) 0) (C (e + 2 + t) 1) (C e 2))) (fun z => (10 - z.2).toNat) ?_ (C, 0) ⟨0, by omega, rfl, fun _ _ _ => rfl, fun t ht => absurd ht (Nat.not_lt_zero t)⟩
  rintro ⟨D, v2⟩ ⟨i, z0, z1, z2, z3⟩ K hK
  dsimp only at z1 z2 z3
  subst z1
  unfold B_Ws_takeTolls_2
  simp only [fS hn, ES hn he, Int.reduceToNat, true_and, Int.toNat_natCast]
  rw [z2 e 1 (by omega), hm]
  refine ⟨fun q => h D z2 (fun t ht => z3 t (by omega)), fun q => ?_⟩
  have ew := EW hn he (i := i) (by omega)
  simp only [ew, Int.toNat_natCast, true_and]
  refine ⟨by omega, f_toll ⟨by omega, fun C13 c13 => ?_⟩⟩
  rw [z2 _ _ (by omega), z2 _ _ (by omega), z2 _ _ (by omega)] at c13
  rw [w32_n (by omega)]
  refine hK _ ⟨i + 1, by omega, rfl, fun b t hb => ?_, fun t ht => ?_⟩ (by dsimp only; omega)
  · dsimp only
    rw [c13, wr_ne (fun q => hb q.1), z2 b t hb]
  · dsimp only
    rw [c13]
    by_cases e2 : t = i
    · rw [e2, wr_same]
    · rw [wr_ne (fun q => e2 q.2), z3 t (by omega)]
/-- the tolls are told -/
def TL (C : Cn) (M : Mp) (tl : Nat → Nat) : Prop := ∀ s, s < mm M → C 68 s = ((tl s : Nat) : Int) ∧ tl s ≤ 36
theorem f_tollB {n : Nat} {C : Cn} {l f g : Nat} {M : Mp} {tl : Nat → Nat} {Q : Int → Prop} (hn : 91 ≤ n) (hl : l = 26 ∨ l = 42) (ok : okM M) (gt : GT C l M) (ht : TL C M tl) (hf : f < nF M) (hg : g < nF M)
    (h1 : ∀ w, ed M tl f g w → w ≤ 36 → Q (w : Nat)) (h0 : (∀ w, ¬ ed M tl f g w) → Q (-1)) : P_La_tollBetween n C (l : Int) (f : Int) (g : Int) 68 Q := by
  have f19 := ok.f19
  have m6 := ok.m
  have w1 : w32 (w32 ((f : Int) * 19) + (g : Int)) = ((19 * f + g : Nat) : Int) := by
    rw [w32_s (x := (f : Int) * 19) (by omega), w32_s (by omega)]
    omega
  unfold P_La_tollBetween J_La_tollBetween_37
  simp only [lS hn hl, fS hn, true_and, w1, Int.toNat_natCast]
  clear w1
  refine ⟨by omega, fun v4 hv4 => ?_⟩
  rcases gt f g hf hg with ⟨a, b, c⟩ | ⟨a, b, c⟩ | ⟨s, a, b, c⟩
  · rw [c] at hv4
    refine ⟨fun _ => ?_, fun q => by omega⟩
    rw [if_neg (by omega)]
    refine h0 (fun w hw => ?_)
    rcases hw with ⟨s, x, _⟩ | ⟨x, _⟩
    · exact a s x
    · exact b x
  · rw [c] at hv4
    refine ⟨fun _ => ?_, fun q => by omega⟩
    rw [if_pos hv4]
    exact h1 0 (Or.inr ⟨b, rfl⟩) (by omega)
  · rw [c] at hv4
    have sl := (a.lt ok).2.2
    have hs := ht s sl
    refine ⟨fun q => by omega, fun q => ?_⟩
    have w2 : w32 (v4 - 2) = ((s : Nat) : Int) := by
      rw [hv4, w32_s (by omega)]
      omega
    rw [w2]
    clear w2
    simp only [Int.reduceToNat, Int.toNat_natCast]
    refine ⟨by omega, ?_⟩
    rw [hs.1]
    exact h1 (tl s) (Or.inl ⟨s, a, rfl⟩) hs.2
/-- what is known while one goes on from place to place -/
def DJ (C : Cn) (M : Mp) (tl : Nat → Nat) (src : Nat) (S : Nat → Prop) : Prop := C 69 src = 0 ∧ (∀ g, g < nF M → 0 ≤ C 69 g ∧ C 69 g ≤ 1000000 ∧ aD (ed M tl) (nF M) src g (C 69 g) ∧ (C 70 g = 0 ↔ ¬ S g)) ∧
  (∀ f g w, S f → ed M tl f g w → C 69 g ≤ C 69 f + (w : Int)) ∧ (∀ f g, f < nF M → g < nF M → S f → ¬ S g → C 69 f ≤ C 69 g)
theorem f_nearest {n : Nat} {C : Cn} {l : Nat} {M : Mp} {S : Nat → Prop} {Q : Int → Prop} (hn : 91 ≤ n) (hl : l = 26 ∨ l = 42) (ok : okM M) (h14 : C l 14 = ((nF M : Nat) : Int)) (hc : ∀ g, g < nF M → 0 ≤ C 69 g ∧ C 69 g ≤ 1000000 ∧ (C 70 g = 0 ↔ ¬ S g)) (ex : ∃ g, g < nF M ∧ ¬ S g)
    (h : ∀ r : Nat, r < nF M → ¬ S r → (∀ g, g < nF M → ¬ S g → C 69 r ≤ C 69 g) → Q r) : P_Ws_nearestUnsure n C 67 (l : Int) Q := by
  have f19 := ok.f19
  refine lp_rule (fun (z : Int × Int × Int) => ∃ i : Nat, i ≤ nF M ∧ z.2.2 = (i : Int) ∧ ((z.2.1 = 2147483647 ∧ ∀ g, g < i → S g) ∨ ∃ r : Nat, z.1 = (r : Int) ∧ r < i ∧ ¬ S r ∧ z.2.1 = C 69 r ∧ ∀ g, g < i → ¬ S g → C 69 r ≤ C 69 g)) (fun z => (30 - z.2.2).toNat) ?_ (0, 2147483647, 0) ⟨0, by omega, rfl, Or.inl ⟨rfl, fun g hg => absurd hg (Nat.not_lt_zero g)⟩⟩
  rintro ⟨v2, v3, v4⟩ ⟨i, z0, z1, z2⟩ K hK
  dsimp only at z1 z2
  subst z1
  unfold B_Ws_nearestUnsure_8
  simp only [lS hn hl, fS hn, Int.reduceToNat, true_and, Int.toNat_natCast, h14]
  refine ⟨fun q => ?_, fun q => ⟨by omega, ?_⟩⟩
  · have ei : i = nF M := by omega
    subst ei
    rcases z2 with ⟨-, z2⟩ | ⟨r, r1, r2, r3, r4, r5⟩
    · obtain ⟨g, g1, g2⟩ := ex
      exact absurd (z2 g g1) g2
    · rw [r1]
      exact h r r2 r3 r5
  · have hi : i < nF M := by omega
    have ci := hc i hi
    rw [w32_n (by omega)]
    refine ⟨fun e => ⟨by omega, fun q2 => ?_, fun q2 v3' hv3' => ?_⟩, fun e => ?_⟩
    · have ns := ci.2.2.mp e
      refine hK _ ⟨i + 1, by omega, rfl, ?_⟩ (by dsimp only; omega)
      rcases z2 with ⟨a, z2⟩ | ⟨r, r1, r2, r3, r4, r5⟩
      · omega
      · refine Or.inr ⟨r, r1, by omega, r3, r4, fun g hg ng => ?_⟩
        by_cases eg : g = i
        · rw [eg]
          omega
        · exact r5 g (by omega) ng
    · have ns := ci.2.2.mp e
      refine hK _ ⟨i + 1, by omega, rfl, Or.inr ⟨i, rfl, by omega, ns, hv3', fun g hg ng => ?_⟩⟩ (by dsimp only; omega)
      by_cases eg : g = i
      · rw [eg]
        exact Int.le_refl _
      · rcases z2 with ⟨a, z2⟩ | ⟨r, r1, r2, r3, r4, r5⟩
        · exact absurd (z2 g (by omega)) ng
        · have := r5 g (by omega) ng
          omega
    · have sS : S i := Classical.not_not.mp (fun w => e (ci.2.2.mpr w))
      refine hK _ ⟨i + 1, by omega, rfl, ?_⟩ (by dsimp only; omega)
      rcases z2 with ⟨a, z2⟩ | ⟨r, r1, r2, r3, r4, r5⟩
      · refine Or.inl ⟨a, fun g hg => ?_⟩
        by_cases eg : g = i
        · rw [eg]
          exact sS
        · exact z2 g (by omega)
      · refine Or.inr ⟨r, r1, by omega, r3, r4, fun g hg ng => ?_⟩
        by_cases eg : g = i
        · rw [eg] at ng
          exact absurd sS ng
        · exact r5 g (by omega) ng
/-- a land's fields and gates -/
def LG (C : Cn) (l : Nat) (M : Mp) : Prop := C l 14 = ((nF M : Nat) : Int) ∧ GT C l M
theorem LG.congr {C D : Cn} {l : Nat} {M : Mp} (h : LG C l M) (g : ∀ b t, b ≠ 69 → b ≠ 70 → D b t = C b t) (hl : l = 26 ∨ l = 42) : LG D l M := by
  refine ⟨by rw [g _ _ (by omega) (by omega)]; exact h.1, fun f g' hf hg => ?_⟩
  rw [g _ _ (by omega) (by omega)]
  exact h.2 f g' hf hg
theorem LM.g {C s : Cn} {l m : Nat} {M : Mp} (h : LM C l s m M) : LG C l M := ⟨h.2.2.2.2.1.2.1, h.2.2.2.2.2⟩
theorem TL.congr {C D : Cn} {M : Mp} {tl : Nat → Nat} (h : TL C M tl) (g : ∀ t, D 68 t = C 68 t) : TL D M tl := fun s hs => by
  rw [g]
  exact h s hs
theorem f_goOn {n : Nat} {C : Cn} {l r src : Nat} {M : Mp} {tl : Nat → Nat} {S : Nat → Prop} {Q : Int → Cn → Prop} (hn : 91 ≤ n) (hl : l = 26 ∨ l = 42) (ok : okM M) (lg : LG C l M) (ht : TL C M tl) (hr : r < nF M) (nr : ¬ S r)
    (c0 : C 69 src = 0) (sr : src < nF M) (c1 : ∀ g, g < nF M → 0 ≤ C 69 g ∧ C 69 g ≤ 1000000 ∧ aD (ed M tl) (nF M) src g (C 69 g) ∧ (C 70 g = 0 ↔ ¬ (S g ∨ g = r))) (c2 : ∀ f g w, S f → ed M tl f g w → C 69 g ≤ C 69 f + (w : Int)) (c3 : ∀ f g, f < nF M → g < nF M → S f → ¬ S g → C 69 f ≤ C 69 g) (c4 : ∀ g, g < nF M → ¬ S g → C 69 r ≤ C 69 g)
    (h : ∀ C2 : Cn, (∀ b t, b ≠ 69 → C2 b t = C b t) → DJ C2 M tl src (fun g => S g ∨ g = r) → Q 0 C2) : P_Ws_goOnFrom n C 67 (l : Int) (r : Int) Q := by
  have f19 := ok.f19
  have sy := ok.sye tl
  -- the new costs
  refine lp_rule (fun (z : Cn × Int) => ∃ i : Nat, i ≤ nF M ∧ z.2 = (i : Int) ∧ (∀ b t, b ≠ 69 → z.1 b t = C b t) ∧ (∀ g, i ≤ g → z.1 69 g = C 69 g) ∧ z.1 69 r = C 69 r ∧ (∀ g, g < i → z.1 69 g ≤ C 69 g ∧ (∀ w, ed M tl r g w → z.1 69 g ≤ C 69 r + (w : Int)) ∧ (z.1 69 g = C 69 g ∨ ∃ w, ed M tl r g w ∧ z.1 69 g = C 69 r + (w : Int)))) (fun z => (30 - z.2).toNat) ?_ (C, 0) ⟨0, by omega, rfl, fun _ _ _ => rfl, fun _ _ => rfl, rfl, fun g hg => absurd hg (Nat.not_lt_zero g)⟩
  rintro ⟨D, v3⟩ ⟨i, z0, z1, z2, z3, z4, z5⟩ K hK
  dsimp only at z1 z2 z3 z4 z5
  subst z1
  have lgD : LG D l M := lg.congr (fun b t h1 h2 => z2 b t h1) hl
  have htD : TL D M tl := ht.congr (fun t => z2 _ _ (by omega))
  unfold B_Ws_goOnFrom_2
  simp only [lS hn hl, fS hn, Int.reduceToNat, true_and, Int.toNat_natCast, lgD.1]
  refine ⟨fun q => ?_, fun q => ?_⟩
  · have ei : i = nF M := by omega
    subst ei
    have cr := c1 r hr
    -- who is sure keeps its cost
    have keep : ∀ f, f < nF M → S f → D 69 f = C 69 f := by
      intro f hf sf
      have x := z5 f hf
      rcases x.2.2 with y | ⟨w, y1, y2⟩
      · exact y
      · have := c3 f r hf hr sf nr
        omega
    have lo : ∀ g, g < nF M → ¬ S g → C 69 r ≤ D 69 g := by
      intro g hg ng
      have x := z5 g hg
      rcases x.2.2 with y | ⟨w, y1, y2⟩
      · have := c4 g hg ng
        omega
      · omega
    refine h D z2 ⟨?_, fun g hg => ?_, fun f g w sf e => ?_, fun f g hf hg sf sg => ?_⟩
    · have x := z5 src sr
      rcases x.2.2 with y | ⟨w, y1, y2⟩
      · rw [y, c0]
      · have := cr.1
        omega
    · have x := z5 g hg
      have cg := c1 g hg
      refine ⟨?_, by omega, ?_, by rw [z2 _ _ (by omega)]; exact cg.2.2.2⟩
      · rcases x.2.2 with y | ⟨w, y1, y2⟩
        · omega
        · omega
      · rcases x.2.2 with y | ⟨w, y1, y2⟩
        · rw [y]
          exact cg.2.2.1
        · rcases cr.2.2.1 with u | ⟨c, l', u1, u2⟩
          · have := x.1
            have w0 : D 69 g = 1000000 := by omega
            exact Or.inl w0
          · obtain ⟨l2, v⟩ := wk_trans l' src r c u2 hr 1 g w (wk_one y1)
            exact Or.inr ⟨c + w, l2, by omega, v⟩
    · have se := sy f g w e
      have x := z5 g se.2.2
      rcases sf with sf | sf
      · rw [keep f se.2.1 sf]
        have := c2 f g w sf e
        omega
      · subst sf
        rw [z4]
        exact x.2.1 w e
    · have ng : ¬ S g := fun w => sg (Or.inl w)
      have lg := lo g hg ng
      rcases sf with sf | sf
      · rw [keep f hf sf]
        have := c3 f r hf hr sf nr
        omega
      · subst sf
        rw [z4]
        exact lg
  · have hi : i < nF M := by omega
    have ci := c1 i hi
    have cr := c1 r hr
    have nxt : ∀ D2 : Cn, (∀ b t, ¬ (b = 69 ∧ t = i) → D2 b t = D b t) → (i = r → D2 69 i = C 69 r) → D2 69 i ≤ C 69 i → (∀ w, ed M tl r i w → D2 69 i ≤ C 69 r + (w : Int)) → (D2 69 i = C 69 i ∨ ∃ w, ed M tl r i w ∧ D2 69 i = C 69 r + (w : Int)) → K (D2, w32 ((i : Int) + 1)) := by
      intro D2 e1 e2 e3 e4 e5
      rw [w32_n (by omega)]
      refine hK _ ⟨i + 1, by omega, rfl, fun b t hb => by dsimp only; rw [e1 b t (by omega), z2 b t hb], fun g hg => by dsimp only; rw [e1 _ _ (by omega), z3 g (by omega)], ?_, fun g hg => ?_⟩ (by dsimp only; omega)
      · dsimp only
        by_cases e : i = r
        · rw [← e, e2 e, e]
        · rw [e1 _ _ (by omega), z4]
      · dsimp only
        by_cases e : g = i
        · rw [e]
          exact ⟨e3, e4, e5⟩
        · rw [e1 _ _ (by omega)]
          exact z5 g (by omega)
    refine f_tollB hn hl ok lgD.2 htD hr hi (fun w e wl => ⟨fun q2 => by omega, fun _ => ⟨by omega, by omega, fun C12 c12 => ?_⟩⟩) (fun no => ⟨fun _ => nxt D (fun _ _ _ => rfl) (fun e => by rw [e]; exact z4) (by rw [z3 i (Nat.le_refl _)]; exact Int.le_refl _) (fun w e => absurd e (no w)) (Or.inl (z3 i (Nat.le_refl _))), fun q2 => absurd (by decide) q2⟩)
    rw [z3 i (Nat.le_refl _), z4, w32_id (x := C 69 r + ((w : Nat) : Int)) (by omega) (by omega)] at c12
    have v12 : C12 69 i = imin (C 69 i) (C 69 r + (w : Int)) := by rw [c12, wr_same]
    refine nxt C12 (fun b t hb => by rw [c12, wr_ne hb]) (fun ee => ?_) ?_ (fun w2 e2 => ?_) ?_
    · rw [v12, ee]
      unfold imin
      rw [if_neg (by omega)]
    · rw [v12]
      unfold imin
      split <;> omega
    · have := ok.ed1 e e2
      rw [v12, ← this]
      unfold imin
      split <;> omega
    · rw [v12]
      unfold imin
      split
      · exact Or.inr ⟨w, e, rfl⟩
      · exact Or.inl rfl
theorem f_spread {n : Nat} {C : Cn} {l src : Nat} {M : Mp} {tl : Nat → Nat} {Q : Int → Cn → Prop} (hn : 91 ≤ n) (hl : l = 26 ∨ l = 42) (ok : okM M) (lg : LG C l M) (ht : TL C M tl) (sr : src < nF M)
    (h : ∀ C2 : Cn, (∀ b t, b ≠ 69 → b ≠ 70 → C2 b t = C b t) → (∀ g, g < nF M → ∃ d : Nat, C2 69 g = (d : Int) ∧ d ≤ 432 ∧ isD (ed M tl) (nF M) src g d) → Q 0 C2) : P_Ws_spread n C 67 (l : Int) (src : Int) Q := by
  have f19 := ok.f19
  have sy := ok.sye tl
  refine lp_rule (fun (z : Cn × Int) => ∃ i : Nat, i ≤ nF M ∧ z.2 = (i : Int) ∧ (∀ b t, b ≠ 69 → b ≠ 70 → z.1 b t = C b t) ∧ (∀ g, g < i → z.1 69 g = 1000000 ∧ z.1 70 g = 0)) (fun z => (30 - z.2).toNat) ?_ (C, 0) ⟨0, by omega, rfl, fun _ _ _ _ => rfl, fun g hg => absurd hg (Nat.not_lt_zero g)⟩
  rintro ⟨D, v3⟩ ⟨i, z0, z1, z2, z3⟩ K hK
  dsimp only at z1 z2 z3
  subst z1
  have lgD : LG D l M := lg.congr z2 hl
  unfold B_Ws_spread_2
  simp only [lS hn hl, fS hn, Int.reduceToNat, true_and, Int.toNat_natCast, lgD.1]
  refine ⟨fun q => ⟨by omega, fun C6 c6 => ?_⟩, fun q => ⟨by omega, fun C25 c25 => ⟨by omega, fun C28 c28 => ?_⟩⟩⟩
  · have ei : i = nF M := by omega
    subst ei
    have o6 : ∀ b t, b ≠ 69 → b ≠ 70 → C6 b t = C b t := fun b t h1 h2 => by rw [c6, wr_ne (fun q => h1 q.1), z2 b t h1 h2]
    have dj0 : DJ C6 M tl src (fun _ => False) := by
      refine ⟨by rw [c6, wr_same], fun g hg => ?_, fun f g w sf => sf.elim, fun f g _ _ sf => sf.elim⟩
      have s70 : C6 70 g = 0 := by rw [c6, wr_ne (by omega), (z3 g hg).2]
      by_cases e : g = src
      · rw [e, c6, wr_same]
        refine ⟨by omega, by omega, Or.inr ⟨0, 0, rfl, rfl, rfl⟩, ?_⟩
        rw [← c6, ← e, s70]
        exact ⟨fun _ w => w, fun _ => rfl⟩
      · rw [s70, c6, wr_ne (fun q => e q.2), (z3 g hg).1]
        exact ⟨by omega, by omega, Or.inl rfl, ⟨fun _ w => w, fun _ => rfl⟩⟩
    refine lp_rule (fun (z : Cn × Int) => ∃ (k : Nat) (S : Nat → Prop), k ≤ nF M ∧ z.2 = (k : Int) ∧ (∀ b t, b ≠ 69 → b ≠ 70 → z.1 b t = C b t) ∧ cnt S (nF M) = k ∧ DJ z.1 M tl src S) (fun z => (30 - z.2).toNat) ?_ (C6, 0) ⟨0, fun _ => False, by omega, rfl, o6, cnt_zero (fun _ _ w => w), dj0⟩
    rintro ⟨D2, v3⟩ ⟨k, S, y0, y1, y2, y3, y4⟩ K2 hK2
    dsimp only at y1 y2 y3 y4
    subst y1
    have lgD2 : LG D2 l M := lg.congr y2 hl
    unfold B_Ws_spread_40
    simp only [lS hn hl, fS hn, Int.reduceToNat, Int.toNat_natCast, true_and, lgD2.1]
    obtain ⟨d0, d1, d2, d3⟩ := y4
    refine ⟨fun q2 => ?_, fun q2 => ?_⟩
    · have ek : k = nF M := by omega
      have all : ∀ g, g < nF M → S g := by
        intro g hg
        refine Classical.not_not.mp (fun ns => ?_)
        have a := cnt_del (p := fun _ => True) (q := g) (n := nF M) hg trivial
        have b := sm_le (f := fun u => ind (S u)) (g := fun u => ind (True ∧ u ≠ g)) (n := nF M) (fun u hu => by
          by_cases su : S u
          · have : True ∧ u ≠ g := ⟨trivial, fun e => ns (by rw [← e]; exact su)⟩
            rw [ind_t this]
            exact ind_le _
          · rw [ind_f su]
            exact Nat.zero_le _)
        have c := cnt_le (fun _ => True) (nF M)
        have e1 : cnt S (nF M) ≤ cnt (fun u => True ∧ u ≠ g) (nF M) := b
        omega
      refine h D2 y2 (fun g hg => ?_)
      have pl := pot_le (c := D2 69) sy (fun f g w e => d2 f g w (all f (sy f g w e).2.1) e)
      have dg := d1 g hg
      refine ok.toD (fun s hs => (ht s hs).2) sr hg dg.2.2.1 (fun l c x => ?_)
      have := pl l src g c x
      omega
    · have ex : ∃ g, g < nF M ∧ ¬ S g := by
        refine Classical.byContradiction (fun no => ?_)
        have all : ∀ g, g < nF M → S g := fun g hg => Classical.not_not.mp (fun ns => no ⟨g, hg, ns⟩)
        have := cnt_true all
        omega
      refine f_nearest hn hl ok lgD2.1 (fun g hg => ⟨(d1 g hg).1, (d1 g hg).2.1, (d1 g hg).2.2.2⟩) ex (fun r r1 r2 r3 => ⟨by omega, fun C16 c16 => ?_⟩)
      rw [Int.toNat_natCast] at c16
      have o16 : ∀ b t, ¬ (b = 70 ∧ t = r) → C16 b t = D2 b t := fun b t hb => by rw [c16, wr_ne hb]
      refine f_goOn (S := S) hn hl ok (lgD2.congr (fun b t h1 h2 => o16 b t (by omega)) hl) ((ht.congr (fun t => y2 _ _ (by omega) (by omega))).congr (fun t => o16 _ _ (by omega))) r1 r2 (by rw [o16 _ _ (by omega), d0]) sr (fun g hg => ?_) (fun f g w sf e => ?_) (fun f g hf hg sf sg => ?_) (fun g hg ng => ?_) (fun C17 e1 e2 => ?_)
      · have dg := d1 g hg
        rw [o16 69 g (by omega)]
        refine ⟨dg.1, dg.2.1, dg.2.2.1, ?_⟩
        by_cases e : g = r
        · rw [e, c16, wr_same]
          exact ⟨fun w => absurd w (by decide), fun w => absurd (Or.inr rfl) w⟩
        · rw [o16 _ _ (by omega), dg.2.2.2]
          exact ⟨fun w x => x.elim w e, fun w x => w (Or.inl x)⟩
      · rw [o16 _ _ (by omega), o16 _ _ (by omega)]
        exact d2 f g w sf e
      · rw [o16 _ _ (by omega), o16 _ _ (by omega)]
        exact d3 f g hf hg sf sg
      · rw [o16 _ _ (by omega), o16 _ _ (by omega)]
        exact r3 g hg ng
      · rw [w32_n (by omega)]
        refine hK2 _ ⟨k + 1, fun g => S g ∨ g = r, by omega, rfl, fun b t h1 h2 => by dsimp only; rw [e1 b t h1, o16 b t (by omega), y2 b t h1 h2], ?_, e2⟩ (by dsimp only; omega)
        have a := cnt_del (p := fun g => S g ∨ g = r) (q := r) (n := nF M) r1 (Or.inr rfl)
        rw [cnt_congr (q := S) (fun u _ => ⟨fun w => w.1.resolve_right w.2, fun w => ⟨Or.inl w, fun e => r2 (by rw [← e]; exact w)⟩⟩)] at a
        omega
  · rw [w32_n (by omega)]
    refine hK _ ⟨i + 1, by omega, rfl, fun b t h1 h2 => ?_, fun g hg => ?_⟩ (by dsimp only; omega)
    · dsimp only
      rw [c28, wr_ne (fun q => h2 q.1), c25, wr_ne (fun q => h1 q.1), z2 b t h1 h2]
    · dsimp only
      rw [c28, c25]
      by_cases e : g = i
      · rw [e, wr_ne (by omega), wr_same, wr_same]
        exact ⟨rfl, rfl⟩
      · rw [wr_ne (by omega), wr_ne (by omega), wr_ne (by omega), wr_ne (by omega)]
        exact z3 g (by omega)
