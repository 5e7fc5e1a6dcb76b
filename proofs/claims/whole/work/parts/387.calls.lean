/-! my own: the cost between two points of a table -/
def frP (s : Cn) (m : Nat) (x y : Int) : Prop := ¬ sK s 0 m (ky x y) ∧ ∀ i : Nat, i < m → ¬ cOn s (i : Int) x y
theorem thg_free {s : Cn} {m : Nat} {X Y : Nat → Int} {M : Mp} (h : isMap s m X Y M) (x y : Int) : (thg s m X Y M x y).1 = 0 ↔ frP s m x y := by
  have en := h.2.2.1.2.2 (ky x y)
  constructor
  · intro h0
    by_cases q : stp0 X Y M (ky x y) < mE M ∧ ky (X (stp0 X Y M (ky x y))) (Y (stp0 X Y M (ky x y))) = ky x y
    · unfold thg at h0
      rw [cit_t q] at h0
      have h1 : (1 : Nat) = 0 := h0
      omega
    · by_cases r : onS s m x y < m
      · unfold thg at h0
        rw [cit_f q, cit_t r] at h0
        have h1 : (2 : Nat) = 0 := h0
        omega
      · refine ⟨fun w => ?_, fun i hi w => r (fnd_lt.mpr ⟨i, hi, w⟩)⟩
        obtain ⟨e, he, hk⟩ := en.mpr w
        have e1 := stp0_at h (by omega : e < mE M) hk
        exact q (by rw [e1]; exact ⟨by omega, hk⟩)
  · rintro ⟨h1, h2⟩
    rw [thg_C (fun w => h1 (en.mp ⟨_, by omega, w.2⟩)) h2]
def cBw (s : Cn) (m : Nat) (tl : Nat → Nat) (x y u v : Int) (d : Nat) : Prop := ∃ (X Y : Nat → Int) (M : Mp), isMap s m X Y M ∧ d ≤ 432 ∧ isD (ed M tl) (nF M) (fo M (thg s m X Y M x y).2.1 (thg s m X Y M x y).2.2) (fo M (thg s m X Y M u v).2.1 (thg s m X Y M u v).2.2) d
theorem cBw.uniq {s : Cn} {m : Nat} {tl : Nat → Nat} {x y u v : Int} {d d2 : Nat} (h : cBw s m tl x y u v d) (h2 : cBw s m tl x y u v d2) : d = d2 := by
  obtain ⟨X, Y, M, a1, a2, a3⟩ := h
  obtain ⟨X2, Y2, M2, b1, b2, b3⟩ := h2
  obtain ⟨e1, e2⟩ := a1.uniq b1
  subst e1
  rw [thg_congr (X := X) (Y := Y) (fun e he => ⟨(e2 e he).1.symm, (e2 e he).2.symm⟩) x y, thg_congr (X := X) (Y := Y) (fun e he => ⟨(e2 e he).1.symm, (e2 e he).2.symm⟩) u v] at b3
  exact a3.uniq b3
theorem LM.congrL {C D s : Cn} {m l : Nat} {M : Mp} (h : LM C l s m M) (g : ∀ b t, l ≤ b → b ≤ l + 15 → D b t = C b t) : LM D l s m M := by
  obtain ⟨a, b, c, d, ⟨e1, e2⟩, f⟩ := h
  have x1 : D (l + 1) = C (l + 1) := by
    funext t
    exact g _ _ (by omega) (by omega)
  have x2 : D (l + 2) = C (l + 2) := by
    funext t
    exact g _ _ (by omega) (by omega)
  refine ⟨by rw [x1, x2]; exact a, by rw [g _ _ (by omega) (by omega)]; exact b, fun i hi => ?_, fun j k hj hk => ?_, ⟨e1.congr (fun b t hb => g b t (by omega) (by omega)), ?_⟩, fun f' g' hf hg => ?_⟩
  · rw [g _ _ (by omega) (by omega), g _ _ (by omega) (by omega)]
    exact c i hi
  · rw [g _ _ (by omega) (by omega)]
    exact d j k hj hk
  · obtain ⟨k1, k2, k3, k4⟩ := e2
    refine ⟨by rw [g _ _ (by omega) (by omega)]; exact k1, fun i t hb => by rw [g _ _ (by omega) (by omega)]; exact k2 i t hb, fun i t hb hw => ?_, fun f hf => by rw [g _ _ (by omega) (by omega)]; exact k4 f hf⟩
    rw [g _ _ (by omega) (by omega), g _ _ (by omega) (by omega)]
    exact k3 i t hb hw
  · rw [g _ _ (by omega) (by omega)]
    exact f f' g' hf hg
theorem f_fieldP {n : Nat} {C s : Cn} {l e m : Nat} {M : Mp} {x y : Int} {Q : Int → Prop} (hn : 91 ≤ n) (hl : l = 26 ∨ l = 42) (he : e = 2 ∨ e = 10 ∨ e = 18) (g : gd s m) (lm : LM C l s m M) (hs : ∀ i, i < m → ∀ f, C (e + 2 + i) f = s i f) (bx : bd x) (by_ : bd y) (fr : frP s m x y)
    (h : fo M (thg s m (C (l + 1)) (C (l + 2)) M x y).2.1 (thg s m (C (l + 1)) (C (l + 2)) M x y).2.2 < nF M → Q ((fo M (thg s m (C (l + 1)) (C (l + 2)) M x y).2.1 (thg s m (C (l + 1)) (C (l + 2)) M x y).2.2 : Nat) : Int)) : P_La_fieldAt n C (l : Int) (e : Int) x y Q := by
  have ok := g.ok lm.1
  have k := thg_k g lm.1 x y
  have z := (thg_free lm.1 x y).mpr fr
  unfold P_La_fieldAt
  simp only [lS hn hl, Int.toNat_natCast, true_and]
  refine f_thing hn hl he g lm hs bx by_ ?_
  generalize thg s m (C (l + 1)) (C (l + 2)) M x y = th at *
  obtain ⟨a, b, c⟩ := th
  dsimp only at *
  unfold cdF
  dsimp only
  rw [if_pos z]
  rcases k with ⟨-, k1, k2⟩ | ⟨k0, -⟩ | ⟨k0, -⟩
  · have h49 := FC_49 ok k1 k2
    have hh := h (fo_nF k1 k2)
    rw [Int.toNat_natCast, lm.2.2.2.2.1.fo k1 k2]
    clear h
    exact ⟨fun w => absurd w (by omega), fun _ => ⟨by omega, hh⟩⟩
  · omega
  · omega
theorem f_costOf {n : Nat} {C : Cn} {l f g : Nat} {M : Mp} {tl : Nat → Nat} {Q : Int → Cn → Prop} (hn : 91 ≤ n) (hl : l = 26 ∨ l = 42) (ok : okM M) (lg : LG C l M) (ht : TL C M tl) (hf : f < nF M) (hg : g < nF M)
    (h : ∀ (d : Nat) (C2 : Cn), (∀ b t, b ≠ 69 → b ≠ 70 → C2 b t = C b t) → d ≤ 432 → isD (ed M tl) (nF M) f g d → Q (d : Int) C2) : P_Ws_costOf n C 67 (l : Int) (f : Int) (g : Int) Q := by
  have f19 := ok.f19
  unfold P_Ws_costOf
  simp only [fS hn, Int.reduceToNat, Int.toNat_natCast, true_and]
  refine f_spread hn hl ok lg ht hf (fun C2 f2 d2 => ?_)
  obtain ⟨d, x1, x2, x3⟩ := d2 g hg
  rw [x1]
  exact ⟨by omega, h d C2 f2 x2 x3⟩
theorem GM.congr {C D s : Cn} {m : Nat} {M : Mp} (ok : okM M) (h : GM C s m M) (g : ∀ b t, (b = 91 ∧ (t = 10 ∨ t = 18)) ∨ (101 ≤ b ∧ b ≤ 137) → D b t = C b t) : GM D s m M := by
  have e12 := ok.e
  obtain ⟨a1, a2, a3, a4, k1, k2, k3, k4⟩ := h
  have x1 : D 101 = C 101 := by
    funext t
    exact g _ _ (by omega)
  have x2 : D 102 = C 102 := by
    funext t
    exact g _ _ (by omega)
  refine ⟨by rw [x1, x2]; exact a1, by rw [g _ _ (by omega)]; exact a2, fun i hi => ?_, fun j hj => (a4 j hj).congr (fun t => g _ _ (by omega)) (g _ _ (by omega)), by rw [g _ _ (by omega)]; exact k1, fun i t hb => ?_, fun i t hb hw => ?_, fun f hf => ?_⟩
  · rw [g _ _ (by omega), g _ _ (by omega)]
    exact a3 i hi
  · have hb' := hb.2
    rw [g _ _ (by omega)]
    exact k2 i t hb
  · rw [g _ _ (by omega), g _ _ (by omega), g _ _ (by omega)]
    exact k3 i t hb hw
  · rw [g _ _ (by omega)]
    exact k4 f hf
theorem g_inP {n : Nat} {C s : Cn} {m : Nat} {M : Mp} {x y : Int} {Q : Int → Cn → Prop} (hn : 320 ≤ n) (g : gd s m) (gm : GM C s m M) (hm : C 91 0 = m) (hs : ∀ i, i < m → ∀ f, C (93 + i) f = s i f) (bx : bd x) (by_ : bd y) (fr : frP s m x y)
    (h : ∀ C2 : Cn, (∀ b t, ¬ (b = 91 ∧ (t = 23 ∨ t = 24)) → C2 b t = C b t) → fo M (thg s m (C 101) (C 102) M x y).2.1 (thg s m (C 101) (C 102) M x y).2.2 < nF M → Q ((fo M (thg s m (C 101) (C 102) M x y).2.1 (thg s m (C 101) (C 102) M x y).2.2 : Nat) : Int) C2) : P_G_isIn n C 91 x y Q := by
  have k := thg_k g gm.1 x y
  have z := (thg_free gm.1 x y).mpr fr
  refine g_isIn hn g gm hm hs bx by_ (fun C2 f2 _ => ?_)
  have hh := h C2 f2
  clear h f2
  generalize thg s m (C 101) (C 102) M x y = th at *
  obtain ⟨a, b, c⟩ := th
  dsimp only at *
  unfold cdG
  dsimp only
  rw [if_pos z]
  rcases k with ⟨-, k1, k2⟩ | ⟨k0, -⟩ | ⟨k0, -⟩
  · exact hh (fo_nF k1 k2)
  · omega
  · omega
theorem g_freeP {n : Nat} {C s : Cn} {m : Nat} {M : Mp} {x y : Int} {Q : Int → Cn → Prop} (hn : 320 ≤ n) (g : gd s m) (gm : GM C s m M) (hm : C 91 0 = m) (hs : ∀ i, i < m → ∀ f, C (93 + i) f = s i f) (bx : bd x) (by_ : bd y)
    (h1 : frP s m x y → ∀ C2 : Cn, (∀ b t, ¬ (b = 91 ∧ (t = 23 ∨ t = 24)) → C2 b t = C b t) → Q 1 C2)
    (h0 : ¬ frP s m x y → ∀ C2 : Cn, (∀ b t, ¬ (b = 91 ∧ (t = 23 ∨ t = 24)) → C2 b t = C b t) → Q 0 C2) : P_G_isFree n C 91 x y Q := by
  have ok := g.ok gm.1
  have f19 := ok.f19
  have k := thg_k g gm.1 x y
  have z := thg_free gm.1 x y
  unfold P_G_isFree J_G_isFree_16
  simp only [gS hn, true_and]
  refine g_isIn hn g gm hm hs bx by_ (fun C2 f2 _ => ?_)
  have hh1 : frP s m x y → Q 1 C2 := fun w => h1 w C2 f2
  have hh0 : ¬ frP s m x y → Q 0 C2 := fun w => h0 w C2 f2
  clear h1 h0 f2
  generalize thg s m (C 101) (C 102) M x y = th at *
  obtain ⟨a, b, c⟩ := th
  dsimp only at *
  unfold cdG
  dsimp only
  rcases k with ⟨rfl, k1, k2⟩ | ⟨rfl, k1⟩ | ⟨rfl, k1⟩
  · have fl := fo_nF k1 k2
    have e1 : (if (0 : Nat) = 0 then fo M b c else if (0 : Nat) = 1 then 100 + b else 200 + b) = fo M b c := if_pos rfl
    rw [e1, if_neg (by omega)]
    exact ⟨Or.inr rfl, hh1 (z.mp rfl)⟩
  · have e1 : (if (1 : Nat) = 0 then fo M b c else if (1 : Nat) = 1 then 100 + b else 200 + b) = 100 + b := by rw [if_neg (by decide), if_pos rfl]
    rw [e1, if_pos (by omega)]
    exact ⟨Or.inl rfl, hh0 (fun w => absurd (z.mpr w) (by decide))⟩
  · have e1 : (if (2 : Nat) = 0 then fo M b c else if (2 : Nat) = 1 then 100 + b else 200 + b) = 200 + b := by rw [if_neg (by decide), if_neg (by decide)]
    rw [e1, if_pos (by omega)]
    exact ⟨Or.inl rfl, hh0 (fun w => absurd (z.mpr w) (by decide))⟩
theorem g_areFree {n : Nat} {C : Cn} {m : Nat} {x y u v : Int} {Q : Int → Cn → Prop} (hn : 320 ≤ n) (hm : C 91 0 = m) (g : gd (tb C 93 m) m) (bx : bd x) (by_ : bd y) (bu : bd u) (bv : bd v)
    (h1 : frP (tb C 93 m) m x y → frP (tb C 93 m) m u v → ∀ C2 : Cn, (∀ b t, b < 101 ∨ 137 < b → ¬ (b = 91 ∧ (10 ≤ t ∧ t ≤ 24)) → C2 b t = C b t) → Q 1 C2)
    (h0 : ¬ (frP (tb C 93 m) m x y ∧ frP (tb C 93 m) m u v) → ∀ C2 : Cn, (∀ b t, b < 101 ∨ 137 < b → ¬ (b = 91 ∧ (10 ≤ t ∧ t ≤ 24)) → C2 b t = C b t) → Q 0 C2) : P_G_areFree n C 91 x y u v Q := by
  have m6 := g.1
  unfold P_G_areFree J_G_areFree_28
  simp only [gS hn, true_and]
  refine g_maps hn hm g (fun C2 M f2 gm => ?_)
  have ok := g.ok gm.1
  have rows : ∀ i, i < m → ∀ f, C2 (93 + i) f = tb C 93 m i f := fun i hi f => by rw [f2 _ _ (by omega) (by omega), tb_lt hi]
  have c0 : C2 91 0 = (m : Int) := by rw [f2 _ _ (by omega) (by omega), hm]
  refine g_freeP hn g gm c0 rows bx by_ (fun w C3 f3 => ⟨fun e => absurd e (by decide), fun _ => ?_⟩) (fun w C3 f3 => ⟨fun _ => h0 (fun q => w q.1) C3 (fun b t h1 h2 => by rw [f3 b t (by omega), f2 b t h1 (by omega)]), fun e => absurd rfl e⟩)
  refine g_freeP hn g (gm.congr ok (fun b t hb => f3 b t (by omega))) (by rw [f3 _ _ (by omega), c0]) (fun i hi f => by rw [f3 _ _ (by omega), rows i hi f]) bu bv (fun w2 C4 f4 => ?_) (fun w2 C4 f4 => ?_)
  · rw [if_neg (by decide)]
    exact ⟨Or.inr rfl, h1 w w2 C4 (fun b t h1 h2 => by rw [f4 b t (by omega), f3 b t (by omega), f2 b t h1 (by omega)])⟩
  · rw [if_pos rfl]
    exact ⟨Or.inl rfl, h0 (fun q => w2 q.2) C4 (fun b t h1 h2 => by rw [f4 b t (by omega), f3 b t (by omega), f2 b t h1 (by omega)])⟩
theorem g_costB {n : Nat} {C : Cn} {m : Nat} {tl : Nat → Nat} {x y u v : Int} {Q : Int → Cn → Prop} (hn : 320 ≤ n) (hm : C 91 0 = m) (g : gd (tb C 93 m) m) (ht : ∀ i, i < m → tlF (C (93 + i) 0) (C (93 + i) 1) (C 91 2) = ((tl i : Nat) : Int) ∧ tl i ≤ 36) (bx : bd x) (by_ : bd y) (bu : bd u) (bv : bd v) (fx : frP (tb C 93 m) m x y) (fu : frP (tb C 93 m) m u v)
    (h : ∀ (d : Nat) (C2 : Cn), (∀ b t, b < 101 ∨ 137 < b → ¬ (240 ≤ b ∧ b ≤ 280) → ¬ (b = 91 ∧ (10 ≤ t ∧ t ≤ 24)) → C2 b t = C b t) → cBw (tb C 93 m) m tl x y u v d → Q (d : Int) C2) : P_G_costBetween n C 91 x y u v Q := by
  have m6 := g.1
  unfold P_G_costBetween P_G_costs
  simp only [gS hn, Int.reduceToNat, true_and]
  refine g_maps hn hm g (fun C2 M f2 gm => ?_)
  have ok := g.ok gm.1
  have f19 := ok.f19
  have mm' : mm M = m := gm.1.1
  have rows : ∀ i, i < m → ∀ f, C2 (93 + i) f = C (93 + i) f := fun i hi f => f2 _ _ (by omega) (by omega)
  have c0 : C2 91 0 = (m : Int) := by rw [f2 _ _ (by omega) (by omega), hm]
  have gw : gW C2 m M tl := by
    refine ⟨gm.g c0, gm.nF, fun j k hj hk => gm.2.2.2.2.2.1 j k ⟨hk, Or.inl (by omega)⟩, fun i hi => ?_⟩
    rw [rows i hi 0, rows i hi 1, f2 91 2 (by omega) (by omega)]
    exact ht i hi
  refine g_costs hn ok mm' gw (fun C3 f3 d3 _ => ?_)
  have gm3 : GM C3 (tb C 93 m) m M := gm.congr ok (fun b t hb => f3 b t (by omega))
  refine g_inP hn g gm3 (by rw [f3 _ _ (by omega), c0]) (fun i hi f => by rw [f3 _ _ (by omega), rows i hi, tb_lt hi]) bx by_ fx (fun C4 f4 k4 => ?_)
  have gm4 : GM C4 (tb C 93 m) m M := gm3.congr ok (fun b t hb => f4 b t (by omega))
  have ra := gR239 hn (by omega : fo M (thg (tb C 93 m) m (C3 101) (C3 102) M x y).2.1 (thg (tb C 93 m) m (C3 101) (C3 102) M x y).2.2 < 20)
  simp only [Int.toNat_natCast, ra, true_and]
  refine ⟨by omega, ?_⟩
  refine g_inP hn g gm4 (by rw [f4 _ _ (by omega), f3 _ _ (by omega), c0]) (fun i hi f => by rw [f4 _ _ (by omega), f3 _ _ (by omega), rows i hi, tb_lt hi]) bu bv fu (fun C5 f5 k5 => ?_)
  have e1 : C4 101 = C3 101 := by
    funext t
    exact f4 _ _ (by omega)
  have e2 : C4 102 = C3 102 := by
    funext t
    exact f4 _ _ (by omega)
  rw [e1, e2] at k5 ⊢
  obtain ⟨d, x1, x2, x3⟩ := d3 _ _ k4 k5
  refine ⟨by omega, ?_⟩
  rw [Int.toNat_natCast, f5 _ _ (by omega), f4 _ _ (by omega), x1]
  exact h d C5 (fun b t h1 h2 h3 => by rw [f5 b t (by omega), f4 b t (by omega), f3 b t h2, f2 b t h1 (by omega)]) ⟨_, _, M, gm3.1, x2, x3⟩
theorem f_held {n : Nat} {C : Cn} {m : Nat} {M : Mp} {x y : Int} {Q : Int → Prop} (hn : 91 ≤ n) (i1 : I1 C m) (lm : LM C 26 (tb C 4 m) m M) (bx : bd x) (by_ : bd y) (h1 : frP (tb C 4 m) m x y → Q 1) (h0 : ¬ frP (tb C 4 m) m x y → Q 0) : P_F_isHeld n C 1 x y Q := by
  have ok := Inv.ok i1 lm
  have k := thg_k i1.2.2.2.2.2.1 lm.1 x y
  have z := thg_free lm.1 x y
  unfold P_F_isHeld J_F_isHeld_23
  simp only [fS hn, fL hn, Int.reduceToNat, true_and]
  refine f_thingI hn i1 lm bx by_ ?_
  have k' : ((thg (tb C 4 m) m (C 27) (C 28) M x y).1 = 0 ∧ (thg (tb C 4 m) m (C 27) (C 28) M x y).2.1 ≤ mE M ∧ (thg (tb C 4 m) m (C 27) (C 28) M x y).2.2 ≤ mH M (thg (tb C 4 m) m (C 27) (C 28) M x y).2.1) ∨ ((thg (tb C 4 m) m (C 27) (C 28) M x y).1 = 1 ∧ (thg (tb C 4 m) m (C 27) (C 28) M x y).2.1 < mE M) ∨ ((thg (tb C 4 m) m (C 27) (C 28) M x y).1 = 2 ∧ (thg (tb C 4 m) m (C 27) (C 28) M x y).2.1 < m) := k
  have z' : (thg (tb C 4 m) m (C 27) (C 28) M x y).1 = 0 ↔ frP (tb C 4 m) m x y := z
  clear k z
  generalize thg (tb C 4 m) m (C 27) (C 28) M x y = th at *
  obtain ⟨a, b, c⟩ := th
  dsimp only at *
  unfold cdF
  dsimp only
  rcases k' with ⟨rfl, k1, k2⟩ | ⟨rfl, k1⟩ | ⟨rfl, k1⟩
  · have h49 := FC_49 ok k1 k2
    have e1 : (if (0 : Nat) = 0 then FC M b + c else if (0 : Nat) = 1 then 100 + b else 200 + b) = FC M b + c := if_pos rfl
    rw [e1, if_neg (by omega)]
    exact ⟨Or.inr rfl, h1 (z'.mp rfl)⟩
  · have e1 : (if (1 : Nat) = 0 then FC M b + c else if (1 : Nat) = 1 then 100 + b else 200 + b) = 100 + b := by rw [if_neg (by decide), if_pos rfl]
    rw [e1, if_pos (by omega)]
    exact ⟨Or.inl rfl, h0 (fun w => absurd (z'.mpr w) (by decide))⟩
  · have e1 : (if (2 : Nat) = 0 then FC M b + c else if (2 : Nat) = 1 then 100 + b else 200 + b) = 200 + b := by rw [if_neg (by decide), if_neg (by decide)]
    rw [e1, if_pos (by omega)]
    exact ⟨Or.inl rfl, h0 (fun w => absurd (z'.mpr w) (by decide))⟩
/-- the first of the least -/
def bc (D : Nat → Nat → Prop) (k i d : Nat) : Prop := i < k ∧ D i d ∧ ∀ j, j < k → ∀ d', D j d' → d ≤ d' ∧ (j < i → d < d')
theorem bc.uniq {D : Nat → Nat → Prop} {k i d i2 d2 : Nat} (h : bc D k i d) (h2 : bc D k i2 d2) : i = i2 := by
  obtain ⟨a1, a2, a3⟩ := h
  obtain ⟨b1, b2, b3⟩ := h2
  have x := a3 i2 b1 d2 b2
  have y := b3 i a1 d a2
  omega
theorem bc.keep {D : Nat → Nat → Prop} {k i d e : Nat} (h : bc D k i d) (u : ∀ d', D k d' → d' = e) (he : d ≤ e) : bc D (k + 1) i d := by
  obtain ⟨a1, a2, a3⟩ := h
  refine ⟨by omega, a2, fun j hj d' hd => ?_⟩
  by_cases q : j = k
  · subst q
    have := u d' hd
    omega
  · exact a3 j (by omega) d' hd
theorem bc.first {D : Nat → Nat → Prop} {e : Nat} (he : D 0 e) (u : ∀ d', D 0 d' → d' = e) : bc D 1 0 e := by
  refine ⟨by omega, he, fun j hj d' hd => ?_⟩
  have e0 : j = 0 := by omega
  subst e0
  have := u d' hd
  omega
theorem bc.new {D : Nat → Nat → Prop} {k i d e : Nat} (h : bc D k i d) (he : D k e) (u : ∀ d', D k d' → d' = e) (lt : e < d) : bc D (k + 1) k e := by
  obtain ⟨a1, a2, a3⟩ := h
  refine ⟨by omega, he, fun j hj d' hd => ?_⟩
  by_cases q : j = k
  · subst q
    have := u d' hd
    omega
  · have := (a3 j (by omega) d' hd).1
    omega
