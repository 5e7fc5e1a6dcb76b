/-! my own: which fields lie next to one another, and the class's gates -/
def adjS (M : Mp) (f g s : Nat) : Prop := ∃ j k, j ≤ mE M ∧ k < mH M j ∧ mT M j k = s ∧ ((fo M j k = f ∧ fo M j (k + 1) = g) ∨ (fo M j k = g ∧ fo M j (k + 1) = f))
def adjO (M : Mp) (f g : Nat) : Prop := ∃ j k l, j < mE M ∧ k ≤ mH M j ∧ l ≤ mH M (j + 1) ∧ (flo M (j + 1) l = flo M j k ∨ roo M (j + 1) l = roo M j k) ∧ ((fo M j k = f ∧ fo M (j + 1) l = g) ∨ (fo M j k = g ∧ fo M (j + 1) l = f))
theorem adjS.sym {M : Mp} {f g s : Nat} (h : adjS M f g s) : adjS M g f s := by
  obtain ⟨j, k, a, b, c, d⟩ := h
  exact ⟨j, k, a, b, c, d.symm⟩
theorem adjO.sym {M : Mp} {f g : Nat} (h : adjO M f g) : adjO M g f := by
  obtain ⟨j, k, l, a, b, c, d, e⟩ := h
  exact ⟨j, k, l, a, b, c, d, e.symm⟩
theorem adjS.lt {M : Mp} {f g s : Nat} (ok : okM M) (h : adjS M f g s) : f < nF M ∧ g < nF M ∧ s < mm M := by
  obtain ⟨j, k, a, b, c, d⟩ := h
  have x := fo_nF (M := M) (j := j) (k := k) a (by omega)
  have y := fo_nF (M := M) (j := j) (k := k + 1) a (by omega)
  have z := (ok.tin b).1
  omega
theorem adjO.lt {M : Mp} {f g : Nat} (h : adjO M f g) : f < nF M ∧ g < nF M := by
  obtain ⟨j, k, l, a, b, c, d, e⟩ := h
  have x := fo_nF (M := M) (j := j) (k := k) (by omega) b
  have y := fo_nF (M := M) (j := j + 1) (k := l) (by omega) c
  omega
theorem okM.adj1 {M : Mp} (ok : okM M) {f g s t : Nat} (h1 : adjS M f g s) (h2 : adjS M f g t) : s = t := by
  obtain ⟨j, k, a, b, c, d⟩ := h1
  obtain ⟨i, l, a2, b2, c2, d2⟩ := h2
  have key : ∀ f g : Nat, fo M j k = f ∧ fo M j (k + 1) = g → (fo M i l = f ∧ fo M i (l + 1) = g) ∨ (fo M i l = g ∧ fo M i (l + 1) = f) → s = t := by
    intro f g d d2
    rcases d2 with d2 | d2
    · have x := (fo_same (M := M) (j := j) (k := k) (i := i) (l := l) (by omega) (by omega) (by rw [d.1, d2.1])).2
      rw [roo_k b, roo_k b2] at x
      omega
    · have x := (fo_same (M := M) (j := j) (k := k) (i := i) (l := l + 1) (by omega) (by omega) (by rw [d.1, d2.2])).1
      have y := (fo_same (M := M) (j := j) (k := k + 1) (i := i) (l := l) (by omega) (by omega) (by rw [d.2, d2.1])).2
      rw [flo_s] at x
      rw [roo_k b2] at y
      exfalso
      by_cases q : k = 0
      · rw [q, flo_0] at x
        omega
      · rw [flo_p (by omega)] at x
        by_cases r : k + 1 = mH M j
        · rw [r, roo_t] at y
          omega
        · rw [roo_k (by omega)] at y
          have := ok.tinj (j := j) (k := k - 1) (l := k + 1) (by omega) (by omega) (by omega)
          omega
  rcases d with d | d
  · exact key f g d d2
  · exact key g f d d2.symm
theorem okM.adj2 {M : Mp} (ok : okM M) {f g s : Nat} (h1 : adjS M f g s) : ¬ adjO M f g := by
  intro h2
  obtain ⟨j, k, a, b, c, d⟩ := h1
  obtain ⟨i, p, q, a2, b2, c2, e2, d2⟩ := h2
  have key : ∀ f g : Nat, fo M j k = f ∧ fo M j (k + 1) = g → (fo M i p = f ∧ fo M (i + 1) q = g) ∨ (fo M i p = g ∧ fo M (i + 1) q = f) → False := by
    intro f g d d2
    have x : flo M j (k + 1) = flo M j k ∨ roo M j (k + 1) = roo M j k := by
      rcases d2 with d2 | d2
      · have x := fo_same (M := M) (j := j) (k := k) (i := i) (l := p) (by omega) (by omega) (by rw [d.1, d2.1])
        have y := fo_same (M := M) (j := j) (k := k + 1) (i := i + 1) (l := q) (by omega) (by omega) (by rw [d.2, d2.2])
        rw [x.1, x.2, y.1, y.2]
        exact e2
      · have x := fo_same (M := M) (j := j) (k := k) (i := i + 1) (l := q) (by omega) (by omega) (by rw [d.1, d2.2])
        have y := fo_same (M := M) (j := j) (k := k + 1) (i := i) (l := p) (by omega) (by omega) (by rw [d.2, d2.1])
        rw [x.1, x.2, y.1, y.2]
        exact e2.imp Eq.symm Eq.symm
    rcases x with x | x
    · have := ok.flo_inj (j := j) (k := k + 1) (l := k) (by omega) (by omega) x
      omega
    · have := ok.roo_inj (j := j) (k := k + 1) (l := k) (by omega) (by omega) x
      omega
  rcases d with d | d
  · exact key f g d d2
  · exact key g f d d2.symm
/-- no field lies over itself -/
theorem okM.adj0 {M : Mp} (ok : okM M) {f s : Nat} : ¬ adjS M f f s := by
  rintro ⟨j, k, a, b, c, d⟩
  have x : fo M j k = fo M j (k + 1) := by
    rcases d with d | d
    · rw [d.1, d.2]
    · rw [d.1, d.2]
  have := ok.fo_inj (j := j) (k := k) (l := k + 1) (by omega) (by omega) x
  omega
def snd (D : Cn) (l : Nat) (M : Mp) : Prop := ∀ f g, f < nF M → g < nF M → D (l + 15) (19 * f + g) = 0 ∨ (D (l + 15) (19 * f + g) = 1 ∧ adjO M f g) ∨ ∃ s : Nat, D (l + 15) (19 * f + g) = ((2 + s : Nat) : Int) ∧ adjS M f g s
def nz (D : Cn) (l f g : Nat) : Prop := D (l + 15) (19 * f + g) ≠ 0 ∧ D (l + 15) (19 * g + f) ≠ 0
theorem f_gate {n : Nat} {C : Cn} {l c d f g : Nat} {v : Int} {M : Mp} {Q : Int → Cn → Prop} (hn : 91 ≤ n) (hl : l = 26 ∨ l = 42) (ok : okM M) (hc : c < 49) (hd : d < 49) (hf : C (l + 11) c = f) (hg : C (l + 11) d = g) (bf' : f < nF M) (bg : g < nF M) (hv : (v = 1 ∧ adjO M f g) ∨ ∃ s : Nat, v = ((2 + s : Nat) : Int) ∧ adjS M f g s) (sd : snd C l M)
    (h : ∀ C2 : Cn, (∀ b t, b ≠ l + 15 → C2 b t = C b t) → snd C2 l M → nz C2 l f g → (∀ t, C (l + 15) t ≠ 0 → C2 (l + 15) t ≠ 0) → Q 0 C2) : P_La_openGate n C (l : Int) (c : Int) (d : Int) v Q := by
  have f19 := ok.f19
  unfold P_La_openGate
  simp only [lS hn hl, Int.toNat_natCast, true_and]
  refine ⟨by omega, fun v4 hv4 => ⟨by omega, fun v5 hv5 => ?_⟩⟩
  rw [hf] at hv4
  rw [hg] at hv5
  have w1 : w32 (w32 (v4 * 19) + v5) = ((19 * f + g : Nat) : Int) := by
    rw [hv4, hv5, w32_s (x := (f : Int) * 19) (by omega), w32_s (by omega)]
    omega
  have w2 : w32 (w32 (v5 * 19) + v4) = ((19 * g + f : Nat) : Int) := by
    rw [hv4, hv5, w32_s (x := (g : Int) * 19) (by omega), w32_s (by omega)]
    omega
  simp only [w1, w2, Int.toNat_natCast]
  clear w1 w2
  refine ⟨by omega, fun C9 c9 => ⟨by omega, fun C11 c11 => ?_⟩⟩
  have rd : ∀ t, C11 (l + 15) t = if t = 19 * f + g ∨ t = 19 * g + f then v else C (l + 15) t := by
    intro t
    rw [c11]
    by_cases e : t = 19 * g + f
    · rw [e, wr_same, if_pos (Or.inr rfl)]
    · rw [wr_ne (fun q => e q.2), c9]
      by_cases e2 : t = 19 * f + g
      · rw [e2, wr_same, if_pos (Or.inl rfl)]
      · rw [wr_ne (fun q => e2 q.2), if_neg (by omega)]
  have v0 : v ≠ 0 := by
    rcases hv with hv | ⟨s, hv, -⟩ <;> omega
  refine h C11 (fun b t hb => ?_) (fun f' g' h1 h2 => ?_) ⟨?_, ?_⟩ (fun t ht => ?_)
  · rw [c11, wr_ne (fun q => hb q.1), c9, wr_ne (fun q => hb q.1)]
  · rw [rd]
    by_cases e : 19 * f' + g' = 19 * f + g ∨ 19 * f' + g' = 19 * g + f
    · rw [if_pos e]
      refine Or.inr ?_
      have e2 : (f' = f ∧ g' = g) ∨ (f' = g ∧ g' = f) := by omega
      rcases e2 with ⟨rfl, rfl⟩ | ⟨rfl, rfl⟩
      · exact hv
      · rcases hv with hv | ⟨s, hv, hs⟩
        · exact Or.inl ⟨hv.1, hv.2.sym⟩
        · exact Or.inr ⟨s, hv, hs.sym⟩
    · rw [if_neg e]
      exact sd f' g' h1 h2
  · rw [rd, if_pos (Or.inl rfl)]
    exact v0
  · rw [rd, if_pos (Or.inr rfl)]
    exact v0
  · rw [rd]
    split
    · exact v0
    · exact ht
/-- a land whose cells have their fields -/
def LF (C : Cn) (l : Nat) (M : Mp) : Prop := LC C l M ∧ FKn C l M (mE M + 1) 0
theorem LF.congr {C D : Cn} {l : Nat} {M : Mp} (h : LF C l M) (g : ∀ b t, b ≠ l + 15 → D b t = C b t) : LF D l M := by
  obtain ⟨h1, k1, k2, k3, k4⟩ := h
  refine ⟨h1.congr (fun b t hb => g b t (by omega)), by rw [g _ _ (by omega)]; exact k1, fun i t hb => by rw [g _ _ (by omega)]; exact k2 i t hb, fun i t hb hw => ?_, fun f hf => by rw [g _ _ (by omega)]; exact k4 f hf⟩
  rw [g _ _ (by omega), g _ _ (by omega)]
  exact k3 i t hb hw
theorem LF.fo {C : Cn} {l : Nat} {M : Mp} (h : LF C l M) {j k : Nat} (hj : j ≤ mE M) (hk : k ≤ mH M j) : C (l + 11) (FC M j + k) = fo M j k := h.2.2.1 j k ⟨hk, Or.inl (by omega)⟩
theorem FC_49 {M : Mp} (ok : okM M) {j k : Nat} (hj : j ≤ mE M) (hk : k ≤ mH M j) : FC M j + k < 49 := by
  have := ok.c49
  have := FC_lt (M := M) (i := mE M + 1) (l := 0) hk (by omega)
  omega
theorem f_behind {n : Nat} {C : Cn} {l j k : Nat} {M : Mp} {Q : Int → Cn → Prop} (hn : 91 ≤ n) (hl : l = 26 ∨ l = 42) (ok : okM M) (lf : LF C l M) (hj : j ≤ mE M) (hk : k ≤ mH M j) (sd : snd C l M)
    (h : ∀ C2 : Cn, (∀ b t, b ≠ l + 15 → C2 b t = C b t) → snd C2 l M → (∀ t, C (l + 15) t ≠ 0 → C2 (l + 15) t ≠ 0) → (j < mE M → ∀ p, p ≤ mH M (j + 1) → (flo M (j + 1) p = flo M j k ∨ roo M (j + 1) p = roo M j k) → nz C2 l (fo M j k) (fo M (j + 1) p)) → Q 0 C2) : P_La_openGatesBehind n C (l : Int) ((FC M j + k : Nat) : Int) Q := by
  have e12 := ok.e
  have c49 := FC_49 ok hj hk
  have x := lf.1.2.2.2 j k hj hk
  unfold P_La_openGatesBehind
  simp only [lS hn hl, Int.toNat_natCast, true_and]
  refine ⟨by omega, fun v2 hv2 => ?_⟩
  rw [x.1, w32_n (by omega)] at hv2
  rw [hv2, lf.1.1]
  refine ⟨fun q => ?_, fun q => h C (fun _ _ _ => rfl) sd (fun _ ht => ht) (fun q2 => by omega)⟩
  have hj1 : j + 1 ≤ mE M := by omega
  have h6 := ok.h6 (j + 1)
  refine lp_rule (fun (z : Cn × Int) => ∃ c : Nat, c ≤ mH M (j + 1) + 1 ∧ z.2 = (c : Int) ∧ (∀ b t, b ≠ l + 15 → z.1 b t = C b t) ∧ snd z.1 l M ∧ (∀ t, C (l + 15) t ≠ 0 → z.1 (l + 15) t ≠ 0) ∧ (∀ p, p < c → (flo M (j + 1) p = flo M j k ∨ roo M (j + 1) p = roo M j k) → nz z.1 l (fo M j k) (fo M (j + 1) p))) (fun z => (10 - z.2).toNat) ?_ (C, 0) ⟨0, by omega, rfl, fun _ _ _ => rfl, sd, fun _ ht => ht, fun p hp => absurd hp (Nat.not_lt_zero p)⟩
  rintro ⟨D, v3⟩ ⟨c, z0, z1, z2, z3, z4, z5⟩ K hK
  dsimp only at z1 z2 z3 z4 z5
  subst z1
  have lfD := lf.congr z2
  unfold B_La_openGatesBehind_20
  simp only [lS hn hl, Int.toNat_natCast, true_and]
  rw [(lfD.1.2.2.1 (j + 1) hj1).2, (lfD.1.2.2.1 (j + 1) hj1).1]
  refine ⟨by omega, fun q2 => h D z2 z3 z4 (fun _ p hp => z5 p (by omega)), fun q2 => ⟨by omega, fun v4 hv4 => ?_⟩⟩
  have hc : c ≤ mH M (j + 1) := by omega
  have d49 := FC_49 ok hj1 hc
  have w1 : w32 (((FC M (j + 1) : Nat) : Int) + (c : Int)) = ((FC M (j + 1) + c : Nat) : Int) := by
    rw [w32_s (by omega)]
    omega
  rw [w1] at hv4
  clear w1
  rw [hv4]
  simp only [Int.toNat_natCast]
  have xD := lfD.1.2.2.2 j k hj hk
  have yD := lfD.1.2.2.2 (j + 1) c hj1 hc
  rw [xD.2.1, yD.2.1, xD.2.2, yD.2.2]
  rw [w32_n (by omega)]
  have go : (flo M (j + 1) c = flo M j k ∨ roo M (j + 1) c = roo M j k) → P_La_openGate n D (l : Int) ((FC M j + k : Nat) : Int) ((FC M (j + 1) + c : Nat) : Int) 1 (fun (_ : Int) (C_17 : Cn) => K (C_17, ((c + 1 : Nat) : Int))) := by
    intro e
    refine f_gate hn hl ok c49 d49 (lfD.fo hj hk) (lfD.fo hj1 hc) (fo_nF hj hk) (fo_nF hj1 hc) (Or.inl ⟨rfl, j, k, c, by omega, hk, hc, e, Or.inl ⟨rfl, rfl⟩⟩) z3 (fun C2 c1 c2 c3 c4 => ?_)
    refine hK _ ⟨c + 1, by omega, rfl, fun b t hb => by dsimp only; rw [c1 b t hb, z2 b t hb], c2, fun t ht => c4 t (z4 t ht), fun p hp he => ?_⟩ (by dsimp only; omega)
    by_cases e2 : p = c
    · rw [e2]
      exact c3
    · have := z5 p (by omega) he
      exact ⟨c4 _ this.1, c4 _ this.2⟩
  refine ⟨by omega, by omega, fun e => go (Or.inl e), fun e => ⟨by omega, by omega, fun e2 => go (Or.inr e2), fun e2 => ?_⟩⟩
  refine hK _ ⟨c + 1, by omega, rfl, z2, z3, z4, fun p hp he => ?_⟩ (by dsimp only; omega)
  by_cases e3 : p = c
  · rw [e3] at he
    exact absurd he (fun q => q.elim e e2)
  · exact z5 p (by omega) he
/-- the gates of all fields -/
def GT (C : Cn) (l : Nat) (M : Mp) : Prop := ∀ f g, f < nF M → g < nF M → ((∀ s, ¬ adjS M f g s) ∧ ¬ adjO M f g ∧ C (l + 15) (19 * f + g) = 0) ∨ ((∀ s, ¬ adjS M f g s) ∧ adjO M f g ∧ C (l + 15) (19 * f + g) = 1) ∨ ∃ s : Nat, adjS M f g s ∧ ¬ adjO M f g ∧ C (l + 15) (19 * f + g) = ((2 + s : Nat) : Int)
theorem f_gates {n : Nat} {C : Cn} {l : Nat} {M : Mp} {Q : Int → Cn → Prop} (hn : 91 ≤ n) (hl : l = 26 ∨ l = 42) (ok : okM M) (lf : LF C l M)
    (h : ∀ C2 : Cn, (∀ b t, b ≠ l + 15 → C2 b t = C b t) → GT C2 l M → Q 0 C2) : P_La_openGates n C (l : Int) Q := by
  have e12 := ok.e
  have f19 := ok.f19
  have nfE : nf M (mE M + 1) 0 = nF M := rfl
  -- the second half
  have half : ∀ C1 : Cn, (∀ b t, b ≠ l + 15 → C1 b t = C b t) → (∀ f g, f < nF M → g < nF M → C1 (l + 15) (19 * f + g) = 0) → ∃ f, lp (B_La_openGates_46 n (l : Int) Q) f (C1, 0) := by
    intro C1 c1 c2
    have sd0 : snd C1 l M := fun f g hf hg => Or.inl (c2 f g hf hg)
    refine lp_rule (fun (z : Cn × Int) => ∃ j k : Nat, ((j ≤ mE M ∧ k ≤ mH M j) ∨ (j = mE M + 1 ∧ k = 0)) ∧ z.2 = ((FC M j + k : Nat) : Int) ∧ (∀ b t, b ≠ l + 15 → z.1 b t = C b t) ∧ snd z.1 l M ∧ (∀ i t, bf M i t j k → (t < mH M i → nz z.1 l (fo M i t) (fo M i (t + 1))) ∧ (i < mE M → ∀ p, p ≤ mH M (i + 1) → (flo M (i + 1) p = flo M i t ∨ roo M (i + 1) p = roo M i t) → nz z.1 l (fo M i t) (fo M (i + 1) p)))) (fun z => (50 - z.2).toNat) ?_ (C1, 0) ⟨0, 0, Or.inl ⟨by omega, by omega⟩, rfl, c1, sd0, fun i t hb => by have := hb.2; omega⟩
    rintro ⟨D, v1⟩ ⟨j, k, z0, z1, z2, z3, z4⟩ K hK
    dsimp only at z1 z2 z3 z4
    subst z1
    have lfD := lf.congr z2
    unfold B_La_openGates_46
    simp only [lS hn hl, Int.toNat_natCast, true_and]
    rw [lfD.1.2.1]
    refine ⟨fun q => ?_, fun q => ?_⟩
    · have z5 : j = mE M + 1 ∧ k = 0 := by
        rcases z0 with z0 | z0
        · have := FC_lt (M := M) (i := mE M + 1) (l := 0) z0.2 (by omega)
          omega
        · exact z0
      obtain ⟨rfl, rfl⟩ := z5
      refine h D z2 (fun f g hf hg => ?_)
      have nS : ∀ s, adjS M f g s → D (l + 15) (19 * f + g) ≠ 0 := by
        rintro s ⟨i, t, a, b, c, d⟩
        have := (z4 i t ⟨by omega, Or.inl (by omega)⟩).1 b
        rcases d with ⟨rfl, rfl⟩ | ⟨rfl, rfl⟩
        · exact this.1
        · exact this.2
      have nO : adjO M f g → D (l + 15) (19 * f + g) ≠ 0 := by
        rintro ⟨i, t, p, a, b, c, e, d⟩
        have := (z4 i t ⟨by omega, Or.inl (by omega)⟩).2 a p c e
        rcases d with ⟨rfl, rfl⟩ | ⟨rfl, rfl⟩
        · exact this.1
        · exact this.2
      rcases z3 f g hf hg with w | ⟨w, w2⟩ | ⟨s, w, w2⟩
      · exact Or.inl ⟨fun s hs => nS s hs w, fun ho => nO ho w, w⟩
      · exact Or.inr (Or.inl ⟨fun s hs => ok.adj2 hs w2, w2, w⟩)
      · exact Or.inr (Or.inr ⟨s, w2, ok.adj2 w2, w⟩)
    · have z5 : j ≤ mE M ∧ k ≤ mH M j := by
        rcases z0 with z0 | z0
        · exact z0
        · obtain ⟨rfl, rfl⟩ := z0
          omega
      obtain ⟨hj, hk⟩ := z5
      have c49 := FC_49 ok hj hk
      have x := lfD.1.2.2.2 j k hj hk
      rw [x.2.2]
      -- the gates behind, and the next cell
      have beh : ∀ D1 : Cn, (∀ b t, b ≠ l + 15 → D1 b t = C b t) → snd D1 l M → (∀ t, D (l + 15) t ≠ 0 → D1 (l + 15) t ≠ 0) → (k < mH M j → nz D1 l (fo M j k) (fo M j (k + 1))) → P_La_openGatesBehind n D1 (l : Int) ((FC M j + k : Nat) : Int) (fun (_ : Int) (C_16 : Cn) => K (C_16, w32 (((FC M j + k : Nat) : Int) + 1))) := by
        intro D1 d1 d2 d3 d4
        refine f_behind hn hl ok (lf.congr d1) hj hk d2 (fun C2 e1 e2 e3 e4 => ?_)
        rw [w32_n (by omega)]
        have done : ∀ i t, bf M i t j (k + 1) → (t < mH M i → nz C2 l (fo M i t) (fo M i (t + 1))) ∧ (i < mE M → ∀ p, p ≤ mH M (i + 1) → (flo M (i + 1) p = flo M i t ∨ roo M (i + 1) p = roo M i t) → nz C2 l (fo M i t) (fo M (i + 1) p)) := by
          intro i t hb
          rcases bf_s hb with hb2 | ⟨rfl, rfl⟩
          · have y := z4 i t hb2
            refine ⟨fun a => ⟨e3 _ (d3 _ (y.1 a).1), e3 _ (d3 _ (y.1 a).2)⟩, fun a p b c => ?_⟩
            have y2 := y.2 a p b c
            exact ⟨e3 _ (d3 _ y2.1), e3 _ (d3 _ y2.2)⟩
          · exact ⟨fun a => ⟨e3 _ (d4 a).1, e3 _ (d4 a).2⟩, e4⟩
        have fr : ∀ b t, b ≠ l + 15 → C2 b t = C b t := fun b t hb => by rw [e1 b t hb, d1 b t hb]
        by_cases e : k = mH M j
        · refine hK _ ⟨j + 1, 0, by omega, ?_, fr, e2, fun i t hb => done i t ?_⟩ (by dsimp only; omega)
          · dsimp only
            rw [FC_s, e]
            omega
          · rw [e]
            exact bf_e.mp hb
        · exact hK _ ⟨j, k + 1, by omega, rfl, fr, e2, done⟩ (by dsimp only; omega)
      refine ⟨by omega, fun q2 => beh D z2 z3 (fun _ ht => ht) (fun a => ?_), fun q2 => ?_⟩
      · rw [roo_k a] at q2
        omega
      · have a : k < mH M j := by
          by_cases a : k = mH M j
          · rw [a, roo_t] at q2
            omega
          · omega
        have tk := ok.tin a
        have m6 := ok.m
        have c492 := FC_49 ok hj (k := k + 1) (by omega)
        have key : P_La_openGate n D (l : Int) ((FC M j + k : Nat) : Int) ((FC M j + (k + 1) : Nat) : Int) ((2 + mT M j k : Nat) : Int) (fun (_ : Int) (C_12 : Cn) => P_La_openGatesBehind n C_12 (l : Int) ((FC M j + k : Nat) : Int) (fun (_ : Int) (C_16 : Cn) => K (C_16, w32 (((FC M j + k : Nat) : Int) + 1)))) :=
          f_gate hn hl ok c49 c492 (lfD.fo hj hk) (lfD.fo hj (by omega)) (fo_nF hj hk) (fo_nF hj (by omega)) (Or.inr ⟨mT M j k, rfl, j, k, hj, a, rfl, Or.inl ⟨rfl, rfl⟩⟩) z3 (fun C2 e1 e2 e3 e4 => beh C2 (fun b t hb => by rw [e1 b t hb, z2 b t hb]) e2 e4 (fun _ => e3))
        have w1 : w32 (((FC M j + k : Nat) : Int) + 1) = ((FC M j + (k + 1) : Nat) : Int) := by
          rw [w32_s (by omega)]
          omega
        have w2 : w32 (2 + roo M j k) = ((2 + mT M j k : Nat) : Int) := by
          rw [roo_k a, w32_s (by omega)]
          omega
        rw [← w1, ← w2] at key
        exact key
  -- the first half: all gates are shut
  refine lp_rule (fun (z : Cn × Int) => ∃ f : Nat, f ≤ nF M ∧ z.2 = (f : Int) ∧ (∀ b t, b ≠ l + 15 → z.1 b t = C b t) ∧ (∀ f2 g, f2 < f → g < nF M → z.1 (l + 15) (19 * f2 + g) = 0)) (fun z => (20 - z.2).toNat) ?_ (C, 0) ⟨0, by omega, rfl, fun _ _ _ => rfl, fun f2 g hf => absurd hf (Nat.not_lt_zero f2)⟩
  rintro ⟨D, v1⟩ ⟨f, z0, z1, z2, z3⟩ K hK
  dsimp only at z1 z2 z3
  subst z1
  unfold B_La_openGates_2
  simp only [lS hn hl, Int.toNat_natCast, true_and]
  have e14 : ∀ D : Cn, (∀ b t, b ≠ l + 15 → D b t = C b t) → D l 14 = ((nF M : Nat) : Int) := fun D hD => by rw [hD _ _ (by omega), lf.2.1, nfE]
  rw [e14 D z2]
  refine ⟨fun q => half D z2 (fun f2 g h1 h2 => z3 f2 g (by omega) h2), fun q => ?_⟩
  refine lp_rule (fun (z : Cn × Int) => ∃ g : Nat, g ≤ nF M ∧ z.2 = (g : Int) ∧ (∀ b t, b ≠ l + 15 → z.1 b t = C b t) ∧ (∀ f2 g2, f2 < f → g2 < nF M → z.1 (l + 15) (19 * f2 + g2) = 0) ∧ (∀ g2, g2 < g → z.1 (l + 15) (19 * f + g2) = 0)) (fun z => (20 - z.2).toNat) ?_ (D, 0) ⟨0, by omega, rfl, z2, z3, fun g2 hg => absurd hg (Nat.not_lt_zero g2)⟩
  rintro ⟨D2, v2⟩ ⟨g, y0, y1, y2, y3, y4⟩ K2 hK2
  dsimp only at y1 y2 y3 y4
  subst y1
  have w1 : w32 (w32 ((f : Int) * 19) + (g : Int)) = ((19 * f + g : Nat) : Int) := by
    rw [w32_s (x := (f : Int) * 19) (by omega), w32_s (by omega)]
    omega
  unfold B_La_openGates_12
  simp only [lS hn hl, Int.toNat_natCast, true_and, w1]
  clear w1
  rw [e14 D2 y2]
  refine ⟨fun q2 => ?_, fun q2 => ⟨by omega, fun C25 c25 => ?_⟩⟩
  · rw [w32_n (by omega)]
    refine hK _ ⟨f + 1, by omega, rfl, y2, fun f2 g2 h1 h2 => ?_⟩ (by dsimp only; omega)
    by_cases e : f2 = f
    · rw [e]
      exact y4 g2 (by omega)
    · exact y3 f2 g2 (by omega) h2
  · rw [w32_n (by omega)]
    refine hK2 _ ⟨g + 1, by omega, rfl, fun b t hb => ?_, fun f2 g2 h1 h2 => ?_, fun g2 h1 => ?_⟩ (by dsimp only; omega)
    · dsimp only
      rw [c25, wr_ne (fun q => hb q.1), y2 b t hb]
    · dsimp only
      rw [c25, wr_ne (fun q => by omega)]
      exact y3 f2 g2 h1 h2
    · dsimp only
      rw [c25]
      by_cases e : g2 = g
      · rw [e, wr_same]
      · rw [wr_ne (fun q => by omega)]
        exact y4 g2 (by omega)
