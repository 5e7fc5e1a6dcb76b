/-! my own: the reference's steps -/
def gM (C : Cn) (m : Nat) (M : Mp) : Prop := C 91 0 = m ∧ C 91 10 = mE M ∧ (∀ i, i < m → C 103 i = mF M i ∧ C 104 i = mL M i) ∧ ∀ j, j ≤ mE M → SR C M j
theorem gM.congr {C D : Cn} {m : Nat} {M : Mp} (e12 : mE M ≤ 12) (h : gM C m M) (g : ∀ b t, (b = 91 ∧ (t = 0 ∨ t = 10)) ∨ (101 ≤ b ∧ b ≤ 119) → D b t = C b t) : gM D m M := by
  obtain ⟨a, b, c, d⟩ := h
  refine ⟨by rw [g _ _ (by omega)]; exact a, by rw [g _ _ (by omega)]; exact b, fun i hi => ?_, fun j hj => ?_⟩
  · rw [g _ _ (by omega), g _ _ (by omega)]
    exact c i hi
  · exact (d j hj).congr (fun t => g _ _ (by omega)) (g _ _ (by omega))
theorem g_has {n : Nat} {C : Cn} {v : Int} {p : Nat → Prop} {i : Nat} {Q : Int → Prop} (hv : bS v p) (hi : i < 6) (h1 : p i → Q 1) (h0 : ¬ p i → Q 0) : P_G_has n C v (i : Int) Q := by
  unfold P_G_has J_G_has_14
  have b := (hv.has hi).1
  by_cases c : p i
  · rw [if_pos (b.mpr c)]
    exact ⟨Or.inr rfl, h1 c⟩
  · rw [if_neg (fun w => c (b.mp w))]
    exact ⟨Or.inl rfl, h0 c⟩
theorem g_bounds {n : Nat} {C : Cn} {m j k : Nat} {v : Int} {M : Mp} {p : Nat → Prop} {Q : Int → Cn → Prop} (hn : 320 ≤ n) (ok : okM M) (gm : gM C m M) (hj : j ≤ mE M) (hk : k ≤ mH M j) (hv : bS v p)
    (h : ∀ (C2 : Cn) (fl rf : Int), (∀ b t, ¬ (b = 91 ∧ (t = 25 ∨ t = 26)) → C2 b t = C b t) → C2 91 25 = fl → C2 91 26 = rf → isFl M p j k fl → isRf M p j k rf → Q 0 C2) : P_G_bounds n C 91 (j : Int) (k : Int) v Q := by
  have e12 := ok.e
  have m6 := ok.m
  have h6 := ok.h6 j
  have sr := gm.2.2.2 j hj
  have rj := gR106 hn (by omega : j < 13)
  unfold P_G_bounds
  simp only [gS hn, Int.reduceToNat, true_and]
  intro C2 c2 C3 c3
  -- the roof
  have roof : ∀ (D : Cn) (fl : Int), (∀ b t, ¬ (b = 91 ∧ (t = 25 ∨ t = 26)) → D b t = C b t) → D 91 25 = fl → D 91 26 = -1 → isFl M p j k fl → ∃ f, lp (B_G_bounds_64 n 91 (j : Int) (k : Int) v Q) f (D, ((mH M j : Nat) : Int) - 1) := by
    intro D fl d1 d2 d3 hfl
    refine lp_rule (fun (z : Cn × Int) => ∃ t : Nat, k ≤ t ∧ t ≤ mH M j ∧ z.2 = (t : Int) - 1 ∧ (∀ b t, ¬ (b = 91 ∧ (t = 25 ∨ t = 26)) → z.1 b t = C b t) ∧ z.1 91 25 = fl ∧ ((z.1 91 26 = -1 ∧ ∀ u, t ≤ u → u < mH M j → ¬ p (mT M j u)) ∨ ∃ w, t ≤ w ∧ w < mH M j ∧ p (mT M j w) ∧ z.1 91 26 = ((mT M j w : Nat) : Int) ∧ ∀ u, t ≤ u → u < w → ¬ p (mT M j u))) (fun z => (z.2 + 1).toNat) ?_ (D, ((mH M j : Nat) : Int) - 1) ⟨mH M j, hk, Nat.le_refl _, rfl, d1, d2, Or.inl ⟨d3, fun u h1 h2 => by omega⟩⟩
    rintro ⟨D2, v4⟩ ⟨t, z0, z1, z2, z3, z4, z5⟩ K hK
    dsimp only at z2 z3 z4 z5
    subst z2
    unfold B_G_bounds_64
    simp only [gS hn, rj, Int.reduceToNat, Int.toNat_natCast, true_and]
    refine ⟨fun q => ?_, fun q => ?_⟩
    · have et : t = k := by omega
      subst et
      refine h D2 fl (D2 91 26) z3 z4 rfl hfl ?_
      rcases z5 with z5 | ⟨w, w1, w2, w3, w4, w5⟩
      · exact Or.inl z5
      · exact Or.inr ⟨w, w1, w2, w3, w4, w5⟩
    · obtain ⟨s, rfl⟩ : ∃ s, t = s + 1 := ⟨t - 1, by omega⟩
      have es : (((s + 1 : Nat) : Int) - 1).toNat = s := by omega
      have w1 : w32 (((s + 1 : Nat) : Int) - 1 + -1) = (s : Int) - 1 := by
        rw [w32_s (by omega)]
        omega
      rw [es, w1]
      clear w1
      rw [z3 _ _ (by omega), sr.1 s (by omega)]
      have ts := ok.tin (j := j) (k := s) (by omega)
      refine ⟨by omega, by omega, g_has hv (by omega) (fun c => ⟨fun q2 => absurd q2 (by decide), fun _ C20 c20 => ?_⟩) (fun c => ⟨fun _ => ?_, fun q2 => absurd rfl q2⟩)⟩
      · refine hK _ ⟨s, by omega, by omega, rfl, fun b t hb => ?_, ?_, Or.inr ⟨s, by omega, by omega, c, ?_, fun u h1 h2 => by omega⟩⟩ (by dsimp only; omega)
        · dsimp only
          rw [c20, wr_ne (by omega), z3 b t hb]
        · dsimp only
          rw [c20, wr_ne (by omega), z4]
        · dsimp only
          rw [c20, wr_same]
      · refine hK _ ⟨s, by omega, by omega, rfl, z3, z4, ?_⟩ (by dsimp only; omega)
        have ext : ∀ u (W : Nat), (∀ u, s + 1 ≤ u → u < W → ¬ p (mT M j u)) → s ≤ u → u < W → ¬ p (mT M j u) := by
          intro u W hw h1 h2
          by_cases e : u = s
          · rw [e]
            exact c
          · exact hw u (by omega) h2
        rcases z5 with z5 | ⟨w, w1, w2, w3, w4, w5⟩
        · exact Or.inl ⟨z5.1, fun u h1 h2 => ext u _ z5.2 h1 h2⟩
        · exact Or.inr ⟨w, by omega, w2, w3, w4, fun u h1 h2 => ext u _ w5 h1 h2⟩
  -- the floor
  refine lp_rule (fun (z : Cn × Int) => ∃ t : Nat, t ≤ k ∧ z.2 = (t : Int) ∧ (∀ b t, ¬ (b = 91 ∧ (t = 25 ∨ t = 26)) → z.1 b t = C b t) ∧ z.1 91 26 = -1 ∧ isFl M p j t (z.1 91 25)) (fun z => (10 - z.2).toNat) ?_ (C3, 0) ⟨0, by omega, rfl, fun b t hb => ?_, ?_, Or.inl ⟨?_, fun t ht => absurd ht (Nat.not_lt_zero t)⟩⟩
  · rintro ⟨D, v4⟩ ⟨t, z0, z1, z2, z3, z4⟩ K hK
    dsimp only at z1 z2 z3 z4
    subst z1
    unfold B_G_bounds_13
    simp only [gS hn, rj, Int.reduceToNat, Int.toNat_natCast, true_and]
    refine ⟨fun q => ⟨by omega, fun v4 hv4 => ?_⟩, fun q => ⟨by omega, by omega, ?_⟩⟩
    · have et : t = k := by omega
      subst et
      rw [z2 _ _ (by omega), sr.2, w32_s (by omega)] at hv4
      rw [hv4]
      exact roof D _ z2 rfl z3 z4
    · rw [z2 _ _ (by omega), sr.1 t (by omega)]
      have ts := ok.tin (j := j) (k := t) (by omega)
      refine g_has hv (by omega) (fun c => ⟨fun q2 => absurd q2 (by decide), fun _ C32 c32 => ?_⟩) (fun c => ⟨fun _ => ?_, fun q2 => absurd rfl q2⟩)
      · rw [w32_n (by omega)]
        refine hK _ ⟨t + 1, by omega, rfl, fun b t hb => ?_, ?_, Or.inr ⟨t, by omega, c, ?_, fun u h1 h2 => by omega⟩⟩ (by dsimp only; omega)
        · dsimp only
          rw [c32, wr_ne (by omega), z2 b t hb]
        · dsimp only
          rw [c32, wr_ne (by omega), z3]
        · dsimp only
          rw [c32, wr_same]
      · rw [w32_n (by omega)]
        refine hK _ ⟨t + 1, by omega, rfl, z2, z3, ?_⟩ (by dsimp only; omega)
        have ext : ∀ u (W : Nat), (∀ u, W ≤ u → u < t → ¬ p (mT M j u)) → W ≤ u → u < t + 1 → ¬ p (mT M j u) := by
          intro u W hw h1 h2
          by_cases e : u = t
          · rw [e]
            exact c
          · exact hw u h1 (by omega)
        rcases z4 with z4 | ⟨w, w1, w2, w3, w4⟩
        · exact Or.inl ⟨z4.1, fun u h1 => ext u 0 (fun u _ h2 => z4.2 u h2) (Nat.zero_le _) h1⟩
        · exact Or.inr ⟨w, by omega, w2, w3, fun u h1 h2 => ext u (w + 1) (fun u h3 h4 => w4 u h3 h4) h1 h2⟩
  · dsimp only
    rw [c3, wr_ne (by omega), c2, wr_ne (by omega)]
  · dsimp only
    rw [c3, wr_same]
  · dsimp only
    rw [c3, wr_ne (by omega), c2, wr_same]
/-- who may be floor or roof -/
def inP (M : Mp) (p : Nat → Prop) (a : Int) : Prop := a = -1 ∨ ∃ f : Nat, a = (f : Int) ∧ f < mm M ∧ p f
theorem okM.inPF {M : Mp} (ok : okM M) {p : Nat → Prop} {j k : Nat} {a : Int} (hk : k ≤ mH M j) (h : isFl M p j k a) : inP M p a := by
  rcases h with ⟨rfl, -⟩ | ⟨t, t1, t2, rfl, t3⟩
  · exact Or.inl rfl
  · exact Or.inr ⟨_, rfl, (ok.tin (j := j) (k := t) (by omega)).1, t2⟩
theorem okM.inPR {M : Mp} (ok : okM M) {p : Nat → Prop} {j k : Nat} {a : Int} (h : isRf M p j k a) : inP M p a := by
  rcases h with ⟨rfl, -⟩ | ⟨t, t0, t1, t2, rfl, t3⟩
  · exact Or.inl rfl
  · exact Or.inr ⟨_, rfl, (ok.tin (j := j) (k := t) (by omega)).1, t2⟩
/-- of those of p below i in strip j, the highest is the floor: if and only if they lie next to one another -/
theorem okM.nx_i {M : Mp} (ok : okM M) {p : Nat → Prop} {j i : Nat} {lo hi la : Int} (hi' : i ≤ mH M j) (pl : inP M p lo) (ph : inP M p hi) (ov : ∀ f r : Nat, lo = (f : Int) → hi = (r : Int) → mO M r f) (hla : isFl M p j i la)
    (hh : (i = mH M j ∧ hi = -1) ∨ (i < mH M j ∧ hi = ((mT M j i : Nat) : Int))) : la = lo ↔ nx M p lo hi j := by
  have thH : thI M j hi := by
    rcases hh with hh | hh
    · exact Or.inl hh.2
    · have := ok.tin hh.1
      exact Or.inr ⟨_, hh.2, this.1, this.2⟩
  have below : ∀ v, v < mH M j → ovR M (mT M j v) hi → v < i := by
    intro v hv q
    rcases hh with hh | hh
    · omega
    · rcases q with q | ⟨r, q1, q2⟩
      · omega
      · have e : r = mT M j i := by omega
        rw [e] at q2
        exact (ok.tlt hv hh.1).mp q2
  have below2 : ∀ v, v < i → ovR M (mT M j v) hi := by
    intro v hv
    rcases hh with hh | hh
    · exact Or.inl hh.2
    · exact Or.inr ⟨_, hh.2, ok.tov hv hh.1⟩
  constructor
  · intro e
    subst e
    refine ⟨ok.isFl_th hi' hla, thH, fun u hu pu tu q => ?_⟩
    obtain ⟨v, v1, rfl⟩ := ok.tall hu tu
    have vi := below v v1 q.2
    rcases hla with ⟨rfl, h1⟩ | ⟨t, t1, t2, rfl, t3⟩
    · exact h1 v vi pu
    · rcases q.1 with q1 | ⟨f, q1, q2⟩
      · omega
      · have e : f = mT M j t := by omega
        rw [e] at q2
        exact t3 v ((ok.tlt (by omega) v1).mp q2) vi pu
  · rintro ⟨x1, x2, x3⟩
    rcases x1 with x1 | ⟨f, x1, fm, ft⟩
    · subst x1
      rcases hla with ⟨rfl, h1⟩ | ⟨t, t1, t2, rfl, t3⟩
      · rfl
      · have tt := ok.tin (j := j) (k := t) (by omega)
        exact absurd ⟨Or.inl rfl, below2 t t1⟩ (x3 _ tt.1 t2 tt.2)
    · subst x1
      obtain ⟨l, l1, rfl⟩ := ok.tall fm ft
      have li : l < i := by
        rcases hh with hh | hh
        · omega
        · exact (ok.tlt l1 hh.1).mp (ov _ _ rfl hh.2)
      have pf : p (mT M j l) := by
        rcases pl with pl | ⟨f, p1, p2, p3⟩
        · omega
        · have e : f = mT M j l := by omega
          rw [e] at p3
          exact p3
      rcases hla with ⟨rfl, h1⟩ | ⟨t, t1, t2, rfl, t3⟩
      · exact absurd pf (h1 l li)
      · have tt := ok.tin (j := j) (k := t) (by omega)
        have e : t = l := by
          rcases Nat.lt_trichotomy t l with q | q | q
          · exact absurd pf (t3 l q li)
          · exact q
          · exact absurd ⟨Or.inr ⟨_, rfl, ok.tov q (by omega)⟩, below2 t t1⟩ (x3 _ tt.1 t2 tt.2)
        rw [e]
theorem g_areNext {n : Nat} {C : Cn} {m j : Nat} {v lo hi : Int} {M : Mp} {p : Nat → Prop} {Q : Int → Prop} (hn : 320 ≤ n) (ok : okM M) (gm : gM C m M) (hj : j ≤ mE M) (hv : bS v p) (pl : inP M p lo) (ph : inP M p hi) (ov : ∀ f r : Nat, lo = (f : Int) → hi = (r : Int) → mO M r f)
    (h1 : nx M p lo hi j → Q 1) (h0 : ¬ nx M p lo hi j → Q 0) : P_G_areNext n C 91 (j : Int) v lo hi Q := by
  have e12 := ok.e
  have m6 := ok.m
  have h6 := ok.h6 j
  have sr := gm.2.2.2 j hj
  have rj := gR106 hn (by omega : j < 13)
  refine lp_rule (fun (z : Int × Int) => ∃ t : Nat, t ≤ mH M j ∧ z.2 = (t : Int) ∧ isFl M p j t z.1 ∧ (∀ w, w < t → hi = ((mT M j w : Nat) : Int) → ¬ nx M p lo hi j)) (fun z => (10 - z.2).toNat) ?_ (-1, 0) ⟨0, by omega, rfl, Or.inl ⟨rfl, fun t ht => absurd ht (Nat.not_lt_zero t)⟩, fun w hw => absurd hw (Nat.not_lt_zero w)⟩
  rintro ⟨v5, v6⟩ ⟨t, z0, z1, z2, z3⟩ K hK
  dsimp only at z1 z2
  subst z1
  unfold B_G_areNext_6
  simp only [gS hn, rj, Int.reduceToNat, Int.toNat_natCast, true_and]
  rw [sr.2]
  refine ⟨by omega, fun q => ?_, fun q => ⟨by omega, by omega, fun v7 hv7 => ?_⟩⟩
  · have et : t = mH M j := by omega
    subst et
    unfold J_G_areNext_65 J_G_areNext_82
    by_cases c : hi = -1
    · have iff := ok.nx_i (Nat.le_refl _) pl ph ov z2 (Or.inl ⟨rfl, c⟩)
      by_cases d : v5 = lo
      · rw [if_pos d, if_pos c]
        exact ⟨Or.inr rfl, h1 (iff.mp d)⟩
      · rw [if_neg d]
        exact ⟨Or.inl rfl, h0 (fun w => d (iff.mpr w))⟩
    · have no : ¬ nx M p lo hi j := by
        intro w
        rcases w.2.1 with x | ⟨f, x1, x2, x3⟩
        · exact c x
        · obtain ⟨u, u1, rfl⟩ := ok.tall x2 x3
          exact z3 u u1 x1 w
      have e0 : (if v5 = lo then (if hi = -1 then (1 : Int) else 0) else 0) = 0 := by
        rw [if_neg c, ite_self]
      rw [e0]
      exact ⟨Or.inl rfl, h0 no⟩
  · have ht : t < mH M j := by omega
    have ts := ok.tin ht
    rw [sr.1 t ht] at hv7
    rw [hv7]
    rw [w32_n (by omega)]
    have ext : ∀ u (W : Nat), ¬ p (mT M j t) → (∀ u, W ≤ u → u < t → ¬ p (mT M j u)) → W ≤ u → u < t + 1 → ¬ p (mT M j u) := by
      intro u W c hw h1 h2
      by_cases e : u = t
      · rw [e]
        exact c
      · exact hw u h1 (by omega)
    refine g_has hv (by omega) (fun c => ⟨fun q2 => absurd q2 (by decide), fun _ => ?_⟩) (fun c => ⟨fun _ => ?_, fun q2 => absurd rfl q2⟩)
    · have nxt : ¬ (v5 = lo ∧ ((mT M j t : Nat) : Int) = hi) → K (((mT M j t : Nat) : Int), ((t + 1 : Nat) : Int)) := by
        intro w
        refine hK _ ⟨t + 1, by omega, rfl, Or.inr ⟨t, by omega, c, rfl, fun u h1 h2 => by omega⟩, fun x hx e => ?_⟩ (by dsimp only; omega)
        by_cases ex : x = t
        · rw [ex] at e
          have iff := ok.nx_i (by omega) pl ph ov z2 (Or.inr ⟨ht, e⟩)
          exact fun nn => w ⟨iff.mpr nn, e.symm⟩
        · exact z3 x (by omega) e
      refine ⟨fun d => ⟨fun e => ?_, fun e => nxt (fun w => e w.2)⟩, fun d => nxt (fun w => d w.1)⟩
      have iff := ok.nx_i (by omega) pl ph ov z2 (Or.inr ⟨ht, e.symm⟩)
      exact h1 (iff.mp d)
    · refine hK _ ⟨t + 1, by omega, rfl, ?_, fun x hx e => ?_⟩ (by dsimp only; omega)
      · dsimp only
        rcases z2 with z2 | ⟨w, w1, w2, w3, w4⟩
        · exact Or.inl ⟨z2.1, fun u h1 => ext u 0 c (fun u _ h2 => z2.2 u h2) (Nat.zero_le _) h1⟩
        · exact Or.inr ⟨w, by omega, w2, w3, fun u h1 h2 => ext u (w + 1) c (fun u h3 h4 => w4 u h3 h4) h1 h2⟩
      · by_cases ex : x = t
        · rw [ex] at e
          rcases ph with ph | ⟨f, p1, p2, p3⟩
          · omega
          · have ef : f = mT M j t := by omega
            rw [ef] at p3
            exact absurd p3 c
        · exact z3 x (by omega) e
theorem g_isBetween {n : Nat} {C : Cn} {m j s : Nat} {lo hi : Int} {M : Mp} {Q : Int → Prop} (hn : 320 ≤ n) (ok : okM M) (gm : gM C m M) (hj : j ≤ mE M) (hs : s < mm M) (nl : lo ≠ (s : Int)) (nh : hi ≠ (s : Int)) (nlh : lo = hi → lo = -1) (tl : thI M j lo) (th : thI M j hi)
    (h1 : thr M j s ∧ ins M s lo hi → Q 1) (h0 : ¬ (thr M j s ∧ ins M s lo hi) → Q 0) : P_G_isBetween n C 91 (j : Int) (s : Int) lo hi Q := by
  have e12 := ok.e
  have m6 := ok.m
  have h6 := ok.h6 j
  have sr := gm.2.2.2 j hj
  have rj := gR106 hn (by omega : j < 13)
  unfold P_G_isBetween J_G_isBetween_10
  refine lp_rule (fun (z : Int × Int) => ∃ t : Nat, t ≤ mH M j ∧ z.2 = (t : Int) ∧ (∀ w, w < t → mT M j w ≠ s ∧ hi ≠ ((mT M j w : Nat) : Int)) ∧ ((z.1 = 1 ∧ (lo = -1 ∨ ∃ w, w < t ∧ lo = ((mT M j w : Nat) : Int))) ∨ (z.1 = 0 ∧ lo ≠ -1 ∧ ∀ w, w < t → lo ≠ ((mT M j w : Nat) : Int)))) (fun z => (10 - z.2).toNat) ?_ (_, 0) ⟨0, by omega, rfl, fun w hw => absurd hw (Nat.not_lt_zero w), ?_⟩
  · rintro ⟨v5, v6⟩ ⟨t, z0, z1, z2, z3⟩ K hK
    dsimp only at z1 z2 z3
    subst z1
    unfold B_G_isBetween_15
    simp only [gS hn, rj, Int.reduceToNat, Int.toNat_natCast, true_and]
    rw [sr.2]
    refine ⟨by omega, fun q => h0 ?_, fun q => ⟨by omega, by omega, ?_⟩⟩
    · rintro ⟨x1, x2⟩
      obtain ⟨u, u1, u2⟩ := ok.tall hs x1
      exact (z2 u (by omega)).1 u2
    · have ht : t < mH M j := by omega
      have ts := ok.tin ht
      rw [sr.1 t ht]
      -- the rest of a round
      have rest : ∀ v5' : Int, mT M j t ≠ s → ((v5' = 1 ∧ (lo = -1 ∨ ∃ w, w < t + 1 ∧ lo = ((mT M j w : Nat) : Int))) ∨ (v5' = 0 ∧ lo ≠ -1 ∧ ∀ w, w < t + 1 → lo ≠ ((mT M j w : Nat) : Int))) → J_G_isBetween_58 n C 91 (j : Int) (s : Int) lo hi v5' (t : Int) K Q := by
        intro v5' ns hv5
        unfold J_G_isBetween_58
        simp only [gS hn, rj, Int.reduceToNat, Int.toNat_natCast, true_and]
        rw [sr.1 t ht, w32_n (by omega)]
        refine ⟨by omega, by omega, fun e => h0 ?_, fun e => hK _ ⟨t + 1, by omega, rfl, fun w hw => ?_, hv5⟩ (by dsimp only; omega)⟩
        · rintro ⟨x1, x2⟩
          obtain ⟨u, u1, rfl⟩ := ok.tall hs x1
          rcases x2.2 with y | ⟨r, y1, y2⟩
          · omega
          · have er : r = mT M j t := by omega
            rw [er] at y2
            exact (z2 u ((ok.tlt u1 ht).mp y2)).1 rfl
        · by_cases ew : w = t
          · rw [ew]
            exact ⟨ns, fun x => e x.symm⟩
          · exact z2 w (by omega)
      refine ⟨fun e => ?_, fun e => ⟨fun e2 => rest 1 (fun w => e (by omega)) (Or.inl ⟨rfl, Or.inr ⟨t, by omega, e2.symm⟩⟩), fun e2 => rest v5 (fun w => e (by omega)) ?_⟩⟩
      · have es : s = mT M j t := by omega
        have insR : ovR M s hi := by
          rcases th with th | ⟨r, r1, r2, r3⟩
          · exact Or.inl th
          · obtain ⟨u, u1, rfl⟩ := ok.tall r2 r3
            refine Or.inr ⟨_, r1, ?_⟩
            rw [es]
            refine ok.tov ?_ u1
            rcases Nat.lt_trichotomy t u with x | x | x
            · exact x
            · rw [← x] at r1
              exact absurd (by omega) nh
            · exact absurd r1 (z2 u x).2
        rcases z3 with ⟨rfl, z3⟩ | ⟨rfl, z3, z4⟩
        · refine ⟨Or.inr rfl, h1 ⟨by rw [es]; exact ts.2, ?_, insR⟩⟩
          rcases z3 with z3 | ⟨w, w1, w2⟩
          · exact Or.inl z3
          · refine Or.inr ⟨_, w2, ?_⟩
            rw [es]
            exact ok.tov w1 ht
        · refine ⟨Or.inl rfl, h0 ?_⟩
          rintro ⟨x1, x2⟩
          rcases x2.1 with y | ⟨f, y1, y2⟩
          · exact z3 y
          · rcases tl with tl | ⟨f', t1, t2, t3⟩
            · exact z3 tl
            · obtain ⟨u, u1, rfl⟩ := ok.tall t2 t3
              have ef : f = mT M j u := by omega
              rw [ef, es] at y2
              exact z4 u ((ok.tlt u1 ht).mp y2) t1
      · rcases z3 with ⟨a, z3⟩ | ⟨a, z3, z4⟩
        · refine Or.inl ⟨a, z3.imp id (fun ⟨w, w1, w2⟩ => ⟨w, by omega, w2⟩)⟩
        · refine Or.inr ⟨a, z3, fun w hw => ?_⟩
          by_cases ew : w = t
          · rw [ew]
            exact fun x => e2 x.symm
          · exact z4 w (by omega)
  · dsimp only
    by_cases c : lo = -1
    · rw [if_pos c]
      exact Or.inl ⟨rfl, Or.inl c⟩
    · rw [if_neg c]
      exact Or.inr ⟨rfl, c, fun w hw => absurd hw (Nat.not_lt_zero w)⟩
theorem or01 : or32 0 0 = 0 ∧ or32 0 1 = 1 ∧ or32 1 0 = 1 ∧ or32 1 1 = 1 := by decide +kernel
theorem g_stepsOf {n : Nat} {C : Cn} {m j k s : Nat} {v : Int} {M : Mp} {p : Nat → Prop} {Q : Int → Cn → Prop} (hn : 320 ≤ n) (ok : okM M) (mm' : mm M = m) (gm : gM C m M) (hj : j ≤ mE M) (hk : k ≤ mH M j) (hv : bS v p) (hs : s < m) (ps : ¬ p s)
    (h : ∀ C2 : Cn, (∀ b t, ¬ (b = 91 ∧ (t = 25 ∨ t = 26)) → C2 b t = C b t) → Q (sN M p j k s) C2) : P_G_stepsOf n C 91 (j : Int) (k : Int) v (s : Int) Q := by
  have e12 := ok.e
  have m6 := ok.m
  unfold P_G_stepsOf
  simp only [gS hn, Int.reduceToNat, true_and]
  refine g_bounds hn ok gm hj hk hv (fun C2 fl rf c1 c2 c3 hf hr v5 hv5 v6 hv6 => ?_)
  rw [c2] at hv5
  rw [c3] at hv6
  rw [hv5, hv6]
  have gm2 : gM C2 m M := gm.congr e12 (fun b t hb => c1 b t (by omega))
  have pl := ok.inPF hk hf
  have ph := ok.inPR hr
  have ov := ok.fl_rf hf hr
  have own := ok.nx_own hk hf hr
  have nl : fl ≠ (s : Int) := by
    intro e
    rcases pl with q | ⟨f, p1, p2, p3⟩
    · omega
    · have ef : f = s := by omega
      rw [ef] at p3
      exact ps p3
  have nh : rf ≠ (s : Int) := by
    intro e
    rcases ph with q | ⟨f, p1, p2, p3⟩
    · omega
    · have ef : f = s := by omega
      rw [ef] at p3
      exact ps p3
  have nlh : fl = rf → fl = -1 := by
    intro e
    rcases own.1 with q | ⟨f, p1, p2, p3⟩
    · exact q
    · exact absurd (ov f f p1 (by omega)) (ok.irr p2 p3)
  have hh := h C2 c1
  have frs := ok.fl (i := s) (by omega)
  have fs := gm2.2.2.1 s hs
  -- the answer, once the gap is known
  have ans : ∀ a b : Nat, isGap M p fl rf j a b → ∀ v9 : Int, ((v9 = 1 ∧ ∃ i, a ≤ i ∧ i ≤ b ∧ thr M i s ∧ ins M s fl rf) ∨ (v9 = 0 ∧ ∀ i, a ≤ i → i ≤ b → ¬ (thr M i s ∧ ins M s fl rf))) → J_G_stepsOf_120 n C2 91 (j : Int) (s : Int) (a : Int) (b : Int) v9 Q := by
    intro a b gap v9 hv9
    rw [← sN_eq hf hr gap] at hh
    obtain ⟨x1, x2, x3, x4, -, -⟩ := gap
    unfold stN at hh
    unfold J_G_stepsOf_120
    refine ⟨fun q => ?_, fun q => ?_⟩
    · rcases hv9 with hv9 | hv9
      · omega
      · rw [cit_f (fun ⟨⟨i, i1, i2, i3⟩, w⟩ => hv9.2 i i1 i2 ⟨i3, w⟩)] at hh
        exact hh
    · rcases hv9 with ⟨-, i, i1, i2, i3, i4⟩ | hv9
      · rw [cit_t ⟨⟨i, i1, i2, i3⟩, i4⟩] at hh
        have i31 := i3.1
        have i32 := i3.2
        have wa : w32 ((a : Int) - 1) = (a : Int) - 1 := w32_s (by omega)
        unfold J_G_stepsOf_146 J_G_stepsOf_183 J_G_stepsOf_188 J_G_stepsOf_202 J_G_stepsOf_225
        simp only [gS hn, Int.reduceToNat, Int.toNat_natCast, true_and, fs, gm2.2.1, wa]
        clear wa
        refine ⟨by omega, by omega, fun q1 => ⟨fun q2 => ⟨by omega, ?_⟩, fun q2 => ⟨by omega, by omega, ?_⟩⟩, fun q1 => ?_⟩
        · rw [if_neg (by omega : ¬ (1 : Int) = 0)]
          by_cases d1 : a ≤ mF M s
          · rw [if_pos d1, if_neg (by omega), if_pos (by omega)] at hh
            rw [if_neg (by omega : ¬ ((mF M s : Nat) : Int) ≤ (a : Int) - 1)]
            by_cases d2 : mL M s < j
            · rw [if_pos d2] at hh
              rw [if_neg (by omega)]
              exact hh
            · rw [if_neg d2] at hh
              rw [if_pos (by omega)]
              exact hh
          · rw [if_neg d1, if_neg (by omega), if_pos (by omega)] at hh
            rw [if_pos (by omega : ((mF M s : Nat) : Int) ≤ (a : Int) - 1)]
            by_cases d2 : mL M s < j
            · rw [if_pos d2] at hh
              rw [if_neg (by omega)]
              exact hh
            · rw [if_neg d2] at hh
              rw [if_pos (by omega)]
              exact hh
        · have e1 : (if (if (b : Int) ≤ ((mL M s : Nat) : Int) then (0 : Int) else 1) = 0 then (0 : Int) else 1) = if mL M s < b then 1 else 0 := by
            by_cases d : mL M s < b
            · rw [if_neg (by omega : ¬ (b : Int) ≤ ((mL M s : Nat) : Int)), if_neg (by decide), if_pos d]
            · rw [if_pos (by omega : (b : Int) ≤ ((mL M s : Nat) : Int)), if_pos rfl, if_neg d]
          rw [e1]
          by_cases d1 : a ≤ mF M s
          · rw [if_pos d1, if_neg (by omega)] at hh
            rw [if_neg (by omega : ¬ ((mF M s : Nat) : Int) ≤ (a : Int) - 1)]
            by_cases d3 : mL M s < b
            · rw [if_pos d3] at hh ⊢
              by_cases d2 : mL M s < j
              · rw [if_pos d2] at hh
                rw [if_neg (by omega)]
                exact hh
              · rw [if_neg d2] at hh
                rw [if_pos (by omega)]
                exact hh
            · rw [if_neg d3] at hh ⊢
              rw [if_neg (by omega)] at hh
              rw [if_pos (by omega)]
              exact hh
          · rw [if_neg d1, if_neg (by omega)] at hh
            rw [if_pos (by omega : ((mF M s : Nat) : Int) ≤ (a : Int) - 1)]
            by_cases d3 : mL M s < b
            · rw [if_pos d3] at hh ⊢
              by_cases d2 : mL M s < j
              · rw [if_pos d2] at hh
                rw [if_neg (by omega)]
                exact hh
              · rw [if_neg d2] at hh
                rw [if_pos (by omega)]
                exact hh
            · rw [if_neg d3] at hh ⊢
              rw [if_neg (by omega)] at hh
              rw [if_pos (by omega)]
              exact hh
        · by_cases d1 : a ≤ mF M s
          · rw [if_pos d1, if_pos (by omega)] at hh
            rw [if_neg (by omega)]
            exact hh
          · omega
      · omega
  -- whether it lies in the gap
  have lies : ∀ a b : Nat, isGap M p fl rf j a b → J_G_stepsOf_83 n C2 91 (j : Int) (s : Int) fl rf (a : Int) (b : Int) Q := by
    intro a b gap
    have gap' := gap
    obtain ⟨x1, x2, x3, x4, -, -⟩ := gap'
    refine lp_rule (fun (z : Int × Int) => ∃ t : Nat, a ≤ t ∧ t ≤ b + 1 ∧ z.2 = (t : Int) ∧ ((z.1 = 1 ∧ ∃ i, a ≤ i ∧ i < t ∧ thr M i s ∧ ins M s fl rf) ∨ (z.1 = 0 ∧ ∀ i, a ≤ i → i < t → ¬ (thr M i s ∧ ins M s fl rf)))) (fun z => (20 - z.2).toNat) ?_ (0, (a : Int)) ⟨a, Nat.le_refl _, by omega, rfl, Or.inr ⟨rfl, fun i h1 h2 => by omega⟩⟩
    rintro ⟨v9, v10⟩ ⟨t, z0, z1, z2, z3⟩ K hK
    dsimp only at z2 z3
    subst z2
    unfold B_G_stepsOf_90
    simp only [gS hn, true_and]
    refine ⟨fun q => ans a b gap v9 ?_, fun q => ?_⟩
    · rcases z3 with ⟨e, i, i1, i2, i3⟩ | ⟨e, z3⟩
      · exact Or.inl ⟨e, i, i1, by omega, i3⟩
      · exact Or.inr ⟨e, fun i i1 i2 => z3 i i1 (by omega)⟩
    · have nxt := x4 t z0 (by omega)
      refine g_isBetween hn ok gm2 (by omega) (by omega) nl nh nlh nxt.1 nxt.2.1 (fun w => ?_) (fun w => ?_)
      · rw [w32_n (by omega)]
        refine hK _ ⟨t + 1, by omega, by omega, rfl, Or.inl ⟨?_, t, z0, by omega, w⟩⟩ (by dsimp only; omega)
        dsimp only
        rcases z3 with z3 | z3
        · rw [z3.1]
          exact or01.2.2.2
        · rw [z3.1]
          exact or01.2.1
      · rw [w32_n (by omega)]
        refine hK _ ⟨t + 1, by omega, by omega, rfl, ?_⟩ (by dsimp only; omega)
        dsimp only
        rcases z3 with ⟨e, i, i1, i2, i3⟩ | ⟨e, z3⟩
        · rw [e]
          exact Or.inl ⟨or01.2.2.1, i, i1, by omega, i3⟩
        · rw [e]
          refine Or.inr ⟨or01.1, fun i i1 i2 => ?_⟩
          by_cases ei : i = t
          · rw [ei]
            exact w
          · exact z3 i i1 (by omega)
  -- to the right
  have right : ∀ a : Nat, a ≤ j → (∀ i, a ≤ i → i ≤ j → nx M p fl rf i) → (a = 0 ∨ ¬ nx M p fl rf (a - 1)) → J_G_stepsOf_49 n C2 91 (j : Int) v (s : Int) fl rf (a : Int) Q := by
    intro a aj al ae
    refine lp_rule (fun (v8 : Int) => ∃ b : Nat, j ≤ b ∧ b ≤ mE M ∧ v8 = (b : Int) ∧ ∀ i, j ≤ i → i ≤ b → nx M p fl rf i) (fun v8 => (20 - v8).toNat) ?_ (j : Int) ⟨j, Nat.le_refl _, hj, rfl, fun i h1 h2 => al i (by omega) h2⟩
    rintro v8 ⟨b, z0, z1, z2, z3⟩ K hK
    subst z2
    have fin : (b = mE M ∨ ¬ nx M p fl rf (b + 1)) → J_G_stepsOf_83 n C2 91 (j : Int) (s : Int) fl rf (a : Int) (b : Int) Q := by
      intro be
      refine lies a b ⟨aj, z0, z1, fun i i1 i2 => ?_, ae, be⟩
      by_cases q : i ≤ j
      · exact al i i1 q
      · exact z3 i (by omega) i2
    unfold B_G_stepsOf_52
    simp only [gS hn, Int.reduceToNat, true_and, gm2.2.1]
    refine ⟨fun q => fin (Or.inl (by omega)), fun q => ?_⟩
    rw [w32_n (by omega)]
    refine g_areNext hn ok gm2 (by omega) hv pl ph ov (fun w => ⟨fun q2 => absurd q2 (by decide), fun _ => ?_⟩) (fun w => ⟨fun _ => fin (Or.inr w), fun q2 => absurd rfl q2⟩)
    refine hK _ ⟨b + 1, by omega, by omega, rfl, fun i i1 i2 => ?_⟩ (by omega)
    by_cases e : i = b + 1
    · rw [e]
      exact w
    · exact z3 i i1 (by omega)
  -- to the left
  refine lp_rule (fun (v7 : Int) => ∃ a : Nat, a ≤ j ∧ v7 = (a : Int) ∧ ∀ i, a ≤ i → i ≤ j → nx M p fl rf i) (fun v7 => v7.toNat) ?_ (j : Int) ⟨j, Nat.le_refl _, rfl, fun i h1 h2 => by rw [(by omega : i = j)]; exact own⟩
  rintro v7 ⟨a, z0, z1, z2⟩ K hK
  subst z1
  unfold B_G_stepsOf_22
  simp only [gS hn, true_and]
  refine ⟨fun q => right a z0 z2 (Or.inl (by omega)), fun q => ?_⟩
  have w1 : w32 ((a : Int) - 1) = ((a - 1 : Nat) : Int) := by
    rw [w32_s (by omega)]
    omega
  have w2 : w32 ((a : Int) + -1) = ((a - 1 : Nat) : Int) := by
    rw [w32_s (by omega)]
    omega
  rw [w1, w2]
  clear w1 w2
  refine g_areNext hn ok gm2 (by omega) hv pl ph ov (fun w => ⟨fun q2 => absurd q2 (by decide), fun _ => ?_⟩) (fun w => ⟨fun _ => right a z0 z2 (Or.inr w), fun q2 => absurd rfl q2⟩)
  refine hK _ ⟨a - 1, by omega, rfl, fun i i1 i2 => ?_⟩ (by omega)
  by_cases e : i = a - 1
  · rw [e]
    exact w
  · exact z2 i (by omega) i2
