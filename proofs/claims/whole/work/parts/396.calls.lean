/-! my own: the class's items -/
def tbW (C : Cn) (k : Nat) (y : Nat → Int) : Cn := fun r f => if r < k then C (4 + r) f else if f = 0 then y 0 else if f = 1 then y 1 else ld (y 2) (y 3) (y 4) (y 5) f
theorem tbW_lt {C : Cn} {k r : Nat} {y : Nat → Int} (h : r < k) (f : Nat) : tbW C k y r f = C (4 + r) f := if_pos h
theorem tbW_w {C : Cn} {k f : Nat} {y : Nat → Int} (h : 2 ≤ f) : tbW C k y k f = ld (y 2) (y 3) (y 4) (y 5) f := by
  unfold tbW
  rw [if_neg (by omega), if_neg (by omega), if_neg (by omega)]
theorem tbW_0 {C : Cn} {k : Nat} {y : Nat → Int} : tbW C k y k 0 = y 0 := by
  unfold tbW
  rw [if_neg (by omega), if_pos rfl]
theorem tbW_1 {C : Cn} {k : Nat} {y : Nat → Int} : tbW C k y k 1 = y 1 := by
  unfold tbW
  rw [if_neg (by omega), if_neg (by omega), if_pos rfl]
/-- an item has been read -/
def itmR (T : Nat → Int) (L : Nat) (C : Cn) (k p : Nat) (C2 : Cn) (p2 : Nat) : Prop :=
  ((pit T L k p).1 = 1 ∧ p2 = (pit T L k p).2.1 ∧ C2 2 1 = (k : Int) ∧ C2 2 2 = (pit T L k p).2.2 0 ∧ (0 ≤ C2 2 2 ∧ C2 2 2 < 4) ∧ (∀ i, i < k → ∀ f, f < 6 → C2 (4 + i) f = C (4 + i) f) ∧ (∀ t, t < 3 → C2 71 t = C 71 t)) ∨
  ∃ (q : Nat) (y : Nat → Int), pit T L k p = (2, q, y) ∧ k < 6 ∧ q ≤ L ∧ p2 = tkE T L q ∧ ((0 ≤ y 0 ∧ y 0 < 6) ∧ (0 ≤ y 1 ∧ y 1 < 10)) ∧ ((bd (y 2) ∧ bd (y 3)) ∧ (bd (y 4) ∧ bd (y 5))) ∧ ¬ (y 2 = y 4 ∧ y 3 = y 5) ∧ (∀ i : Nat, i < k → cApK (tbW C k y) (i : Int) (k : Int)) ∧ C2 2 1 = ((k + 1 : Nat) : Int) ∧ C2 2 2 = C 2 2 ∧ (∀ i, i < k → ∀ f, f < 6 → C2 (4 + i) f = C (4 + i) f) ∧ (∀ f, f < 6 → C2 (4 + k) f = tbW C k y k f) ∧ (∀ t, t < 3 → C2 71 t = C 71 t)
/-- an item can't be read -/
def itmF (T : Nat → Int) (L : Nat) (C : Cn) (k p f : Nat) (C2 : Cn) : Prop :=
  (∀ i, i < k → ∀ f, f < 6 → C2 (4 + i) f = C (4 + i) f) ∧
  (((pit T L k p).1 = 0 ∧ f = (pit T L k p).2.1 ∧ ∀ t, t < 3 → C2 71 t = C 71 t) ∨
  ∃ (q : Nat) (y : Nat → Int), pit T L k p = (2, q, y) ∧ k < 6 ∧ q ≤ L ∧ f = tkS T L q ∧ ((0 ≤ y 0 ∧ y 0 < 6) ∧ (0 ≤ y 1 ∧ y 1 < 10)) ∧ ((bd (y 2) ∧ bd (y 3)) ∧ (bd (y 4) ∧ bd (y 5))) ∧
    (((y 2 = y 4 ∧ y 3 = y 5) ∧ ∀ t, t < 3 → C2 71 t = C 71 t) ∨
    (¬ (y 2 = y 4 ∧ y 3 = y 5) ∧ ∃ i : Nat, i < k ∧ ¬ cApK (tbW C k y) (i : Int) (k : Int) ∧ (∀ j : Nat, j < i → cApK (tbW C k y) (j : Int) (k : Int)) ∧ C2 71 0 = (if cTo (tbW C k y) (i : Int) (k : Int) then 1 else 2) ∧ C2 71 1 = (i : Int) ∧ C2 71 2 = 1)))
def frI (C C2 : Cn) : Prop := ∀ b t, ¬ (b = 72 ∧ 2 ≤ t ∧ t ≤ 6) → ¬ (b = 74 ∧ t < 6) → b ≠ 75 → ¬ (b = 2 ∧ (t = 1 ∨ t = 2)) → ¬ (4 ≤ b ∧ b ≤ 9 ∧ t < 6) → ¬ (b = 71 ∧ t < 3) → C2 b t = C b t
theorem frR.I {C C2 : Cn} (h : frR C C2) : frI C C2 := fun b t h1 h2 h3 _ _ _ => h b t h1 h2 h3
theorem f_wallR {n p L : Nat} {C : Cn} {T : Nat → Int} {kd : Int} {Q : Int → Cn → Prop} {r0 : Nat × Nat × (Nat → Int)} (hf : 91 ≤ n) (tc : TC C T L) (hp : p ≤ L) (tk : TkC C T L p) (k1 : tkK T L p = 1)
    (hr : r0 = cit (wdP T L (tkE T L p) 7) (cit (nuP T L (tkE T L (tkE T L p)) 9) (psg T L kd (tkV T L (tkE T L (tkE T L p))) (tkE T L (tkE T L (tkE T L p)))) (0, tkS T L (tkE T L (tkE T L p)), fun _ => 0)) (psg T L kd 0 (tkE T L p)))
    (h0 : ∀ (f : Nat) (C2 : Cn), r0 = (0, f, fun _ => 0) → frR C C2 → C2 72 6 = (f : Int) → Q 0 C2)
    (h2 : ∀ (q : Nat) (y : Nat → Int) (C2 : Cn), r0 = (2, q, y) → q ≤ L → tkK T L q = 2 → p < q → y 0 = kd → (0 ≤ y 1 ∧ y 1 < 10) → (bd (y 2) ∧ bd (y 3)) → (bd (y 4) ∧ bd (y 5)) → frR C C2 → TkC C2 T L q → C2 74 0 = y 0 → C2 74 1 = y 1 → (∀ f, 2 ≤ f → f ≤ 5 → C2 74 f = ld (y 2) (y 3) (y 4) (y 5) f) → (∀ i, i < 4 → C2 75 i = y (i + 2)) → Q 1 C2) : P_Re_readWall n C 72 kd Q := by
  have b0 := tk_b (T := T) hp
  have b1 := tk_b (T := T) b0.2.2.1
  have b2 := tk_b (T := T) b1.2.2.1
  have s0 := b0.2.2.2.1 (by omega)
  unfold P_Re_readWall
  simp only [fS hf, Int.reduceToNat, true_and]
  refine f_step hf tc b0.2.2.1 tk.2.2.1 (fun C1 f1 t1 => ?_)
  have g1 := frR.st f1
  have tc1 := g1.tc tc
  refine f_isWord (w := 7) hf tc1 b0.2.2.1 t1 (by omega) (fun y7 => ⟨fun x => absurd x (by decide), fun _ => ?_⟩) (fun y7 => ⟨fun _ => ?_, fun x => absurd rfl x⟩)
  · rw [cit_t y7] at hr
    refine f_step hf tc1 b1.2.2.1 t1.2.2.1 (fun C2 f2 t2 => ?_)
    have g2 := g1.tr (frR.st f2)
    have tc2 := g2.tc tc
    refine f_tkNum hf b1.2.2.1 t2 (by omega) (fun y => ⟨fun x => absurd x (by decide), fun _ => ?_⟩) (fun y => ⟨fun _ => ?_, fun x => absurd rfl x⟩)
    · rw [cit_t y] at hr
      intro v2 hv2
      rw [t2.2.2.2 y.1, imin_lt (by have := y.2; omega)] at hv2
      subst hv2
      have vb := tkV_b (T := T) b1.2.2.1
      have y2 := y.2
      refine f_step hf tc2 b2.2.2.1 t2.2.2.1 (fun C3 f3 t3 => ?_)
      have g3 := g2.tr (frR.st f3)
      refine f_wall42 hf (g3.tc tc) b2.2.2.1 t3 (fun f C4 e1 e2 e3 => h0 f C4 (by rw [hr]; exact e1) (g3.tr e2) e3) (fun q y C4 e1 e2 e3 e4 e5 e6 e7 e8 e9 => h2 q y C4 (by rw [hr]; exact e1) e2 e3 (by omega) e5 (by rw [e6]; omega) e7 e8 (g3.tr e9))
    · rw [cit_f y] at hr
      exact f_fails hf t2 (fun E e1 _ e2 => h0 _ E hr (g2.tr e1) e2)
  · rw [cit_f y7] at hr
    refine f_wall42 hf tc1 b0.2.2.1 t1 (fun f C4 e1 e2 e3 => h0 f C4 (by rw [hr]; exact e1) (g1.tr e2) e3) (fun q y C4 e1 e2 e3 e4 e5 e6 e7 e8 e9 => h2 q y C4 (by rw [hr]; exact e1) e2 e3 (by omega) e5 (by rw [e6]; omega) e7 e8 (g1.tr e9))
theorem f_item {n p L k : Nat} {C : Cn} {T : Nat → Int} {Q : Int → Cn → Prop} (hf : 91 ≤ n) (tc : TC C T L) (hp : p ≤ L) (tk : TkC C T L p) (k6 : k ≤ 6) (hk : C 2 1 = (k : Int)) (g : gd (tb C 4 k) k)
    (hS : ∀ (p2 : Nat) (C2 : Cn), p2 ≤ L → p < p2 → frI C C2 → itmR T L C k p C2 p2 → C2 72 4 = (p2 : Int) → Q 1 C2)
    (hF : ∀ (f : Nat) (C2 : Cn), f ≤ L → frI C C2 → itmF T L C k p f C2 → C2 72 6 = (f : Int) → Q 0 C2) : P_Re_readItem n C 72 2 71 Q := by
  have b0 := tk_b (T := T) hp
  have b1 := tk_b (T := T) b0.2.2.1
  have b2 := tk_b (T := T) b1.2.2.1
  unfold P_Re_readItem
  simp only [fS hf, Int.reduceToNat, true_and, hk]
  refine f_isWord (w := 10) hf tc hp tk (by omega) (fun y10 => ⟨fun x => absurd x (by decide), fun _ => ?_⟩) (fun y10 => ⟨fun _ => ?_, fun x => absurd rfl x⟩)
  · -- tide
    have s0 := b0.2.2.2.1 (by rw [y10.1]; decide)
    unfold P_Re_readTide
    simp only [fS hf, Int.reduceToNat, true_and]
    refine f_step hf tc b0.2.2.1 tk.2.2.1 (fun C1 f1 t1 => ?_)
    have g1 := frR.st f1
    refine f_tkNum hf b0.2.2.1 t1 (by omega) (fun y => ⟨fun x => absurd x (by decide), fun _ => ?_⟩) (fun y => ⟨fun _ => ?_, fun x => absurd rfl x⟩)
    · have E : pit T L k p = (1, tkE T L (tkE T L p), fun _ => tkV T L (tkE T L p)) := by
        unfold pit
        rw [cit_t y10, cit_t y]
      intro C2 c2
      rw [t1.2.2.2 y.1, imin_lt (by have := y.2; omega)] at c2
      have vb := tkV_b (T := T) b0.2.2.1
      have y2 := y.2
      have o2 : ∀ b t, ¬ (b = 2 ∧ t = 2) → C2 b t = C1 b t := fun b t hb => by rw [c2, wr_ne hb]
      have x2 : C2 2 2 = tkV T L (tkE T L p) := by rw [c2, wr_same]
      refine ⟨Or.inr trivial, hS (tkE T L (tkE T L p)) C2 b1.2.2.1 (by omega) (fun b t h1 h2 h3 h4 h5 h6 => by rw [o2 b t (by omega), g1 b t h1 h2 h3]) (Or.inl ?_) (by rw [o2 _ _ (by omega), t1.2.2.1])⟩
      rw [E]
      refine ⟨rfl, rfl, by rw [o2 _ _ (by omega), g1 _ _ (by omega) (by omega) (by omega), hk], x2, by rw [x2]; omega, fun i hi f hf6 => by rw [o2 _ _ (by omega), g1 _ _ (by omega) (by omega) (by omega)], fun t ht => by rw [o2 _ _ (by omega), g1 _ _ (by omega) (by omega) (by omega)]⟩
    · have E : pit T L k p = (0, tkS T L (tkE T L p), fun _ => 0) := by
        unfold pit
        rw [cit_t y10, cit_f y]
      refine f_fails hf t1 (fun D e1 _ e2 => ⟨Or.inl rfl, hF _ D (by omega) (g1.tr e1).I ⟨fun i hi f hf6 => (g1.tr e1) _ _ (by omega) (by omega) (by omega), Or.inl ?_⟩ e2⟩)
      rw [E]
      exact ⟨rfl, rfl, fun t ht => (g1.tr e1) _ _ (by omega) (by omega) (by omega)⟩
  · have fail0 : ¬ (kwd T L p < 6 ∧ k < 6) → P_Re_failsHere n C 72 (fun (r : Int) (C2 : Cn) => (r = 0 ∨ r = 1) ∧ (Q r C2)) := by
      intro nk
      have E : pit T L k p = (0, tkS T L p, fun _ => 0) := by
        unfold pit
        rw [cit_f y10, cit_f nk]
      refine f_fails hf tk (fun D e1 _ e2 => hF _ D (by omega) e1.I ⟨fun i hi f hf6 => e1 _ _ (by omega) (by omega) (by omega), Or.inl ?_⟩ e2)
      rw [E]
      exact ⟨rfl, rfl, fun t ht => e1 _ _ (by omega) (by omega) (by omega)⟩
    refine f_kind hf tc hp tk (fun kd e kd6 => ⟨fun x => absurd x (by omega), fun _ => ⟨fun x => ?_, fun x => fail0 (by omega)⟩⟩) (fun e => ⟨fun _ => fail0 (by omega), fun x => absurd (by decide) x⟩)
    clear fail0
    have kl : k < 6 := by omega
    have kk : kwd T L p < 6 ∧ k < 6 := by omega
    have k1 : tkK T L p = 1 := by
      have := (fnd_spec (fun k => wdP T L p (k + 1)) 6).2.1
      exact (this kk.1).1
    have E : pit T L k p = cit (wdP T L (tkE T L p) 7) (cit (nuP T L (tkE T L (tkE T L p)) 9) (psg T L (kd : Int) (tkV T L (tkE T L (tkE T L p))) (tkE T L (tkE T L (tkE T L p)))) (0, tkS T L (tkE T L (tkE T L p)), fun _ => 0)) (psg T L (kd : Int) 0 (tkE T L p)) := by
      unfold pit
      rw [cit_f y10, cit_t kk, e]
    have fl : ∀ f : Nat, (pit T L k p) = (0, f, fun _ => 0) → ∀ C2 : Cn, frR C C2 → C2 72 6 = (f : Int) → (0 ≤ C2 72 6 ∧ C2 72 6 ≤ (L : Int)) → Q 0 C2 := by
      intro f ef C2 e1 e2 e3
      refine hF f C2 (by omega) e1.I ⟨fun i hi f hf6 => e1 _ _ (by omega) (by omega) (by omega), Or.inl ?_⟩ e2
      rw [ef]
      exact ⟨rfl, rfl, fun t ht => e1 _ _ (by omega) (by omega) (by omega)⟩
    refine f_wallR (r0 := pit T L k p) hf tc hp tk k1 E (fun f C2 e1 e2 e3 => ⟨fun _ => fl f e1 C2 e2 e3 ?_, fun x => absurd rfl x⟩) (fun q y C2 e1 qL qk pq ky' w10 V1 V2 fr t2 x0 x1 xl tld => ⟨fun x => absurd x (by decide), fun _ => ?_⟩)
    · -- the fault lies within the text
      have bd0 : ∀ (a : Nat), a ≤ L → tkS T L a ≤ L := fun a ha => by have := tk_b (T := T) ha; omega
      have bd1 : ∀ (a : Nat), a ≤ L → tkE T L a ≤ L := fun a ha => (tk_b (T := T) ha).2.2.1
      have bd2 : ∀ (a : Nat), a ≤ L → pvT T L a ≤ L := fun a ha => (pvT_b (T := T) ha).2
      have z5 : ∀ (a b c d e : Int) (p : Nat), p ≤ L → psg5 T L a b c d e p = (0, f, fun _ => 0) → f ≤ L := fun a b c d e p hp h => by
        unfold psg5 at h
        by_cases x : nuP T L (pvT T L p) 99
        · rw [cit_t x] at h
          have x2 : (2 : Nat) = 0 := congrArg Prod.fst h
          omega
        · rw [cit_f x] at h
          have := congrArg (fun z => z.2.1) h
          dsimp only at this
          rw [← this]
          exact bd0 _ (bd2 _ hp)
      have z4 : ∀ (a b c d : Int) (p : Nat), p ≤ L → psg4 T L a b c d p = (0, f, fun _ => 0) → f ≤ L := fun a b c d p hp h => by
        unfold psg4 at h
        by_cases x : nuP T L (pvT T L p) 99
        · rw [cit_t x] at h
          exact z5 _ _ _ _ _ _ (bd1 _ (bd2 _ hp)) h
        · rw [cit_f x] at h
          have := congrArg (fun z => z.2.1) h
          dsimp only at this
          rw [← this]
          exact bd0 _ (bd2 _ hp)
      have z3 : ∀ (a b c d : Int) (p : Nat), p ≤ L → psg3 T L a b c d p = (0, f, fun _ => 0) → f ≤ L := fun a b c d p hp h => by
        unfold psg3 at h
        by_cases x : wdP T L p 9
        · rw [cit_t x] at h
          exact z4 _ _ _ _ _ (bd1 _ hp) h
        · rw [cit_f x] at h
          have := congrArg (fun z => z.2.1) h
          dsimp only at this
          rw [← this]
          exact bd0 _ hp
      have z2 : ∀ (a b c : Int) (p : Nat), p ≤ L → psg2 T L a b c p = (0, f, fun _ => 0) → f ≤ L := fun a b c p hp h => by
        unfold psg2 at h
        by_cases x : nuP T L (pvT T L p) 99
        · rw [cit_t x] at h
          exact z3 _ _ _ _ _ (bd1 _ (bd2 _ hp)) h
        · rw [cit_f x] at h
          have := congrArg (fun z => z.2.1) h
          dsimp only at this
          rw [← this]
          exact bd0 _ (bd2 _ hp)
      have z1 : ∀ (a b : Int) (p : Nat), p ≤ L → psg1 T L a b p = (0, f, fun _ => 0) → f ≤ L := fun a b p hp h => by
        unfold psg1 at h
        by_cases x : nuP T L (pvT T L p) 99
        · rw [cit_t x] at h
          exact z2 _ _ _ _ (bd1 _ (bd2 _ hp)) h
        · rw [cit_f x] at h
          have := congrArg (fun z => z.2.1) h
          dsimp only at this
          rw [← this]
          exact bd0 _ (bd2 _ hp)
      have z0 : ∀ (a b : Int) (p : Nat), p ≤ L → psg T L a b p = (0, f, fun _ => 0) → f ≤ L := fun a b p hp h => by
        unfold psg at h
        by_cases x : wdP T L p 8
        · rw [cit_t x] at h
          exact z1 _ _ _ (bd1 _ hp) h
        · rw [cit_f x] at h
          have := congrArg (fun z => z.2.1) h
          dsimp only at this
          rw [← this]
          exact bd0 _ hp
      have fL : f ≤ L := by
        rw [E] at e1
        by_cases x : wdP T L (tkE T L p) 7
        · rw [cit_t x] at e1
          by_cases x2 : nuP T L (tkE T L (tkE T L p)) 9
          · rw [cit_t x2] at e1
            exact z0 _ _ _ b2.2.2.1 e1
          · rw [cit_f x2] at e1
            have := congrArg (fun z => z.2.1) e1
            dsimp only at this
            rw [← this]
            exact bd0 _ b1.2.2.1
        · rw [cit_f x] at e1
          exact z0 _ _ _ b0.2.2.1 e1
      rw [e3]
      omega
    · -- a wall has been read
      have bq := tk_b (T := T) qL
      have kd6 : 0 ≤ y 0 ∧ y 0 < 6 := by rw [ky']; omega
      have row : ∀ i, i < k → ∀ f, C2 (4 + i) f = C (4 + i) f := fun i hi f => fr _ _ (by omega) (by omega) (by omega)
      have e71 : ∀ t, t < 3 → C2 71 t = C 71 t := fun t ht => fr _ _ (by omega) (by omega) (by omega)
      have failW : (y 2 = y 4 ∧ y 3 = y 5) → P_Re_failsHere n C2 72 (fun (r : Int) (C2 : Cn) => (r = 0 ∨ r = 1) ∧ (Q r C2)) := by
        intro sm
        refine f_fails hf t2 (fun D d1 _ d2 => hF _ D (by omega) (fr.tr d1).I ⟨fun i hi f hf6 => (fr.tr d1) _ _ (by omega) (by omega) (by omega), Or.inr ⟨q, y, e1, kl, qL, rfl, ⟨kd6, w10⟩, ⟨V1, V2⟩, Or.inl ⟨sm, fun t ht => (fr.tr d1) _ _ (by omega) (by omega) (by omega)⟩⟩⟩ d2)
      have allW : ¬ (y 2 = y 4 ∧ y 3 = y 5) → J_Re_readItem_83 n C2 72 2 71 0 Q := by
        intro ns
        have l := ld_ok V1 V2 ns
        unfold J_Re_readItem_83
        simp only [fS hf, Int.reduceToNat, true_and]
        refine ⟨fun _ => ?_, fun x => absurd trivial x⟩
        have o74 : okO n ((74 : Nat) : Int) 7 := by
          have : okO n 74 7 := by simp only [fS hf]
          exact this
        have ww : wb n C2 ((74 : Nat) : Int) := ⟨o74, by
          show bd (C2 74 2) ∧ bd (C2 74 3) ∧ bd (C2 74 4) ∧ bd (C2 74 5)
          rw [xl 2 (by omega) (by omega), xl 3 (by omega) (by omega), xl 4 (by omega) (by omega), xl 5 (by omega) (by omega)]
          exact l.1⟩
        have wi : ∀ i, i < k → wb n C2 ((4 + i : Nat) : Int) := fun i hi => ⟨(f3R hf (by omega)).2, by
          rw [Int.toNat_natCast, row i hi, row i hi, row i hi, row i hi]
          have := g.bd4 hi
          rw [tb_lt hi, tb_lt hi, tb_lt hi, tb_lt hi] at this
          exact this⟩
        have ordi : ∀ i, i < k → fK C2 ((4 + i : Nat) : Int) < lK C2 ((4 + i : Nat) : Int) := fun i hi => by
          have := (g.2.1 i hi).2
          unfold fK lK at this ⊢
          simp only [Int.toNat_natCast, tb_lt hi] at this ⊢
          rw [row i hi, row i hi, row i hi, row i hi]
          exact this
        have ordw : fK C2 ((74 : Nat) : Int) < lK C2 ((74 : Nat) : Int) := by
          unfold fK lK
          simp only [Int.toNat_natCast]
          rw [xl 2 (by omega) (by omega), xl 3 (by omega) (by omega), xl 4 (by omega) (by omega), xl 5 (by omega) (by omega)]
          exact l.2
        have tr1 : ∀ i, i < k → ∀ f, 2 ≤ f → f ≤ 5 → C2 (4 + i) f = tbW C k y i f := fun i hi f _ _ => by rw [row i hi, tbW_lt hi]
        have tr2 : ∀ f, 2 ≤ f → f ≤ 5 → C2 74 f = tbW C k y k f := fun f h1 h2 => by rw [xl f h1 h2, tbW_w h1]
        have ap : ∀ i, i < k → (cAp C2 ((4 + i : Nat) : Int) ((74 : Nat) : Int) ↔ cApK (tbW C k y) (i : Int) (k : Int)) := fun i hi => by
          rw [cAp_K (wi i hi).2 ww.2 (ordi i hi) ordw]
          exact cApK_tr (tr1 i hi) tr2
        have to : ∀ i, i < k → (cTo C2 ((4 + i : Nat) : Int) ((74 : Nat) : Int) ↔ cTo (tbW C k y) (i : Int) (k : Int)) := fun i hi => cTo_tr (tr1 i hi) tr2
        refine f_allows (w := 74) hf k6 (by rw [fr _ _ (by omega) (by omega) (by omega), hk]) wi ww (Or.inr rfl) (fun al => ?_) (fun i hi _ na al D d1 d2 d3 d4 => ?_)
        · refine ⟨fun x => absurd x (by decide), fun _ => ?_⟩
          refine f_add (e := 2) (b := 74) (p := k) hf (Or.inl rfl) kl (by rw [fr _ _ (by omega) (by omega) (by omega), hk]) o74 (by omega) (by omega) (fun D a1 a2 a3 => ?_)
          have a3' : ∀ f, f < 6 → D (4 + k) f = C2 74 f := fun f h6 => by
            have := a3 f h6
            rw [(by omega : 2 + 2 + k = 4 + k)] at this
            exact this
          refine hS (tkE T L q) D bq.2.2.1 (by have := bq.2.2.2.1 (by omega); omega) (fun b t h1 h2 h3 h4 h5 h6 => by rw [a1 b t (by omega) (by omega), fr b t h1 h2 h3]) (Or.inr ⟨q, y, e1, kl, qL, rfl, ⟨kd6, w10⟩, ⟨V1, V2⟩, ns, fun i hi => (ap i hi).mp (al i hi (by omega)), a2, ?_, fun i hi f hf6 => ?_, fun f hf6 => ?_, fun t ht => ?_⟩) ?_
          · rw [a1 _ _ (by omega) (by omega), fr _ _ (by omega) (by omega) (by omega)]
          · rw [a1 _ _ (by omega) (by omega), row i hi]
          · rw [a3' f hf6]
            by_cases ef : 2 ≤ f
            · exact tr2 f ef (by omega)
            · have : f = 0 ∨ f = 1 := by omega
              rcases this with rfl | rfl
              · rw [x0, tbW_0]
              · rw [x1, tbW_1]
          · rw [a1 _ _ (by omega) (by omega), e71 t ht]
          · rw [a1 _ _ (by omega) (by omega), t2.2.2.1]
        · refine ⟨fun _ => ?_, fun x => absurd rfl x⟩
          have tD : TkC D T L q := t2.congr (fun t _ _ => d1 _ _ (by omega))
          refine f_fails hf tD (fun F f1 f1' f2 => hF _ F (by omega) (fun b t h1 h2 h3 h4 h5 h6 => by rw [f1 b t h1 h2 h3, d1 b t h6, fr b t h1 h2 h3]) ⟨fun i hi f hf6 => by rw [f1 _ _ (by omega) (by omega) (by omega), d1 _ _ (by omega), row i hi], Or.inr ⟨q, y, e1, kl, qL, rfl, ⟨kd6, w10⟩, ⟨V1, V2⟩, Or.inr ⟨ns, i, hi, fun w => na ((ap i hi).mpr w), fun j hj => (ap j (by omega)).mp (al j hj (by omega)), ?_, ?_, ?_⟩⟩⟩ f2)
          · rw [f1' _ _ (by omega), d2]
            by_cases w : cTo (tbW C k y) (i : Int) (k : Int)
            · rw [if_pos ((to i hi).mpr w), if_pos w]
            · rw [if_neg (fun w2 => w ((to i hi).mp w2)), if_neg w]
          · rw [f1' _ _ (by omega), d3]
          · rw [f1' _ _ (by omega), d4]
      refine ⟨by omega, by omega, fun e4 => ⟨by omega, by omega, ?_⟩, fun e4 => ?_⟩
      · rw [tld 0 (by omega), tld 2 (by omega)] at e4
        rw [tld 1 (by omega), tld 3 (by omega)]
        by_cases e5 : y (1 + 2) = y (3 + 2)
        · rw [if_pos e5]
          unfold J_Re_readItem_83
          simp only [fS hf, true_and]
          exact ⟨fun x => absurd x (by decide), fun _ => failW ⟨e4, e5⟩⟩
        · rw [if_neg e5]
          exact allW (fun w => e5 w.2)
      · rw [tld 0 (by omega), tld 2 (by omega)] at e4
        unfold J_Re_readItem_82
        exact allW (fun w => e4 w.1)
