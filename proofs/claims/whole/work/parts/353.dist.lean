/-! my own: ways and what they cost -/
/-- a walk of at most l edges from f to g, for c, whose inner places are below t -/
def wk (e : Nat → Nat → Nat → Prop) (t : Nat) : Nat → Nat → Nat → Nat → Prop
  | 0 => fun f g c => f = g ∧ c = 0
  | l + 1 => fun f g c => (f = g ∧ c = 0) ∨ ∃ h w c', e f h w ∧ c = w + c' ∧ ((h = g ∧ c' = 0) ∨ (h < t ∧ wk e t l h g c'))
theorem wk_nil (e : Nat → Nat → Nat → Prop) (t l f : Nat) : wk e t l f f 0 := by
  cases l with
  | zero => exact ⟨rfl, rfl⟩
  | succ l => exact Or.inl ⟨rfl, rfl⟩
theorem wk_one {e : Nat → Nat → Nat → Prop} {t f g w : Nat} (h : e f g w) : wk e t 1 f g w := Or.inr ⟨g, w, 0, h, rfl, Or.inl ⟨rfl, rfl⟩⟩
theorem wk_split {e : Nat → Nat → Nat → Prop} {t : Nat} : ∀ l f g c, wk e (t + 1) l f g c → (∃ l', wk e t l' f g c) ∨ ∃ l1 l2 c1 c2, wk e t l1 f t c1 ∧ wk e t l2 t g c2 ∧ c1 + c2 ≤ c := by
  intro l
  induction l with
  | zero =>
    intro f g c h
    exact Or.inl ⟨0, h⟩
  | succ l ih =>
    intro f g c h
    rcases h with h | ⟨h', w, c', h1, h2, h3⟩
    · exact Or.inl ⟨l + 1, Or.inl h⟩
    · rcases h3 with ⟨h3, h4⟩ | ⟨h3, h4⟩
      · exact Or.inl ⟨1, Or.inr ⟨h', w, c', h1, h2, Or.inl ⟨h3, h4⟩⟩⟩
      · rcases ih h' g c' h4 with ⟨l', x⟩ | ⟨l1, l2, c1, c2, x1, x2, x3⟩
        · by_cases q : h' = t
          · subst q
            exact Or.inr ⟨1, l', w, c', wk_one h1, x, by omega⟩
          · exact Or.inl ⟨l' + 1, Or.inr ⟨h', w, c', h1, h2, Or.inr ⟨by omega, x⟩⟩⟩
        · by_cases q : h' = t
          · subst q
            exact Or.inr ⟨1, l2, w, c2, wk_one h1, x2, by omega⟩
          · exact Or.inr ⟨l1 + 1, l2, w + c1, c2, Or.inr ⟨h', w, c1, h1, rfl, Or.inr ⟨by omega, x1⟩⟩, x2, by omega⟩
theorem wk_trans {e : Nat → Nat → Nat → Prop} {t : Nat} : ∀ l1 f g c1, wk e t l1 f g c1 → g < t → ∀ l2 h c2, wk e t l2 g h c2 → ∃ l, wk e t l f h (c1 + c2) := by
  intro l1
  induction l1 with
  | zero =>
    rintro f g c1 ⟨rfl, rfl⟩ _ l2 h c2 x
    exact ⟨l2, by rw [Nat.zero_add]; exact x⟩
  | succ l ih =>
    intro f g c1 x hg l2 h c2 y
    rcases x with ⟨rfl, rfl⟩ | ⟨h', w, c', x1, x2, x3⟩
    · exact ⟨l2, by rw [Nat.zero_add]; exact y⟩
    · rcases x3 with ⟨rfl, rfl⟩ | ⟨x3, x4⟩
      · exact ⟨l2 + 1, Or.inr ⟨h', w, c2, x1, by omega, Or.inr ⟨hg, y⟩⟩⟩
      · obtain ⟨l3, z⟩ := ih h' g c' x4 hg l2 h c2 y
        exact ⟨l3 + 1, Or.inr ⟨h', w, c' + c2, x1, by omega, Or.inr ⟨x3, z⟩⟩⟩
/-- edges go both ways, and lead to places below n -/
def sye (e : Nat → Nat → Nat → Prop) (n : Nat) : Prop := ∀ f g w, e f g w → e g f w ∧ f < n ∧ g < n
theorem wk_rev {e : Nat → Nat → Nat → Prop} {n : Nat} (s : sye e n) : ∀ l f g c, wk e n l f g c → ∃ l', wk e n l' g f c := by
  intro l
  induction l with
  | zero =>
    rintro f g c ⟨rfl, rfl⟩
    exact ⟨0, rfl, rfl⟩
  | succ l ih =>
    intro f g c x
    rcases x with ⟨rfl, rfl⟩ | ⟨h', w, c', x1, x2, x3⟩
    · exact ⟨0, rfl, rfl⟩
    · have sx := s f h' w x1
      rcases x3 with ⟨rfl, rfl⟩ | ⟨x3, x4⟩
      · exact ⟨1, by rw [x2]; exact wk_one sx.1⟩
      · obtain ⟨l', y⟩ := ih h' g c' x4
        obtain ⟨l2, z⟩ := wk_trans l' g h' c' y x3 1 f w (wk_one sx.1)
        exact ⟨l2, by rw [x2, Nat.add_comm]; exact z⟩
/-- d is the least that a walk costs -/
def isD (e : Nat → Nat → Nat → Prop) (n f g d : Nat) : Prop := (∃ l, wk e n l f g d) ∧ ∀ l c, wk e n l f g c → d ≤ c
theorem isD.uniq {e : Nat → Nat → Nat → Prop} {n f g d d2 : Nat} (h : isD e n f g d) (h2 : isD e n f g d2) : d = d2 := by
  obtain ⟨⟨l, a⟩, b⟩ := h
  obtain ⟨⟨l2, a2⟩, b2⟩ := h2
  have := b _ _ a2
  have := b2 _ _ a
  omega
theorem isD.sym {e : Nat → Nat → Nat → Prop} {n f g d : Nat} (s : sye e n) (h : isD e n f g d) : isD e n g f d := by
  obtain ⟨⟨l, a⟩, b⟩ := h
  refine ⟨wk_rev s l f g d a, fun l c x => ?_⟩
  obtain ⟨l', y⟩ := wk_rev s l g f c x
  exact b l' c y
theorem isD.self {e : Nat → Nat → Nat → Prop} {n f d : Nat} (h : isD e n f f d) : d = 0 := by
  have := h.2 0 0 ⟨rfl, rfl⟩
  omega
/-- there is a first edge on the way -/
theorem isD.first {e : Nat → Nat → Nat → Prop} {n f g d : Nat} (s : sye e n) (hne : f ≠ g) (dist : ∀ h, h < n → ∃ d, isD e n h g d) (hd : isD e n f g d) : ∃ h w d', h ≠ f ∧ e f h w ∧ isD e n h g d' ∧ w + d' = d := by
  obtain ⟨⟨l, a⟩, b⟩ := hd
  induction l with
  | zero => exact absurd a.1 hne
  | succ l ih =>
    rcases a with a | ⟨h', w, c', x1, x2, x3⟩
    · exact absurd a.1 hne
    · have sx := s f h' w x1
      by_cases q : h' = f
      · subst q
        rcases x3 with ⟨rfl, rfl⟩ | ⟨x3, x4⟩
        · exact absurd rfl hne
        · have := b l c' x4
          have e : d = c' := by omega
          rw [← e] at x4
          exact ih x4
      · obtain ⟨d', hd'⟩ := dist h' sx.2.2
        have le : d' ≤ c' := by
          rcases x3 with ⟨rfl, rfl⟩ | ⟨x3, x4⟩
          · rw [hd'.self]
            omega
          · exact hd'.2 l c' x4
        have hd2 := hd'
        obtain ⟨⟨l', y⟩, -⟩ := hd2
        obtain ⟨l2, z⟩ := wk_trans 1 f h' w (wk_one x1) sx.2.2 l' g d' y
        have := b l2 _ z
        exact ⟨h', w, d', q, x1, hd', by omega⟩
/-- the potential's row: once every place has been gone on from -/
theorem pot_le {e : Nat → Nat → Nat → Prop} {n : Nat} (s : sye e n) {c : Nat → Int} (h : ∀ f g w, e f g w → c g ≤ c f + (w : Int)) : ∀ l f g cc, wk e n l f g cc → c g ≤ c f + (cc : Int) := by
  intro l
  induction l with
  | zero =>
    rintro f g cc ⟨rfl, rfl⟩
    omega
  | succ l ih =>
    intro f g cc x
    rcases x with ⟨rfl, rfl⟩ | ⟨h', w, c', x1, x2, x3⟩
    · omega
    · have a := h f h' w x1
      rcases x3 with ⟨rfl, rfl⟩ | ⟨x3, x4⟩
      · omega
      · have b := ih h' g c' x4
        omega
/-- edges of fields -/
def ed (M : Mp) (tl : Nat → Nat) (f g w : Nat) : Prop := (∃ s, adjS M f g s ∧ w = tl s) ∨ (adjO M f g ∧ w = 0)
theorem okM.ed1 {M : Mp} (ok : okM M) {tl : Nat → Nat} {f g w w2 : Nat} (h : ed M tl f g w) (h2 : ed M tl f g w2) : w = w2 := by
  rcases h with ⟨s, a, b⟩ | ⟨a, b⟩
  · rcases h2 with ⟨t, c, d⟩ | ⟨c, d⟩
    · rw [b, d, ok.adj1 a c]
    · exact absurd c (ok.adj2 a)
  · rcases h2 with ⟨t, c, d⟩ | ⟨c, d⟩
    · exact absurd a (ok.adj2 c)
    · omega
theorem okM.sye {M : Mp} (ok : okM M) (tl : Nat → Nat) : sye (ed M tl) (nF M) := by
  intro f g w h
  rcases h with ⟨s, a, b⟩ | ⟨a, b⟩
  · have := a.lt ok
    exact ⟨Or.inl ⟨s, a.sym, b⟩, this.1, this.2.1⟩
  · have := a.lt
    exact ⟨Or.inr ⟨a.sym, b⟩, this.1, this.2⟩
/-- every field can be come to from the first one -/
theorem okM.conn0 {M : Mp} (ok : okM M) {tl : Nat → Nat} (ht : ∀ s, s < mm M → tl s ≤ 36) : ∀ j, j ≤ mE M → ∀ k, k ≤ mH M j → ∃ l c, c ≤ 36 * k ∧ wk (ed M tl) (nF M) l (fo M 0 0) (fo M j k) c := by
  have step : ∀ j, j ≤ mE M → (∃ l, wk (ed M tl) (nF M) l (fo M 0 0) (fo M j 0) 0) → ∀ k, k ≤ mH M j → ∃ l c, c ≤ 36 * k ∧ wk (ed M tl) (nF M) l (fo M 0 0) (fo M j k) c := by
    intro j hj h k
    induction k with
    | zero =>
      intro _
      obtain ⟨l, x⟩ := h
      exact ⟨l, 0, by omega, x⟩
    | succ k ih =>
      intro hk
      obtain ⟨l, c, x1, x2⟩ := ih (by omega)
      have tk := ok.tin (j := j) (k := k) (by omega)
      have e1 : ed M tl (fo M j k) (fo M j (k + 1)) (tl (mT M j k)) := Or.inl ⟨mT M j k, ⟨j, k, hj, by omega, rfl, Or.inl ⟨rfl, rfl⟩⟩, rfl⟩
      obtain ⟨l2, y⟩ := wk_trans l _ _ c x2 (fo_nF hj (by omega)) 1 _ _ (wk_one e1)
      have := ht _ tk.1
      exact ⟨l2, c + tl (mT M j k), by omega, y⟩
  have base : ∀ j, j ≤ mE M → ∃ l, wk (ed M tl) (nF M) l (fo M 0 0) (fo M j 0) 0 := by
    intro j
    induction j with
    | zero =>
      intro _
      exact ⟨0, rfl, rfl⟩
    | succ j ih =>
      intro hj
      obtain ⟨l, x⟩ := ih (by omega)
      have e1 : ed M tl (fo M j 0) (fo M (j + 1) 0) 0 := Or.inr ⟨⟨j, 0, 0, by omega, Nat.zero_le _, Nat.zero_le _, Or.inl (by rw [flo_0, flo_0]), Or.inl ⟨rfl, rfl⟩⟩, rfl⟩
      obtain ⟨l2, y⟩ := wk_trans l _ _ 0 x (fo_nF (by omega) (Nat.zero_le _)) 1 _ _ (wk_one e1)
      exact ⟨l2, y⟩
  intro j hj
  exact step j hj (base j hj)
theorem okM.conn {M : Mp} (ok : okM M) {tl : Nat → Nat} (ht : ∀ s, s < mm M → tl s ≤ 36) {f g : Nat} (hf : f < nF M) (hg : g < nF M) : ∃ l c, c ≤ 432 ∧ wk (ed M tl) (nF M) l f g c := by
  have key : ∀ f, f < nF M → ∃ l c, c ≤ 216 ∧ wk (ed M tl) (nF M) l (fo M 0 0) f c := by
    intro f hf
    obtain ⟨j, k, h1, h2, h3, h4⟩ := fd_ex hf
    obtain ⟨l, c, x1, x2⟩ := ok.conn0 ht j (by omega) k h2
    have h6 := ok.h6 j
    rw [fo_new h3, h4] at x2
    exact ⟨l, c, by omega, x2⟩
  obtain ⟨l1, c1, x1, x2⟩ := key f hf
  obtain ⟨l2, c2, y1, y2⟩ := key g hg
  obtain ⟨l3, z⟩ := wk_rev (ok.sye tl) l1 _ _ c1 x2
  obtain ⟨l4, w⟩ := wk_trans l3 f _ c1 z (fo_nF (by omega) (Nat.zero_le _)) l2 g c2 y2
  exact ⟨l4, c1 + c2, by omega, w⟩
/-- a number that is FAR or a walk's, and not above any walk's -/
def aD (e : Nat → Nat → Nat → Prop) (n f g : Nat) (v : Int) : Prop := v = 1000000 ∨ ∃ (c l : Nat), v = (c : Int) ∧ wk e n l f g c
theorem okM.toD {M : Mp} (ok : okM M) {tl : Nat → Nat} (ht : ∀ s, s < mm M → tl s ≤ 36) {f g : Nat} (hf : f < nF M) (hg : g < nF M) {v : Int} (h1 : aD (ed M tl) (nF M) f g v) (h2 : ∀ l c, wk (ed M tl) (nF M) l f g c → v ≤ (c : Int)) : ∃ d : Nat, v = (d : Int) ∧ d ≤ 432 ∧ isD (ed M tl) (nF M) f g d := by
  obtain ⟨l, c, x1, x2⟩ := ok.conn ht hf hg
  have := h2 l c x2
  rcases h1 with h1 | ⟨d, l', h1, h3⟩
  · omega
  · refine ⟨d, h1, by omega, ⟨l', h3⟩, fun l c y => ?_⟩
    have := h2 l c y
    omega
/-- tolls -/
def tlF (k w t : Int) : Int := if k = 1 then w32 (w + 2) else if k = 2 then w32 (w * w32 (t + 1)) else if k = 3 then w32 (2 * w32 (w + 2)) else if k = 4 then imax 0 (w32 (w32 (w * w32 (t + 1)) - 3)) else if k = 5 then w32 (Int.tdiv w 2) else w
set_option maxRecDepth 20000 in
theorem tlF_n : ∀ k, k < 6 → ∀ w, w < 10 → ∀ t, t < 4 → 0 ≤ tlF (k : Nat) (w : Nat) (t : Nat) ∧ tlF (k : Nat) (w : Nat) (t : Nat) ≤ 36 := by decide +kernel
theorem tlF_b {k w t : Int} (hk : 0 ≤ k ∧ k < 6) (hw : 0 ≤ w ∧ w < 10) (ht : 0 ≤ t ∧ t < 4) : 0 ≤ tlF k w t ∧ tlF k w t ≤ 36 := by
  have := tlF_n k.toNat (by omega) w.toNat (by omega) t.toNat (by omega)
  rw [(by omega : ((k.toNat : Nat) : Int) = k), (by omega : ((w.toNat : Nat) : Int) = w), (by omega : ((t.toNat : Nat) : Int) = t)] at this
  exact this
theorem f_toll {n : Nat} {C : Cn} {k w t : Int} {Q : Int → Prop} (h : Q (tlF k w t)) : P_Wa_tollOf n C k w t Q := by
  unfold tlF at h
  refine ⟨fun e => ?_, fun e => ?_, fun e => ?_, fun e => ?_, fun e => ?_, fun e => ?_⟩
  · rw [if_pos e] at h
    exact h
  · rw [if_neg (by omega), if_pos e] at h
    exact h
  · rw [if_neg (by omega), if_neg (by omega), if_pos e] at h
    exact h
  · rw [if_neg (by omega), if_neg (by omega), if_neg (by omega), if_pos e] at h
    exact h
  · rw [if_neg (by omega), if_neg (by omega), if_neg (by omega), if_neg (by omega), if_pos e] at h
    exact h
  · rw [if_neg (by omega), if_neg (by omega), if_neg (by omega), if_neg (by omega), if_neg (by omega)] at h
    exact h
theorem g_toll {n : Nat} {C : Cn} {a : Int} {Q : Int → Prop} (hn : 320 ≤ n) (ga : gr n a) (h : Q (tlF (C a.toNat 0) (C a.toNat 1) (C 91 2))) : P_G_toll n C 91 a Q := by
  unfold tlF at h
  unfold P_G_toll
  simp only [gS hn, Int.reduceToNat, true_and]
  refine ⟨ga.1, ga.i (by decide) (by decide), fun v3 hv3 => ⟨ga.i (by decide) (by decide), fun e => ?_, fun e => ?_, fun e => ?_, fun e => ?_, fun e => ?_, fun e => ?_⟩⟩
  · rw [if_pos e] at h
    exact h
  · rw [if_neg (by omega), if_pos e] at h
    rw [hv3]
    exact h
  · rw [if_neg (by omega), if_neg (by omega), if_pos e] at h
    exact h
  · rw [if_neg (by omega), if_neg (by omega), if_neg (by omega), if_pos e] at h
    rw [hv3]
    exact h
  · rw [if_neg (by omega), if_neg (by omega), if_neg (by omega), if_neg (by omega), if_pos e] at h
    exact h
  · rw [if_neg (by omega), if_neg (by omega), if_neg (by omega), if_neg (by omega), if_neg (by omega)] at h
    exact h
