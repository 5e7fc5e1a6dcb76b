/-! my own: rows of ends, strictly ahead of one another -/
/-- the rows X, Y hold m ends, whose keys are just those of S -/
def En (X Y : Nat → Int) (m : Int) (S : Int → Prop) : Prop :=
  (∀ e f : Nat, e < f → (f : Int) < m → ky (X e) (Y e) < ky (X f) (Y f)) ∧ (∀ e : Nat, (e : Int) < m → bd (X e) ∧ bd (Y e)) ∧ (∀ k, (∃ e : Nat, (e : Int) < m ∧ ky (X e) (Y e) = k) ↔ S k)
theorem En.nil (X Y : Nat → Int) : En X Y 0 (fun _ => False) := ⟨fun e f h1 h2 => by omega, fun e h => by omega, fun k => ⟨fun ⟨e, h, _⟩ => by omega, fun h => h.elim⟩⟩
theorem En.iff {X Y : Nat → Int} {m : Int} {S T : Int → Prop} (h : En X Y m S) (hs : ∀ k, S k ↔ T k) : En X Y m T := ⟨h.1, h.2.1, fun k => (h.2.2 k).trans (hs k)⟩
theorem En.same {X Y : Nat → Int} {m : Int} {S : Int → Prop} {k0 : Int} (h : En X Y m S) (h0 : ∃ e : Nat, (e : Int) < m ∧ ky (X e) (Y e) = k0) : En X Y m (fun k => S k ∨ k = k0) :=
  h.iff (fun k => ⟨Or.inl, fun q => q.elim id (fun e => e ▸ (h.2.2 k0).mp h0)⟩)
theorem En.congr {X Y X2 Y2 : Nat → Int} {m : Int} {S : Int → Prop} (h : En X Y m S) (hx : ∀ e : Nat, (e : Int) < m → X2 e = X e) (hy : ∀ e : Nat, (e : Int) < m → Y2 e = Y e) : En X2 Y2 m S := by
  refine ⟨fun e f h1 h2 => ?_, fun e h1 => ?_, fun k => ?_⟩
  · rw [hx e (by omega), hy e (by omega), hx f h2, hy f h2]
    exact h.1 e f h1 h2
  · rw [hx e h1, hy e h1]
    exact h.2.1 e h1
  · rw [← h.2.2 k]
    constructor
    · rintro ⟨e, h1, h2⟩
      exact ⟨e, h1, by rw [hx e h1, hy e h1] at h2; exact h2⟩
    · rintro ⟨e, h1, h2⟩
      exact ⟨e, h1, by rw [hx e h1, hy e h1]; exact h2⟩
/-- an end comes in at its place -/
theorem En.add {X Y X2 Y2 : Nat → Int} {m x y : Int} {S : Int → Prop} {p : Nat} (h : En X Y m S) (bx : bd x) (b2 : bd y) (hp : (p : Int) ≤ m) (h1 : ∀ e, e < p → ky (X e) (Y e) < ky x y) (h2 : ∀ e : Nat, p ≤ e → (e : Int) < m → ky x y < ky (X e) (Y e))
    (hx : ∀ e : Nat, (e : Int) ≤ m → X2 e = if e < p then X e else if e = p then x else X (e - 1)) (hy : ∀ e : Nat, (e : Int) ≤ m → Y2 e = if e < p then Y e else if e = p then y else Y (e - 1)) : En X2 Y2 (m + 1) (fun k => S k ∨ k = ky x y) := by
  have k1 : ∀ e : Nat, e < p → ky (X2 e) (Y2 e) = ky (X e) (Y e) := fun e he => by rw [hx e (by omega), hy e (by omega), if_pos he, if_pos he]
  have k2 : ky (X2 p) (Y2 p) = ky x y := by rw [hx p hp, hy p hp, if_neg (Nat.lt_irrefl p), if_neg (Nat.lt_irrefl p), if_pos rfl, if_pos rfl]
  have k3 : ∀ e : Nat, p < e → (e : Int) ≤ m → ky (X2 e) (Y2 e) = ky (X (e - 1)) (Y (e - 1)) := fun e he hm => by rw [hx e hm, hy e hm, if_neg (by omega), if_neg (by omega), if_neg (by omega), if_neg (by omega)]
  refine ⟨fun e f he hf => ?_, fun e he => ?_, fun k => ?_⟩
  · by_cases e1 : e < p
    · rw [k1 e e1]
      by_cases f1 : f < p
      · rw [k1 f f1]
        exact h.1 e f he (by omega)
      · by_cases f2 : f = p
        · rw [f2, k2]
          exact h1 e e1
        · rw [k3 f (by omega) (by omega)]
          exact h.1 e (f - 1) (by omega) (by omega)
    · by_cases e2 : e = p
      · rw [e2, k2, k3 f (by omega) (by omega)]
        exact h2 (f - 1) (by omega) (by omega)
      · rw [k3 e (by omega) (by omega), k3 f (by omega) (by omega)]
        exact h.1 (e - 1) (f - 1) (by omega) (by omega)
  · rw [hx e (by omega), hy e (by omega)]
    by_cases e1 : e < p
    · rw [if_pos e1, if_pos e1]
      exact h.2.1 e (by omega)
    · by_cases e2 : e = p
      · rw [if_neg e1, if_neg e1, if_pos e2, if_pos e2]
        exact ⟨bx, b2⟩
      · rw [if_neg e1, if_neg e1, if_neg e2, if_neg e2]
        exact h.2.1 (e - 1) (by omega)
  · show _ ↔ (S k ∨ k = ky x y)
    rw [← h.2.2 k]
    constructor
    · rintro ⟨e, he, hk⟩
      by_cases e1 : e < p
      · exact Or.inl ⟨e, by omega, by rw [← k1 e e1]; exact hk⟩
      · by_cases e2 : e = p
        · rw [e2, k2] at hk
          exact Or.inr hk.symm
        · exact Or.inl ⟨e - 1, by omega, by rw [← k3 e (by omega) (by omega)]; exact hk⟩
    · rintro (⟨e, he, hk⟩ | hk)
      · by_cases e1 : e < p
        · exact ⟨e, by omega, by rw [k1 e e1]; exact hk⟩
        · exact ⟨e + 1, by omega, by rw [k3 (e + 1) (by omega) (by omega)]; exact hk⟩
      · exact ⟨p, by omega, by rw [k2]; exact hk.symm⟩
/-- a row of ends is told by its keys alone -/
theorem En.uniq {X Y X2 Y2 : Nat → Int} {m m2 : Int} {S : Int → Prop} (h : En X Y m S) (h2 : En X2 Y2 m2 S) : ∀ e : Nat, (e : Int) < m → (e : Int) < m2 ∧ ky (X e) (Y e) = ky (X2 e) (Y2 e) := by
  intro e
  induction e using Nat.strongRecOn with
  | ind e ih =>
    intro he
    obtain ⟨f, hf, kf⟩ := (h2.2.2 _).mpr ((h.2.2 _).mp ⟨e, he, rfl⟩)
    have fe : ¬ f < e := by
      intro q
      have a1 := (ih f q (by omega)).2
      have a2 := h.1 f e q he
      omega
    by_cases q : f = e
    · rw [q] at hf kf
      exact ⟨hf, kf.symm⟩
    · exfalso
      obtain ⟨g, hg, kg⟩ := (h.2.2 _).mpr ((h2.2.2 _).mp ⟨e, by omega, rfl⟩)
      have a1 := h2.1 e f (by omega) hf
      by_cases r : g < e
      · have a2 := (ih g r (by omega)).2
        have a3 := h2.1 g e r (by omega)
        omega
      · by_cases s : g = e
        · rw [s] at kg
          omega
        · have a2 := h.1 e g (by omega) hg
          omega
theorem En.eq {X Y X2 Y2 : Nat → Int} {m m2 : Int} {S : Int → Prop} (hm : 0 ≤ m) (hm2 : 0 ≤ m2) (h : En X Y m S) (h2 : En X2 Y2 m2 S) : m = m2 ∧ ∀ e : Nat, (e : Int) < m → X e = X2 e ∧ Y e = Y2 e := by
  have a := h.uniq h2
  have b := h2.uniq h
  have e1 : m = m2 := by
    by_cases q : m < m2
    · have := (b m.toNat (by omega)).1
      omega
    · by_cases r : m2 < m
      · have := (a m2.toNat (by omega)).1
        omega
      · omega
  refine ⟨e1, fun e he => ?_⟩
  have k := (a e he).2
  exact (eq_ky (h.2.1 e he).2 (h2.2.1 e (by omega)).2).mpr k
