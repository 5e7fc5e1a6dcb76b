/-! my own: laying a segment -/
/-- the fields 2 to 5 of a segment laid from x, y to u, v -/
def ld (x y u v : Int) (f : Nat) : Int := if ahd x y u v then (if f = 2 then x else if f = 3 then y else if f = 4 then u else v) else (if f = 2 then u else if f = 3 then v else if f = 4 then x else y)
theorem f_layW {n a : Nat} {C : Cn} {x y u v : Int} {Q : Int → Cn → Prop} (oa : okO n (a : Int) 7) (h : ∀ D : Cn, (∀ q t, ¬ (q = a ∧ 2 ≤ t ∧ t ≤ 5) → D q t = C q t) → (∀ f, 2 ≤ f → f ≤ 5 → D a f = ld x y u v f) → Q 0 D) : P_Wa_lay n C (a : Int) x y u v Q := by
  unfold P_Wa_lay
  refine f_isAhead ?_
  unfold J_Wa_lay_21 J_Wa_lay_36 J_Wa_lay_50 J_Wa_lay_65
  simp only [oa, Int.toNat_natCast, true_and]
  intro C7 c7 C10 c10 C13 c13 C16 c16
  refine h C16 (fun q t hq => by rw [c16, wr_ne (by omega), c13, wr_ne (by omega), c10, wr_ne (by omega), c7, wr_ne (by omega)]) (fun f h1 h2 => ?_)
  have e : f = 2 ∨ f = 3 ∨ f = 4 ∨ f = 5 := by omega
  unfold ld
  by_cases w : ahd x y u v
  · rw [bI_t w] at c7 c10 c13 c16
    rw [if_pos w]
    rcases e with e | e | e | e <;> subst e
    · rw [c16, wr_ne (by omega), c13, wr_ne (by omega), c10, wr_ne (by omega), c7, wr_same]
      rfl
    · rw [c16, wr_ne (by omega), c13, wr_ne (by omega), c10, wr_same]
      rfl
    · rw [c16, wr_ne (by omega), c13, wr_same]
      rfl
    · rw [c16, wr_same]
      rfl
  · rw [bI_f w] at c7 c10 c13 c16
    rw [if_neg w]
    rcases e with e | e | e | e <;> subst e
    · rw [c16, wr_ne (by omega), c13, wr_ne (by omega), c10, wr_ne (by omega), c7, wr_same]
      rfl
    · rw [c16, wr_ne (by omega), c13, wr_ne (by omega), c10, wr_same]
      rfl
    · rw [c16, wr_ne (by omega), c13, wr_same]
      rfl
    · rw [c16, wr_same]
      rfl
theorem g_lays {n a : Nat} {C : Cn} {km x y u v : Int} {Q : Int → Cn → Prop} (oa : okO n (a : Int) 12 ∧ (∀ v : Int, okI (a : Int) v ↔ (0 ≤ v ∧ v < 6))) (hk : 0 ≤ km ∧ km ≤ 59) (h : ∀ D : Cn, (∀ q t, ¬ (q = a ∧ t ≤ 5) → D q t = C q t) → D a 0 = km / 10 → D a 1 = km % 10 → (∀ f, 2 ≤ f → f ≤ 5 → D a f = ld x y u v f) → Q 0 D) : P_G_lays n C (a : Int) km x y u v Q := by
  obtain ⟨k1, k2⟩ := km_div hk
  unfold P_G_lays
  refine g_isAhead ?_
  unfold J_G_lays_38 J_G_lays_52 J_G_lays_66 J_G_lays_80
  simp only [oa, Int.toNat_natCast, Int.reduceToNat, true_and, k1, k2]
  clear k1 k2
  refine ⟨by omega, fun C5 c5 => ⟨by omega, fun C6 c6 => ⟨by omega, fun C7 c7 => ⟨by omega, fun C10 c10 => ⟨by omega, fun C13 c13 => ⟨by omega, fun C16 c16 => ?_⟩⟩⟩⟩⟩⟩
  refine h C16 (fun q t hq => by rw [c16, wr_ne (by omega), c13, wr_ne (by omega), c10, wr_ne (by omega), c7, wr_ne (by omega), c6, wr_ne (by omega), c5, wr_ne (by omega)]) (by rw [c16, wr_ne (by omega), c13, wr_ne (by omega), c10, wr_ne (by omega), c7, wr_ne (by omega), c6, wr_ne (by omega), c5, wr_same]) (by rw [c16, wr_ne (by omega), c13, wr_ne (by omega), c10, wr_ne (by omega), c7, wr_ne (by omega), c6, wr_same]) (fun f h1 h2 => ?_)
  have e : f = 2 ∨ f = 3 ∨ f = 4 ∨ f = 5 := by omega
  unfold ld
  by_cases w : ahd x y u v
  · rw [bI_t w] at c7 c10 c13 c16
    rw [if_pos w]
    rcases e with e | e | e | e <;> subst e
    · rw [c16, wr_ne (by omega), c13, wr_ne (by omega), c10, wr_ne (by omega), c7, wr_same]
      rfl
    · rw [c16, wr_ne (by omega), c13, wr_ne (by omega), c10, wr_same]
      rfl
    · rw [c16, wr_ne (by omega), c13, wr_same]
      rfl
    · rw [c16, wr_same]
      rfl
  · rw [bI_f w] at c7 c10 c13 c16
    rw [if_neg w]
    rcases e with e | e | e | e <;> subst e
    · rw [c16, wr_ne (by omega), c13, wr_ne (by omega), c10, wr_ne (by omega), c7, wr_same]
      rfl
    · rw [c16, wr_ne (by omega), c13, wr_ne (by omega), c10, wr_same]
      rfl
    · rw [c16, wr_ne (by omega), c13, wr_same]
      rfl
    · rw [c16, wr_same]
      rfl
theorem ld_ok {x y u v : Int} (h1 : bd x ∧ bd y) (h2 : bd u ∧ bd v) (hne : ¬ (x = u ∧ y = v)) : (bd (ld x y u v 2) ∧ bd (ld x y u v 3) ∧ bd (ld x y u v 4) ∧ bd (ld x y u v 5)) ∧ ky (ld x y u v 2) (ld x y u v 3) < ky (ld x y u v 4) (ld x y u v 5) := by
  unfold bd at h1 h2
  unfold ld ky
  by_cases w : ahd x y u v
  · simp only [if_pos w]
    unfold ahd at w
    unfold bd
    refine ⟨⟨h1.1, h1.2, h2.1, h2.2⟩, ?_⟩
    show 1000 * x + y < 1000 * u + v
    omega
  · simp only [if_neg w]
    unfold ahd at w
    unfold bd
    refine ⟨⟨h2.1, h2.2, h1.1, h1.2⟩, ?_⟩
    show 1000 * u + v < 1000 * x + y
    omega
