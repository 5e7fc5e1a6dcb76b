/-! my own: the two lands of the class, where their rows lie -/
theorem okc {n : Nat} (hn : 91 ≤ n) {a : Int} {k : Nat} (h : 0 < a ∧ a < 91 ∧ (LAY a.toNat).1 = k) : okO n a k := ⟨h.1, by omega, h.2.2⟩
theorem okm {n : Nat} (hn : 320 ≤ n) {a : Int} {k : Nat} (h : 0 < a ∧ a < 320 ∧ (LAY a.toNat).1 = k) : okO n a k := ⟨h.1, by omega, h.2.2⟩
/-- a land of the class -/
def lnd (L : Int) : Prop := L = 26 ∨ L = 42
theorem lnd.o {n : Nat} {L : Int} (hL : lnd L) (hn : 91 ≤ n) : okO n L 2 := by
  rcases hL with h | h <;> (rw [h]; exact okc hn (by decide))
theorem lnd.a {n : Nat} {L : Int} (hL : lnd L) (hn : 91 ≤ n) {k : Int} (h0 : 0 < k) (h1 : k < 16) : okO n (L + k) 12 := by
  have e : k = 1 ∨ k = 2 ∨ k = 3 ∨ k = 4 ∨ k = 5 ∨ k = 6 ∨ k = 7 ∨ k = 8 ∨ k = 9 ∨ k = 10 ∨ k = 11 ∨ k = 12 ∨ k = 13 ∨ k = 14 ∨ k = 15 := by omega
  rcases hL with h | h <;> rw [h] <;> rcases e with e | e | e | e | e | e | e | e | e | e | e | e | e | e | e <;> (rw [e]; exact okc hn (by decide))
theorem lnd.p {L : Int} (hL : lnd L) : PT L.toNat 2 = L + 1 ∧ PT L.toNat 3 = L + 2 ∧ PT L.toNat 4 = L + 3 ∧ PT L.toNat 5 = L + 4 ∧ PT L.toNat 6 = L + 5 ∧ PT L.toNat 7 = L + 6 ∧ PT L.toNat 9 = L + 7 ∧ PT L.toNat 10 = L + 8 ∧ PT L.toNat 11 = L + 9 ∧ PT L.toNat 12 = L + 10 ∧ PT L.toNat 13 = L + 11 ∧ PT L.toNat 15 = L + 12 ∧ PT L.toNat 16 = L + 13 ∧ PT L.toNat 17 = L + 14 ∧ PT L.toNat 18 = L + 15 := by
  rcases hL with h | h <;> (rw [h]; decide)
/-- how long the rows of a land are -/
def lnL : List Nat := [0, 12, 12, 6, 6, 78, 13, 13, 49, 49, 49, 49, 19, 19, 19, 361]
theorem lnd.l {L : Int} (hL : lnd L) {k : Int} (h0 : 0 < k) (h1 : k < 16) : (LAY (L + k).toNat).2 = lnL.getD k.toNat 0 := by
  have e : k = 1 ∨ k = 2 ∨ k = 3 ∨ k = 4 ∨ k = 5 ∨ k = 6 ∨ k = 7 ∨ k = 8 ∨ k = 9 ∨ k = 10 ∨ k = 11 ∨ k = 12 ∨ k = 13 ∨ k = 14 ∨ k = 15 := by omega
  rcases hL with h | h <;> rw [h] <;> rcases e with e | e | e | e | e | e | e | e | e | e | e | e | e | e | e <;> (rw [e]; decide)
theorem lnd.i {L : Int} (hL : lnd L) {k i : Int} (h0 : 0 < k) (h1 : k < 16) (h2 : 0 ≤ i) (h3 : i < lnL.getD k.toNat 0) : okI (L + k) i := ⟨h2, by rw [hL.l h0 h1]; exact h3⟩
/-- the key of a land's end -/
def eK (C : Cn) (L : Int) (e : Nat) : Int := ky (C (L + 1).toNat e) (C (L + 2).toNat e)
theorem w32_s {x : Int} (h : -1000000 ≤ x ∧ x ≤ 1000000) : w32 x = x := w32_id (by omega) (by omega)
theorem f_endsAhead {n : Nat} {C : Cn} {L x y : Int} {Q : Int → Prop} (hn : 91 ≤ n) (hL : lnd L) (hm : 0 ≤ C L.toNat 1 ∧ C L.toNat 1 ≤ 12) (hb : ∀ e : Nat, (e : Int) < C L.toNat 1 → bd (C (L + 2).toNat e)) (hy : bd y)
    (h : ∀ r : Nat, (r : Int) ≤ C L.toNat 1 → (∀ e, e < r → eK C L e < ky x y) → ((r : Int) < C L.toNat 1 → ¬ eK C L r < ky x y) → Q r) : P_La_endsAhead n C L x y Q := by
  refine lp_rule (fun v => 0 ≤ v ∧ v ≤ C L.toNat 1 ∧ ∀ e : Nat, (e : Int) < v → eK C L e < ky x y) (fun v => (12 - v).toNat) ?_ 0 ⟨by omega, by omega, fun e he => by omega⟩
  intro v hv K hK
  obtain ⟨h0, h1, h2⟩ := hv
  obtain ⟨p1, p2, _⟩ := hL.p
  have ev : ((v.toNat : Nat) : Int) = v := by omega
  unfold B_La_endsAhead_2 J_La_endsAhead_36
  rw [p1, p2]
  refine ⟨hL.o hn, fun h3 => ?_, fun h3 => ⟨hL.a hn (by decide) (by decide), hL.i (by decide) (by decide) h0 ?_, hL.a hn (by decide) (by decide), hL.i (by decide) (by decide) h0 ?_, f_isAhead ⟨fun h4 => ?_, fun h4 => ?_⟩⟩⟩
  · have q := h v.toNat (by omega) (fun e he => h2 e (by omega)) (fun he => by omega)
    rw [ev] at q
    exact q
  · have : ((lnL.getD (1 : Int).toNat 0 : Nat) : Int) = 12 := by decide
    omega
  · have : ((lnL.getD (2 : Int).toNat 0 : Nat) : Int) = 12 := by decide
    omega
  · rw [bI_0, ahd_ky (hb v.toNat (by omega)) hy] at h4
    have q := h v.toNat (by omega) (fun e he => h2 e (by omega)) (fun _ => h4)
    rw [ev] at q
    exact q
  · rw [bI_0, Decidable.not_not, ahd_ky (hb v.toNat (by omega)) hy] at h4
    rw [w32_s (by omega)]
    refine hK _ ⟨by omega, by omega, fun e he => ?_⟩ (by omega)
    by_cases h5 : (e : Int) < v
    · exact h2 e h5
    · have : e = v.toNat := by omega
      rw [this]
      exact h4
