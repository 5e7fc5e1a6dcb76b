/-! my own: the class finds all ends -/
/-- an estate of the class -/
def est (E : Int) : Prop := E = 2 ∨ E = 18
theorem est.o {n : Nat} {E : Int} (hE : est E) (hn : 91 ≤ n) : okO n E 1 ∧ okO n (E + 1) 16 := by
  rcases hE with h | h <;> (rw [h]; exact ⟨okc hn (by decide), okc hn (by decide)⟩)
theorem est.p {E : Int} (hE : est E) : PT E.toNat 0 = E + 1 := by
  rcases hE with h | h <;> (rw [h]; decide)
theorem est.i {E i : Int} (hE : est E) (h0 : 0 ≤ i) (h1 : i < 6) : okI (E + 1) i ∧ PT (E + 1).toNat i.toNat = E + 2 + i := by
  have e : i = 0 ∨ i = 1 ∨ i = 2 ∨ i = 3 ∨ i = 4 ∨ i = 5 := by omega
  rcases hE with h | h <;> rw [h] <;> rcases e with e | e | e | e | e | e <;> (rw [e]; exact ⟨by unfold okI; decide, by decide⟩)
theorem est.w {n : Nat} {E i : Int} (hE : est E) (hn : 91 ≤ n) (h0 : 0 ≤ i) (h1 : i < 6) : okO n (E + 2 + i) 7 := by
  have e : i = 0 ∨ i = 1 ∨ i = 2 ∨ i = 3 ∨ i = 4 ∨ i = 5 := by omega
  rcases hE with h | h <;> rw [h] <;> rcases e with e | e | e | e | e | e <;> (rw [e]; exact okc hn (by decide))
/-- m segments lie from w on, each within bounds, its first point ahead of its last -/
def Sg (C : Cn) (w m : Int) : Prop := 0 ≤ m ∧ m ≤ 6 ∧ ∀ i : Int, 0 ≤ i → i < m → cB C (w + i) ∧ fK C (w + i) < lK C (w + i)
/-- the keys of the first v segments' ends -/
def sK (C : Cn) (w v k : Int) : Prop := ∃ t : Int, 0 ≤ t ∧ t < v ∧ (k = fK C (w + t) ∨ k = lK C (w + t))
theorem sK_s {C : Cn} {w v k : Int} (hv : 0 ≤ v) : sK C w (v + 1) k ↔ ((sK C w v k ∨ k = fK C (w + v)) ∨ k = lK C (w + v)) := by
  unfold sK
  constructor
  · rintro ⟨t, t0, t1, q⟩
    by_cases e : t = v
    · rw [e] at q
      rcases q with q | q
      · exact Or.inl (Or.inr q)
      · exact Or.inr q
    · exact Or.inl (Or.inl ⟨t, t0, by omega, q⟩)
  · rintro ((⟨t, t0, t1, q⟩ | q) | q)
    · exact ⟨t, t0, by omega, q⟩
    · exact ⟨v, hv, by omega, Or.inl q⟩
    · exact ⟨v, hv, by omega, Or.inr q⟩
theorem sK_0 {C : Cn} {w k : Int} : sK C w 0 k ↔ False := ⟨fun ⟨t, t0, t1, _⟩ => by omega, fun h => h.elim⟩
/-- C2 is C but for a land -/
def frL (C C2 : Cn) (L : Int) : Prop := ∀ b j, ¬ (L.toNat ≤ b ∧ b ≤ L.toNat + 15) → C2 b j = C b j
theorem frL.rfl' (C : Cn) (L : Int) : frL C C L := fun _ _ _ => rfl
theorem frL.trans {A B C : Cn} {L : Int} (h1 : frL A B L) (h2 : frL B C L) : frL A C L := fun b j x => (h2 b j x).trans (h1 b j x)
theorem frE.l {C C2 : Cn} {L : Int} (hL : lnd L) (h : frE C C2 L) : frL C C2 L := by
  intro b j q
  have : (L + 1).toNat = L.toNat + 1 ∧ (L + 2).toNat = L.toNat + 2 := by rcases hL with e | e <;> (rw [e]; decide)
  exact h b j (by omega) (by omega) (by omega)
theorem frL.w {C : Cn} {L : Int} {a i : Nat} {v : Int} (h : L.toNat ≤ a ∧ a ≤ L.toNat + 15) : frL C (wr C a i v) L := fun b j q => wr_ne (fun k => q (k.1 ▸ h))
/-- where the walls of an estate lie, no land lies -/
theorem est_lnd {E L i : Int} (hE : est E) (hL : lnd L) (h0 : 0 ≤ i) (h1 : i < 6) : ¬ (L.toNat ≤ (E + 2 + i).toNat ∧ (E + 2 + i).toNat ≤ L.toNat + 15) := by
  rcases hE with h | h <;> rcases hL with k | k <;> rw [h, k] <;> omega
theorem frL.seg {C C2 : Cn} {E L : Int} (hE : est E) (hL : lnd L) (h : frL C C2 L) {i : Int} (h0 : 0 ≤ i) (h1 : i < 6) (f : Nat) : C2 (E + 2 + i).toNat f = C (E + 2 + i).toNat f := h _ _ (est_lnd hE hL h0 h1)
theorem frL.sg {C C2 : Cn} {E L m : Int} (hE : est E) (hL : lnd L) (h : frL C C2 L) (hs : Sg C (E + 2) m) : Sg C2 (E + 2) m := by
  refine ⟨hs.1, hs.2.1, fun i i0 i1 => ?_⟩
  have g := h.seg hE hL i0 (by have := hs.2.1; omega)
  have q := hs.2.2 i i0 i1
  unfold cB fK lK at *
  rw [g 2, g 3, g 4, g 5]
  exact q
theorem frL.sk {C C2 : Cn} {E L v k : Int} (hE : est E) (hL : lnd L) (h : frL C C2 L) (hv : v ≤ 6) : sK C2 (E + 2) v k ↔ sK C (E + 2) v k := by
  have g := fun (t : Int) (t0 : 0 ≤ t) (t1 : t < v) => h.seg hE hL t0 (by omega : t < 6)
  unfold sK fK lK
  constructor
  · rintro ⟨t, t0, t1, q⟩
    refine ⟨t, t0, t1, ?_⟩
    rw [g t t0 t1 2, g t t0 t1 3, g t t0 t1 4, g t t0 t1 5] at q
    exact q
  · rintro ⟨t, t0, t1, q⟩
    refine ⟨t, t0, t1, ?_⟩
    rw [g t t0 t1 2, g t t0 t1 3, g t t0 t1 4, g t t0 t1 5]
    exact q
/-- the place of a key among the ends -/
theorem En.at {X Y : Nat → Int} {m k : Int} {S : Int → Prop} (h : En X Y m S) (hk : S k) {r : Nat} (h1 : ∀ e, e < r → ky (X e) (Y e) < k) (h2 : (r : Int) < m → ¬ ky (X r) (Y r) < k) : (r : Int) < m ∧ ky (X r) (Y r) = k := by
  obtain ⟨e, e1, e2⟩ := (h.2.2 k).mpr hk
  have a : ¬ e < r := fun q => by
    have := h1 e q
    omega
  have b : ¬ r < e := fun q => by
    have c := h.1 r e q e1
    have d := h2 (by omega)
    omega
  have c : e = r := by omega
  rw [← c]
  exact ⟨e1, e2⟩
