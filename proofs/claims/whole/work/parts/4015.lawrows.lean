/-! my own: rows of the law: the script, the switch of modes -/
def SCR (E : Ev) (s : State) (XS : Nat → Int) (LN : Int) : Prop := ∃ (L : Nat) (xs : Nat → Int32), LN = (L : Int) ∧ L ≤ 3072 ∧ va_X (E.2.2.2.2.1 2) L xs s s.heap ∧ ¬ eA E (E.2.2.2.2.1 2) ∧ ∀ j, XS j = (xs j).toInt
section
variable {p : Program} {l : Launch} {e : Env} {R : Room} {s : State} {m : MethodId} {args : Array Value} {below : List Frame} {meth : Method} {c : Code} {E : Ev} {M : Mt} {pm : Bool} {Q : Int → Cn → Nat → Prop} {n kc ks pc pc2 : Nat} {lv st st2 : List Vl} {C : Cn} {XS : Nat → Int} {LN : Int}
theorem AW.scr {i t : Int} (hX : SCR E s XS LN) (d : decode M.2.1 pc = .ok (.iaload, 1)) (ht : t = 2) (h0 : 0 ≤ i) (h1 : i < LN) (k : AW p l e R s m args below meth c E M pm Q n kc ks (pc + 1) lv ((0, XS i.toNat) :: st) C) : AW p l e R s m args below meth c E M pm Q n kc ks pc lv ((0, i) :: (3, t) :: st) C := by
  subst ht
  intro hc H locs ls hR hI hS hl ol os
  obtain ⟨L, xs, eL, hL, ⟨scr, g1, g2, g3, g4, g5⟩, g6, g7⟩ := hX
  have kk := k hc H locs ls hR hI hS hl ol (ok_c (by rw [g7]; exact i32_rng _) (ok_d2 os))
  have e := i32_clamp h0 (show i ≤ 2147483647 by omega)
  have hcell : H[E.2.2.2.2.1 2]? = some scr := by rw [hS.2.1 _ (Array.getElem?_eq_some_iff.mp g1).1 g6]; exact g1
  rw [List.map_cons, List.map_cons]
  have kk' := kk
  rw [List.map_cons] at kk'
  simp only [cv, g7, i32_of] at kk'
  refine W.iald (v := .int (xs i.toNat)) hc.1.1 hc.1.2.1 hcell g2 g3 ?_ ?_ rfl rfl d kk'
  · intro q
    rcases q with q | q
    · have := (i32_lt (a := i) (b := 0) ⟨by omega, by omega⟩ ⟨by decide, by decide⟩).mp q
      omega
    · rw [e] at q
      omega
  · rw [e]
    exact g5 i.toNat (by omega)
theorem AW.scl {t : Int} (hX : SCR E s XS LN) (d : decode M.2.1 pc = .ok (.arraylength, 1)) (ht : t = 2) (k : AW p l e R s m args below meth c E M pm Q n kc ks (pc + 1) lv ((0, LN) :: st) C) : AW p l e R s m args below meth c E M pm Q n kc ks pc lv ((3, t) :: st) C := by
  subst ht
  intro hc H locs ls hR hI hS hl ol os
  obtain ⟨L, xs, eL, hL, ⟨scr, g1, g2, g3, g4, g5⟩, g6, g7⟩ := hX
  subst eL
  have kk := k hc H locs ls hR hI hS hl ol (ok_c ⟨by omega, by omega⟩ (ok_1 os).2)
  have hcell : H[E.2.2.2.2.1 2]? = some scr := by rw [hS.2.1 _ (Array.getElem?_eq_some_iff.mp g1).1 g6]; exact g1
  rw [List.map_cons]
  exact W.alen (n := Int32.ofInt (L : Int)) hc.1.1 hc.1.2.1 hcell g2 (by rw [g4]; rfl) rfl rfl d kk
theorem AW.up (hp : ptC C n) (k : AW p l e R s m args below meth c E M true Q n kc ks pc lv st C) : AW p l e R s m args below meth c E M false Q n kc ks pc lv st C := by
  intro hc H locs ls hR hI hS hl ol os
  have kk := k hc H locs ls hR ⟨hI.1, hI.2.1, fun _ => hp⟩ hS hl ol os
  intro T hT X
  obtain ⟨t, a1, o, b1, b2, ⟨r, C2, n2, q1, q2, q3, q4, q5, q6⟩, b4⟩ := kk T hT X
  exact ⟨t, a1, o, b1, b2, ⟨r, C2, n2, q1, q2, q3, q4.mode2 (fun h => by cases h), q5, q6⟩, b4⟩
end
