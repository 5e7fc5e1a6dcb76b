/-! my own: the ends of the law's walk -/
theorem okV_0 : ∀ t : Nat, okV (t, 0)
  | 0 => ⟨by decide, by decide⟩
  | 1 => ⟨by decide, by decide⟩
  | _ + 2 => trivial
theorem lvh_1 {E : Ev} {b : Nat} {ls : Array Slot} (h2 : E.2.2.2.2.1 2 = b) (h : lv_has ls 4 (lv_args 0 [Value.ref b])) : lvh E ls 4 [(3, 2), (9, 0), (9, 0), (9, 0)] := by
  refine ⟨h.1, h.2.1, fun i v hi h9 => ?_⟩
  match i, hi with
  | 0, hi =>
    cases hi
    have := h.2.2 (0, Value.ref b) (by simp [lv_args])
    show ls[0]? = some (.val (.ref (E.2.2.2.2.1 2)))
    rw [h2]
    exact this
  | 1, hi => cases hi; exact absurd h9 (by decide)
  | 2, hi => cases hi; exact absurd h9 (by decide)
  | 3, hi => cases hi; exact absurd h9 (by decide)
  | i + 4, hi => simp at hi
theorem fr_end {s t : State} {o : Outcome} {L : List Loc} {k n : Nat} (h : FrameEnd s o t L k n) (hL : ∀ q ∈ L, s.heap.size ≤ q.base) : Framed s o t [] k n := by
  obtain ⟨h0, hW, h1, h2, h3, h4, h5, h6⟩ := h
  refine ⟨h0, hW, h1, h2, h3, h4, h5, fun a c hc => ?_⟩
  obtain ⟨c', g1, g2, g3, g4⟩ := h6 a c hc
  refine ⟨c', g1, g2, g3, fun i _ => g4 i (fun hm => ?_)⟩
  have h7 := hL _ hm
  have h8 := (Array.getElem?_eq_some_iff.mp hc).1
  exact absurd h8 (Nat.not_lt.mpr h7)
theorem lv1_ok : ∀ v ∈ ([(3, 2), (9, 0), (9, 0), (9, 0)] : List Vl), okV v := by
  intro v hv
  simp only [List.mem_cons, List.not_mem_nil, or_false] at hv
  rcases hv with rfl | rfl | rfl | rfl <;> exact trivial
