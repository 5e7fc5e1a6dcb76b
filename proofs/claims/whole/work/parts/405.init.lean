/-! my own: the reference's constructor -/
def CGf (C : Cn) : Cn := (wr (mrow (wr (wr (wr (wr (mrow (wr (wr (wr (wr (wr (wr (wr (wr (mrow (wr (mrow (wr (mrow (wr (mrow (wr (mrow (wr (wr (wr (wr (wr (wr (mrow (wr (mrow (wr (wr (wr (wr (wr (wr (wr (wr (wr (wr (mrow C 92 6) 91 1 92) 91 4 1) 91 5 99) 91 7 (-1)) 91 9 100) 91 11 101) 91 12 102) 91 13 103) 91 14 104) 91 15 105) 106 13) 91 16 106) 120 13) 91 17 120) 91 19 134) 91 20 135) 91 21 136) 91 22 137) 91 27 138) 139 92) 91 30 139) 232 6) 91 31 232) 239 20) 91 32 239) 260 20) 91 33 260) 281 20) 91 36 281) 91 37 302) 303 0 (-1)) 303 1 (-1)) 303 2 (-1)) 303 3 (-1)) 91 44 303) 91 45 304) 305 4) 91 46 305) 91 47 310) 91 48 311) 91 49 312) 313 6) 91 52 313)
theorem i_G0 {C : Cn} {Q : Int → Cn → Nat → Prop} (h : Q 0 (CGf C) 320) : P_G_init 92 C 91 Q := by
  have o91 : ∀ k : Nat, 92 ≤ k → okO k 91 10 := fun k hk => ⟨by decide, by omega, by decide +kernel⟩
  unfold P_G_init
  simp only [Int.reduceToNat]
  repeat (first
    | (refine ⟨o91 _ (by decide), ?_⟩)
    | (refine ⟨by decide +kernel, ?_⟩)
    | (refine ⟨(by unfold okO; decide +kernel), ?_⟩)
    | (refine ⟨(by unfold okI; decide +kernel), ?_⟩)
    | (intro _ e; subst e))
  exact h
