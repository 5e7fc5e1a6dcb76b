/-! my own: where things lie, in a form for rewriting (printed by wip/whole/gen_facts.py) -/
theorem gS {n : Nat} (hn : 320 ≤ n) : okO n 91 10 ∧ okO n 92 17 ∧ (∀ v : Int, okI 92 v ↔ (0 ≤ v ∧ v < 6)) ∧ okO n 99 12 ∧ (∀ v : Int, okI 99 v ↔ (0 ≤ v ∧ v < 8)) ∧ okO n 100 12 ∧ (∀ v : Int, okI 100 v ↔ (0 ≤ v ∧ v < 6)) ∧ okO n 101 12 ∧ (∀ v : Int, okI 101 v ↔ (0 ≤ v ∧ v < 12)) ∧ okO n 102 12 ∧ (∀ v : Int, okI 102 v ↔ (0 ≤ v ∧ v < 12)) ∧ okO n 103 12 ∧ (∀ v : Int, okI 103 v ↔ (0 ≤ v ∧ v < 6)) ∧ okO n 104 12 ∧ (∀ v : Int, okI 104 v ↔ (0 ≤ v ∧ v < 6)) ∧ okO n 105 12 ∧ (∀ v : Int, okI 105 v ↔ (0 ≤ v ∧ v < 13)) ∧ okO n 106 17 ∧ (∀ v : Int, okI 106 v ↔ (0 ≤ v ∧ v < 13)) ∧ okO n 120 17 ∧ (∀ v : Int, okI 120 v ↔ (0 ≤ v ∧ v < 13)) ∧ okO n 134 12 ∧ (∀ v : Int, okI 134 v ↔ (0 ≤ v ∧ v < 100)) ∧ okO n 135 12 ∧ (∀ v : Int, okI 135 v ↔ (0 ≤ v ∧ v < 100)) ∧ okO n 136 12 ∧ (∀ v : Int, okI 136 v ↔ (0 ≤ v ∧ v < 100)) ∧ okO n 137 12 ∧ (∀ v : Int, okI 137 v ↔ (0 ≤ v ∧ v < 100)) ∧ okO n 138 12 ∧ (∀ v : Int, okI 138 v ↔ (0 ≤ v ∧ v < 6)) ∧ okO n 139 17 ∧ (∀ v : Int, okI 139 v ↔ (0 ≤ v ∧ v < 92)) ∧ okO n 232 17 ∧ (∀ v : Int, okI 232 v ↔ (0 ≤ v ∧ v < 6)) ∧ okO n 239 17 ∧ (∀ v : Int, okI 239 v ↔ (0 ≤ v ∧ v < 20)) ∧ okO n 260 17 ∧ (∀ v : Int, okI 260 v ↔ (0 ≤ v ∧ v < 20)) ∧ okO n 281 17 ∧ (∀ v : Int, okI 281 v ↔ (0 ≤ v ∧ v < 20)) ∧ okO n 302 12 ∧ (∀ v : Int, okI 302 v ↔ (0 ≤ v ∧ v < 120)) ∧ okO n 303 12 ∧ (∀ v : Int, okI 303 v ↔ (0 ≤ v ∧ v < 4)) ∧ okO n 304 12 ∧ (∀ v : Int, okI 304 v ↔ (0 ≤ v ∧ v < 4)) ∧ okO n 305 18 ∧ (∀ v : Int, okI 305 v ↔ (0 ≤ v ∧ v < 4)) ∧ okO n 310 13 ∧ (∀ v : Int, okI 310 v ↔ (0 ≤ v ∧ v < 40)) ∧ okO n 311 12 ∧ (∀ v : Int, okI 311 v ↔ (0 ≤ v ∧ v < 10)) ∧ okO n 312 12 ∧ (∀ v : Int, okI 312 v ↔ (0 ≤ v ∧ v < 10)) ∧ okO n 313 17 ∧ (∀ v : Int, okI 313 v ↔ (0 ≤ v ∧ v < 6)) ∧ PT 91 1 = 92 ∧ PT 91 5 = 99 ∧ PT 91 9 = 100 ∧ PT 91 11 = 101 ∧ PT 91 12 = 102 ∧ PT 91 13 = 103 ∧ PT 91 14 = 104 ∧ PT 91 15 = 105 ∧ PT 91 16 = 106 ∧ PT 91 17 = 120 ∧ PT 91 19 = 134 ∧ PT 91 20 = 135 ∧ PT 91 21 = 136 ∧ PT 91 22 = 137 ∧ PT 91 27 = 138 ∧ PT 91 30 = 139 ∧ PT 91 31 = 232 ∧ PT 91 32 = 239 ∧ PT 91 33 = 260 ∧ PT 91 36 = 281 ∧ PT 91 37 = 302 ∧ PT 91 44 = 303 ∧ PT 91 45 = 304 ∧ PT 91 46 = 305 ∧ PT 91 47 = 310 ∧ PT 91 48 = 311 ∧ PT 91 49 = 312 ∧ PT 91 52 = 313 := by
  exact ⟨okm hn (by decide), okm hn (by decide), fun v => Iff.rfl, okm hn (by decide), fun v => Iff.rfl, okm hn (by decide), fun v => Iff.rfl, okm hn (by decide), fun v => Iff.rfl, okm hn (by decide), fun v => Iff.rfl, okm hn (by decide), fun v => Iff.rfl, okm hn (by decide), fun v => Iff.rfl, okm hn (by decide), fun v => Iff.rfl, okm hn (by decide), fun v => Iff.rfl, okm hn (by decide), fun v => Iff.rfl, okm hn (by decide), fun v => Iff.rfl, okm hn (by decide), fun v => Iff.rfl, okm hn (by decide), fun v => Iff.rfl, okm hn (by decide), fun v => Iff.rfl, okm hn (by decide), fun v => Iff.rfl, okm hn (by decide), fun v => Iff.rfl, okm hn (by decide), fun v => Iff.rfl, okm hn (by decide), fun v => Iff.rfl, okm hn (by decide), fun v => Iff.rfl, okm hn (by decide), fun v => Iff.rfl, okm hn (by decide), fun v => Iff.rfl, okm hn (by decide), fun v => Iff.rfl, okm hn (by decide), fun v => Iff.rfl, okm hn (by decide), fun v => Iff.rfl, okm hn (by decide), fun v => Iff.rfl, okm hn (by decide), fun v => Iff.rfl, okm hn (by decide), fun v => Iff.rfl, okm hn (by decide), fun v => Iff.rfl, by decide, by decide, by decide, by decide, by decide, by decide, by decide, by decide, by decide, by decide, by decide, by decide, by decide, by decide, by decide, by decide, by decide, by decide, by decide, by decide, by decide, by decide, by decide, by decide, by decide, by decide, by decide, by decide⟩
theorem lay92 : ∀ i, i < 6 → LAY (93 + i) = (12, 6) ∧ PT 92 i = ((93 + i : Nat) : Int) := by decide +kernel
theorem gR92 {n i : Nat} (hn : 320 ≤ n) (hi : i < 6) : PT 92 i = ((93 + i : Nat) : Int) ∧ okO n ((93 + i : Nat) : Int) 12 ∧ (∀ v : Int, okI ((93 + i : Nat) : Int) v ↔ (0 ≤ v ∧ v < 6)) := by
  have h := lay92 i hi
  refine ⟨h.2, ⟨by omega, by omega, by rw [Int.toNat_natCast, h.1]⟩, fun v => ?_⟩
  unfold okI
  rw [Int.toNat_natCast, h.1]
  exact Iff.rfl
theorem lay106 : ∀ i, i < 13 → LAY (107 + i) = (12, 6) ∧ PT 106 i = ((107 + i : Nat) : Int) := by decide +kernel
theorem gR106 {n i : Nat} (hn : 320 ≤ n) (hi : i < 13) : PT 106 i = ((107 + i : Nat) : Int) ∧ okO n ((107 + i : Nat) : Int) 12 ∧ (∀ v : Int, okI ((107 + i : Nat) : Int) v ↔ (0 ≤ v ∧ v < 6)) := by
  have h := lay106 i hi
  refine ⟨h.2, ⟨by omega, by omega, by rw [Int.toNat_natCast, h.1]⟩, fun v => ?_⟩
  unfold okI
  rw [Int.toNat_natCast, h.1]
  exact Iff.rfl
theorem lay120 : ∀ i, i < 13 → LAY (121 + i) = (12, 7) ∧ PT 120 i = ((121 + i : Nat) : Int) := by decide +kernel
theorem gR120 {n i : Nat} (hn : 320 ≤ n) (hi : i < 13) : PT 120 i = ((121 + i : Nat) : Int) ∧ okO n ((121 + i : Nat) : Int) 12 ∧ (∀ v : Int, okI ((121 + i : Nat) : Int) v ↔ (0 ≤ v ∧ v < 7)) := by
  have h := lay120 i hi
  refine ⟨h.2, ⟨by omega, by omega, by rw [Int.toNat_natCast, h.1]⟩, fun v => ?_⟩
  unfold okI
  rw [Int.toNat_natCast, h.1]
  exact Iff.rfl
theorem lay139 : ∀ i, i < 92 → LAY (140 + i) = (12, 384) ∧ PT 139 i = ((140 + i : Nat) : Int) := by decide +kernel
theorem gR139 {n i : Nat} (hn : 320 ≤ n) (hi : i < 92) : PT 139 i = ((140 + i : Nat) : Int) ∧ okO n ((140 + i : Nat) : Int) 12 ∧ (∀ v : Int, okI ((140 + i : Nat) : Int) v ↔ (0 ≤ v ∧ v < 384)) := by
  have h := lay139 i hi
  refine ⟨h.2, ⟨by omega, by omega, by rw [Int.toNat_natCast, h.1]⟩, fun v => ?_⟩
  unfold okI
  rw [Int.toNat_natCast, h.1]
  exact Iff.rfl
theorem lay232 : ∀ i, i < 6 → LAY (233 + i) = (12, 6) ∧ PT 232 i = ((233 + i : Nat) : Int) := by decide +kernel
theorem gR232 {n i : Nat} (hn : 320 ≤ n) (hi : i < 6) : PT 232 i = ((233 + i : Nat) : Int) ∧ okO n ((233 + i : Nat) : Int) 12 ∧ (∀ v : Int, okI ((233 + i : Nat) : Int) v ↔ (0 ≤ v ∧ v < 6)) := by
  have h := lay232 i hi
  refine ⟨h.2, ⟨by omega, by omega, by rw [Int.toNat_natCast, h.1]⟩, fun v => ?_⟩
  unfold okI
  rw [Int.toNat_natCast, h.1]
  exact Iff.rfl
theorem lay239 : ∀ i, i < 20 → LAY (240 + i) = (12, 20) ∧ PT 239 i = ((240 + i : Nat) : Int) := by decide +kernel
theorem gR239 {n i : Nat} (hn : 320 ≤ n) (hi : i < 20) : PT 239 i = ((240 + i : Nat) : Int) ∧ okO n ((240 + i : Nat) : Int) 12 ∧ (∀ v : Int, okI ((240 + i : Nat) : Int) v ↔ (0 ≤ v ∧ v < 20)) := by
  have h := lay239 i hi
  refine ⟨h.2, ⟨by omega, by omega, by rw [Int.toNat_natCast, h.1]⟩, fun v => ?_⟩
  unfold okI
  rw [Int.toNat_natCast, h.1]
  exact Iff.rfl
theorem lay260 : ∀ i, i < 20 → LAY (261 + i) = (12, 20) ∧ PT 260 i = ((261 + i : Nat) : Int) := by decide +kernel
theorem gR260 {n i : Nat} (hn : 320 ≤ n) (hi : i < 20) : PT 260 i = ((261 + i : Nat) : Int) ∧ okO n ((261 + i : Nat) : Int) 12 ∧ (∀ v : Int, okI ((261 + i : Nat) : Int) v ↔ (0 ≤ v ∧ v < 20)) := by
  have h := lay260 i hi
  refine ⟨h.2, ⟨by omega, by omega, by rw [Int.toNat_natCast, h.1]⟩, fun v => ?_⟩
  unfold okI
  rw [Int.toNat_natCast, h.1]
  exact Iff.rfl
theorem lay281 : ∀ i, i < 20 → LAY (282 + i) = (12, 4) ∧ PT 281 i = ((282 + i : Nat) : Int) := by decide +kernel
theorem gR281 {n i : Nat} (hn : 320 ≤ n) (hi : i < 20) : PT 281 i = ((282 + i : Nat) : Int) ∧ okO n ((282 + i : Nat) : Int) 12 ∧ (∀ v : Int, okI ((282 + i : Nat) : Int) v ↔ (0 ≤ v ∧ v < 4)) := by
  have h := lay281 i hi
  refine ⟨h.2, ⟨by omega, by omega, by rw [Int.toNat_natCast, h.1]⟩, fun v => ?_⟩
  unfold okI
  rw [Int.toNat_natCast, h.1]
  exact Iff.rfl
theorem lay305 : ∀ i, i < 4 → LAY (306 + i) = (13, 40) ∧ PT 305 i = ((306 + i : Nat) : Int) := by decide +kernel
theorem gR305 {n i : Nat} (hn : 320 ≤ n) (hi : i < 4) : PT 305 i = ((306 + i : Nat) : Int) ∧ okO n ((306 + i : Nat) : Int) 13 ∧ (∀ v : Int, okI ((306 + i : Nat) : Int) v ↔ (0 ≤ v ∧ v < 40)) := by
  have h := lay305 i hi
  refine ⟨h.2, ⟨by omega, by omega, by rw [Int.toNat_natCast, h.1]⟩, fun v => ?_⟩
  unfold okI
  rw [Int.toNat_natCast, h.1]
  exact Iff.rfl
theorem lay313 : ∀ i, i < 6 → LAY (314 + i) = (12, 6) ∧ PT 313 i = ((314 + i : Nat) : Int) := by decide +kernel
theorem gR313 {n i : Nat} (hn : 320 ≤ n) (hi : i < 6) : PT 313 i = ((314 + i : Nat) : Int) ∧ okO n ((314 + i : Nat) : Int) 12 ∧ (∀ v : Int, okI ((314 + i : Nat) : Int) v ↔ (0 ≤ v ∧ v < 6)) := by
  have h := lay313 i hi
  refine ⟨h.2, ⟨by omega, by omega, by rw [Int.toNat_natCast, h.1]⟩, fun v => ?_⟩
  unfold okI
  rw [Int.toNat_natCast, h.1]
  exact Iff.rfl
theorem fS {n : Nat} (hn : 91 ≤ n) : okO n 1 9 ∧ okO n 2 1 ∧ okO n 10 1 ∧ okO n 18 1 ∧ okO n 58 4 ∧ okO n 67 8 ∧ okO n 71 0 ∧ okO n 72 3 ∧ okO n 76 7 ∧ okO n 77 15 ∧ (∀ v : Int, okI 77 v ↔ (0 ≤ v ∧ v < 4)) ∧ okO n 78 6 ∧ okO n 81 12 ∧ (∀ v : Int, okI 81 v ↔ (0 ≤ v ∧ v < 76)) ∧ okO n 82 12 ∧ (∀ v : Int, okI 82 v ↔ (0 ≤ v ∧ v < 8)) ∧ okO n 3 16 ∧ (∀ v : Int, okI 3 v ↔ (0 ≤ v ∧ v < 6)) ∧ okO n 11 16 ∧ (∀ v : Int, okI 11 v ↔ (0 ≤ v ∧ v < 6)) ∧ okO n 19 16 ∧ (∀ v : Int, okI 19 v ↔ (0 ≤ v ∧ v < 6)) ∧ okO n 73 11 ∧ (∀ v : Int, okI 73 v ↔ (0 ≤ v ∧ v < 120)) ∧ okO n 74 7 ∧ okO n 75 12 ∧ (∀ v : Int, okI 75 v ↔ (0 ≤ v ∧ v < 4)) ∧ okO n 79 12 ∧ (∀ v : Int, okI 79 v ↔ (0 ≤ v ∧ v < 10)) ∧ okO n 80 12 ∧ (∀ v : Int, okI 80 v ↔ (0 ≤ v ∧ v < 10)) ∧ okO n 59 12 ∧ (∀ v : Int, okI 59 v ↔ (0 ≤ v ∧ v < 6)) ∧ okO n 60 12 ∧ (∀ v : Int, okI 60 v ↔ (0 ≤ v ∧ v < 6)) ∧ okO n 61 12 ∧ (∀ v : Int, okI 61 v ↔ (0 ≤ v ∧ v < 6)) ∧ okO n 62 12 ∧ (∀ v : Int, okI 62 v ↔ (0 ≤ v ∧ v < 12)) ∧ okO n 63 12 ∧ (∀ v : Int, okI 63 v ↔ (0 ≤ v ∧ v < 12)) ∧ okO n 64 12 ∧ (∀ v : Int, okI 64 v ↔ (0 ≤ v ∧ v < 3136)) ∧ okO n 65 12 ∧ (∀ v : Int, okI 65 v ↔ (0 ≤ v ∧ v < 6)) ∧ okO n 66 12 ∧ (∀ v : Int, okI 66 v ↔ (0 ≤ v ∧ v < 343)) ∧ okO n 68 12 ∧ (∀ v : Int, okI 68 v ↔ (0 ≤ v ∧ v < 6)) ∧ okO n 69 12 ∧ (∀ v : Int, okI 69 v ↔ (0 ≤ v ∧ v < 19)) ∧ okO n 70 14 ∧ (∀ v : Int, okI 70 v ↔ (0 ≤ v ∧ v < 19)) ∧ PT 1 0 = 2 ∧ PT 1 1 = 10 ∧ PT 1 2 = 18 ∧ PT 1 3 = 26 ∧ PT 1 4 = 42 ∧ PT 1 5 = 58 ∧ PT 1 6 = 67 ∧ PT 1 7 = 71 ∧ PT 1 8 = 72 ∧ PT 1 9 = 76 ∧ PT 1 10 = 77 ∧ PT 1 11 = 78 ∧ PT 1 12 = 81 ∧ PT 1 13 = 82 ∧ PT 2 0 = 3 ∧ PT 10 0 = 11 ∧ PT 18 0 = 19 ∧ PT 72 0 = 73 ∧ PT 72 7 = 74 ∧ PT 72 8 = 75 ∧ PT 78 0 = 79 ∧ PT 78 1 = 80 ∧ PT 58 0 = 26 ∧ PT 58 1 = 59 ∧ PT 58 4 = 60 ∧ PT 58 5 = 61 ∧ PT 58 6 = 62 ∧ PT 58 7 = 63 ∧ PT 58 14 = 64 ∧ PT 58 15 = 65 ∧ PT 58 17 = 66 ∧ PT 67 0 = 68 ∧ PT 67 1 = 69 ∧ PT 67 2 = 70 := by
  exact ⟨okc hn (by decide), okc hn (by decide), okc hn (by decide), okc hn (by decide), okc hn (by decide), okc hn (by decide), okc hn (by decide), okc hn (by decide), okc hn (by decide), okc hn (by decide), fun v => Iff.rfl, okc hn (by decide), okc hn (by decide), fun v => Iff.rfl, okc hn (by decide), fun v => Iff.rfl, okc hn (by decide), fun v => Iff.rfl, okc hn (by decide), fun v => Iff.rfl, okc hn (by decide), fun v => Iff.rfl, okc hn (by decide), fun v => Iff.rfl, okc hn (by decide), okc hn (by decide), fun v => Iff.rfl, okc hn (by decide), fun v => Iff.rfl, okc hn (by decide), fun v => Iff.rfl, okc hn (by decide), fun v => Iff.rfl, okc hn (by decide), fun v => Iff.rfl, okc hn (by decide), fun v => Iff.rfl, okc hn (by decide), fun v => Iff.rfl, okc hn (by decide), fun v => Iff.rfl, okc hn (by decide), fun v => Iff.rfl, okc hn (by decide), fun v => Iff.rfl, okc hn (by decide), fun v => Iff.rfl, okc hn (by decide), fun v => Iff.rfl, okc hn (by decide), fun v => Iff.rfl, okc hn (by decide), fun v => Iff.rfl, by decide, by decide, by decide, by decide, by decide, by decide, by decide, by decide, by decide, by decide, by decide, by decide, by decide, by decide, by decide, by decide, by decide, by decide, by decide, by decide, by decide, by decide, by decide, by decide, by decide, by decide, by decide, by decide, by decide, by decide, by decide, by decide, by decide, by decide⟩
theorem lay77 : ∀ i, i < 4 → LAY (83 + 2 * i) = (5, 3) ∧ LAY (84 + 2 * i) = (13, 40) ∧ PT 77 i = ((83 + 2 * i : Nat) : Int) ∧ PT (83 + 2 * i) 2 = ((84 + 2 * i : Nat) : Int) := by decide +kernel
theorem lS {n l : Nat} (hn : 91 ≤ n) (hl : l = 26 ∨ l = 42) : okO n (l : Int) 2 ∧ PT l 2 = ((l + 1 : Nat) : Int) ∧ PT l 3 = ((l + 2 : Nat) : Int) ∧ PT l 4 = ((l + 3 : Nat) : Int) ∧ PT l 5 = ((l + 4 : Nat) : Int) ∧ PT l 6 = ((l + 5 : Nat) : Int) ∧ PT l 7 = ((l + 6 : Nat) : Int) ∧ PT l 9 = ((l + 7 : Nat) : Int) ∧ PT l 10 = ((l + 8 : Nat) : Int) ∧ PT l 11 = ((l + 9 : Nat) : Int) ∧ PT l 12 = ((l + 10 : Nat) : Int) ∧ PT l 13 = ((l + 11 : Nat) : Int) ∧ PT l 15 = ((l + 12 : Nat) : Int) ∧ PT l 16 = ((l + 13 : Nat) : Int) ∧ PT l 17 = ((l + 14 : Nat) : Int) ∧ PT l 18 = ((l + 15 : Nat) : Int) ∧ okO n ((l + 1 : Nat) : Int) 12 ∧ okO n ((l + 2 : Nat) : Int) 12 ∧ okO n ((l + 3 : Nat) : Int) 12 ∧ okO n ((l + 4 : Nat) : Int) 12 ∧ okO n ((l + 5 : Nat) : Int) 12 ∧ okO n ((l + 6 : Nat) : Int) 12 ∧ okO n ((l + 7 : Nat) : Int) 12 ∧ okO n ((l + 8 : Nat) : Int) 12 ∧ okO n ((l + 9 : Nat) : Int) 12 ∧ okO n ((l + 10 : Nat) : Int) 12 ∧ okO n ((l + 11 : Nat) : Int) 12 ∧ okO n ((l + 12 : Nat) : Int) 12 ∧ okO n ((l + 13 : Nat) : Int) 12 ∧ okO n ((l + 14 : Nat) : Int) 12 ∧ okO n ((l + 15 : Nat) : Int) 12 ∧ (∀ v : Int, okI ((l + 1 : Nat) : Int) v ↔ (0 ≤ v ∧ v < 12)) ∧ (∀ v : Int, okI ((l + 2 : Nat) : Int) v ↔ (0 ≤ v ∧ v < 12)) ∧ (∀ v : Int, okI ((l + 3 : Nat) : Int) v ↔ (0 ≤ v ∧ v < 6)) ∧ (∀ v : Int, okI ((l + 4 : Nat) : Int) v ↔ (0 ≤ v ∧ v < 6)) ∧ (∀ v : Int, okI ((l + 5 : Nat) : Int) v ↔ (0 ≤ v ∧ v < 78)) ∧ (∀ v : Int, okI ((l + 6 : Nat) : Int) v ↔ (0 ≤ v ∧ v < 13)) ∧ (∀ v : Int, okI ((l + 7 : Nat) : Int) v ↔ (0 ≤ v ∧ v < 13)) ∧ (∀ v : Int, okI ((l + 8 : Nat) : Int) v ↔ (0 ≤ v ∧ v < 49)) ∧ (∀ v : Int, okI ((l + 9 : Nat) : Int) v ↔ (0 ≤ v ∧ v < 49)) ∧ (∀ v : Int, okI ((l + 10 : Nat) : Int) v ↔ (0 ≤ v ∧ v < 49)) ∧ (∀ v : Int, okI ((l + 11 : Nat) : Int) v ↔ (0 ≤ v ∧ v < 49)) ∧ (∀ v : Int, okI ((l + 12 : Nat) : Int) v ↔ (0 ≤ v ∧ v < 19)) ∧ (∀ v : Int, okI ((l + 13 : Nat) : Int) v ↔ (0 ≤ v ∧ v < 19)) ∧ (∀ v : Int, okI ((l + 14 : Nat) : Int) v ↔ (0 ≤ v ∧ v < 19)) ∧ (∀ v : Int, okI ((l + 15 : Nat) : Int) v ↔ (0 ≤ v ∧ v < 361)) := by
  rcases hl with rfl | rfl
  · exact ⟨okc hn (by decide), by decide, by decide, by decide, by decide, by decide, by decide, by decide, by decide, by decide, by decide, by decide, by decide, by decide, by decide, by decide, okc hn (by decide), okc hn (by decide), okc hn (by decide), okc hn (by decide), okc hn (by decide), okc hn (by decide), okc hn (by decide), okc hn (by decide), okc hn (by decide), okc hn (by decide), okc hn (by decide), okc hn (by decide), okc hn (by decide), okc hn (by decide), okc hn (by decide), fun v => Iff.rfl, fun v => Iff.rfl, fun v => Iff.rfl, fun v => Iff.rfl, fun v => Iff.rfl, fun v => Iff.rfl, fun v => Iff.rfl, fun v => Iff.rfl, fun v => Iff.rfl, fun v => Iff.rfl, fun v => Iff.rfl, fun v => Iff.rfl, fun v => Iff.rfl, fun v => Iff.rfl, fun v => Iff.rfl⟩
  · exact ⟨okc hn (by decide), by decide, by decide, by decide, by decide, by decide, by decide, by decide, by decide, by decide, by decide, by decide, by decide, by decide, by decide, by decide, okc hn (by decide), okc hn (by decide), okc hn (by decide), okc hn (by decide), okc hn (by decide), okc hn (by decide), okc hn (by decide), okc hn (by decide), okc hn (by decide), okc hn (by decide), okc hn (by decide), okc hn (by decide), okc hn (by decide), okc hn (by decide), okc hn (by decide), fun v => Iff.rfl, fun v => Iff.rfl, fun v => Iff.rfl, fun v => Iff.rfl, fun v => Iff.rfl, fun v => Iff.rfl, fun v => Iff.rfl, fun v => Iff.rfl, fun v => Iff.rfl, fun v => Iff.rfl, fun v => Iff.rfl, fun v => Iff.rfl, fun v => Iff.rfl, fun v => Iff.rfl, fun v => Iff.rfl⟩
theorem ES {n e : Nat} (hn : 91 ≤ n) (he : e = 2 ∨ e = 10 ∨ e = 18) : okO n (e : Int) 1 ∧ PT e 0 = ((e + 1 : Nat) : Int) ∧ okO n ((e + 1 : Nat) : Int) 16 ∧ (∀ v : Int, okI ((e + 1 : Nat) : Int) v ↔ (0 ≤ v ∧ v < 6)) := by
  rcases he with rfl | rfl | rfl
  · exact ⟨okc hn (by decide), by decide, okc hn (by decide), fun v => Iff.rfl⟩
  · exact ⟨okc hn (by decide), by decide, okc hn (by decide), fun v => Iff.rfl⟩
  · exact ⟨okc hn (by decide), by decide, okc hn (by decide), fun v => Iff.rfl⟩
theorem layE : ∀ e, (e = 2 ∨ e = 10 ∨ e = 18) → ∀ i, i < 6 → LAY (e + 2 + i) = (7, 6) ∧ PT (e + 1) i = ((e + 2 + i : Nat) : Int) := by
  intro e he
  rcases he with rfl | rfl | rfl <;> decide +kernel
theorem EW {n e i : Nat} (hn : 91 ≤ n) (he : e = 2 ∨ e = 10 ∨ e = 18) (hi : i < 6) : PT (e + 1) i = ((e + 2 + i : Nat) : Int) ∧ okO n ((e + 2 + i : Nat) : Int) 7 := by
  have h := layE e he i hi
  exact ⟨h.2, by omega, by rcases he with rfl | rfl | rfl <;> omega, by rw [Int.toNat_natCast, h.1]⟩
