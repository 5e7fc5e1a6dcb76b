/-! my own: calls that change one thing -/
theorem Inv.up2 {C D : Cn} (h : Inv C) (g : ∀ b t, IC b t → ¬ ((b = 2 ∨ b = 91) ∧ 2 ≤ t ∧ t ≤ 4) → D b t = C b t) (j : I2 D) : Inv D := by
  obtain ⟨m, i1, i2, i3, i4, i5, i6, i7, i8, i9, i10⟩ := h
  have m6 := i1.1
  refine ⟨m, i1.congr (fun b t hb => g b t ?_ ?_), j, i3.congr (fun b t hb => g b t ?_ ?_), i4.congr (fun b t hb => g b t ?_ ?_), i5.congr (fun b t hb => g b t ?_ ?_), i6.congr (fun b t hb => g b t ?_ ?_), i7.congr (fun b t hb => g b t ?_ ?_), i8.congr (fun b t hb => g b t ?_ ?_), i9.congr (fun b t hb => g b t ?_ ?_), i10.congr m6 (fun b t hb => g b t ?_ ?_)⟩ <;> (clear i1 i2 i3 i4 i5 i6 i7 i8 i9 i10 j g m6; (try unfold IC); omega)
theorem Inv.up4 {C D : Cn} (h : Inv C) (g : ∀ b t, IC b t → ¬ (b = 71 ∨ (b = 91 ∧ 6 ≤ t ∧ t ≤ 8)) → D b t = C b t) (j : I4 D) : Inv D := by
  obtain ⟨m, i1, i2, i3, i4, i5, i6, i7, i8, i9, i10⟩ := h
  have m6 := i1.1
  refine ⟨m, i1.congr (fun b t hb => g b t ?_ ?_), i2.congr (fun b t hb => g b t ?_ ?_), i3.congr (fun b t hb => g b t ?_ ?_), j, i5.congr (fun b t hb => g b t ?_ ?_), i6.congr (fun b t hb => g b t ?_ ?_), i7.congr (fun b t hb => g b t ?_ ?_), i8.congr (fun b t hb => g b t ?_ ?_), i9.congr (fun b t hb => g b t ?_ ?_), i10.congr m6 (fun b t hb => g b t ?_ ?_)⟩ <;> (clear i1 i2 i3 i4 i5 i6 i7 i8 i9 i10 j g m6; (try unfold IC); omega)
theorem Inv.up5 {C D : Cn} (h : Inv C) (g : ∀ b t, IC b t → ¬ ((b = 1 ∧ t = 14) ∨ b = 81 ∨ (b = 91 ∧ t = 35) ∨ (282 ≤ b ∧ b ≤ 300)) → D b t = C b t) (j : I5 D) : Inv D := by
  obtain ⟨m, i1, i2, i3, i4, i5, i6, i7, i8, i9, i10⟩ := h
  have m6 := i1.1
  refine ⟨m, i1.congr (fun b t hb => g b t ?_ ?_), i2.congr (fun b t hb => g b t ?_ ?_), i3.congr (fun b t hb => g b t ?_ ?_), i4.congr (fun b t hb => g b t ?_ ?_), j, i6.congr (fun b t hb => g b t ?_ ?_), i7.congr (fun b t hb => g b t ?_ ?_), i8.congr (fun b t hb => g b t ?_ ?_), i9.congr (fun b t hb => g b t ?_ ?_), i10.congr m6 (fun b t hb => g b t ?_ ?_)⟩ <;> (clear i1 i2 i3 i4 i5 i6 i7 i8 i9 i10 j g m6; (try unfold IC); omega)
theorem Inv.up6 {C D : Cn} (h : Inv C) (g : ∀ b t, IC b t → ¬ ((b = 72 ∧ t = 1) ∨ b = 73 ∨ (b = 91 ∧ t = 38) ∨ b = 302) → D b t = C b t) (j : I6 D) : Inv D := by
  obtain ⟨m, i1, i2, i3, i4, i5, i6, i7, i8, i9, i10⟩ := h
  have m6 := i1.1
  refine ⟨m, i1.congr (fun b t hb => g b t ?_ ?_), i2.congr (fun b t hb => g b t ?_ ?_), i3.congr (fun b t hb => g b t ?_ ?_), i4.congr (fun b t hb => g b t ?_ ?_), i5.congr (fun b t hb => g b t ?_ ?_), j, i7.congr (fun b t hb => g b t ?_ ?_), i8.congr (fun b t hb => g b t ?_ ?_), i9.congr (fun b t hb => g b t ?_ ?_), i10.congr m6 (fun b t hb => g b t ?_ ?_)⟩ <;> (clear i1 i2 i3 i4 i5 i6 i7 i8 i9 i10 j g m6; (try unfold IC); omega)
theorem Inv.up7 {C D : Cn} (h : Inv C) (g : ∀ b t, IC b t → ¬ ((83 ≤ b ∧ b ≤ 90) ∨ b = 303 ∨ b = 304 ∨ (306 ≤ b ∧ b ≤ 309)) → D b t = C b t) (j : I7 D) : Inv D := by
  obtain ⟨m, i1, i2, i3, i4, i5, i6, i7, i8, i9, i10⟩ := h
  have m6 := i1.1
  refine ⟨m, i1.congr (fun b t hb => g b t ?_ ?_), i2.congr (fun b t hb => g b t ?_ ?_), i3.congr (fun b t hb => g b t ?_ ?_), i4.congr (fun b t hb => g b t ?_ ?_), i5.congr (fun b t hb => g b t ?_ ?_), i6.congr (fun b t hb => g b t ?_ ?_), j, i8.congr (fun b t hb => g b t ?_ ?_), i9.congr (fun b t hb => g b t ?_ ?_), i10.congr m6 (fun b t hb => g b t ?_ ?_)⟩ <;> (clear i1 i2 i3 i4 i5 i6 i7 i8 i9 i10 j g m6; (try unfold IC); omega)
theorem Inv.up8 {C D : Cn} (h : Inv C) (g : ∀ b t, IC b t → ¬ (b = 79 ∨ b = 80 ∨ b = 311 ∨ b = 312) → D b t = C b t) (j : I8 D) : Inv D := by
  obtain ⟨m, i1, i2, i3, i4, i5, i6, i7, i8, i9, i10⟩ := h
  have m6 := i1.1
  refine ⟨m, i1.congr (fun b t hb => g b t ?_ ?_), i2.congr (fun b t hb => g b t ?_ ?_), i3.congr (fun b t hb => g b t ?_ ?_), i4.congr (fun b t hb => g b t ?_ ?_), i5.congr (fun b t hb => g b t ?_ ?_), i6.congr (fun b t hb => g b t ?_ ?_), i7.congr (fun b t hb => g b t ?_ ?_), j, i9.congr (fun b t hb => g b t ?_ ?_), i10.congr m6 (fun b t hb => g b t ?_ ?_)⟩ <;> (clear i1 i2 i3 i4 i5 i6 i7 i8 i9 i10 j g m6; (try unfold IC); omega)
theorem Inv.up9 {C D : Cn} (h : Inv C) (g : ∀ b t, IC b t → ¬ ((b = 1 ∧ t = 15) ∨ (10 ≤ b ∧ b ≤ 17) ∨ (b = 91 ∧ 50 ≤ t) ∨ 314 ≤ b) → D b t = C b t) (j : I9 D) : Inv D := by
  obtain ⟨m, i1, i2, i3, i4, i5, i6, i7, i8, i9, i10⟩ := h
  have m6 := i1.1
  refine ⟨m, i1.congr (fun b t hb => g b t ?_ ?_), i2.congr (fun b t hb => g b t ?_ ?_), i3.congr (fun b t hb => g b t ?_ ?_), i4.congr (fun b t hb => g b t ?_ ?_), i5.congr (fun b t hb => g b t ?_ ?_), i6.congr (fun b t hb => g b t ?_ ?_), i7.congr (fun b t hb => g b t ?_ ?_), i8.congr (fun b t hb => g b t ?_ ?_), j, i10.congr m6 (fun b t hb => g b t ?_ ?_)⟩ <;> (clear i1 i2 i3 i4 i5 i6 i7 i8 i9 i10 j g m6; (try unfold IC); omega)
/-- the segments have changed, and with them the land; tide, ledger, z, blame may have -/
theorem Inv.upS {C D : Cn} {m : Nat} (h : Inv C) (g : ∀ b t, IC b t → ¬ ((2 ≤ b ∧ b ≤ 9) ∨ (20 ≤ b ∧ b ≤ 25) ∨ (26 ≤ b ∧ b ≤ 41) ∨ b = 58 ∨ (60 ≤ b ∧ b ≤ 63) ∨ b = 66 ∨ b = 71 ∨ (b = 91 ∧ t ≤ 8) ∨ (93 ≤ b ∧ b ≤ 98)) → D b t = C b t) (j1 : I1 D m) (j2 : I2 D) (j4 : I4 D) (j10 : I10 D m) : Inv D := by
  obtain ⟨m', i1, i2, i3, i4, i5, i6, i7, i8, i9, i10⟩ := h
  refine ⟨m, j1, j2, i3.congr (fun b t hb => g b t ?_ ?_), j4, i5.congr (fun b t hb => g b t ?_ ?_), i6.congr (fun b t hb => g b t ?_ ?_), i7.congr (fun b t hb => g b t ?_ ?_), i8.congr (fun b t hb => g b t ?_ ?_), i9.congr (fun b t hb => g b t ?_ ?_), j10⟩ <;> (clear i1 i2 i3 i4 i5 i6 i7 i8 i9 i10 j1 j2 j4 j10 g; (try unfold IC); omega)
