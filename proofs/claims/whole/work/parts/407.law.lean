/-! my own: the law's loop -/
theorem or64_r (a b : Int) : r64 (or64 a b) := by
  unfold or64
  exact i64_rng _
theorem wj (j i : Nat) (h : 6 * j ≤ 4000) (hi : i ≤ 6) : w32 (((6 * j : Nat) : Int) + (i : Nat)) = ((6 * j + i : Nat) : Int) := by
  rw [w32_id (by omega) (by omega)]
  omega
theorem c_law {XS : Nat → Int} {LN : Int} {L n kc ks : Nat} {C : Cn} (eL : LN = (L : Int)) (hL : L ≤ 3072) (rX : ∀ j, r32 (XS j)) (hn : 320 ≤ n) (inv : Inv C) (hkc : kc ≤ 1000) (hks : ks ≤ 50000) : E_L_law XS LN n C kc ks 2 1 91 (fun r _ _ => r = 1) := by
  unfold E_L_law
  subst eL
  refine lp_rule (fun (z : Cn × Nat × Nat × Nat × Int) => ∃ j : Nat, 6 * j ≤ L ∧ z.2.2.2.2 = ((6 * j : Nat) : Int) ∧ 320 ≤ z.2.1 ∧ Inv z.1 ∧ z.2.2.1 ≤ 1000 + 130 * j ∧ z.2.2.2.1 ≤ 50000 + 780 * j) (fun z => (4000 - z.2.2.2.2).toNat) ?_ (C, n, kc, ks, 0) ⟨0, by omega, rfl, hn, inv, by dsimp only; omega, by dsimp only; omega⟩
  clear inv hn hkc hks
  rintro ⟨D, n', kc', ks', v3⟩ ⟨j, z0, z1, hn, inv, z4, z5⟩ K hK
  dsimp only at z1 hn inv z4 z5
  subst z1
  have o1 : okO n' 1 9 := okc (by omega) ⟨by decide, by decide, by decide +kernel⟩
  have o91 : okO n' 91 10 := okm hn ⟨by decide, by decide, by decide +kernel⟩
  have go : 6 * j + 6 ≤ L → ∀ C2 : Cn, Inv C2 → K (C2, n', kc', ks', ((6 * j + 6 : Nat) : Int)) := fun h C2 i2 => hK _ ⟨j + 1, by omega, by dsimp only; omega, hn, i2, by dsimp only; omega, by dsimp only; omega⟩ (by dsimp only; omega)
  have got : 6 * j + 6 ≤ L → ∀ (C2 : Cn) (n2 : Nat), Inv C2 → n' ≤ n2 → K (C2, n2, kc' + 130, ks' + 780, ((6 * j + 6 : Nat) : Int)) := fun h C2 n2 i2 h2 => hK _ ⟨j + 1, by omega, by dsimp only; omega, by dsimp only; omega, i2, by dsimp only; omega, by dsimp only; omega⟩ (by dsimp only; omega)
  have skip : 6 * j + 6 ≤ L → K (D, n', kc', ks', ((6 * j + 6 : Nat) : Int)) := fun h => go h D inv
  have h4 : 6 * j ≤ 4000 := by omega
  have e0 : w32 ((L : Int) - 6) = (L : Int) - 6 := w32_id (by omega) (by omega)
  have e1 : w32 (((6 * j : Nat) : Int) + 1) = ((6 * j + 1 : Nat) : Int) := wj j 1 h4 (by decide)
  have e2 : w32 (((6 * j : Nat) : Int) + 2) = ((6 * j + 2 : Nat) : Int) := wj j 2 h4 (by decide)
  have e3 : w32 (((6 * j : Nat) : Int) + 3) = ((6 * j + 3 : Nat) : Int) := wj j 3 h4 (by decide)
  have e4 : w32 (((6 * j : Nat) : Int) + 4) = ((6 * j + 4 : Nat) : Int) := wj j 4 h4 (by decide)
  have e5 : w32 (((6 * j : Nat) : Int) + 5) = ((6 * j + 5 : Nat) : Int) := wj j 5 h4 (by decide)
  have e6 : w32 (((6 * j : Nat) : Int) + 6) = ((6 * j + 6 : Nat) : Int) := wj j 6 h4 (by decide)
  unfold B_L_law_18
  simp only [e0, e1, e2, e3, e4, e5, e6, Int.toNat_natCast, true_and]
  clear e0 e1 e2 e3 e4 e5 e6
  refine ⟨fun q => ⟨by omega, by omega, trivial⟩, fun q => ⟨by omega, by omega, ?_⟩⟩
  have jL : 6 * j + 6 ≤ L := by omega
  have g := go jL
  clear go hK
  exact ⟨fun _ => ⟨by omega, by omega, by omega, by omega, by omega, by omega, by omega, by omega, by omega, by omega, o1, by omega, by omega, c_segment hn inv, o91, g⟩,
    fun _ => ⟨by omega, by omega, by omega, by omega, by omega, by omega, by omega, by omega, by omega, by omega, o1, by omega, by omega, c_move hn inv, o91, g⟩,
    fun _ => ⟨by omega, by omega, by omega, by omega, o1, by omega, by omega, c_become hn inv, o91, g⟩,
    fun _ => ⟨o1, by omega, by omega, c_drop hn inv, o91, g⟩,
    fun _ => ⟨by omega, by omega, by omega, by omega, o1, by omega, by omega, c_of hn inv, o91, g⟩,
    fun _ => ⟨by omega, by omega, o1, by omega, by omega, c_tide hn inv, o91, g⟩,
    fun _ => ⟨by omega, by omega, o1, by omega, by omega, c_blame hn inv, o91, g⟩,
    fun _ => ⟨by omega, by omega, o1, by omega, by omega, c_many hn inv, o91, g⟩,
    fun _ => ⟨by omega, by omega, by omega, by omega, o1, by omega, by omega, c_end hn inv, o91, g⟩,
    fun _ => ⟨by omega, by omega, by omega, by omega, o1, by omega, by omega, c_field hn inv, o91, g⟩,
    fun _ => ⟨by omega, by omega, by omega, by omega, o1, by omega, by omega, c_at hn inv, o91, g⟩,
    fun _ => ⟨by omega, by omega, by omega, by omega, by omega, by omega, o1, by omega, by omega, c_near hn inv, o91, g⟩,
    fun _ => ⟨by omega, by omega, by omega, by omega, by omega, by omega, by omega, by omega, o1, by omega, by omega, c_sight hn inv, o91, g⟩,
    fun _ => ⟨by omega, by omega, by omega, by omega, o1, by omega, by omega, c_steps hn inv, o91, g⟩,
    fun _ => ⟨by omega, by omega, o1, by omega, by omega, c_depth hn inv, o91, g⟩,
    fun _ => ⟨by omega, by omega, by omega, by omega, o1, by omega, by omega, c_ordered hn inv, o91, g⟩,
    fun _ => ⟨o1, by omega, by omega, c_best hn inv, o91, g⟩,
    fun _ => ⟨by omega, by omega, o1, by omega, by omega, c_renumber hn inv, o91, g⟩,
    fun _ => ⟨by omega, by omega, by omega, by omega, o1, by omega, by omega, c_cost hn inv, o91, g⟩,
    fun _ => ⟨by omega, by omega, by omega, by omega, o1, by omega, by omega, c_next hn inv, o91, g⟩,
    fun _ => ⟨by omega, by omega, by omega, by omega, o1, by omega, by omega, c_within hn inv, o91, g⟩,
    fun _ => ⟨by omega, by omega, by omega, by omega, by omega, by omega, by omega, by omega, o1, by omega, by omega, c_lose hn inv, o91, g⟩,
    fun _ => ⟨by omega, by omega, by omega, by omega, by omega, by omega, by omega, by omega, by omega, by omega, o1, by omega, by omega, c_kindFor hn inv, o91, g⟩,
    fun _ => ⟨by omega, by omega, by omega, by omega, o1, by omega, by omega, c_asks hn inv, o91, g⟩,
    fun _ => ⟨by omega, by omega, o1, by omega, by omega, c_loose hn inv, o91, g⟩,
    fun _ => ⟨by omega, by omega, by omega, by omega, by omega, by omega, o1, by omega, by omega, c_book hn inv (or64_r _ _), o91, g⟩,
    fun _ => ⟨by omega, by omega, o1, by omega, by omega, c_seed hn inv (rX _), o91, g⟩,
    fun _ => ⟨o1, by omega, by omega, c_prove hn inv, o91, g⟩,
    fun _ => ⟨by omega, by omega, by omega, by omega, o1, by omega, by omega, c_row hn inv, o91, g⟩,
    fun _ => ⟨by omega, by omega, by omega, by omega, by omega, by omega, o1, by omega, by omega, c_alter hn inv, o91, g⟩,
    fun _ => ⟨o1, by omega, by omega, c_judge hn inv, o91, g⟩,
    fun _ => ⟨by omega, by omega, by omega, by omega, o1, by omega, by omega, c_feed hn inv, o91, g⟩,
    fun _ => ⟨o1, by omega, by omega, c_wipe hn inv, o91, g⟩,
    fun _ => ⟨o1, by omega, by omega, c_text hn inv, o91, by omega, by omega, got jL⟩,
    fun _ => ⟨by omega, by omega, by omega, by omega, by omega, by omega, o1, by omega, by omega, c_sheet hn inv, o91, g⟩,
    fun _ => ⟨by omega, by omega, by omega, by omega, by omega, by omega, by omega, by omega, o1, by omega, by omega, c_write hn inv, o91, g⟩,
    fun _ => ⟨by omega, by omega, by omega, by omega, o1, by omega, by omega, c_item hn inv, o91, g⟩,
    fun _ => ⟨by omega, by omega, by omega, by omega, by omega, by omega, by omega, by omega, by omega, by omega, o1, by omega, by omega, c_copy hn inv (rX _) (rX _) (rX _), o91, g⟩,
    fun _ => ⟨by omega, by omega, by omega, by omega, by omega, by omega, o1, by omega, by omega, c_hold hn inv, o91, g⟩,
    fun _ => ⟨by omega, by omega, by omega, by omega, o1, by omega, by omega, c_taken hn inv, o91, g⟩,
    fun _ => ⟨o1, by omega, by omega, c_image hn inv, o91, g⟩,
    fun _ => ⟨o1, by omega, by omega, c_back hn inv, o91, g⟩,
    fun _ => ⟨by omega, by omega, o1, by omega, by omega, c_count hn inv, o91, g⟩,
    fun _ => ⟨by omega, by omega, o1, by omega, by omega, c_status hn inv, o91, g⟩,
    fun _ => skip jL⟩
