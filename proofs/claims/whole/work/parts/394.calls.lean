/-! my own: the reference's tokens -/
def TG (C : Cn) (T : Nat → Int) (L : Nat) : Prop := L ≤ 120 ∧ C 91 38 = (L : Int) ∧ ∀ t, t < L → (0 ≤ T t ∧ T t < 256) ∧ C 302 t = T t
theorem TG.congr {C D : Cn} {T : Nat → Int} {L : Nat} (h : TG C T L) (g : ∀ b t, (b = 91 ∧ t = 38) ∨ b = 302 → D b t = C b t) : TG D T L := ⟨h.1, by rw [g _ _ (by omega)]; exact h.2.1, fun t ht => by rw [g _ _ (by omega)]; exact h.2.2 t ht⟩
def TkG (C : Cn) (T : Nat → Int) (L p : Nat) : Prop := C 91 39 = (tkS T L p : Nat) ∧ C 91 40 = (tkE T L p : Nat) ∧ C 91 41 = (tkK T L p : Nat) ∧ C 91 42 = tkV T L p
theorem TkG.congr {C D : Cn} {T : Nat → Int} {L p : Nat} (h : TkG C T L p) (g : ∀ t, 39 ≤ t → t ≤ 42 → D 91 t = C 91 t) : TkG D T L p := by
  unfold TkG at *
  rw [g 39 (by omega) (by omega), g 40 (by omega) (by omega), g 41 (by omega) (by omega), g 42 (by omega) (by omega)]
  exact h
theorem g_isOf {n j L : Nat} {C : Cn} {T : Nat → Int} {a b : Int} {Q : Int → Prop} (hn : 320 ≤ n) (tg : TG C T L) (h1 : j < L → a ≤ T j ∧ T j ≤ b → Q 1) (h0 : ¬ (j < L ∧ a ≤ T j ∧ T j ≤ b) → Q 0) : P_G_isOf n C 91 (j : Int) a b Q := by
  obtain ⟨l1, l2, l3⟩ := tg
  unfold P_G_isOf J_G_isOf_30
  simp only [gS hn, Int.reduceToNat, Int.toNat_natCast, true_and, l2]
  refine ⟨fun q => h0 (fun w => by omega), fun q => ?_⟩
  have hj : j < L := by omega
  rw [(l3 j hj).2]
  refine ⟨by omega, g_in ?_⟩
  by_cases e : a ≤ T j ∧ T j ≤ b
  · rw [bI_t e, if_neg (by decide)]
    exact ⟨Or.inr rfl, h1 hj e⟩
  · rw [bI_f e, if_pos rfl]
    exact ⟨Or.inl rfl, h0 (fun w => e w.2)⟩
theorem g_looks {n p L : Nat} {C : Cn} {T : Nat → Int} {Q : Int → Cn → Prop} (hn : 320 ≤ n) (tg : TG C T L) (hp : p ≤ L) (h : ∀ C2 : Cn, (∀ b t, ¬ (b = 91 ∧ 39 ≤ t ∧ t ≤ 42) → C2 b t = C b t) → TkG C2 T L p → Q 0 C2) : P_G_looks n C 91 (p : Int) Q := by
  have L120 := tg.1
  have sb : p ≤ tkS T L p ∧ tkS T L p ≤ L := tkR_b hp
  unfold P_G_looks
  simp only [gS hn, Int.reduceToNat, true_and]
  intro C2 c2
  have A : ∀ D : Cn, (∀ b t, ¬ (b = 91 ∧ t = 39) → D b t = C b t) → D 91 39 = (tkS T L p : Nat) → J_G_looks_33 n D 91 Q := by
    intro D d1 d2
    unfold J_G_looks_33
    simp only [gS hn, Int.reduceToNat, true_and]
    intro D10 d10 D11 d11
    rw [d2] at d10
    have o6 : ∀ b t, ¬ (b = 91 ∧ (t = 39 ∨ t = 40 ∨ t = 42)) → D11 b t = C b t := fun b t hb => by rw [d11, wr_ne (by omega), d10, wr_ne (by omega), d1 b t (by omega)]
    have e3 : D11 91 39 = (tkS T L p : Nat) := by rw [d11, wr_ne (by omega), d10, wr_ne (by omega), d2]
    have e4 : D11 91 40 = (tkS T L p : Nat) := by rw [d11, wr_ne (by omega), d10, wr_same]
    have e5 : D11 91 42 = 0 := by rw [d11, wr_same]
    have e1 : D11 91 38 = (L : Int) := by rw [o6 _ _ (by omega), tg.2.1]
    have t6 : TG D11 T L := tg.congr (fun b t hb => o6 b t (by omega))
    clear d10 d11 d1 d2
    rw [e3, e1]
    refine ⟨fun q => ?_, fun q => ?_⟩
    · have K : tkK T L p = 0 := by
        unfold tkK
        rw [if_pos (by omega)]
      intro D41 d41
      refine h D41 (fun b t hb => by rw [d41, wr_ne (by omega), o6 b t (by omega)]) ⟨?_, ?_, ?_, ?_⟩
      · rw [d41, wr_ne (by omega), e3]
      · rw [d41, wr_ne (by omega), e4]
        unfold tkE
        rw [if_pos K]
      · rw [d41, wr_same, K]
        rfl
      · rw [d41, wr_ne (by omega), e5]
        unfold tkV
        rw [if_neg (by omega)]
    · have hS : tkS T L p < L := by omega
      refine g_isOf hn t6 (fun _ y1 => ⟨fun w => absurd w (by decide), fun _ => ?_⟩) (fun n1 => ⟨fun _ => ?_, fun w => absurd rfl w⟩)
      · -- letters
        have K : tkK T L p = 1 := by
          unfold tkK
          rw [if_neg (by omega), if_pos y1]
        have eE : tkE T L p = tkR isLt T L (tkS T L p) := by
          unfold tkE
          rw [if_neg (by omega), if_pos K]
        have rb := tkR_b (c := isLt) (T := T) sb.2
        intro D31 d31
        refine lp_rule (fun (z : Cn) => ∃ j : Nat, tkS T L p ≤ j ∧ j ≤ tkR isLt T L (tkS T L p) ∧ (∀ b t, ¬ (b = 91 ∧ t = 40) → z b t = D31 b t) ∧ z 91 40 = (j : Int)) (fun z => (200 - z 91 40).toNat) ?_ D31 ⟨tkS T L p, Nat.le_refl _, rb.1, fun _ _ _ => rfl, by rw [d31, wr_ne (by omega), e4]⟩
        rintro z ⟨j, z0, z1, z2, z3⟩ K2 hK2
        have zC : ∀ b t, ¬ (b = 91 ∧ 39 ≤ t ∧ t ≤ 42) → z b t = C b t := fun b t hb => by rw [z2 b t (by omega), d31, wr_ne (by omega), o6 b t (by omega)]
        have tz : TG z T L := tg.congr (fun b t hb => zC b t (by omega))
        have ri := tkR_iff (c := isLt) (T := T) sb.2 z0 z1
        have fin : j = tkR isLt T L (tkS T L p) → Q 0 z := by
          intro ej
          refine h z zC ⟨?_, ?_, ?_, ?_⟩
          · rw [z2 _ _ (by omega), d31, wr_ne (by omega), e3]
          · rw [z3, eE, ej]
          · rw [z2 _ _ (by omega), d31, wr_same, K]
            rfl
          · rw [z2 _ _ (by omega), d31, wr_ne (by omega), e5]
            unfold tkV
            rw [if_neg (by omega)]
        unfold B_G_looks_85 J_G_looks_242
        simp only [gS hn, Int.reduceToNat, true_and, z3]
        refine g_isOf hn tz (fun hj y3 => ⟨fun w => absurd w (by decide), fun _ => ?_⟩) (fun n3 => ⟨fun _ => fin ?_, fun w => absurd rfl w⟩)
        · have jl := ri.mpr ⟨hj, y3⟩
          rw [w32_n (by omega)]
          intro D39 d39
          have y4 : D39 91 40 = ((j + 1 : Nat) : Int) := by rw [d39, wr_same]
          exact hK2 _ ⟨j + 1, by omega, by omega, fun b t hb => by rw [d39, wr_ne hb, z2 b t hb], y4⟩ (by rw [y4, z3]; omega)
        · by_cases e : j = tkR isLt T L (tkS T L p)
          · exact e
          · have w := ri.mp (by omega)
            exact absurd ⟨w.1, w.2⟩ n3
      · have n1' : ¬ isLt (T (tkS T L p)) := fun w => n1 ⟨hS, w⟩
        refine g_isOf hn t6 (fun _ y2 => ⟨fun w => absurd w (by decide), fun _ => ?_⟩) (fun n2 => ⟨fun _ => ?_, fun w => absurd rfl w⟩)
        · -- digits
          have K : tkK T L p = 2 := by
            unfold tkK
            rw [if_neg (by omega), if_neg n1', if_pos y2]
          have eE : tkE T L p = tkR isDg T L (tkS T L p) := by
            unfold tkE
            rw [if_neg (by omega), if_neg (by omega), if_pos K]
          have rb := tkR_b (c := isDg) (T := T) sb.2
          intro D31 d31
          refine lp_rule (fun (z : Cn) => ∃ j : Nat, tkS T L p ≤ j ∧ j ≤ tkR isDg T L (tkS T L p) ∧ (∀ b t, ¬ (b = 91 ∧ (t = 40 ∨ t = 42)) → z b t = D31 b t) ∧ z 91 40 = (j : Int) ∧ z 91 42 = vlc T (tkS T L p) 1000 (j - tkS T L p)) (fun z => (200 - z 91 40).toNat) ?_ D31 ⟨tkS T L p, Nat.le_refl _, rb.1, fun _ _ _ => rfl, by rw [d31, wr_ne (by omega), e4], by rw [d31, wr_ne (by omega), e5, Nat.sub_self]; rfl⟩
          rintro z ⟨j, z0, z1, z2, z3, z4⟩ K2 hK2
          have zC : ∀ b t, ¬ (b = 91 ∧ 39 ≤ t ∧ t ≤ 42) → z b t = C b t := fun b t hb => by rw [z2 b t (by omega), d31, wr_ne (by omega), o6 b t (by omega)]
          have tz : TG z T L := tg.congr (fun b t hb => zC b t (by omega))
          have ri := tkR_iff (c := isDg) (T := T) sb.2 z0 z1
          have fin : j = tkR isDg T L (tkS T L p) → Q 0 z := by
            intro ej
            refine h z zC ⟨?_, ?_, ?_, ?_⟩
            · rw [z2 _ _ (by omega), d31, wr_ne (by omega), e3]
            · rw [z3, eE, ej]
            · rw [z2 _ _ (by omega), d31, wr_same, K]
              rfl
            · rw [z4]
              unfold tkV
              rw [if_pos K, eE, ej]
          unfold B_G_looks_133 J_G_looks_242
          simp only [gS hn, Int.reduceToNat, true_and, z3]
          refine g_isOf hn tz (fun hj y3 => ⟨fun w => absurd w (by decide), fun _ => ?_⟩) (fun n3 => ⟨fun _ => fin ?_, fun w => absurd rfl w⟩)
          · have jl := ri.mpr ⟨hj, y3⟩
            obtain ⟨c1, c3⟩ := tz.2.2 j hj
            have vbj := (vlc_b (T := T) (q := tkS T L p) (j - tkS T L p) (fun i hi => ((tkR_iff (c := isDg) (T := T) (j := tkS T L p + i) sb.2 (by omega) (by omega)).mp (by omega)).2)).1
            have sv : vlc T (tkS T L p) 1000 (j + 1 - tkS T L p) = imin 1000 (10 * vlc T (tkS T L p) 1000 (j - tkS T L p) + T j - 48) := by
              rw [(by omega : j + 1 - tkS T L p = (j - tkS T L p) + 1)]
              show imin 1000 (10 * vlc T (tkS T L p) 1000 (j - tkS T L p) + T (tkS T L p + (j - tkS T L p)) - 48) = _
              rw [(by omega : tkS T L p + (j - tkS T L p) = j)]
            simp only [Int.toNat_natCast, c3, z4]
            refine ⟨by omega, fun D12 d12 D13 d13 => ?_⟩
            rw [w32_id (x := 10 * vlc T (tkS T L p) 1000 (j - tkS T L p)) (by omega) (by omega), w32_id (x := 10 * vlc T (tkS T L p) 1000 (j - tkS T L p) + T j) (by omega) (by omega), w32_id (by omega) (by omega), ← sv] at d12
            have x4 : D12 91 40 = (j : Int) := by rw [d12, wr_ne (by omega), z3]
            rw [x4, w32_n (by omega)] at d13
            have y4 : D13 91 40 = ((j + 1 : Nat) : Int) := by rw [d13, wr_same]
            refine hK2 _ ⟨j + 1, by omega, by omega, fun b t hb => ?_, y4, ?_⟩ (by rw [y4, z3]; omega)
            · rw [d13, wr_ne (by omega), d12, wr_ne (by omega), z2 b t hb]
            · rw [d13, wr_ne (by omega), d12, wr_same]
          · by_cases e : j = tkR isDg T L (tkS T L p)
            · exact e
            · have w := ri.mp (by omega)
              exact absurd ⟨w.1, w.2⟩ n3
        · -- one byte
          have n2' : ¬ isDg (T (tkS T L p)) := fun w => n2 ⟨hS, w⟩
          have c3 := (t6.2.2 _ hS).2
          have F : ∀ k : Nat, k = tkK T L p → 3 ≤ k → J_G_looks_229 n D11 91 91 (k : Int) Q := by
            intro k hk k3
            unfold J_G_looks_229
            simp only [gS hn, Int.reduceToNat, true_and]
            intro D23 d23 D25 d25
            have x4 : D23 91 40 = (tkS T L p : Nat) := by rw [d23, wr_ne (by omega), e4]
            rw [x4, w32_n (by omega)] at d25
            refine h D25 (fun b t hb => by rw [d25, wr_ne (by omega), d23, wr_ne (by omega), o6 b t (by omega)]) ⟨?_, ?_, ?_, ?_⟩
            · rw [d25, wr_ne (by omega), d23, wr_ne (by omega), e3]
            · rw [d25, wr_same]
              unfold tkE
              rw [if_neg (by omega), if_neg (by omega), if_neg (by omega)]
            · rw [d25, wr_ne (by omega), d23, wr_same, hk]
            · rw [d25, wr_ne (by omega), d23, wr_ne (by omega), e5]
              unfold tkV
              rw [if_neg (by omega)]
          have K : tkK T L p = if T (tkS T L p) = 59 then 3 else if T (tkS T L p) = 45 then 4 else 5 := by
            unfold tkK
            rw [if_neg (by omega), if_neg n1', if_neg n2']
          simp only [Int.toNat_natCast, c3]
          refine ⟨by omega, fun e => F 3 (by rw [K, if_pos e]) (by omega), fun e => ?_⟩
          by_cases e5 : T (tkS T L p) = 45
          · rw [if_pos e5]
            exact F 4 (by rw [K, if_neg e, if_pos e5]) (by omega)
          · rw [if_neg e5]
            exact F 5 (by rw [K, if_neg e, if_neg e5]) (by omega)
  refine lp_rule (fun (z : Cn) => ∃ j : Nat, p ≤ j ∧ j ≤ tkS T L p ∧ (∀ b t, ¬ (b = 91 ∧ t = 39) → z b t = C b t) ∧ z 91 39 = (j : Int)) (fun z => (200 - z 91 39).toNat) ?_ C2 ⟨p, Nat.le_refl _, sb.1, fun b t hb => by rw [c2, wr_ne hb], by rw [c2, wr_same]⟩
  rintro z ⟨j, z0, z1, z2, z3⟩ K2 hK2
  have tz : TG z T L := tg.congr (fun b t hb => z2 b t (by omega))
  have ri : j < tkS T L p ↔ (j < L ∧ isSp (T j)) := tkR_iff (c := isSp) (T := T) hp z0 z1
  unfold B_G_looks_5
  simp only [gS hn, Int.reduceToNat, true_and, z3]
  refine g_isOf hn tz (fun hj y3 => ⟨fun w => absurd w (by decide), fun _ => ?_⟩) (fun n3 => ⟨fun _ => A z z2 ?_, fun w => absurd rfl w⟩)
  · have jl := ri.mpr ⟨hj, by omega⟩
    rw [w32_n (by omega)]
    intro D45 d45
    have y4 : D45 91 39 = ((j + 1 : Nat) : Int) := by rw [d45, wr_same]
    exact hK2 _ ⟨j + 1, by omega, by omega, fun b t hb => by rw [d45, wr_ne hb, z2 b t hb], y4⟩ (by rw [y4, z3]; omega)
  · rw [z3]
    by_cases e2 : j = tkS T L p
    · rw [e2]
    · have w := ri.mp (by omega)
      exact absurd ⟨w.1, by have := w.2; omega⟩ n3
