/-! my own: loose -/
theorem ushr8 (v : Int) : 0 ≤ ushr32 v 8 ∧ ushr32 v 8 ≤ 16777215 := by
  unfold ushr32
  have e : ((Int32.ofInt 8).toUInt32 &&& Int32.toUInt32 31) = (8 : UInt32) := by decide
  rw [e]
  generalize (Int32.ofInt v).toUInt32 = x
  have h : (x >>> (8 : UInt32)).toNat = x.toNat / 256 := by
    rw [UInt32.toNat_shiftRight]
    have : (8 : UInt32).toNat % 32 = 8 := by decide
    rw [this, Nat.shiftRight_eq_div_pow]
  have hx : x.toNat < 4294967296 := x.toNat_lt
  have h2 : (x >>> (8 : UInt32)).toInt32.toInt = ((x >>> (8 : UInt32)).toNat : Int) := by
    show (x >>> (8 : UInt32)).toBitVec.toInt = _
    rw [BitVec.toInt_eq_toNat_of_lt]
    · rfl
    · show 2 * (x >>> (8 : UInt32)).toNat < _
      rw [h]
      omega
  rw [h2, h]
  omega
def drw (v : Int) : Int := w32 (w32 (v * 1103515245) + 12345)
def coo (v : Int) : Int := w32 (w32 (Int.tmod (ushr32 v 8) 199) - 99)
theorem coo_b (v : Int) : bd (coo v) := by
  have h := ushr8 v
  unfold coo
  generalize ushr32 v 8 = u at h
  rw [Int.tmod_eq_emod_of_nonneg h.1]
  have h1 : 0 ≤ u % 199 ∧ u % 199 < 199 := by omega
  generalize u % 199 = t at h1
  rw [w32_id (x := t) (by omega) (by omega), w32_id (by omega) (by omega)]
  unfold bd
  omega
def lz (z : Int) : Nat → Int
  | 0 => z
  | k + 1 => drw (drw (lz z k))
theorem lz_r {z : Int} (h : r32 z) : ∀ k, r32 (lz z k)
  | 0 => h
  | _ + 1 => r32_w _
theorem g_freeQ {n : Nat} {C s : Cn} {m : Nat} {M : Mp} {x y : Int} {Q : Int → Cn → Prop} (hn : 320 ≤ n) (g : gd s m) (gm : GM C s m M) (hm : C 91 0 = m) (hs : ∀ i, i < m → ∀ f, C (93 + i) f = s i f) (bx : bd x) (by_ : bd y)
    (h1 : frP s m x y → ∀ C2 : Cn, (∀ b t, ¬ (b = 91 ∧ (t = 23 ∨ t = 24)) → C2 b t = C b t) → C2 91 23 = ((thg s m (C 101) (C 102) M x y).2.1 : Nat) → C2 91 24 = ((thg s m (C 101) (C 102) M x y).2.2 : Nat) → (thg s m (C 101) (C 102) M x y).2.1 ≤ mE M → (thg s m (C 101) (C 102) M x y).2.2 ≤ mH M (thg s m (C 101) (C 102) M x y).2.1 → Q 1 C2)
    (h0 : ¬ frP s m x y → ∀ C2 : Cn, (∀ b t, ¬ (b = 91 ∧ (t = 23 ∨ t = 24)) → C2 b t = C b t) → Q 0 C2) : P_G_isFree n C 91 x y Q := by
  have ok := g.ok gm.1
  have f19 := ok.f19
  have k := thg_k g gm.1 x y
  have z := thg_free gm.1 x y
  unfold P_G_isFree J_G_isFree_16
  simp only [gS hn, true_and]
  refine g_isIn hn g gm hm hs bx by_ (fun C2 f2 k2 => ?_)
  have hh1 := fun w => h1 w C2 f2
  have hh0 : ¬ frP s m x y → Q 0 C2 := fun w => h0 w C2 f2
  clear h1 h0 f2
  generalize thg s m (C 101) (C 102) M x y = th at *
  obtain ⟨a, b, c⟩ := th
  dsimp only at *
  unfold cdG
  dsimp only
  rcases k with ⟨rfl, k1, k3⟩ | ⟨rfl, k1⟩ | ⟨rfl, k1⟩
  · have fl := fo_nF k1 k3
    have e1 : (if (0 : Nat) = 0 then fo M b c else if (0 : Nat) = 1 then 100 + b else 200 + b) = fo M b c := if_pos rfl
    rw [e1, if_neg (by omega)]
    exact ⟨Or.inr rfl, hh1 (z.mp rfl) (k2 rfl).1 (k2 rfl).2 k1 k3⟩
  · have e1 : (if (1 : Nat) = 0 then fo M b c else if (1 : Nat) = 1 then 100 + b else 200 + b) = 100 + b := by rw [if_neg (by decide), if_pos rfl]
    rw [e1, if_pos (by omega)]
    exact ⟨Or.inl rfl, hh0 (fun w => absurd (z.mpr w) (by decide))⟩
  · have e1 : (if (2 : Nat) = 0 then fo M b c else if (2 : Nat) = 1 then 100 + b else 200 + b) = 200 + b := by rw [if_neg (by decide), if_neg (by decide)]
    rw [e1, if_pos (by omega)]
    exact ⟨Or.inl rfl, hh0 (fun w => absurd (z.mpr w) (by decide))⟩
theorem f_look {n : Nat} {C E : Cn} {m : Nat} {M : Mp} {x y : Int} {J : Cn → Int → Int → Prop} (hf : 91 ≤ n) (i1 : I1 C m) (lm : LM C 26 (tb C 4 m) m M) (st : ST C M) (o : ∀ b t, b ≠ 59 → ¬ (b = 58 ∧ 8 ≤ t ∧ t ≤ 10) → E b t = C b t) (bx : bd x) (by_ : bd y)
    (h1 : frP (tb C 4 m) m x y → ∀ (E2 : Cn) (r : Int), (∀ b t, b ≠ 59 → ¬ (b = 58 ∧ 8 ≤ t ∧ t ≤ 10) → E2 b t = C b t) → r < 100 → J E2 r ((tot M (oF m 0) (thg (tb C 4 m) m (C 27) (C 28) M x y).2.1 (thg (tb C 4 m) m (C 27) (C 28) M x y).2.2 : Nat) : Int))
    (h0 : ¬ frP (tb C 4 m) m x y → ∀ r : Int, 100 ≤ r → J E r 1) : P_La_thingAt n E 26 2 x y (fun (r : Int) => (r < 100 → (P_F_stepsOfCell n E 1 r (fun (s : Int) (E2 : Cn) => J E2 r s))) ∧ (¬ r < 100 → J E r 1)) := by
  have ok := Inv.ok i1 lm
  have m6 := i1.1
  have mm' : mm M = m := lm.1.1
  have k := thg_k i1.2.2.2.2.2.1 lm.1 x y
  have z := thg_free lm.1 x y
  have lmE : LM E 26 (tb C 4 m) m M := lm.congr (fun b t h1 h2 => o b t (by omega) (by omega))
  have stE : ST E M := st.congr (fun b t h1 h2 => o b t (by omega) (by omega))
  have e27 : E 27 = C 27 := by
    funext t
    exact o _ _ (by omega) (by omega)
  have e28 : E 28 = C 28 := by
    funext t
    exact o _ _ (by omega) (by omega)
  refine f_thing (l := 26) (e := 2) hf (Or.inl rfl) (Or.inl rfl) i1.2.2.2.2.2.1 lmE (fun i hi f => by rw [o _ _ (by omega) (by omega)]; exact tb4 i hi f) bx by_ ?_
  have e0 : thg (tb C 4 m) m (E (26 + 1)) (E (26 + 2)) M x y = thg (tb C 4 m) m (C 27) (C 28) M x y := by
    rw [(e27 : E (26 + 1) = C 27), (e28 : E (26 + 2) = C 28)]
  rw [e0]
  clear e0
  have k' : ((thg (tb C 4 m) m (C 27) (C 28) M x y).1 = 0 ∧ (thg (tb C 4 m) m (C 27) (C 28) M x y).2.1 ≤ mE M ∧ (thg (tb C 4 m) m (C 27) (C 28) M x y).2.2 ≤ mH M (thg (tb C 4 m) m (C 27) (C 28) M x y).2.1) ∨ ((thg (tb C 4 m) m (C 27) (C 28) M x y).1 = 1 ∧ (thg (tb C 4 m) m (C 27) (C 28) M x y).2.1 < mE M) ∨ ((thg (tb C 4 m) m (C 27) (C 28) M x y).1 = 2 ∧ (thg (tb C 4 m) m (C 27) (C 28) M x y).2.1 < m) := k
  have z' : (thg (tb C 4 m) m (C 27) (C 28) M x y).1 = 0 ↔ frP (tb C 4 m) m x y := z
  clear k z
  generalize thg (tb C 4 m) m (C 27) (C 28) M x y = th at k' z' h1 ⊢
  obtain ⟨a, b, c⟩ := th
  dsimp only at k' z' h1
  unfold cdF
  dsimp only
  rcases k' with ⟨rfl, k1, k2⟩ | ⟨rfl, k1⟩ | ⟨rfl, k1⟩
  · have h49 := FC_49 ok k1 k2
    have e1 : (if (0 : Nat) = 0 then FC M b + c else if (0 : Nat) = 1 then 100 + b else 200 + b) = FC M b + c := if_pos rfl
    rw [e1]
    refine ⟨fun q => ?_, fun w => absurd w (by omega)⟩
    unfold P_F_stepsOfCell
    simp only [fS hf, Int.reduceToNat, true_and]
    refine f_takeOrder (num := 0) hf m6 lmE.f.1 (by omega) (fun C2 f2 n2 => ?_)
    have lm2 : LM C2 26 (tb C 4 m) m M := lmE.congr (fun b t h1 h2 => f2 b t (by omega))
    refine f_stepsOf (o := oF m 0) hf ok mm' lm2.f (stE.congr (fun b t h1 h2 => f2 b t (by omega))) (fun i hi => ⟨n2 i hi, oF_lt hi⟩) k1 k2 (fun C3 f3 => ?_)
    exact h1 (z'.mp rfl) C3 _ (fun b t g1 g2 => by rw [f3 b t g2, f2 b t g1, o b t g1 g2]) q
  · have e1 : (if (1 : Nat) = 0 then FC M b + c else if (1 : Nat) = 1 then 100 + b else 200 + b) = 100 + b := by rw [if_neg (by decide), if_pos rfl]
    rw [e1]
    exact ⟨fun w => absurd w (by omega), fun _ => h0 (fun w => absurd (z'.mpr w) (by decide)) _ (by omega)⟩
  · have e1 : (if (2 : Nat) = 0 then FC M b + c else if (2 : Nat) = 1 then 100 + b else 200 + b) = 200 + b := by rw [if_neg (by decide), if_neg (by decide)]
    rw [e1]
    exact ⟨fun w => absurd w (by omega), fun _ => h0 (fun w => absurd (z'.mpr w) (by decide)) _ (by omega)⟩
theorem c_loose {n : Nat} {C : Cn} {v1 : Int} (hn : 320 ≤ n) (inv : Inv C) : P_F_loose n C 1 v1 (fun r C1 => P_G_loose n C1 91 v1 (fun r2 C2 => r = r2 ∧ Inv C2)) := by
  have hf : 91 ≤ n := by omega
  have inv' := inv
  obtain ⟨m, i1, i2, -, -, -, -, -, -, -, ⟨M, lm, st, -, -⟩⟩ := inv'
  have ok := Inv.ok i1 lm
  have m6 := i1.1
  have m5 := i1.2.2.2.2.2.1
  have e12 := ok.e
  have mm' : mm M = m := lm.1.1
  unfold P_F_loose
  simp only [fS hf, Int.reduceToNat, true_and]
  refine f_isIn (bI_br (fun q => f_tell hf (by decide) (fun C1 c1 => ?_)) (fun q => ?_))
  · unfold P_G_loose
    simp only [gS hn, true_and]
    exact g_in (bI_br (fun _ => both hn (by decide) inv c1 (fun _ _ _ => rfl)) (fun w => absurd w q))
  obtain ⟨N, rfl⟩ : ∃ k : Nat, v1 = (k : Int) := ⟨v1.toNat, by omega⟩
  obtain ⟨j1, j2, j3, j4, j5, j6⟩ := i2
  generalize hz : C 2 4 = z at *
  generalize hl : C 2 3 = l0 at *
  -- the points that are drawn, and their steps
  generalize hfr : (fun (k : Nat) => frP (tb C 4 m) m (coo (drw (lz z k))) (coo (drw (drw (lz z k))))) = fre
  have frE : ∀ k, frP (tb C 4 m) m (coo (drw (lz z k))) (coo (drw (drw (lz z k)))) ↔ fre k := fun k => by rw [← hfr]
  clear hfr
  have exS : ∃ S : Nat → Nat, (∀ k, fre k → S k = tot M (oF m 0) (thg (tb C 4 m) m (C 27) (C 28) M (coo (drw (lz z k))) (coo (drw (drw (lz z k))))).2.1 (thg (tb C 4 m) m (C 27) (C 28) M (coo (drw (lz z k))) (coo (drw (drw (lz z k))))).2.2) ∧ (∀ k, ¬ fre k → S k = 1) ∧ ∀ k, S k ≤ 24 := by
    refine ⟨fun k => cit (fre k) (tot M (oF m 0) (thg (tb C 4 m) m (C 27) (C 28) M (coo (drw (lz z k))) (coo (drw (drw (lz z k))))).2.1 (thg (tb C 4 m) m (C 27) (C 28) M (coo (drw (lz z k))) (coo (drw (drw (lz z k))))).2.2) 1, fun k hk => cit_t hk, fun k hk => cit_f hk, fun k => ?_⟩
    dsimp only
    by_cases hk : fre k
    · rw [cit_t hk]
      exact tot_le ok _ _ _
    · rw [cit_f hk]
      omega
  obtain ⟨S, S1, S0, S24⟩ := exS
  have Ls : ∀ k, l0 + ((sm S (k + 1) : Nat) : Int) = l0 + ((sm S k : Nat) : Int) + ((S k : Nat) : Int) := fun k => by
    rw [sm_s]
    omega
  have cs : ∀ k, cnt fre (k + 1) = cnt fre k + ind (fre k) := cnt_s fre
  have cl := cnt_le fre
  -- the reference
  have G : ∀ (k : Nat) (C1 : Cn) (Q : Int → Cn → Prop), (∀ b t, IC b t → ¬ b = 82 → ¬ (b = 2 ∧ (t = 3 ∨ t = 4)) → C1 b t = C b t) → k ≤ N → (∀ j, j < k → l0 + ((sm S (j + 1) : Nat) : Int) ≤ 9223372036854775807) → ((k = N ∧ ∀ F : Cn, (∀ b t, IC b t → ¬ (b = 91 ∧ (t = 3 ∨ t = 4)) → F b t = C1 b t) → F 91 3 = l0 + ((sm S N : Nat) : Int) → F 91 4 = lz z N → Q ((cnt fre N : Nat) : Int) F) ∨ (k < N ∧ 9223372036854775807 < l0 + ((sm S (k + 1) : Nat) : Int) ∧ ∀ F : Cn, (∀ b t, IC b t → F b t = C1 b t) → P_G_finds n F 91 7 Q)) → P_G_loose n C1 91 (N : Int) Q := by
    intro k C1 Q o kN kl hQ
    unfold P_G_loose
    simp only [gS hn, Int.reduceToNat, true_and]
    refine g_in (bI_br (fun w => absurd q w) (fun _ => ?_))
    have o0 : ∀ b t, (b = 91 ∧ t ≤ 4 ∧ t ≠ 1) ∨ (93 ≤ b ∧ b ≤ 98) → IC b t := fun b t hb => by
      clear hQ
      unfold IC
      omega
    refine g_mapsI hn i1 lm (fun b t hb => o b t (o0 b t (by omega)) (by omega) (by omega)) (fun D2 fr gm xy rw' => ?_)
    have d0 : D2 91 0 = (m : Int) := by rw [fr _ _ (IC_0 0).1, o _ _ (IC_0 0).1 (by omega) (by omega), i1.2.2.1]
    refine g_asNumbered hn m6 d0 (fun D3 f3 n3 => ?_)
    have d34 : D3 91 4 = z := by rw [f3 _ _ (by omega), fr _ _ (o0 _ _ (by omega)), o _ _ (o0 _ _ (by omega)) (by omega) (by omega), j5]
    have d33 : D3 91 3 = l0 := by rw [f3 _ _ (by omega), fr _ _ (o0 _ _ (by omega)), o _ _ (o0 _ _ (by omega)) (by omega) (by omega), j3]
    have gm3 : GM D3 (tb C 4 m) m M := gm.congr ok (fun b t hb => f3 b t (by omega))
    intro ZZ hz2 LL hl2
    rw [d34] at hz2
    rw [d33] at hl2
    rw [hz2, hl2]
    clear hz2 hl2 ZZ LL
    refine lp_rule (fun (w : Cn × Int × Int) => ∃ j : Nat, j ≤ k ∧ w.2.2 = (j : Int) ∧ w.2.1 = ((cnt fre j : Nat) : Int) ∧ (∀ b t, ¬ (b = 91 ∧ (t = 3 ∨ t = 4 ∨ t = 23 ∨ t = 24 ∨ t = 25 ∨ t = 26)) → w.1 b t = D3 b t) ∧ w.1 91 4 = lz z j ∧ w.1 91 3 = l0 + ((sm S j : Nat) : Int)) (fun w => (50 - w.2.2).toNat) ?_ (D3, 0, 0) ⟨0, by omega, rfl, rfl, fun _ _ _ => rfl, d34, by dsimp only; rw [d33]; exact (Int.add_zero _).symm⟩
    rintro ⟨F, v5, v6⟩ ⟨j, x0, x1, x2, x3, x4, x5⟩ K hK
    dsimp only at x1 x2 x3 x4 x5
    subst x1
    subst x2
    have clj := cl j
    unfold B_G_loose_42 P_G_drawn
    simp only [gS hn, Int.reduceToNat, true_and]
    refine ⟨fun e => ?_, fun e => ?_⟩
    · rcases hQ with ⟨h1, h2⟩ | ⟨h1, -, -⟩
      · have ej : j = N := by omega
        subst ej
        refine h2 F (fun b t hb hb2 => ?_) x5 x4
        have w := ICb hb
        rw [x3 b t (fun w2 => by have := w.2.2.2.1; omega), f3 b t w.1, fr b t hb]
      · omega
    · intro D4 d4 D5 d5
      rw [x4] at d4
      have e4 : D4 91 4 = drw (lz z j) := by rw [d4, wr_same]; rfl
      rw [e4] at d5
      have e5 : D5 91 4 = drw (drw (lz z j)) := by rw [d5, wr_same]; rfl
      rw [e4, e5]
      have o5 : ∀ b t, ¬ (b = 91 ∧ t = 4) → D5 b t = F b t := fun b t hb => by rw [d5, wr_ne hb, d4, wr_ne hb]
      clear d4 d5 e4
      have gm5 : GM D5 (tb C 4 m) m M := gm3.congr ok (fun b t hb => by rw [o5 b t (by omega), x3 b t (by omega)])
      have ev : thg (tb C 4 m) m (D5 101) (D5 102) M (coo (drw (lz z j))) (coo (drw (drw (lz z j)))) = thg (tb C 4 m) m (C 27) (C 28) M (coo (drw (lz z j))) (coo (drw (drw (lz z j)))) := thg_congr (fun e he => by
        rw [o5 _ _ (by omega), o5 _ _ (by omega), x3 _ _ (by omega), x3 _ _ (by omega), f3 _ _ (by omega), f3 _ _ (by omega)]
        exact xy e he) _ _
      -- after the steps
      have J : ∀ (H : Cn) (v9 : Int), (∀ b t, ¬ (b = 91 ∧ (t = 23 ∨ t = 24 ∨ t = 25 ∨ t = 26)) → H b t = D5 b t) → ((v9 = 1 ∧ fre j) ∨ (v9 = 0 ∧ ¬ fre j)) → J_G_loose_91 n H 91 (N : Int) z l0 ((cnt fre j : Nat) : Int) (j : Int) v9 ((S j : Nat) : Int) K Q := by
        intro H v9 h h9
        have h3 : H 91 3 = l0 + ((sm S j : Nat) : Int) := by rw [h _ _ (by omega), o5 _ _ (by omega), x5]
        have s24 := S24 j
        have lj : l0 + ((sm S j : Nat) : Int) ≤ 9223372036854775807 := by
          by_cases e0 : j = 0
          · rw [e0]
            have s0 : ((sm S 0 : Nat) : Int) = 0 := rfl
            have := j4.2
            omega
          · have := kl (j - 1) (by omega)
            rw [Nat.sub_add_cancel (by omega)] at this
            exact this
        have lj0 : -9223372036854775808 ≤ l0 + ((sm S j : Nat) : Int) := by
          have := j4.1
          omega
        unfold J_G_loose_91 J_G_loose_106 J_G_loose_147
        simp only [gS hn, Int.reduceToNat, true_and, h3]
        refine g_tooMuch ⟨lj0, lj⟩ ⟨by omega, by omega⟩ (bI_br (fun e1 => ?_) (fun e1 => ?_))
        · intro H2 c2
          have e1' : l0 + ((sm S j : Nat) : Int) + ((S j : Nat) : Int) ≤ 9223372036854775807 := by
            have := Decidable.not_not.mp e1
            omega
          rw [w64_id (by omega) (by omega), ← Ls] at c2
          have jk : j < k := by
            rcases hQ with ⟨h1, -⟩ | ⟨h1, h2, -⟩
            · omega
            · by_cases e2 : j = k
              · rw [e2] at e1'
                rw [Ls] at h2
                omega
              · omega
          rw [w32_n (a := j) (by omega)]
          have cw : w32 (((cnt fre j : Nat) : Int) + (if v9 = 0 then 0 else 1)) = ((cnt fre (j + 1) : Nat) : Int) := by
            rw [cs]
            rcases h9 with ⟨a1, a2⟩ | ⟨a1, a2⟩
            · rw [if_neg (by omega), ind_t a2, w32_n (by omega)]
            · rw [if_pos a1, ind_f a2, Int.add_zero, w32_id (by omega) (by omega), Nat.add_zero]
          rw [cw]
          clear cw
          refine hK _ ⟨j + 1, by omega, rfl, rfl, fun b t hb => ?_, ?_, ?_⟩ (by dsimp only; omega)
          · dsimp only
            rw [c2, wr_ne (by omega), h b t (by omega), o5 b t (by omega), x3 b t hb]
          · dsimp only
            rw [c2, wr_ne (by omega), h _ _ (by omega), e5]
            rfl
          · dsimp only
            rw [c2, wr_same]
        · have e1' : 9223372036854775807 < l0 + ((sm S j : Nat) : Int) + ((S j : Nat) : Int) := by
            by_cases e2 : l0 + ((sm S j : Nat) : Int) + ((S j : Nat) : Int) ≤ 9223372036854775807
            · exact absurd ⟨by omega, e2⟩ e1
            · omega
          have jk : ¬ j < k := fun w => by
            have := kl j w
            rw [Ls] at this
            omega
          intro H2 c2 H3 c3
          rcases hQ with ⟨h1, -⟩ | ⟨h1, h2, h4⟩
          · omega
          · refine h4 H3 (fun b t hb => ?_)
            have w := ICb hb
            by_cases ea : b = 91 ∧ t = 3
            · rw [ea.1, ea.2, c3, wr_same, ← d33, f3 _ _ (by omega), fr _ _ (o0 _ _ (by omega))]
            · by_cases eb : b = 91 ∧ t = 4
              · rw [eb.1, eb.2, c3, wr_ne (by omega), c2, wr_same, ← d34, f3 _ _ (by omega), fr _ _ (o0 _ _ (by omega))]
              · rw [c3, wr_ne ea, c2, wr_ne eb, h b t (fun w2 => by have := w.2.2.2.1; omega), o5 b t eb, x3 b t (fun w2 => by have := w.2.2.2.1; omega), f3 b t w.1, fr b t hb]
      have c05 : D5 91 0 = (m : Int) := by rw [o5 _ _ (by omega), x3 _ _ (by omega), f3 _ _ (by omega), d0]
      refine g_freeQ (s := tb C 4 m) (x := coo (drw (lz z j))) (y := coo (drw (drw (lz z j)))) hn m5 gm5 c05 (fun i hi f => by rw [o5 _ _ (by omega), x3 _ _ (by omega), f3 _ _ (by omega), rw' i hi f]) (coo_b _) (coo_b _) (fun w H h y1 y2 y3 y4 => ⟨fun w2 => absurd w2 (by decide), fun _ => ?_⟩) (fun w H h => ⟨fun _ => ?_, fun w2 => absurd rfl w2⟩)
      · rw [ev] at y1 y2 y3 y4
        rw [y1, y2]
        have w' := (frE j).mp w
        have gH : gM H m M := (gm5.congr ok (fun b t hb => h b t (by omega))).g (by rw [h _ _ (by omega), c05])
        refine g_searched (o := oF m 0) hn ok mm' gH (fun i hi => ⟨by rw [h _ _ (by omega), o5 _ _ (by omega), x3 _ _ (by omega), n3 i hi], oF_lt hi⟩) (fun a b h1 h2 => oF_inj h1 h2) y3 y4 (fun H2 f2 => ?_)
        rw [← S1 j w']
        exact J H2 1 (fun b t hb => by rw [f2 b t (by omega), h b t (by omega)]) (Or.inl ⟨rfl, w'⟩)
      · have w' : ¬ fre j := fun x => w ((frE j).mpr x)
        have j' := J H 0 (fun b t hb => h b t (by omega)) (Or.inr ⟨rfl, w'⟩)
        rw [S0 j w'] at j'
        exact j'
  intro ZZ hz1 LL hl1
  rw [hz1, hl1]
  clear hz1 hl1 ZZ LL
  refine lp_rule (fun (w : Cn × Int × Int × Int × Int) => ∃ k : Nat, k ≤ N ∧ w.2.2.2.2 = (k : Int) ∧ w.2.2.2.1 = ((cnt fre k : Nat) : Int) ∧ (∀ b t, b ≠ 59 → ¬ (b = 58 ∧ 8 ≤ t ∧ t ≤ 10) → w.1 b t = C b t) ∧ w.2.1 = lz z k ∧ w.2.2.1 = l0 + ((sm S k : Nat) : Int) ∧ (∀ j, j < k → l0 + ((sm S (j + 1) : Nat) : Int) ≤ 9223372036854775807)) (fun w => (50 - w.2.2.2.2).toNat) ?_ (C, z, l0, 0, 0) ⟨0, by omega, rfl, rfl, fun _ _ _ _ => rfl, rfl, (Int.add_zero _).symm, fun j hj => absurd hj (Nat.not_lt_zero j)⟩
  rintro ⟨E, v2, v3, v5, v6⟩ ⟨k, x0, x1, x2, x3, x4, x5, x6⟩ K hK
  dsimp only at x1 x2 x3 x4 x5
  subst x1
  subst x2
  subst x4
  subst x5
  have clk := cl k
  have oI : ∀ b t, IC b t → E b t = C b t := fun b t hb => x3 b t (ICb hb).2.1 (fun w => by have := (ICb hb).2.2.1; omega)
  have lk : l0 + ((sm S k : Nat) : Int) ≤ 9223372036854775807 := by
    by_cases e0 : k = 0
    · rw [e0]
      have s0 : ((sm S 0 : Nat) : Int) = 0 := rfl
      have := j4.2
      omega
    · have := x6 (k - 1) (by omega)
      rw [Nat.sub_add_cancel (by omega)] at this
      exact this
  have lk0 : -9223372036854775808 ≤ l0 + ((sm S k : Nat) : Int) := by
    have := j4.1
    omega
  unfold B_F_loose_38 J_F_loose_143
  simp only [fS hf, fL hf, Int.reduceToNat, true_and]
  refine ⟨fun e => ?_, fun e => ?_⟩
  · have ek : k = N := by omega
    subst ek
    clear hK
    intro C13 c13 C14 c14
    have o14 : ∀ b t, ¬ (b = 2 ∧ (t = 3 ∨ t = 4)) → C14 b t = E b t := fun b t hb => by rw [c14, wr_ne (by omega), c13, wr_ne (by omega)]
    have z14 : C14 2 4 = lz z k := by rw [c14, wr_ne (by omega), c13, wr_same]
    have l14 : C14 2 3 = l0 + ((sm S k : Nat) : Int) := by rw [c14, wr_same]
    refine G k C14 _ (fun b t hb _ hb3 => by rw [o14 b t hb3, oI b t hb]) (Nat.le_refl _) x6 (Or.inl ⟨rfl, fun F f1 f2 f4 => ⟨rfl, inv.up2 (fun b t hb hb2 => ?_) ?_⟩⟩)
    · rw [f1 b t hb (by omega), o14 b t (by omega), oI b t hb]
    · have ic : ∀ t, 2 ≤ t → t ≤ 4 → IC 2 t ∧ IC 91 2 := fun t h1 h2 => by
        clear G
        refine ⟨?_, ?_⟩ <;> (unfold IC; omega)
      have y2 : F 2 2 = C 2 2 := by rw [f1 _ _ (ic 2 (by omega) (by omega)).1 (by omega), o14 _ _ (by omega), oI _ _ (ic 2 (by omega) (by omega)).1]
      have y3 : F 2 3 = l0 + ((sm S k : Nat) : Int) := by rw [f1 _ _ (ic 3 (by omega) (by omega)).1 (by omega), l14]
      have y4 : F 2 4 = lz z k := by rw [f1 _ _ (ic 4 (by omega) (by omega)).1 (by omega), z14]
      have y5 : F 91 2 = C 91 2 := by rw [f1 _ _ (ic 2 (by omega) (by omega)).2 (by omega), o14 _ _ (by omega), oI _ _ (ic 2 (by omega) (by omega)).2]
      unfold I2
      rw [y2, y3, y4, y5, f2, f4]
      exact ⟨j1, j2, rfl, ⟨lk0, lk⟩, rfl, lz_r j6 k⟩
  · have hk : k < N := by omega
    have s24 := S24 k
    unfold P_F_drawn P_F_coordinateOf
    have J : ∀ (E2 : Cn) (v9 : Int), (∀ b t, b ≠ 59 → ¬ (b = 58 ∧ 8 ≤ t ∧ t ≤ 10) → E2 b t = C b t) → ((v9 < 100 ∧ fre k) ∨ (100 ≤ v9 ∧ ¬ fre k)) → J_F_loose_100 n E2 1 (N : Int) (lz z (k + 1)) (l0 + ((sm S k : Nat) : Int)) ((cnt fre k : Nat) : Int) (k : Int) v9 ((S k : Nat) : Int) K (fun r C1 => P_G_loose n C1 91 (N : Int) (fun r2 C2 => r = r2 ∧ Inv C2)) := by
      intro E2 v9 h h9
      have hI : ∀ b t, IC b t → E2 b t = C b t := fun b t hb => h b t (ICb hb).2.1 (fun w => by have := (ICb hb).2.2.1; omega)
      unfold J_F_loose_100
      simp only [fS hf, true_and]
      rw [w64_id (by omega) (by omega), w32_n (a := k) (by omega)]
      refine ⟨fun e1 => ?_, fun e1 => f_tell hf (by decide) (fun C1 c1 => ?_)⟩
      · rw [w64_id (by omega) (by omega), ← Ls]
        have x6' : ∀ j, j < k + 1 → l0 + ((sm S (j + 1) : Nat) : Int) ≤ 9223372036854775807 := fun j hj => by
          by_cases ej : j = k
          · rw [ej, Ls]
            omega
          · exact x6 j (by omega)
        refine ⟨fun e2 => ?_, fun e2 => ?_⟩
        · refine hK _ ⟨k + 1, by omega, rfl, ?_, h, rfl, rfl, x6'⟩ (by dsimp only; omega)
          dsimp only
          rw [cs, ind_f (by
            rcases h9 with w | w
            · omega
            · exact w.2), Nat.add_zero]
        · rw [w32_n (by omega)]
          refine hK _ ⟨k + 1, by omega, rfl, ?_, h, rfl, rfl, x6'⟩ (by dsimp only; omega)
          dsimp only
          rw [cs, ind_t (by
            rcases h9 with w | w
            · exact w.2
            · omega)]
      · refine G k C1 _ (fun b t hb hb2 _ => by rw [why0 c1 b t hb2, hI b t hb]) x0 x6 (Or.inr ⟨hk, by rw [Ls]; omega, fun F f1 => both hn (by decide) (inv.congr hI) c1 f1⟩)
    refine f_look (x := coo (drw (lz z k))) (y := coo (drw (drw (lz z k)))) (J := fun E2 r s => J_F_loose_100 n E2 1 (N : Int) (lz z (k + 1)) (l0 + ((sm S k : Nat) : Int)) ((cnt fre k : Nat) : Int) (k : Int) r s K (fun r C1 => P_G_loose n C1 91 (N : Int) (fun r2 C2 => r = r2 ∧ Inv C2))) hf i1 lm st x3 (coo_b (drw (lz z k))) (coo_b (drw (drw (lz z k)))) (fun w E2 r h hr => ?_) (fun w r hr => ?_)
    · have w' := (frE k).mp w
      rw [← S1 k w']
      exact J E2 r h (Or.inl ⟨hr, w'⟩)
    · have w' : ¬ fre k := fun x => w ((frE k).mpr x)
      have j' := J E r x3 (Or.inr ⟨hr, w'⟩)
      rw [S0 k w'] at j'
      exact j'
