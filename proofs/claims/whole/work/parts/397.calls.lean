/-! my own: the reference's items -/
def frT (C C2 : Cn) : Prop := ∀ b t, ¬ (b = 91 ∧ 39 ≤ t ∧ t ≤ 43) → C2 b t = C b t
theorem frT.tr {C D E : Cn} (h : frT C D) (g : frT D E) : frT C E := fun b t h1 => by rw [g b t h1, h b t h1]
theorem frT.tg {C D : Cn} {T : Nat → Int} {L : Nat} (h : frT C D) (tg : TG C T L) : TG D T L := tg.congr (fun b t hb => h b t (by omega))
/-- no fault yet, and the token that is looked at -/
def RG (C : Cn) (T : Nat → Int) (L p : Nat) : Prop := p ≤ L ∧ TG C T L ∧ TkG C T L p ∧ C 91 43 = -1
theorem g_must0 {n : Nat} {C : Cn} {v : Int} {Q : Int → Cn → Prop} (hn : 320 ≤ n) (fa : 0 ≤ C 91 43) (h : Q 0 C) : P_G_must n C 91 v Q := by
  unfold P_G_must
  simp only [gS hn, Int.reduceToNat, true_and]
  exact ⟨fun _ => h, fun w => absurd fa w⟩
theorem g_must {n p L : Nat} {C : Cn} {T : Nat → Int} {v : Int} {Q : Int → Cn → Prop} (hn : 320 ≤ n) (rg : RG C T L p) (h1 : v ≠ 0 → Q 0 C) (h0 : v = 0 → ∀ C2 : Cn, frT C C2 → C2 91 43 = ((tkS T L p : Nat) : Int) → Q 0 C2) : P_G_must n C 91 v Q := by
  unfold P_G_must
  simp only [gS hn, Int.reduceToNat, true_and]
  rw [rg.2.2.2, rg.2.2.1.1]
  refine ⟨fun w => absurd w (by decide), fun _ => ⟨fun e C2 c2 => h0 e C2 (fun b t hb => by rw [c2, wr_ne (by omega)]) (by rw [c2, wr_same]), h1⟩⟩
theorem g_passes0 {n : Nat} {C : Cn} {Q : Int → Cn → Prop} (hn : 320 ≤ n) (fa : 0 ≤ C 91 43) (h : Q 0 C) : P_G_passes n C 91 Q := by
  unfold P_G_passes
  simp only [gS hn, Int.reduceToNat, true_and]
  exact ⟨fun _ => h, fun w => absurd fa w⟩
theorem g_passes {n p L : Nat} {C : Cn} {T : Nat → Int} {Q : Int → Cn → Prop} (hn : 320 ≤ n) (rg : RG C T L p) (h : ∀ C2 : Cn, frT C C2 → RG C2 T L (tkE T L p) → Q 0 C2) : P_G_passes n C 91 Q := by
  have b := tk_b (T := T) rg.1
  unfold P_G_passes
  simp only [gS hn, Int.reduceToNat, true_and]
  rw [rg.2.2.2, rg.2.2.1.2.1]
  refine ⟨fun w => absurd w (by decide), fun _ => g_looks hn rg.2.1 b.2.2.1 (fun C2 f2 t2 => ?_)⟩
  have f : frT C C2 := fun b t hb => f2 b t (by omega)
  exact h C2 f ⟨b.2.2.1, f.tg rg.2.1, t2, by rw [f2 _ _ (by omega), rg.2.2.2]⟩
theorem g_isWord0 {n w : Nat} {C : Cn} {Q : Int → Prop} (hn : 320 ≤ n) (hw : 0 < w ∧ w < 11) (fa : 0 ≤ C 91 43) (h : Q 0) : P_G_isWord n C 91 (w : Int) Q := by
  have l := (wrd w hw.2 hw.1).1
  have hw1 : (0 : Int) < (w : Int) ∧ (w : Int) ≤ 10 := by omega
  unfold P_G_isWord
  simp only [gS hn, Int.reduceToNat, true_and]
  refine ⟨fun _ => ?_, fun x => absurd fa x⟩
  refine lp_rule (fun (z : Int × Int) => z = (0, 0)) (fun z => 1) ?_ (0, 0) rfl
  rintro z rfl K hK
  unfold B_G_isWord_39 J_G_isWord_82
  exact ⟨hw1.1, hw1.2, fun _ => ⟨Or.inl rfl, h⟩, fun _ => ⟨fun _ => ⟨Or.inl rfl, h⟩, fun x => absurd rfl x⟩⟩
theorem g_isWord {n p L w : Nat} {C : Cn} {T : Nat → Int} {Q : Int → Prop} (hn : 320 ≤ n) (rg : RG C T L p) (hw : 0 < w ∧ w < 11) (h1 : wdP T L p w → Q 1) (h0 : ¬ wdP T L p w → Q 0) : P_G_isWord n C 91 (w : Int) Q := by
  obtain ⟨hp, tg, ⟨k1, k2, k3, k4⟩, fa⟩ := rg
  have L120 := tg.1
  have tb := tk_b (T := T) hp
  obtain ⟨⟨l1, l2⟩, l3⟩ := wrd w hw.2 hw.1
  have hw1 : (0 : Int) < (w : Int) ∧ (w : Int) ≤ 10 := by omega
  -- the loop
  have Lp : ∀ v : Int, ((v = 1 ∧ tkK T L p = 1 ∧ ((tkE T L p - tkS T L p : Nat) : Int) = sLen (w : Nat)) ∨ (v = 0 ∧ ¬ wdP T L p w)) → ∃ f, lp (B_G_isWord_39 n C 91 (w : Int) Q) f (v, 0) := by
    intro v hv
    refine lp_rule (fun (z : Int × Int) => ∃ k : Nat, k ≤ 8 ∧ z.2 = (k : Int) ∧ (k : Int) ≤ sLen (w : Nat) ∧ ((z.1 = 1 ∧ tkK T L p = 1 ∧ ((tkE T L p - tkS T L p : Nat) : Int) = sLen (w : Nat) ∧ ∀ i : Nat, i < k → T (tkS T L p + i) = sChr (w : Nat) (i : Nat)) ∨ (z.1 = 0 ∧ ¬ wdP T L p w))) (fun z => (20 - z.2).toNat) ?_ (v, 0) ⟨0, by omega, rfl, by omega, ?_⟩
    · rintro ⟨v2, v3⟩ ⟨k, z0, z1, z2, z3⟩ K hK
      dsimp only at z1 z2 z3
      subst z1
      have J : ((v2 = 1 ∧ wdP T L p w) ∨ (v2 = 0 ∧ ¬ wdP T L p w)) → J_G_isWord_82 n C v2 Q := by
        intro hj
        unfold J_G_isWord_82
        rcases hj with ⟨e, a⟩ | ⟨e, a⟩
        · subst e
          exact ⟨Or.inr rfl, h1 a⟩
        · subst e
          exact ⟨Or.inl rfl, h0 a⟩
      unfold B_G_isWord_39
      simp only [gS hn, Int.reduceToNat, true_and, k1]
      refine ⟨hw1.1, hw1.2, fun q => J ?_, fun q => ⟨fun e => J ?_, fun e => ?_⟩⟩
      · rcases z3 with ⟨a, b, c, d⟩ | a
        · exact Or.inl ⟨a, b, c, fun i hi => d i (by omega)⟩
        · exact Or.inr a
      · rcases z3 with ⟨a, b, c, d⟩ | a
        · omega
        · exact Or.inr a
      · rcases z3 with ⟨a, b, c, d⟩ | a
        · have hj : tkS T L p + k < L := by omega
          have ew : w32 (((tkS T L p : Nat) : Int) + (k : Int)) = ((tkS T L p + k : Nat) : Int) := by
            rw [w32_s (by omega)]
            omega
          rw [ew]
          clear ew
          obtain ⟨c1, c2⟩ := tg.2.2 _ hj
          rw [Int.toNat_natCast, c2]
          refine ⟨by omega, by omega, by omega, ?_⟩
          unfold J_G_isWord_75
          rw [w32_n (by omega)]
          by_cases e3 : T (tkS T L p + k) = sChr (w : Nat) (k : Nat)
          · rw [if_pos e3]
            refine hK _ ⟨k + 1, by omega, rfl, by omega, Or.inl ⟨rfl, b, c, fun i hi => ?_⟩⟩ (by dsimp only; omega)
            by_cases ei : i = k
            · rw [ei]
              exact e3
            · exact d i (by omega)
          · rw [if_neg e3]
            exact hK _ ⟨k + 1, by omega, rfl, by omega, Or.inr ⟨rfl, fun x => e3 (x.2.2 k (by omega))⟩⟩ (by dsimp only; omega)
        · exact absurd a.1 e
    · dsimp only
      rcases hv with ⟨a, b, c⟩ | a
      · exact Or.inl ⟨a, b, c, fun i hi => absurd hi (Nat.not_lt_zero i)⟩
      · exact Or.inr a
  unfold P_G_isWord J_G_isWord_36
  simp only [gS hn, Int.reduceToNat, true_and, k1, k2, k3]
  rw [fa, w32_s (by omega)]
  refine ⟨fun x => absurd x (by decide), fun _ => ⟨fun e => ⟨hw1.1, hw1.2, ?_⟩, fun e => Lp 0 (Or.inr ⟨rfl, fun x => e (by rw [x.1]; rfl)⟩)⟩⟩
  by_cases e2 : ((tkE T L p : Nat) : Int) - ((tkS T L p : Nat) : Int) = sLen (w : Nat)
  · rw [if_pos e2]
    exact Lp 1 (Or.inl ⟨rfl, by omega, by omega⟩)
  · rw [if_neg e2]
    exact Lp 0 (Or.inr ⟨rfl, fun x => e2 (by have := x.2.1; omega)⟩)
theorem g_word0 {n w : Nat} {C : Cn} {Q : Int → Cn → Prop} (hn : 320 ≤ n) (hw : 0 < w ∧ w < 11) (fa : 0 ≤ C 91 43) (h : Q 0 C) : P_G_word n C 91 (w : Int) Q := by
  unfold P_G_word
  simp only [gS hn, true_and]
  exact g_isWord0 hn hw fa (g_must0 hn fa (g_passes0 hn fa h))
theorem g_word {n p L w : Nat} {C : Cn} {T : Nat → Int} {Q : Int → Cn → Prop} (hn : 320 ≤ n) (rg : RG C T L p) (hw : 0 < w ∧ w < 11) (h1 : wdP T L p w → ∀ C2 : Cn, frT C C2 → RG C2 T L (tkE T L p) → Q 0 C2) (h0 : ¬ wdP T L p w → ∀ C2 : Cn, frT C C2 → C2 91 43 = ((tkS T L p : Nat) : Int) → Q 0 C2) : P_G_word n C 91 (w : Int) Q := by
  unfold P_G_word
  simp only [gS hn, true_and]
  refine g_isWord hn rg hw (fun y => g_must hn rg (fun _ => g_passes hn rg (h1 y)) (fun e => absurd e (by decide))) (fun y => g_must hn rg (fun e => absurd rfl e) (fun _ C2 f2 e2 => g_passes0 hn (by rw [e2]; omega) (h0 y C2 f2 e2)))
theorem g_num0 {n : Nat} {C : Cn} {c : Int} {Q : Int → Cn → Prop} (hn : 320 ≤ n) (fa : 0 ≤ C 91 43) (h : ∀ r : Int, Q r C) : P_G_number n C 91 c Q := by
  unfold P_G_number J_G_number_22
  simp only [gS hn, Int.reduceToNat, true_and]
  exact g_must0 hn fa (fun v _ => g_passes0 hn fa (h v))
theorem g_num {n p L : Nat} {C : Cn} {T : Nat → Int} {c : Int} {Q : Int → Cn → Prop} (hn : 320 ≤ n) (rg : RG C T L p) (h1 : nuP T L p c → ∀ C2 : Cn, frT C C2 → RG C2 T L (tkE T L p) → Q (tkV T L p) C2) (h0 : ¬ nuP T L p c → ∀ C2 : Cn, frT C C2 → C2 91 43 = ((tkS T L p : Nat) : Int) → ∀ r : Int, Q r C2) : P_G_number n C 91 c Q := by
  have k3 : C 91 41 = (tkK T L p : Nat) := rg.2.2.1.2.2.1
  have k4 : C 91 42 = tkV T L p := rg.2.2.1.2.2.2
  unfold P_G_number J_G_number_22
  simp only [gS hn, Int.reduceToNat, true_and, k3, k4]
  by_cases y : nuP T L p c
  · have e1 : ((tkK T L p : Nat) : Int) = 2 := by rw [y.1]; rfl
    have y2 := y.2
    rw [if_pos e1, if_neg (by omega)]
    refine g_must hn rg (fun _ v hv => ?_) (fun e => absurd e (by decide))
    rw [k4] at hv
    rw [hv]
    exact g_passes hn rg (h1 y)
  · have e1 : (if ((tkK T L p : Nat) : Int) = 2 then (if c < tkV T L p then (0 : Int) else 1) else 0) = 0 := by
      by_cases a : ((tkK T L p : Nat) : Int) = 2
      · rw [if_pos a]
        by_cases b : c < tkV T L p
        · rw [if_pos b]
        · exact absurd ⟨by omega, by omega⟩ y
      · rw [if_neg a]
    rw [e1]
    exact g_must hn rg (fun e => absurd rfl e) (fun _ C2 f2 e2 v _ => g_passes0 hn (by rw [e2]; omega) (h0 y C2 f2 e2 v))
theorem g_signed0 {n : Nat} {C : Cn} {c : Int} {Q : Int → Cn → Prop} (hn : 320 ≤ n) (fa : 0 ≤ C 91 43) (h : ∀ r : Int, Q r C) : P_G_signed n C 91 c Q := by
  have A : ∀ v2 : Int, J_G_signed_22 n C 91 c v2 Q := by
    intro v2
    unfold J_G_signed_22 J_G_signed_45
    simp only [gS hn, Int.reduceToNat, true_and]
    exact g_must0 hn fa ⟨fun _ v _ => ⟨fun _ => g_passes0 hn fa (h v), fun _ => h v⟩, fun _ v _ => ⟨fun _ => g_passes0 hn fa (h v), fun _ => h v⟩⟩
  unfold P_G_signed J_G_signed_13
  simp only [gS hn, Int.reduceToNat, true_and]
  exact ⟨fun _ => A _, fun _ => g_passes0 hn fa (A _)⟩
theorem g_signed {n p L : Nat} {C : Cn} {T : Nat → Int} {c : Int} {Q : Int → Cn → Prop} (hn : 320 ≤ n) (rg : RG C T L p) (h1 : nuP T L (pvT T L p) 99 → ∀ C2 : Cn, frT C C2 → RG C2 T L (if c = 0 then tkE T L (pvT T L p) else pvT T L p) → Q (pvV T L p) C2) (h0 : ¬ nuP T L (pvT T L p) 99 → ∀ C2 : Cn, frT C C2 → C2 91 43 = ((tkS T L (pvT T L p) : Nat) : Int) → ∀ r : Int, Q r C2) : P_G_signed n C 91 c Q := by
  have A : ∀ (D : Cn) (v2 : Int), frT C D → RG D T L (pvT T L p) → ((v2 = 1 ∧ tkK T L p = 4) ∨ (v2 = 0 ∧ tkK T L p ≠ 4)) → J_G_signed_22 n D 91 c v2 Q := by
    intro D v2 fD rD hv
    have k3 : D 91 41 = (tkK T L (pvT T L p) : Nat) := rD.2.2.1.2.2.1
    have k4 : D 91 42 = tkV T L (pvT T L p) := rD.2.2.1.2.2.2
    have vb := tkV_b (T := T) rD.1
    unfold J_G_signed_22 J_G_signed_45
    simp only [gS hn, Int.reduceToNat, true_and, k3, k4]
    by_cases y : nuP T L (pvT T L p) 99
    · have e1 : ((tkK T L (pvT T L p) : Nat) : Int) = 2 := by rw [y.1]; rfl
      have y2 := y.2
      rw [if_pos e1, if_neg (by omega)]
      have F : ∀ v : Int, v = pvV T L p → (c = 0 → P_G_passes n D 91 (fun (_ : Int) (C_16 : Cn) => Q v C_16)) ∧ (¬ c = 0 → Q v D) := by
        intro v hv
        rw [hv]
        have hh := h1 y
        refine ⟨fun e => g_passes hn rD (fun E fE rE => hh E (fD.tr fE) ?_), fun e => hh D fD ?_⟩
        · rw [if_pos e]
          exact rE
        · rw [if_neg e]
          exact rD
      refine g_must hn rD (fun _ => ⟨fun e v hv2 => F v ?_, fun e v hv2 => F v ?_⟩) (fun e => absurd e (by decide))
      · rw [hv2, k4]
        unfold pvV
        rw [if_neg (by omega)]
      · rw [hv2, k4]
        unfold pvV
        rw [if_pos (by omega), w32_id (by omega) (by omega)]
    · have e1 : (if ((tkK T L (pvT T L p) : Nat) : Int) = 2 then (if 99 < tkV T L (pvT T L p) then (0 : Int) else 1) else 0) = 0 := by
        by_cases a : ((tkK T L (pvT T L p) : Nat) : Int) = 2
        · rw [if_pos a]
          by_cases b : 99 < tkV T L (pvT T L p)
          · rw [if_pos b]
          · exact absurd ⟨by omega, by omega⟩ y
        · rw [if_neg a]
      rw [e1]
      refine g_must hn rD (fun e => absurd rfl e) (fun _ E fE e2 => ?_)
      have fa : 0 ≤ E 91 43 := by rw [e2]; omega
      have hh := h0 y E (fD.tr fE) e2
      exact ⟨fun _ v _ => ⟨fun _ => g_passes0 hn fa (hh v), fun _ => hh v⟩, fun _ v _ => ⟨fun _ => g_passes0 hn fa (hh v), fun _ => hh v⟩⟩
  have k3 : C 91 41 = (tkK T L p : Nat) := rg.2.2.1.2.2.1
  unfold P_G_signed J_G_signed_13
  simp only [gS hn, Int.reduceToNat, true_and, k3]
  by_cases e : tkK T L p = 4
  · rw [if_pos (by omega)]
    refine ⟨fun x => absurd x (by decide), fun _ => g_passes hn rg (fun D fD rD => A D 1 fD ?_ (Or.inl ⟨rfl, e⟩))⟩
    unfold pvT
    rw [if_pos e]
    exact rD
  · rw [if_neg (by omega)]
    refine ⟨fun _ => A C 0 (fun _ _ _ => rfl) ?_ (Or.inr ⟨rfl, e⟩), fun x => absurd rfl x⟩
    unfold pvT
    rw [if_neg e]
    exact rg
theorem g_105f {n : Nat} {C : Cn} {kd w a b c d s : Int} {Q : Int → Cn → Prop} (hn : 320 ≤ n) (fa : 0 ≤ C 91 43) (h : Q 0 C) : J_G_segmentText_105 n C 91 kd w a b c d 91 s Q := by
  unfold J_G_segmentText_105
  simp only [gS hn, Int.reduceToNat, true_and]
  exact g_must0 hn fa ⟨fun x => absurd x (by omega), fun _ => h⟩
theorem g_45f {n : Nat} {C : Cn} {kd w : Int} {Q : Int → Cn → Prop} (hn : 320 ≤ n) (fa : 0 ≤ C 91 43) (h : Q 0 C) : J_G_segmentText_45 n C 91 kd w Q := by
  unfold J_G_segmentText_45
  simp only [gS hn, true_and]
  exact g_word0 (w := 8) hn (by omega) fa (g_signed0 hn fa (fun _ => g_signed0 hn fa (fun _ => g_word0 (w := 9) hn (by omega) fa (g_signed0 hn fa (fun _ => g_signed0 hn fa (fun _ => g_105f hn fa h))))))
/-- from the word to on -/
def sgB (n : Nat) (C : Cn) (v1 v2 a b : Int) (Q : Int → Cn → Prop) : Prop :=
  P_G_word n C 91 9 (fun (_ : Int) (C_31 : Cn) => P_G_signed n C_31 91 0 (fun (r_35 : Int) (C_36 : Cn) => P_G_signed n C_36 91 1 (fun (r_39 : Int) (C_40 : Cn) => J_G_segmentText_105 n C_40 91 v1 v2 a b r_35 r_39 91 (if a = r_35 then (if b = r_39 then 0 else 1) else 1) Q)))
theorem g_sgB {n p L : Nat} {C : Cn} {T : Nat → Int} {kd w x1 y1 : Int} {Q : Int → Cn → Prop} (hn : 320 ≤ n) (rg : RG C T L p)
    (h0 : ∀ (f : Nat) (C2 : Cn), psg3 T L kd w x1 y1 p = (0, f, fun _ => 0) → frT C C2 → C2 91 43 = (f : Int) → Q 0 C2)
    (h2 : ∀ (q : Nat) (y : Nat → Int) (C2 : Cn), psg3 T L kd w x1 y1 p = (2, q, y) → y 0 = kd → y 1 = w → y 2 = x1 → y 3 = y1 → (bd (y 4) ∧ bd (y 5)) → frT C C2 → RG C2 T L q → J_G_segmentText_105 n C2 91 kd w (y 2) (y 3) (y 4) (y 5) 91 (if y 2 = y 4 then (if y 3 = y 5 then 0 else 1) else 1) Q) : sgB n C kd w x1 y1 Q := by
  unfold sgB
  refine g_word (w := 9) hn rg (by omega) (fun y9 C4 f4 r4 => ?_) (fun y9 C4 f4 e4 => ?_)
  · have E3 : psg3 T L kd w x1 y1 p = psg4 T L kd w x1 y1 (tkE T L p) := by
      unfold psg3
      rw [cit_t y9]
    generalize tkE T L p = p7 at *
    refine g_signed hn r4 (fun y4 C5 f5 r5 => ?_) (fun y4 C5 f5 e5 _ => ?_)
    · rw [if_pos rfl] at r5
      have E4 : psg3 T L kd w x1 y1 p = psg5 T L kd w x1 y1 (pvV T L p7) (tkE T L (pvT T L p7)) := by
        rw [E3]
        unfold psg4
        rw [cit_t y4]
      clear E3
      have V4 := pvV_b r4.1 y4
      have f45 := f4.tr f5
      clear f4 f5 r4
      generalize tkE T L (pvT T L p7) = p8 at *
      refine g_signed hn r5 (fun y5 C6 f6 r6 => ?_) (fun y5 C6 f6 e6 _ => ?_)
      · rw [if_neg (by decide)] at r6
        have E5 : psg3 T L kd w x1 y1 p = (2, pvT T L p8, fun i => if i = 0 then kd else if i = 1 then w else if i = 2 then x1 else if i = 3 then y1 else if i = 4 then pvV T L p7 else pvV T L p8) := by
          rw [E4]
          unfold psg5
          rw [cit_t y5]
        have V5 := pvV_b r5.1 y5
        exact h2 _ _ C6 E5 rfl rfl rfl rfl ⟨V4, V5⟩ (f45.tr f6) r6
      · have fa : 0 ≤ C6 91 43 := by rw [e6]; omega
        exact g_105f hn fa (h0 _ C6 (by rw [E4]; unfold psg5; rw [cit_f y5]) (f45.tr f6) e6)
    · have fa : 0 ≤ C5 91 43 := by rw [e5]; omega
      exact g_signed0 hn fa (fun _ => g_105f hn fa (h0 _ C5 (by rw [E3]; unfold psg4; rw [cit_f y4]) (f4.tr f5) e5))
  · have fa : 0 ≤ C4 91 43 := by rw [e4]; omega
    exact g_signed0 hn fa (fun _ => g_signed0 hn fa (fun _ => g_105f hn fa (h0 _ C4 (by unfold psg3; rw [cit_f y9]) f4 e4)))
theorem g_45 {n p L : Nat} {C : Cn} {T : Nat → Int} {kd w : Int} {Q : Int → Cn → Prop} (hn : 320 ≤ n) (rg : RG C T L p)
    (h0 : ∀ (f : Nat) (C2 : Cn), psg T L kd w p = (0, f, fun _ => 0) → frT C C2 → C2 91 43 = (f : Int) → Q 0 C2)
    (h2 : ∀ (q : Nat) (y : Nat → Int) (C2 : Cn), psg T L kd w p = (2, q, y) → y 0 = kd → y 1 = w → (bd (y 2) ∧ bd (y 3)) → (bd (y 4) ∧ bd (y 5)) → frT C C2 → RG C2 T L q → J_G_segmentText_105 n C2 91 kd w (y 2) (y 3) (y 4) (y 5) 91 (if y 2 = y 4 then (if y 3 = y 5 then 0 else 1) else 1) Q) : J_G_segmentText_45 n C 91 kd w Q := by
  have o91 : okO n 91 10 := (gS hn).1
  unfold J_G_segmentText_45
  refine ⟨o91, g_word (w := 8) hn rg (by omega) (fun y8 C1 f1 r1 => ?_) (fun y8 C1 f1 e1 => ?_)⟩
  · have E0 : psg T L kd w p = psg1 T L kd w (tkE T L p) := by
      unfold psg
      rw [cit_t y8]
    generalize tkE T L p = p4 at *
    refine g_signed hn r1 (fun y1 C2 f2 r2 => ?_) (fun y1 C2 f2 e2 _ => ?_)
    · rw [if_pos rfl] at r2
      have E1 : psg T L kd w p = psg2 T L kd w (pvV T L p4) (tkE T L (pvT T L p4)) := by
        rw [E0]
        unfold psg1
        rw [cit_t y1]
      clear E0
      have V1 := pvV_b r1.1 y1
      have f12 := f1.tr f2
      clear f1 f2 r1
      generalize tkE T L (pvT T L p4) = p5 at *
      refine g_signed hn r2 (fun y2 C3 f3 r3 => ?_) (fun y2 C3 f3 e3 _ => ?_)
      · rw [if_pos rfl] at r3
        have E2 : psg T L kd w p = psg3 T L kd w (pvV T L p4) (pvV T L p5) (tkE T L (pvT T L p5)) := by
          rw [E1]
          unfold psg2
          rw [cit_t y2]
        clear E1
        have V2 := pvV_b r2.1 y2
        have f13 := f12.tr f3
        clear f12 f3 r2
        generalize tkE T L (pvT T L p5) = p6 at *
        exact g_sgB (x1 := pvV T L p4) (y1 := pvV T L p5) hn r3 (fun f D a1 a2 a3 => h0 f D (by rw [E2]; exact a1) (f13.tr a2) a3) (fun q y D a1 a2 a3 a4 a5 a6 a7 a8 => h2 q y D (by rw [E2]; exact a1) a2 a3 ⟨by rw [a4]; exact V1, by rw [a5]; exact V2⟩ a6 (f13.tr a7) a8)
      · have fa : 0 ≤ C3 91 43 := by rw [e3]; omega
        exact g_word0 (w := 9) hn (by omega) fa (g_signed0 hn fa (fun _ => g_signed0 hn fa (fun _ => g_105f hn fa (h0 _ C3 (by rw [E1]; unfold psg2; rw [cit_f y2]) (f12.tr f3) e3))))
    · have fa : 0 ≤ C2 91 43 := by rw [e2]; omega
      exact g_signed0 hn fa (fun _ => g_word0 (w := 9) hn (by omega) fa (g_signed0 hn fa (fun _ => g_signed0 hn fa (fun _ => g_105f hn fa (h0 _ C2 (by rw [E0]; unfold psg1; rw [cit_f y1]) (f1.tr f2) e2)))))
  · have fa : 0 ≤ C1 91 43 := by rw [e1]; omega
    exact g_signed0 hn fa (fun _ => g_signed0 hn fa (fun _ => g_word0 (w := 9) hn (by omega) fa (g_signed0 hn fa (fun _ => g_signed0 hn fa (fun _ => g_105f hn fa (h0 _ C1 (by unfold psg; rw [cit_f y8]) f1 e1))))))
theorem g_segT {n p L k : Nat} {C : Cn} {T : Nat → Int} {kd : Int} {Q : Int → Cn → Prop} {r0 : Nat × Nat × (Nat → Int)} (hn : 320 ≤ n) (rg : RG C T L p) (hk : C 91 0 = (k : Int))
    (hr : r0 = cit (k < 6) (cit (wdP T L (tkE T L p) 7) (cit (nuP T L (tkE T L (tkE T L p)) 9) (psg T L kd (tkV T L (tkE T L (tkE T L p))) (tkE T L (tkE T L (tkE T L p)))) (0, tkS T L (tkE T L (tkE T L p)), fun _ => 0)) (psg T L kd 0 (tkE T L p))) (0, tkS T L p, fun _ => 0))
    (h0 : ∀ (f : Nat) (C2 : Cn), r0 = (0, f, fun _ => 0) → frT C C2 → C2 91 43 = (f : Int) → Q 0 C2)
    (h2 : ∀ (q : Nat) (y : Nat → Int) (C2 : Cn), r0 = (2, q, y) → k < 6 → y 0 = kd → (0 ≤ y 1 ∧ y 1 < 10) → (bd (y 2) ∧ bd (y 3)) → (bd (y 4) ∧ bd (y 5)) → frT C C2 → RG C2 T L q → J_G_segmentText_105 n C2 91 kd (y 1) (y 2) (y 3) (y 4) (y 5) 91 (if y 2 = y 4 then (if y 3 = y 5 then 0 else 1) else 1) Q) : P_G_segmentText n C 91 kd Q := by
  unfold P_G_segmentText J_G_segmentText_15
  simp only [gS hn, Int.reduceToNat, true_and, hk]
  by_cases k6 : k < 6
  · rw [cit_t k6] at hr
    rw [if_neg (by omega)]
    refine g_must hn rg (fun _ => g_passes hn rg (fun C1 f1 r1 => ?_)) (fun e => absurd e (by decide))
    refine g_isWord (w := 7) hn r1 (by omega) (fun y7 => ⟨fun x => absurd x (by decide), fun _ => ?_⟩) (fun y7 => ⟨fun _ => ?_, fun x => absurd rfl x⟩)
    · rw [cit_t y7] at hr
      refine g_passes hn r1 (fun C2 f2 r2 => g_num hn r2 (fun y C3 f3 r3 => ?_) (fun y C3 f3 e3 r => ?_))
      · rw [cit_t y] at hr
        have f13 := (f1.tr f2).tr f3
        have vb := tkV_b (T := T) r2.1
        have y2 := y.2
        refine g_45 hn r3 (fun f C4 a1 a2 a3 => h0 f C4 (by rw [hr]; exact a1) (f13.tr a2) a3) (fun q y C4 a1 a2 a3 a4 a5 a6 a7 => ?_)
        rw [← a3]
        exact h2 q y C4 (by rw [hr]; exact a1) k6 a2 (by rw [a3]; omega) a4 a5 (f13.tr a6) a7
      · rw [cit_f y] at hr
        have fa : 0 ≤ C3 91 43 := by rw [e3]; omega
        exact g_45f hn fa (h0 _ C3 hr ((f1.tr f2).tr f3) e3)
    · rw [cit_f y7] at hr
      refine g_45 hn r1 (fun f C4 a1 a2 a3 => h0 f C4 (by rw [hr]; exact a1) (f1.tr a2) a3) (fun q y C4 a1 a2 a3 a4 a5 a6 a7 => ?_)
      have hh := h2 q y C4 (by rw [hr]; exact a1) k6 a2 (by rw [a3]; omega) a4 a5 (f1.tr a6) a7
      rw [a3] at hh
      exact hh
  · rw [cit_f k6] at hr
    rw [if_pos (by omega)]
    refine g_must hn rg (fun e => absurd rfl e) (fun _ C1 f1 e1 => ?_)
    have fa : 0 ≤ C1 91 43 := by rw [e1]; omega
    exact g_passes0 hn fa (g_isWord0 (w := 7) hn (by omega) fa ⟨fun _ => g_45f hn fa (h0 _ C1 hr f1 e1), fun x => absurd rfl x⟩)
