/-! my own: words, and the class's reading -/
theorem wrd : ∀ w, w < 11 → 0 < w → (2 ≤ sLen (w : Nat) ∧ sLen (w : Nat) ≤ 7) ∧ ∀ k, k < 8 → ((k : Nat) : Int) < sLen (w : Nat) → 97 ≤ sChr (w : Nat) (k : Nat) ∧ sChr (w : Nat) (k : Nat) ≤ 122 := by decide +kernel
theorem wrd10 : ∀ w, w < 7 → 0 < w → sChr (w : Nat) ((0 : Nat) : Int) ≠ sChr ((10 : Nat) : Int) ((0 : Nat) : Int) := by decide +kernel
def wdP (T : Nat → Int) (L p w : Nat) : Prop := tkK T L p = 1 ∧ ((tkE T L p - tkS T L p : Nat) : Int) = sLen (w : Nat) ∧ ∀ k : Nat, (k : Int) < sLen (w : Nat) → T (tkS T L p + k) = sChr (w : Nat) (k : Nat)
def nuP (T : Nat → Int) (L p : Nat) (c : Int) : Prop := tkK T L p = 2 ∧ tkV T L p ≤ c
noncomputable def kwd (T : Nat → Int) (L p : Nat) : Nat := fnd (fun k => wdP T L p (k + 1)) 6
theorem kwd_10 {T : Nat → Int} {L p : Nat} (h : wdP T L p 10) : kwd T L p = 6 := by
  refine fnd_eq (Nat.le_refl _) (fun w => by omega) (fun k hk w => ?_)
  have l1 := (wrd 10 (by omega) (by omega)).1
  have l2 := (wrd (k + 1) (by omega) (by omega)).1
  have a := h.2.2 0 (by omega)
  have b := w.2.2 0 (by omega)
  exact wrd10 (k + 1) (by omega) (by omega) (b.symm.trans a)
theorem f_isWord {n p L w : Nat} {C : Cn} {T : Nat → Int} {Q : Int → Prop} (hf : 91 ≤ n) (tc : TC C T L) (hp : p ≤ L) (tk : TkC C T L p) (hw : 0 < w ∧ w < 11) (h1 : wdP T L p w → Q 1) (h0 : ¬ wdP T L p w → Q 0) : P_Re_isWord n C 72 (w : Int) Q := by
  have L120 := tc.1
  have tb := tk_b (T := T) hp
  obtain ⟨⟨l1, l2⟩, l3⟩ := wrd w hw.2 hw.1
  obtain ⟨k1, k2, k3, -⟩ := tk
  have hw1 : (0 : Int) < (w : Int) ∧ (w : Int) ≤ 10 := by omega
  unfold P_Re_isWord
  simp only [fS hf, Int.reduceToNat, true_and, k1, k2, k3]
  rw [w32_s (by omega)]
  refine ⟨fun e => ⟨hw1.1, hw1.2, fun e2 => ?_, fun e2 => h0 (fun x => e2 ?_)⟩, fun e => h0 (fun x => e (by rw [x.1]; rfl))⟩
  · refine lp_rule (fun (z : Int) => ∃ k : Nat, k ≤ 8 ∧ z = (k : Int) ∧ (k : Int) ≤ sLen (w : Nat) ∧ ∀ i : Nat, i < k → T (tkS T L p + i) = sChr (w : Nat) (i : Nat)) (fun z => (20 - z).toNat) ?_ 0 ⟨0, by omega, rfl, by omega, fun i hi => absurd hi (Nat.not_lt_zero i)⟩
    rintro v2 ⟨k, z0, rfl, z1, z2⟩ K hK
    unfold B_Re_isWord_28
    simp only [fS hf, Int.reduceToNat, true_and, k2]
    refine ⟨hw1.1, hw1.2, fun q => h1 ⟨by omega, by omega, fun i hi => z2 i (by omega)⟩, fun q => ?_⟩
    have hj : tkS T L p + k < L := by omega
    have ew : w32 (((tkS T L p : Nat) : Int) + (k : Int)) = ((tkS T L p + k : Nat) : Int) := by
      rw [w32_s (by omega)]
      omega
    rw [ew]
    clear ew
    obtain ⟨c1, c2⟩ := tc.2.2 _ hj
    have ch := l3 k (by omega) (by omega)
    have w8 := w8_c c1
    rw [Int.toNat_natCast, c2]
    refine ⟨by omega, by omega, by omega, fun e3 => ?_, fun e3 => h0 (fun x => e3 ?_)⟩
    · rw [w32_n (by omega)]
      refine hK _ ⟨k + 1, by omega, rfl, by omega, fun i hi => ?_⟩ (by omega)
      by_cases ei : i = k
      · rw [ei]
        omega
      · exact z2 i (by omega)
    · have := x.2.2 k (by omega)
      omega
  · have := x.2.1
    omega
theorem f_tkNum {n p L : Nat} {C : Cn} {T : Nat → Int} {c : Int} {Q : Int → Prop} (hf : 91 ≤ n) (hp : p ≤ L) (tk : TkC C T L p) (hc : c < 100) (h1 : nuP T L p c → Q 1) (h0 : ¬ nuP T L p c → Q 0) : P_Re_isNumber n C 72 c Q := by
  obtain ⟨k1, k2, k3, k4⟩ := tk
  have vb := tkV_b (T := T) hp
  unfold P_Re_isNumber J_Re_isNumber_21
  simp only [fS hf, Int.reduceToNat, true_and, k1]
  by_cases e : tkK T L p = 2
  · have k5 := k4 e
    rw [if_pos (by omega)]
    by_cases e2 : tkV T L p ≤ c
    · rw [imin_lt (by omega)] at k5
      rw [if_neg (by omega)]
      exact ⟨Or.inr rfl, h1 ⟨e, e2⟩⟩
    · have e3 : c < C 72 5 := by
        rw [k5]
        unfold imin
        split <;> omega
      rw [if_pos e3]
      exact ⟨Or.inl rfl, h0 (fun w => e2 w.2)⟩
  · rw [if_neg (by omega)]
    exact ⟨Or.inl rfl, h0 (fun w => e w.1)⟩
theorem f_kind {n p L : Nat} {C : Cn} {T : Nat → Int} {Q : Int → Prop} (hf : 91 ≤ n) (tc : TC C T L) (hp : p ≤ L) (tk : TkC C T L p) (h1 : ∀ k : Nat, k = kwd T L p → k < 6 → Q (k : Int)) (h0 : kwd T L p = 6 → Q (-1)) : P_Re_kindOfWord n C 72 Q := by
  have E : ∀ k : Nat, k < 6 → (∀ i, i < k → ¬ wdP T L p (i + 1)) → wdP T L p (k + 1) → Q (k : Int) := fun k hk hi hw => h1 k (fnd_eq (p := fun k => wdP T L p (k + 1)) (n := 6) (by omega) (fun _ => hw) hi).symm hk
  have W : ∀ (w : Nat) (R : Int → Prop), 0 < w ∧ w < 11 → (wdP T L p w → R 1) → (¬ wdP T L p w → R 0) → P_Re_isWord n C 72 (w : Int) R := fun w R hw a b => f_isWord hf tc hp tk hw a b
  unfold P_Re_kindOfWord
  simp only [fS hf, true_and]
  refine W 1 _ (by omega) (fun y => ⟨fun w => absurd w (by decide), fun _ => E 0 (by omega) (fun i hi => absurd hi (Nat.not_lt_zero i)) y⟩) (fun n1 => ⟨fun _ => ?_, fun w => absurd rfl w⟩)
  refine W 2 _ (by omega) (fun y => ⟨fun w => absurd w (by decide), fun _ => E 1 (by omega) (fun i hi => ?_) y⟩) (fun n2 => ⟨fun _ => ?_, fun w => absurd rfl w⟩)
  · rw [(by omega : i = 0)]
    exact n1
  refine W 3 _ (by omega) (fun y => ⟨fun w => absurd w (by decide), fun _ => E 2 (by omega) (fun i hi => ?_) y⟩) (fun n3 => ⟨fun _ => ?_, fun w => absurd rfl w⟩)
  · have : i = 0 ∨ i = 1 := by omega
    rcases this with rfl | rfl
    · exact n1
    · exact n2
  refine W 4 _ (by omega) (fun y => ⟨fun w => absurd w (by decide), fun _ => E 3 (by omega) (fun i hi => ?_) y⟩) (fun n4 => ⟨fun _ => ?_, fun w => absurd rfl w⟩)
  · have : i = 0 ∨ i = 1 ∨ i = 2 := by omega
    rcases this with rfl | rfl | rfl
    · exact n1
    · exact n2
    · exact n3
  refine W 5 _ (by omega) (fun y => ⟨fun w => absurd w (by decide), fun _ => E 4 (by omega) (fun i hi => ?_) y⟩) (fun n5 => ⟨fun _ => ?_, fun w => absurd rfl w⟩)
  · have : i = 0 ∨ i = 1 ∨ i = 2 ∨ i = 3 := by omega
    rcases this with rfl | rfl | rfl | rfl
    · exact n1
    · exact n2
    · exact n3
    · exact n4
  unfold J_Re_kindOfWord_69
  refine W 6 _ (by omega) (fun y => ?_) (fun n6 => ?_)
  · rw [if_neg (by decide)]
    refine E 5 (by omega) (fun i hi => ?_) y
    have : i = 0 ∨ i = 1 ∨ i = 2 ∨ i = 3 ∨ i = 4 := by omega
    rcases this with rfl | rfl | rfl | rfl | rfl
    · exact n1
    · exact n2
    · exact n3
    · exact n4
    · exact n5
  · rw [if_pos rfl]
    refine h0 (fnd_eq (Nat.le_refl _) (fun w => by omega) (fun i hi => ?_))
    have : i = 0 ∨ i = 1 ∨ i = 2 ∨ i = 3 ∨ i = 4 ∨ i = 5 := by omega
    rcases this with rfl | rfl | rfl | rfl | rfl | rfl
    · exact n1
    · exact n2
    · exact n3
    · exact n4
    · exact n5
    · exact n6
noncomputable def pvT (T : Nat → Int) (L p : Nat) : Nat := if tkK T L p = 4 then tkE T L p else p
noncomputable def pvV (T : Nat → Int) (L p : Nat) : Int := if tkK T L p = 4 then -(tkV T L (pvT T L p)) else tkV T L (pvT T L p)
theorem pvT_b {T : Nat → Int} {L p : Nat} (h : p ≤ L) : p ≤ pvT T L p ∧ pvT T L p ≤ L := by
  have b := tk_b (T := T) h
  unfold pvT
  split <;> omega
theorem pvV_b {T : Nat → Int} {L p : Nat} (h : p ≤ L) (hn : nuP T L (pvT T L p) 99) : bd (pvV T L p) := by
  have b := tkV_b (T := T) (pvT_b (T := T) h).2
  have c := hn.2
  unfold pvV bd
  split <;> omega
/-- what the class's reading may change -/
def frR (C C2 : Cn) : Prop := ∀ b t, ¬ (b = 72 ∧ 2 ≤ t ∧ t ≤ 6) → ¬ (b = 74 ∧ t < 6) → b ≠ 75 → C2 b t = C b t
theorem frR.tr {C D E : Cn} (h : frR C D) (g : frR D E) : frR C E := fun b t h1 h2 h3 => by rw [g b t h1 h2 h3, h b t h1 h2 h3]
theorem frR.tc {C D : Cn} {T : Nat → Int} {L : Nat} (h : frR C D) (tc : TC C T L) : TC D T L := tc.congr (fun b t hb => h b t (by omega) (by omega) (by omega))
theorem frR.st {C D : Cn} (h : ∀ b t, ¬ (b = 72 ∧ 2 ≤ t ∧ t ≤ 5) → D b t = C b t) : frR C D := fun b t h1 _ _ => h b t (by omega)
theorem f_fails {n p L : Nat} {C : Cn} {T : Nat → Int} {Q : Int → Cn → Prop} (hf : 91 ≤ n) (tk : TkC C T L p) (h : ∀ C2 : Cn, frR C C2 → (∀ b t, b ≠ 72 → C2 b t = C b t) → C2 72 6 = ((tkS T L p : Nat) : Int) → Q 0 C2) : P_Re_failsHere n C 72 (fun (r : Int) (C2 : Cn) => (r = 0 ∨ r = 1) ∧ (Q r C2)) := by
  unfold P_Re_failsHere
  simp only [fS hf, Int.reduceToNat, true_and]
  intro C2 c2
  rw [tk.2.1] at c2
  exact ⟨Or.inl trivial, h C2 (fun b t h1 h2 h3 => by rw [c2, wr_ne (by omega)]) (fun b t h1 => by rw [c2, wr_ne (by omega)]) (by rw [c2, wr_same])⟩
theorem f_readV {n p L i : Nat} {C : Cn} {T : Nat → Int} {Q : Int → Cn → Prop} (hf : 91 ≤ n) (tc : TC C T L) (hp : p ≤ L) (h4 : C 72 4 = (p : Int)) (hi : i < 4)
    (h1 : nuP T L (pvT T L p) 99 → ∀ C2 : Cn, frR C C2 → (∀ t, t ≠ i → C2 75 t = C 75 t) → TkC C2 T L (pvT T L p) → C2 75 i = pvV T L p → Q 1 C2)
    (h0 : ¬ nuP T L (pvT T L p) 99 → ∀ C2 : Cn, frR C C2 → C2 72 6 = ((tkS T L (pvT T L p) : Nat) : Int) → Q 0 C2) : P_Re_readV n C 72 (i : Int) Q := by
  have tb := tk_b (T := T) hp
  have A : ∀ (D : Cn) (v2 : Int), (∀ b t, ¬ (b = 72 ∧ 2 ≤ t ∧ t ≤ 5) → D b t = C b t) → TkC D T L (pvT T L p) → ((v2 = 1 ∧ tkK T L p = 4) ∨ (v2 = 0 ∧ tkK T L p ≠ 4)) → J_Re_readV_26 n D 72 (i : Int) v2 Q := by
    intro D v2 d1 d2 hv
    have pb := pvT_b (T := T) hp
    have vb := tkV_b (T := T) pb.2
    have d0 : frR C D := frR.st d1
    unfold J_Re_readV_26
    simp only [fS hf, Int.reduceToNat, Int.toNat_natCast, true_and]
    refine f_tkNum hf pb.2 d2 (by omega) (fun y => ⟨fun w => absurd w (by decide), fun _ => ?_⟩) (fun y => ⟨fun _ => f_fails hf d2 (fun E e1 _ e2 => h0 y E (d0.tr e1) e2), fun w => absurd rfl w⟩)
    have e5 : D 72 5 = tkV T L (pvT T L p) := by
      rw [d2.2.2.2 y.1, imin_lt (by have := y.2; omega)]
    have y2 := y.2
    have F : ∀ E : Cn, E = wr D 75 i (pvV T L p) → Q 1 E := by
      intro E e
      refine h1 y E (fun b t g1 g2 g3 => by rw [e, wr_ne (by omega), d1 b t (by omega)]) (fun t ht => by rw [e, wr_ne (by omega), d1 _ _ (by omega)]) (d2.congr (fun t _ _ => by rw [e, wr_ne (by omega)])) (by rw [e, wr_same])
    refine ⟨fun e => ⟨by omega, fun E c => F E ?_⟩, fun e => ⟨by omega, fun E c => F E ?_⟩⟩
    · rw [c, e5]
      unfold pvV
      rw [if_neg (by omega)]
    · rw [c, e5]
      unfold pvV
      rw [if_pos (by omega), w32_id (by omega) (by omega)]
  unfold P_Re_readV
  simp only [fS hf, Int.reduceToNat, true_and]
  refine f_step hf tc hp h4 (fun D d1 d2 => ?_)
  have t1 : TC D T L := (frR.st d1).tc tc
  unfold J_Re_readV_17
  simp only [fS hf, true_and]
  have k0 := d2.1
  by_cases e : tkK T L p = 4
  · have e' : D 72 2 = 4 := by omega
    rw [if_pos e']
    refine ⟨fun w => absurd w (by decide), fun _ => f_step hf t1 tb.2.2.1 d2.2.2.1 (fun E e1 e2 => A E 1 (fun b t hb => by rw [e1 b t hb, d1 b t hb]) ?_ (Or.inl ⟨rfl, e⟩))⟩
    unfold pvT
    rw [if_pos e]
    exact e2
  · have e' : ¬ D 72 2 = 4 := by omega
    rw [if_neg e']
    refine ⟨fun _ => A D 0 d1 ?_ (Or.inr ⟨rfl, e⟩), fun w => absurd rfl w⟩
    unfold pvT
    rw [if_neg e]
    exact d2
/-- what a segment's text says: (0, the fault) or (2, the last number, all numbers) -/
noncomputable def psg5 (T : Nat → Int) (L : Nat) (kd w x1 y1 x2 : Int) (p : Nat) : Nat × Nat × (Nat → Int) := cit (nuP T L (pvT T L p) 99) (2, pvT T L p, fun i => if i = 0 then kd else if i = 1 then w else if i = 2 then x1 else if i = 3 then y1 else if i = 4 then x2 else pvV T L p) (0, tkS T L (pvT T L p), fun _ => 0)
noncomputable def psg4 (T : Nat → Int) (L : Nat) (kd w x1 y1 : Int) (p : Nat) : Nat × Nat × (Nat → Int) := cit (nuP T L (pvT T L p) 99) (psg5 T L kd w x1 y1 (pvV T L p) (tkE T L (pvT T L p))) (0, tkS T L (pvT T L p), fun _ => 0)
noncomputable def psg3 (T : Nat → Int) (L : Nat) (kd w x1 y1 : Int) (p : Nat) : Nat × Nat × (Nat → Int) := cit (wdP T L p 9) (psg4 T L kd w x1 y1 (tkE T L p)) (0, tkS T L p, fun _ => 0)
noncomputable def psg2 (T : Nat → Int) (L : Nat) (kd w x1 : Int) (p : Nat) : Nat × Nat × (Nat → Int) := cit (nuP T L (pvT T L p) 99) (psg3 T L kd w x1 (pvV T L p) (tkE T L (pvT T L p))) (0, tkS T L (pvT T L p), fun _ => 0)
noncomputable def psg1 (T : Nat → Int) (L : Nat) (kd w : Int) (p : Nat) : Nat × Nat × (Nat → Int) := cit (nuP T L (pvT T L p) 99) (psg2 T L kd w (pvV T L p) (tkE T L (pvT T L p))) (0, tkS T L (pvT T L p), fun _ => 0)
noncomputable def psg (T : Nat → Int) (L : Nat) (kd w : Int) (p : Nat) : Nat × Nat × (Nat → Int) := cit (wdP T L p 8) (psg1 T L kd w (tkE T L p)) (0, tkS T L p, fun _ => 0)
/-- what an item's text says: (0, the fault), (1, behind it, the tide), (2, the last number, all numbers) -/
noncomputable def pit (T : Nat → Int) (L m p : Nat) : Nat × Nat × (Nat → Int) :=
  cit (wdP T L p 10) (cit (nuP T L (tkE T L p) 3) (1, tkE T L (tkE T L p), fun _ => tkV T L (tkE T L p)) (0, tkS T L (tkE T L p), fun _ => 0))
    (cit (kwd T L p < 6 ∧ m < 6) (cit (wdP T L (tkE T L p) 7) (cit (nuP T L (tkE T L (tkE T L p)) 9) (psg T L (kwd T L p : Nat) (tkV T L (tkE T L (tkE T L p))) (tkE T L (tkE T L (tkE T L p)))) (0, tkS T L (tkE T L (tkE T L p)), fun _ => 0)) (psg T L (kwd T L p : Nat) 0 (tkE T L p))) (0, tkS T L p, fun _ => 0))
/-- the end of a wall's reading: all four numbers are told -/
def wlC (n : Nat) (C : Cn) (v0 v1 v2 : Int) (Q : Int → Cn → Prop) : Prop :=
  okO n (PT v0.toNat 7) 7 ∧ (P_Wa_beOf n C (PT v0.toNat 7) v1 v2 (fun (_ : Int) (C_47 : Cn) => okO n (PT v0.toNat 8) 12 ∧ (okI (PT v0.toNat 8) 0 ∧ (okI (PT v0.toNat 8) 1 ∧ (okI (PT v0.toNat 8) 2 ∧ (okI (PT v0.toNat 8) 3 ∧ (P_Wa_lay n C_47 (PT v0.toNat 7) (C_47 (PT v0.toNat 8).toNat 0) (C_47 (PT v0.toNat 8).toNat 1) (C_47 (PT v0.toNat 8).toNat 2) (C_47 (PT v0.toNat 8).toNat 3) (fun (_ : Int) (C_56 : Cn) => Q 1 C_56))))))))
/-- from the word to on -/
def wlB (n : Nat) (C : Cn) (v0 v1 v2 : Int) (Q : Int → Cn → Prop) : Prop :=
  P_Re_isWord n C v0 9 (fun (r_31 : Int) => (r_31 = 0 → (P_Re_failsHere n C v0 (fun (r_60 : Int) (C_61 : Cn) => (r_60 = 0 ∨ r_60 = 1) ∧ (Q r_60 C_61)))) ∧ (¬ r_31 = 0 → (P_Re_readV n C v0 2 (fun (r_36 : Int) (C_37 : Cn) => (r_36 = 0 → (Q 0 C_37)) ∧ (¬ r_36 = 0 → (P_Re_readV n C_37 v0 3 (fun (r_41 : Int) (C_42 : Cn) => (r_41 = 0 → (Q 0 C_42)) ∧ (¬ r_41 = 0 → (wlC n C_42 v0 v1 v2 Q)))))))))
theorem f_wlC {n : Nat} {C : Cn} {kd w : Int} {Q : Int → Cn → Prop} (hf : 91 ≤ n) (h : ∀ D : Cn, (∀ b t, ¬ (b = 74 ∧ t < 6) → D b t = C b t) → D 74 0 = kd → D 74 1 = w → (∀ f, 2 ≤ f → f ≤ 5 → D 74 f = ld (C 75 0) (C 75 1) (C 75 2) (C 75 3) f) → Q 1 D) : wlC n C 72 kd w Q := by
  unfold wlC P_Wa_beOf
  simp only [fS hf, Int.reduceToNat, true_and]
  intro D1 d1 D2 d2
  have o2 : ∀ b t, ¬ (b = 74 ∧ t < 2) → D2 b t = C b t := fun b t hb => by rw [d2, wr_ne (by omega), d1, wr_ne (by omega)]
  have x0 : D2 74 0 = kd := by rw [d2, wr_ne (by omega), d1, wr_same]
  have x1 : D2 74 1 = w := by rw [d2, wr_same]
  refine ⟨by omega, by omega, by omega, by omega, ?_⟩
  rw [o2 75 _ (by omega), o2 75 _ (by omega), o2 75 _ (by omega), o2 75 _ (by omega)]
  have o74 : okO n ((74 : Nat) : Int) 7 := by
    have : okO n 74 7 := by simp only [fS hf]
    exact this
  refine f_layW (a := 74) o74 (fun D3 d3 d4 => h D3 (fun b t hb => by rw [d3 b t (by omega), o2 b t (by omega)]) (by rw [d3 _ _ (by omega), x0]) (by rw [d3 _ _ (by omega), x1]) d4)
theorem f_wlB {n p L : Nat} {C : Cn} {T : Nat → Int} {kd w x1 y1 : Int} {Q : Int → Cn → Prop} (hf : 91 ≤ n) (tc : TC C T L) (hp : p ≤ L) (tk : TkC C T L p) (c0 : C 75 0 = x1) (c1 : C 75 1 = y1)
    (h0 : ∀ (f : Nat) (C2 : Cn), psg3 T L kd w x1 y1 p = (0, f, fun _ => 0) → frR C C2 → C2 72 6 = (f : Int) → Q 0 C2)
    (h2 : ∀ (q : Nat) (y : Nat → Int) (C2 : Cn), psg3 T L kd w x1 y1 p = (2, q, y) → q ≤ L → tkK T L q = 2 → p < q → y 0 = kd → y 1 = w → y 2 = x1 → y 3 = y1 → (bd (y 4) ∧ bd (y 5)) → frR C C2 → TkC C2 T L q → C2 74 0 = y 0 → C2 74 1 = y 1 → (∀ f, 2 ≤ f → f ≤ 5 → C2 74 f = ld (y 2) (y 3) (y 4) (y 5) f) → (∀ i, i < 4 → C2 75 i = y (i + 2)) → Q 1 C2) : wlB n C 72 kd w Q := by
  have b3 := tk_b (T := T) hp
  unfold wlB
  refine f_isWord (w := 9) hf tc hp tk (by omega) (fun y9 => ⟨fun x => absurd x (by decide), fun _ => ?_⟩) (fun y9 => ⟨fun _ => f_fails hf tk (fun E e1 _ e2 => h0 _ E (by unfold psg3; rw [cit_f y9]) e1 e2), fun x => absurd rfl x⟩)
  have E3 : psg3 T L kd w x1 y1 p = psg4 T L kd w x1 y1 (tkE T L p) := by
    unfold psg3
    rw [cit_t y9]
  have k9 := b3.2.2.2.1 (by rw [y9.1]; decide)
  have t7 := tk.2.2.1
  generalize tkE T L p = p7 at *
  have hp7 := b3.2.2.1
  refine f_readV (i := 2) hf tc hp7 t7 (by omega) (fun y4 C4 f4 g4 t4 v4 => ⟨fun x => absurd x (by decide), fun _ => ?_⟩) (fun y4 C4 f4 v4 => ⟨fun _ => h0 _ C4 (by rw [E3]; unfold psg4; rw [cit_f y4]) f4 v4, fun x => absurd rfl x⟩)
  have E4 : psg3 T L kd w x1 y1 p = psg5 T L kd w x1 y1 (pvV T L p7) (tkE T L (pvT T L p7)) := by
    rw [E3]
    unfold psg4
    rw [cit_t y4]
  clear E3
  have p4 := pvT_b (T := T) hp7
  have b4 := tk_b (T := T) p4.2
  have V4 := pvV_b hp7 y4
  have hp8 := b4.2.2.1
  have lt8 : p < tkE T L (pvT T L p7) := by omega
  have t8 := t4.2.2.1
  generalize tkE T L (pvT T L p7) = p8 at *
  refine f_readV (i := 3) hf (f4.tc tc) hp8 t8 (by omega) (fun y5 C5 f5 g5 t5 v5 => ⟨fun x => absurd x (by decide), fun _ => ?_⟩) (fun y5 C5 f5 v5 => ⟨fun _ => h0 _ C5 (by rw [E4]; unfold psg5; rw [cit_f y5]) (f4.tr f5) v5, fun x => absurd rfl x⟩)
  have E5 : psg3 T L kd w x1 y1 p = (2, pvT T L p8, fun i => if i = 0 then kd else if i = 1 then w else if i = 2 then x1 else if i = 3 then y1 else if i = 4 then pvV T L p7 else pvV T L p8) := by
    rw [E4]
    unfold psg5
    rw [cit_t y5]
  clear E4
  have p5 := pvT_b (T := T) hp8
  have V5 := pvV_b hp8 y5
  have w3 : C5 75 3 = pvV T L p8 := v5
  have w2 : C5 75 2 = pvV T L p7 := by rw [g5 _ (by omega)]; exact v4
  have w1 : C5 75 1 = y1 := by rw [g5 _ (by omega), g4 _ (by omega), c1]
  have w0 : C5 75 0 = x1 := by rw [g5 _ (by omega), g4 _ (by omega), c0]
  have f45 := f4.tr f5
  have lt9 : p < pvT T L p8 := by omega
  clear v4 v5 g4 g5 f4 f5 h0 b3 b4 p4 t4
  refine f_wlC hf (fun D d1 d2 d3 d4 => ?_)
  rw [w0, w1, w2, w3] at d4
  refine h2 _ _ D E5 p5.2 y5.1 lt9 rfl rfl rfl rfl ⟨V4, V5⟩ (f45.tr (fun b t g1 g2 g3 => d1 b t g2)) (t5.congr (fun t _ _ => d1 _ _ (by omega))) d2 d3 d4 (fun i hi => ?_)
  rw [d1 _ _ (by omega)]
  have : i = 0 ∨ i = 1 ∨ i = 2 ∨ i = 3 := by omega
  rcases this with rfl | rfl | rfl | rfl
  · exact w0
  · exact w1
  · exact w2
  · exact w3
theorem f_wall42 {n p L : Nat} {C : Cn} {T : Nat → Int} {kd w : Int} {Q : Int → Cn → Prop} (hf : 91 ≤ n) (tc : TC C T L) (hp : p ≤ L) (tk : TkC C T L p)
    (h0 : ∀ (f : Nat) (C2 : Cn), psg T L kd w p = (0, f, fun _ => 0) → frR C C2 → C2 72 6 = (f : Int) → Q 0 C2)
    (h2 : ∀ (q : Nat) (y : Nat → Int) (C2 : Cn), psg T L kd w p = (2, q, y) → q ≤ L → tkK T L q = 2 → p < q → y 0 = kd → y 1 = w → (bd (y 2) ∧ bd (y 3)) → (bd (y 4) ∧ bd (y 5)) → frR C C2 → TkC C2 T L q → C2 74 0 = y 0 → C2 74 1 = y 1 → (∀ f, 2 ≤ f → f ≤ 5 → C2 74 f = ld (y 2) (y 3) (y 4) (y 5) f) → (∀ i, i < 4 → C2 75 i = y (i + 2)) → Q 1 C2) : J_Re_readWall_42 n C 72 kd w Q := by
  have b0 := tk_b (T := T) hp
  have o3 : okO n 72 3 := by simp only [fS hf]
  unfold J_Re_readWall_42
  refine ⟨o3, f_isWord (w := 8) hf tc hp tk (by omega) (fun y8 => ⟨fun x => absurd x (by decide), fun _ => ?_⟩) (fun y8 => ⟨fun _ => f_fails hf tk (fun E e1 _ e2 => h0 _ E (by unfold psg; rw [cit_f y8]) e1 e2), fun x => absurd rfl x⟩)⟩
  have E0 : psg T L kd w p = psg1 T L kd w (tkE T L p) := by
    unfold psg
    rw [cit_t y8]
  have k8 := b0.2.2.2.1 (by rw [y8.1]; decide)
  have hp4 := b0.2.2.1
  have t0 := tk.2.2.1
  have lt4 : p < tkE T L p := by omega
  generalize tkE T L p = p4 at *
  refine f_readV (i := 0) hf tc hp4 t0 (by omega) (fun y1 C1 f1 g1 t1 v1 => ⟨fun x => absurd x (by decide), fun _ => ?_⟩) (fun y1 C1 f1 v1 => ⟨fun _ => h0 _ C1 (by rw [E0]; unfold psg1; rw [cit_f y1]) f1 v1, fun x => absurd rfl x⟩)
  have E1 : psg T L kd w p = psg2 T L kd w (pvV T L p4) (tkE T L (pvT T L p4)) := by
    rw [E0]
    unfold psg1
    rw [cit_t y1]
  clear E0
  have p1 := pvT_b (T := T) hp4
  have b1 := tk_b (T := T) p1.2
  have V1 := pvV_b hp4 y1
  have hp5 := b1.2.2.1
  have t5 := t1.2.2.1
  have lt5 : p < tkE T L (pvT T L p4) := by omega
  generalize tkE T L (pvT T L p4) = p5 at *
  refine f_readV (i := 1) hf (f1.tc tc) hp5 t5 (by omega) (fun y2 C2 f2 g2 t2 v2 => ⟨fun x => absurd x (by decide), fun _ => ?_⟩) (fun y2 C2 f2 v2 => ⟨fun _ => h0 _ C2 (by rw [E1]; unfold psg2; rw [cit_f y2]) (f1.tr f2) v2, fun x => absurd rfl x⟩)
  have E2 : psg T L kd w p = psg3 T L kd w (pvV T L p4) (pvV T L p5) (tkE T L (pvT T L p5)) := by
    rw [E1]
    unfold psg2
    rw [cit_t y2]
  clear E1
  have p2 := pvT_b (T := T) hp5
  have b2 := tk_b (T := T) p2.2
  have V2 := pvV_b hp5 y2
  have hp6 := b2.2.2.1
  have t6 := t2.2.2.1
  have lt6 : p < tkE T L (pvT T L p5) := by omega
  generalize tkE T L (pvT T L p5) = p6 at *
  have f12 := f1.tr f2
  have w0 : C2 75 0 = pvV T L p4 := by rw [g2 _ (by omega)]; exact v1
  refine f_step hf (f12.tc tc) hp6 t6 (fun C3 f3 t3 => ?_)
  have f13 := f12.tr (frR.st f3)
  exact f_wlB (x1 := pvV T L p4) (y1 := pvV T L p5) hf (f13.tc tc) hp6 t3 (by rw [f3 _ _ (by omega), w0]) (by rw [f3 _ _ (by omega)]; exact v2) (fun f D a1 a2 a3 => h0 f D (by rw [E2]; exact a1) (f13.tr a2) a3) (fun q y D a1 a2 a3 a4 a5 a6 a7 a8 a9 b1 b2 b3 b4 b5 b6 => h2 q y D (by rw [E2]; exact a1) a2 a3 (by omega) a5 a6 ⟨by rw [a7]; exact V1, by rw [a8]; exact V2⟩ a9 (f13.tr b1) b2 b3 b4 b5 b6)
