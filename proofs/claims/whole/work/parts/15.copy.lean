/-! my own: System.arraycopy of longs -/
def acp (C : Cn) (a i b j k : Nat) : Cn := fun q z => if q = b ∧ j ≤ z ∧ z < j + k then C a (i + (z - j)) else C q z
theorem acp_ne {C : Cn} {a i b j k q z : Nat} (h : q ≠ b) : acp C a i b j k q z = C q z := by
  unfold acp
  rw [if_neg (fun h2 => h h2.1)]
section
variable {p : Program} {l : Launch} {e : Env} {R : Room} {s : State} {m : MethodId} {args : Array Value} {below : List Frame} {meth : Method} {c : Code} {E : Ev} {M : Mt} {pm : Bool} {Q : Int → Cn → Nat → Prop} {n kc ks pc pc2 : Nat} {lv st st2 : List Vl} {C : Cn}
theorem acp_HI {a i b j k : Nat} (h : HI pm C n) (ha : (LAY a).1 = 13) (hb : (LAY b).1 = 13) (hbn : b < n) : HI pm (acp C a i b j k) n := by
  obtain ⟨h1, h2, h3⟩ := h
  refine ⟨fun q z => ?_, fun q z hq => ?_, fun hp q z hq hq0 ht => ?_⟩
  · unfold acp
    by_cases hc : q = b ∧ j ≤ z ∧ z < j + k
    · rw [if_pos hc, hc.1, hb, tyE_j]
      have := h1 a (i + (z - j))
      rw [ha, tyE_j] at this
      exact this
    · rw [if_neg hc]
      exact h1 q z
  · rw [acp_ne (by omega)]
    exact h2 q z hq
  · by_cases hqb : q = b
    · subst hqb
      rw [hb, tyE_j] at ht
      cases ht
    · rw [acp_ne hqb]
      exact h3 hp q z hq hq0 ht
theorem i32_nn {x : Int} (h0 : 0 ≤ x) (h1 : x ≤ 2147483647) : (Int32.ofInt x).toInt = x ∧ ¬ Int32.ofInt x < 0 := by
  have e := i32_to x
  rw [w32_id (by omega) h1] at e
  refine ⟨e, fun h => ?_⟩
  have := (i32_lt (a := x) (b := 0) ⟨by omega, h1⟩ ⟨by decide, by decide⟩).mp h
  omega
theorem AW.acopy {x i y j k : Int} {ix : Nat} (d : decode M.2.1 pc = .ok (.invokestatic ix, 3)) (hw : Cond.methodLink M.1 ix arraycopyName ∈ lw_g ∧ Cond.native arraycopyName ∈ lw_g ∧ Cond.static arraycopyName ∈ lw_g ∧ Cond.initialized "java/lang/System" ∈ lw_g) (hx : okO n x 13) (hy : okO n y 13) (hi : 0 ≤ i) (hj : 0 ≤ j) (hk : 0 ≤ k) (hs : i + k ≤ (LAY x.toNat).2) (ht : j + k ≤ (LAY y.toNat).2) (hf : 1 ≤ M.2.2.2.2.2.2.frames) (hlo : 8 + (nativeFrameWords "java/lang/System" "arraycopy" 5 + 11) ≤ M.2.2.2.2.2.2.locals) (hcat : cat2 st ≤ 8)
    (kk : ∀ C1, C1 = acp C x.toNat i.toNat y.toNat j.toNat k.toNat → AW p l e R s m args below meth c E M pm Q n kc ks (pc + 3) lv st C1) : AW p l e R s m args below meth c E M pm Q n kc ks pc lv ((0, k) :: (0, j) :: (2, y) :: (0, i) :: (2, x) :: st) C := by
  intro hc H locs ls hR hI hS hl ol os
  have s1 := LAY_small x.toNat
  have s2 := LAY_small y.toNat
  obtain ⟨ei, ni⟩ := i32_nn hi (by omega)
  obtain ⟨ej, nj⟩ := i32_nn hj (by omega)
  obtain ⟨ek, nk⟩ := i32_nn hk (by omega)
  have ci := i32_clamp hi (by omega)
  have cj := i32_clamp hj (by omega)
  have ck := i32_clamp hk (by omega)
  have hc0 := hR.get hx
  have hc1 := hR.get hy
  rw [cellE_j hx.2.2] at hc0
  rw [cellE_j hy.2.2] at hc1
  have hcl := cat2_le E st
  have hxn : x.toNat < n := by have := hx.1; have := hx.2.1; omega
  have hyn : y.toNat < n := by have := hy.1; have := hy.2.1; omega
  have kk := kk _ rfl hc
  rw [List.map_cons, List.map_cons, List.map_cons, List.map_cons, List.map_cons, cv_obj hx.1, cv_obj hy.1]
  intro T hT X
  obtain ⟨-, k0, hk0, cm0, hkk0⟩ := (hc.2.2.2.2.1.1.2 2 _ (TYS_13 E)).1 (LAY x.toNat).2 (fun j => .long (Int64.ofInt (C x.toNat j)))
  obtain ⟨-, k1, hk1, cm1, hkk1⟩ := (hc.2.2.2.2.1.1.2 2 _ (TYS_13 E)).1 (LAY y.toNat).2 (fun j => .long (Int64.ofInt (C y.toNat j)))
  obtain ⟨vm', X', step⟩ := X.arraycopy hc.1.1 hc.1.2.2.2.1 (hc.1.2.2.2.2 _ hw.1) (hc.1.2.2.2.2 _ hw.2.1) (hc.1.2.2.2.2 _ hw.2.2.1) (hc.1.2.2.2.2 _ hw.2.2.2) (src := eB E + x.toNat) (dst := eB E + y.toNat) (cs := vp_cell (E.2.1 13) ((LAY x.toNat).2, .inr (.inl fun i => Int64.ofInt (C x.toNat i)))) (cd := vp_cell (E.2.1 13) ((LAY y.toNat).2, .inr (.inl fun i => Int64.ofInt (C y.toNat i)))) (srcPos := Int32.ofInt i) (destPos := Int32.ofInt j) (n := Int32.ofInt k) (by rw [hT]; exact hc0) (by rw [hT]; exact hc1)
    (fun _ h => by cases h) (fun _ h => by cases h) (fun h => by cases h) (fun h => by cases h) hk0 hk1 hkk0 hkk1 (by simp [refKind]) ni nj nk
    (by rw [ei, ek]; show ¬ _ > ((arrV (E.2.1 13) (LAY x.toNat).2 (fun j => .long (Int64.ofInt (C x.toNat j)))).slots.size : Int); rw [arrV_size]; omega)
    (by rw [ej, ek]; show ¬ _ > ((arrV (E.2.1 13) (LAY y.toNat).2 (fun j => .long (Int64.ofInt (C y.toNat j)))).slots.size : Int); rw [arrV_size]; omega)
    (fun vm₁ _ z hz => by
      have e : (vp_cell (E.2.1 13) ((LAY x.toNat).2, .inr (.inl fun i => Int64.ofInt (C x.toNat i)))).slots.getD ((Int32.ofInt i).toNatClampNeg + z) .null = .long (Int64.ofInt (C x.toNat ((Int32.ofInt i).toNatClampNeg + z))) := by
        show (arrV (E.2.1 13) (LAY x.toNat).2 (fun j => .long (Int64.ofInt (C x.toNat j)))).slots.getD _ _ = _
        rw [Array.getD_eq_getD_getElem?, arrV_read _ _ (by rw [ck] at hz; rw [ci]; omega)]
        rfl
      refine ⟨?_, ?_⟩
      · rw [e]
        rfl
      · rw [e]
        exact trivial)
    (g := F0 m pc ls (.int (Int32.ofInt k) :: .int (Int32.ofInt j) :: .ref (eB E + y.toNat) :: .int (Int32.ofInt i) :: .ref (eB E + x.toNat) :: st.map (cv E))) rfl (hl.1.trans hc.1.2.2.1.symm) (rest := st.map (cv E)) rfl (by rw [hc.1.2.1]; exact d) (by rw [hc.2.2.2.2.2]; exact hf) (by rw [hc.2.2.2.2.2]; show 2 * 0 + _ + _ ≤ _; omega)
  have e1 : copied (vp_cell (E.2.1 13) ((LAY x.toNat).2, .inr (.inl fun i => Int64.ofInt (C x.toNat i)))) (vp_cell (E.2.1 13) ((LAY y.toNat).2, .inr (.inl fun i => Int64.ofInt (C y.toNat i)))) (Int32.ofInt i) (Int32.ofInt j) (Int32.ofInt k) = vp_cell (E.2.1 13) ((LAY y.toNat).2, .inr (.inl fun z => Int64.ofInt (acp C x.toNat i.toNat y.toNat j.toNat k.toNat y.toNat z))) := by
    have h := va_copied (n1 := (LAY y.toNat).2) (dp := (Int32.ofInt j).toNatClampNeg) (fun z => .long z) (E.2.1 13) (E.2.1 13) (fun i => Int64.ofInt (C x.toNat i)) (fun i => Int64.ofInt (C y.toNat i)) (show (Int32.ofInt i).toNatClampNeg + (Int32.ofInt k).toNatClampNeg ≤ (LAY x.toNat).2 by rw [ci, ck]; omega)
    refine Eq.trans h ?_
    rw [ci, cj, ck, vp_cell_l]
    congr 1
    funext z
    congr 1
    unfold va_cpy acp
    by_cases hz : j.toNat ≤ z ∧ z < j.toNat + k.toNat
    · rw [if_pos hz, if_pos ⟨rfl, hz⟩]
    · rw [if_neg hz, if_neg (fun q => hz q.2)]
  rw [e1] at X' step
  have hlt : eB E + y.toNat < H.size := (Array.getElem?_eq_some_iff.mp hc1).1
  have hheap : ((T.setVm vm').setCell (eB E + y.toNat) (vp_cell (E.2.1 13) ((LAY y.toNat).2, .inr (.inl fun z => Int64.ofInt (acp C x.toNat i.toNat y.toNat j.toNat k.toNat y.toNat z))))).heap = H.setIfInBounds (eB E + y.toNat) (vp_cell (E.2.1 13) ((LAY y.toNat).2, .inr (.inl fun z => Int64.ofInt (acp C x.toNat i.toNat y.toNat j.toNat k.toNat y.toNat z)))) := by rw [← hT]; rfl
  generalize hH1 : H.setIfInBounds (eB E + y.toNat) (vp_cell (E.2.1 13) ((LAY y.toNat).2, .inr (.inl fun z => Int64.ofInt (acp C x.toNat i.toNat y.toNat j.toNat k.toNat y.toNat z)))) = H1 at hheap
  have e2 : H1.size = H.size := by rw [← hH1]; simp
  have e3 : ∀ q, q ≠ eB E + y.toNat → H1[q]? = H[q]? := fun q hq => by rw [← hH1]; simp [Array.getElem?_setIfInBounds, Ne.symm hq]
  have e4 : H1[eB E + y.toNat]? = some (vp_cell (E.2.1 13) ((LAY y.toNat).2, .inr (.inl fun z => Int64.ofInt (acp C x.toNat i.toNat y.toNat j.toNat k.toNat y.toNat z)))) := by rw [← hH1]; simp [Array.getElem?_setIfInBounds, hlt]
  have hR1 : Rep E (acp C x.toNat i.toNat y.toNat j.toNat k.toNat) n H1 := by
    refine ⟨e2.trans hR.1, fun q h0 hn => ?_⟩
    by_cases hq : q = y.toNat
    · subst hq
      rw [cellE_j hy.2.2]
      exact e4
    · have hce : cellE E (acp C x.toNat i.toNat y.toNat j.toNat k.toNat) q = cellE E C q := by
        have : ∀ z, acp C x.toNat i.toNat y.toNat j.toNat k.toNat q z = C q z := fun z => acp_ne hq
        unfold cellE
        simp only [this]
      rw [hce]
      exact (hR.2 q h0 hn).kept (e3 _ (by show eB E + q ≠ _; omega))
  obtain ⟨t, a1, b1⟩ := kk H1 _ ls hR1 (acp_HI hI hx.2.2 hy.2.2 hyn) ⟨by rw [e2]; exact hS.1, fun q g1 g2 => by
      rw [e3 q (fun e => g2 (by rw [e]; show eB E < eB E + y.toNat; have := hy.1; omega))]
      exact hS.2.1 q g1 g2, fun q hq => by
      rcases List.mem_append.mp hq with h | h
      · exact hS.2.2 q h
      · obtain ⟨z, -, hz⟩ := List.mem_map.mp h
        rw [← hz]
        show eB E < eB E + y.toNat
        have := hy.1
        omega⟩ hl ol (ok_d2 (ok_1 (ok_d2 os)).2) _ hheap X'
  exact ⟨t, step t a1, b1⟩
end
