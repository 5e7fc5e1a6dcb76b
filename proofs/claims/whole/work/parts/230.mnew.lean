/-! my own: arrays of arrays that are made; a call out of a constructor into the ordinary mode -/
def mrow (C : Cn) (a N : Nat) : Cn := fun b z => if b = a ∧ z < N then ((a + 1 + z : Nat) : Int) else C b z
theorem mrow_ne {C : Cn} {a N b z : Nat} (h : b ≠ a) : mrow C a N b z = C b z := by
  unfold mrow
  rw [if_neg (fun h2 => h h2.1)]
section
variable {p : Program} {l : Launch} {e : Env} {R : Room} {s : State} {m : MethodId} {args : Array Value} {below : List Frame} {meth : Method} {c : Code} {E : Ev} {M : Mt} {pm : Bool} {Q : Int → Cn → Nat → Prop} {n kc ks pc pc2 : Nat} {lv st st2 : List Vl} {C : Cn}
theorem AW.mnewG {N K ko ki t0 ti i : Nat} {x y : Int} {ty : FieldType} (hT : (TYS E)[t0]? = some (E.2.1 ko, .array ty)) (hTi : (TYS E)[ti]? = some (E.2.1 ki, ty)) (hko : 15 ≤ ko ∧ ko < 19) (hrai : ∀ (U : State) (cA : ClassId), va_RA U cA ty → U.vm.findClass (FieldType.array ty).toString = some cA) (hov : XN s → (Cond.arrayOver (.array ty)).before args s = true) (hin : ∀ (C1 : Cn) (k : Nat), (LAY k) = (ki, K) → (∀ i, C1 k i = 0) → ∀ H1 : Heap, H1[eB E + k]? = some (mm_in (E.2.1 ki) K (defaultValue ty)) → va_at E.1 CLS (eB E + k, cellE E C1 k) H1) (hty2 : ∀ z, tyE ko z = 2) (hdf : fits ty (defaultValue ty) = true) (hcb : componentBytes ty ≤ 8)
    (d : decode M.2.1 pc = .ok (.multianewarray i 2, 4)) (hwc : Cond.classLink M.1 i ("[" ++ (FieldType.array ty).toString) ∈ lw_g) (hwa : Cond.arrayClass ty ∈ lw_g) (hl : LAY n = (ko, N)) (hr : ∀ j, j < N → LAY (n + 1 + j) = (ki, K)) (hK : K ≤ 4000) (hx : x = (N : Int)) (hy : y = (K : Int)) (hp : pm = false) (h1 : kc + (1 + N) ≤ M.2.2.2.2.2.2.cells) (h2 : ks + (N + N * K) ≤ M.2.2.2.2.2.2.slots) (k : ∀ C1, C1 = mrow C n N → AW p l e R s m args below meth c E M pm Q (n + 1 + N) (kc + 1 + N) (ks + N + N * K) (pc + 4) lv ((2, (n : Int)) :: st) C1) : AW p l e R s m args below meth c E M pm Q n kc ks pc lv ((0, y) :: (0, x) :: st) C := by
  intro hc H locs ls hR hI hS hlv ol os
  subst hx
  subst hy
  have hN := lay_le hl
  have hn := n_pos hc.2.2.2.2.1 hR hS
  have kk := k _ rfl hc
  refine mm_W (g := F0 m pc ls (.int (nI K) :: .int (nI N) :: st.map (cv E))) (N := N) (K := K) (rest := st.map (cv E)) hc.1.1 hc.1.2.1 hc.1.2.2.2.1 (hc.1.2.2.2.2 _ hwc) (hov hc.2.2.2.2.1.2.2.2.1) (hc.1.2.2.2.2 _ hwa) rfl d rfl hN hK hcb hdf (by rw [hc.2.2.2.2.2]; exact h1) (by rw [hc.2.2.2.2.2]; exact h2) hR.1 fun H1 cO cI fA fC f1 f2 hrow hold => ?_
  have hcA : cO = E.2.1 ko := Option.some.inj (fA.symm.trans (hc.2.2.2.2.1.1.2 t0 _ hT).2)
  have hcI : cI = E.2.1 ki := Option.some.inj (fC.symm.trans (hrai s _ (hc.2.2.2.2.1.1.2 ti _ hTi).2))
  subst hcA
  subst hcI
  have hR1 : Rep E (mrow C n N) (n + 1 + N) H1 := by
    refine ⟨by rw [f1]; omega, fun q h0 hq => ?_⟩
    by_cases hqn : q = n
    · subst hqn
      rw [cellE_r (by rw [hl]) hko, hl]
      show H1[eB E + q]? = some (vp_cell _ _)
      rw [vp_cell_q, f2]
      unfold mm_out
      congr 2
      funext j
      unfold mrow
      by_cases hj : j < N
      · rw [if_pos hj, if_pos ⟨rfl, hj⟩, rfo_pos (by omega)]
        congr 1
        have : (((q + 1 + j : Nat) : Int)).toNat = q + 1 + j := by omega
        rw [this]
        congr 1
        omega
      · rw [if_neg hj, if_neg (fun h => hj h.2), hI.2.1 q j (Nat.le_refl q)]
        rfl
    · have hce : cellE E (mrow C n N) q = cellE E C q := by
        have : ∀ z, mrow C n N q z = C q z := fun z => mrow_ne hqn
        unfold cellE
        simp only [this]
      by_cases hlt : q < n
      · rw [hce]
        exact (hR.2 q h0 hlt).kept (hold _ (by show eB E + q < _; omega))
      · obtain ⟨j, hj, rfl⟩ : ∃ j, j < N ∧ q = n + 1 + j := ⟨q - n - 1, by omega, by omega⟩
        refine hin _ _ (hr j hj) (fun z => by rw [mrow_ne hqn]; exact hI.2.1 _ z (by omega)) _ ?_
        have := hrow j hj
        rw [show eB E + (n + 1 + j) = eB E + n + 1 + j by omega]
        exact this
  have hI1 : HI pm (mrow C n N) (n + 1 + N) := by
    refine ⟨fun q z => ?_, fun q z hq => by rw [mrow_ne (by omega)]; exact hI.2.1 q z (by omega), fun h => by rw [hp] at h; cases h⟩
    by_cases hqn : q = n
    · subst hqn
      rw [hl, hty2]
      exact trivial
    · rw [mrow_ne hqn]
      exact hI.1 q z
  have hS1 : va_S (eA E) s.heap H1 (locs ++ mm_locs (eB E + n) N) := by
    refine ⟨by rw [f1]; have := hS.1; have := hR.1; omega, fun q g1 g2 => (hold q (by have := hS.1; have := hR.1; omega)).trans (hS.2.1 q g1 g2), fun x hx => ?_⟩
    rcases List.mem_append.mp hx with hx | hx
    · exact hS.2.2 x hx
    · rw [mm_locs_at _ _ x hx]
      show eB E < eB E + n
      omega
  have k2 := kk H1 _ ls hR1 hI1 hS1 hlv ol (ok_c trivial (ok_d2 os))
  rw [List.map_cons, cv_n hn] at k2
  exact k2
theorem AW.mnew17 {N K i : Nat} {x y : Int} (d : decode M.2.1 pc = .ok (.multianewarray i 2, 4)) (hwc : Cond.classLink M.1 i "[[I" ∈ lw_g) (hwa : Cond.arrayClass .int ∈ lw_g) (hl : LAY n = (17, N)) (hr : ∀ j, j < N → LAY (n + 1 + j) = (12, K)) (hK : K ≤ 4000) (hx : x = (N : Int)) (hy : y = (K : Int)) (hp : pm = false) (h1 : kc + (1 + N) ≤ M.2.2.2.2.2.2.cells) (h2 : ks + (N + N * K) ≤ M.2.2.2.2.2.2.slots) (k : ∀ C1, C1 = mrow C n N → AW p l e R s m args below meth c E M pm Q (n + 1 + N) (kc + 1 + N) (ks + N + N * K) (pc + 4) lv ((2, (n : Int)) :: st) C1) : AW p l e R s m args below meth c E M pm Q n kc ks pc lv ((0, y) :: (0, x) :: st) C :=
  AW.mnewG (ty := .int) (ko := 17) (ki := 12) (t0 := 6) (ti := 1) rfl rfl (by decide) (fun _ _ h => h) (fun h => h.2.2.2.2.1) (fun C1 q hq h0 H1 he => by
    rw [cellE_i (kd := 12) (by rw [hq]) (by decide), hq]
    show H1[eB E + q]? = some (vp_cell _ _)
    rw [vp_cell_i, he]
    have : (fun i => Value.int (Int32.ofInt (C1 q i))) = fun _ => Value.int 0 := by funext i; rw [h0 i]; rfl
    rw [this]
    exact congrArg some (arrV_new _ _ _)) (fun _ => rfl) rfl (by decide) d hwc hwa hl hr hK hx hy hp h1 h2 k
theorem AW.mnew18 {N K i : Nat} {x y : Int} (d : decode M.2.1 pc = .ok (.multianewarray i 2, 4)) (hwc : Cond.classLink M.1 i "[[J" ∈ lw_g) (hwa : Cond.arrayClass .long ∈ lw_g) (hl : LAY n = (18, N)) (hr : ∀ j, j < N → LAY (n + 1 + j) = (13, K)) (hK : K ≤ 4000) (hx : x = (N : Int)) (hy : y = (K : Int)) (hp : pm = false) (h1 : kc + (1 + N) ≤ M.2.2.2.2.2.2.cells) (h2 : ks + (N + N * K) ≤ M.2.2.2.2.2.2.slots) (k : ∀ C1, C1 = mrow C n N → AW p l e R s m args below meth c E M pm Q (n + 1 + N) (kc + 1 + N) (ks + N + N * K) (pc + 4) lv ((2, (n : Int)) :: st) C1) : AW p l e R s m args below meth c E M pm Q n kc ks pc lv ((0, y) :: (0, x) :: st) C :=
  AW.mnewG (ty := .long) (ko := 18) (ki := 13) (t0 := 7) (ti := 2) rfl rfl (by decide) (fun _ _ h => h) (fun h => h.2.2.2.2.2) (fun C1 q hq h0 H1 he => by
    rw [cellE_j (by rw [hq]), hq]
    show H1[eB E + q]? = some (vp_cell _ _)
    rw [vp_cell_l, he]
    have : (fun i => Value.long (Int64.ofInt (C1 q i))) = fun _ => Value.long 0 := by funext i; rw [h0 i]; rfl
    rw [this]
    exact congrArg some (arrV_new _ _ _)) (fun _ => rfl) rfl (by decide) d hwc hwa hl hr hK hx hy hp h1 h2 k
theorem AW.callVp {y : MethodName} {M2 : Mt} {Q2 : Int → Cn → Nat → Prop} {As rest : List Vl} {x : Int} {i k ci : Nat} (hM : MA l y M2 E true C n ((2, x) :: As) Q2) (hb : CB M.1 i y M2 k) (hin : Cond.instanceMethod y ∈ lw_g) (hse : Cond.selects y.cls y y ∈ lw_g) (hcl : ∃ T N, CLS[ci]? = some (y.cls, T, N)) (hci : ci < 11) (d : decode M.2.1 pc = .ok (.invokevirtual i, 3)) (ho : okO n x ci) (hstk : st = As.reverse ++ (2, x) :: rest) (hk : As.length = k)
    (hrm : M2.2.2.2.2.2.2.frames + 1 ≤ M.2.2.2.2.2.2.frames ∧ 8 + (M2.2.2.1 + 11) + M2.2.2.2.2.2.2.locals ≤ M.2.2.2.2.2.2.locals) (hcs : kc + M2.2.2.2.2.2.2.cells ≤ M.2.2.2.2.2.2.cells ∧ ks + M2.2.2.2.2.2.2.slots ≤ M.2.2.2.2.2.2.slots) (hcat : cat2 rest ≤ 8) (hu : ptC C n)
    (kk : ∀ (r : Int) (C2 : Cn) (n2 : Nat), Q2 r C2 n2 → ptC C2 n2 → AW p l e R s m args below meth c E M false Q n2 (kc + M2.2.2.2.2.2.2.cells) (ks + M2.2.2.2.2.2.2.slots) (pc + 3) lv (pu M2.2.2.2.2.2.1 r rest) C2) : AW p l e R s m args below meth c E M false Q n kc ks pc lv st C := by
  intro hc H locs ls hR hI hS hl ol os
  subst hstk
  have oA : ∀ v ∈ As, okV v := fun v hv => os v (List.mem_append_left _ (List.mem_reverse.mpr hv))
  have oR : ∀ v ∈ rest, okV v := fun v hv => os v (List.mem_append_right _ (List.mem_cons_of_mem _ hv))
  have hat := hR.get ho
  rw [cellE_o ho.2.2 hci] at hat
  obtain ⟨T, N, hcl⟩ := hcl
  have hrc := va_recv hc.2.2.2.2.1.1 (va_P1 hat) hcl (q0 := 0) rfl
  refine run_go (rest := rest) (va_runV (As := As.map (cv E)) (rest := rest.map (cv E)) (b := eB E + x.toNat) (C := y.cls) hc.1 hM ⟨callB_A hc hb hrm, hc.1.2.2.2.2 _ hin, hc.1.2.2.2.2 _ hse⟩ ⟨blindA E true C n _, hrc, fun U hU hW => ⟨by rw [List.map_cons, cv_obj ho.1], by rw [hU]; exact hR, hI.mode (fun _ _ => hu), hc.2.2.2.2.1.at hS hU hW, ok_c trivial oA⟩⟩ rfl (by rw [List.length_map]; exact hk) hl.1 (by show _ = _; rw [List.map_append, List.map_cons, cv_obj ho.1]; simp) ?_ d (by rw [hc.2.2.2.2.2]; exact hcs)) hS (fun r C2 n2 H1 locs1 hq hR2 hI2 hok hS1 => kk r C2 n2 hq (hI2.2.2 rfl) hc H1 locs1 ls hR2 (hI2.mode2 (fun h => by cases h)) hS1 hl ol (pu_ok hok oR))
  have := cat2_le E rest
  show 2 * 0 + _ ≤ 8
  omega
end
