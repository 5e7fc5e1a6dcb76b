/-! my own: rows on texts, and rows that make cells -/
section
variable {p : Program} {l : Launch} {e : Env} {R : Room} {s : State} {m : MethodId} {args : Array Value} {below : List Frame} {meth : Method} {c : Code} {E : Ev} {M : Mt} {pm : Bool} {Q : Int → Cn → Nat → Prop} {n kc ks pc pc2 : Nat} {lv st st2 : List Vl} {C : Cn}
def sLen (x : Int) : Int := (SLEN.getD (x.toNat - 1) 0 : Nat)
def sChr (x i : Int) : Int := (SCH (x.toNat - 1) i.toNat).toInt
theorem cv_txt {E : Ev} {x : Int} (h : 0 < x) : cv E (4, x) = .ref (E.2.2.2.1 (x.toNat - 1)) := by
  show va_rf (sfo E x) = _
  unfold sfo
  rw [if_neg (by omega)]
  rfl
theorem AW.slen {x : Int} {i : Nat} (d : decode M.2.1 pc = .ok (.invokevirtual i, 3)) (hx : 0 < x) (hx2 : x ≤ 10) (hml : Cond.methodLink M.1 i yJ_length ∈ lw_g) (hrm : 2 ≤ M.2.2.2.2.2.2.frames ∧ 40 ≤ M.2.2.2.2.2.2.locals) (hcat : cat2 st ≤ 8) (h1 : kc ≤ M.2.2.2.2.2.2.cells) (h2 : ks ≤ M.2.2.2.2.2.2.slots) (k : AW p l e R s m args below meth c E M pm Q n kc ks (pc + 3) lv ((0, sLen x) :: st) C) : AW p l e R s m args below meth c E M pm Q n kc ks pc lv ((4, x) :: st) C := by
  intro hc H locs ls hR hI hS hl ol os
  have hj : x.toNat - 1 < 10 := by omega
  have hs := slen_small _ hj
  have kk := k hc H locs ls hR hI hS hl ol (ok_c (by unfold sLen; exact ⟨by omega, by omega⟩) (ok_1 os).2)
  rw [List.map_cons, cv_txt hx]
  have hcl := cat2_le E st
  refine callJV (vs := []) (k := 0) hj hc.1 hc.2.2.2.2.1 (j_length l E hj) hml rfl cdJ_length imJ_length seJ_length (by decide +kernel) d rfl hl.1 hS (by rw [hc.2.2.2.2.2]; exact ⟨by omega, by omega⟩) (by rw [hc.2.2.2.2.2]; exact ⟨h1, h2⟩) (by omega) ?_
  have e1 : Int32.ofNat (SLEN.getD (x.toNat - 1) 0) = Int32.ofInt (sLen x) := by unfold sLen; rfl
  rw [e1]
  exact kk
theorem AW.schr {x i : Int} {j : Nat} (d : decode M.2.1 pc = .ok (.invokevirtual j, 3)) (hx : 0 < x) (hx2 : x ≤ 10) (hi : 0 ≤ i) (hi2 : i < sLen x) (hml : Cond.methodLink M.1 j yJ_charAt ∈ lw_g) (hrm : 4 ≤ M.2.2.2.2.2.2.frames ∧ 85 ≤ M.2.2.2.2.2.2.locals) (hcat : cat2 st ≤ 8) (h1 : kc ≤ M.2.2.2.2.2.2.cells) (h2 : ks ≤ M.2.2.2.2.2.2.slots) (k : AW p l e R s m args below meth c E M pm Q n kc ks (pc + 3) lv ((0, sChr x i) :: st) C) : AW p l e R s m args below meth c E M pm Q n kc ks pc lv ((0, i) :: (4, x) :: st) C := by
  intro hc H locs ls hR hI hS hl ol os
  have hj : x.toNat - 1 < 10 := by omega
  have hs := slen_small _ hj
  have hk : i.toNat < SLEN.getD (x.toNat - 1) 0 := by unfold sLen at hi2; omega
  have kk := k hc H locs ls hR hI hS hl ol (ok_c (i32_rng _) (ok_d2 os))
  rw [List.map_cons, List.map_cons, cv_txt hx]
  have hcl := cat2_le E st
  have ei : cv E (0, i) = .int (nI i.toNat) := by
    show Value.int (Int32.ofInt i) = .int (Int32.ofNat i.toNat)
    have : i = (i.toNat : Int) := by omega
    rw [this]
    rfl
  rw [ei]
  refine callJV (vs := [.int (nI i.toNat)]) (k := 1) hj hc.1 hc.2.2.2.2.1 (j_charAt l E hj hk) hml rfl cdJ_charAt imJ_charAt seJ_charAt (by decide +kernel) d rfl hl.1 hS (by rw [hc.2.2.2.2.2]; exact ⟨by omega, by omega⟩) (by rw [hc.2.2.2.2.2]; exact ⟨h1, h2⟩) (by omega) ?_
  have e1 : SCH (x.toNat - 1) i.toNat = Int32.ofInt (sChr x i) := by unfold sChr; rw [i32_of]
  rw [e1]
  exact kk
theorem AW.ldcS {i t : Nat} (d : decode M.2.1 pc = .ok (.ldc i, 2)) (ht : (M.1, i, t) ∈ SREF) (k : AW p l e R s m args below meth c E M pm Q n kc ks (pc + 2) lv ((4, ((t + 1 : Nat) : Int)) :: st) C) : AW p l e R s m args below meth c E M pm Q n kc ks pc lv st C := by
  intro hc H locs ls hR hI hS hl ol os
  have kk := k hc H locs ls hR hI hS hl ol (ok_c trivial os)
  have hr := hc.2.2.2.2.1.2.2.1 _ ht
  rw [List.map_cons, cv_txt (by omega)] at kk
  exact va_ldcS hc.1.1 hc.1.2.1 hc.1.2.2.2.1 hr d kk
theorem AW.ldcSw {i t : Nat} (d : decode M.2.1 pc = .ok (.ldc_w i, 3)) (ht : (M.1, i, t) ∈ SREF) (k : AW p l e R s m args below meth c E M pm Q n kc ks (pc + 3) lv ((4, ((t + 1 : Nat) : Int)) :: st) C) : AW p l e R s m args below meth c E M pm Q n kc ks pc lv st C := by
  intro hc H locs ls hR hI hS hl ol os
  have kk := k hc H locs ls hR hI hS hl ol (ok_c trivial os)
  have hr := hc.2.2.2.2.1.2.2.1 _ ht
  rw [List.map_cons, cv_txt (by omega)] at kk
  intro T hT X
  obtain ⟨t2, a1, b1⟩ := kk T hT X
  have hd : decode c.code pc = .ok (.ldc_w i, 3) := by rw [hc.1.2.1]; exact d
  exact ⟨t2, X.ldcStringW hc.1.1 hc.1.2.2.2.1 hr.1 hr.2 (g := F0 m pc ls (st.map (cv E))) rfl hd t2 a1, b1⟩
theorem AW.objI {x : Int} {i : Nat} (d : decode M.2.1 pc = .ok (.invokespecial i, 3)) (hw : Cond.methodLink M.1 i Lib.objectInit ∈ lw_g ∧ Cond.instanceMethod Lib.objectInit ∈ lw_g ∧ Cond.code Lib.objectInit ⟨#[0xb1]⟩ 1 none ∈ lw_g) (hx : 0 < x) (hf : 1 ≤ M.2.2.2.2.2.2.frames) (hlo : 20 ≤ M.2.2.2.2.2.2.locals) (hcat : cat2 st ≤ 8) (k : AW p l e R s m args below meth c E M pm Q n kc ks (pc + 3) lv st C) : AW p l e R s m args below meth c E M pm Q n kc ks pc lv ((2, x) :: st) C := by
  intro hc H locs ls hR hI hS hl ol os
  have kk := k hc H locs ls hR hI hS hl ol (ok_1 os).2
  have hcl := cat2_le E st
  rw [List.map_cons, cv_obj hx]
  refine W.objInit hc.1.1 hc.1.2.1 hc.1.2.2.2.1 (hc.1.2.2.2.2 _ hw.1) (hc.1.2.2.2.2 _ hw.2.1) (hc.1.2.2.2.2 _ hw.2.2) rfl (hl.1.trans hc.1.2.2.1.symm) rfl d (by rw [hc.2.2.2.2.2]; exact hf) ?_ kk
  rw [hc.2.2.2.2.2]
  show 2 * 0 + _ + 12 ≤ _
  omega
theorem Rep.grow {C : Cn} {H H1 : Heap} (hR : Rep E C n H) (hz : H1.size = eB E + n + 1) (ho : ∀ q, q < eB E + n → H1[q]? = H[q]?) (hc : va_at E.1 CLS (eB E + n, cellE E C n) H1) : Rep E C (n + 1) H1 := by
  refine ⟨by omega, fun k h0 hn => ?_⟩
  by_cases hk : k = n
  · subst hk
    exact hc
  · exact (hR.2 k h0 (by omega)).kept (ho _ (by show eB E + k < _; omega))
theorem HI.grow (h : HI pm C n) (hp : pm = true → N0 ≤ n) : HI pm C (n + 1) := ⟨h.1, fun k i hk => h.2.1 k i (by omega), fun q k i hk hk0 ht => h.2.2 q k i (by have := hp q; omega) hk0 ht⟩
theorem vaS_grow {H0 H H1 : Heap} {locs : List Loc} {b : Nat} (h : va_S (eA E) H0 H locs) (hz : H.size ≤ H1.size) (ho : ∀ q, q < H.size → H1[q]? = H[q]?) : va_S (eA E) H0 H1 locs :=
  ⟨Nat.le_trans h.1 hz, fun q h1 h2 => (ho q (Nat.lt_of_lt_of_le h1 h.1)).trans (h.2.1 q h1 h2), h.2.2⟩
theorem n_pos {H : Heap} {locs : List Loc} (hE : EOK E s) (hR : Rep E C n H) (hS : va_S (eA E) s.heap H locs) : 0 < n := by
  have := hE.2.2.2.2
  have := hS.1
  have := hR.1
  omega
theorem cv_n {x : Nat} (h : 0 < x) : cv E (2, (x : Int)) = .ref (eB E + x) := cv_obj (by omega)
def cv0 (t : Nat) : Value := if t = 0 then .int 0 else if t = 1 then .long 0 else .null
theorem cv_0 (t : Nat) : cv E (t, 0) = cv0 t ∨ t = 3 := by
  match t with
  | 0 => exact Or.inl rfl
  | 1 => exact Or.inl rfl
  | 2 => exact Or.inl rfl
  | 3 => exact Or.inr rfl
  | t + 4 =>
    left
    show va_rf (sfo E 0) = cv0 (t + 4)
    unfold cv0
    rw [if_neg (by omega), if_neg (by omega)]
    rfl
theorem FTY_lt (a b : Nat) : FTY a b < 3 := by
  unfold FTY
  rw [List.getD_eq_getElem?_getD, List.getD_eq_getElem?_getD]
  cases h1 : FTL[a]? with
  | none => simp
  | some q =>
    cases h2 : q[b]? with
    | none => simp [h2]
    | some z =>
      have hq : ∀ l ∈ FTL, ∀ t ∈ l, t < 3 := by decide
      simp only [Option.getD_some, h2]
      exact hq q (List.mem_of_getElem? h1) z (List.mem_of_getElem? h2)
/-- a new object -/
theorem AW.new {i ci N : Nat} {Cc : String} {T : u_T} {ty : Nat → FieldType} (kf : KF ci Cc T N ty) (hdv : ∀ k, k < N → defaultValue (ty k) = cv0 (FTY ci k)) (d : decode M.2.1 pc = .ok (.new i, 3)) (hw : Cond.classLink M.1 i Cc ∈ lw_g ∧ Cond.instantiable Cc N ∈ lw_g ∧ Cond.initialized Cc ∈ lw_g) (hl : LAY n = (ci, N)) (hp : pm = true → N0 ≤ n) (h1 : kc + 1 ≤ M.2.2.2.2.2.2.cells) (h2 : ks + N ≤ M.2.2.2.2.2.2.slots) (k : AW p l e R s m args below meth c E M pm Q (n + 1) (kc + 1) (ks + N) (pc + 3) lv ((2, (n : Int)) :: st) C) : AW p l e R s m args below meth c E M pm Q n kc ks pc lv st C := by
  intro hc H locs ls hR hI hS hlv ol os
  obtain ⟨k1, k2, k3, k4, k5, k6⟩ := kf
  have hn := n_pos hc.2.2.2.2.1 hR hS
  have hK := hc.2.2.2.2.1.1.1 ci _ k1
  refine W.newcK (g := F0 m pc ls (st.map (cv E))) hc.1.1 hc.1.2.1 hc.1.2.2.2.1 (hc.1.2.2.2.2 _ hw.1) (hc.1.2.2.2.2 _ hw.2.1) (hc.1.2.2.2.2 _ hw.2.2) rfl d (by rw [hc.2.2.2.2.2]; exact h1) (by rw [hc.2.2.2.2.2]; exact h2) hK.2.1 hR.1 fun H1 kC hkC e1 z1 o1 => ?_
  have hb := u_born ty hc.1.2.2.2.2 k2 hK hkC e1 k3
  have hat : va_at E.1 CLS (eB E + n, cellE E C n) H1 := by
    rw [cellE_o (by rw [hl]) k6, k5]
    refine ⟨_, k1, hb.to (fun j hj => ?_)⟩
    show defaultValue (ty j) = vp_V _ j
    unfold vp_V
    rw [List.getD_eq_getElem?_getD, List.getElem?_map, List.getElem?_range hj]
    show defaultValue (ty j) = cv E (FTY ci j, C n j)
    rw [hI.2.1 n j (Nat.le_refl n), hdv j hj]
    rcases cv_0 (E := E) (FTY ci j) with h | h
    · exact h.symm
    · have := FTY_lt ci j
      omega
  have kk := k hc H1 locs ls (hR.grow z1 o1 hat) (hI.grow hp) (vaS_grow (b := 0) hS (by rw [z1, hR.1]; omega) (fun q hq => o1 q (by rw [hR.1] at hq; exact hq))) hlv ol (ok_c trivial os)
  rw [List.map_cons, cv_n hn] at kk
  exact kk
theorem ofInt_n {N : Nat} : Int32.ofInt (N : Int) = nI N := rfl
/-- a new array of numbers -/
theorem AW.newaG {kd N t0 : Nat} {at_ : ArrayType} {ty : FieldType} (hty : newarray.typeOf at_ = ty) (hT : (TYS E)[t0]? = some (E.2.1 kd, ty)) (hra : ∀ (U : State) (cA : ClassId), va_RA U cA ty → U.vm.findClass ("[" ++ ty.toString) = some cA) (hwd : Cond.arrayClass ty ∈ lw_g) (d : decode M.2.1 pc = .ok (.newarray at_, 2)) (hN : N ≤ 4000) (hby : N * componentBytes ty ≤ 536870912) (hat : ∀ H1 : Heap, frC C n → H1[eB E + n]? = some (arrV (E.2.1 kd) N (fun _ => defaultValue ty)) → va_at E.1 CLS (eB E + n, cellE E C n) H1) (hp : pm = true → N0 ≤ n) (h1 : kc + 1 ≤ M.2.2.2.2.2.2.cells) (h2 : ks + N ≤ M.2.2.2.2.2.2.slots) (k : AW p l e R s m args below meth c E M pm Q (n + 1) (kc + 1) (ks + N) (pc + 2) lv ((2, (n : Int)) :: st) C) : AW p l e R s m args below meth c E M pm Q n kc ks pc lv ((0, (N : Int)) :: st) C := by
  intro hc H locs ls hR hI hS hlv ol os
  subst hty
  have hn := n_pos hc.2.2.2.2.1 hR hS
  refine va_newaK (g := F0 m pc ls (.int (nI N) :: st.map (cv E))) (n := nI N) (N := N) hc.1.1 hc.1.2.1 (hc.1.2.2.2.2 _ hwd) rfl d rfl (nI_pos (by omega)) (nI_clamp (by omega)) hby (by rw [hc.2.2.2.2.2]; exact h1) (by rw [hc.2.2.2.2.2]; exact h2) hR.1 fun H1 cA e1 z1 o1 hAr hNm => ?_
  have hcA : cA = E.2.1 kd := Option.some.inj (hNm.symm.trans (hra s _ (hc.2.2.2.2.1.1.2 t0 _ hT).2))
  subst hcA
  have kk := k hc H1 locs ls (hR.grow z1 o1 (hat H1 hI.2.1 e1)) (hI.grow hp) (vaS_grow (b := 0) hS (by rw [z1, hR.1]; omega) (fun q hq => o1 q (by rw [hR.1] at hq; exact hq))) hlv ol (ok_c trivial (ok_1 os).2)
  rw [List.map_cons, cv_n hn] at kk
  exact kk
end
