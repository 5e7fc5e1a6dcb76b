/-! my own: the law's beginning: both sides are made -/
def QF (_ : Int) (C5 : Cn) (n5 : Nat) : Prop := n5 = 91 ∧ ptC C5 91 ∧ (∀ b t, 91 ≤ b → C5 b t = 0) ∧ Inv (CGf C5)
def QG (_ : Int) (C5 : Cn) (n5 : Nat) : Prop := n5 = 320 ∧ ptC C5 320 ∧ Inv C5
theorem s_F : P_F_init 2 Z0 1 QF := by
  refine i_F (fun C5 M f5 lm st x11 hp => ⟨rfl, hp, fun b t hb => ?_, i_inv f5 lm st x11⟩)
  rw [f5 b t (by omega) (by omega) (by omega)]
  exact cf_ge hb
theorem s_G {C5 : Cn} (h : QF 0 C5 91) : P_G_init 92 C5 91 QG := i_G0 ⟨rfl, cg_ptC h.2.1 h.2.2.1, h.2.2.2⟩
section
variable {p : Program} {l : Launch} {e : Env} {R : Room} {s : State} {m : MethodId} {args : Array Value} {below : List Frame} {meth : Method} {c : Code} {E : Ev} {nmz : String}
theorem a_start (XS : Nat → Int) (LN : Int) (L : Nat) (hX : SCR E s XS LN) (eL : LN = (L : Int)) (hL : L ≤ 3072) (rX : ∀ j, r32 (XS j)) : AW p l e R s m args below meth c E (M_L_law nmz) false (fun r _ _ => r = 1) 1 0 0 0 [(3, 2), (9, 0), (9, 0), (9, 0)] [] Z0 := by
  refine AW.new (N := 16) kfX9 dvX9 (dc hdl_0 0 rfl) nw_11_7 (by decide +kernel) (fun h => by cases h) (Nat.le_of_ble_eq_true rfl) (Nat.le_of_ble_eq_true rfl) ?_
  refine AW.rdup (dc hdl_0 1 rfl) rfl ?_
  refine AW.callI (As := []) (rest := [(2, 1)]) (x := 1) (m_F_init l E 2 Z0 1 QF s_F) cb_11_9 rfl im_F_init rfl (dc hdl_0 2 rfl) (by decide) rfl rfl ⟨Nat.le_of_ble_eq_true rfl, Nat.le_of_ble_eq_true rfl⟩ ⟨Nat.le_of_ble_eq_true rfl, Nat.le_of_ble_eq_true rfl⟩ (by decide) (fun h => by cases h) (fun h => by cases h) (fun r C5 n5 q => ?_)
  obtain ⟨e5, q2, q3, q4⟩ := q
  subst e5
  show AW p l e R s m args below meth c E (M_L_law nmz) false (fun r _ _ => r = 1) 91 90 5725 7 [(3, 2), (9, 0), (9, 0), (9, 0)] [(2, 1)] C5
  refine AW.rs_n [(3, 2), (2, 1), (9, 0), (9, 0)] (dc hdl_0 3 rfl) (Nat.le_of_ble_eq_true rfl) rfl rfl rfl ?_
  refine AW.new (N := 56) kfX10 dvX10 (dc hdl_0 4 rfl) nw_11_10 (by decide +kernel) (fun h => by cases h) (Nat.le_of_ble_eq_true rfl) (Nat.le_of_ble_eq_true rfl) ?_
  refine AW.rdup (dc hdl_0 5 rfl) rfl ?_
  refine AW.callI (As := []) (rest := [(2, 91)]) (x := 91) (m_G_init l E 92 C5 91 QG (s_G ⟨rfl, q2, q3, q4⟩)) cb_11_12 rfl im_G_init rfl (dc hdl_0 6 rfl) (by decide) rfl rfl ⟨Nat.le_of_ble_eq_true rfl, Nat.le_of_ble_eq_true rfl⟩ ⟨Nat.le_of_ble_eq_true rfl, Nat.le_of_ble_eq_true rfl⟩ (by decide) (fun h => by cases h) (fun h => by cases h) (fun r C6 n6 q => ?_)
  obtain ⟨e6, p2, p3⟩ := q
  subst e6
  show AW p l e R s m args below meth c E (M_L_law nmz) false (fun r _ _ => r = 1) 320 319 43283 15 [(3, 2), (2, 1), (9, 0), (9, 0)] [(2, 91)] C6
  refine AW.rs_n [(3, 2), (2, 1), (2, 91), (9, 0)] (dc hdl_0 7 rfl) (Nat.le_of_ble_eq_true rfl) rfl rfl rfl ?_
  refine AW.up p2 ?_
  exact aE_L_law XS LN hX 320 C6 319 43283 2 1 91 _ (c_law eL hL rX (Nat.le_refl 320) p3 (by decide) (by decide))
end
