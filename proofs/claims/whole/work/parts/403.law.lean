section
variable {p : Program} {l : Launch} {e : Env} {R : Room} {s : State} {m : MethodId} {args : Array Value} {below : List Frame} {meth : Method} {c : Code} {E : Ev} {nmz : String}
def B_L_law_18 (XS : Nat → Int) (LN : Int) (v0 v1 v2 : Int) (Q : Int → Cn → Nat → Prop) (kz18 : Cn × Nat × Nat × Nat × Int → Prop) (z : Cn × Nat × Nat × Nat × Int) : Prop := match z with
  | (C, n, kc, ks, v3) => v0 = 2 ∧ ((w32 (LN - 6) < v3 → (kc ≤ 600000 ∧ (ks ≤ 7302250 ∧ (Q 1 C n)))) ∧ (¬ w32 (LN - 6) < v3 → (0 ≤ v3 ∧ (v3 < LN ∧ ((and32 (XS v3.toNat) 63 = 0 → (0 ≤ w32 (v3 + 1) ∧ (w32 (v3 + 1) < LN ∧ (0 ≤ w32 (v3 + 2) ∧ (w32 (v3 + 2) < LN ∧ (0 ≤ w32 (v3 + 3) ∧ (w32 (v3 + 3) < LN ∧ (0 ≤ w32 (v3 + 4) ∧ (w32 (v3 + 4) < LN ∧ (0 ≤ w32 (v3 + 5) ∧ (w32 (v3 + 5) < LN ∧ (okO n v1 9 ∧ (kc ≤ 600000 ∧ (ks ≤ 7302250 ∧ ((P_F_segment n C v1 (XS (w32 (v3 + 1)).toNat) (XS (w32 (v3 + 2)).toNat) (XS (w32 (v3 + 3)).toNat) (XS (w32 (v3 + 4)).toNat) (XS (w32 (v3 + 5)).toNat) (fun (r1 : Int) (C1 : Cn) => P_G_segment n C1 v2 (XS (w32 (v3 + 1)).toNat) (XS (w32 (v3 + 2)).toNat) (XS (w32 (v3 + 3)).toNat) (XS (w32 (v3 + 4)).toNat) (XS (w32 (v3 + 5)).toNat) (fun (r2 : Int) (C2 : Cn) => r1 = r2 ∧ Inv C2))) ∧ (okO n v2 10 ∧ (∀ C2 : Cn, Inv C2 → (kz18 (C2, n, kc, ks, w32 (v3 + 6)))))))))))))))))))) ∧ (and32 (XS v3.toNat) 63 = 1 → (0 ≤ w32 (v3 + 1) ∧ (w32 (v3 + 1) < LN ∧ (0 ≤ w32 (v3 + 2) ∧ (w32 (v3 + 2) < LN ∧ (0 ≤ w32 (v3 + 3) ∧ (w32 (v3 + 3) < LN ∧ (0 ≤ w32 (v3 + 4) ∧ (w32 (v3 + 4) < LN ∧ (0 ≤ w32 (v3 + 5) ∧ (w32 (v3 + 5) < LN ∧ (okO n v1 9 ∧ (kc ≤ 600000 ∧ (ks ≤ 7302250 ∧ ((P_F_move n C v1 (XS (w32 (v3 + 1)).toNat) (XS (w32 (v3 + 2)).toNat) (XS (w32 (v3 + 3)).toNat) (XS (w32 (v3 + 4)).toNat) (XS (w32 (v3 + 5)).toNat) (fun (r1 : Int) (C1 : Cn) => P_G_move n C1 v2 (XS (w32 (v3 + 1)).toNat) (XS (w32 (v3 + 2)).toNat) (XS (w32 (v3 + 3)).toNat) (XS (w32 (v3 + 4)).toNat) (XS (w32 (v3 + 5)).toNat) (fun (r2 : Int) (C2 : Cn) => r1 = r2 ∧ Inv C2))) ∧ (okO n v2 10 ∧ (∀ C2 : Cn, Inv C2 → (kz18 (C2, n, kc, ks, w32 (v3 + 6)))))))))))))))))))) ∧ (and32 (XS v3.toNat) 63 = 2 → (0 ≤ w32 (v3 + 1) ∧ (w32 (v3 + 1) < LN ∧ (0 ≤ w32 (v3 + 2) ∧ (w32 (v3 + 2) < LN ∧ (okO n v1 9 ∧ (kc ≤ 600000 ∧ (ks ≤ 7302250 ∧ ((P_F_become n C v1 (XS (w32 (v3 + 1)).toNat) (XS (w32 (v3 + 2)).toNat) (fun (r1 : Int) (C1 : Cn) => P_G_become n C1 v2 (XS (w32 (v3 + 1)).toNat) (XS (w32 (v3 + 2)).toNat) (fun (r2 : Int) (C2 : Cn) => r1 = r2 ∧ Inv C2))) ∧ (okO n v2 10 ∧ (∀ C2 : Cn, Inv C2 → (kz18 (C2, n, kc, ks, w32 (v3 + 6)))))))))))))) ∧ (and32 (XS v3.toNat) 63 = 3 → (okO n v1 9 ∧ (kc ≤ 600000 ∧ (ks ≤ 7302250 ∧ ((P_F_drop n C v1  (fun (r1 : Int) (C1 : Cn) => P_G_drop n C1 v2  (fun (r2 : Int) (C2 : Cn) => r1 = r2 ∧ Inv C2))) ∧ (okO n v2 10 ∧ (∀ C2 : Cn, Inv C2 → (kz18 (C2, n, kc, ks, w32 (v3 + 6)))))))))) ∧ (and32 (XS v3.toNat) 63 = 4 → (0 ≤ w32 (v3 + 1) ∧ (w32 (v3 + 1) < LN ∧ (0 ≤ w32 (v3 + 2) ∧ (w32 (v3 + 2) < LN ∧ (okO n v1 9 ∧ (kc ≤ 600000 ∧ (ks ≤ 7302250 ∧ ((P_F_of n C v1 (XS (w32 (v3 + 1)).toNat) (XS (w32 (v3 + 2)).toNat) (fun (r1 : Int) (C1 : Cn) => P_G_of n C1 v2 (XS (w32 (v3 + 1)).toNat) (XS (w32 (v3 + 2)).toNat) (fun (r2 : Int) (C2 : Cn) => r1 = r2 ∧ Inv C2))) ∧ (okO n v2 10 ∧ (∀ C2 : Cn, Inv C2 → (kz18 (C2, n, kc, ks, w32 (v3 + 6)))))))))))))) ∧ (and32 (XS v3.toNat) 63 = 5 → (0 ≤ w32 (v3 + 1) ∧ (w32 (v3 + 1) < LN ∧ (okO n v1 9 ∧ (kc ≤ 600000 ∧ (ks ≤ 7302250 ∧ ((P_F_tide n C v1 (XS (w32 (v3 + 1)).toNat) (fun (r1 : Int) (C1 : Cn) => P_G_tide n C1 v2 (XS (w32 (v3 + 1)).toNat) (fun (r2 : Int) (C2 : Cn) => r1 = r2 ∧ Inv C2))) ∧ (okO n v2 10 ∧ (∀ C2 : Cn, Inv C2 → (kz18 (C2, n, kc, ks, w32 (v3 + 6)))))))))))) ∧ (and32 (XS v3.toNat) 63 = 6 → (0 ≤ w32 (v3 + 1) ∧ (w32 (v3 + 1) < LN ∧ (okO n v1 9 ∧ (kc ≤ 600000 ∧ (ks ≤ 7302250 ∧ ((P_F_blame n C v1 (XS (w32 (v3 + 1)).toNat) (fun (r1 : Int) (C1 : Cn) => P_G_blame n C1 v2 (XS (w32 (v3 + 1)).toNat) (fun (r2 : Int) (C2 : Cn) => r1 = r2 ∧ Inv C2))) ∧ (okO n v2 10 ∧ (∀ C2 : Cn, Inv C2 → (kz18 (C2, n, kc, ks, w32 (v3 + 6)))))))))))) ∧ (and32 (XS v3.toNat) 63 = 7 → (0 ≤ w32 (v3 + 1) ∧ (w32 (v3 + 1) < LN ∧ (okO n v1 9 ∧ (kc ≤ 600000 ∧ (ks ≤ 7302250 ∧ ((P_F_many n C v1 (XS (w32 (v3 + 1)).toNat) (fun (r1 : Int) (C1 : Cn) => P_G_many n C1 v2 (XS (w32 (v3 + 1)).toNat) (fun (r2 : Int) (C2 : Cn) => r1 = r2 ∧ Inv C2))) ∧ (okO n v2 10 ∧ (∀ C2 : Cn, Inv C2 → (kz18 (C2, n, kc, ks, w32 (v3 + 6)))))))))))) ∧ (and32 (XS v3.toNat) 63 = 8 → (0 ≤ w32 (v3 + 1) ∧ (w32 (v3 + 1) < LN ∧ (0 ≤ w32 (v3 + 2) ∧ (w32 (v3 + 2) < LN ∧ (okO n v1 9 ∧ (kc ≤ 600000 ∧ (ks ≤ 7302250 ∧ ((P_F_end n C v1 (XS (w32 (v3 + 1)).toNat) (XS (w32 (v3 + 2)).toNat) (fun (r1 : Int) (C1 : Cn) => P_G_end n C1 v2 (XS (w32 (v3 + 1)).toNat) (XS (w32 (v3 + 2)).toNat) (fun (r2 : Int) (C2 : Cn) => r1 = r2 ∧ Inv C2))) ∧ (okO n v2 10 ∧ (∀ C2 : Cn, Inv C2 → (kz18 (C2, n, kc, ks, w32 (v3 + 6)))))))))))))) ∧ (and32 (XS v3.toNat) 63 = 9 → (0 ≤ w32 (v3 + 1) ∧ (w32 (v3 + 1) < LN ∧ (0 ≤ w32 (v3 + 2) ∧ (w32 (v3 + 2) < LN ∧ (okO n v1 9 ∧ (kc ≤ 600000 ∧ (ks ≤ 7302250 ∧ ((P_F_field n C v1 (XS (w32 (v3 + 1)).toNat) (XS (w32 (v3 + 2)).toNat) (fun (r1 : Int) (C1 : Cn) => P_G_field n C1 v2 (XS (w32 (v3 + 1)).toNat) (XS (w32 (v3 + 2)).toNat) (fun (r2 : Int) (C2 : Cn) => r1 = r2 ∧ Inv C2))) ∧ (okO n v2 10 ∧ (∀ C2 : Cn, Inv C2 → (kz18 (C2, n, kc, ks, w32 (v3 + 6)))))))))))))) ∧ (and32 (XS v3.toNat) 63 = 10 → (0 ≤ w32 (v3 + 1) ∧ (w32 (v3 + 1) < LN ∧ (0 ≤ w32 (v3 + 2) ∧ (w32 (v3 + 2) < LN ∧ (okO n v1 9 ∧ (kc ≤ 600000 ∧ (ks ≤ 7302250 ∧ ((P_F_at n C v1 (XS (w32 (v3 + 1)).toNat) (XS (w32 (v3 + 2)).toNat) (fun (r1 : Int) (C1 : Cn) => P_G_at n C1 v2 (XS (w32 (v3 + 1)).toNat) (XS (w32 (v3 + 2)).toNat) (fun (r2 : Int) (C2 : Cn) => r1 = r2 ∧ Inv C2))) ∧ (okO n v2 10 ∧ (∀ C2 : Cn, Inv C2 → (kz18 (C2, n, kc, ks, w32 (v3 + 6)))))))))))))) ∧ (and32 (XS v3.toNat) 63 = 11 → (0 ≤ w32 (v3 + 1) ∧ (w32 (v3 + 1) < LN ∧ (0 ≤ w32 (v3 + 2) ∧ (w32 (v3 + 2) < LN ∧ (0 ≤ w32 (v3 + 3) ∧ (w32 (v3 + 3) < LN ∧ (okO n v1 9 ∧ (kc ≤ 600000 ∧ (ks ≤ 7302250 ∧ ((P_F_near n C v1 (XS (w32 (v3 + 1)).toNat) (XS (w32 (v3 + 2)).toNat) (XS (w32 (v3 + 3)).toNat) (fun (r1 : Int) (C1 : Cn) => P_G_near n C1 v2 (XS (w32 (v3 + 1)).toNat) (XS (w32 (v3 + 2)).toNat) (XS (w32 (v3 + 3)).toNat) (fun (r2 : Int) (C2 : Cn) => r1 = r2 ∧ Inv C2))) ∧ (okO n v2 10 ∧ (∀ C2 : Cn, Inv C2 → (kz18 (C2, n, kc, ks, w32 (v3 + 6)))))))))))))))) ∧ (and32 (XS v3.toNat) 63 = 12 → (0 ≤ w32 (v3 + 1) ∧ (w32 (v3 + 1) < LN ∧ (0 ≤ w32 (v3 + 2) ∧ (w32 (v3 + 2) < LN ∧ (0 ≤ w32 (v3 + 3) ∧ (w32 (v3 + 3) < LN ∧ (0 ≤ w32 (v3 + 4) ∧ (w32 (v3 + 4) < LN ∧ (okO n v1 9 ∧ (kc ≤ 600000 ∧ (ks ≤ 7302250 ∧ ((P_F_sight n C v1 (XS (w32 (v3 + 1)).toNat) (XS (w32 (v3 + 2)).toNat) (XS (w32 (v3 + 3)).toNat) (XS (w32 (v3 + 4)).toNat) (fun (r1 : Int) (C1 : Cn) => P_G_sight n C1 v2 (XS (w32 (v3 + 1)).toNat) (XS (w32 (v3 + 2)).toNat) (XS (w32 (v3 + 3)).toNat) (XS (w32 (v3 + 4)).toNat) (fun (r2 : Int) (C2 : Cn) => r1 = r2 ∧ Inv C2))) ∧ (okO n v2 10 ∧ (∀ C2 : Cn, Inv C2 → (kz18 (C2, n, kc, ks, w32 (v3 + 6)))))))))))))))))) ∧ (and32 (XS v3.toNat) 63 = 13 → (0 ≤ w32 (v3 + 1) ∧ (w32 (v3 + 1) < LN ∧ (0 ≤ w32 (v3 + 2) ∧ (w32 (v3 + 2) < LN ∧ (okO n v1 9 ∧ (kc ≤ 600000 ∧ (ks ≤ 7302250 ∧ ((P_F_steps n C v1 (XS (w32 (v3 + 1)).toNat) (XS (w32 (v3 + 2)).toNat) (fun (r1 : Int) (C1 : Cn) => P_G_steps n C1 v2 (XS (w32 (v3 + 1)).toNat) (XS (w32 (v3 + 2)).toNat) (fun (r2 : Int) (C2 : Cn) => r1 = r2 ∧ Inv C2))) ∧ (okO n v2 10 ∧ (∀ C2 : Cn, Inv C2 → (kz18 (C2, n, kc, ks, w32 (v3 + 6)))))))))))))) ∧ (and32 (XS v3.toNat) 63 = 14 → (0 ≤ w32 (v3 + 1) ∧ (w32 (v3 + 1) < LN ∧ (okO n v1 9 ∧ (kc ≤ 600000 ∧ (ks ≤ 7302250 ∧ ((P_F_depth n C v1 (XS (w32 (v3 + 1)).toNat) (fun (r1 : Int) (C1 : Cn) => P_G_depth n C1 v2 (XS (w32 (v3 + 1)).toNat) (fun (r2 : Int) (C2 : Cn) => r1 = r2 ∧ Inv C2))) ∧ (okO n v2 10 ∧ (∀ C2 : Cn, Inv C2 → (kz18 (C2, n, kc, ks, w32 (v3 + 6)))))))))))) ∧ (and32 (XS v3.toNat) 63 = 15 → (0 ≤ w32 (v3 + 1) ∧ (w32 (v3 + 1) < LN ∧ (0 ≤ w32 (v3 + 2) ∧ (w32 (v3 + 2) < LN ∧ (okO n v1 9 ∧ (kc ≤ 600000 ∧ (ks ≤ 7302250 ∧ ((P_F_ordered n C v1 (XS (w32 (v3 + 1)).toNat) (XS (w32 (v3 + 2)).toNat) (fun (r1 : Int) (C1 : Cn) => P_G_ordered n C1 v2 (XS (w32 (v3 + 1)).toNat) (XS (w32 (v3 + 2)).toNat) (fun (r2 : Int) (C2 : Cn) => r1 = r2 ∧ Inv C2))) ∧ (okO n v2 10 ∧ (∀ C2 : Cn, Inv C2 → (kz18 (C2, n, kc, ks, w32 (v3 + 6)))))))))))))) ∧ (and32 (XS v3.toNat) 63 = 16 → (okO n v1 9 ∧ (kc ≤ 600000 ∧ (ks ≤ 7302250 ∧ ((P_F_best n C v1  (fun (r1 : Int) (C1 : Cn) => P_G_best n C1 v2  (fun (r2 : Int) (C2 : Cn) => r1 = r2 ∧ Inv C2))) ∧ (okO n v2 10 ∧ (∀ C2 : Cn, Inv C2 → (kz18 (C2, n, kc, ks, w32 (v3 + 6)))))))))) ∧ (and32 (XS v3.toNat) 63 = 17 → (0 ≤ w32 (v3 + 1) ∧ (w32 (v3 + 1) < LN ∧ (okO n v1 9 ∧ (kc ≤ 600000 ∧ (ks ≤ 7302250 ∧ ((P_F_renumber n C v1 (XS (w32 (v3 + 1)).toNat) (fun (r1 : Int) (C1 : Cn) => P_G_renumber n C1 v2 (XS (w32 (v3 + 1)).toNat) (fun (r2 : Int) (C2 : Cn) => r1 = r2 ∧ Inv C2))) ∧ (okO n v2 10 ∧ (∀ C2 : Cn, Inv C2 → (kz18 (C2, n, kc, ks, w32 (v3 + 6)))))))))))) ∧ (and32 (XS v3.toNat) 63 = 18 → (0 ≤ w32 (v3 + 1) ∧ (w32 (v3 + 1) < LN ∧ (0 ≤ w32 (v3 + 2) ∧ (w32 (v3 + 2) < LN ∧ (okO n v1 9 ∧ (kc ≤ 600000 ∧ (ks ≤ 7302250 ∧ ((P_F_cost n C v1 (XS (w32 (v3 + 1)).toNat) (XS (w32 (v3 + 2)).toNat) (fun (r1 : Int) (C1 : Cn) => P_G_cost n C1 v2 (XS (w32 (v3 + 1)).toNat) (XS (w32 (v3 + 2)).toNat) (fun (r2 : Int) (C2 : Cn) => r1 = r2 ∧ Inv C2))) ∧ (okO n v2 10 ∧ (∀ C2 : Cn, Inv C2 → (kz18 (C2, n, kc, ks, w32 (v3 + 6)))))))))))))) ∧ (and32 (XS v3.toNat) 63 = 19 → (0 ≤ w32 (v3 + 1) ∧ (w32 (v3 + 1) < LN ∧ (0 ≤ w32 (v3 + 2) ∧ (w32 (v3 + 2) < LN ∧ (okO n v1 9 ∧ (kc ≤ 600000 ∧ (ks ≤ 7302250 ∧ ((P_F_next n C v1 (XS (w32 (v3 + 1)).toNat) (XS (w32 (v3 + 2)).toNat) (fun (r1 : Int) (C1 : Cn) => P_G_next n C1 v2 (XS (w32 (v3 + 1)).toNat) (XS (w32 (v3 + 2)).toNat) (fun (r2 : Int) (C2 : Cn) => r1 = r2 ∧ Inv C2))) ∧ (okO n v2 10 ∧ (∀ C2 : Cn, Inv C2 → (kz18 (C2, n, kc, ks, w32 (v3 + 6)))))))))))))) ∧ (and32 (XS v3.toNat) 63 = 20 → (0 ≤ w32 (v3 + 1) ∧ (w32 (v3 + 1) < LN ∧ (0 ≤ w32 (v3 + 2) ∧ (w32 (v3 + 2) < LN ∧ (okO n v1 9 ∧ (kc ≤ 600000 ∧ (ks ≤ 7302250 ∧ ((P_F_within n C v1 (XS (w32 (v3 + 1)).toNat) (XS (w32 (v3 + 2)).toNat) (fun (r1 : Int) (C1 : Cn) => P_G_within n C1 v2 (XS (w32 (v3 + 1)).toNat) (XS (w32 (v3 + 2)).toNat) (fun (r2 : Int) (C2 : Cn) => r1 = r2 ∧ Inv C2))) ∧ (okO n v2 10 ∧ (∀ C2 : Cn, Inv C2 → (kz18 (C2, n, kc, ks, w32 (v3 + 6)))))))))))))) ∧ (and32 (XS v3.toNat) 63 = 21 → (0 ≤ w32 (v3 + 1) ∧ (w32 (v3 + 1) < LN ∧ (0 ≤ w32 (v3 + 2) ∧ (w32 (v3 + 2) < LN ∧ (0 ≤ w32 (v3 + 3) ∧ (w32 (v3 + 3) < LN ∧ (0 ≤ w32 (v3 + 4) ∧ (w32 (v3 + 4) < LN ∧ (okO n v1 9 ∧ (kc ≤ 600000 ∧ (ks ≤ 7302250 ∧ ((P_F_lose n C v1 (XS (w32 (v3 + 1)).toNat) (XS (w32 (v3 + 2)).toNat) (XS (w32 (v3 + 3)).toNat) (XS (w32 (v3 + 4)).toNat) (fun (r1 : Int) (C1 : Cn) => P_G_lose n C1 v2 (XS (w32 (v3 + 1)).toNat) (XS (w32 (v3 + 2)).toNat) (XS (w32 (v3 + 3)).toNat) (XS (w32 (v3 + 4)).toNat) (fun (r2 : Int) (C2 : Cn) => r1 = r2 ∧ Inv C2))) ∧ (okO n v2 10 ∧ (∀ C2 : Cn, Inv C2 → (kz18 (C2, n, kc, ks, w32 (v3 + 6)))))))))))))))))) ∧ (and32 (XS v3.toNat) 63 = 22 → (0 ≤ w32 (v3 + 1) ∧ (w32 (v3 + 1) < LN ∧ (0 ≤ w32 (v3 + 2) ∧ (w32 (v3 + 2) < LN ∧ (0 ≤ w32 (v3 + 3) ∧ (w32 (v3 + 3) < LN ∧ (0 ≤ w32 (v3 + 4) ∧ (w32 (v3 + 4) < LN ∧ (0 ≤ w32 (v3 + 5) ∧ (w32 (v3 + 5) < LN ∧ (okO n v1 9 ∧ (kc ≤ 600000 ∧ (ks ≤ 7302250 ∧ ((P_F_kindFor n C v1 (XS (w32 (v3 + 1)).toNat) (XS (w32 (v3 + 2)).toNat) (XS (w32 (v3 + 3)).toNat) (XS (w32 (v3 + 4)).toNat) (XS (w32 (v3 + 5)).toNat) (fun (r1 : Int) (C1 : Cn) => P_G_kindFor n C1 v2 (XS (w32 (v3 + 1)).toNat) (XS (w32 (v3 + 2)).toNat) (XS (w32 (v3 + 3)).toNat) (XS (w32 (v3 + 4)).toNat) (XS (w32 (v3 + 5)).toNat) (fun (r2 : Int) (C2 : Cn) => r1 = r2 ∧ Inv C2))) ∧ (okO n v2 10 ∧ (∀ C2 : Cn, Inv C2 → (kz18 (C2, n, kc, ks, w32 (v3 + 6)))))))))))))))))))) ∧ (and32 (XS v3.toNat) 63 = 23 → (0 ≤ w32 (v3 + 1) ∧ (w32 (v3 + 1) < LN ∧ (0 ≤ w32 (v3 + 2) ∧ (w32 (v3 + 2) < LN ∧ (okO n v1 9 ∧ (kc ≤ 600000 ∧ (ks ≤ 7302250 ∧ ((P_F_asks n C v1 (XS (w32 (v3 + 1)).toNat) (XS (w32 (v3 + 2)).toNat) (fun (r1 : Int) (C1 : Cn) => P_G_asks n C1 v2 (XS (w32 (v3 + 1)).toNat) (XS (w32 (v3 + 2)).toNat) (fun (r2 : Int) (C2 : Cn) => r1 = r2 ∧ Inv C2))) ∧ (okO n v2 10 ∧ (∀ C2 : Cn, Inv C2 → (kz18 (C2, n, kc, ks, w32 (v3 + 6)))))))))))))) ∧ (and32 (XS v3.toNat) 63 = 24 → (0 ≤ w32 (v3 + 1) ∧ (w32 (v3 + 1) < LN ∧ (okO n v1 9 ∧ (kc ≤ 600000 ∧ (ks ≤ 7302250 ∧ ((P_F_loose n C v1 (XS (w32 (v3 + 1)).toNat) (fun (r1 : Int) (C1 : Cn) => P_G_loose n C1 v2 (XS (w32 (v3 + 1)).toNat) (fun (r2 : Int) (C2 : Cn) => r1 = r2 ∧ Inv C2))) ∧ (okO n v2 10 ∧ (∀ C2 : Cn, Inv C2 → (kz18 (C2, n, kc, ks, w32 (v3 + 6)))))))))))) ∧ (and32 (XS v3.toNat) 63 = 25 → (0 ≤ w32 (v3 + 1) ∧ (w32 (v3 + 1) < LN ∧ (0 ≤ w32 (v3 + 2) ∧ (w32 (v3 + 2) < LN ∧ (0 ≤ w32 (v3 + 3) ∧ (w32 (v3 + 3) < LN ∧ (okO n v1 9 ∧ (kc ≤ 600000 ∧ (ks ≤ 7302250 ∧ ((P_F_book n C v1 (XS (w32 (v3 + 1)).toNat) (or64 (shl64 (XS (w32 (v3 + 2)).toNat) 32) (and64 (XS (w32 (v3 + 3)).toNat) 4294967295)) (fun (r1 : Int) (C1 : Cn) => P_G_book n C1 v2 (XS (w32 (v3 + 1)).toNat) (or64 (shl64 (XS (w32 (v3 + 2)).toNat) 32) (and64 (XS (w32 (v3 + 3)).toNat) 4294967295)) (fun (r2 : Int) (C2 : Cn) => r1 = r2 ∧ Inv C2))) ∧ (okO n v2 10 ∧ (∀ C2 : Cn, Inv C2 → (kz18 (C2, n, kc, ks, w32 (v3 + 6)))))))))))))))) ∧ (and32 (XS v3.toNat) 63 = 26 → (0 ≤ w32 (v3 + 1) ∧ (w32 (v3 + 1) < LN ∧ (okO n v1 9 ∧ (kc ≤ 600000 ∧ (ks ≤ 7302250 ∧ ((P_F_seed n C v1 (XS (w32 (v3 + 1)).toNat) (fun (r1 : Int) (C1 : Cn) => P_G_seed n C1 v2 (XS (w32 (v3 + 1)).toNat) (fun (r2 : Int) (C2 : Cn) => r1 = r2 ∧ Inv C2))) ∧ (okO n v2 10 ∧ (∀ C2 : Cn, Inv C2 → (kz18 (C2, n, kc, ks, w32 (v3 + 6)))))))))))) ∧ (and32 (XS v3.toNat) 63 = 27 → (okO n v1 9 ∧ (kc ≤ 600000 ∧ (ks ≤ 7302250 ∧ ((P_F_prove n C v1  (fun (r1 : Int) (C1 : Cn) => P_G_prove n C1 v2  (fun (r2 : Int) (C2 : Cn) => r1 = r2 ∧ Inv C2))) ∧ (okO n v2 10 ∧ (∀ C2 : Cn, Inv C2 → (kz18 (C2, n, kc, ks, w32 (v3 + 6)))))))))) ∧ (and32 (XS v3.toNat) 63 = 28 → (0 ≤ w32 (v3 + 1) ∧ (w32 (v3 + 1) < LN ∧ (0 ≤ w32 (v3 + 2) ∧ (w32 (v3 + 2) < LN ∧ (okO n v1 9 ∧ (kc ≤ 600000 ∧ (ks ≤ 7302250 ∧ ((P_F_row n C v1 (XS (w32 (v3 + 1)).toNat) (XS (w32 (v3 + 2)).toNat) (fun (r1 : Int) (C1 : Cn) => P_G_row n C1 v2 (XS (w32 (v3 + 1)).toNat) (XS (w32 (v3 + 2)).toNat) (fun (r2 : Int) (C2 : Cn) => r1 = r2 ∧ Inv C2))) ∧ (okO n v2 10 ∧ (∀ C2 : Cn, Inv C2 → (kz18 (C2, n, kc, ks, w32 (v3 + 6)))))))))))))) ∧ (and32 (XS v3.toNat) 63 = 29 → (0 ≤ w32 (v3 + 1) ∧ (w32 (v3 + 1) < LN ∧ (0 ≤ w32 (v3 + 2) ∧ (w32 (v3 + 2) < LN ∧ (0 ≤ w32 (v3 + 3) ∧ (w32 (v3 + 3) < LN ∧ (okO n v1 9 ∧ (kc ≤ 600000 ∧ (ks ≤ 7302250 ∧ ((P_F_alter n C v1 (XS (w32 (v3 + 1)).toNat) (XS (w32 (v3 + 2)).toNat) (XS (w32 (v3 + 3)).toNat) (fun (r1 : Int) (C1 : Cn) => P_G_alter n C1 v2 (XS (w32 (v3 + 1)).toNat) (XS (w32 (v3 + 2)).toNat) (XS (w32 (v3 + 3)).toNat) (fun (r2 : Int) (C2 : Cn) => r1 = r2 ∧ Inv C2))) ∧ (okO n v2 10 ∧ (∀ C2 : Cn, Inv C2 → (kz18 (C2, n, kc, ks, w32 (v3 + 6)))))))))))))))) ∧ (and32 (XS v3.toNat) 63 = 30 → (okO n v1 9 ∧ (kc ≤ 600000 ∧ (ks ≤ 7302250 ∧ ((P_F_judge n C v1  (fun (r1 : Int) => P_G_judge n C v2  (fun (r2 : Int) (C2 : Cn) => r1 = r2 ∧ Inv C2))) ∧ (okO n v2 10 ∧ (∀ C2 : Cn, Inv C2 → (kz18 (C2, n, kc, ks, w32 (v3 + 6)))))))))) ∧ (and32 (XS v3.toNat) 63 = 31 → (0 ≤ w32 (v3 + 1) ∧ (w32 (v3 + 1) < LN ∧ (0 ≤ w32 (v3 + 2) ∧ (w32 (v3 + 2) < LN ∧ (okO n v1 9 ∧ (kc ≤ 600000 ∧ (ks ≤ 7302250 ∧ ((P_F_feed n C v1 (XS (w32 (v3 + 1)).toNat) (XS (w32 (v3 + 2)).toNat) (fun (r1 : Int) (C1 : Cn) => P_G_feed n C1 v2 (XS (w32 (v3 + 1)).toNat) (XS (w32 (v3 + 2)).toNat) (fun (r2 : Int) (C2 : Cn) => r1 = r2 ∧ Inv C2))) ∧ (okO n v2 10 ∧ (∀ C2 : Cn, Inv C2 → (kz18 (C2, n, kc, ks, w32 (v3 + 6)))))))))))))) ∧ (and32 (XS v3.toNat) 63 = 32 → (okO n v1 9 ∧ (kc ≤ 600000 ∧ (ks ≤ 7302250 ∧ ((P_F_wipe n C v1  (fun (r1 : Int) (C1 : Cn) => P_G_wipe n C1 v2  (fun (r2 : Int) (C2 : Cn) => r1 = r2 ∧ Inv C2))) ∧ (okO n v2 10 ∧ (∀ C2 : Cn, Inv C2 → (kz18 (C2, n, kc, ks, w32 (v3 + 6)))))))))) ∧ (and32 (XS v3.toNat) 63 = 33 → (okO n v1 9 ∧ (kc ≤ 600000 ∧ (ks ≤ 7302250 ∧ ((P_F_text n C v1  (fun (r1 : Int) (C1 : Cn) => P_G_text n C1 v2  (fun (r2 : Int) (C2 : Cn) (n2 : Nat) => r1 = r2 ∧ Inv C2 ∧ n ≤ n2))) ∧ (okO n v2 10 ∧ ((kc + 130) ≤ 600000 ∧ ((ks + 780) ≤ 7302250 ∧ (∀ (C2 : Cn) (n2 : Nat), Inv C2 → n ≤ n2 → (kz18 (C2, n2, (kc + 130), (ks + 780), w32 (v3 + 6)))))))))))) ∧ (and32 (XS v3.toNat) 63 = 34 → (0 ≤ w32 (v3 + 1) ∧ (w32 (v3 + 1) < LN ∧ (0 ≤ w32 (v3 + 2) ∧ (w32 (v3 + 2) < LN ∧ (0 ≤ w32 (v3 + 3) ∧ (w32 (v3 + 3) < LN ∧ (okO n v1 9 ∧ (kc ≤ 600000 ∧ (ks ≤ 7302250 ∧ ((P_F_sheet n C v1 (XS (w32 (v3 + 1)).toNat) (XS (w32 (v3 + 2)).toNat) (XS (w32 (v3 + 3)).toNat) (fun (r1 : Int) (C1 : Cn) => P_G_sheet n C1 v2 (XS (w32 (v3 + 1)).toNat) (XS (w32 (v3 + 2)).toNat) (XS (w32 (v3 + 3)).toNat) (fun (r2 : Int) (C2 : Cn) => r1 = r2 ∧ Inv C2))) ∧ (okO n v2 10 ∧ (∀ C2 : Cn, Inv C2 → (kz18 (C2, n, kc, ks, w32 (v3 + 6)))))))))))))))) ∧ (and32 (XS v3.toNat) 63 = 35 → (0 ≤ w32 (v3 + 1) ∧ (w32 (v3 + 1) < LN ∧ (0 ≤ w32 (v3 + 2) ∧ (w32 (v3 + 2) < LN ∧ (0 ≤ w32 (v3 + 3) ∧ (w32 (v3 + 3) < LN ∧ (0 ≤ w32 (v3 + 4) ∧ (w32 (v3 + 4) < LN ∧ (okO n v1 9 ∧ (kc ≤ 600000 ∧ (ks ≤ 7302250 ∧ ((P_F_write n C v1 (XS (w32 (v3 + 1)).toNat) (XS (w32 (v3 + 2)).toNat) (or64 (shl64 (XS (w32 (v3 + 3)).toNat) 32) (and64 (XS (w32 (v3 + 4)).toNat) 4294967295)) (fun (r1 : Int) (C1 : Cn) => P_G_write n C1 v2 (XS (w32 (v3 + 1)).toNat) (XS (w32 (v3 + 2)).toNat) (or64 (shl64 (XS (w32 (v3 + 3)).toNat) 32) (and64 (XS (w32 (v3 + 4)).toNat) 4294967295)) (fun (r2 : Int) (C2 : Cn) => r1 = r2 ∧ Inv C2))) ∧ (okO n v2 10 ∧ (∀ C2 : Cn, Inv C2 → (kz18 (C2, n, kc, ks, w32 (v3 + 6)))))))))))))))))) ∧ (and32 (XS v3.toNat) 63 = 36 → (0 ≤ w32 (v3 + 1) ∧ (w32 (v3 + 1) < LN ∧ (0 ≤ w32 (v3 + 2) ∧ (w32 (v3 + 2) < LN ∧ (okO n v1 9 ∧ (kc ≤ 600000 ∧ (ks ≤ 7302250 ∧ ((P_F_item n C v1 (XS (w32 (v3 + 1)).toNat) (XS (w32 (v3 + 2)).toNat) (fun (r1 : Int) (C1 : Cn) => P_G_item n C1 v2 (XS (w32 (v3 + 1)).toNat) (XS (w32 (v3 + 2)).toNat) (fun (r2 : Int) (C2 : Cn) => r1 = r2 ∧ Inv C2))) ∧ (okO n v2 10 ∧ (∀ C2 : Cn, Inv C2 → (kz18 (C2, n, kc, ks, w32 (v3 + 6)))))))))))))) ∧ (and32 (XS v3.toNat) 63 = 37 → (0 ≤ w32 (v3 + 1) ∧ (w32 (v3 + 1) < LN ∧ (0 ≤ w32 (v3 + 2) ∧ (w32 (v3 + 2) < LN ∧ (0 ≤ w32 (v3 + 3) ∧ (w32 (v3 + 3) < LN ∧ (0 ≤ w32 (v3 + 4) ∧ (w32 (v3 + 4) < LN ∧ (0 ≤ w32 (v3 + 5) ∧ (w32 (v3 + 5) < LN ∧ (okO n v1 9 ∧ (kc ≤ 600000 ∧ (ks ≤ 7302250 ∧ ((P_F_copy n C v1 (XS (w32 (v3 + 1)).toNat) (XS (w32 (v3 + 2)).toNat) (XS (w32 (v3 + 3)).toNat) (XS (w32 (v3 + 4)).toNat) (XS (w32 (v3 + 5)).toNat) (fun (r1 : Int) (C1 : Cn) => P_G_copy n C1 v2 (XS (w32 (v3 + 1)).toNat) (XS (w32 (v3 + 2)).toNat) (XS (w32 (v3 + 3)).toNat) (XS (w32 (v3 + 4)).toNat) (XS (w32 (v3 + 5)).toNat) (fun (r2 : Int) (C2 : Cn) => r1 = r2 ∧ Inv C2))) ∧ (okO n v2 10 ∧ (∀ C2 : Cn, Inv C2 → (kz18 (C2, n, kc, ks, w32 (v3 + 6)))))))))))))))))))) ∧ (and32 (XS v3.toNat) 63 = 38 → (0 ≤ w32 (v3 + 1) ∧ (w32 (v3 + 1) < LN ∧ (0 ≤ w32 (v3 + 2) ∧ (w32 (v3 + 2) < LN ∧ (0 ≤ w32 (v3 + 3) ∧ (w32 (v3 + 3) < LN ∧ (okO n v1 9 ∧ (kc ≤ 600000 ∧ (ks ≤ 7302250 ∧ ((P_F_hold n C v1 (XS (w32 (v3 + 1)).toNat) (XS (w32 (v3 + 2)).toNat) (XS (w32 (v3 + 3)).toNat) (fun (r1 : Int) (C1 : Cn) => P_G_hold n C1 v2 (XS (w32 (v3 + 1)).toNat) (XS (w32 (v3 + 2)).toNat) (XS (w32 (v3 + 3)).toNat) (fun (r2 : Int) (C2 : Cn) => r1 = r2 ∧ Inv C2))) ∧ (okO n v2 10 ∧ (∀ C2 : Cn, Inv C2 → (kz18 (C2, n, kc, ks, w32 (v3 + 6)))))))))))))))) ∧ (and32 (XS v3.toNat) 63 = 39 → (0 ≤ w32 (v3 + 1) ∧ (w32 (v3 + 1) < LN ∧ (0 ≤ w32 (v3 + 2) ∧ (w32 (v3 + 2) < LN ∧ (okO n v1 9 ∧ (kc ≤ 600000 ∧ (ks ≤ 7302250 ∧ ((P_F_taken n C v1 (XS (w32 (v3 + 1)).toNat) (XS (w32 (v3 + 2)).toNat) (fun (r1 : Int) (C1 : Cn) => P_G_taken n C1 v2 (XS (w32 (v3 + 1)).toNat) (XS (w32 (v3 + 2)).toNat) (fun (r2 : Int) (C2 : Cn) => r1 = r2 ∧ Inv C2))) ∧ (okO n v2 10 ∧ (∀ C2 : Cn, Inv C2 → (kz18 (C2, n, kc, ks, w32 (v3 + 6)))))))))))))) ∧ (and32 (XS v3.toNat) 63 = 40 → (okO n v1 9 ∧ (kc ≤ 600000 ∧ (ks ≤ 7302250 ∧ ((P_F_image n C v1  (fun (r1 : Int) (C1 : Cn) => P_G_image n C1 v2  (fun (r2 : Int) (C2 : Cn) => r1 = r2 ∧ Inv C2))) ∧ (okO n v2 10 ∧ (∀ C2 : Cn, Inv C2 → (kz18 (C2, n, kc, ks, w32 (v3 + 6)))))))))) ∧ (and32 (XS v3.toNat) 63 = 41 → (okO n v1 9 ∧ (kc ≤ 600000 ∧ (ks ≤ 7302250 ∧ ((P_F_back n C v1  (fun (r1 : Int) (C1 : Cn) => P_G_back n C1 v2  (fun (r2 : Int) (C2 : Cn) => r1 = r2 ∧ Inv C2))) ∧ (okO n v2 10 ∧ (∀ C2 : Cn, Inv C2 → (kz18 (C2, n, kc, ks, w32 (v3 + 6)))))))))) ∧ (and32 (XS v3.toNat) 63 = 42 → (0 ≤ w32 (v3 + 1) ∧ (w32 (v3 + 1) < LN ∧ (okO n v1 9 ∧ (kc ≤ 600000 ∧ (ks ≤ 7302250 ∧ ((P_F_count n C v1 (XS (w32 (v3 + 1)).toNat) (fun (r1 : Int) (C1 : Cn) => P_G_count n C1 v2 (XS (w32 (v3 + 1)).toNat) (fun (r2 : Int) (C2 : Cn) => r1 = r2 ∧ Inv C2))) ∧ (okO n v2 10 ∧ (∀ C2 : Cn, Inv C2 → (kz18 (C2, n, kc, ks, w32 (v3 + 6)))))))))))) ∧ (and32 (XS v3.toNat) 63 = 43 → (0 ≤ w32 (v3 + 1) ∧ (w32 (v3 + 1) < LN ∧ (okO n v1 9 ∧ (kc ≤ 600000 ∧ (ks ≤ 7302250 ∧ ((P_F_status n C v1 (XS (w32 (v3 + 1)).toNat) (fun (r1 : Int) (C1 : Cn) => P_G_status n C1 v2 (XS (w32 (v3 + 1)).toNat) (fun (r2 : Int) (C2 : Cn) => r1 = r2 ∧ Inv C2))) ∧ (okO n v2 10 ∧ (∀ C2 : Cn, Inv C2 → (kz18 (C2, n, kc, ks, w32 (v3 + 6)))))))))))) ∧ ((and32 (XS v3.toNat) 63 < 0 ∨ 43 < and32 (XS v3.toNat) 63) → (kz18 (C, n, kc, ks, w32 (v3 + 6)))))))))
theorem bB_L_law_18 (XS : Nat → Int) (LN : Int) (hX : SCR E s XS LN) (v0 v1 v2 : Int) (Q : Int → Cn → Nat → Prop) (kz18 : Cn × Nat × Nat × Nat × Int → Prop) (hkz18 : ∀ (Cz : Cn) (nz : Nat) (kcz : Nat) (ksz : Nat) (z3 : Int), kz18 (Cz, nz, kcz, ksz, z3) → AW p l e R s m args below meth c E (M_L_law nmz) true Q nz kcz ksz 18 [(3, v0), (2, v1), (2, v2), (0, z3)] [] Cz) (C : Cn) (n : Nat) (kc : Nat) (ks : Nat) (v3 : Int) (h : B_L_law_18 XS LN v0 v1 v2 Q kz18 (C, n, kc, ks, v3)) : AW p l e R s m args below meth c E (M_L_law nmz) true Q n kc ks 18 [(3, v0), (2, v1), (2, v2), (0, v3)] [] C := by
  unfold B_L_law_18 at h
  dsimp only at h
  refine AW.iload_n (dc hdl_0 10 rfl) rfl ?_
  refine AW.ra_n (dc hdl_0 11 rfl) rfl rfl rfl ?_
  obtain ⟨g_1, h⟩ := h
  refine AW.scl hX (dc hdl_0 12 rfl) g_1 ?_
  refine AW.bipush (dc hdl_0 13 rfl) (by decide) (by decide +kernel) ?_
  refine AW.isub (dc hdl_0 14 rfl) ?_
  refine AW.icmp_gt (t := 1704) (dc hdl_0 15 rfl) (by decide) (fun c_2 => ?_) (fun c_2 => ?_)
  · have h := h.1 c_2
    refine AW.iconst (dc hdl_6 22 rfl) (by decide) ?_
    obtain ⟨g_3, h⟩ := h
    obtain ⟨g_4, h⟩ := h
    exact AW.zret (dc hdl_6 23 rfl) rfl rfl g_3 g_4 (by decide) h
  · have h := h.2 c_2
    refine AW.ra_n (dc hdl_0 16 rfl) rfl rfl rfl ?_
    refine AW.iload_n (dc hdl_0 17 rfl) rfl ?_
    obtain ⟨g_5, h⟩ := h
    obtain ⟨g_6, h⟩ := h
    refine AW.scr hX (dc hdl_0 18 rfl) g_1 g_5 g_6 ?_
    refine AW.bipush (dc hdl_0 19 rfl) (by decide) (by decide +kernel) ?_
    refine AW.iand (dc hdl_0 20 rfl) ?_
    refine AW.tsw (td := 1698) (dc hdl_0 21 rfl) [224, 287, 350, 383, 396, 429, 452, 475, 498, 531, 564, 597, 640, 693, 726, 749, 782, 795, 818, 851, 884, 917, 970, 1033, 1066, 1089, 1153, 1176, 1189, 1222, 1265, 1278, 1311, 1324, 1337, 1380, 1453, 1487, 1550, 1593, 1626, 1639, 1652, 1675] (by decide +kernel) (by decide) (by decide) (fun j t hj hx => ?_) (fun q_7 => ?_)
    · match j, hj with
      | 0, hj =>
        cases hj
        have h := h.1 (hx.trans (by decide))
        refine AW.ra_n (dc hdl_0 22 rfl) rfl rfl rfl ?_
        refine AW.ra_n (dc hdl_0 23 rfl) rfl rfl rfl ?_
        refine AW.iload_n (dc hdl_0 24 rfl) rfl ?_
        refine AW.iconst (dc hdl_0 25 rfl) (by decide) ?_
        refine AW.iadd (dc hdl_0 26 rfl) ?_
        obtain ⟨g_8, h⟩ := h
        obtain ⟨g_9, h⟩ := h
        refine AW.scr hX (dc hdl_0 27 rfl) g_1 g_8 g_9 ?_
        refine AW.ra_n (dc hdl_0 28 rfl) rfl rfl rfl ?_
        refine AW.iload_n (dc hdl_0 29 rfl) rfl ?_
        refine AW.iconst (dc hdl_0 30 rfl) (by decide) ?_
        refine AW.iadd (dc hdl_0 31 rfl) ?_
        obtain ⟨g_10, h⟩ := h
        obtain ⟨g_11, h⟩ := h
        refine AW.scr hX (dc hdl_0 32 rfl) g_1 g_10 g_11 ?_
        refine AW.ra_n (dc hdl_0 33 rfl) rfl rfl rfl ?_
        refine AW.iload_n (dc hdl_0 34 rfl) rfl ?_
        refine AW.iconst (dc hdl_0 35 rfl) (by decide) ?_
        refine AW.iadd (dc hdl_0 36 rfl) ?_
        obtain ⟨g_12, h⟩ := h
        obtain ⟨g_13, h⟩ := h
        refine AW.scr hX (dc hdl_0 37 rfl) g_1 g_12 g_13 ?_
        refine AW.ra_n (dc hdl_0 38 rfl) rfl rfl rfl ?_
        refine AW.iload_n (dc hdl_0 39 rfl) rfl ?_
        refine AW.iconst (dc hdl_0 40 rfl) (by decide) ?_
        refine AW.iadd (dc hdl_0 41 rfl) ?_
        obtain ⟨g_14, h⟩ := h
        obtain ⟨g_15, h⟩ := h
        refine AW.scr hX (dc hdl_0 42 rfl) g_1 g_14 g_15 ?_
        refine AW.ra_n (dc hdl_0 43 rfl) rfl rfl rfl ?_
        refine AW.iload_n (dc hdl_0 44 rfl) rfl ?_
        refine AW.iconst (dc hdl_0 45 rfl) (by decide) ?_
        refine AW.iadd (dc hdl_0 46 rfl) ?_
        obtain ⟨g_16, h⟩ := h
        obtain ⟨g_17, h⟩ := h
        refine AW.scr hX (dc hdl_0 47 rfl) g_1 g_16 g_17 ?_
        obtain ⟨g_18, h⟩ := h
        obtain ⟨g_19, h⟩ := h
        obtain ⟨g_20, h⟩ := h
        obtain ⟨w_21, h⟩ := h
        refine AW.callV (As := [(0, XS (w32 (v3 + 1)).toNat), (0, XS (w32 (v3 + 2)).toNat), (0, XS (w32 (v3 + 3)).toNat), (0, XS (w32 (v3 + 4)).toNat), (0, XS (w32 (v3 + 5)).toNat)]) (rest := []) (ci := 9) (m_F_segment l E n C v1 (XS (w32 (v3 + 1)).toNat) (XS (w32 (v3 + 2)).toNat) (XS (w32 (v3 + 3)).toNat) (XS (w32 (v3 + 4)).toNat) (XS (w32 (v3 + 5)).toNat) _ w_21) cb_11_13 im_F_segment se_F_segment ⟨_, _, rfl⟩ (by decide) (dc hdl_0 48 rfl) g_18 rfl rfl ⟨Nat.le_of_ble_eq_true rfl, Nat.le_of_ble_eq_true rfl⟩ ⟨g_19, g_20⟩ (Nat.le_of_ble_eq_true rfl) (fun _ h => by cases h) (fun _ => rfl) (fun r_22 C_23 d_24 q_25 => ?_)
        obtain ⟨q_25a, q_25h⟩ := q_25
        subst d_24
        show AW p l e _ s m args below meth c E (M_L_law nmz) true _ n _ _ _ [(3, v0), (2, v1), (2, v2), (0, v3)] [(0, r_22)] C_23
        refine AW.ra_n (dc hdl_0 49 rfl) rfl rfl rfl ?_
        refine AW.ra_n (dc hdl_0 50 rfl) rfl rfl rfl ?_
        refine AW.iload_n (dc hdl_0 51 rfl) rfl ?_
        refine AW.iconst (dc hdl_0 52 rfl) (by decide) ?_
        refine AW.iadd (dc hdl_0 53 rfl) ?_
        refine AW.scr hX (dc hdl_0 54 rfl) g_1 g_8 g_9 ?_
        refine AW.ra_n (dc hdl_0 55 rfl) rfl rfl rfl ?_
        refine AW.iload_n (dc hdl_0 56 rfl) rfl ?_
        refine AW.iconst (dc hdl_0 57 rfl) (by decide) ?_
        refine AW.iadd (dc hdl_0 58 rfl) ?_
        refine AW.scr hX (dc hdl_0 59 rfl) g_1 g_10 g_11 ?_
        refine AW.ra_n (dc hdl_0 60 rfl) rfl rfl rfl ?_
        refine AW.iload_n (dc hdl_0 61 rfl) rfl ?_
        refine AW.iconst (dc hdl_0 62 rfl) (by decide) ?_
        refine AW.iadd (dc hdl_0 63 rfl) ?_
        refine AW.scr hX (dc hdl_0 64 rfl) g_1 g_12 g_13 ?_
        refine AW.ra_n (dc hdl_0 65 rfl) rfl rfl rfl ?_
        refine AW.iload_n (dc hdl_0 66 rfl) rfl ?_
        refine AW.iconst (dc hdl_0 67 rfl) (by decide) ?_
        refine AW.iadd (dc hdl_0 68 rfl) ?_
        refine AW.scr hX (dc hdl_0 69 rfl) g_1 g_14 g_15 ?_
        refine AW.ra_n (dc hdl_0 70 rfl) rfl rfl rfl ?_
        refine AW.iload_n (dc hdl_0 71 rfl) rfl ?_
        refine AW.iconst (dc hdl_0 72 rfl) (by decide) ?_
        refine AW.iadd (dc hdl_0 73 rfl) ?_
        refine AW.scr hX (dc hdl_0 74 rfl) g_1 g_16 g_17 ?_
        obtain ⟨g_26, h⟩ := h
        refine AW.callV (As := [(0, XS (w32 (v3 + 1)).toNat), (0, XS (w32 (v3 + 2)).toNat), (0, XS (w32 (v3 + 3)).toNat), (0, XS (w32 (v3 + 4)).toNat), (0, XS (w32 (v3 + 5)).toNat)]) (rest := [(0, r_22)]) (ci := 10) (m_G_segment l E n C_23 v2 (XS (w32 (v3 + 1)).toNat) (XS (w32 (v3 + 2)).toNat) (XS (w32 (v3 + 3)).toNat) (XS (w32 (v3 + 4)).toNat) (XS (w32 (v3 + 5)).toNat) _ q_25h) cb_11_17 im_G_segment se_G_segment ⟨_, _, rfl⟩ (by decide) (dc hdl_0 75 rfl) g_26 rfl rfl ⟨Nat.le_of_ble_eq_true rfl, Nat.le_of_ble_eq_true rfl⟩ ⟨g_19, g_20⟩ (Nat.le_of_ble_eq_true rfl) (fun _ h => by cases h) (fun _ => rfl) (fun r_27 C_28 d_29 q_30 => ?_)
        obtain ⟨q_30a, q_30e, q_30i⟩ := q_30
        subst d_29
        subst q_30e
        have h := h C_28 q_30i
        show AW p l e _ s m args below meth c E (M_L_law nmz) true _ n _ _ _ [(3, v0), (2, v1), (2, v2), (0, v3)] [(0, _), (0, _)] C_28
        refine AW.icmp_eq (t := 1698) (dc hdl_0 76 rfl) (by decide) (fun _ => ?_) (fun c => absurd rfl c)
        refine AW.iinc [(3, v0), (2, v1), (2, v2), (0, w32 (v3 + 6))] (dc hdl_6 20 rfl) rfl (Nat.le_of_ble_eq_true rfl) rfl rfl ?_
        refine AW.goto (t := 18) (dc hdl_6 21 rfl) (by decide) ?_
        exact hkz18 C_28 n kc ks (w32 (v3 + 6)) h
      | 1, hj =>
        cases hj
        have h := h.2.1 (hx.trans (by decide))
        refine AW.ra_n (dc hdl_0 79 rfl) rfl rfl rfl ?_
        refine AW.ra_n (dc hdl_0 80 rfl) rfl rfl rfl ?_
        refine AW.iload_n (dc hdl_0 81 rfl) rfl ?_
        refine AW.iconst (dc hdl_0 82 rfl) (by decide) ?_
        refine AW.iadd (dc hdl_0 83 rfl) ?_
        obtain ⟨g_31, h⟩ := h
        obtain ⟨g_32, h⟩ := h
        refine AW.scr hX (dc hdl_0 84 rfl) g_1 g_31 g_32 ?_
        refine AW.ra_n (dc hdl_0 85 rfl) rfl rfl rfl ?_
        refine AW.iload_n (dc hdl_0 86 rfl) rfl ?_
        refine AW.iconst (dc hdl_0 87 rfl) (by decide) ?_
        refine AW.iadd (dc hdl_0 88 rfl) ?_
        obtain ⟨g_33, h⟩ := h
        obtain ⟨g_34, h⟩ := h
        refine AW.scr hX (dc hdl_0 89 rfl) g_1 g_33 g_34 ?_
        refine AW.ra_n (dc hdl_0 90 rfl) rfl rfl rfl ?_
        refine AW.iload_n (dc hdl_0 91 rfl) rfl ?_
        refine AW.iconst (dc hdl_0 92 rfl) (by decide) ?_
        refine AW.iadd (dc hdl_0 93 rfl) ?_
        obtain ⟨g_35, h⟩ := h
        obtain ⟨g_36, h⟩ := h
        refine AW.scr hX (dc hdl_0 94 rfl) g_1 g_35 g_36 ?_
        refine AW.ra_n (dc hdl_0 95 rfl) rfl rfl rfl ?_
        refine AW.iload_n (dc hdl_0 96 rfl) rfl ?_
        refine AW.iconst (dc hdl_0 97 rfl) (by decide) ?_
        refine AW.iadd (dc hdl_0 98 rfl) ?_
        obtain ⟨g_37, h⟩ := h
        obtain ⟨g_38, h⟩ := h
        refine AW.scr hX (dc hdl_0 99 rfl) g_1 g_37 g_38 ?_
        refine AW.ra_n (dc hdl_0 100 rfl) rfl rfl rfl ?_
        refine AW.iload_n (dc hdl_0 101 rfl) rfl ?_
        refine AW.iconst (dc hdl_0 102 rfl) (by decide) ?_
        refine AW.iadd (dc hdl_0 103 rfl) ?_
        obtain ⟨g_39, h⟩ := h
        obtain ⟨g_40, h⟩ := h
        refine AW.scr hX (dc hdl_0 104 rfl) g_1 g_39 g_40 ?_
        obtain ⟨g_41, h⟩ := h
        obtain ⟨g_42, h⟩ := h
        obtain ⟨g_43, h⟩ := h
        obtain ⟨w_44, h⟩ := h
        refine AW.callV (As := [(0, XS (w32 (v3 + 1)).toNat), (0, XS (w32 (v3 + 2)).toNat), (0, XS (w32 (v3 + 3)).toNat), (0, XS (w32 (v3 + 4)).toNat), (0, XS (w32 (v3 + 5)).toNat)]) (rest := []) (ci := 9) (m_F_move l E n C v1 (XS (w32 (v3 + 1)).toNat) (XS (w32 (v3 + 2)).toNat) (XS (w32 (v3 + 3)).toNat) (XS (w32 (v3 + 4)).toNat) (XS (w32 (v3 + 5)).toNat) _ w_44) cb_11_18 im_F_move se_F_move ⟨_, _, rfl⟩ (by decide) (dc hdl_0 105 rfl) g_41 rfl rfl ⟨Nat.le_of_ble_eq_true rfl, Nat.le_of_ble_eq_true rfl⟩ ⟨g_42, g_43⟩ (Nat.le_of_ble_eq_true rfl) (fun _ h => by cases h) (fun _ => rfl) (fun r_45 C_46 d_47 q_48 => ?_)
        obtain ⟨q_48a, q_48h⟩ := q_48
        subst d_47
        show AW p l e _ s m args below meth c E (M_L_law nmz) true _ n _ _ _ [(3, v0), (2, v1), (2, v2), (0, v3)] [(0, r_45)] C_46
        refine AW.ra_n (dc hdl_0 106 rfl) rfl rfl rfl ?_
        refine AW.ra_n (dc hdl_0 107 rfl) rfl rfl rfl ?_
        refine AW.iload_n (dc hdl_0 108 rfl) rfl ?_
        refine AW.iconst (dc hdl_0 109 rfl) (by decide) ?_
        refine AW.iadd (dc hdl_0 110 rfl) ?_
        refine AW.scr hX (dc hdl_0 111 rfl) g_1 g_31 g_32 ?_
        refine AW.ra_n (dc hdl_0 112 rfl) rfl rfl rfl ?_
        refine AW.iload_n (dc hdl_0 113 rfl) rfl ?_
        refine AW.iconst (dc hdl_0 114 rfl) (by decide) ?_
        refine AW.iadd (dc hdl_0 115 rfl) ?_
        refine AW.scr hX (dc hdl_0 116 rfl) g_1 g_33 g_34 ?_
        refine AW.ra_n (dc hdl_0 117 rfl) rfl rfl rfl ?_
        refine AW.iload_n (dc hdl_0 118 rfl) rfl ?_
        refine AW.iconst (dc hdl_0 119 rfl) (by decide) ?_
        refine AW.iadd (dc hdl_0 120 rfl) ?_
        refine AW.scr hX (dc hdl_0 121 rfl) g_1 g_35 g_36 ?_
        refine AW.ra_n (dc hdl_0 122 rfl) rfl rfl rfl ?_
        refine AW.iload_n (dc hdl_0 123 rfl) rfl ?_
        refine AW.iconst (dc hdl_0 124 rfl) (by decide) ?_
        refine AW.iadd (dc hdl_0 125 rfl) ?_
        refine AW.scr hX (dc hdl_0 126 rfl) g_1 g_37 g_38 ?_
        refine AW.ra_n (dc hdl_0 127 rfl) rfl rfl rfl ?_
        refine AW.iload_n (dc hdl_0 128 rfl) rfl ?_
        refine AW.iconst (dc hdl_0 129 rfl) (by decide) ?_
        refine AW.iadd (dc hdl_0 130 rfl) ?_
        refine AW.scr hX (dc hdl_0 131 rfl) g_1 g_39 g_40 ?_
        obtain ⟨g_49, h⟩ := h
        refine AW.callV (As := [(0, XS (w32 (v3 + 1)).toNat), (0, XS (w32 (v3 + 2)).toNat), (0, XS (w32 (v3 + 3)).toNat), (0, XS (w32 (v3 + 4)).toNat), (0, XS (w32 (v3 + 5)).toNat)]) (rest := [(0, r_45)]) (ci := 10) (m_G_move l E n C_46 v2 (XS (w32 (v3 + 1)).toNat) (XS (w32 (v3 + 2)).toNat) (XS (w32 (v3 + 3)).toNat) (XS (w32 (v3 + 4)).toNat) (XS (w32 (v3 + 5)).toNat) _ q_48h) cb_11_21 im_G_move se_G_move ⟨_, _, rfl⟩ (by decide) (dc hdl_0 132 rfl) g_49 rfl rfl ⟨Nat.le_of_ble_eq_true rfl, Nat.le_of_ble_eq_true rfl⟩ ⟨g_42, g_43⟩ (Nat.le_of_ble_eq_true rfl) (fun _ h => by cases h) (fun _ => rfl) (fun r_50 C_51 d_52 q_53 => ?_)
        obtain ⟨q_53a, q_53e, q_53i⟩ := q_53
        subst d_52
        subst q_53e
        have h := h C_51 q_53i
        show AW p l e _ s m args below meth c E (M_L_law nmz) true _ n _ _ _ [(3, v0), (2, v1), (2, v2), (0, v3)] [(0, _), (0, _)] C_51
        refine AW.icmp_eq (t := 1698) (dc hdl_0 133 rfl) (by decide) (fun _ => ?_) (fun c => absurd rfl c)
        refine AW.iinc [(3, v0), (2, v1), (2, v2), (0, w32 (v3 + 6))] (dc hdl_6 20 rfl) rfl (Nat.le_of_ble_eq_true rfl) rfl rfl ?_
        refine AW.goto (t := 18) (dc hdl_6 21 rfl) (by decide) ?_
        exact hkz18 C_51 n kc ks (w32 (v3 + 6)) h
      | 2, hj =>
        cases hj
        have h := h.2.2.1 (hx.trans (by decide))
        refine AW.ra_n (dc hdl_0 136 rfl) rfl rfl rfl ?_
        refine AW.ra_n (dc hdl_0 137 rfl) rfl rfl rfl ?_
        refine AW.iload_n (dc hdl_0 138 rfl) rfl ?_
        refine AW.iconst (dc hdl_0 139 rfl) (by decide) ?_
        refine AW.iadd (dc hdl_0 140 rfl) ?_
        obtain ⟨g_54, h⟩ := h
        obtain ⟨g_55, h⟩ := h
        refine AW.scr hX (dc hdl_0 141 rfl) g_1 g_54 g_55 ?_
        refine AW.ra_n (dc hdl_0 142 rfl) rfl rfl rfl ?_
        refine AW.iload_n (dc hdl_0 143 rfl) rfl ?_
        refine AW.iconst (dc hdl_0 144 rfl) (by decide) ?_
        refine AW.iadd (dc hdl_0 145 rfl) ?_
        obtain ⟨g_56, h⟩ := h
        obtain ⟨g_57, h⟩ := h
        refine AW.scr hX (dc hdl_0 146 rfl) g_1 g_56 g_57 ?_
        obtain ⟨g_58, h⟩ := h
        obtain ⟨g_59, h⟩ := h
        obtain ⟨g_60, h⟩ := h
        obtain ⟨w_61, h⟩ := h
        refine AW.callV (As := [(0, XS (w32 (v3 + 1)).toNat), (0, XS (w32 (v3 + 2)).toNat)]) (rest := []) (ci := 9) (m_F_become l E n C v1 (XS (w32 (v3 + 1)).toNat) (XS (w32 (v3 + 2)).toNat) _ w_61) cb_11_22 im_F_become se_F_become ⟨_, _, rfl⟩ (by decide) (dc hdl_0 147 rfl) g_58 rfl rfl ⟨Nat.le_of_ble_eq_true rfl, Nat.le_of_ble_eq_true rfl⟩ ⟨g_59, g_60⟩ (Nat.le_of_ble_eq_true rfl) (fun _ h => by cases h) (fun _ => rfl) (fun r_62 C_63 d_64 q_65 => ?_)
        obtain ⟨q_65a, q_65h⟩ := q_65
        subst d_64
        show AW p l e _ s m args below meth c E (M_L_law nmz) true _ n _ _ _ [(3, v0), (2, v1), (2, v2), (0, v3)] [(0, r_62)] C_63
        refine AW.ra_n (dc hdl_0 148 rfl) rfl rfl rfl ?_
        refine AW.ra_n (dc hdl_0 149 rfl) rfl rfl rfl ?_
        refine AW.iload_n (dc hdl_0 150 rfl) rfl ?_
        refine AW.iconst (dc hdl_0 151 rfl) (by decide) ?_
        refine AW.iadd (dc hdl_0 152 rfl) ?_
        refine AW.scr hX (dc hdl_0 153 rfl) g_1 g_54 g_55 ?_
        refine AW.ra_n (dc hdl_0 154 rfl) rfl rfl rfl ?_
        refine AW.iload_n (dc hdl_0 155 rfl) rfl ?_
        refine AW.iconst (dc hdl_0 156 rfl) (by decide) ?_
        refine AW.iadd (dc hdl_0 157 rfl) ?_
        refine AW.scr hX (dc hdl_0 158 rfl) g_1 g_56 g_57 ?_
        obtain ⟨g_66, h⟩ := h
        refine AW.callV (As := [(0, XS (w32 (v3 + 1)).toNat), (0, XS (w32 (v3 + 2)).toNat)]) (rest := [(0, r_62)]) (ci := 10) (m_G_become l E n C_63 v2 (XS (w32 (v3 + 1)).toNat) (XS (w32 (v3 + 2)).toNat) _ q_65h) cb_11_26 im_G_become se_G_become ⟨_, _, rfl⟩ (by decide) (dc hdl_0 159 rfl) g_66 rfl rfl ⟨Nat.le_of_ble_eq_true rfl, Nat.le_of_ble_eq_true rfl⟩ ⟨g_59, g_60⟩ (Nat.le_of_ble_eq_true rfl) (fun _ h => by cases h) (fun _ => rfl) (fun r_67 C_68 d_69 q_70 => ?_)
        obtain ⟨q_70a, q_70e, q_70i⟩ := q_70
        subst d_69
        subst q_70e
        have h := h C_68 q_70i
        show AW p l e _ s m args below meth c E (M_L_law nmz) true _ n _ _ _ [(3, v0), (2, v1), (2, v2), (0, v3)] [(0, _), (0, _)] C_68
        refine AW.icmp_eq (t := 1698) (dc hdl_0 160 rfl) (by decide) (fun _ => ?_) (fun c => absurd rfl c)
        refine AW.iinc [(3, v0), (2, v1), (2, v2), (0, w32 (v3 + 6))] (dc hdl_6 20 rfl) rfl (Nat.le_of_ble_eq_true rfl) rfl rfl ?_
        refine AW.goto (t := 18) (dc hdl_6 21 rfl) (by decide) ?_
        exact hkz18 C_68 n kc ks (w32 (v3 + 6)) h
      | 3, hj =>
        cases hj
        have h := h.2.2.2.1 (hx.trans (by decide))
        refine AW.ra_n (dc hdl_0 163 rfl) rfl rfl rfl ?_
        obtain ⟨g_71, h⟩ := h
        obtain ⟨g_72, h⟩ := h
        obtain ⟨g_73, h⟩ := h
        obtain ⟨w_74, h⟩ := h
        refine AW.callV (As := []) (rest := []) (ci := 9) (m_F_drop l E n C v1 _ w_74) cb_11_27 im_F_drop se_F_drop ⟨_, _, rfl⟩ (by decide) (dc hdl_0 164 rfl) g_71 rfl rfl ⟨Nat.le_of_ble_eq_true rfl, Nat.le_of_ble_eq_true rfl⟩ ⟨g_72, g_73⟩ (Nat.le_of_ble_eq_true rfl) (fun _ h => by cases h) (fun _ => rfl) (fun r_75 C_76 d_77 q_78 => ?_)
        obtain ⟨q_78a, q_78h⟩ := q_78
        subst d_77
        show AW p l e _ s m args below meth c E (M_L_law nmz) true _ n _ _ _ [(3, v0), (2, v1), (2, v2), (0, v3)] [(0, r_75)] C_76
        refine AW.ra_n (dc hdl_0 165 rfl) rfl rfl rfl ?_
        obtain ⟨g_79, h⟩ := h
        refine AW.callV (As := []) (rest := [(0, r_75)]) (ci := 10) (m_G_drop l E n C_76 v2 _ q_78h) cb_11_31 im_G_drop se_G_drop ⟨_, _, rfl⟩ (by decide) (dc hdl_0 166 rfl) g_79 rfl rfl ⟨Nat.le_of_ble_eq_true rfl, Nat.le_of_ble_eq_true rfl⟩ ⟨g_72, g_73⟩ (Nat.le_of_ble_eq_true rfl) (fun _ h => by cases h) (fun _ => rfl) (fun r_80 C_81 d_82 q_83 => ?_)
        obtain ⟨q_83a, q_83e, q_83i⟩ := q_83
        subst d_82
        subst q_83e
        have h := h C_81 q_83i
        show AW p l e _ s m args below meth c E (M_L_law nmz) true _ n _ _ _ [(3, v0), (2, v1), (2, v2), (0, v3)] [(0, _), (0, _)] C_81
        refine AW.icmp_eq (t := 1698) (dc hdl_0 167 rfl) (by decide) (fun _ => ?_) (fun c => absurd rfl c)
        refine AW.iinc [(3, v0), (2, v1), (2, v2), (0, w32 (v3 + 6))] (dc hdl_6 20 rfl) rfl (Nat.le_of_ble_eq_true rfl) rfl rfl ?_
        refine AW.goto (t := 18) (dc hdl_6 21 rfl) (by decide) ?_
        exact hkz18 C_81 n kc ks (w32 (v3 + 6)) h
      | 4, hj =>
        cases hj
        have h := h.2.2.2.2.1 (hx.trans (by decide))
        refine AW.ra_n (dc hdl_0 170 rfl) rfl rfl rfl ?_
        refine AW.ra_n (dc hdl_0 171 rfl) rfl rfl rfl ?_
        refine AW.iload_n (dc hdl_0 172 rfl) rfl ?_
        refine AW.iconst (dc hdl_0 173 rfl) (by decide) ?_
        refine AW.iadd (dc hdl_0 174 rfl) ?_
        obtain ⟨g_84, h⟩ := h
        obtain ⟨g_85, h⟩ := h
        refine AW.scr hX (dc hdl_0 175 rfl) g_1 g_84 g_85 ?_
        refine AW.ra_n (dc hdl_0 176 rfl) rfl rfl rfl ?_
        refine AW.iload_n (dc hdl_0 177 rfl) rfl ?_
        refine AW.iconst (dc hdl_0 178 rfl) (by decide) ?_
        refine AW.iadd (dc hdl_0 179 rfl) ?_
        obtain ⟨g_86, h⟩ := h
        obtain ⟨g_87, h⟩ := h
        refine AW.scr hX (dc hdl_0 180 rfl) g_1 g_86 g_87 ?_
        obtain ⟨g_88, h⟩ := h
        obtain ⟨g_89, h⟩ := h
        obtain ⟨g_90, h⟩ := h
        obtain ⟨w_91, h⟩ := h
        refine AW.callV (As := [(0, XS (w32 (v3 + 1)).toNat), (0, XS (w32 (v3 + 2)).toNat)]) (rest := []) (ci := 9) (m_F_of l E n C v1 (XS (w32 (v3 + 1)).toNat) (XS (w32 (v3 + 2)).toNat) _ w_91) cb_11_32 im_F_of se_F_of ⟨_, _, rfl⟩ (by decide) (dc hdl_0 181 rfl) g_88 rfl rfl ⟨Nat.le_of_ble_eq_true rfl, Nat.le_of_ble_eq_true rfl⟩ ⟨g_89, g_90⟩ (Nat.le_of_ble_eq_true rfl) (fun _ h => by cases h) (fun _ => rfl) (fun r_92 C_93 d_94 q_95 => ?_)
        obtain ⟨q_95a, q_95h⟩ := q_95
        subst d_94
        show AW p l e _ s m args below meth c E (M_L_law nmz) true _ n _ _ _ [(3, v0), (2, v1), (2, v2), (0, v3)] [(0, r_92)] C_93
        refine AW.ra_n (dc hdl_0 182 rfl) rfl rfl rfl ?_
        refine AW.ra_n (dc hdl_0 183 rfl) rfl rfl rfl ?_
        refine AW.iload_n (dc hdl_0 184 rfl) rfl ?_
        refine AW.iconst (dc hdl_0 185 rfl) (by decide) ?_
        refine AW.iadd (dc hdl_0 186 rfl) ?_
        refine AW.scr hX (dc hdl_0 187 rfl) g_1 g_84 g_85 ?_
        refine AW.ra_n (dc hdl_0 188 rfl) rfl rfl rfl ?_
        refine AW.iload_n (dc hdl_0 189 rfl) rfl ?_
        refine AW.iconst (dc hdl_0 190 rfl) (by decide) ?_
        refine AW.iadd (dc hdl_0 191 rfl) ?_
        refine AW.scr hX (dc hdl_0 192 rfl) g_1 g_86 g_87 ?_
        obtain ⟨g_96, h⟩ := h
        refine AW.callV (As := [(0, XS (w32 (v3 + 1)).toNat), (0, XS (w32 (v3 + 2)).toNat)]) (rest := [(0, r_92)]) (ci := 10) (m_G_of l E n C_93 v2 (XS (w32 (v3 + 1)).toNat) (XS (w32 (v3 + 2)).toNat) _ q_95h) cb_11_35 im_G_of se_G_of ⟨_, _, rfl⟩ (by decide) (dc hdl_0 193 rfl) g_96 rfl rfl ⟨Nat.le_of_ble_eq_true rfl, Nat.le_of_ble_eq_true rfl⟩ ⟨g_89, g_90⟩ (Nat.le_of_ble_eq_true rfl) (fun _ h => by cases h) (fun _ => rfl) (fun r_97 C_98 d_99 q_100 => ?_)
        obtain ⟨q_100a, q_100e, q_100i⟩ := q_100
        subst d_99
        subst q_100e
        have h := h C_98 q_100i
        show AW p l e _ s m args below meth c E (M_L_law nmz) true _ n _ _ _ [(3, v0), (2, v1), (2, v2), (0, v3)] [(0, _), (0, _)] C_98
        refine AW.icmp_eq (t := 1698) (dc hdl_0 194 rfl) (by decide) (fun _ => ?_) (fun c => absurd rfl c)
        refine AW.iinc [(3, v0), (2, v1), (2, v2), (0, w32 (v3 + 6))] (dc hdl_6 20 rfl) rfl (Nat.le_of_ble_eq_true rfl) rfl rfl ?_
        refine AW.goto (t := 18) (dc hdl_6 21 rfl) (by decide) ?_
        exact hkz18 C_98 n kc ks (w32 (v3 + 6)) h
      | 5, hj =>
        cases hj
        have h := h.2.2.2.2.2.1 (hx.trans (by decide))
        refine AW.ra_n (dc hdl_0 197 rfl) rfl rfl rfl ?_
        refine AW.ra_n (dc hdl_0 198 rfl) rfl rfl rfl ?_
        refine AW.iload_n (dc hdl_0 199 rfl) rfl ?_
        refine AW.iconst (dc hdl_1 0 rfl) (by decide) ?_
        refine AW.iadd (dc hdl_1 1 rfl) ?_
        obtain ⟨g_101, h⟩ := h
        obtain ⟨g_102, h⟩ := h
        refine AW.scr hX (dc hdl_1 2 rfl) g_1 g_101 g_102 ?_
        obtain ⟨g_103, h⟩ := h
        obtain ⟨g_104, h⟩ := h
        obtain ⟨g_105, h⟩ := h
        obtain ⟨w_106, h⟩ := h
        refine AW.callV (As := [(0, XS (w32 (v3 + 1)).toNat)]) (rest := []) (ci := 9) (m_F_tide l E n C v1 (XS (w32 (v3 + 1)).toNat) _ w_106) cb_11_36 im_F_tide se_F_tide ⟨_, _, rfl⟩ (by decide) (dc hdl_1 3 rfl) g_103 rfl rfl ⟨Nat.le_of_ble_eq_true rfl, Nat.le_of_ble_eq_true rfl⟩ ⟨g_104, g_105⟩ (Nat.le_of_ble_eq_true rfl) (fun _ h => by cases h) (fun _ => rfl) (fun r_107 C_108 d_109 q_110 => ?_)
        obtain ⟨q_110a, q_110h⟩ := q_110
        subst d_109
        show AW p l e _ s m args below meth c E (M_L_law nmz) true _ n _ _ _ [(3, v0), (2, v1), (2, v2), (0, v3)] [(0, r_107)] C_108
        refine AW.ra_n (dc hdl_1 4 rfl) rfl rfl rfl ?_
        refine AW.ra_n (dc hdl_1 5 rfl) rfl rfl rfl ?_
        refine AW.iload_n (dc hdl_1 6 rfl) rfl ?_
        refine AW.iconst (dc hdl_1 7 rfl) (by decide) ?_
        refine AW.iadd (dc hdl_1 8 rfl) ?_
        refine AW.scr hX (dc hdl_1 9 rfl) g_1 g_101 g_102 ?_
        obtain ⟨g_111, h⟩ := h
        refine AW.callV (As := [(0, XS (w32 (v3 + 1)).toNat)]) (rest := [(0, r_107)]) (ci := 10) (m_G_tide l E n C_108 v2 (XS (w32 (v3 + 1)).toNat) _ q_110h) cb_11_40 im_G_tide se_G_tide ⟨_, _, rfl⟩ (by decide) (dc hdl_1 10 rfl) g_111 rfl rfl ⟨Nat.le_of_ble_eq_true rfl, Nat.le_of_ble_eq_true rfl⟩ ⟨g_104, g_105⟩ (Nat.le_of_ble_eq_true rfl) (fun _ h => by cases h) (fun _ => rfl) (fun r_112 C_113 d_114 q_115 => ?_)
        obtain ⟨q_115a, q_115e, q_115i⟩ := q_115
        subst d_114
        subst q_115e
        have h := h C_113 q_115i
        show AW p l e _ s m args below meth c E (M_L_law nmz) true _ n _ _ _ [(3, v0), (2, v1), (2, v2), (0, v3)] [(0, _), (0, _)] C_113
        refine AW.icmp_eq (t := 1698) (dc hdl_1 11 rfl) (by decide) (fun _ => ?_) (fun c => absurd rfl c)
        refine AW.iinc [(3, v0), (2, v1), (2, v2), (0, w32 (v3 + 6))] (dc hdl_6 20 rfl) rfl (Nat.le_of_ble_eq_true rfl) rfl rfl ?_
        refine AW.goto (t := 18) (dc hdl_6 21 rfl) (by decide) ?_
        exact hkz18 C_113 n kc ks (w32 (v3 + 6)) h
      | 6, hj =>
        cases hj
        have h := h.2.2.2.2.2.2.1 (hx.trans (by decide))
        refine AW.ra_n (dc hdl_1 14 rfl) rfl rfl rfl ?_
        refine AW.ra_n (dc hdl_1 15 rfl) rfl rfl rfl ?_
        refine AW.iload_n (dc hdl_1 16 rfl) rfl ?_
        refine AW.iconst (dc hdl_1 17 rfl) (by decide) ?_
        refine AW.iadd (dc hdl_1 18 rfl) ?_
        obtain ⟨g_116, h⟩ := h
        obtain ⟨g_117, h⟩ := h
        refine AW.scr hX (dc hdl_1 19 rfl) g_1 g_116 g_117 ?_
        obtain ⟨g_118, h⟩ := h
        obtain ⟨g_119, h⟩ := h
        obtain ⟨g_120, h⟩ := h
        obtain ⟨w_121, h⟩ := h
        refine AW.callV (As := [(0, XS (w32 (v3 + 1)).toNat)]) (rest := []) (ci := 9) (m_F_blame l E n C v1 (XS (w32 (v3 + 1)).toNat) _ w_121) cb_11_41 im_F_blame se_F_blame ⟨_, _, rfl⟩ (by decide) (dc hdl_1 20 rfl) g_118 rfl rfl ⟨Nat.le_of_ble_eq_true rfl, Nat.le_of_ble_eq_true rfl⟩ ⟨g_119, g_120⟩ (Nat.le_of_ble_eq_true rfl) (fun _ h => by cases h) (fun _ => rfl) (fun r_122 C_123 d_124 q_125 => ?_)
        obtain ⟨q_125a, q_125h⟩ := q_125
        subst d_124
        show AW p l e _ s m args below meth c E (M_L_law nmz) true _ n _ _ _ [(3, v0), (2, v1), (2, v2), (0, v3)] [(0, r_122)] C_123
        refine AW.ra_n (dc hdl_1 21 rfl) rfl rfl rfl ?_
        refine AW.ra_n (dc hdl_1 22 rfl) rfl rfl rfl ?_
        refine AW.iload_n (dc hdl_1 23 rfl) rfl ?_
        refine AW.iconst (dc hdl_1 24 rfl) (by decide) ?_
        refine AW.iadd (dc hdl_1 25 rfl) ?_
        refine AW.scr hX (dc hdl_1 26 rfl) g_1 g_116 g_117 ?_
        obtain ⟨g_126, h⟩ := h
        refine AW.callV (As := [(0, XS (w32 (v3 + 1)).toNat)]) (rest := [(0, r_122)]) (ci := 10) (m_G_blame l E n C_123 v2 (XS (w32 (v3 + 1)).toNat) _ q_125h) cb_11_44 im_G_blame se_G_blame ⟨_, _, rfl⟩ (by decide) (dc hdl_1 27 rfl) g_126 rfl rfl ⟨Nat.le_of_ble_eq_true rfl, Nat.le_of_ble_eq_true rfl⟩ ⟨g_119, g_120⟩ (Nat.le_of_ble_eq_true rfl) (fun _ h => by cases h) (fun _ => rfl) (fun r_127 C_128 d_129 q_130 => ?_)
        obtain ⟨q_130a, q_130e, q_130i⟩ := q_130
        subst d_129
        subst q_130e
        have h := h C_128 q_130i
        show AW p l e _ s m args below meth c E (M_L_law nmz) true _ n _ _ _ [(3, v0), (2, v1), (2, v2), (0, v3)] [(0, _), (0, _)] C_128
        refine AW.icmp_eq (t := 1698) (dc hdl_1 28 rfl) (by decide) (fun _ => ?_) (fun c => absurd rfl c)
        refine AW.iinc [(3, v0), (2, v1), (2, v2), (0, w32 (v3 + 6))] (dc hdl_6 20 rfl) rfl (Nat.le_of_ble_eq_true rfl) rfl rfl ?_
        refine AW.goto (t := 18) (dc hdl_6 21 rfl) (by decide) ?_
        exact hkz18 C_128 n kc ks (w32 (v3 + 6)) h
      | 7, hj =>
        cases hj
        have h := h.2.2.2.2.2.2.2.1 (hx.trans (by decide))
        refine AW.ra_n (dc hdl_1 31 rfl) rfl rfl rfl ?_
        refine AW.ra_n (dc hdl_1 32 rfl) rfl rfl rfl ?_
        refine AW.iload_n (dc hdl_1 33 rfl) rfl ?_
        refine AW.iconst (dc hdl_1 34 rfl) (by decide) ?_
        refine AW.iadd (dc hdl_1 35 rfl) ?_
        obtain ⟨g_131, h⟩ := h
        obtain ⟨g_132, h⟩ := h
        refine AW.scr hX (dc hdl_1 36 rfl) g_1 g_131 g_132 ?_
        obtain ⟨g_133, h⟩ := h
        obtain ⟨g_134, h⟩ := h
        obtain ⟨g_135, h⟩ := h
        obtain ⟨w_136, h⟩ := h
        refine AW.callV (As := [(0, XS (w32 (v3 + 1)).toNat)]) (rest := []) (ci := 9) (m_F_many l E n C v1 (XS (w32 (v3 + 1)).toNat) _ w_136) cb_11_45 im_F_many se_F_many ⟨_, _, rfl⟩ (by decide) (dc hdl_1 37 rfl) g_133 rfl rfl ⟨Nat.le_of_ble_eq_true rfl, Nat.le_of_ble_eq_true rfl⟩ ⟨g_134, g_135⟩ (Nat.le_of_ble_eq_true rfl) (fun _ h => by cases h) (fun _ => rfl) (fun r_137 C_138 d_139 q_140 => ?_)
        obtain ⟨q_140a, q_140h⟩ := q_140
        subst d_139
        show AW p l e _ s m args below meth c E (M_L_law nmz) true _ n _ _ _ [(3, v0), (2, v1), (2, v2), (0, v3)] [(0, r_137)] C_138
        refine AW.ra_n (dc hdl_1 38 rfl) rfl rfl rfl ?_
        refine AW.ra_n (dc hdl_1 39 rfl) rfl rfl rfl ?_
        refine AW.iload_n (dc hdl_1 40 rfl) rfl ?_
        refine AW.iconst (dc hdl_1 41 rfl) (by decide) ?_
        refine AW.iadd (dc hdl_1 42 rfl) ?_
        refine AW.scr hX (dc hdl_1 43 rfl) g_1 g_131 g_132 ?_
        obtain ⟨g_141, h⟩ := h
        refine AW.callV (As := [(0, XS (w32 (v3 + 1)).toNat)]) (rest := [(0, r_137)]) (ci := 10) (m_G_many l E n C_138 v2 (XS (w32 (v3 + 1)).toNat) _ q_140h) cb_11_48 im_G_many se_G_many ⟨_, _, rfl⟩ (by decide) (dc hdl_1 44 rfl) g_141 rfl rfl ⟨Nat.le_of_ble_eq_true rfl, Nat.le_of_ble_eq_true rfl⟩ ⟨g_134, g_135⟩ (Nat.le_of_ble_eq_true rfl) (fun _ h => by cases h) (fun _ => rfl) (fun r_142 C_143 d_144 q_145 => ?_)
        obtain ⟨q_145a, q_145e, q_145i⟩ := q_145
        subst d_144
        subst q_145e
        have h := h C_143 q_145i
        show AW p l e _ s m args below meth c E (M_L_law nmz) true _ n _ _ _ [(3, v0), (2, v1), (2, v2), (0, v3)] [(0, _), (0, _)] C_143
        refine AW.icmp_eq (t := 1698) (dc hdl_1 45 rfl) (by decide) (fun _ => ?_) (fun c => absurd rfl c)
        refine AW.iinc [(3, v0), (2, v1), (2, v2), (0, w32 (v3 + 6))] (dc hdl_6 20 rfl) rfl (Nat.le_of_ble_eq_true rfl) rfl rfl ?_
        refine AW.goto (t := 18) (dc hdl_6 21 rfl) (by decide) ?_
        exact hkz18 C_143 n kc ks (w32 (v3 + 6)) h
      | 8, hj =>
        cases hj
        have h := h.2.2.2.2.2.2.2.2.1 (hx.trans (by decide))
        refine AW.ra_n (dc hdl_1 48 rfl) rfl rfl rfl ?_
        refine AW.ra_n (dc hdl_1 49 rfl) rfl rfl rfl ?_
        refine AW.iload_n (dc hdl_1 50 rfl) rfl ?_
        refine AW.iconst (dc hdl_1 51 rfl) (by decide) ?_
        refine AW.iadd (dc hdl_1 52 rfl) ?_
        obtain ⟨g_146, h⟩ := h
        obtain ⟨g_147, h⟩ := h
        refine AW.scr hX (dc hdl_1 53 rfl) g_1 g_146 g_147 ?_
        refine AW.ra_n (dc hdl_1 54 rfl) rfl rfl rfl ?_
        refine AW.iload_n (dc hdl_1 55 rfl) rfl ?_
        refine AW.iconst (dc hdl_1 56 rfl) (by decide) ?_
        refine AW.iadd (dc hdl_1 57 rfl) ?_
        obtain ⟨g_148, h⟩ := h
        obtain ⟨g_149, h⟩ := h
        refine AW.scr hX (dc hdl_1 58 rfl) g_1 g_148 g_149 ?_
        obtain ⟨g_150, h⟩ := h
        obtain ⟨g_151, h⟩ := h
        obtain ⟨g_152, h⟩ := h
        obtain ⟨w_153, h⟩ := h
        refine AW.callV (As := [(0, XS (w32 (v3 + 1)).toNat), (0, XS (w32 (v3 + 2)).toNat)]) (rest := []) (ci := 9) (m_F_end l E n C v1 (XS (w32 (v3 + 1)).toNat) (XS (w32 (v3 + 2)).toNat) _ w_153) cb_11_49 im_F_end se_F_end ⟨_, _, rfl⟩ (by decide) (dc hdl_1 59 rfl) g_150 rfl rfl ⟨Nat.le_of_ble_eq_true rfl, Nat.le_of_ble_eq_true rfl⟩ ⟨g_151, g_152⟩ (Nat.le_of_ble_eq_true rfl) (fun _ h => by cases h) (fun _ => rfl) (fun r_154 C_155 d_156 q_157 => ?_)
        obtain ⟨q_157a, q_157h⟩ := q_157
        subst d_156
        show AW p l e _ s m args below meth c E (M_L_law nmz) true _ n _ _ _ [(3, v0), (2, v1), (2, v2), (0, v3)] [(0, r_154)] C_155
        refine AW.ra_n (dc hdl_1 60 rfl) rfl rfl rfl ?_
        refine AW.ra_n (dc hdl_1 61 rfl) rfl rfl rfl ?_
        refine AW.iload_n (dc hdl_1 62 rfl) rfl ?_
        refine AW.iconst (dc hdl_1 63 rfl) (by decide) ?_
        refine AW.iadd (dc hdl_1 64 rfl) ?_
        refine AW.scr hX (dc hdl_1 65 rfl) g_1 g_146 g_147 ?_
        refine AW.ra_n (dc hdl_1 66 rfl) rfl rfl rfl ?_
        refine AW.iload_n (dc hdl_1 67 rfl) rfl ?_
        refine AW.iconst (dc hdl_1 68 rfl) (by decide) ?_
        refine AW.iadd (dc hdl_1 69 rfl) ?_
        refine AW.scr hX (dc hdl_1 70 rfl) g_1 g_148 g_149 ?_
        obtain ⟨g_158, h⟩ := h
        refine AW.callV (As := [(0, XS (w32 (v3 + 1)).toNat), (0, XS (w32 (v3 + 2)).toNat)]) (rest := [(0, r_154)]) (ci := 10) (m_G_end l E n C_155 v2 (XS (w32 (v3 + 1)).toNat) (XS (w32 (v3 + 2)).toNat) _ q_157h) cb_11_52 im_G_end se_G_end ⟨_, _, rfl⟩ (by decide) (dc hdl_1 71 rfl) g_158 rfl rfl ⟨Nat.le_of_ble_eq_true rfl, Nat.le_of_ble_eq_true rfl⟩ ⟨g_151, g_152⟩ (Nat.le_of_ble_eq_true rfl) (fun _ h => by cases h) (fun _ => rfl) (fun r_159 C_160 d_161 q_162 => ?_)
        obtain ⟨q_162a, q_162e, q_162i⟩ := q_162
        subst d_161
        subst q_162e
        have h := h C_160 q_162i
        show AW p l e _ s m args below meth c E (M_L_law nmz) true _ n _ _ _ [(3, v0), (2, v1), (2, v2), (0, v3)] [(0, _), (0, _)] C_160
        refine AW.icmp_eq (t := 1698) (dc hdl_1 72 rfl) (by decide) (fun _ => ?_) (fun c => absurd rfl c)
        refine AW.iinc [(3, v0), (2, v1), (2, v2), (0, w32 (v3 + 6))] (dc hdl_6 20 rfl) rfl (Nat.le_of_ble_eq_true rfl) rfl rfl ?_
        refine AW.goto (t := 18) (dc hdl_6 21 rfl) (by decide) ?_
        exact hkz18 C_160 n kc ks (w32 (v3 + 6)) h
      | 9, hj =>
        cases hj
        have h := h.2.2.2.2.2.2.2.2.2.1 (hx.trans (by decide))
        refine AW.ra_n (dc hdl_1 75 rfl) rfl rfl rfl ?_
        refine AW.ra_n (dc hdl_1 76 rfl) rfl rfl rfl ?_
        refine AW.iload_n (dc hdl_1 77 rfl) rfl ?_
        refine AW.iconst (dc hdl_1 78 rfl) (by decide) ?_
        refine AW.iadd (dc hdl_1 79 rfl) ?_
        obtain ⟨g_163, h⟩ := h
        obtain ⟨g_164, h⟩ := h
        refine AW.scr hX (dc hdl_1 80 rfl) g_1 g_163 g_164 ?_
        refine AW.ra_n (dc hdl_1 81 rfl) rfl rfl rfl ?_
        refine AW.iload_n (dc hdl_1 82 rfl) rfl ?_
        refine AW.iconst (dc hdl_1 83 rfl) (by decide) ?_
        refine AW.iadd (dc hdl_1 84 rfl) ?_
        obtain ⟨g_165, h⟩ := h
        obtain ⟨g_166, h⟩ := h
        refine AW.scr hX (dc hdl_1 85 rfl) g_1 g_165 g_166 ?_
        obtain ⟨g_167, h⟩ := h
        obtain ⟨g_168, h⟩ := h
        obtain ⟨g_169, h⟩ := h
        obtain ⟨w_170, h⟩ := h
        refine AW.callV (As := [(0, XS (w32 (v3 + 1)).toNat), (0, XS (w32 (v3 + 2)).toNat)]) (rest := []) (ci := 9) (m_F_field l E n C v1 (XS (w32 (v3 + 1)).toNat) (XS (w32 (v3 + 2)).toNat) _ w_170) cb_11_53 im_F_field se_F_field ⟨_, _, rfl⟩ (by decide) (dc hdl_1 86 rfl) g_167 rfl rfl ⟨Nat.le_of_ble_eq_true rfl, Nat.le_of_ble_eq_true rfl⟩ ⟨g_168, g_169⟩ (Nat.le_of_ble_eq_true rfl) (fun _ h => by cases h) (fun _ => rfl) (fun r_171 C_172 d_173 q_174 => ?_)
        obtain ⟨q_174a, q_174h⟩ := q_174
        subst d_173
        show AW p l e _ s m args below meth c E (M_L_law nmz) true _ n _ _ _ [(3, v0), (2, v1), (2, v2), (0, v3)] [(0, r_171)] C_172
        refine AW.ra_n (dc hdl_1 87 rfl) rfl rfl rfl ?_
        refine AW.ra_n (dc hdl_1 88 rfl) rfl rfl rfl ?_
        refine AW.iload_n (dc hdl_1 89 rfl) rfl ?_
        refine AW.iconst (dc hdl_1 90 rfl) (by decide) ?_
        refine AW.iadd (dc hdl_1 91 rfl) ?_
        refine AW.scr hX (dc hdl_1 92 rfl) g_1 g_163 g_164 ?_
        refine AW.ra_n (dc hdl_1 93 rfl) rfl rfl rfl ?_
        refine AW.iload_n (dc hdl_1 94 rfl) rfl ?_
        refine AW.iconst (dc hdl_1 95 rfl) (by decide) ?_
        refine AW.iadd (dc hdl_1 96 rfl) ?_
        refine AW.scr hX (dc hdl_1 97 rfl) g_1 g_165 g_166 ?_
        obtain ⟨g_175, h⟩ := h
        refine AW.callV (As := [(0, XS (w32 (v3 + 1)).toNat), (0, XS (w32 (v3 + 2)).toNat)]) (rest := [(0, r_171)]) (ci := 10) (m_G_field l E n C_172 v2 (XS (w32 (v3 + 1)).toNat) (XS (w32 (v3 + 2)).toNat) _ q_174h) cb_11_56 im_G_field se_G_field ⟨_, _, rfl⟩ (by decide) (dc hdl_1 98 rfl) g_175 rfl rfl ⟨Nat.le_of_ble_eq_true rfl, Nat.le_of_ble_eq_true rfl⟩ ⟨g_168, g_169⟩ (Nat.le_of_ble_eq_true rfl) (fun _ h => by cases h) (fun _ => rfl) (fun r_176 C_177 d_178 q_179 => ?_)
        obtain ⟨q_179a, q_179e, q_179i⟩ := q_179
        subst d_178
        subst q_179e
        have h := h C_177 q_179i
        show AW p l e _ s m args below meth c E (M_L_law nmz) true _ n _ _ _ [(3, v0), (2, v1), (2, v2), (0, v3)] [(0, _), (0, _)] C_177
        refine AW.icmp_eq (t := 1698) (dc hdl_1 99 rfl) (by decide) (fun _ => ?_) (fun c => absurd rfl c)
        refine AW.iinc [(3, v0), (2, v1), (2, v2), (0, w32 (v3 + 6))] (dc hdl_6 20 rfl) rfl (Nat.le_of_ble_eq_true rfl) rfl rfl ?_
        refine AW.goto (t := 18) (dc hdl_6 21 rfl) (by decide) ?_
        exact hkz18 C_177 n kc ks (w32 (v3 + 6)) h
      | 10, hj =>
        cases hj
        have h := h.2.2.2.2.2.2.2.2.2.2.1 (hx.trans (by decide))
        refine AW.ra_n (dc hdl_1 102 rfl) rfl rfl rfl ?_
        refine AW.ra_n (dc hdl_1 103 rfl) rfl rfl rfl ?_
        refine AW.iload_n (dc hdl_1 104 rfl) rfl ?_
        refine AW.iconst (dc hdl_1 105 rfl) (by decide) ?_
        refine AW.iadd (dc hdl_1 106 rfl) ?_
        obtain ⟨g_180, h⟩ := h
        obtain ⟨g_181, h⟩ := h
        refine AW.scr hX (dc hdl_1 107 rfl) g_1 g_180 g_181 ?_
        refine AW.ra_n (dc hdl_1 108 rfl) rfl rfl rfl ?_
        refine AW.iload_n (dc hdl_1 109 rfl) rfl ?_
        refine AW.iconst (dc hdl_1 110 rfl) (by decide) ?_
        refine AW.iadd (dc hdl_1 111 rfl) ?_
        obtain ⟨g_182, h⟩ := h
        obtain ⟨g_183, h⟩ := h
        refine AW.scr hX (dc hdl_1 112 rfl) g_1 g_182 g_183 ?_
        obtain ⟨g_184, h⟩ := h
        obtain ⟨g_185, h⟩ := h
        obtain ⟨g_186, h⟩ := h
        obtain ⟨w_187, h⟩ := h
        refine AW.callV (As := [(0, XS (w32 (v3 + 1)).toNat), (0, XS (w32 (v3 + 2)).toNat)]) (rest := []) (ci := 9) (m_F_at l E n C v1 (XS (w32 (v3 + 1)).toNat) (XS (w32 (v3 + 2)).toNat) _ w_187) cb_11_57 im_F_at se_F_at ⟨_, _, rfl⟩ (by decide) (dc hdl_1 113 rfl) g_184 rfl rfl ⟨Nat.le_of_ble_eq_true rfl, Nat.le_of_ble_eq_true rfl⟩ ⟨g_185, g_186⟩ (Nat.le_of_ble_eq_true rfl) (fun _ h => by cases h) (fun _ => rfl) (fun r_188 C_189 d_190 q_191 => ?_)
        obtain ⟨q_191a, q_191h⟩ := q_191
        subst d_190
        show AW p l e _ s m args below meth c E (M_L_law nmz) true _ n _ _ _ [(3, v0), (2, v1), (2, v2), (0, v3)] [(0, r_188)] C_189
        refine AW.ra_n (dc hdl_1 114 rfl) rfl rfl rfl ?_
        refine AW.ra_n (dc hdl_1 115 rfl) rfl rfl rfl ?_
        refine AW.iload_n (dc hdl_1 116 rfl) rfl ?_
        refine AW.iconst (dc hdl_1 117 rfl) (by decide) ?_
        refine AW.iadd (dc hdl_1 118 rfl) ?_
        refine AW.scr hX (dc hdl_1 119 rfl) g_1 g_180 g_181 ?_
        refine AW.ra_n (dc hdl_1 120 rfl) rfl rfl rfl ?_
        refine AW.iload_n (dc hdl_1 121 rfl) rfl ?_
        refine AW.iconst (dc hdl_1 122 rfl) (by decide) ?_
        refine AW.iadd (dc hdl_1 123 rfl) ?_
        refine AW.scr hX (dc hdl_1 124 rfl) g_1 g_182 g_183 ?_
        obtain ⟨g_192, h⟩ := h
        refine AW.callV (As := [(0, XS (w32 (v3 + 1)).toNat), (0, XS (w32 (v3 + 2)).toNat)]) (rest := [(0, r_188)]) (ci := 10) (m_G_at l E n C_189 v2 (XS (w32 (v3 + 1)).toNat) (XS (w32 (v3 + 2)).toNat) _ q_191h) cb_11_60 im_G_at se_G_at ⟨_, _, rfl⟩ (by decide) (dc hdl_1 125 rfl) g_192 rfl rfl ⟨Nat.le_of_ble_eq_true rfl, Nat.le_of_ble_eq_true rfl⟩ ⟨g_185, g_186⟩ (Nat.le_of_ble_eq_true rfl) (fun _ h => by cases h) (fun _ => rfl) (fun r_193 C_194 d_195 q_196 => ?_)
        obtain ⟨q_196a, q_196e, q_196i⟩ := q_196
        subst d_195
        subst q_196e
        have h := h C_194 q_196i
        show AW p l e _ s m args below meth c E (M_L_law nmz) true _ n _ _ _ [(3, v0), (2, v1), (2, v2), (0, v3)] [(0, _), (0, _)] C_194
        refine AW.icmp_eq (t := 1698) (dc hdl_1 126 rfl) (by decide) (fun _ => ?_) (fun c => absurd rfl c)
        refine AW.iinc [(3, v0), (2, v1), (2, v2), (0, w32 (v3 + 6))] (dc hdl_6 20 rfl) rfl (Nat.le_of_ble_eq_true rfl) rfl rfl ?_
        refine AW.goto (t := 18) (dc hdl_6 21 rfl) (by decide) ?_
        exact hkz18 C_194 n kc ks (w32 (v3 + 6)) h
      | 11, hj =>
        cases hj
        have h := h.2.2.2.2.2.2.2.2.2.2.2.1 (hx.trans (by decide))
        refine AW.ra_n (dc hdl_1 129 rfl) rfl rfl rfl ?_
        refine AW.ra_n (dc hdl_1 130 rfl) rfl rfl rfl ?_
        refine AW.iload_n (dc hdl_1 131 rfl) rfl ?_
        refine AW.iconst (dc hdl_1 132 rfl) (by decide) ?_
        refine AW.iadd (dc hdl_1 133 rfl) ?_
        obtain ⟨g_197, h⟩ := h
        obtain ⟨g_198, h⟩ := h
        refine AW.scr hX (dc hdl_1 134 rfl) g_1 g_197 g_198 ?_
        refine AW.ra_n (dc hdl_1 135 rfl) rfl rfl rfl ?_
        refine AW.iload_n (dc hdl_1 136 rfl) rfl ?_
        refine AW.iconst (dc hdl_1 137 rfl) (by decide) ?_
        refine AW.iadd (dc hdl_1 138 rfl) ?_
        obtain ⟨g_199, h⟩ := h
        obtain ⟨g_200, h⟩ := h
        refine AW.scr hX (dc hdl_1 139 rfl) g_1 g_199 g_200 ?_
        refine AW.ra_n (dc hdl_1 140 rfl) rfl rfl rfl ?_
        refine AW.iload_n (dc hdl_1 141 rfl) rfl ?_
        refine AW.iconst (dc hdl_1 142 rfl) (by decide) ?_
        refine AW.iadd (dc hdl_1 143 rfl) ?_
        obtain ⟨g_201, h⟩ := h
        obtain ⟨g_202, h⟩ := h
        refine AW.scr hX (dc hdl_1 144 rfl) g_1 g_201 g_202 ?_
        obtain ⟨g_203, h⟩ := h
        obtain ⟨g_204, h⟩ := h
        obtain ⟨g_205, h⟩ := h
        obtain ⟨w_206, h⟩ := h
        refine AW.callV (As := [(0, XS (w32 (v3 + 1)).toNat), (0, XS (w32 (v3 + 2)).toNat), (0, XS (w32 (v3 + 3)).toNat)]) (rest := []) (ci := 9) (m_F_near l E n C v1 (XS (w32 (v3 + 1)).toNat) (XS (w32 (v3 + 2)).toNat) (XS (w32 (v3 + 3)).toNat) _ w_206) cb_11_61 im_F_near se_F_near ⟨_, _, rfl⟩ (by decide) (dc hdl_1 145 rfl) g_203 rfl rfl ⟨Nat.le_of_ble_eq_true rfl, Nat.le_of_ble_eq_true rfl⟩ ⟨g_204, g_205⟩ (Nat.le_of_ble_eq_true rfl) (fun _ h => by cases h) (fun _ => rfl) (fun r_207 C_208 d_209 q_210 => ?_)
        obtain ⟨q_210a, q_210h⟩ := q_210
        subst d_209
        show AW p l e _ s m args below meth c E (M_L_law nmz) true _ n _ _ _ [(3, v0), (2, v1), (2, v2), (0, v3)] [(0, r_207)] C_208
        refine AW.ra_n (dc hdl_1 146 rfl) rfl rfl rfl ?_
        refine AW.ra_n (dc hdl_1 147 rfl) rfl rfl rfl ?_
        refine AW.iload_n (dc hdl_1 148 rfl) rfl ?_
        refine AW.iconst (dc hdl_1 149 rfl) (by decide) ?_
        refine AW.iadd (dc hdl_1 150 rfl) ?_
        refine AW.scr hX (dc hdl_1 151 rfl) g_1 g_197 g_198 ?_
        refine AW.ra_n (dc hdl_1 152 rfl) rfl rfl rfl ?_
        refine AW.iload_n (dc hdl_1 153 rfl) rfl ?_
        refine AW.iconst (dc hdl_1 154 rfl) (by decide) ?_
        refine AW.iadd (dc hdl_1 155 rfl) ?_
        refine AW.scr hX (dc hdl_1 156 rfl) g_1 g_199 g_200 ?_
        refine AW.ra_n (dc hdl_1 157 rfl) rfl rfl rfl ?_
        refine AW.iload_n (dc hdl_1 158 rfl) rfl ?_
        refine AW.iconst (dc hdl_1 159 rfl) (by decide) ?_
        refine AW.iadd (dc hdl_1 160 rfl) ?_
        refine AW.scr hX (dc hdl_1 161 rfl) g_1 g_201 g_202 ?_
        obtain ⟨g_211, h⟩ := h
        refine AW.callV (As := [(0, XS (w32 (v3 + 1)).toNat), (0, XS (w32 (v3 + 2)).toNat), (0, XS (w32 (v3 + 3)).toNat)]) (rest := [(0, r_207)]) (ci := 10) (m_G_near l E n C_208 v2 (XS (w32 (v3 + 1)).toNat) (XS (w32 (v3 + 2)).toNat) (XS (w32 (v3 + 3)).toNat) _ q_210h) cb_11_65 im_G_near se_G_near ⟨_, _, rfl⟩ (by decide) (dc hdl_1 162 rfl) g_211 rfl rfl ⟨Nat.le_of_ble_eq_true rfl, Nat.le_of_ble_eq_true rfl⟩ ⟨g_204, g_205⟩ (Nat.le_of_ble_eq_true rfl) (fun _ h => by cases h) (fun _ => rfl) (fun r_212 C_213 d_214 q_215 => ?_)
        obtain ⟨q_215a, q_215e, q_215i⟩ := q_215
        subst d_214
        subst q_215e
        have h := h C_213 q_215i
        show AW p l e _ s m args below meth c E (M_L_law nmz) true _ n _ _ _ [(3, v0), (2, v1), (2, v2), (0, v3)] [(0, _), (0, _)] C_213
        refine AW.icmp_eq (t := 1698) (dc hdl_1 163 rfl) (by decide) (fun _ => ?_) (fun c => absurd rfl c)
        refine AW.iinc [(3, v0), (2, v1), (2, v2), (0, w32 (v3 + 6))] (dc hdl_6 20 rfl) rfl (Nat.le_of_ble_eq_true rfl) rfl rfl ?_
        refine AW.goto (t := 18) (dc hdl_6 21 rfl) (by decide) ?_
        exact hkz18 C_213 n kc ks (w32 (v3 + 6)) h
      | 12, hj =>
        cases hj
        have h := h.2.2.2.2.2.2.2.2.2.2.2.2.1 (hx.trans (by decide))
        refine AW.ra_n (dc hdl_1 166 rfl) rfl rfl rfl ?_
        refine AW.ra_n (dc hdl_1 167 rfl) rfl rfl rfl ?_
        refine AW.iload_n (dc hdl_1 168 rfl) rfl ?_
        refine AW.iconst (dc hdl_1 169 rfl) (by decide) ?_
        refine AW.iadd (dc hdl_1 170 rfl) ?_
        obtain ⟨g_216, h⟩ := h
        obtain ⟨g_217, h⟩ := h
        refine AW.scr hX (dc hdl_1 171 rfl) g_1 g_216 g_217 ?_
        refine AW.ra_n (dc hdl_1 172 rfl) rfl rfl rfl ?_
        refine AW.iload_n (dc hdl_1 173 rfl) rfl ?_
        refine AW.iconst (dc hdl_1 174 rfl) (by decide) ?_
        refine AW.iadd (dc hdl_1 175 rfl) ?_
        obtain ⟨g_218, h⟩ := h
        obtain ⟨g_219, h⟩ := h
        refine AW.scr hX (dc hdl_1 176 rfl) g_1 g_218 g_219 ?_
        refine AW.ra_n (dc hdl_1 177 rfl) rfl rfl rfl ?_
        refine AW.iload_n (dc hdl_1 178 rfl) rfl ?_
        refine AW.iconst (dc hdl_1 179 rfl) (by decide) ?_
        refine AW.iadd (dc hdl_1 180 rfl) ?_
        obtain ⟨g_220, h⟩ := h
        obtain ⟨g_221, h⟩ := h
        refine AW.scr hX (dc hdl_1 181 rfl) g_1 g_220 g_221 ?_
        refine AW.ra_n (dc hdl_1 182 rfl) rfl rfl rfl ?_
        refine AW.iload_n (dc hdl_1 183 rfl) rfl ?_
        refine AW.iconst (dc hdl_1 184 rfl) (by decide) ?_
        refine AW.iadd (dc hdl_1 185 rfl) ?_
        obtain ⟨g_222, h⟩ := h
        obtain ⟨g_223, h⟩ := h
        refine AW.scr hX (dc hdl_1 186 rfl) g_1 g_222 g_223 ?_
        obtain ⟨g_224, h⟩ := h
        obtain ⟨g_225, h⟩ := h
        obtain ⟨g_226, h⟩ := h
        obtain ⟨w_227, h⟩ := h
        refine AW.callV (As := [(0, XS (w32 (v3 + 1)).toNat), (0, XS (w32 (v3 + 2)).toNat), (0, XS (w32 (v3 + 3)).toNat), (0, XS (w32 (v3 + 4)).toNat)]) (rest := []) (ci := 9) (m_F_sight l E n C v1 (XS (w32 (v3 + 1)).toNat) (XS (w32 (v3 + 2)).toNat) (XS (w32 (v3 + 3)).toNat) (XS (w32 (v3 + 4)).toNat) _ w_227) cb_11_66 im_F_sight se_F_sight ⟨_, _, rfl⟩ (by decide) (dc hdl_1 187 rfl) g_224 rfl rfl ⟨Nat.le_of_ble_eq_true rfl, Nat.le_of_ble_eq_true rfl⟩ ⟨g_225, g_226⟩ (Nat.le_of_ble_eq_true rfl) (fun _ h => by cases h) (fun _ => rfl) (fun r_228 C_229 d_230 q_231 => ?_)
        obtain ⟨q_231a, q_231h⟩ := q_231
        subst d_230
        show AW p l e _ s m args below meth c E (M_L_law nmz) true _ n _ _ _ [(3, v0), (2, v1), (2, v2), (0, v3)] [(0, r_228)] C_229
        refine AW.ra_n (dc hdl_1 188 rfl) rfl rfl rfl ?_
        refine AW.ra_n (dc hdl_1 189 rfl) rfl rfl rfl ?_
        refine AW.iload_n (dc hdl_1 190 rfl) rfl ?_
        refine AW.iconst (dc hdl_1 191 rfl) (by decide) ?_
        refine AW.iadd (dc hdl_1 192 rfl) ?_
        refine AW.scr hX (dc hdl_1 193 rfl) g_1 g_216 g_217 ?_
        refine AW.ra_n (dc hdl_1 194 rfl) rfl rfl rfl ?_
        refine AW.iload_n (dc hdl_1 195 rfl) rfl ?_
        refine AW.iconst (dc hdl_1 196 rfl) (by decide) ?_
        refine AW.iadd (dc hdl_1 197 rfl) ?_
        refine AW.scr hX (dc hdl_1 198 rfl) g_1 g_218 g_219 ?_
        refine AW.ra_n (dc hdl_1 199 rfl) rfl rfl rfl ?_
        refine AW.iload_n (dc hdl_2 0 rfl) rfl ?_
        refine AW.iconst (dc hdl_2 1 rfl) (by decide) ?_
        refine AW.iadd (dc hdl_2 2 rfl) ?_
        refine AW.scr hX (dc hdl_2 3 rfl) g_1 g_220 g_221 ?_
        refine AW.ra_n (dc hdl_2 4 rfl) rfl rfl rfl ?_
        refine AW.iload_n (dc hdl_2 5 rfl) rfl ?_
        refine AW.iconst (dc hdl_2 6 rfl) (by decide) ?_
        refine AW.iadd (dc hdl_2 7 rfl) ?_
        refine AW.scr hX (dc hdl_2 8 rfl) g_1 g_222 g_223 ?_
        obtain ⟨g_232, h⟩ := h
        refine AW.callV (As := [(0, XS (w32 (v3 + 1)).toNat), (0, XS (w32 (v3 + 2)).toNat), (0, XS (w32 (v3 + 3)).toNat), (0, XS (w32 (v3 + 4)).toNat)]) (rest := [(0, r_228)]) (ci := 10) (m_G_sight l E n C_229 v2 (XS (w32 (v3 + 1)).toNat) (XS (w32 (v3 + 2)).toNat) (XS (w32 (v3 + 3)).toNat) (XS (w32 (v3 + 4)).toNat) _ q_231h) cb_11_70 im_G_sight se_G_sight ⟨_, _, rfl⟩ (by decide) (dc hdl_2 9 rfl) g_232 rfl rfl ⟨Nat.le_of_ble_eq_true rfl, Nat.le_of_ble_eq_true rfl⟩ ⟨g_225, g_226⟩ (Nat.le_of_ble_eq_true rfl) (fun _ h => by cases h) (fun _ => rfl) (fun r_233 C_234 d_235 q_236 => ?_)
        obtain ⟨q_236a, q_236e, q_236i⟩ := q_236
        subst d_235
        subst q_236e
        have h := h C_234 q_236i
        show AW p l e _ s m args below meth c E (M_L_law nmz) true _ n _ _ _ [(3, v0), (2, v1), (2, v2), (0, v3)] [(0, _), (0, _)] C_234
        refine AW.icmp_eq (t := 1698) (dc hdl_2 10 rfl) (by decide) (fun _ => ?_) (fun c => absurd rfl c)
        refine AW.iinc [(3, v0), (2, v1), (2, v2), (0, w32 (v3 + 6))] (dc hdl_6 20 rfl) rfl (Nat.le_of_ble_eq_true rfl) rfl rfl ?_
        refine AW.goto (t := 18) (dc hdl_6 21 rfl) (by decide) ?_
        exact hkz18 C_234 n kc ks (w32 (v3 + 6)) h
      | 13, hj =>
        cases hj
        have h := h.2.2.2.2.2.2.2.2.2.2.2.2.2.1 (hx.trans (by decide))
        refine AW.ra_n (dc hdl_2 13 rfl) rfl rfl rfl ?_
        refine AW.ra_n (dc hdl_2 14 rfl) rfl rfl rfl ?_
        refine AW.iload_n (dc hdl_2 15 rfl) rfl ?_
        refine AW.iconst (dc hdl_2 16 rfl) (by decide) ?_
        refine AW.iadd (dc hdl_2 17 rfl) ?_
        obtain ⟨g_237, h⟩ := h
        obtain ⟨g_238, h⟩ := h
        refine AW.scr hX (dc hdl_2 18 rfl) g_1 g_237 g_238 ?_
        refine AW.ra_n (dc hdl_2 19 rfl) rfl rfl rfl ?_
        refine AW.iload_n (dc hdl_2 20 rfl) rfl ?_
        refine AW.iconst (dc hdl_2 21 rfl) (by decide) ?_
        refine AW.iadd (dc hdl_2 22 rfl) ?_
        obtain ⟨g_239, h⟩ := h
        obtain ⟨g_240, h⟩ := h
        refine AW.scr hX (dc hdl_2 23 rfl) g_1 g_239 g_240 ?_
        obtain ⟨g_241, h⟩ := h
        obtain ⟨g_242, h⟩ := h
        obtain ⟨g_243, h⟩ := h
        obtain ⟨w_244, h⟩ := h
        refine AW.callV (As := [(0, XS (w32 (v3 + 1)).toNat), (0, XS (w32 (v3 + 2)).toNat)]) (rest := []) (ci := 9) (m_F_steps l E n C v1 (XS (w32 (v3 + 1)).toNat) (XS (w32 (v3 + 2)).toNat) _ w_244) cb_11_71 im_F_steps se_F_steps ⟨_, _, rfl⟩ (by decide) (dc hdl_2 24 rfl) g_241 rfl rfl ⟨Nat.le_of_ble_eq_true rfl, Nat.le_of_ble_eq_true rfl⟩ ⟨g_242, g_243⟩ (Nat.le_of_ble_eq_true rfl) (fun _ h => by cases h) (fun _ => rfl) (fun r_245 C_246 d_247 q_248 => ?_)
        obtain ⟨q_248a, q_248h⟩ := q_248
        subst d_247
        show AW p l e _ s m args below meth c E (M_L_law nmz) true _ n _ _ _ [(3, v0), (2, v1), (2, v2), (0, v3)] [(0, r_245)] C_246
        refine AW.ra_n (dc hdl_2 25 rfl) rfl rfl rfl ?_
        refine AW.ra_n (dc hdl_2 26 rfl) rfl rfl rfl ?_
        refine AW.iload_n (dc hdl_2 27 rfl) rfl ?_
        refine AW.iconst (dc hdl_2 28 rfl) (by decide) ?_
        refine AW.iadd (dc hdl_2 29 rfl) ?_
        refine AW.scr hX (dc hdl_2 30 rfl) g_1 g_237 g_238 ?_
        refine AW.ra_n (dc hdl_2 31 rfl) rfl rfl rfl ?_
        refine AW.iload_n (dc hdl_2 32 rfl) rfl ?_
        refine AW.iconst (dc hdl_2 33 rfl) (by decide) ?_
        refine AW.iadd (dc hdl_2 34 rfl) ?_
        refine AW.scr hX (dc hdl_2 35 rfl) g_1 g_239 g_240 ?_
        obtain ⟨g_249, h⟩ := h
        refine AW.callV (As := [(0, XS (w32 (v3 + 1)).toNat), (0, XS (w32 (v3 + 2)).toNat)]) (rest := [(0, r_245)]) (ci := 10) (m_G_steps l E n C_246 v2 (XS (w32 (v3 + 1)).toNat) (XS (w32 (v3 + 2)).toNat) _ q_248h) cb_11_74 im_G_steps se_G_steps ⟨_, _, rfl⟩ (by decide) (dc hdl_2 36 rfl) g_249 rfl rfl ⟨Nat.le_of_ble_eq_true rfl, Nat.le_of_ble_eq_true rfl⟩ ⟨g_242, g_243⟩ (Nat.le_of_ble_eq_true rfl) (fun _ h => by cases h) (fun _ => rfl) (fun r_250 C_251 d_252 q_253 => ?_)
        obtain ⟨q_253a, q_253e, q_253i⟩ := q_253
        subst d_252
        subst q_253e
        have h := h C_251 q_253i
        show AW p l e _ s m args below meth c E (M_L_law nmz) true _ n _ _ _ [(3, v0), (2, v1), (2, v2), (0, v3)] [(0, _), (0, _)] C_251
        refine AW.icmp_eq (t := 1698) (dc hdl_2 37 rfl) (by decide) (fun _ => ?_) (fun c => absurd rfl c)
        refine AW.iinc [(3, v0), (2, v1), (2, v2), (0, w32 (v3 + 6))] (dc hdl_6 20 rfl) rfl (Nat.le_of_ble_eq_true rfl) rfl rfl ?_
        refine AW.goto (t := 18) (dc hdl_6 21 rfl) (by decide) ?_
        exact hkz18 C_251 n kc ks (w32 (v3 + 6)) h
      | 14, hj =>
        cases hj
        have h := h.2.2.2.2.2.2.2.2.2.2.2.2.2.2.1 (hx.trans (by decide))
        refine AW.ra_n (dc hdl_2 40 rfl) rfl rfl rfl ?_
        refine AW.ra_n (dc hdl_2 41 rfl) rfl rfl rfl ?_
        refine AW.iload_n (dc hdl_2 42 rfl) rfl ?_
        refine AW.iconst (dc hdl_2 43 rfl) (by decide) ?_
        refine AW.iadd (dc hdl_2 44 rfl) ?_
        obtain ⟨g_254, h⟩ := h
        obtain ⟨g_255, h⟩ := h
        refine AW.scr hX (dc hdl_2 45 rfl) g_1 g_254 g_255 ?_
        obtain ⟨g_256, h⟩ := h
        obtain ⟨g_257, h⟩ := h
        obtain ⟨g_258, h⟩ := h
        obtain ⟨w_259, h⟩ := h
        refine AW.callV (As := [(0, XS (w32 (v3 + 1)).toNat)]) (rest := []) (ci := 9) (m_F_depth l E n C v1 (XS (w32 (v3 + 1)).toNat) _ w_259) cb_11_75 im_F_depth se_F_depth ⟨_, _, rfl⟩ (by decide) (dc hdl_2 46 rfl) g_256 rfl rfl ⟨Nat.le_of_ble_eq_true rfl, Nat.le_of_ble_eq_true rfl⟩ ⟨g_257, g_258⟩ (Nat.le_of_ble_eq_true rfl) (fun _ h => by cases h) (fun _ => rfl) (fun r_260 C_261 d_262 q_263 => ?_)
        obtain ⟨q_263a, q_263h⟩ := q_263
        subst d_262
        show AW p l e _ s m args below meth c E (M_L_law nmz) true _ n _ _ _ [(3, v0), (2, v1), (2, v2), (0, v3)] [(0, r_260)] C_261
        refine AW.ra_n (dc hdl_2 47 rfl) rfl rfl rfl ?_
        refine AW.ra_n (dc hdl_2 48 rfl) rfl rfl rfl ?_
        refine AW.iload_n (dc hdl_2 49 rfl) rfl ?_
        refine AW.iconst (dc hdl_2 50 rfl) (by decide) ?_
        refine AW.iadd (dc hdl_2 51 rfl) ?_
        refine AW.scr hX (dc hdl_2 52 rfl) g_1 g_254 g_255 ?_
        obtain ⟨g_264, h⟩ := h
        refine AW.callV (As := [(0, XS (w32 (v3 + 1)).toNat)]) (rest := [(0, r_260)]) (ci := 10) (m_G_depth l E n C_261 v2 (XS (w32 (v3 + 1)).toNat) _ q_263h) cb_11_78 im_G_depth se_G_depth ⟨_, _, rfl⟩ (by decide) (dc hdl_2 53 rfl) g_264 rfl rfl ⟨Nat.le_of_ble_eq_true rfl, Nat.le_of_ble_eq_true rfl⟩ ⟨g_257, g_258⟩ (Nat.le_of_ble_eq_true rfl) (fun _ h => by cases h) (fun _ => rfl) (fun r_265 C_266 d_267 q_268 => ?_)
        obtain ⟨q_268a, q_268e, q_268i⟩ := q_268
        subst d_267
        subst q_268e
        have h := h C_266 q_268i
        show AW p l e _ s m args below meth c E (M_L_law nmz) true _ n _ _ _ [(3, v0), (2, v1), (2, v2), (0, v3)] [(0, _), (0, _)] C_266
        refine AW.icmp_eq (t := 1698) (dc hdl_2 54 rfl) (by decide) (fun _ => ?_) (fun c => absurd rfl c)
        refine AW.iinc [(3, v0), (2, v1), (2, v2), (0, w32 (v3 + 6))] (dc hdl_6 20 rfl) rfl (Nat.le_of_ble_eq_true rfl) rfl rfl ?_
        refine AW.goto (t := 18) (dc hdl_6 21 rfl) (by decide) ?_
        exact hkz18 C_266 n kc ks (w32 (v3 + 6)) h
      | 15, hj =>
        cases hj
        have h := h.2.2.2.2.2.2.2.2.2.2.2.2.2.2.2.1 (hx.trans (by decide))
        refine AW.ra_n (dc hdl_2 57 rfl) rfl rfl rfl ?_
        refine AW.ra_n (dc hdl_2 58 rfl) rfl rfl rfl ?_
        refine AW.iload_n (dc hdl_2 59 rfl) rfl ?_
        refine AW.iconst (dc hdl_2 60 rfl) (by decide) ?_
        refine AW.iadd (dc hdl_2 61 rfl) ?_
        obtain ⟨g_269, h⟩ := h
        obtain ⟨g_270, h⟩ := h
        refine AW.scr hX (dc hdl_2 62 rfl) g_1 g_269 g_270 ?_
        refine AW.ra_n (dc hdl_2 63 rfl) rfl rfl rfl ?_
        refine AW.iload_n (dc hdl_2 64 rfl) rfl ?_
        refine AW.iconst (dc hdl_2 65 rfl) (by decide) ?_
        refine AW.iadd (dc hdl_2 66 rfl) ?_
        obtain ⟨g_271, h⟩ := h
        obtain ⟨g_272, h⟩ := h
        refine AW.scr hX (dc hdl_2 67 rfl) g_1 g_271 g_272 ?_
        obtain ⟨g_273, h⟩ := h
        obtain ⟨g_274, h⟩ := h
        obtain ⟨g_275, h⟩ := h
        obtain ⟨w_276, h⟩ := h
        refine AW.callV (As := [(0, XS (w32 (v3 + 1)).toNat), (0, XS (w32 (v3 + 2)).toNat)]) (rest := []) (ci := 9) (m_F_ordered l E n C v1 (XS (w32 (v3 + 1)).toNat) (XS (w32 (v3 + 2)).toNat) _ w_276) cb_11_79 im_F_ordered se_F_ordered ⟨_, _, rfl⟩ (by decide) (dc hdl_2 68 rfl) g_273 rfl rfl ⟨Nat.le_of_ble_eq_true rfl, Nat.le_of_ble_eq_true rfl⟩ ⟨g_274, g_275⟩ (Nat.le_of_ble_eq_true rfl) (fun _ h => by cases h) (fun _ => rfl) (fun r_277 C_278 d_279 q_280 => ?_)
        obtain ⟨q_280a, q_280h⟩ := q_280
        subst d_279
        show AW p l e _ s m args below meth c E (M_L_law nmz) true _ n _ _ _ [(3, v0), (2, v1), (2, v2), (0, v3)] [(0, r_277)] C_278
        refine AW.ra_n (dc hdl_2 69 rfl) rfl rfl rfl ?_
        refine AW.ra_n (dc hdl_2 70 rfl) rfl rfl rfl ?_
        refine AW.iload_n (dc hdl_2 71 rfl) rfl ?_
        refine AW.iconst (dc hdl_2 72 rfl) (by decide) ?_
        refine AW.iadd (dc hdl_2 73 rfl) ?_
        refine AW.scr hX (dc hdl_2 74 rfl) g_1 g_269 g_270 ?_
        refine AW.ra_n (dc hdl_2 75 rfl) rfl rfl rfl ?_
        refine AW.iload_n (dc hdl_2 76 rfl) rfl ?_
        refine AW.iconst (dc hdl_2 77 rfl) (by decide) ?_
        refine AW.iadd (dc hdl_2 78 rfl) ?_
        refine AW.scr hX (dc hdl_2 79 rfl) g_1 g_271 g_272 ?_
        obtain ⟨g_281, h⟩ := h
        refine AW.callV (As := [(0, XS (w32 (v3 + 1)).toNat), (0, XS (w32 (v3 + 2)).toNat)]) (rest := [(0, r_277)]) (ci := 10) (m_G_ordered l E n C_278 v2 (XS (w32 (v3 + 1)).toNat) (XS (w32 (v3 + 2)).toNat) _ q_280h) cb_11_82 im_G_ordered se_G_ordered ⟨_, _, rfl⟩ (by decide) (dc hdl_2 80 rfl) g_281 rfl rfl ⟨Nat.le_of_ble_eq_true rfl, Nat.le_of_ble_eq_true rfl⟩ ⟨g_274, g_275⟩ (Nat.le_of_ble_eq_true rfl) (fun _ h => by cases h) (fun _ => rfl) (fun r_282 C_283 d_284 q_285 => ?_)
        obtain ⟨q_285a, q_285e, q_285i⟩ := q_285
        subst d_284
        subst q_285e
        have h := h C_283 q_285i
        show AW p l e _ s m args below meth c E (M_L_law nmz) true _ n _ _ _ [(3, v0), (2, v1), (2, v2), (0, v3)] [(0, _), (0, _)] C_283
        refine AW.icmp_eq (t := 1698) (dc hdl_2 81 rfl) (by decide) (fun _ => ?_) (fun c => absurd rfl c)
        refine AW.iinc [(3, v0), (2, v1), (2, v2), (0, w32 (v3 + 6))] (dc hdl_6 20 rfl) rfl (Nat.le_of_ble_eq_true rfl) rfl rfl ?_
        refine AW.goto (t := 18) (dc hdl_6 21 rfl) (by decide) ?_
        exact hkz18 C_283 n kc ks (w32 (v3 + 6)) h
      | 16, hj =>
        cases hj
        have h := h.2.2.2.2.2.2.2.2.2.2.2.2.2.2.2.2.1 (hx.trans (by decide))
        refine AW.ra_n (dc hdl_2 84 rfl) rfl rfl rfl ?_
        obtain ⟨g_286, h⟩ := h
        obtain ⟨g_287, h⟩ := h
        obtain ⟨g_288, h⟩ := h
        obtain ⟨w_289, h⟩ := h
        refine AW.callV (As := []) (rest := []) (ci := 9) (m_F_best l E n C v1 _ w_289) cb_11_83 im_F_best se_F_best ⟨_, _, rfl⟩ (by decide) (dc hdl_2 85 rfl) g_286 rfl rfl ⟨Nat.le_of_ble_eq_true rfl, Nat.le_of_ble_eq_true rfl⟩ ⟨g_287, g_288⟩ (Nat.le_of_ble_eq_true rfl) (fun _ h => by cases h) (fun _ => rfl) (fun r_290 C_291 d_292 q_293 => ?_)
        obtain ⟨q_293a, q_293h⟩ := q_293
        subst d_292
        show AW p l e _ s m args below meth c E (M_L_law nmz) true _ n _ _ _ [(3, v0), (2, v1), (2, v2), (0, v3)] [(0, r_290)] C_291
        refine AW.ra_n (dc hdl_2 86 rfl) rfl rfl rfl ?_
        obtain ⟨g_294, h⟩ := h
        refine AW.callV (As := []) (rest := [(0, r_290)]) (ci := 10) (m_G_best l E n C_291 v2 _ q_293h) cb_11_86 im_G_best se_G_best ⟨_, _, rfl⟩ (by decide) (dc hdl_2 87 rfl) g_294 rfl rfl ⟨Nat.le_of_ble_eq_true rfl, Nat.le_of_ble_eq_true rfl⟩ ⟨g_287, g_288⟩ (Nat.le_of_ble_eq_true rfl) (fun _ h => by cases h) (fun _ => rfl) (fun r_295 C_296 d_297 q_298 => ?_)
        obtain ⟨q_298a, q_298e, q_298i⟩ := q_298
        subst d_297
        subst q_298e
        have h := h C_296 q_298i
        show AW p l e _ s m args below meth c E (M_L_law nmz) true _ n _ _ _ [(3, v0), (2, v1), (2, v2), (0, v3)] [(0, _), (0, _)] C_296
        refine AW.icmp_eq (t := 1698) (dc hdl_2 88 rfl) (by decide) (fun _ => ?_) (fun c => absurd rfl c)
        refine AW.iinc [(3, v0), (2, v1), (2, v2), (0, w32 (v3 + 6))] (dc hdl_6 20 rfl) rfl (Nat.le_of_ble_eq_true rfl) rfl rfl ?_
        refine AW.goto (t := 18) (dc hdl_6 21 rfl) (by decide) ?_
        exact hkz18 C_296 n kc ks (w32 (v3 + 6)) h
      | 17, hj =>
        cases hj
        have h := h.2.2.2.2.2.2.2.2.2.2.2.2.2.2.2.2.2.1 (hx.trans (by decide))
        refine AW.ra_n (dc hdl_2 91 rfl) rfl rfl rfl ?_
        refine AW.ra_n (dc hdl_2 92 rfl) rfl rfl rfl ?_
        refine AW.iload_n (dc hdl_2 93 rfl) rfl ?_
        refine AW.iconst (dc hdl_2 94 rfl) (by decide) ?_
        refine AW.iadd (dc hdl_2 95 rfl) ?_
        obtain ⟨g_299, h⟩ := h
        obtain ⟨g_300, h⟩ := h
        refine AW.scr hX (dc hdl_2 96 rfl) g_1 g_299 g_300 ?_
        obtain ⟨g_301, h⟩ := h
        obtain ⟨g_302, h⟩ := h
        obtain ⟨g_303, h⟩ := h
        obtain ⟨w_304, h⟩ := h
        refine AW.callV (As := [(0, XS (w32 (v3 + 1)).toNat)]) (rest := []) (ci := 9) (m_F_renumber l E n C v1 (XS (w32 (v3 + 1)).toNat) _ w_304) cb_11_87 im_F_renumber se_F_renumber ⟨_, _, rfl⟩ (by decide) (dc hdl_2 97 rfl) g_301 rfl rfl ⟨Nat.le_of_ble_eq_true rfl, Nat.le_of_ble_eq_true rfl⟩ ⟨g_302, g_303⟩ (Nat.le_of_ble_eq_true rfl) (fun _ h => by cases h) (fun _ => rfl) (fun r_305 C_306 d_307 q_308 => ?_)
        obtain ⟨q_308a, q_308h⟩ := q_308
        subst d_307
        show AW p l e _ s m args below meth c E (M_L_law nmz) true _ n _ _ _ [(3, v0), (2, v1), (2, v2), (0, v3)] [(0, r_305)] C_306
        refine AW.ra_n (dc hdl_2 98 rfl) rfl rfl rfl ?_
        refine AW.ra_n (dc hdl_2 99 rfl) rfl rfl rfl ?_
        refine AW.iload_n (dc hdl_2 100 rfl) rfl ?_
        refine AW.iconst (dc hdl_2 101 rfl) (by decide) ?_
        refine AW.iadd (dc hdl_2 102 rfl) ?_
        refine AW.scr hX (dc hdl_2 103 rfl) g_1 g_299 g_300 ?_
        obtain ⟨g_309, h⟩ := h
        refine AW.callV (As := [(0, XS (w32 (v3 + 1)).toNat)]) (rest := [(0, r_305)]) (ci := 10) (m_G_renumber l E n C_306 v2 (XS (w32 (v3 + 1)).toNat) _ q_308h) cb_11_90 im_G_renumber se_G_renumber ⟨_, _, rfl⟩ (by decide) (dc hdl_2 104 rfl) g_309 rfl rfl ⟨Nat.le_of_ble_eq_true rfl, Nat.le_of_ble_eq_true rfl⟩ ⟨g_302, g_303⟩ (Nat.le_of_ble_eq_true rfl) (fun _ h => by cases h) (fun _ => rfl) (fun r_310 C_311 d_312 q_313 => ?_)
        obtain ⟨q_313a, q_313e, q_313i⟩ := q_313
        subst d_312
        subst q_313e
        have h := h C_311 q_313i
        show AW p l e _ s m args below meth c E (M_L_law nmz) true _ n _ _ _ [(3, v0), (2, v1), (2, v2), (0, v3)] [(0, _), (0, _)] C_311
        refine AW.icmp_eq (t := 1698) (dc hdl_2 105 rfl) (by decide) (fun _ => ?_) (fun c => absurd rfl c)
        refine AW.iinc [(3, v0), (2, v1), (2, v2), (0, w32 (v3 + 6))] (dc hdl_6 20 rfl) rfl (Nat.le_of_ble_eq_true rfl) rfl rfl ?_
        refine AW.goto (t := 18) (dc hdl_6 21 rfl) (by decide) ?_
        exact hkz18 C_311 n kc ks (w32 (v3 + 6)) h
      | 18, hj =>
        cases hj
        have h := h.2.2.2.2.2.2.2.2.2.2.2.2.2.2.2.2.2.2.1 (hx.trans (by decide))
        refine AW.ra_n (dc hdl_2 108 rfl) rfl rfl rfl ?_
        refine AW.ra_n (dc hdl_2 109 rfl) rfl rfl rfl ?_
        refine AW.iload_n (dc hdl_2 110 rfl) rfl ?_
        refine AW.iconst (dc hdl_2 111 rfl) (by decide) ?_
        refine AW.iadd (dc hdl_2 112 rfl) ?_
        obtain ⟨g_314, h⟩ := h
        obtain ⟨g_315, h⟩ := h
        refine AW.scr hX (dc hdl_2 113 rfl) g_1 g_314 g_315 ?_
        refine AW.ra_n (dc hdl_2 114 rfl) rfl rfl rfl ?_
        refine AW.iload_n (dc hdl_2 115 rfl) rfl ?_
        refine AW.iconst (dc hdl_2 116 rfl) (by decide) ?_
        refine AW.iadd (dc hdl_2 117 rfl) ?_
        obtain ⟨g_316, h⟩ := h
        obtain ⟨g_317, h⟩ := h
        refine AW.scr hX (dc hdl_2 118 rfl) g_1 g_316 g_317 ?_
        obtain ⟨g_318, h⟩ := h
        obtain ⟨g_319, h⟩ := h
        obtain ⟨g_320, h⟩ := h
        obtain ⟨w_321, h⟩ := h
        refine AW.callV (As := [(0, XS (w32 (v3 + 1)).toNat), (0, XS (w32 (v3 + 2)).toNat)]) (rest := []) (ci := 9) (m_F_cost l E n C v1 (XS (w32 (v3 + 1)).toNat) (XS (w32 (v3 + 2)).toNat) _ w_321) cb_11_91 im_F_cost se_F_cost ⟨_, _, rfl⟩ (by decide) (dc hdl_2 119 rfl) g_318 rfl rfl ⟨Nat.le_of_ble_eq_true rfl, Nat.le_of_ble_eq_true rfl⟩ ⟨g_319, g_320⟩ (Nat.le_of_ble_eq_true rfl) (fun _ h => by cases h) (fun _ => rfl) (fun r_322 C_323 d_324 q_325 => ?_)
        obtain ⟨q_325a, q_325h⟩ := q_325
        subst d_324
        show AW p l e _ s m args below meth c E (M_L_law nmz) true _ n _ _ _ [(3, v0), (2, v1), (2, v2), (0, v3)] [(0, r_322)] C_323
        refine AW.ra_n (dc hdl_2 120 rfl) rfl rfl rfl ?_
        refine AW.ra_n (dc hdl_2 121 rfl) rfl rfl rfl ?_
        refine AW.iload_n (dc hdl_2 122 rfl) rfl ?_
        refine AW.iconst (dc hdl_2 123 rfl) (by decide) ?_
        refine AW.iadd (dc hdl_2 124 rfl) ?_
        refine AW.scr hX (dc hdl_2 125 rfl) g_1 g_314 g_315 ?_
        refine AW.ra_n (dc hdl_2 126 rfl) rfl rfl rfl ?_
        refine AW.iload_n (dc hdl_2 127 rfl) rfl ?_
        refine AW.iconst (dc hdl_2 128 rfl) (by decide) ?_
        refine AW.iadd (dc hdl_2 129 rfl) ?_
        refine AW.scr hX (dc hdl_2 130 rfl) g_1 g_316 g_317 ?_
        obtain ⟨g_326, h⟩ := h
        refine AW.callV (As := [(0, XS (w32 (v3 + 1)).toNat), (0, XS (w32 (v3 + 2)).toNat)]) (rest := [(0, r_322)]) (ci := 10) (m_G_cost l E n C_323 v2 (XS (w32 (v3 + 1)).toNat) (XS (w32 (v3 + 2)).toNat) _ q_325h) cb_11_94 im_G_cost se_G_cost ⟨_, _, rfl⟩ (by decide) (dc hdl_2 131 rfl) g_326 rfl rfl ⟨Nat.le_of_ble_eq_true rfl, Nat.le_of_ble_eq_true rfl⟩ ⟨g_319, g_320⟩ (Nat.le_of_ble_eq_true rfl) (fun _ h => by cases h) (fun _ => rfl) (fun r_327 C_328 d_329 q_330 => ?_)
        obtain ⟨q_330a, q_330e, q_330i⟩ := q_330
        subst d_329
        subst q_330e
        have h := h C_328 q_330i
        show AW p l e _ s m args below meth c E (M_L_law nmz) true _ n _ _ _ [(3, v0), (2, v1), (2, v2), (0, v3)] [(0, _), (0, _)] C_328
        refine AW.icmp_eq (t := 1698) (dc hdl_2 132 rfl) (by decide) (fun _ => ?_) (fun c => absurd rfl c)
        refine AW.iinc [(3, v0), (2, v1), (2, v2), (0, w32 (v3 + 6))] (dc hdl_6 20 rfl) rfl (Nat.le_of_ble_eq_true rfl) rfl rfl ?_
        refine AW.goto (t := 18) (dc hdl_6 21 rfl) (by decide) ?_
        exact hkz18 C_328 n kc ks (w32 (v3 + 6)) h
      | 19, hj =>
        cases hj
        have h := h.2.2.2.2.2.2.2.2.2.2.2.2.2.2.2.2.2.2.2.1 (hx.trans (by decide))
        refine AW.ra_n (dc hdl_2 135 rfl) rfl rfl rfl ?_
        refine AW.ra_n (dc hdl_2 136 rfl) rfl rfl rfl ?_
        refine AW.iload_n (dc hdl_2 137 rfl) rfl ?_
        refine AW.iconst (dc hdl_2 138 rfl) (by decide) ?_
        refine AW.iadd (dc hdl_2 139 rfl) ?_
        obtain ⟨g_331, h⟩ := h
        obtain ⟨g_332, h⟩ := h
        refine AW.scr hX (dc hdl_2 140 rfl) g_1 g_331 g_332 ?_
        refine AW.ra_n (dc hdl_2 141 rfl) rfl rfl rfl ?_
        refine AW.iload_n (dc hdl_2 142 rfl) rfl ?_
        refine AW.iconst (dc hdl_2 143 rfl) (by decide) ?_
        refine AW.iadd (dc hdl_2 144 rfl) ?_
        obtain ⟨g_333, h⟩ := h
        obtain ⟨g_334, h⟩ := h
        refine AW.scr hX (dc hdl_2 145 rfl) g_1 g_333 g_334 ?_
        obtain ⟨g_335, h⟩ := h
        obtain ⟨g_336, h⟩ := h
        obtain ⟨g_337, h⟩ := h
        obtain ⟨w_338, h⟩ := h
        refine AW.callV (As := [(0, XS (w32 (v3 + 1)).toNat), (0, XS (w32 (v3 + 2)).toNat)]) (rest := []) (ci := 9) (m_F_next l E n C v1 (XS (w32 (v3 + 1)).toNat) (XS (w32 (v3 + 2)).toNat) _ w_338) cb_11_95 im_F_next se_F_next ⟨_, _, rfl⟩ (by decide) (dc hdl_2 146 rfl) g_335 rfl rfl ⟨Nat.le_of_ble_eq_true rfl, Nat.le_of_ble_eq_true rfl⟩ ⟨g_336, g_337⟩ (Nat.le_of_ble_eq_true rfl) (fun _ h => by cases h) (fun _ => rfl) (fun r_339 C_340 d_341 q_342 => ?_)
        obtain ⟨q_342a, q_342h⟩ := q_342
        subst d_341
        show AW p l e _ s m args below meth c E (M_L_law nmz) true _ n _ _ _ [(3, v0), (2, v1), (2, v2), (0, v3)] [(0, r_339)] C_340
        refine AW.ra_n (dc hdl_2 147 rfl) rfl rfl rfl ?_
        refine AW.ra_n (dc hdl_2 148 rfl) rfl rfl rfl ?_
        refine AW.iload_n (dc hdl_2 149 rfl) rfl ?_
        refine AW.iconst (dc hdl_2 150 rfl) (by decide) ?_
        refine AW.iadd (dc hdl_2 151 rfl) ?_
        refine AW.scr hX (dc hdl_2 152 rfl) g_1 g_331 g_332 ?_
        refine AW.ra_n (dc hdl_2 153 rfl) rfl rfl rfl ?_
        refine AW.iload_n (dc hdl_2 154 rfl) rfl ?_
        refine AW.iconst (dc hdl_2 155 rfl) (by decide) ?_
        refine AW.iadd (dc hdl_2 156 rfl) ?_
        refine AW.scr hX (dc hdl_2 157 rfl) g_1 g_333 g_334 ?_
        obtain ⟨g_343, h⟩ := h
        refine AW.callV (As := [(0, XS (w32 (v3 + 1)).toNat), (0, XS (w32 (v3 + 2)).toNat)]) (rest := [(0, r_339)]) (ci := 10) (m_G_next l E n C_340 v2 (XS (w32 (v3 + 1)).toNat) (XS (w32 (v3 + 2)).toNat) _ q_342h) cb_11_98 im_G_next se_G_next ⟨_, _, rfl⟩ (by decide) (dc hdl_2 158 rfl) g_343 rfl rfl ⟨Nat.le_of_ble_eq_true rfl, Nat.le_of_ble_eq_true rfl⟩ ⟨g_336, g_337⟩ (Nat.le_of_ble_eq_true rfl) (fun _ h => by cases h) (fun _ => rfl) (fun r_344 C_345 d_346 q_347 => ?_)
        obtain ⟨q_347a, q_347e, q_347i⟩ := q_347
        subst d_346
        subst q_347e
        have h := h C_345 q_347i
        show AW p l e _ s m args below meth c E (M_L_law nmz) true _ n _ _ _ [(3, v0), (2, v1), (2, v2), (0, v3)] [(0, _), (0, _)] C_345
        refine AW.icmp_eq (t := 1698) (dc hdl_2 159 rfl) (by decide) (fun _ => ?_) (fun c => absurd rfl c)
        refine AW.iinc [(3, v0), (2, v1), (2, v2), (0, w32 (v3 + 6))] (dc hdl_6 20 rfl) rfl (Nat.le_of_ble_eq_true rfl) rfl rfl ?_
        refine AW.goto (t := 18) (dc hdl_6 21 rfl) (by decide) ?_
        exact hkz18 C_345 n kc ks (w32 (v3 + 6)) h
      | 20, hj =>
        cases hj
        have h := h.2.2.2.2.2.2.2.2.2.2.2.2.2.2.2.2.2.2.2.2.1 (hx.trans (by decide))
        refine AW.ra_n (dc hdl_2 162 rfl) rfl rfl rfl ?_
        refine AW.ra_n (dc hdl_2 163 rfl) rfl rfl rfl ?_
        refine AW.iload_n (dc hdl_2 164 rfl) rfl ?_
        refine AW.iconst (dc hdl_2 165 rfl) (by decide) ?_
        refine AW.iadd (dc hdl_2 166 rfl) ?_
        obtain ⟨g_348, h⟩ := h
        obtain ⟨g_349, h⟩ := h
        refine AW.scr hX (dc hdl_2 167 rfl) g_1 g_348 g_349 ?_
        refine AW.ra_n (dc hdl_2 168 rfl) rfl rfl rfl ?_
        refine AW.iload_n (dc hdl_2 169 rfl) rfl ?_
        refine AW.iconst (dc hdl_2 170 rfl) (by decide) ?_
        refine AW.iadd (dc hdl_2 171 rfl) ?_
        obtain ⟨g_350, h⟩ := h
        obtain ⟨g_351, h⟩ := h
        refine AW.scr hX (dc hdl_2 172 rfl) g_1 g_350 g_351 ?_
        obtain ⟨g_352, h⟩ := h
        obtain ⟨g_353, h⟩ := h
        obtain ⟨g_354, h⟩ := h
        obtain ⟨w_355, h⟩ := h
        refine AW.callV (As := [(0, XS (w32 (v3 + 1)).toNat), (0, XS (w32 (v3 + 2)).toNat)]) (rest := []) (ci := 9) (m_F_within l E n C v1 (XS (w32 (v3 + 1)).toNat) (XS (w32 (v3 + 2)).toNat) _ w_355) cb_11_99 im_F_within se_F_within ⟨_, _, rfl⟩ (by decide) (dc hdl_2 173 rfl) g_352 rfl rfl ⟨Nat.le_of_ble_eq_true rfl, Nat.le_of_ble_eq_true rfl⟩ ⟨g_353, g_354⟩ (Nat.le_of_ble_eq_true rfl) (fun _ h => by cases h) (fun _ => rfl) (fun r_356 C_357 d_358 q_359 => ?_)
        obtain ⟨q_359a, q_359h⟩ := q_359
        subst d_358
        show AW p l e _ s m args below meth c E (M_L_law nmz) true _ n _ _ _ [(3, v0), (2, v1), (2, v2), (0, v3)] [(0, r_356)] C_357
        refine AW.ra_n (dc hdl_2 174 rfl) rfl rfl rfl ?_
        refine AW.ra_n (dc hdl_2 175 rfl) rfl rfl rfl ?_
        refine AW.iload_n (dc hdl_2 176 rfl) rfl ?_
        refine AW.iconst (dc hdl_2 177 rfl) (by decide) ?_
        refine AW.iadd (dc hdl_2 178 rfl) ?_
        refine AW.scr hX (dc hdl_2 179 rfl) g_1 g_348 g_349 ?_
        refine AW.ra_n (dc hdl_2 180 rfl) rfl rfl rfl ?_
        refine AW.iload_n (dc hdl_2 181 rfl) rfl ?_
        refine AW.iconst (dc hdl_2 182 rfl) (by decide) ?_
        refine AW.iadd (dc hdl_2 183 rfl) ?_
        refine AW.scr hX (dc hdl_2 184 rfl) g_1 g_350 g_351 ?_
        obtain ⟨g_360, h⟩ := h
        refine AW.callV (As := [(0, XS (w32 (v3 + 1)).toNat), (0, XS (w32 (v3 + 2)).toNat)]) (rest := [(0, r_356)]) (ci := 10) (m_G_within l E n C_357 v2 (XS (w32 (v3 + 1)).toNat) (XS (w32 (v3 + 2)).toNat) _ q_359h) cb_11_102 im_G_within se_G_within ⟨_, _, rfl⟩ (by decide) (dc hdl_2 185 rfl) g_360 rfl rfl ⟨Nat.le_of_ble_eq_true rfl, Nat.le_of_ble_eq_true rfl⟩ ⟨g_353, g_354⟩ (Nat.le_of_ble_eq_true rfl) (fun _ h => by cases h) (fun _ => rfl) (fun r_361 C_362 d_363 q_364 => ?_)
        obtain ⟨q_364a, q_364e, q_364i⟩ := q_364
        subst d_363
        subst q_364e
        have h := h C_362 q_364i
        show AW p l e _ s m args below meth c E (M_L_law nmz) true _ n _ _ _ [(3, v0), (2, v1), (2, v2), (0, v3)] [(0, _), (0, _)] C_362
        refine AW.icmp_eq (t := 1698) (dc hdl_2 186 rfl) (by decide) (fun _ => ?_) (fun c => absurd rfl c)
        refine AW.iinc [(3, v0), (2, v1), (2, v2), (0, w32 (v3 + 6))] (dc hdl_6 20 rfl) rfl (Nat.le_of_ble_eq_true rfl) rfl rfl ?_
        refine AW.goto (t := 18) (dc hdl_6 21 rfl) (by decide) ?_
        exact hkz18 C_362 n kc ks (w32 (v3 + 6)) h
      | 21, hj =>
        cases hj
        have h := h.2.2.2.2.2.2.2.2.2.2.2.2.2.2.2.2.2.2.2.2.2.1 (hx.trans (by decide))
        refine AW.ra_n (dc hdl_2 189 rfl) rfl rfl rfl ?_
        refine AW.ra_n (dc hdl_2 190 rfl) rfl rfl rfl ?_
        refine AW.iload_n (dc hdl_2 191 rfl) rfl ?_
        refine AW.iconst (dc hdl_2 192 rfl) (by decide) ?_
        refine AW.iadd (dc hdl_2 193 rfl) ?_
        obtain ⟨g_365, h⟩ := h
        obtain ⟨g_366, h⟩ := h
        refine AW.scr hX (dc hdl_2 194 rfl) g_1 g_365 g_366 ?_
        refine AW.ra_n (dc hdl_2 195 rfl) rfl rfl rfl ?_
        refine AW.iload_n (dc hdl_2 196 rfl) rfl ?_
        refine AW.iconst (dc hdl_2 197 rfl) (by decide) ?_
        refine AW.iadd (dc hdl_2 198 rfl) ?_
        obtain ⟨g_367, h⟩ := h
        obtain ⟨g_368, h⟩ := h
        refine AW.scr hX (dc hdl_2 199 rfl) g_1 g_367 g_368 ?_
        refine AW.ra_n (dc hdl_3 0 rfl) rfl rfl rfl ?_
        refine AW.iload_n (dc hdl_3 1 rfl) rfl ?_
        refine AW.iconst (dc hdl_3 2 rfl) (by decide) ?_
        refine AW.iadd (dc hdl_3 3 rfl) ?_
        obtain ⟨g_369, h⟩ := h
        obtain ⟨g_370, h⟩ := h
        refine AW.scr hX (dc hdl_3 4 rfl) g_1 g_369 g_370 ?_
        refine AW.ra_n (dc hdl_3 5 rfl) rfl rfl rfl ?_
        refine AW.iload_n (dc hdl_3 6 rfl) rfl ?_
        refine AW.iconst (dc hdl_3 7 rfl) (by decide) ?_
        refine AW.iadd (dc hdl_3 8 rfl) ?_
        obtain ⟨g_371, h⟩ := h
        obtain ⟨g_372, h⟩ := h
        refine AW.scr hX (dc hdl_3 9 rfl) g_1 g_371 g_372 ?_
        obtain ⟨g_373, h⟩ := h
        obtain ⟨g_374, h⟩ := h
        obtain ⟨g_375, h⟩ := h
        obtain ⟨w_376, h⟩ := h
        refine AW.callV (As := [(0, XS (w32 (v3 + 1)).toNat), (0, XS (w32 (v3 + 2)).toNat), (0, XS (w32 (v3 + 3)).toNat), (0, XS (w32 (v3 + 4)).toNat)]) (rest := []) (ci := 9) (m_F_lose l E n C v1 (XS (w32 (v3 + 1)).toNat) (XS (w32 (v3 + 2)).toNat) (XS (w32 (v3 + 3)).toNat) (XS (w32 (v3 + 4)).toNat) _ w_376) cb_11_103 im_F_lose se_F_lose ⟨_, _, rfl⟩ (by decide) (dc hdl_3 10 rfl) g_373 rfl rfl ⟨Nat.le_of_ble_eq_true rfl, Nat.le_of_ble_eq_true rfl⟩ ⟨g_374, g_375⟩ (Nat.le_of_ble_eq_true rfl) (fun _ h => by cases h) (fun _ => rfl) (fun r_377 C_378 d_379 q_380 => ?_)
        obtain ⟨q_380a, q_380h⟩ := q_380
        subst d_379
        show AW p l e _ s m args below meth c E (M_L_law nmz) true _ n _ _ _ [(3, v0), (2, v1), (2, v2), (0, v3)] [(0, r_377)] C_378
        refine AW.ra_n (dc hdl_3 11 rfl) rfl rfl rfl ?_
        refine AW.ra_n (dc hdl_3 12 rfl) rfl rfl rfl ?_
        refine AW.iload_n (dc hdl_3 13 rfl) rfl ?_
        refine AW.iconst (dc hdl_3 14 rfl) (by decide) ?_
        refine AW.iadd (dc hdl_3 15 rfl) ?_
        refine AW.scr hX (dc hdl_3 16 rfl) g_1 g_365 g_366 ?_
        refine AW.ra_n (dc hdl_3 17 rfl) rfl rfl rfl ?_
        refine AW.iload_n (dc hdl_3 18 rfl) rfl ?_
        refine AW.iconst (dc hdl_3 19 rfl) (by decide) ?_
        refine AW.iadd (dc hdl_3 20 rfl) ?_
        refine AW.scr hX (dc hdl_3 21 rfl) g_1 g_367 g_368 ?_
        refine AW.ra_n (dc hdl_3 22 rfl) rfl rfl rfl ?_
        refine AW.iload_n (dc hdl_3 23 rfl) rfl ?_
        refine AW.iconst (dc hdl_3 24 rfl) (by decide) ?_
        refine AW.iadd (dc hdl_3 25 rfl) ?_
        refine AW.scr hX (dc hdl_3 26 rfl) g_1 g_369 g_370 ?_
        refine AW.ra_n (dc hdl_3 27 rfl) rfl rfl rfl ?_
        refine AW.iload_n (dc hdl_3 28 rfl) rfl ?_
        refine AW.iconst (dc hdl_3 29 rfl) (by decide) ?_
        refine AW.iadd (dc hdl_3 30 rfl) ?_
        refine AW.scr hX (dc hdl_3 31 rfl) g_1 g_371 g_372 ?_
        obtain ⟨g_381, h⟩ := h
        refine AW.callV (As := [(0, XS (w32 (v3 + 1)).toNat), (0, XS (w32 (v3 + 2)).toNat), (0, XS (w32 (v3 + 3)).toNat), (0, XS (w32 (v3 + 4)).toNat)]) (rest := [(0, r_377)]) (ci := 10) (m_G_lose l E n C_378 v2 (XS (w32 (v3 + 1)).toNat) (XS (w32 (v3 + 2)).toNat) (XS (w32 (v3 + 3)).toNat) (XS (w32 (v3 + 4)).toNat) _ q_380h) cb_11_106 im_G_lose se_G_lose ⟨_, _, rfl⟩ (by decide) (dc hdl_3 32 rfl) g_381 rfl rfl ⟨Nat.le_of_ble_eq_true rfl, Nat.le_of_ble_eq_true rfl⟩ ⟨g_374, g_375⟩ (Nat.le_of_ble_eq_true rfl) (fun _ h => by cases h) (fun _ => rfl) (fun r_382 C_383 d_384 q_385 => ?_)
        obtain ⟨q_385a, q_385e, q_385i⟩ := q_385
        subst d_384
        subst q_385e
        have h := h C_383 q_385i
        show AW p l e _ s m args below meth c E (M_L_law nmz) true _ n _ _ _ [(3, v0), (2, v1), (2, v2), (0, v3)] [(0, _), (0, _)] C_383
        refine AW.icmp_eq (t := 1698) (dc hdl_3 33 rfl) (by decide) (fun _ => ?_) (fun c => absurd rfl c)
        refine AW.iinc [(3, v0), (2, v1), (2, v2), (0, w32 (v3 + 6))] (dc hdl_6 20 rfl) rfl (Nat.le_of_ble_eq_true rfl) rfl rfl ?_
        refine AW.goto (t := 18) (dc hdl_6 21 rfl) (by decide) ?_
        exact hkz18 C_383 n kc ks (w32 (v3 + 6)) h
      | 22, hj =>
        cases hj
        have h := h.2.2.2.2.2.2.2.2.2.2.2.2.2.2.2.2.2.2.2.2.2.2.1 (hx.trans (by decide))
        refine AW.ra_n (dc hdl_3 36 rfl) rfl rfl rfl ?_
        refine AW.ra_n (dc hdl_3 37 rfl) rfl rfl rfl ?_
        refine AW.iload_n (dc hdl_3 38 rfl) rfl ?_
        refine AW.iconst (dc hdl_3 39 rfl) (by decide) ?_
        refine AW.iadd (dc hdl_3 40 rfl) ?_
        obtain ⟨g_386, h⟩ := h
        obtain ⟨g_387, h⟩ := h
        refine AW.scr hX (dc hdl_3 41 rfl) g_1 g_386 g_387 ?_
        refine AW.ra_n (dc hdl_3 42 rfl) rfl rfl rfl ?_
        refine AW.iload_n (dc hdl_3 43 rfl) rfl ?_
        refine AW.iconst (dc hdl_3 44 rfl) (by decide) ?_
        refine AW.iadd (dc hdl_3 45 rfl) ?_
        obtain ⟨g_388, h⟩ := h
        obtain ⟨g_389, h⟩ := h
        refine AW.scr hX (dc hdl_3 46 rfl) g_1 g_388 g_389 ?_
        refine AW.ra_n (dc hdl_3 47 rfl) rfl rfl rfl ?_
        refine AW.iload_n (dc hdl_3 48 rfl) rfl ?_
        refine AW.iconst (dc hdl_3 49 rfl) (by decide) ?_
        refine AW.iadd (dc hdl_3 50 rfl) ?_
        obtain ⟨g_390, h⟩ := h
        obtain ⟨g_391, h⟩ := h
        refine AW.scr hX (dc hdl_3 51 rfl) g_1 g_390 g_391 ?_
        refine AW.ra_n (dc hdl_3 52 rfl) rfl rfl rfl ?_
        refine AW.iload_n (dc hdl_3 53 rfl) rfl ?_
        refine AW.iconst (dc hdl_3 54 rfl) (by decide) ?_
        refine AW.iadd (dc hdl_3 55 rfl) ?_
        obtain ⟨g_392, h⟩ := h
        obtain ⟨g_393, h⟩ := h
        refine AW.scr hX (dc hdl_3 56 rfl) g_1 g_392 g_393 ?_
        refine AW.ra_n (dc hdl_3 57 rfl) rfl rfl rfl ?_
        refine AW.iload_n (dc hdl_3 58 rfl) rfl ?_
        refine AW.iconst (dc hdl_3 59 rfl) (by decide) ?_
        refine AW.iadd (dc hdl_3 60 rfl) ?_
        obtain ⟨g_394, h⟩ := h
        obtain ⟨g_395, h⟩ := h
        refine AW.scr hX (dc hdl_3 61 rfl) g_1 g_394 g_395 ?_
        obtain ⟨g_396, h⟩ := h
        obtain ⟨g_397, h⟩ := h
        obtain ⟨g_398, h⟩ := h
        obtain ⟨w_399, h⟩ := h
        refine AW.callV (As := [(0, XS (w32 (v3 + 1)).toNat), (0, XS (w32 (v3 + 2)).toNat), (0, XS (w32 (v3 + 3)).toNat), (0, XS (w32 (v3 + 4)).toNat), (0, XS (w32 (v3 + 5)).toNat)]) (rest := []) (ci := 9) (m_F_kindFor l E n C v1 (XS (w32 (v3 + 1)).toNat) (XS (w32 (v3 + 2)).toNat) (XS (w32 (v3 + 3)).toNat) (XS (w32 (v3 + 4)).toNat) (XS (w32 (v3 + 5)).toNat) _ w_399) cb_11_107 im_F_kindFor se_F_kindFor ⟨_, _, rfl⟩ (by decide) (dc hdl_3 62 rfl) g_396 rfl rfl ⟨Nat.le_of_ble_eq_true rfl, Nat.le_of_ble_eq_true rfl⟩ ⟨g_397, g_398⟩ (Nat.le_of_ble_eq_true rfl) (fun _ h => by cases h) (fun _ => rfl) (fun r_400 C_401 d_402 q_403 => ?_)
        obtain ⟨q_403a, q_403h⟩ := q_403
        subst d_402
        show AW p l e _ s m args below meth c E (M_L_law nmz) true _ n _ _ _ [(3, v0), (2, v1), (2, v2), (0, v3)] [(0, r_400)] C_401
        refine AW.ra_n (dc hdl_3 63 rfl) rfl rfl rfl ?_
        refine AW.ra_n (dc hdl_3 64 rfl) rfl rfl rfl ?_
        refine AW.iload_n (dc hdl_3 65 rfl) rfl ?_
        refine AW.iconst (dc hdl_3 66 rfl) (by decide) ?_
        refine AW.iadd (dc hdl_3 67 rfl) ?_
        refine AW.scr hX (dc hdl_3 68 rfl) g_1 g_386 g_387 ?_
        refine AW.ra_n (dc hdl_3 69 rfl) rfl rfl rfl ?_
        refine AW.iload_n (dc hdl_3 70 rfl) rfl ?_
        refine AW.iconst (dc hdl_3 71 rfl) (by decide) ?_
        refine AW.iadd (dc hdl_3 72 rfl) ?_
        refine AW.scr hX (dc hdl_3 73 rfl) g_1 g_388 g_389 ?_
        refine AW.ra_n (dc hdl_3 74 rfl) rfl rfl rfl ?_
        refine AW.iload_n (dc hdl_3 75 rfl) rfl ?_
        refine AW.iconst (dc hdl_3 76 rfl) (by decide) ?_
        refine AW.iadd (dc hdl_3 77 rfl) ?_
        refine AW.scr hX (dc hdl_3 78 rfl) g_1 g_390 g_391 ?_
        refine AW.ra_n (dc hdl_3 79 rfl) rfl rfl rfl ?_
        refine AW.iload_n (dc hdl_3 80 rfl) rfl ?_
        refine AW.iconst (dc hdl_3 81 rfl) (by decide) ?_
        refine AW.iadd (dc hdl_3 82 rfl) ?_
        refine AW.scr hX (dc hdl_3 83 rfl) g_1 g_392 g_393 ?_
        refine AW.ra_n (dc hdl_3 84 rfl) rfl rfl rfl ?_
        refine AW.iload_n (dc hdl_3 85 rfl) rfl ?_
        refine AW.iconst (dc hdl_3 86 rfl) (by decide) ?_
        refine AW.iadd (dc hdl_3 87 rfl) ?_
        refine AW.scr hX (dc hdl_3 88 rfl) g_1 g_394 g_395 ?_
        obtain ⟨g_404, h⟩ := h
        refine AW.callV (As := [(0, XS (w32 (v3 + 1)).toNat), (0, XS (w32 (v3 + 2)).toNat), (0, XS (w32 (v3 + 3)).toNat), (0, XS (w32 (v3 + 4)).toNat), (0, XS (w32 (v3 + 5)).toNat)]) (rest := [(0, r_400)]) (ci := 10) (m_G_kindFor l E n C_401 v2 (XS (w32 (v3 + 1)).toNat) (XS (w32 (v3 + 2)).toNat) (XS (w32 (v3 + 3)).toNat) (XS (w32 (v3 + 4)).toNat) (XS (w32 (v3 + 5)).toNat) _ q_403h) cb_11_110 im_G_kindFor se_G_kindFor ⟨_, _, rfl⟩ (by decide) (dc hdl_3 89 rfl) g_404 rfl rfl ⟨Nat.le_of_ble_eq_true rfl, Nat.le_of_ble_eq_true rfl⟩ ⟨g_397, g_398⟩ (Nat.le_of_ble_eq_true rfl) (fun _ h => by cases h) (fun _ => rfl) (fun r_405 C_406 d_407 q_408 => ?_)
        obtain ⟨q_408a, q_408e, q_408i⟩ := q_408
        subst d_407
        subst q_408e
        have h := h C_406 q_408i
        show AW p l e _ s m args below meth c E (M_L_law nmz) true _ n _ _ _ [(3, v0), (2, v1), (2, v2), (0, v3)] [(0, _), (0, _)] C_406
        refine AW.icmp_eq (t := 1698) (dc hdl_3 90 rfl) (by decide) (fun _ => ?_) (fun c => absurd rfl c)
        refine AW.iinc [(3, v0), (2, v1), (2, v2), (0, w32 (v3 + 6))] (dc hdl_6 20 rfl) rfl (Nat.le_of_ble_eq_true rfl) rfl rfl ?_
        refine AW.goto (t := 18) (dc hdl_6 21 rfl) (by decide) ?_
        exact hkz18 C_406 n kc ks (w32 (v3 + 6)) h
      | 23, hj =>
        cases hj
        have h := h.2.2.2.2.2.2.2.2.2.2.2.2.2.2.2.2.2.2.2.2.2.2.2.1 (hx.trans (by decide))
        refine AW.ra_n (dc hdl_3 93 rfl) rfl rfl rfl ?_
        refine AW.ra_n (dc hdl_3 94 rfl) rfl rfl rfl ?_
        refine AW.iload_n (dc hdl_3 95 rfl) rfl ?_
        refine AW.iconst (dc hdl_3 96 rfl) (by decide) ?_
        refine AW.iadd (dc hdl_3 97 rfl) ?_
        obtain ⟨g_409, h⟩ := h
        obtain ⟨g_410, h⟩ := h
        refine AW.scr hX (dc hdl_3 98 rfl) g_1 g_409 g_410 ?_
        refine AW.ra_n (dc hdl_3 99 rfl) rfl rfl rfl ?_
        refine AW.iload_n (dc hdl_3 100 rfl) rfl ?_
        refine AW.iconst (dc hdl_3 101 rfl) (by decide) ?_
        refine AW.iadd (dc hdl_3 102 rfl) ?_
        obtain ⟨g_411, h⟩ := h
        obtain ⟨g_412, h⟩ := h
        refine AW.scr hX (dc hdl_3 103 rfl) g_1 g_411 g_412 ?_
        obtain ⟨g_413, h⟩ := h
        obtain ⟨g_414, h⟩ := h
        obtain ⟨g_415, h⟩ := h
        obtain ⟨w_416, h⟩ := h
        refine AW.callV (As := [(0, XS (w32 (v3 + 1)).toNat), (0, XS (w32 (v3 + 2)).toNat)]) (rest := []) (ci := 9) (m_F_asks l E n C v1 (XS (w32 (v3 + 1)).toNat) (XS (w32 (v3 + 2)).toNat) _ w_416) cb_11_111 im_F_asks se_F_asks ⟨_, _, rfl⟩ (by decide) (dc hdl_3 104 rfl) g_413 rfl rfl ⟨Nat.le_of_ble_eq_true rfl, Nat.le_of_ble_eq_true rfl⟩ ⟨g_414, g_415⟩ (Nat.le_of_ble_eq_true rfl) (fun _ h => by cases h) (fun _ => rfl) (fun r_417 C_418 d_419 q_420 => ?_)
        obtain ⟨q_420a, q_420h⟩ := q_420
        subst d_419
        show AW p l e _ s m args below meth c E (M_L_law nmz) true _ n _ _ _ [(3, v0), (2, v1), (2, v2), (0, v3)] [(0, r_417)] C_418
        refine AW.ra_n (dc hdl_3 105 rfl) rfl rfl rfl ?_
        refine AW.ra_n (dc hdl_3 106 rfl) rfl rfl rfl ?_
        refine AW.iload_n (dc hdl_3 107 rfl) rfl ?_
        refine AW.iconst (dc hdl_3 108 rfl) (by decide) ?_
        refine AW.iadd (dc hdl_3 109 rfl) ?_
        refine AW.scr hX (dc hdl_3 110 rfl) g_1 g_409 g_410 ?_
        refine AW.ra_n (dc hdl_3 111 rfl) rfl rfl rfl ?_
        refine AW.iload_n (dc hdl_3 112 rfl) rfl ?_
        refine AW.iconst (dc hdl_3 113 rfl) (by decide) ?_
        refine AW.iadd (dc hdl_3 114 rfl) ?_
        refine AW.scr hX (dc hdl_3 115 rfl) g_1 g_411 g_412 ?_
        obtain ⟨g_421, h⟩ := h
        refine AW.callV (As := [(0, XS (w32 (v3 + 1)).toNat), (0, XS (w32 (v3 + 2)).toNat)]) (rest := [(0, r_417)]) (ci := 10) (m_G_asks l E n C_418 v2 (XS (w32 (v3 + 1)).toNat) (XS (w32 (v3 + 2)).toNat) _ q_420h) cb_11_114 im_G_asks se_G_asks ⟨_, _, rfl⟩ (by decide) (dc hdl_3 116 rfl) g_421 rfl rfl ⟨Nat.le_of_ble_eq_true rfl, Nat.le_of_ble_eq_true rfl⟩ ⟨g_414, g_415⟩ (Nat.le_of_ble_eq_true rfl) (fun _ h => by cases h) (fun _ => rfl) (fun r_422 C_423 d_424 q_425 => ?_)
        obtain ⟨q_425a, q_425e, q_425i⟩ := q_425
        subst d_424
        subst q_425e
        have h := h C_423 q_425i
        show AW p l e _ s m args below meth c E (M_L_law nmz) true _ n _ _ _ [(3, v0), (2, v1), (2, v2), (0, v3)] [(0, _), (0, _)] C_423
        refine AW.icmp_eq (t := 1698) (dc hdl_3 117 rfl) (by decide) (fun _ => ?_) (fun c => absurd rfl c)
        refine AW.iinc [(3, v0), (2, v1), (2, v2), (0, w32 (v3 + 6))] (dc hdl_6 20 rfl) rfl (Nat.le_of_ble_eq_true rfl) rfl rfl ?_
        refine AW.goto (t := 18) (dc hdl_6 21 rfl) (by decide) ?_
        exact hkz18 C_423 n kc ks (w32 (v3 + 6)) h
      | 24, hj =>
        cases hj
        have h := h.2.2.2.2.2.2.2.2.2.2.2.2.2.2.2.2.2.2.2.2.2.2.2.2.1 (hx.trans (by decide))
        refine AW.ra_n (dc hdl_3 120 rfl) rfl rfl rfl ?_
        refine AW.ra_n (dc hdl_3 121 rfl) rfl rfl rfl ?_
        refine AW.iload_n (dc hdl_3 122 rfl) rfl ?_
        refine AW.iconst (dc hdl_3 123 rfl) (by decide) ?_
        refine AW.iadd (dc hdl_3 124 rfl) ?_
        obtain ⟨g_426, h⟩ := h
        obtain ⟨g_427, h⟩ := h
        refine AW.scr hX (dc hdl_3 125 rfl) g_1 g_426 g_427 ?_
        obtain ⟨g_428, h⟩ := h
        obtain ⟨g_429, h⟩ := h
        obtain ⟨g_430, h⟩ := h
        obtain ⟨w_431, h⟩ := h
        refine AW.callV (As := [(0, XS (w32 (v3 + 1)).toNat)]) (rest := []) (ci := 9) (m_F_loose l E n C v1 (XS (w32 (v3 + 1)).toNat) _ w_431) cb_11_115 im_F_loose se_F_loose ⟨_, _, rfl⟩ (by decide) (dc hdl_3 126 rfl) g_428 rfl rfl ⟨Nat.le_of_ble_eq_true rfl, Nat.le_of_ble_eq_true rfl⟩ ⟨g_429, g_430⟩ (Nat.le_of_ble_eq_true rfl) (fun _ h => by cases h) (fun _ => rfl) (fun r_432 C_433 d_434 q_435 => ?_)
        obtain ⟨q_435a, q_435h⟩ := q_435
        subst d_434
        show AW p l e _ s m args below meth c E (M_L_law nmz) true _ n _ _ _ [(3, v0), (2, v1), (2, v2), (0, v3)] [(0, r_432)] C_433
        refine AW.ra_n (dc hdl_3 127 rfl) rfl rfl rfl ?_
        refine AW.ra_n (dc hdl_3 128 rfl) rfl rfl rfl ?_
        refine AW.iload_n (dc hdl_3 129 rfl) rfl ?_
        refine AW.iconst (dc hdl_3 130 rfl) (by decide) ?_
        refine AW.iadd (dc hdl_3 131 rfl) ?_
        refine AW.scr hX (dc hdl_3 132 rfl) g_1 g_426 g_427 ?_
        obtain ⟨g_436, h⟩ := h
        refine AW.callV (As := [(0, XS (w32 (v3 + 1)).toNat)]) (rest := [(0, r_432)]) (ci := 10) (m_G_loose l E n C_433 v2 (XS (w32 (v3 + 1)).toNat) _ q_435h) cb_11_118 im_G_loose se_G_loose ⟨_, _, rfl⟩ (by decide) (dc hdl_3 133 rfl) g_436 rfl rfl ⟨Nat.le_of_ble_eq_true rfl, Nat.le_of_ble_eq_true rfl⟩ ⟨g_429, g_430⟩ (Nat.le_of_ble_eq_true rfl) (fun _ h => by cases h) (fun _ => rfl) (fun r_437 C_438 d_439 q_440 => ?_)
        obtain ⟨q_440a, q_440e, q_440i⟩ := q_440
        subst d_439
        subst q_440e
        have h := h C_438 q_440i
        show AW p l e _ s m args below meth c E (M_L_law nmz) true _ n _ _ _ [(3, v0), (2, v1), (2, v2), (0, v3)] [(0, _), (0, _)] C_438
        refine AW.icmp_eq (t := 1698) (dc hdl_3 134 rfl) (by decide) (fun _ => ?_) (fun c => absurd rfl c)
        refine AW.iinc [(3, v0), (2, v1), (2, v2), (0, w32 (v3 + 6))] (dc hdl_6 20 rfl) rfl (Nat.le_of_ble_eq_true rfl) rfl rfl ?_
        refine AW.goto (t := 18) (dc hdl_6 21 rfl) (by decide) ?_
        exact hkz18 C_438 n kc ks (w32 (v3 + 6)) h
      | 25, hj =>
        cases hj
        have h := h.2.2.2.2.2.2.2.2.2.2.2.2.2.2.2.2.2.2.2.2.2.2.2.2.2.1 (hx.trans (by decide))
        refine AW.ra_n (dc hdl_3 137 rfl) rfl rfl rfl ?_
        refine AW.ra_n (dc hdl_3 138 rfl) rfl rfl rfl ?_
        refine AW.iload_n (dc hdl_3 139 rfl) rfl ?_
        refine AW.iconst (dc hdl_3 140 rfl) (by decide) ?_
        refine AW.iadd (dc hdl_3 141 rfl) ?_
        obtain ⟨g_441, h⟩ := h
        obtain ⟨g_442, h⟩ := h
        refine AW.scr hX (dc hdl_3 142 rfl) g_1 g_441 g_442 ?_
        refine AW.ra_n (dc hdl_3 143 rfl) rfl rfl rfl ?_
        refine AW.iload_n (dc hdl_3 144 rfl) rfl ?_
        refine AW.iconst (dc hdl_3 145 rfl) (by decide) ?_
        refine AW.iadd (dc hdl_3 146 rfl) ?_
        obtain ⟨g_443, h⟩ := h
        obtain ⟨g_444, h⟩ := h
        refine AW.scr hX (dc hdl_3 147 rfl) g_1 g_443 g_444 ?_
        refine AW.i2l (dc hdl_3 148 rfl) ?_
        refine AW.bipush (dc hdl_3 149 rfl) (by decide) (by decide +kernel) ?_
        refine AW.lshl (dc hdl_3 150 rfl) ?_
        refine AW.ra_n (dc hdl_3 151 rfl) rfl rfl rfl ?_
        refine AW.iload_n (dc hdl_3 152 rfl) rfl ?_
        refine AW.iconst (dc hdl_3 153 rfl) (by decide) ?_
        refine AW.iadd (dc hdl_3 154 rfl) ?_
        obtain ⟨g_445, h⟩ := h
        obtain ⟨g_446, h⟩ := h
        refine AW.scr hX (dc hdl_3 155 rfl) g_1 g_445 g_446 ?_
        refine AW.i2l (dc hdl_3 156 rfl) ?_
        refine AW.ldc2 (v := 4294967295) (dc hdl_3 157 rfl) ck_11_119 (by decide) rfl ?_
        refine AW.land (dc hdl_3 158 rfl) ?_
        refine AW.lor (dc hdl_3 159 rfl) ?_
        obtain ⟨g_447, h⟩ := h
        obtain ⟨g_448, h⟩ := h
        obtain ⟨g_449, h⟩ := h
        obtain ⟨w_450, h⟩ := h
        refine AW.callV (As := [(0, XS (w32 (v3 + 1)).toNat), (1, or64 (shl64 (XS (w32 (v3 + 2)).toNat) 32) (and64 (XS (w32 (v3 + 3)).toNat) 4294967295))]) (rest := []) (ci := 9) (m_F_book l E n C v1 (XS (w32 (v3 + 1)).toNat) (or64 (shl64 (XS (w32 (v3 + 2)).toNat) 32) (and64 (XS (w32 (v3 + 3)).toNat) 4294967295)) _ w_450) cb_11_121 im_F_book se_F_book ⟨_, _, rfl⟩ (by decide) (dc hdl_3 160 rfl) g_447 rfl rfl ⟨Nat.le_of_ble_eq_true rfl, Nat.le_of_ble_eq_true rfl⟩ ⟨g_448, g_449⟩ (Nat.le_of_ble_eq_true rfl) (fun _ h => by cases h) (fun _ => rfl) (fun r_451 C_452 d_453 q_454 => ?_)
        obtain ⟨q_454a, q_454h⟩ := q_454
        subst d_453
        show AW p l e _ s m args below meth c E (M_L_law nmz) true _ n _ _ _ [(3, v0), (2, v1), (2, v2), (0, v3)] [(1, r_451)] C_452
        refine AW.ra_n (dc hdl_3 161 rfl) rfl rfl rfl ?_
        refine AW.ra_n (dc hdl_3 162 rfl) rfl rfl rfl ?_
        refine AW.iload_n (dc hdl_3 163 rfl) rfl ?_
        refine AW.iconst (dc hdl_3 164 rfl) (by decide) ?_
        refine AW.iadd (dc hdl_3 165 rfl) ?_
        refine AW.scr hX (dc hdl_3 166 rfl) g_1 g_441 g_442 ?_
        refine AW.ra_n (dc hdl_3 167 rfl) rfl rfl rfl ?_
        refine AW.iload_n (dc hdl_3 168 rfl) rfl ?_
        refine AW.iconst (dc hdl_3 169 rfl) (by decide) ?_
        refine AW.iadd (dc hdl_3 170 rfl) ?_
        refine AW.scr hX (dc hdl_3 171 rfl) g_1 g_443 g_444 ?_
        refine AW.i2l (dc hdl_3 172 rfl) ?_
        refine AW.bipush (dc hdl_3 173 rfl) (by decide) (by decide +kernel) ?_
        refine AW.lshl (dc hdl_3 174 rfl) ?_
        refine AW.ra_n (dc hdl_3 175 rfl) rfl rfl rfl ?_
        refine AW.iload_n (dc hdl_3 176 rfl) rfl ?_
        refine AW.iconst (dc hdl_3 177 rfl) (by decide) ?_
        refine AW.iadd (dc hdl_3 178 rfl) ?_
        refine AW.scr hX (dc hdl_3 179 rfl) g_1 g_445 g_446 ?_
        refine AW.i2l (dc hdl_3 180 rfl) ?_
        refine AW.ldc2 (v := 4294967295) (dc hdl_3 181 rfl) ck_11_119 (by decide) rfl ?_
        refine AW.land (dc hdl_3 182 rfl) ?_
        refine AW.lor (dc hdl_3 183 rfl) ?_
        obtain ⟨g_455, h⟩ := h
        refine AW.callV (As := [(0, XS (w32 (v3 + 1)).toNat), (1, or64 (shl64 (XS (w32 (v3 + 2)).toNat) 32) (and64 (XS (w32 (v3 + 3)).toNat) 4294967295))]) (rest := [(1, r_451)]) (ci := 10) (m_G_book l E n C_452 v2 (XS (w32 (v3 + 1)).toNat) (or64 (shl64 (XS (w32 (v3 + 2)).toNat) 32) (and64 (XS (w32 (v3 + 3)).toNat) 4294967295)) _ q_454h) cb_11_125 im_G_book se_G_book ⟨_, _, rfl⟩ (by decide) (dc hdl_3 184 rfl) g_455 rfl rfl ⟨Nat.le_of_ble_eq_true rfl, Nat.le_of_ble_eq_true rfl⟩ ⟨g_448, g_449⟩ (Nat.le_of_ble_eq_true rfl) (fun _ h => by cases h) (fun _ => rfl) (fun r_456 C_457 d_458 q_459 => ?_)
        obtain ⟨q_459a, q_459e, q_459i⟩ := q_459
        subst d_458
        subst q_459e
        have h := h C_457 q_459i
        show AW p l e _ s m args below meth c E (M_L_law nmz) true _ n _ _ _ [(3, v0), (2, v1), (2, v2), (0, v3)] [(1, _), (1, _)] C_457
        refine AW.lc (dc hdl_3 185 rfl) ?_
        refine AW.if_eq (t := 1698) (dc hdl_3 186 rfl) (by decide) (fun _ => ?_) (fun c => absurd ((lc_eq _ _).mpr rfl) c)
        refine AW.iinc [(3, v0), (2, v1), (2, v2), (0, w32 (v3 + 6))] (dc hdl_6 20 rfl) rfl (Nat.le_of_ble_eq_true rfl) rfl rfl ?_
        refine AW.goto (t := 18) (dc hdl_6 21 rfl) (by decide) ?_
        exact hkz18 C_457 n kc ks (w32 (v3 + 6)) h
      | 26, hj =>
        cases hj
        have h := h.2.2.2.2.2.2.2.2.2.2.2.2.2.2.2.2.2.2.2.2.2.2.2.2.2.2.1 (hx.trans (by decide))
        refine AW.ra_n (dc hdl_3 189 rfl) rfl rfl rfl ?_
        refine AW.ra_n (dc hdl_3 190 rfl) rfl rfl rfl ?_
        refine AW.iload_n (dc hdl_3 191 rfl) rfl ?_
        refine AW.iconst (dc hdl_3 192 rfl) (by decide) ?_
        refine AW.iadd (dc hdl_3 193 rfl) ?_
        obtain ⟨g_460, h⟩ := h
        obtain ⟨g_461, h⟩ := h
        refine AW.scr hX (dc hdl_3 194 rfl) g_1 g_460 g_461 ?_
        obtain ⟨g_462, h⟩ := h
        obtain ⟨g_463, h⟩ := h
        obtain ⟨g_464, h⟩ := h
        obtain ⟨w_465, h⟩ := h
        refine AW.callV (As := [(0, XS (w32 (v3 + 1)).toNat)]) (rest := []) (ci := 9) (m_F_seed l E n C v1 (XS (w32 (v3 + 1)).toNat) _ w_465) cb_11_126 im_F_seed se_F_seed ⟨_, _, rfl⟩ (by decide) (dc hdl_3 195 rfl) g_462 rfl rfl ⟨Nat.le_of_ble_eq_true rfl, Nat.le_of_ble_eq_true rfl⟩ ⟨g_463, g_464⟩ (Nat.le_of_ble_eq_true rfl) (fun _ h => by cases h) (fun _ => rfl) (fun r_466 C_467 d_468 q_469 => ?_)
        obtain ⟨q_469a, q_469h⟩ := q_469
        subst d_468
        show AW p l e _ s m args below meth c E (M_L_law nmz) true _ n _ _ _ [(3, v0), (2, v1), (2, v2), (0, v3)] [(0, r_466)] C_467
        refine AW.ra_n (dc hdl_3 196 rfl) rfl rfl rfl ?_
        refine AW.ra_n (dc hdl_3 197 rfl) rfl rfl rfl ?_
        refine AW.iload_n (dc hdl_3 198 rfl) rfl ?_
        refine AW.iconst (dc hdl_3 199 rfl) (by decide) ?_
        refine AW.iadd (dc hdl_4 0 rfl) ?_
        refine AW.scr hX (dc hdl_4 1 rfl) g_1 g_460 g_461 ?_
        obtain ⟨g_470, h⟩ := h
        refine AW.callV (As := [(0, XS (w32 (v3 + 1)).toNat)]) (rest := [(0, r_466)]) (ci := 10) (m_G_seed l E n C_467 v2 (XS (w32 (v3 + 1)).toNat) _ q_469h) cb_11_129 im_G_seed se_G_seed ⟨_, _, rfl⟩ (by decide) (dc hdl_4 2 rfl) g_470 rfl rfl ⟨Nat.le_of_ble_eq_true rfl, Nat.le_of_ble_eq_true rfl⟩ ⟨g_463, g_464⟩ (Nat.le_of_ble_eq_true rfl) (fun _ h => by cases h) (fun _ => rfl) (fun r_471 C_472 d_473 q_474 => ?_)
        obtain ⟨q_474a, q_474e, q_474i⟩ := q_474
        subst d_473
        subst q_474e
        have h := h C_472 q_474i
        show AW p l e _ s m args below meth c E (M_L_law nmz) true _ n _ _ _ [(3, v0), (2, v1), (2, v2), (0, v3)] [(0, _), (0, _)] C_472
        refine AW.icmp_eq (t := 1698) (dc hdl_4 3 rfl) (by decide) (fun _ => ?_) (fun c => absurd rfl c)
        refine AW.iinc [(3, v0), (2, v1), (2, v2), (0, w32 (v3 + 6))] (dc hdl_6 20 rfl) rfl (Nat.le_of_ble_eq_true rfl) rfl rfl ?_
        refine AW.goto (t := 18) (dc hdl_6 21 rfl) (by decide) ?_
        exact hkz18 C_472 n kc ks (w32 (v3 + 6)) h
      | 27, hj =>
        cases hj
        have h := h.2.2.2.2.2.2.2.2.2.2.2.2.2.2.2.2.2.2.2.2.2.2.2.2.2.2.2.1 (hx.trans (by decide))
        refine AW.ra_n (dc hdl_4 6 rfl) rfl rfl rfl ?_
        obtain ⟨g_475, h⟩ := h
        obtain ⟨g_476, h⟩ := h
        obtain ⟨g_477, h⟩ := h
        obtain ⟨w_478, h⟩ := h
        refine AW.callV (As := []) (rest := []) (ci := 9) (m_F_prove l E n C v1 _ w_478) cb_11_130 im_F_prove se_F_prove ⟨_, _, rfl⟩ (by decide) (dc hdl_4 7 rfl) g_475 rfl rfl ⟨Nat.le_of_ble_eq_true rfl, Nat.le_of_ble_eq_true rfl⟩ ⟨g_476, g_477⟩ (Nat.le_of_ble_eq_true rfl) (fun _ h => by cases h) (fun _ => rfl) (fun r_479 C_480 d_481 q_482 => ?_)
        obtain ⟨q_482a, q_482h⟩ := q_482
        subst d_481
        show AW p l e _ s m args below meth c E (M_L_law nmz) true _ n _ _ _ [(3, v0), (2, v1), (2, v2), (0, v3)] [(0, r_479)] C_480
        refine AW.ra_n (dc hdl_4 8 rfl) rfl rfl rfl ?_
        obtain ⟨g_483, h⟩ := h
        refine AW.callV (As := []) (rest := [(0, r_479)]) (ci := 10) (m_G_prove l E n C_480 v2 _ q_482h) cb_11_133 im_G_prove se_G_prove ⟨_, _, rfl⟩ (by decide) (dc hdl_4 9 rfl) g_483 rfl rfl ⟨Nat.le_of_ble_eq_true rfl, Nat.le_of_ble_eq_true rfl⟩ ⟨g_476, g_477⟩ (Nat.le_of_ble_eq_true rfl) (fun _ h => by cases h) (fun _ => rfl) (fun r_484 C_485 d_486 q_487 => ?_)
        obtain ⟨q_487a, q_487e, q_487i⟩ := q_487
        subst d_486
        subst q_487e
        have h := h C_485 q_487i
        show AW p l e _ s m args below meth c E (M_L_law nmz) true _ n _ _ _ [(3, v0), (2, v1), (2, v2), (0, v3)] [(0, _), (0, _)] C_485
        refine AW.icmp_eq (t := 1698) (dc hdl_4 10 rfl) (by decide) (fun _ => ?_) (fun c => absurd rfl c)
        refine AW.iinc [(3, v0), (2, v1), (2, v2), (0, w32 (v3 + 6))] (dc hdl_6 20 rfl) rfl (Nat.le_of_ble_eq_true rfl) rfl rfl ?_
        refine AW.goto (t := 18) (dc hdl_6 21 rfl) (by decide) ?_
        exact hkz18 C_485 n kc ks (w32 (v3 + 6)) h
      | 28, hj =>
        cases hj
        have h := h.2.2.2.2.2.2.2.2.2.2.2.2.2.2.2.2.2.2.2.2.2.2.2.2.2.2.2.2.1 (hx.trans (by decide))
        refine AW.ra_n (dc hdl_4 13 rfl) rfl rfl rfl ?_
        refine AW.ra_n (dc hdl_4 14 rfl) rfl rfl rfl ?_
        refine AW.iload_n (dc hdl_4 15 rfl) rfl ?_
        refine AW.iconst (dc hdl_4 16 rfl) (by decide) ?_
        refine AW.iadd (dc hdl_4 17 rfl) ?_
        obtain ⟨g_488, h⟩ := h
        obtain ⟨g_489, h⟩ := h
        refine AW.scr hX (dc hdl_4 18 rfl) g_1 g_488 g_489 ?_
        refine AW.ra_n (dc hdl_4 19 rfl) rfl rfl rfl ?_
        refine AW.iload_n (dc hdl_4 20 rfl) rfl ?_
        refine AW.iconst (dc hdl_4 21 rfl) (by decide) ?_
        refine AW.iadd (dc hdl_4 22 rfl) ?_
        obtain ⟨g_490, h⟩ := h
        obtain ⟨g_491, h⟩ := h
        refine AW.scr hX (dc hdl_4 23 rfl) g_1 g_490 g_491 ?_
        obtain ⟨g_492, h⟩ := h
        obtain ⟨g_493, h⟩ := h
        obtain ⟨g_494, h⟩ := h
        obtain ⟨w_495, h⟩ := h
        refine AW.callV (As := [(0, XS (w32 (v3 + 1)).toNat), (0, XS (w32 (v3 + 2)).toNat)]) (rest := []) (ci := 9) (m_F_row l E n C v1 (XS (w32 (v3 + 1)).toNat) (XS (w32 (v3 + 2)).toNat) _ w_495) cb_11_134 im_F_row se_F_row ⟨_, _, rfl⟩ (by decide) (dc hdl_4 24 rfl) g_492 rfl rfl ⟨Nat.le_of_ble_eq_true rfl, Nat.le_of_ble_eq_true rfl⟩ ⟨g_493, g_494⟩ (Nat.le_of_ble_eq_true rfl) (fun _ h => by cases h) (fun _ => rfl) (fun r_496 C_497 d_498 q_499 => ?_)
        obtain ⟨q_499a, q_499h⟩ := q_499
        subst d_498
        show AW p l e _ s m args below meth c E (M_L_law nmz) true _ n _ _ _ [(3, v0), (2, v1), (2, v2), (0, v3)] [(0, r_496)] C_497
        refine AW.ra_n (dc hdl_4 25 rfl) rfl rfl rfl ?_
        refine AW.ra_n (dc hdl_4 26 rfl) rfl rfl rfl ?_
        refine AW.iload_n (dc hdl_4 27 rfl) rfl ?_
        refine AW.iconst (dc hdl_4 28 rfl) (by decide) ?_
        refine AW.iadd (dc hdl_4 29 rfl) ?_
        refine AW.scr hX (dc hdl_4 30 rfl) g_1 g_488 g_489 ?_
        refine AW.ra_n (dc hdl_4 31 rfl) rfl rfl rfl ?_
        refine AW.iload_n (dc hdl_4 32 rfl) rfl ?_
        refine AW.iconst (dc hdl_4 33 rfl) (by decide) ?_
        refine AW.iadd (dc hdl_4 34 rfl) ?_
        refine AW.scr hX (dc hdl_4 35 rfl) g_1 g_490 g_491 ?_
        obtain ⟨g_500, h⟩ := h
        refine AW.callV (As := [(0, XS (w32 (v3 + 1)).toNat), (0, XS (w32 (v3 + 2)).toNat)]) (rest := [(0, r_496)]) (ci := 10) (m_G_row l E n C_497 v2 (XS (w32 (v3 + 1)).toNat) (XS (w32 (v3 + 2)).toNat) _ q_499h) cb_11_137 im_G_row se_G_row ⟨_, _, rfl⟩ (by decide) (dc hdl_4 36 rfl) g_500 rfl rfl ⟨Nat.le_of_ble_eq_true rfl, Nat.le_of_ble_eq_true rfl⟩ ⟨g_493, g_494⟩ (Nat.le_of_ble_eq_true rfl) (fun _ h => by cases h) (fun _ => rfl) (fun r_501 C_502 d_503 q_504 => ?_)
        obtain ⟨q_504a, q_504e, q_504i⟩ := q_504
        subst d_503
        subst q_504e
        have h := h C_502 q_504i
        show AW p l e _ s m args below meth c E (M_L_law nmz) true _ n _ _ _ [(3, v0), (2, v1), (2, v2), (0, v3)] [(0, _), (0, _)] C_502
        refine AW.icmp_eq (t := 1698) (dc hdl_4 37 rfl) (by decide) (fun _ => ?_) (fun c => absurd rfl c)
        refine AW.iinc [(3, v0), (2, v1), (2, v2), (0, w32 (v3 + 6))] (dc hdl_6 20 rfl) rfl (Nat.le_of_ble_eq_true rfl) rfl rfl ?_
        refine AW.goto (t := 18) (dc hdl_6 21 rfl) (by decide) ?_
        exact hkz18 C_502 n kc ks (w32 (v3 + 6)) h
      | 29, hj =>
        cases hj
        have h := h.2.2.2.2.2.2.2.2.2.2.2.2.2.2.2.2.2.2.2.2.2.2.2.2.2.2.2.2.2.1 (hx.trans (by decide))
        refine AW.ra_n (dc hdl_4 40 rfl) rfl rfl rfl ?_
        refine AW.ra_n (dc hdl_4 41 rfl) rfl rfl rfl ?_
        refine AW.iload_n (dc hdl_4 42 rfl) rfl ?_
        refine AW.iconst (dc hdl_4 43 rfl) (by decide) ?_
        refine AW.iadd (dc hdl_4 44 rfl) ?_
        obtain ⟨g_505, h⟩ := h
        obtain ⟨g_506, h⟩ := h
        refine AW.scr hX (dc hdl_4 45 rfl) g_1 g_505 g_506 ?_
        refine AW.ra_n (dc hdl_4 46 rfl) rfl rfl rfl ?_
        refine AW.iload_n (dc hdl_4 47 rfl) rfl ?_
        refine AW.iconst (dc hdl_4 48 rfl) (by decide) ?_
        refine AW.iadd (dc hdl_4 49 rfl) ?_
        obtain ⟨g_507, h⟩ := h
        obtain ⟨g_508, h⟩ := h
        refine AW.scr hX (dc hdl_4 50 rfl) g_1 g_507 g_508 ?_
        refine AW.ra_n (dc hdl_4 51 rfl) rfl rfl rfl ?_
        refine AW.iload_n (dc hdl_4 52 rfl) rfl ?_
        refine AW.iconst (dc hdl_4 53 rfl) (by decide) ?_
        refine AW.iadd (dc hdl_4 54 rfl) ?_
        obtain ⟨g_509, h⟩ := h
        obtain ⟨g_510, h⟩ := h
        refine AW.scr hX (dc hdl_4 55 rfl) g_1 g_509 g_510 ?_
        obtain ⟨g_511, h⟩ := h
        obtain ⟨g_512, h⟩ := h
        obtain ⟨g_513, h⟩ := h
        obtain ⟨w_514, h⟩ := h
        refine AW.callV (As := [(0, XS (w32 (v3 + 1)).toNat), (0, XS (w32 (v3 + 2)).toNat), (0, XS (w32 (v3 + 3)).toNat)]) (rest := []) (ci := 9) (m_F_alter l E n C v1 (XS (w32 (v3 + 1)).toNat) (XS (w32 (v3 + 2)).toNat) (XS (w32 (v3 + 3)).toNat) _ w_514) cb_11_138 im_F_alter se_F_alter ⟨_, _, rfl⟩ (by decide) (dc hdl_4 56 rfl) g_511 rfl rfl ⟨Nat.le_of_ble_eq_true rfl, Nat.le_of_ble_eq_true rfl⟩ ⟨g_512, g_513⟩ (Nat.le_of_ble_eq_true rfl) (fun _ h => by cases h) (fun _ => rfl) (fun r_515 C_516 d_517 q_518 => ?_)
        obtain ⟨q_518a, q_518h⟩ := q_518
        subst d_517
        show AW p l e _ s m args below meth c E (M_L_law nmz) true _ n _ _ _ [(3, v0), (2, v1), (2, v2), (0, v3)] [(0, r_515)] C_516
        refine AW.ra_n (dc hdl_4 57 rfl) rfl rfl rfl ?_
        refine AW.ra_n (dc hdl_4 58 rfl) rfl rfl rfl ?_
        refine AW.iload_n (dc hdl_4 59 rfl) rfl ?_
        refine AW.iconst (dc hdl_4 60 rfl) (by decide) ?_
        refine AW.iadd (dc hdl_4 61 rfl) ?_
        refine AW.scr hX (dc hdl_4 62 rfl) g_1 g_505 g_506 ?_
        refine AW.ra_n (dc hdl_4 63 rfl) rfl rfl rfl ?_
        refine AW.iload_n (dc hdl_4 64 rfl) rfl ?_
        refine AW.iconst (dc hdl_4 65 rfl) (by decide) ?_
        refine AW.iadd (dc hdl_4 66 rfl) ?_
        refine AW.scr hX (dc hdl_4 67 rfl) g_1 g_507 g_508 ?_
        refine AW.ra_n (dc hdl_4 68 rfl) rfl rfl rfl ?_
        refine AW.iload_n (dc hdl_4 69 rfl) rfl ?_
        refine AW.iconst (dc hdl_4 70 rfl) (by decide) ?_
        refine AW.iadd (dc hdl_4 71 rfl) ?_
        refine AW.scr hX (dc hdl_4 72 rfl) g_1 g_509 g_510 ?_
        obtain ⟨g_519, h⟩ := h
        refine AW.callV (As := [(0, XS (w32 (v3 + 1)).toNat), (0, XS (w32 (v3 + 2)).toNat), (0, XS (w32 (v3 + 3)).toNat)]) (rest := [(0, r_515)]) (ci := 10) (m_G_alter l E n C_516 v2 (XS (w32 (v3 + 1)).toNat) (XS (w32 (v3 + 2)).toNat) (XS (w32 (v3 + 3)).toNat) _ q_518h) cb_11_141 im_G_alter se_G_alter ⟨_, _, rfl⟩ (by decide) (dc hdl_4 73 rfl) g_519 rfl rfl ⟨Nat.le_of_ble_eq_true rfl, Nat.le_of_ble_eq_true rfl⟩ ⟨g_512, g_513⟩ (Nat.le_of_ble_eq_true rfl) (fun _ h => by cases h) (fun _ => rfl) (fun r_520 C_521 d_522 q_523 => ?_)
        obtain ⟨q_523a, q_523e, q_523i⟩ := q_523
        subst d_522
        subst q_523e
        have h := h C_521 q_523i
        show AW p l e _ s m args below meth c E (M_L_law nmz) true _ n _ _ _ [(3, v0), (2, v1), (2, v2), (0, v3)] [(0, _), (0, _)] C_521
        refine AW.icmp_eq (t := 1698) (dc hdl_4 74 rfl) (by decide) (fun _ => ?_) (fun c => absurd rfl c)
        refine AW.iinc [(3, v0), (2, v1), (2, v2), (0, w32 (v3 + 6))] (dc hdl_6 20 rfl) rfl (Nat.le_of_ble_eq_true rfl) rfl rfl ?_
        refine AW.goto (t := 18) (dc hdl_6 21 rfl) (by decide) ?_
        exact hkz18 C_521 n kc ks (w32 (v3 + 6)) h
      | 30, hj =>
        cases hj
        have h := h.2.2.2.2.2.2.2.2.2.2.2.2.2.2.2.2.2.2.2.2.2.2.2.2.2.2.2.2.2.2.1 (hx.trans (by decide))
        refine AW.ra_n (dc hdl_4 77 rfl) rfl rfl rfl ?_
        obtain ⟨g_524, h⟩ := h
        obtain ⟨g_525, h⟩ := h
        obtain ⟨g_526, h⟩ := h
        obtain ⟨w_527, h⟩ := h
        refine AW.callV (As := []) (rest := []) (ci := 9) (m_F_judge l E n C v1 _ w_527) cb_11_142 im_F_judge se_F_judge ⟨_, _, rfl⟩ (by decide) (dc hdl_4 78 rfl) g_524 rfl rfl ⟨Nat.le_of_ble_eq_true rfl, Nat.le_of_ble_eq_true rfl⟩ ⟨g_525, g_526⟩ (Nat.le_of_ble_eq_true rfl) (fun _ h => by cases h) (fun _ => rfl) (fun r_528 C_529 d_530 q_531 => ?_)
        obtain ⟨q_531b, q_531a, q_531h⟩ := q_531
        subst C_529
        subst d_530
        show AW p l e _ s m args below meth c E (M_L_law nmz) true _ n _ _ _ [(3, v0), (2, v1), (2, v2), (0, v3)] [(0, r_528)] C
        refine AW.ra_n (dc hdl_4 79 rfl) rfl rfl rfl ?_
        obtain ⟨g_532, h⟩ := h
        refine AW.callV (As := []) (rest := [(0, r_528)]) (ci := 10) (m_G_judge l E n C v2 _ q_531h) cb_11_145 im_G_judge se_G_judge ⟨_, _, rfl⟩ (by decide) (dc hdl_4 80 rfl) g_532 rfl rfl ⟨Nat.le_of_ble_eq_true rfl, Nat.le_of_ble_eq_true rfl⟩ ⟨g_525, g_526⟩ (Nat.le_of_ble_eq_true rfl) (fun _ h => by cases h) (fun _ => rfl) (fun r_533 C_534 d_535 q_536 => ?_)
        obtain ⟨q_536a, q_536e, q_536i⟩ := q_536
        subst d_535
        subst q_536e
        have h := h C_534 q_536i
        show AW p l e _ s m args below meth c E (M_L_law nmz) true _ n _ _ _ [(3, v0), (2, v1), (2, v2), (0, v3)] [(0, _), (0, _)] C_534
        refine AW.icmp_eq (t := 1698) (dc hdl_4 81 rfl) (by decide) (fun _ => ?_) (fun c => absurd rfl c)
        refine AW.iinc [(3, v0), (2, v1), (2, v2), (0, w32 (v3 + 6))] (dc hdl_6 20 rfl) rfl (Nat.le_of_ble_eq_true rfl) rfl rfl ?_
        refine AW.goto (t := 18) (dc hdl_6 21 rfl) (by decide) ?_
        exact hkz18 C_534 n kc ks (w32 (v3 + 6)) h
      | 31, hj =>
        cases hj
        have h := h.2.2.2.2.2.2.2.2.2.2.2.2.2.2.2.2.2.2.2.2.2.2.2.2.2.2.2.2.2.2.2.1 (hx.trans (by decide))
        refine AW.ra_n (dc hdl_4 84 rfl) rfl rfl rfl ?_
        refine AW.ra_n (dc hdl_4 85 rfl) rfl rfl rfl ?_
        refine AW.iload_n (dc hdl_4 86 rfl) rfl ?_
        refine AW.iconst (dc hdl_4 87 rfl) (by decide) ?_
        refine AW.iadd (dc hdl_4 88 rfl) ?_
        obtain ⟨g_537, h⟩ := h
        obtain ⟨g_538, h⟩ := h
        refine AW.scr hX (dc hdl_4 89 rfl) g_1 g_537 g_538 ?_
        refine AW.ra_n (dc hdl_4 90 rfl) rfl rfl rfl ?_
        refine AW.iload_n (dc hdl_4 91 rfl) rfl ?_
        refine AW.iconst (dc hdl_4 92 rfl) (by decide) ?_
        refine AW.iadd (dc hdl_4 93 rfl) ?_
        obtain ⟨g_539, h⟩ := h
        obtain ⟨g_540, h⟩ := h
        refine AW.scr hX (dc hdl_4 94 rfl) g_1 g_539 g_540 ?_
        obtain ⟨g_541, h⟩ := h
        obtain ⟨g_542, h⟩ := h
        obtain ⟨g_543, h⟩ := h
        obtain ⟨w_544, h⟩ := h
        refine AW.callV (As := [(0, XS (w32 (v3 + 1)).toNat), (0, XS (w32 (v3 + 2)).toNat)]) (rest := []) (ci := 9) (m_F_feed l E n C v1 (XS (w32 (v3 + 1)).toNat) (XS (w32 (v3 + 2)).toNat) _ w_544) cb_11_146 im_F_feed se_F_feed ⟨_, _, rfl⟩ (by decide) (dc hdl_4 95 rfl) g_541 rfl rfl ⟨Nat.le_of_ble_eq_true rfl, Nat.le_of_ble_eq_true rfl⟩ ⟨g_542, g_543⟩ (Nat.le_of_ble_eq_true rfl) (fun _ h => by cases h) (fun _ => rfl) (fun r_545 C_546 d_547 q_548 => ?_)
        obtain ⟨q_548a, q_548h⟩ := q_548
        subst d_547
        show AW p l e _ s m args below meth c E (M_L_law nmz) true _ n _ _ _ [(3, v0), (2, v1), (2, v2), (0, v3)] [(0, r_545)] C_546
        refine AW.ra_n (dc hdl_4 96 rfl) rfl rfl rfl ?_
        refine AW.ra_n (dc hdl_4 97 rfl) rfl rfl rfl ?_
        refine AW.iload_n (dc hdl_4 98 rfl) rfl ?_
        refine AW.iconst (dc hdl_4 99 rfl) (by decide) ?_
        refine AW.iadd (dc hdl_4 100 rfl) ?_
        refine AW.scr hX (dc hdl_4 101 rfl) g_1 g_537 g_538 ?_
        refine AW.ra_n (dc hdl_4 102 rfl) rfl rfl rfl ?_
        refine AW.iload_n (dc hdl_4 103 rfl) rfl ?_
        refine AW.iconst (dc hdl_4 104 rfl) (by decide) ?_
        refine AW.iadd (dc hdl_4 105 rfl) ?_
        refine AW.scr hX (dc hdl_4 106 rfl) g_1 g_539 g_540 ?_
        obtain ⟨g_549, h⟩ := h
        refine AW.callV (As := [(0, XS (w32 (v3 + 1)).toNat), (0, XS (w32 (v3 + 2)).toNat)]) (rest := [(0, r_545)]) (ci := 10) (m_G_feed l E n C_546 v2 (XS (w32 (v3 + 1)).toNat) (XS (w32 (v3 + 2)).toNat) _ q_548h) cb_11_149 im_G_feed se_G_feed ⟨_, _, rfl⟩ (by decide) (dc hdl_4 107 rfl) g_549 rfl rfl ⟨Nat.le_of_ble_eq_true rfl, Nat.le_of_ble_eq_true rfl⟩ ⟨g_542, g_543⟩ (Nat.le_of_ble_eq_true rfl) (fun _ h => by cases h) (fun _ => rfl) (fun r_550 C_551 d_552 q_553 => ?_)
        obtain ⟨q_553a, q_553e, q_553i⟩ := q_553
        subst d_552
        subst q_553e
        have h := h C_551 q_553i
        show AW p l e _ s m args below meth c E (M_L_law nmz) true _ n _ _ _ [(3, v0), (2, v1), (2, v2), (0, v3)] [(0, _), (0, _)] C_551
        refine AW.icmp_eq (t := 1698) (dc hdl_4 108 rfl) (by decide) (fun _ => ?_) (fun c => absurd rfl c)
        refine AW.iinc [(3, v0), (2, v1), (2, v2), (0, w32 (v3 + 6))] (dc hdl_6 20 rfl) rfl (Nat.le_of_ble_eq_true rfl) rfl rfl ?_
        refine AW.goto (t := 18) (dc hdl_6 21 rfl) (by decide) ?_
        exact hkz18 C_551 n kc ks (w32 (v3 + 6)) h
      | 32, hj =>
        cases hj
        have h := h.2.2.2.2.2.2.2.2.2.2.2.2.2.2.2.2.2.2.2.2.2.2.2.2.2.2.2.2.2.2.2.2.1 (hx.trans (by decide))
        refine AW.ra_n (dc hdl_4 111 rfl) rfl rfl rfl ?_
        obtain ⟨g_554, h⟩ := h
        obtain ⟨g_555, h⟩ := h
        obtain ⟨g_556, h⟩ := h
        obtain ⟨w_557, h⟩ := h
        refine AW.callV (As := []) (rest := []) (ci := 9) (m_F_wipe l E n C v1 _ w_557) cb_11_150 im_F_wipe se_F_wipe ⟨_, _, rfl⟩ (by decide) (dc hdl_4 112 rfl) g_554 rfl rfl ⟨Nat.le_of_ble_eq_true rfl, Nat.le_of_ble_eq_true rfl⟩ ⟨g_555, g_556⟩ (Nat.le_of_ble_eq_true rfl) (fun _ h => by cases h) (fun _ => rfl) (fun r_558 C_559 d_560 q_561 => ?_)
        obtain ⟨q_561a, q_561h⟩ := q_561
        subst d_560
        show AW p l e _ s m args below meth c E (M_L_law nmz) true _ n _ _ _ [(3, v0), (2, v1), (2, v2), (0, v3)] [(0, r_558)] C_559
        refine AW.ra_n (dc hdl_4 113 rfl) rfl rfl rfl ?_
        obtain ⟨g_562, h⟩ := h
        refine AW.callV (As := []) (rest := [(0, r_558)]) (ci := 10) (m_G_wipe l E n C_559 v2 _ q_561h) cb_11_153 im_G_wipe se_G_wipe ⟨_, _, rfl⟩ (by decide) (dc hdl_4 114 rfl) g_562 rfl rfl ⟨Nat.le_of_ble_eq_true rfl, Nat.le_of_ble_eq_true rfl⟩ ⟨g_555, g_556⟩ (Nat.le_of_ble_eq_true rfl) (fun _ h => by cases h) (fun _ => rfl) (fun r_563 C_564 d_565 q_566 => ?_)
        obtain ⟨q_566a, q_566e, q_566i⟩ := q_566
        subst d_565
        subst q_566e
        have h := h C_564 q_566i
        show AW p l e _ s m args below meth c E (M_L_law nmz) true _ n _ _ _ [(3, v0), (2, v1), (2, v2), (0, v3)] [(0, _), (0, _)] C_564
        refine AW.icmp_eq (t := 1698) (dc hdl_4 115 rfl) (by decide) (fun _ => ?_) (fun c => absurd rfl c)
        refine AW.iinc [(3, v0), (2, v1), (2, v2), (0, w32 (v3 + 6))] (dc hdl_6 20 rfl) rfl (Nat.le_of_ble_eq_true rfl) rfl rfl ?_
        refine AW.goto (t := 18) (dc hdl_6 21 rfl) (by decide) ?_
        exact hkz18 C_564 n kc ks (w32 (v3 + 6)) h
      | 33, hj =>
        cases hj
        have h := h.2.2.2.2.2.2.2.2.2.2.2.2.2.2.2.2.2.2.2.2.2.2.2.2.2.2.2.2.2.2.2.2.2.1 (hx.trans (by decide))
        refine AW.ra_n (dc hdl_4 118 rfl) rfl rfl rfl ?_
        obtain ⟨g_567, h⟩ := h
        obtain ⟨g_568, h⟩ := h
        obtain ⟨g_569, h⟩ := h
        obtain ⟨w_570, h⟩ := h
        refine AW.callV (As := []) (rest := []) (ci := 9) (m_F_text l E n C v1 _ w_570) cb_11_154 im_F_text se_F_text ⟨_, _, rfl⟩ (by decide) (dc hdl_4 119 rfl) g_567 rfl rfl ⟨Nat.le_of_ble_eq_true rfl, Nat.le_of_ble_eq_true rfl⟩ ⟨g_568, g_569⟩ (Nat.le_of_ble_eq_true rfl) (fun _ h => by cases h) (fun _ => rfl) (fun r_571 C_572 d_573 q_574 => ?_)
        obtain ⟨q_574a, q_574h⟩ := q_574
        subst d_573
        show AW p l e _ s m args below meth c E (M_L_law nmz) true _ n _ _ _ [(3, v0), (2, v1), (2, v2), (0, v3)] [(0, r_571)] C_572
        refine AW.ra_n (dc hdl_4 120 rfl) rfl rfl rfl ?_
        obtain ⟨g_575, h⟩ := h
        obtain ⟨g_576, h⟩ := h
        obtain ⟨g_577, h⟩ := h
        refine AW.callV (As := []) (rest := [(0, r_571)]) (ci := 10) (m_G_text l E n C_572 v2 _ q_574h) cb_11_157 im_G_text se_G_text ⟨_, _, rfl⟩ (by decide) (dc hdl_4 121 rfl) g_575 rfl rfl ⟨Nat.le_of_ble_eq_true rfl, Nat.le_of_ble_eq_true rfl⟩ ⟨g_576, g_577⟩ (Nat.le_of_ble_eq_true rfl) (fun _ h => by cases h) (fun _ => rfl) (fun r_578 C_579 d_580 q_581 => ?_)
        obtain ⟨q_581e, q_581i, q_581n⟩ := q_581
        subst q_581e
        have h := h C_579 d_580 q_581i q_581n
        show AW p l e _ s m args below meth c E (M_L_law nmz) true _ d_580 _ _ _ [(3, v0), (2, v1), (2, v2), (0, v3)] [(0, _), (0, _)] C_579
        refine AW.icmp_eq (t := 1698) (dc hdl_4 122 rfl) (by decide) (fun _ => ?_) (fun c => absurd rfl c)
        refine AW.iinc [(3, v0), (2, v1), (2, v2), (0, w32 (v3 + 6))] (dc hdl_6 20 rfl) rfl (Nat.le_of_ble_eq_true rfl) rfl rfl ?_
        refine AW.goto (t := 18) (dc hdl_6 21 rfl) (by decide) ?_
        exact hkz18 C_579 d_580 (kc + 130) (ks + 780) (w32 (v3 + 6)) h
      | 34, hj =>
        cases hj
        have h := h.2.2.2.2.2.2.2.2.2.2.2.2.2.2.2.2.2.2.2.2.2.2.2.2.2.2.2.2.2.2.2.2.2.2.1 (hx.trans (by decide))
        refine AW.ra_n (dc hdl_4 125 rfl) rfl rfl rfl ?_
        refine AW.ra_n (dc hdl_4 126 rfl) rfl rfl rfl ?_
        refine AW.iload_n (dc hdl_4 127 rfl) rfl ?_
        refine AW.iconst (dc hdl_4 128 rfl) (by decide) ?_
        refine AW.iadd (dc hdl_4 129 rfl) ?_
        obtain ⟨g_582, h⟩ := h
        obtain ⟨g_583, h⟩ := h
        refine AW.scr hX (dc hdl_4 130 rfl) g_1 g_582 g_583 ?_
        refine AW.ra_n (dc hdl_4 131 rfl) rfl rfl rfl ?_
        refine AW.iload_n (dc hdl_4 132 rfl) rfl ?_
        refine AW.iconst (dc hdl_4 133 rfl) (by decide) ?_
        refine AW.iadd (dc hdl_4 134 rfl) ?_
        obtain ⟨g_584, h⟩ := h
        obtain ⟨g_585, h⟩ := h
        refine AW.scr hX (dc hdl_4 135 rfl) g_1 g_584 g_585 ?_
        refine AW.ra_n (dc hdl_4 136 rfl) rfl rfl rfl ?_
        refine AW.iload_n (dc hdl_4 137 rfl) rfl ?_
        refine AW.iconst (dc hdl_4 138 rfl) (by decide) ?_
        refine AW.iadd (dc hdl_4 139 rfl) ?_
        obtain ⟨g_586, h⟩ := h
        obtain ⟨g_587, h⟩ := h
        refine AW.scr hX (dc hdl_4 140 rfl) g_1 g_586 g_587 ?_
        obtain ⟨g_588, h⟩ := h
        obtain ⟨g_589, h⟩ := h
        obtain ⟨g_590, h⟩ := h
        obtain ⟨w_591, h⟩ := h
        refine AW.callV (As := [(0, XS (w32 (v3 + 1)).toNat), (0, XS (w32 (v3 + 2)).toNat), (0, XS (w32 (v3 + 3)).toNat)]) (rest := []) (ci := 9) (m_F_sheet l E n C v1 (XS (w32 (v3 + 1)).toNat) (XS (w32 (v3 + 2)).toNat) (XS (w32 (v3 + 3)).toNat) _ w_591) cb_11_158 im_F_sheet se_F_sheet ⟨_, _, rfl⟩ (by decide) (dc hdl_4 141 rfl) g_588 rfl rfl ⟨Nat.le_of_ble_eq_true rfl, Nat.le_of_ble_eq_true rfl⟩ ⟨g_589, g_590⟩ (Nat.le_of_ble_eq_true rfl) (fun _ h => by cases h) (fun _ => rfl) (fun r_592 C_593 d_594 q_595 => ?_)
        obtain ⟨q_595a, q_595h⟩ := q_595
        subst d_594
        show AW p l e _ s m args below meth c E (M_L_law nmz) true _ n _ _ _ [(3, v0), (2, v1), (2, v2), (0, v3)] [(0, r_592)] C_593
        refine AW.ra_n (dc hdl_4 142 rfl) rfl rfl rfl ?_
        refine AW.ra_n (dc hdl_4 143 rfl) rfl rfl rfl ?_
        refine AW.iload_n (dc hdl_4 144 rfl) rfl ?_
        refine AW.iconst (dc hdl_4 145 rfl) (by decide) ?_
        refine AW.iadd (dc hdl_4 146 rfl) ?_
        refine AW.scr hX (dc hdl_4 147 rfl) g_1 g_582 g_583 ?_
        refine AW.ra_n (dc hdl_4 148 rfl) rfl rfl rfl ?_
        refine AW.iload_n (dc hdl_4 149 rfl) rfl ?_
        refine AW.iconst (dc hdl_4 150 rfl) (by decide) ?_
        refine AW.iadd (dc hdl_4 151 rfl) ?_
        refine AW.scr hX (dc hdl_4 152 rfl) g_1 g_584 g_585 ?_
        refine AW.ra_n (dc hdl_4 153 rfl) rfl rfl rfl ?_
        refine AW.iload_n (dc hdl_4 154 rfl) rfl ?_
        refine AW.iconst (dc hdl_4 155 rfl) (by decide) ?_
        refine AW.iadd (dc hdl_4 156 rfl) ?_
        refine AW.scr hX (dc hdl_4 157 rfl) g_1 g_586 g_587 ?_
        obtain ⟨g_596, h⟩ := h
        refine AW.callV (As := [(0, XS (w32 (v3 + 1)).toNat), (0, XS (w32 (v3 + 2)).toNat), (0, XS (w32 (v3 + 3)).toNat)]) (rest := [(0, r_592)]) (ci := 10) (m_G_sheet l E n C_593 v2 (XS (w32 (v3 + 1)).toNat) (XS (w32 (v3 + 2)).toNat) (XS (w32 (v3 + 3)).toNat) _ q_595h) cb_11_161 im_G_sheet se_G_sheet ⟨_, _, rfl⟩ (by decide) (dc hdl_4 158 rfl) g_596 rfl rfl ⟨Nat.le_of_ble_eq_true rfl, Nat.le_of_ble_eq_true rfl⟩ ⟨g_589, g_590⟩ (Nat.le_of_ble_eq_true rfl) (fun _ h => by cases h) (fun _ => rfl) (fun r_597 C_598 d_599 q_600 => ?_)
        obtain ⟨q_600a, q_600e, q_600i⟩ := q_600
        subst d_599
        subst q_600e
        have h := h C_598 q_600i
        show AW p l e _ s m args below meth c E (M_L_law nmz) true _ n _ _ _ [(3, v0), (2, v1), (2, v2), (0, v3)] [(0, _), (0, _)] C_598
        refine AW.icmp_eq (t := 1698) (dc hdl_4 159 rfl) (by decide) (fun _ => ?_) (fun c => absurd rfl c)
        refine AW.iinc [(3, v0), (2, v1), (2, v2), (0, w32 (v3 + 6))] (dc hdl_6 20 rfl) rfl (Nat.le_of_ble_eq_true rfl) rfl rfl ?_
        refine AW.goto (t := 18) (dc hdl_6 21 rfl) (by decide) ?_
        exact hkz18 C_598 n kc ks (w32 (v3 + 6)) h
      | 35, hj =>
        cases hj
        have h := h.2.2.2.2.2.2.2.2.2.2.2.2.2.2.2.2.2.2.2.2.2.2.2.2.2.2.2.2.2.2.2.2.2.2.2.1 (hx.trans (by decide))
        refine AW.ra_n (dc hdl_4 162 rfl) rfl rfl rfl ?_
        refine AW.ra_n (dc hdl_4 163 rfl) rfl rfl rfl ?_
        refine AW.iload_n (dc hdl_4 164 rfl) rfl ?_
        refine AW.iconst (dc hdl_4 165 rfl) (by decide) ?_
        refine AW.iadd (dc hdl_4 166 rfl) ?_
        obtain ⟨g_601, h⟩ := h
        obtain ⟨g_602, h⟩ := h
        refine AW.scr hX (dc hdl_4 167 rfl) g_1 g_601 g_602 ?_
        refine AW.ra_n (dc hdl_4 168 rfl) rfl rfl rfl ?_
        refine AW.iload_n (dc hdl_4 169 rfl) rfl ?_
        refine AW.iconst (dc hdl_4 170 rfl) (by decide) ?_
        refine AW.iadd (dc hdl_4 171 rfl) ?_
        obtain ⟨g_603, h⟩ := h
        obtain ⟨g_604, h⟩ := h
        refine AW.scr hX (dc hdl_4 172 rfl) g_1 g_603 g_604 ?_
        refine AW.ra_n (dc hdl_4 173 rfl) rfl rfl rfl ?_
        refine AW.iload_n (dc hdl_4 174 rfl) rfl ?_
        refine AW.iconst (dc hdl_4 175 rfl) (by decide) ?_
        refine AW.iadd (dc hdl_4 176 rfl) ?_
        obtain ⟨g_605, h⟩ := h
        obtain ⟨g_606, h⟩ := h
        refine AW.scr hX (dc hdl_4 177 rfl) g_1 g_605 g_606 ?_
        refine AW.i2l (dc hdl_4 178 rfl) ?_
        refine AW.bipush (dc hdl_4 179 rfl) (by decide) (by decide +kernel) ?_
        refine AW.lshl (dc hdl_4 180 rfl) ?_
        refine AW.ra_n (dc hdl_4 181 rfl) rfl rfl rfl ?_
        refine AW.iload_n (dc hdl_4 182 rfl) rfl ?_
        refine AW.iconst (dc hdl_4 183 rfl) (by decide) ?_
        refine AW.iadd (dc hdl_4 184 rfl) ?_
        obtain ⟨g_607, h⟩ := h
        obtain ⟨g_608, h⟩ := h
        refine AW.scr hX (dc hdl_4 185 rfl) g_1 g_607 g_608 ?_
        refine AW.i2l (dc hdl_4 186 rfl) ?_
        refine AW.ldc2 (v := 4294967295) (dc hdl_4 187 rfl) ck_11_119 (by decide) rfl ?_
        refine AW.land (dc hdl_4 188 rfl) ?_
        refine AW.lor (dc hdl_4 189 rfl) ?_
        obtain ⟨g_609, h⟩ := h
        obtain ⟨g_610, h⟩ := h
        obtain ⟨g_611, h⟩ := h
        obtain ⟨w_612, h⟩ := h
        refine AW.callV (As := [(0, XS (w32 (v3 + 1)).toNat), (0, XS (w32 (v3 + 2)).toNat), (1, or64 (shl64 (XS (w32 (v3 + 3)).toNat) 32) (and64 (XS (w32 (v3 + 4)).toNat) 4294967295))]) (rest := []) (ci := 9) (m_F_write l E n C v1 (XS (w32 (v3 + 1)).toNat) (XS (w32 (v3 + 2)).toNat) (or64 (shl64 (XS (w32 (v3 + 3)).toNat) 32) (and64 (XS (w32 (v3 + 4)).toNat) 4294967295)) _ w_612) cb_11_162 im_F_write se_F_write ⟨_, _, rfl⟩ (by decide) (dc hdl_4 190 rfl) g_609 rfl rfl ⟨Nat.le_of_ble_eq_true rfl, Nat.le_of_ble_eq_true rfl⟩ ⟨g_610, g_611⟩ (Nat.le_of_ble_eq_true rfl) (fun _ h => by cases h) (fun _ => rfl) (fun r_613 C_614 d_615 q_616 => ?_)
        obtain ⟨q_616a, q_616h⟩ := q_616
        subst d_615
        show AW p l e _ s m args below meth c E (M_L_law nmz) true _ n _ _ _ [(3, v0), (2, v1), (2, v2), (0, v3)] [(0, r_613)] C_614
        refine AW.ra_n (dc hdl_4 191 rfl) rfl rfl rfl ?_
        refine AW.ra_n (dc hdl_4 192 rfl) rfl rfl rfl ?_
        refine AW.iload_n (dc hdl_4 193 rfl) rfl ?_
        refine AW.iconst (dc hdl_4 194 rfl) (by decide) ?_
        refine AW.iadd (dc hdl_4 195 rfl) ?_
        refine AW.scr hX (dc hdl_4 196 rfl) g_1 g_601 g_602 ?_
        refine AW.ra_n (dc hdl_4 197 rfl) rfl rfl rfl ?_
        refine AW.iload_n (dc hdl_4 198 rfl) rfl ?_
        refine AW.iconst (dc hdl_4 199 rfl) (by decide) ?_
        refine AW.iadd (dc hdl_5 0 rfl) ?_
        refine AW.scr hX (dc hdl_5 1 rfl) g_1 g_603 g_604 ?_
        refine AW.ra_n (dc hdl_5 2 rfl) rfl rfl rfl ?_
        refine AW.iload_n (dc hdl_5 3 rfl) rfl ?_
        refine AW.iconst (dc hdl_5 4 rfl) (by decide) ?_
        refine AW.iadd (dc hdl_5 5 rfl) ?_
        refine AW.scr hX (dc hdl_5 6 rfl) g_1 g_605 g_606 ?_
        refine AW.i2l (dc hdl_5 7 rfl) ?_
        refine AW.bipush (dc hdl_5 8 rfl) (by decide) (by decide +kernel) ?_
        refine AW.lshl (dc hdl_5 9 rfl) ?_
        refine AW.ra_n (dc hdl_5 10 rfl) rfl rfl rfl ?_
        refine AW.iload_n (dc hdl_5 11 rfl) rfl ?_
        refine AW.iconst (dc hdl_5 12 rfl) (by decide) ?_
        refine AW.iadd (dc hdl_5 13 rfl) ?_
        refine AW.scr hX (dc hdl_5 14 rfl) g_1 g_607 g_608 ?_
        refine AW.i2l (dc hdl_5 15 rfl) ?_
        refine AW.ldc2 (v := 4294967295) (dc hdl_5 16 rfl) ck_11_119 (by decide) rfl ?_
        refine AW.land (dc hdl_5 17 rfl) ?_
        refine AW.lor (dc hdl_5 18 rfl) ?_
        obtain ⟨g_617, h⟩ := h
        refine AW.callV (As := [(0, XS (w32 (v3 + 1)).toNat), (0, XS (w32 (v3 + 2)).toNat), (1, or64 (shl64 (XS (w32 (v3 + 3)).toNat) 32) (and64 (XS (w32 (v3 + 4)).toNat) 4294967295))]) (rest := [(0, r_613)]) (ci := 10) (m_G_write l E n C_614 v2 (XS (w32 (v3 + 1)).toNat) (XS (w32 (v3 + 2)).toNat) (or64 (shl64 (XS (w32 (v3 + 3)).toNat) 32) (and64 (XS (w32 (v3 + 4)).toNat) 4294967295)) _ q_616h) cb_11_166 im_G_write se_G_write ⟨_, _, rfl⟩ (by decide) (dc hdl_5 19 rfl) g_617 rfl rfl ⟨Nat.le_of_ble_eq_true rfl, Nat.le_of_ble_eq_true rfl⟩ ⟨g_610, g_611⟩ (Nat.le_of_ble_eq_true rfl) (fun _ h => by cases h) (fun _ => rfl) (fun r_618 C_619 d_620 q_621 => ?_)
        obtain ⟨q_621a, q_621e, q_621i⟩ := q_621
        subst d_620
        subst q_621e
        have h := h C_619 q_621i
        show AW p l e _ s m args below meth c E (M_L_law nmz) true _ n _ _ _ [(3, v0), (2, v1), (2, v2), (0, v3)] [(0, _), (0, _)] C_619
        refine AW.icmp_eq (t := 1698) (dc hdl_5 20 rfl) (by decide) (fun _ => ?_) (fun c => absurd rfl c)
        refine AW.iinc [(3, v0), (2, v1), (2, v2), (0, w32 (v3 + 6))] (dc hdl_6 20 rfl) rfl (Nat.le_of_ble_eq_true rfl) rfl rfl ?_
        refine AW.goto (t := 18) (dc hdl_6 21 rfl) (by decide) ?_
        exact hkz18 C_619 n kc ks (w32 (v3 + 6)) h
      | 36, hj =>
        cases hj
        have h := h.2.2.2.2.2.2.2.2.2.2.2.2.2.2.2.2.2.2.2.2.2.2.2.2.2.2.2.2.2.2.2.2.2.2.2.2.1 (hx.trans (by decide))
        refine AW.ra_n (dc hdl_5 23 rfl) rfl rfl rfl ?_
        refine AW.ra_n (dc hdl_5 24 rfl) rfl rfl rfl ?_
        refine AW.iload_n (dc hdl_5 25 rfl) rfl ?_
        refine AW.iconst (dc hdl_5 26 rfl) (by decide) ?_
        refine AW.iadd (dc hdl_5 27 rfl) ?_
        obtain ⟨g_622, h⟩ := h
        obtain ⟨g_623, h⟩ := h
        refine AW.scr hX (dc hdl_5 28 rfl) g_1 g_622 g_623 ?_
        refine AW.ra_n (dc hdl_5 29 rfl) rfl rfl rfl ?_
        refine AW.iload_n (dc hdl_5 30 rfl) rfl ?_
        refine AW.iconst (dc hdl_5 31 rfl) (by decide) ?_
        refine AW.iadd (dc hdl_5 32 rfl) ?_
        obtain ⟨g_624, h⟩ := h
        obtain ⟨g_625, h⟩ := h
        refine AW.scr hX (dc hdl_5 33 rfl) g_1 g_624 g_625 ?_
        obtain ⟨g_626, h⟩ := h
        obtain ⟨g_627, h⟩ := h
        obtain ⟨g_628, h⟩ := h
        obtain ⟨w_629, h⟩ := h
        refine AW.callV (As := [(0, XS (w32 (v3 + 1)).toNat), (0, XS (w32 (v3 + 2)).toNat)]) (rest := []) (ci := 9) (m_F_item l E n C v1 (XS (w32 (v3 + 1)).toNat) (XS (w32 (v3 + 2)).toNat) _ w_629) cb_11_167 im_F_item se_F_item ⟨_, _, rfl⟩ (by decide) (dc hdl_5 34 rfl) g_626 rfl rfl ⟨Nat.le_of_ble_eq_true rfl, Nat.le_of_ble_eq_true rfl⟩ ⟨g_627, g_628⟩ (Nat.le_of_ble_eq_true rfl) (fun _ h => by cases h) (fun _ => rfl) (fun r_630 C_631 d_632 q_633 => ?_)
        obtain ⟨q_633a, q_633h⟩ := q_633
        subst d_632
        show AW p l e _ s m args below meth c E (M_L_law nmz) true _ n _ _ _ [(3, v0), (2, v1), (2, v2), (0, v3)] [(1, r_630)] C_631
        refine AW.ra_n (dc hdl_5 35 rfl) rfl rfl rfl ?_
        refine AW.ra_n (dc hdl_5 36 rfl) rfl rfl rfl ?_
        refine AW.iload_n (dc hdl_5 37 rfl) rfl ?_
        refine AW.iconst (dc hdl_5 38 rfl) (by decide) ?_
        refine AW.iadd (dc hdl_5 39 rfl) ?_
        refine AW.scr hX (dc hdl_5 40 rfl) g_1 g_622 g_623 ?_
        refine AW.ra_n (dc hdl_5 41 rfl) rfl rfl rfl ?_
        refine AW.iload_n (dc hdl_5 42 rfl) rfl ?_
        refine AW.iconst (dc hdl_5 43 rfl) (by decide) ?_
        refine AW.iadd (dc hdl_5 44 rfl) ?_
        refine AW.scr hX (dc hdl_5 45 rfl) g_1 g_624 g_625 ?_
        obtain ⟨g_634, h⟩ := h
        refine AW.callV (As := [(0, XS (w32 (v3 + 1)).toNat), (0, XS (w32 (v3 + 2)).toNat)]) (rest := [(1, r_630)]) (ci := 10) (m_G_item l E n C_631 v2 (XS (w32 (v3 + 1)).toNat) (XS (w32 (v3 + 2)).toNat) _ q_633h) cb_11_171 im_G_item se_G_item ⟨_, _, rfl⟩ (by decide) (dc hdl_5 46 rfl) g_634 rfl rfl ⟨Nat.le_of_ble_eq_true rfl, Nat.le_of_ble_eq_true rfl⟩ ⟨g_627, g_628⟩ (Nat.le_of_ble_eq_true rfl) (fun _ h => by cases h) (fun _ => rfl) (fun r_635 C_636 d_637 q_638 => ?_)
        obtain ⟨q_638a, q_638e, q_638i⟩ := q_638
        subst d_637
        subst q_638e
        have h := h C_636 q_638i
        show AW p l e _ s m args below meth c E (M_L_law nmz) true _ n _ _ _ [(3, v0), (2, v1), (2, v2), (0, v3)] [(1, _), (1, _)] C_636
        refine AW.lc (dc hdl_5 47 rfl) ?_
        refine AW.if_eq (t := 1698) (dc hdl_5 48 rfl) (by decide) (fun _ => ?_) (fun c => absurd ((lc_eq _ _).mpr rfl) c)
        refine AW.iinc [(3, v0), (2, v1), (2, v2), (0, w32 (v3 + 6))] (dc hdl_6 20 rfl) rfl (Nat.le_of_ble_eq_true rfl) rfl rfl ?_
        refine AW.goto (t := 18) (dc hdl_6 21 rfl) (by decide) ?_
        exact hkz18 C_636 n kc ks (w32 (v3 + 6)) h
      | 37, hj =>
        cases hj
        have h := h.2.2.2.2.2.2.2.2.2.2.2.2.2.2.2.2.2.2.2.2.2.2.2.2.2.2.2.2.2.2.2.2.2.2.2.2.2.1 (hx.trans (by decide))
        refine AW.ra_n (dc hdl_5 51 rfl) rfl rfl rfl ?_
        refine AW.ra_n (dc hdl_5 52 rfl) rfl rfl rfl ?_
        refine AW.iload_n (dc hdl_5 53 rfl) rfl ?_
        refine AW.iconst (dc hdl_5 54 rfl) (by decide) ?_
        refine AW.iadd (dc hdl_5 55 rfl) ?_
        obtain ⟨g_639, h⟩ := h
        obtain ⟨g_640, h⟩ := h
        refine AW.scr hX (dc hdl_5 56 rfl) g_1 g_639 g_640 ?_
        refine AW.ra_n (dc hdl_5 57 rfl) rfl rfl rfl ?_
        refine AW.iload_n (dc hdl_5 58 rfl) rfl ?_
        refine AW.iconst (dc hdl_5 59 rfl) (by decide) ?_
        refine AW.iadd (dc hdl_5 60 rfl) ?_
        obtain ⟨g_641, h⟩ := h
        obtain ⟨g_642, h⟩ := h
        refine AW.scr hX (dc hdl_5 61 rfl) g_1 g_641 g_642 ?_
        refine AW.ra_n (dc hdl_5 62 rfl) rfl rfl rfl ?_
        refine AW.iload_n (dc hdl_5 63 rfl) rfl ?_
        refine AW.iconst (dc hdl_5 64 rfl) (by decide) ?_
        refine AW.iadd (dc hdl_5 65 rfl) ?_
        obtain ⟨g_643, h⟩ := h
        obtain ⟨g_644, h⟩ := h
        refine AW.scr hX (dc hdl_5 66 rfl) g_1 g_643 g_644 ?_
        refine AW.ra_n (dc hdl_5 67 rfl) rfl rfl rfl ?_
        refine AW.iload_n (dc hdl_5 68 rfl) rfl ?_
        refine AW.iconst (dc hdl_5 69 rfl) (by decide) ?_
        refine AW.iadd (dc hdl_5 70 rfl) ?_
        obtain ⟨g_645, h⟩ := h
        obtain ⟨g_646, h⟩ := h
        refine AW.scr hX (dc hdl_5 71 rfl) g_1 g_645 g_646 ?_
        refine AW.ra_n (dc hdl_5 72 rfl) rfl rfl rfl ?_
        refine AW.iload_n (dc hdl_5 73 rfl) rfl ?_
        refine AW.iconst (dc hdl_5 74 rfl) (by decide) ?_
        refine AW.iadd (dc hdl_5 75 rfl) ?_
        obtain ⟨g_647, h⟩ := h
        obtain ⟨g_648, h⟩ := h
        refine AW.scr hX (dc hdl_5 76 rfl) g_1 g_647 g_648 ?_
        obtain ⟨g_649, h⟩ := h
        obtain ⟨g_650, h⟩ := h
        obtain ⟨g_651, h⟩ := h
        obtain ⟨w_652, h⟩ := h
        refine AW.callV (As := [(0, XS (w32 (v3 + 1)).toNat), (0, XS (w32 (v3 + 2)).toNat), (0, XS (w32 (v3 + 3)).toNat), (0, XS (w32 (v3 + 4)).toNat), (0, XS (w32 (v3 + 5)).toNat)]) (rest := []) (ci := 9) (m_F_copy l E n C v1 (XS (w32 (v3 + 1)).toNat) (XS (w32 (v3 + 2)).toNat) (XS (w32 (v3 + 3)).toNat) (XS (w32 (v3 + 4)).toNat) (XS (w32 (v3 + 5)).toNat) _ w_652) cb_11_172 im_F_copy se_F_copy ⟨_, _, rfl⟩ (by decide) (dc hdl_5 77 rfl) g_649 rfl rfl ⟨Nat.le_of_ble_eq_true rfl, Nat.le_of_ble_eq_true rfl⟩ ⟨g_650, g_651⟩ (Nat.le_of_ble_eq_true rfl) (fun _ h => by cases h) (fun _ => rfl) (fun r_653 C_654 d_655 q_656 => ?_)
        obtain ⟨q_656a, q_656h⟩ := q_656
        subst d_655
        show AW p l e _ s m args below meth c E (M_L_law nmz) true _ n _ _ _ [(3, v0), (2, v1), (2, v2), (0, v3)] [(0, r_653)] C_654
        refine AW.ra_n (dc hdl_5 78 rfl) rfl rfl rfl ?_
        refine AW.ra_n (dc hdl_5 79 rfl) rfl rfl rfl ?_
        refine AW.iload_n (dc hdl_5 80 rfl) rfl ?_
        refine AW.iconst (dc hdl_5 81 rfl) (by decide) ?_
        refine AW.iadd (dc hdl_5 82 rfl) ?_
        refine AW.scr hX (dc hdl_5 83 rfl) g_1 g_639 g_640 ?_
        refine AW.ra_n (dc hdl_5 84 rfl) rfl rfl rfl ?_
        refine AW.iload_n (dc hdl_5 85 rfl) rfl ?_
        refine AW.iconst (dc hdl_5 86 rfl) (by decide) ?_
        refine AW.iadd (dc hdl_5 87 rfl) ?_
        refine AW.scr hX (dc hdl_5 88 rfl) g_1 g_641 g_642 ?_
        refine AW.ra_n (dc hdl_5 89 rfl) rfl rfl rfl ?_
        refine AW.iload_n (dc hdl_5 90 rfl) rfl ?_
        refine AW.iconst (dc hdl_5 91 rfl) (by decide) ?_
        refine AW.iadd (dc hdl_5 92 rfl) ?_
        refine AW.scr hX (dc hdl_5 93 rfl) g_1 g_643 g_644 ?_
        refine AW.ra_n (dc hdl_5 94 rfl) rfl rfl rfl ?_
        refine AW.iload_n (dc hdl_5 95 rfl) rfl ?_
        refine AW.iconst (dc hdl_5 96 rfl) (by decide) ?_
        refine AW.iadd (dc hdl_5 97 rfl) ?_
        refine AW.scr hX (dc hdl_5 98 rfl) g_1 g_645 g_646 ?_
        refine AW.ra_n (dc hdl_5 99 rfl) rfl rfl rfl ?_
        refine AW.iload_n (dc hdl_5 100 rfl) rfl ?_
        refine AW.iconst (dc hdl_5 101 rfl) (by decide) ?_
        refine AW.iadd (dc hdl_5 102 rfl) ?_
        refine AW.scr hX (dc hdl_5 103 rfl) g_1 g_647 g_648 ?_
        obtain ⟨g_657, h⟩ := h
        refine AW.callV (As := [(0, XS (w32 (v3 + 1)).toNat), (0, XS (w32 (v3 + 2)).toNat), (0, XS (w32 (v3 + 3)).toNat), (0, XS (w32 (v3 + 4)).toNat), (0, XS (w32 (v3 + 5)).toNat)]) (rest := [(0, r_653)]) (ci := 10) (m_G_copy l E n C_654 v2 (XS (w32 (v3 + 1)).toNat) (XS (w32 (v3 + 2)).toNat) (XS (w32 (v3 + 3)).toNat) (XS (w32 (v3 + 4)).toNat) (XS (w32 (v3 + 5)).toNat) _ q_656h) cb_11_175 im_G_copy se_G_copy ⟨_, _, rfl⟩ (by decide) (dc hdl_5 104 rfl) g_657 rfl rfl ⟨Nat.le_of_ble_eq_true rfl, Nat.le_of_ble_eq_true rfl⟩ ⟨g_650, g_651⟩ (Nat.le_of_ble_eq_true rfl) (fun _ h => by cases h) (fun _ => rfl) (fun r_658 C_659 d_660 q_661 => ?_)
        obtain ⟨q_661a, q_661e, q_661i⟩ := q_661
        subst d_660
        subst q_661e
        have h := h C_659 q_661i
        show AW p l e _ s m args below meth c E (M_L_law nmz) true _ n _ _ _ [(3, v0), (2, v1), (2, v2), (0, v3)] [(0, _), (0, _)] C_659
        refine AW.icmp_eq (t := 1698) (dc hdl_5 105 rfl) (by decide) (fun _ => ?_) (fun c => absurd rfl c)
        refine AW.iinc [(3, v0), (2, v1), (2, v2), (0, w32 (v3 + 6))] (dc hdl_6 20 rfl) rfl (Nat.le_of_ble_eq_true rfl) rfl rfl ?_
        refine AW.goto (t := 18) (dc hdl_6 21 rfl) (by decide) ?_
        exact hkz18 C_659 n kc ks (w32 (v3 + 6)) h
      | 38, hj =>
        cases hj
        have h := h.2.2.2.2.2.2.2.2.2.2.2.2.2.2.2.2.2.2.2.2.2.2.2.2.2.2.2.2.2.2.2.2.2.2.2.2.2.2.1 (hx.trans (by decide))
        refine AW.ra_n (dc hdl_5 108 rfl) rfl rfl rfl ?_
        refine AW.ra_n (dc hdl_5 109 rfl) rfl rfl rfl ?_
        refine AW.iload_n (dc hdl_5 110 rfl) rfl ?_
        refine AW.iconst (dc hdl_5 111 rfl) (by decide) ?_
        refine AW.iadd (dc hdl_5 112 rfl) ?_
        obtain ⟨g_662, h⟩ := h
        obtain ⟨g_663, h⟩ := h
        refine AW.scr hX (dc hdl_5 113 rfl) g_1 g_662 g_663 ?_
        refine AW.ra_n (dc hdl_5 114 rfl) rfl rfl rfl ?_
        refine AW.iload_n (dc hdl_5 115 rfl) rfl ?_
        refine AW.iconst (dc hdl_5 116 rfl) (by decide) ?_
        refine AW.iadd (dc hdl_5 117 rfl) ?_
        obtain ⟨g_664, h⟩ := h
        obtain ⟨g_665, h⟩ := h
        refine AW.scr hX (dc hdl_5 118 rfl) g_1 g_664 g_665 ?_
        refine AW.ra_n (dc hdl_5 119 rfl) rfl rfl rfl ?_
        refine AW.iload_n (dc hdl_5 120 rfl) rfl ?_
        refine AW.iconst (dc hdl_5 121 rfl) (by decide) ?_
        refine AW.iadd (dc hdl_5 122 rfl) ?_
        obtain ⟨g_666, h⟩ := h
        obtain ⟨g_667, h⟩ := h
        refine AW.scr hX (dc hdl_5 123 rfl) g_1 g_666 g_667 ?_
        obtain ⟨g_668, h⟩ := h
        obtain ⟨g_669, h⟩ := h
        obtain ⟨g_670, h⟩ := h
        obtain ⟨w_671, h⟩ := h
        refine AW.callV (As := [(0, XS (w32 (v3 + 1)).toNat), (0, XS (w32 (v3 + 2)).toNat), (0, XS (w32 (v3 + 3)).toNat)]) (rest := []) (ci := 9) (m_F_hold l E n C v1 (XS (w32 (v3 + 1)).toNat) (XS (w32 (v3 + 2)).toNat) (XS (w32 (v3 + 3)).toNat) _ w_671) cb_11_176 im_F_hold se_F_hold ⟨_, _, rfl⟩ (by decide) (dc hdl_5 124 rfl) g_668 rfl rfl ⟨Nat.le_of_ble_eq_true rfl, Nat.le_of_ble_eq_true rfl⟩ ⟨g_669, g_670⟩ (Nat.le_of_ble_eq_true rfl) (fun _ h => by cases h) (fun _ => rfl) (fun r_672 C_673 d_674 q_675 => ?_)
        obtain ⟨q_675a, q_675h⟩ := q_675
        subst d_674
        show AW p l e _ s m args below meth c E (M_L_law nmz) true _ n _ _ _ [(3, v0), (2, v1), (2, v2), (0, v3)] [(0, r_672)] C_673
        refine AW.ra_n (dc hdl_5 125 rfl) rfl rfl rfl ?_
        refine AW.ra_n (dc hdl_5 126 rfl) rfl rfl rfl ?_
        refine AW.iload_n (dc hdl_5 127 rfl) rfl ?_
        refine AW.iconst (dc hdl_5 128 rfl) (by decide) ?_
        refine AW.iadd (dc hdl_5 129 rfl) ?_
        refine AW.scr hX (dc hdl_5 130 rfl) g_1 g_662 g_663 ?_
        refine AW.ra_n (dc hdl_5 131 rfl) rfl rfl rfl ?_
        refine AW.iload_n (dc hdl_5 132 rfl) rfl ?_
        refine AW.iconst (dc hdl_5 133 rfl) (by decide) ?_
        refine AW.iadd (dc hdl_5 134 rfl) ?_
        refine AW.scr hX (dc hdl_5 135 rfl) g_1 g_664 g_665 ?_
        refine AW.ra_n (dc hdl_5 136 rfl) rfl rfl rfl ?_
        refine AW.iload_n (dc hdl_5 137 rfl) rfl ?_
        refine AW.iconst (dc hdl_5 138 rfl) (by decide) ?_
        refine AW.iadd (dc hdl_5 139 rfl) ?_
        refine AW.scr hX (dc hdl_5 140 rfl) g_1 g_666 g_667 ?_
        obtain ⟨g_676, h⟩ := h
        refine AW.callV (As := [(0, XS (w32 (v3 + 1)).toNat), (0, XS (w32 (v3 + 2)).toNat), (0, XS (w32 (v3 + 3)).toNat)]) (rest := [(0, r_672)]) (ci := 10) (m_G_hold l E n C_673 v2 (XS (w32 (v3 + 1)).toNat) (XS (w32 (v3 + 2)).toNat) (XS (w32 (v3 + 3)).toNat) _ q_675h) cb_11_179 im_G_hold se_G_hold ⟨_, _, rfl⟩ (by decide) (dc hdl_5 141 rfl) g_676 rfl rfl ⟨Nat.le_of_ble_eq_true rfl, Nat.le_of_ble_eq_true rfl⟩ ⟨g_669, g_670⟩ (Nat.le_of_ble_eq_true rfl) (fun _ h => by cases h) (fun _ => rfl) (fun r_677 C_678 d_679 q_680 => ?_)
        obtain ⟨q_680a, q_680e, q_680i⟩ := q_680
        subst d_679
        subst q_680e
        have h := h C_678 q_680i
        show AW p l e _ s m args below meth c E (M_L_law nmz) true _ n _ _ _ [(3, v0), (2, v1), (2, v2), (0, v3)] [(0, _), (0, _)] C_678
        refine AW.icmp_eq (t := 1698) (dc hdl_5 142 rfl) (by decide) (fun _ => ?_) (fun c => absurd rfl c)
        refine AW.iinc [(3, v0), (2, v1), (2, v2), (0, w32 (v3 + 6))] (dc hdl_6 20 rfl) rfl (Nat.le_of_ble_eq_true rfl) rfl rfl ?_
        refine AW.goto (t := 18) (dc hdl_6 21 rfl) (by decide) ?_
        exact hkz18 C_678 n kc ks (w32 (v3 + 6)) h
      | 39, hj =>
        cases hj
        have h := h.2.2.2.2.2.2.2.2.2.2.2.2.2.2.2.2.2.2.2.2.2.2.2.2.2.2.2.2.2.2.2.2.2.2.2.2.2.2.2.1 (hx.trans (by decide))
        refine AW.ra_n (dc hdl_5 145 rfl) rfl rfl rfl ?_
        refine AW.ra_n (dc hdl_5 146 rfl) rfl rfl rfl ?_
        refine AW.iload_n (dc hdl_5 147 rfl) rfl ?_
        refine AW.iconst (dc hdl_5 148 rfl) (by decide) ?_
        refine AW.iadd (dc hdl_5 149 rfl) ?_
        obtain ⟨g_681, h⟩ := h
        obtain ⟨g_682, h⟩ := h
        refine AW.scr hX (dc hdl_5 150 rfl) g_1 g_681 g_682 ?_
        refine AW.ra_n (dc hdl_5 151 rfl) rfl rfl rfl ?_
        refine AW.iload_n (dc hdl_5 152 rfl) rfl ?_
        refine AW.iconst (dc hdl_5 153 rfl) (by decide) ?_
        refine AW.iadd (dc hdl_5 154 rfl) ?_
        obtain ⟨g_683, h⟩ := h
        obtain ⟨g_684, h⟩ := h
        refine AW.scr hX (dc hdl_5 155 rfl) g_1 g_683 g_684 ?_
        obtain ⟨g_685, h⟩ := h
        obtain ⟨g_686, h⟩ := h
        obtain ⟨g_687, h⟩ := h
        obtain ⟨w_688, h⟩ := h
        refine AW.callV (As := [(0, XS (w32 (v3 + 1)).toNat), (0, XS (w32 (v3 + 2)).toNat)]) (rest := []) (ci := 9) (m_F_taken l E n C v1 (XS (w32 (v3 + 1)).toNat) (XS (w32 (v3 + 2)).toNat) _ w_688) cb_11_180 im_F_taken se_F_taken ⟨_, _, rfl⟩ (by decide) (dc hdl_5 156 rfl) g_685 rfl rfl ⟨Nat.le_of_ble_eq_true rfl, Nat.le_of_ble_eq_true rfl⟩ ⟨g_686, g_687⟩ (Nat.le_of_ble_eq_true rfl) (fun _ h => by cases h) (fun _ => rfl) (fun r_689 C_690 d_691 q_692 => ?_)
        obtain ⟨q_692a, q_692h⟩ := q_692
        subst d_691
        show AW p l e _ s m args below meth c E (M_L_law nmz) true _ n _ _ _ [(3, v0), (2, v1), (2, v2), (0, v3)] [(0, r_689)] C_690
        refine AW.ra_n (dc hdl_5 157 rfl) rfl rfl rfl ?_
        refine AW.ra_n (dc hdl_5 158 rfl) rfl rfl rfl ?_
        refine AW.iload_n (dc hdl_5 159 rfl) rfl ?_
        refine AW.iconst (dc hdl_5 160 rfl) (by decide) ?_
        refine AW.iadd (dc hdl_5 161 rfl) ?_
        refine AW.scr hX (dc hdl_5 162 rfl) g_1 g_681 g_682 ?_
        refine AW.ra_n (dc hdl_5 163 rfl) rfl rfl rfl ?_
        refine AW.iload_n (dc hdl_5 164 rfl) rfl ?_
        refine AW.iconst (dc hdl_5 165 rfl) (by decide) ?_
        refine AW.iadd (dc hdl_5 166 rfl) ?_
        refine AW.scr hX (dc hdl_5 167 rfl) g_1 g_683 g_684 ?_
        obtain ⟨g_693, h⟩ := h
        refine AW.callV (As := [(0, XS (w32 (v3 + 1)).toNat), (0, XS (w32 (v3 + 2)).toNat)]) (rest := [(0, r_689)]) (ci := 10) (m_G_taken l E n C_690 v2 (XS (w32 (v3 + 1)).toNat) (XS (w32 (v3 + 2)).toNat) _ q_692h) cb_11_183 im_G_taken se_G_taken ⟨_, _, rfl⟩ (by decide) (dc hdl_5 168 rfl) g_693 rfl rfl ⟨Nat.le_of_ble_eq_true rfl, Nat.le_of_ble_eq_true rfl⟩ ⟨g_686, g_687⟩ (Nat.le_of_ble_eq_true rfl) (fun _ h => by cases h) (fun _ => rfl) (fun r_694 C_695 d_696 q_697 => ?_)
        obtain ⟨q_697a, q_697e, q_697i⟩ := q_697
        subst d_696
        subst q_697e
        have h := h C_695 q_697i
        show AW p l e _ s m args below meth c E (M_L_law nmz) true _ n _ _ _ [(3, v0), (2, v1), (2, v2), (0, v3)] [(0, _), (0, _)] C_695
        refine AW.icmp_eq (t := 1698) (dc hdl_5 169 rfl) (by decide) (fun _ => ?_) (fun c => absurd rfl c)
        refine AW.iinc [(3, v0), (2, v1), (2, v2), (0, w32 (v3 + 6))] (dc hdl_6 20 rfl) rfl (Nat.le_of_ble_eq_true rfl) rfl rfl ?_
        refine AW.goto (t := 18) (dc hdl_6 21 rfl) (by decide) ?_
        exact hkz18 C_695 n kc ks (w32 (v3 + 6)) h
      | 40, hj =>
        cases hj
        have h := h.2.2.2.2.2.2.2.2.2.2.2.2.2.2.2.2.2.2.2.2.2.2.2.2.2.2.2.2.2.2.2.2.2.2.2.2.2.2.2.2.1 (hx.trans (by decide))
        refine AW.ra_n (dc hdl_5 172 rfl) rfl rfl rfl ?_
        obtain ⟨g_698, h⟩ := h
        obtain ⟨g_699, h⟩ := h
        obtain ⟨g_700, h⟩ := h
        obtain ⟨w_701, h⟩ := h
        refine AW.callV (As := []) (rest := []) (ci := 9) (m_F_image l E n C v1 _ w_701) cb_11_184 im_F_image se_F_image ⟨_, _, rfl⟩ (by decide) (dc hdl_5 173 rfl) g_698 rfl rfl ⟨Nat.le_of_ble_eq_true rfl, Nat.le_of_ble_eq_true rfl⟩ ⟨g_699, g_700⟩ (Nat.le_of_ble_eq_true rfl) (fun _ h => by cases h) (fun _ => rfl) (fun r_702 C_703 d_704 q_705 => ?_)
        obtain ⟨q_705a, q_705h⟩ := q_705
        subst d_704
        show AW p l e _ s m args below meth c E (M_L_law nmz) true _ n _ _ _ [(3, v0), (2, v1), (2, v2), (0, v3)] [(0, r_702)] C_703
        refine AW.ra_n (dc hdl_5 174 rfl) rfl rfl rfl ?_
        obtain ⟨g_706, h⟩ := h
        refine AW.callV (As := []) (rest := [(0, r_702)]) (ci := 10) (m_G_image l E n C_703 v2 _ q_705h) cb_11_187 im_G_image se_G_image ⟨_, _, rfl⟩ (by decide) (dc hdl_5 175 rfl) g_706 rfl rfl ⟨Nat.le_of_ble_eq_true rfl, Nat.le_of_ble_eq_true rfl⟩ ⟨g_699, g_700⟩ (Nat.le_of_ble_eq_true rfl) (fun _ h => by cases h) (fun _ => rfl) (fun r_707 C_708 d_709 q_710 => ?_)
        obtain ⟨q_710a, q_710e, q_710i⟩ := q_710
        subst d_709
        subst q_710e
        have h := h C_708 q_710i
        show AW p l e _ s m args below meth c E (M_L_law nmz) true _ n _ _ _ [(3, v0), (2, v1), (2, v2), (0, v3)] [(0, _), (0, _)] C_708
        refine AW.icmp_eq (t := 1698) (dc hdl_5 176 rfl) (by decide) (fun _ => ?_) (fun c => absurd rfl c)
        refine AW.iinc [(3, v0), (2, v1), (2, v2), (0, w32 (v3 + 6))] (dc hdl_6 20 rfl) rfl (Nat.le_of_ble_eq_true rfl) rfl rfl ?_
        refine AW.goto (t := 18) (dc hdl_6 21 rfl) (by decide) ?_
        exact hkz18 C_708 n kc ks (w32 (v3 + 6)) h
      | 41, hj =>
        cases hj
        have h := h.2.2.2.2.2.2.2.2.2.2.2.2.2.2.2.2.2.2.2.2.2.2.2.2.2.2.2.2.2.2.2.2.2.2.2.2.2.2.2.2.2.1 (hx.trans (by decide))
        refine AW.ra_n (dc hdl_5 179 rfl) rfl rfl rfl ?_
        obtain ⟨g_711, h⟩ := h
        obtain ⟨g_712, h⟩ := h
        obtain ⟨g_713, h⟩ := h
        obtain ⟨w_714, h⟩ := h
        refine AW.callV (As := []) (rest := []) (ci := 9) (m_F_back l E n C v1 _ w_714) cb_11_188 im_F_back se_F_back ⟨_, _, rfl⟩ (by decide) (dc hdl_5 180 rfl) g_711 rfl rfl ⟨Nat.le_of_ble_eq_true rfl, Nat.le_of_ble_eq_true rfl⟩ ⟨g_712, g_713⟩ (Nat.le_of_ble_eq_true rfl) (fun _ h => by cases h) (fun _ => rfl) (fun r_715 C_716 d_717 q_718 => ?_)
        obtain ⟨q_718a, q_718h⟩ := q_718
        subst d_717
        show AW p l e _ s m args below meth c E (M_L_law nmz) true _ n _ _ _ [(3, v0), (2, v1), (2, v2), (0, v3)] [(0, r_715)] C_716
        refine AW.ra_n (dc hdl_5 181 rfl) rfl rfl rfl ?_
        obtain ⟨g_719, h⟩ := h
        refine AW.callV (As := []) (rest := [(0, r_715)]) (ci := 10) (m_G_back l E n C_716 v2 _ q_718h) cb_11_191 im_G_back se_G_back ⟨_, _, rfl⟩ (by decide) (dc hdl_5 182 rfl) g_719 rfl rfl ⟨Nat.le_of_ble_eq_true rfl, Nat.le_of_ble_eq_true rfl⟩ ⟨g_712, g_713⟩ (Nat.le_of_ble_eq_true rfl) (fun _ h => by cases h) (fun _ => rfl) (fun r_720 C_721 d_722 q_723 => ?_)
        obtain ⟨q_723a, q_723e, q_723i⟩ := q_723
        subst d_722
        subst q_723e
        have h := h C_721 q_723i
        show AW p l e _ s m args below meth c E (M_L_law nmz) true _ n _ _ _ [(3, v0), (2, v1), (2, v2), (0, v3)] [(0, _), (0, _)] C_721
        refine AW.icmp_eq (t := 1698) (dc hdl_5 183 rfl) (by decide) (fun _ => ?_) (fun c => absurd rfl c)
        refine AW.iinc [(3, v0), (2, v1), (2, v2), (0, w32 (v3 + 6))] (dc hdl_6 20 rfl) rfl (Nat.le_of_ble_eq_true rfl) rfl rfl ?_
        refine AW.goto (t := 18) (dc hdl_6 21 rfl) (by decide) ?_
        exact hkz18 C_721 n kc ks (w32 (v3 + 6)) h
      | 42, hj =>
        cases hj
        have h := h.2.2.2.2.2.2.2.2.2.2.2.2.2.2.2.2.2.2.2.2.2.2.2.2.2.2.2.2.2.2.2.2.2.2.2.2.2.2.2.2.2.2.1 (hx.trans (by decide))
        refine AW.ra_n (dc hdl_5 186 rfl) rfl rfl rfl ?_
        refine AW.ra_n (dc hdl_5 187 rfl) rfl rfl rfl ?_
        refine AW.iload_n (dc hdl_5 188 rfl) rfl ?_
        refine AW.iconst (dc hdl_5 189 rfl) (by decide) ?_
        refine AW.iadd (dc hdl_5 190 rfl) ?_
        obtain ⟨g_724, h⟩ := h
        obtain ⟨g_725, h⟩ := h
        refine AW.scr hX (dc hdl_5 191 rfl) g_1 g_724 g_725 ?_
        obtain ⟨g_726, h⟩ := h
        obtain ⟨g_727, h⟩ := h
        obtain ⟨g_728, h⟩ := h
        obtain ⟨w_729, h⟩ := h
        refine AW.callV (As := [(0, XS (w32 (v3 + 1)).toNat)]) (rest := []) (ci := 9) (m_F_count l E n C v1 (XS (w32 (v3 + 1)).toNat) _ w_729) cb_11_192 im_F_count se_F_count ⟨_, _, rfl⟩ (by decide) (dc hdl_5 192 rfl) g_726 rfl rfl ⟨Nat.le_of_ble_eq_true rfl, Nat.le_of_ble_eq_true rfl⟩ ⟨g_727, g_728⟩ (Nat.le_of_ble_eq_true rfl) (fun _ h => by cases h) (fun _ => rfl) (fun r_730 C_731 d_732 q_733 => ?_)
        obtain ⟨q_733a, q_733h⟩ := q_733
        subst d_732
        show AW p l e _ s m args below meth c E (M_L_law nmz) true _ n _ _ _ [(3, v0), (2, v1), (2, v2), (0, v3)] [(0, r_730)] C_731
        refine AW.ra_n (dc hdl_5 193 rfl) rfl rfl rfl ?_
        refine AW.ra_n (dc hdl_5 194 rfl) rfl rfl rfl ?_
        refine AW.iload_n (dc hdl_5 195 rfl) rfl ?_
        refine AW.iconst (dc hdl_5 196 rfl) (by decide) ?_
        refine AW.iadd (dc hdl_5 197 rfl) ?_
        refine AW.scr hX (dc hdl_5 198 rfl) g_1 g_724 g_725 ?_
        obtain ⟨g_734, h⟩ := h
        refine AW.callV (As := [(0, XS (w32 (v3 + 1)).toNat)]) (rest := [(0, r_730)]) (ci := 10) (m_G_count l E n C_731 v2 (XS (w32 (v3 + 1)).toNat) _ q_733h) cb_11_195 im_G_count se_G_count ⟨_, _, rfl⟩ (by decide) (dc hdl_5 199 rfl) g_734 rfl rfl ⟨Nat.le_of_ble_eq_true rfl, Nat.le_of_ble_eq_true rfl⟩ ⟨g_727, g_728⟩ (Nat.le_of_ble_eq_true rfl) (fun _ h => by cases h) (fun _ => rfl) (fun r_735 C_736 d_737 q_738 => ?_)
        obtain ⟨q_738a, q_738e, q_738i⟩ := q_738
        subst d_737
        subst q_738e
        have h := h C_736 q_738i
        show AW p l e _ s m args below meth c E (M_L_law nmz) true _ n _ _ _ [(3, v0), (2, v1), (2, v2), (0, v3)] [(0, _), (0, _)] C_736
        refine AW.icmp_eq (t := 1698) (dc hdl_6 0 rfl) (by decide) (fun _ => ?_) (fun c => absurd rfl c)
        refine AW.iinc [(3, v0), (2, v1), (2, v2), (0, w32 (v3 + 6))] (dc hdl_6 20 rfl) rfl (Nat.le_of_ble_eq_true rfl) rfl rfl ?_
        refine AW.goto (t := 18) (dc hdl_6 21 rfl) (by decide) ?_
        exact hkz18 C_736 n kc ks (w32 (v3 + 6)) h
      | 43, hj =>
        cases hj
        have h := h.2.2.2.2.2.2.2.2.2.2.2.2.2.2.2.2.2.2.2.2.2.2.2.2.2.2.2.2.2.2.2.2.2.2.2.2.2.2.2.2.2.2.2.1 (hx.trans (by decide))
        refine AW.ra_n (dc hdl_6 3 rfl) rfl rfl rfl ?_
        refine AW.ra_n (dc hdl_6 4 rfl) rfl rfl rfl ?_
        refine AW.iload_n (dc hdl_6 5 rfl) rfl ?_
        refine AW.iconst (dc hdl_6 6 rfl) (by decide) ?_
        refine AW.iadd (dc hdl_6 7 rfl) ?_
        obtain ⟨g_739, h⟩ := h
        obtain ⟨g_740, h⟩ := h
        refine AW.scr hX (dc hdl_6 8 rfl) g_1 g_739 g_740 ?_
        obtain ⟨g_741, h⟩ := h
        obtain ⟨g_742, h⟩ := h
        obtain ⟨g_743, h⟩ := h
        obtain ⟨w_744, h⟩ := h
        refine AW.callV (As := [(0, XS (w32 (v3 + 1)).toNat)]) (rest := []) (ci := 9) (m_F_status l E n C v1 (XS (w32 (v3 + 1)).toNat) _ w_744) cb_11_196 im_F_status se_F_status ⟨_, _, rfl⟩ (by decide) (dc hdl_6 9 rfl) g_741 rfl rfl ⟨Nat.le_of_ble_eq_true rfl, Nat.le_of_ble_eq_true rfl⟩ ⟨g_742, g_743⟩ (Nat.le_of_ble_eq_true rfl) (fun _ h => by cases h) (fun _ => rfl) (fun r_745 C_746 d_747 q_748 => ?_)
        obtain ⟨q_748a, q_748h⟩ := q_748
        subst d_747
        show AW p l e _ s m args below meth c E (M_L_law nmz) true _ n _ _ _ [(3, v0), (2, v1), (2, v2), (0, v3)] [(0, r_745)] C_746
        refine AW.ra_n (dc hdl_6 10 rfl) rfl rfl rfl ?_
        refine AW.ra_n (dc hdl_6 11 rfl) rfl rfl rfl ?_
        refine AW.iload_n (dc hdl_6 12 rfl) rfl ?_
        refine AW.iconst (dc hdl_6 13 rfl) (by decide) ?_
        refine AW.iadd (dc hdl_6 14 rfl) ?_
        refine AW.scr hX (dc hdl_6 15 rfl) g_1 g_739 g_740 ?_
        obtain ⟨g_749, h⟩ := h
        refine AW.callV (As := [(0, XS (w32 (v3 + 1)).toNat)]) (rest := [(0, r_745)]) (ci := 10) (m_G_status l E n C_746 v2 (XS (w32 (v3 + 1)).toNat) _ q_748h) cb_11_199 im_G_status se_G_status ⟨_, _, rfl⟩ (by decide) (dc hdl_6 16 rfl) g_749 rfl rfl ⟨Nat.le_of_ble_eq_true rfl, Nat.le_of_ble_eq_true rfl⟩ ⟨g_742, g_743⟩ (Nat.le_of_ble_eq_true rfl) (fun _ h => by cases h) (fun _ => rfl) (fun r_750 C_751 d_752 q_753 => ?_)
        obtain ⟨q_753a, q_753e, q_753i⟩ := q_753
        subst d_752
        subst q_753e
        have h := h C_751 q_753i
        show AW p l e _ s m args below meth c E (M_L_law nmz) true _ n _ _ _ [(3, v0), (2, v1), (2, v2), (0, v3)] [(0, _), (0, _)] C_751
        refine AW.icmp_eq (t := 1698) (dc hdl_6 17 rfl) (by decide) (fun _ => ?_) (fun c => absurd rfl c)
        refine AW.iinc [(3, v0), (2, v1), (2, v2), (0, w32 (v3 + 6))] (dc hdl_6 20 rfl) rfl (Nat.le_of_ble_eq_true rfl) rfl rfl ?_
        refine AW.goto (t := 18) (dc hdl_6 21 rfl) (by decide) ?_
        exact hkz18 C_751 n kc ks (w32 (v3 + 6)) h
      | j + 44, hj => exact absurd hj (by simp)
    · have h := h.2.2.2.2.2.2.2.2.2.2.2.2.2.2.2.2.2.2.2.2.2.2.2.2.2.2.2.2.2.2.2.2.2.2.2.2.2.2.2.2.2.2.2.2 q_7
      refine AW.iinc [(3, v0), (2, v1), (2, v2), (0, w32 (v3 + 6))] (dc hdl_6 20 rfl) rfl (Nat.le_of_ble_eq_true rfl) rfl rfl ?_
      refine AW.goto (t := 18) (dc hdl_6 21 rfl) (by decide) ?_
      exact hkz18 C n kc ks (w32 (v3 + 6)) h
theorem aB_L_law_18 (XS : Nat → Int) (LN : Int) (hX : SCR E s XS LN) (v0 v1 v2 : Int) (Q : Int → Cn → Nat → Prop) : ∀ (f : Nat) (z : Cn × Nat × Nat × Nat × Int), lp (B_L_law_18 XS LN v0 v1 v2 Q) f z → AW p l e R s m args below meth c E (M_L_law nmz) true Q z.2.1 z.2.2.1 z.2.2.2.1 18 [(3, v0), (2, v1), (2, v2), (0, z.2.2.2.2)] [] (z.1) := by
  intro f
  induction f with
  | zero => intro z h; exact False.elim h
  | succ f ih => intro z h; exact bB_L_law_18 XS LN hX v0 v1 v2 Q (lp (B_L_law_18 XS LN v0 v1 v2 Q) f) (fun a0 a1 a2 a3 a4 h => ih (a0, a1, a2, a3, a4) h) z.1 z.2.1 z.2.2.1 z.2.2.2.1 z.2.2.2.2 h
def E_L_law (XS : Nat → Int) (LN : Int) (n : Nat) (C : Cn) (kc ks : Nat) (v0 v1 v2 : Int) (Q : Int → Cn → Nat → Prop) : Prop :=
  ∃ f_754 : Nat, lp (B_L_law_18 XS LN v0 v1 v2 Q) f_754 (C, n, kc, ks, 0)
theorem aE_L_law (XS : Nat → Int) (LN : Int) (hX : SCR E s XS LN) (n : Nat) (C : Cn) (kc ks : Nat) (v0 v1 v2 : Int) (Q : Int → Cn → Nat → Prop) (h : E_L_law XS LN n C kc ks v0 v1 v2 Q) : AW p l e R s m args below meth c E (M_L_law nmz) true Q n kc ks 16 [(3, v0), (2, v1), (2, v2), (9, 0)] [] C := by
  unfold E_L_law at h
  refine AW.iconst (dc hdl_0 8 rfl) (by decide) ?_
  refine AW.istore_n [(3, v0), (2, v1), (2, v2), (0, 0)] (dc hdl_0 9 rfl) (Nat.le_of_ble_eq_true rfl) rfl rfl ?_
  obtain ⟨f_754, h⟩ := h
  exact aB_L_law_18 XS LN hX v0 v1 v2 Q f_754 (C, n, kc, ks, 0) h
end
