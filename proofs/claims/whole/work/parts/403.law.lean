section
variable {p : Program} {l : Launch} {e : Env} {R : Room} {s : State} {m : MethodId} {args : Array Value} {below : List Frame} {meth : Method} {c : Code} {E : Ev} {nmz : String}
def B_L_law_18 (XS : Nat → Int) (LN : Int) (v0 v1 v2 : Int) (Q : Int → Cn → Nat → Prop) (kz18 : Cn × Nat × Nat × Nat × Int → Prop) (z : Cn × Nat × Nat × Nat × Int) : Prop := match z with
  | (C, n, kc, ks, v3) => v0 = 2 ∧ ((w32 (LN - 6) < v3 → (kc ≤ 600000 ∧ (ks ≤ 7302250 ∧ (Q 1 C n)))) ∧ (¬ w32 (LN - 6) < v3 → (0 ≤ v3 ∧ (v3 < LN ∧ ((and32 (XS v3.toNat) 63 = 0 → (0 ≤ w32 (v3 + 1) ∧ (w32 (v3 + 1) < LN ∧ (0 ≤ w32 (v3 + 2) ∧ (w32 (v3 + 2) < LN ∧ (0 ≤ w32 (v3 + 3) ∧ (w32 (v3 + 3) < LN ∧ (0 ≤ w32 (v3 + 4) ∧ (w32 (v3 + 4) < LN ∧ (0 ≤ w32 (v3 + 5) ∧ (w32 (v3 + 5) < LN ∧ (okO n v1 9 ∧ (kc ≤ 600000 ∧ (ks ≤ 7302250 ∧ (P_F_segment n C v1 (XS (w32 (v3 + 1)).toNat) (XS (w32 (v3 + 2)).toNat) (XS (w32 (v3 + 3)).toNat) (XS (w32 (v3 + 4)).toNat) (XS (w32 (v3 + 5)).toNat) (fun (r_18 : Int) (C_22 : Cn) => okO n v2 10 ∧ (P_G_segment n C_22 v2 (XS (w32 (v3 + 1)).toNat) (XS (w32 (v3 + 2)).toNat) (XS (w32 (v3 + 3)).toNat) (XS (w32 (v3 + 4)).toNat) (XS (w32 (v3 + 5)).toNat) (fun (r_25 : Int) (C_27 : Cn) => (r_18 = r_25 → (kz18 (C_27, n, kc, ks, w32 (v3 + 6)))) ∧ (¬ r_18 = r_25 → (Q 0 C_27 n)))))))))))))))))))) ∧ (and32 (XS v3.toNat) 63 = 1 → (0 ≤ w32 (v3 + 1) ∧ (w32 (v3 + 1) < LN ∧ (0 ≤ w32 (v3 + 2) ∧ (w32 (v3 + 2) < LN ∧ (0 ≤ w32 (v3 + 3) ∧ (w32 (v3 + 3) < LN ∧ (0 ≤ w32 (v3 + 4) ∧ (w32 (v3 + 4) < LN ∧ (0 ≤ w32 (v3 + 5) ∧ (w32 (v3 + 5) < LN ∧ (okO n v1 9 ∧ (kc ≤ 600000 ∧ (ks ≤ 7302250 ∧ (P_F_move n C v1 (XS (w32 (v3 + 1)).toNat) (XS (w32 (v3 + 2)).toNat) (XS (w32 (v3 + 3)).toNat) (XS (w32 (v3 + 4)).toNat) (XS (w32 (v3 + 5)).toNat) (fun (r_41 : Int) (C_45 : Cn) => okO n v2 10 ∧ (P_G_move n C_45 v2 (XS (w32 (v3 + 1)).toNat) (XS (w32 (v3 + 2)).toNat) (XS (w32 (v3 + 3)).toNat) (XS (w32 (v3 + 4)).toNat) (XS (w32 (v3 + 5)).toNat) (fun (r_48 : Int) (C_50 : Cn) => (r_41 = r_48 → (kz18 (C_50, n, kc, ks, w32 (v3 + 6)))) ∧ (¬ r_41 = r_48 → (Q 0 C_50 n)))))))))))))))))))) ∧ (and32 (XS v3.toNat) 63 = 2 → (0 ≤ w32 (v3 + 1) ∧ (w32 (v3 + 1) < LN ∧ (0 ≤ w32 (v3 + 2) ∧ (w32 (v3 + 2) < LN ∧ (okO n v1 9 ∧ (kc ≤ 600000 ∧ (ks ≤ 7302250 ∧ (P_F_become n C v1 (XS (w32 (v3 + 1)).toNat) (XS (w32 (v3 + 2)).toNat) (fun (r_58 : Int) (C_62 : Cn) => okO n v2 10 ∧ (P_G_become n C_62 v2 (XS (w32 (v3 + 1)).toNat) (XS (w32 (v3 + 2)).toNat) (fun (r_65 : Int) (C_67 : Cn) => (r_58 = r_65 → (kz18 (C_67, n, kc, ks, w32 (v3 + 6)))) ∧ (¬ r_58 = r_65 → (Q 0 C_67 n)))))))))))))) ∧ (and32 (XS v3.toNat) 63 = 3 → (okO n v1 9 ∧ (kc ≤ 600000 ∧ (ks ≤ 7302250 ∧ (P_F_drop n C v1 (fun (r_71 : Int) (C_75 : Cn) => okO n v2 10 ∧ (P_G_drop n C_75 v2 (fun (r_78 : Int) (C_80 : Cn) => (r_71 = r_78 → (kz18 (C_80, n, kc, ks, w32 (v3 + 6)))) ∧ (¬ r_71 = r_78 → (Q 0 C_80 n)))))))))) ∧ (and32 (XS v3.toNat) 63 = 4 → (0 ≤ w32 (v3 + 1) ∧ (w32 (v3 + 1) < LN ∧ (0 ≤ w32 (v3 + 2) ∧ (w32 (v3 + 2) < LN ∧ (okO n v1 9 ∧ (kc ≤ 600000 ∧ (ks ≤ 7302250 ∧ (P_F_of n C v1 (XS (w32 (v3 + 1)).toNat) (XS (w32 (v3 + 2)).toNat) (fun (r_88 : Int) (C_92 : Cn) => okO n v2 10 ∧ (P_G_of n C_92 v2 (XS (w32 (v3 + 1)).toNat) (XS (w32 (v3 + 2)).toNat) (fun (r_95 : Int) (C_97 : Cn) => (r_88 = r_95 → (kz18 (C_97, n, kc, ks, w32 (v3 + 6)))) ∧ (¬ r_88 = r_95 → (Q 0 C_97 n)))))))))))))) ∧ (and32 (XS v3.toNat) 63 = 5 → (0 ≤ w32 (v3 + 1) ∧ (w32 (v3 + 1) < LN ∧ (okO n v1 9 ∧ (kc ≤ 600000 ∧ (ks ≤ 7302250 ∧ (P_F_tide n C v1 (XS (w32 (v3 + 1)).toNat) (fun (r_103 : Int) (C_107 : Cn) => okO n v2 10 ∧ (P_G_tide n C_107 v2 (XS (w32 (v3 + 1)).toNat) (fun (r_110 : Int) (C_112 : Cn) => (r_103 = r_110 → (kz18 (C_112, n, kc, ks, w32 (v3 + 6)))) ∧ (¬ r_103 = r_110 → (Q 0 C_112 n)))))))))))) ∧ (and32 (XS v3.toNat) 63 = 6 → (0 ≤ w32 (v3 + 1) ∧ (w32 (v3 + 1) < LN ∧ (okO n v1 9 ∧ (kc ≤ 600000 ∧ (ks ≤ 7302250 ∧ (P_F_blame n C v1 (XS (w32 (v3 + 1)).toNat) (fun (r_118 : Int) (C_122 : Cn) => okO n v2 10 ∧ (P_G_blame n C_122 v2 (XS (w32 (v3 + 1)).toNat) (fun (r_125 : Int) (C_127 : Cn) => (r_118 = r_125 → (kz18 (C_127, n, kc, ks, w32 (v3 + 6)))) ∧ (¬ r_118 = r_125 → (Q 0 C_127 n)))))))))))) ∧ (and32 (XS v3.toNat) 63 = 7 → (0 ≤ w32 (v3 + 1) ∧ (w32 (v3 + 1) < LN ∧ (okO n v1 9 ∧ (kc ≤ 600000 ∧ (ks ≤ 7302250 ∧ (P_F_many n C v1 (XS (w32 (v3 + 1)).toNat) (fun (r_133 : Int) (C_137 : Cn) => okO n v2 10 ∧ (P_G_many n C_137 v2 (XS (w32 (v3 + 1)).toNat) (fun (r_140 : Int) (C_142 : Cn) => (r_133 = r_140 → (kz18 (C_142, n, kc, ks, w32 (v3 + 6)))) ∧ (¬ r_133 = r_140 → (Q 0 C_142 n)))))))))))) ∧ (and32 (XS v3.toNat) 63 = 8 → (0 ≤ w32 (v3 + 1) ∧ (w32 (v3 + 1) < LN ∧ (0 ≤ w32 (v3 + 2) ∧ (w32 (v3 + 2) < LN ∧ (okO n v1 9 ∧ (kc ≤ 600000 ∧ (ks ≤ 7302250 ∧ (P_F_end n C v1 (XS (w32 (v3 + 1)).toNat) (XS (w32 (v3 + 2)).toNat) (fun (r_150 : Int) (C_154 : Cn) => okO n v2 10 ∧ (P_G_end n C_154 v2 (XS (w32 (v3 + 1)).toNat) (XS (w32 (v3 + 2)).toNat) (fun (r_157 : Int) (C_159 : Cn) => (r_150 = r_157 → (kz18 (C_159, n, kc, ks, w32 (v3 + 6)))) ∧ (¬ r_150 = r_157 → (Q 0 C_159 n)))))))))))))) ∧ (and32 (XS v3.toNat) 63 = 9 → (0 ≤ w32 (v3 + 1) ∧ (w32 (v3 + 1) < LN ∧ (0 ≤ w32 (v3 + 2) ∧ (w32 (v3 + 2) < LN ∧ (okO n v1 9 ∧ (kc ≤ 600000 ∧ (ks ≤ 7302250 ∧ (P_F_field n C v1 (XS (w32 (v3 + 1)).toNat) (XS (w32 (v3 + 2)).toNat) (fun (r_167 : Int) (C_171 : Cn) => okO n v2 10 ∧ (P_G_field n C_171 v2 (XS (w32 (v3 + 1)).toNat) (XS (w32 (v3 + 2)).toNat) (fun (r_174 : Int) (C_176 : Cn) => (r_167 = r_174 → (kz18 (C_176, n, kc, ks, w32 (v3 + 6)))) ∧ (¬ r_167 = r_174 → (Q 0 C_176 n)))))))))))))) ∧ (and32 (XS v3.toNat) 63 = 10 → (0 ≤ w32 (v3 + 1) ∧ (w32 (v3 + 1) < LN ∧ (0 ≤ w32 (v3 + 2) ∧ (w32 (v3 + 2) < LN ∧ (okO n v1 9 ∧ (kc ≤ 600000 ∧ (ks ≤ 7302250 ∧ (P_F_at n C v1 (XS (w32 (v3 + 1)).toNat) (XS (w32 (v3 + 2)).toNat) (fun (r_184 : Int) (C_188 : Cn) => okO n v2 10 ∧ (P_G_at n C_188 v2 (XS (w32 (v3 + 1)).toNat) (XS (w32 (v3 + 2)).toNat) (fun (r_191 : Int) (C_193 : Cn) => (r_184 = r_191 → (kz18 (C_193, n, kc, ks, w32 (v3 + 6)))) ∧ (¬ r_184 = r_191 → (Q 0 C_193 n)))))))))))))) ∧ (and32 (XS v3.toNat) 63 = 11 → (0 ≤ w32 (v3 + 1) ∧ (w32 (v3 + 1) < LN ∧ (0 ≤ w32 (v3 + 2) ∧ (w32 (v3 + 2) < LN ∧ (0 ≤ w32 (v3 + 3) ∧ (w32 (v3 + 3) < LN ∧ (okO n v1 9 ∧ (kc ≤ 600000 ∧ (ks ≤ 7302250 ∧ (P_F_near n C v1 (XS (w32 (v3 + 1)).toNat) (XS (w32 (v3 + 2)).toNat) (XS (w32 (v3 + 3)).toNat) (fun (r_203 : Int) (C_207 : Cn) => okO n v2 10 ∧ (P_G_near n C_207 v2 (XS (w32 (v3 + 1)).toNat) (XS (w32 (v3 + 2)).toNat) (XS (w32 (v3 + 3)).toNat) (fun (r_210 : Int) (C_212 : Cn) => (r_203 = r_210 → (kz18 (C_212, n, kc, ks, w32 (v3 + 6)))) ∧ (¬ r_203 = r_210 → (Q 0 C_212 n)))))))))))))))) ∧ (and32 (XS v3.toNat) 63 = 12 → (0 ≤ w32 (v3 + 1) ∧ (w32 (v3 + 1) < LN ∧ (0 ≤ w32 (v3 + 2) ∧ (w32 (v3 + 2) < LN ∧ (0 ≤ w32 (v3 + 3) ∧ (w32 (v3 + 3) < LN ∧ (0 ≤ w32 (v3 + 4) ∧ (w32 (v3 + 4) < LN ∧ (okO n v1 9 ∧ (kc ≤ 600000 ∧ (ks ≤ 7302250 ∧ (P_F_sight n C v1 (XS (w32 (v3 + 1)).toNat) (XS (w32 (v3 + 2)).toNat) (XS (w32 (v3 + 3)).toNat) (XS (w32 (v3 + 4)).toNat) (fun (r_224 : Int) (C_228 : Cn) => okO n v2 10 ∧ (P_G_sight n C_228 v2 (XS (w32 (v3 + 1)).toNat) (XS (w32 (v3 + 2)).toNat) (XS (w32 (v3 + 3)).toNat) (XS (w32 (v3 + 4)).toNat) (fun (r_231 : Int) (C_233 : Cn) => (r_224 = r_231 → (kz18 (C_233, n, kc, ks, w32 (v3 + 6)))) ∧ (¬ r_224 = r_231 → (Q 0 C_233 n)))))))))))))))))) ∧ (and32 (XS v3.toNat) 63 = 13 → (0 ≤ w32 (v3 + 1) ∧ (w32 (v3 + 1) < LN ∧ (0 ≤ w32 (v3 + 2) ∧ (w32 (v3 + 2) < LN ∧ (okO n v1 9 ∧ (kc ≤ 600000 ∧ (ks ≤ 7302250 ∧ (P_F_steps n C v1 (XS (w32 (v3 + 1)).toNat) (XS (w32 (v3 + 2)).toNat) (fun (r_241 : Int) (C_245 : Cn) => okO n v2 10 ∧ (P_G_steps n C_245 v2 (XS (w32 (v3 + 1)).toNat) (XS (w32 (v3 + 2)).toNat) (fun (r_248 : Int) (C_250 : Cn) => (r_241 = r_248 → (kz18 (C_250, n, kc, ks, w32 (v3 + 6)))) ∧ (¬ r_241 = r_248 → (Q 0 C_250 n)))))))))))))) ∧ (and32 (XS v3.toNat) 63 = 14 → (0 ≤ w32 (v3 + 1) ∧ (w32 (v3 + 1) < LN ∧ (okO n v1 9 ∧ (kc ≤ 600000 ∧ (ks ≤ 7302250 ∧ (P_F_depth n C v1 (XS (w32 (v3 + 1)).toNat) (fun (r_256 : Int) (C_260 : Cn) => okO n v2 10 ∧ (P_G_depth n C_260 v2 (XS (w32 (v3 + 1)).toNat) (fun (r_263 : Int) (C_265 : Cn) => (r_256 = r_263 → (kz18 (C_265, n, kc, ks, w32 (v3 + 6)))) ∧ (¬ r_256 = r_263 → (Q 0 C_265 n)))))))))))) ∧ (and32 (XS v3.toNat) 63 = 15 → (0 ≤ w32 (v3 + 1) ∧ (w32 (v3 + 1) < LN ∧ (0 ≤ w32 (v3 + 2) ∧ (w32 (v3 + 2) < LN ∧ (okO n v1 9 ∧ (kc ≤ 600000 ∧ (ks ≤ 7302250 ∧ (P_F_ordered n C v1 (XS (w32 (v3 + 1)).toNat) (XS (w32 (v3 + 2)).toNat) (fun (r_273 : Int) (C_277 : Cn) => okO n v2 10 ∧ (P_G_ordered n C_277 v2 (XS (w32 (v3 + 1)).toNat) (XS (w32 (v3 + 2)).toNat) (fun (r_280 : Int) (C_282 : Cn) => (r_273 = r_280 → (kz18 (C_282, n, kc, ks, w32 (v3 + 6)))) ∧ (¬ r_273 = r_280 → (Q 0 C_282 n)))))))))))))) ∧ (and32 (XS v3.toNat) 63 = 16 → (okO n v1 9 ∧ (kc ≤ 600000 ∧ (ks ≤ 7302250 ∧ (P_F_best n C v1 (fun (r_286 : Int) (C_290 : Cn) => okO n v2 10 ∧ (P_G_best n C_290 v2 (fun (r_293 : Int) (C_295 : Cn) => (r_286 = r_293 → (kz18 (C_295, n, kc, ks, w32 (v3 + 6)))) ∧ (¬ r_286 = r_293 → (Q 0 C_295 n)))))))))) ∧ (and32 (XS v3.toNat) 63 = 17 → (0 ≤ w32 (v3 + 1) ∧ (w32 (v3 + 1) < LN ∧ (okO n v1 9 ∧ (kc ≤ 600000 ∧ (ks ≤ 7302250 ∧ (P_F_renumber n C v1 (XS (w32 (v3 + 1)).toNat) (fun (r_301 : Int) (C_305 : Cn) => okO n v2 10 ∧ (P_G_renumber n C_305 v2 (XS (w32 (v3 + 1)).toNat) (fun (r_308 : Int) (C_310 : Cn) => (r_301 = r_308 → (kz18 (C_310, n, kc, ks, w32 (v3 + 6)))) ∧ (¬ r_301 = r_308 → (Q 0 C_310 n)))))))))))) ∧ (and32 (XS v3.toNat) 63 = 18 → (0 ≤ w32 (v3 + 1) ∧ (w32 (v3 + 1) < LN ∧ (0 ≤ w32 (v3 + 2) ∧ (w32 (v3 + 2) < LN ∧ (okO n v1 9 ∧ (kc ≤ 600000 ∧ (ks ≤ 7302250 ∧ (P_F_cost n C v1 (XS (w32 (v3 + 1)).toNat) (XS (w32 (v3 + 2)).toNat) (fun (r_318 : Int) (C_322 : Cn) => okO n v2 10 ∧ (P_G_cost n C_322 v2 (XS (w32 (v3 + 1)).toNat) (XS (w32 (v3 + 2)).toNat) (fun (r_325 : Int) (C_327 : Cn) => (r_318 = r_325 → (kz18 (C_327, n, kc, ks, w32 (v3 + 6)))) ∧ (¬ r_318 = r_325 → (Q 0 C_327 n)))))))))))))) ∧ (and32 (XS v3.toNat) 63 = 19 → (0 ≤ w32 (v3 + 1) ∧ (w32 (v3 + 1) < LN ∧ (0 ≤ w32 (v3 + 2) ∧ (w32 (v3 + 2) < LN ∧ (okO n v1 9 ∧ (kc ≤ 600000 ∧ (ks ≤ 7302250 ∧ (P_F_next n C v1 (XS (w32 (v3 + 1)).toNat) (XS (w32 (v3 + 2)).toNat) (fun (r_335 : Int) (C_339 : Cn) => okO n v2 10 ∧ (P_G_next n C_339 v2 (XS (w32 (v3 + 1)).toNat) (XS (w32 (v3 + 2)).toNat) (fun (r_342 : Int) (C_344 : Cn) => (r_335 = r_342 → (kz18 (C_344, n, kc, ks, w32 (v3 + 6)))) ∧ (¬ r_335 = r_342 → (Q 0 C_344 n)))))))))))))) ∧ (and32 (XS v3.toNat) 63 = 20 → (0 ≤ w32 (v3 + 1) ∧ (w32 (v3 + 1) < LN ∧ (0 ≤ w32 (v3 + 2) ∧ (w32 (v3 + 2) < LN ∧ (okO n v1 9 ∧ (kc ≤ 600000 ∧ (ks ≤ 7302250 ∧ (P_F_within n C v1 (XS (w32 (v3 + 1)).toNat) (XS (w32 (v3 + 2)).toNat) (fun (r_352 : Int) (C_356 : Cn) => okO n v2 10 ∧ (P_G_within n C_356 v2 (XS (w32 (v3 + 1)).toNat) (XS (w32 (v3 + 2)).toNat) (fun (r_359 : Int) (C_361 : Cn) => (r_352 = r_359 → (kz18 (C_361, n, kc, ks, w32 (v3 + 6)))) ∧ (¬ r_352 = r_359 → (Q 0 C_361 n)))))))))))))) ∧ (and32 (XS v3.toNat) 63 = 21 → (0 ≤ w32 (v3 + 1) ∧ (w32 (v3 + 1) < LN ∧ (0 ≤ w32 (v3 + 2) ∧ (w32 (v3 + 2) < LN ∧ (0 ≤ w32 (v3 + 3) ∧ (w32 (v3 + 3) < LN ∧ (0 ≤ w32 (v3 + 4) ∧ (w32 (v3 + 4) < LN ∧ (okO n v1 9 ∧ (kc ≤ 600000 ∧ (ks ≤ 7302250 ∧ (P_F_lose n C v1 (XS (w32 (v3 + 1)).toNat) (XS (w32 (v3 + 2)).toNat) (XS (w32 (v3 + 3)).toNat) (XS (w32 (v3 + 4)).toNat) (fun (r_373 : Int) (C_377 : Cn) => okO n v2 10 ∧ (P_G_lose n C_377 v2 (XS (w32 (v3 + 1)).toNat) (XS (w32 (v3 + 2)).toNat) (XS (w32 (v3 + 3)).toNat) (XS (w32 (v3 + 4)).toNat) (fun (r_380 : Int) (C_382 : Cn) => (r_373 = r_380 → (kz18 (C_382, n, kc, ks, w32 (v3 + 6)))) ∧ (¬ r_373 = r_380 → (Q 0 C_382 n)))))))))))))))))) ∧ (and32 (XS v3.toNat) 63 = 22 → (0 ≤ w32 (v3 + 1) ∧ (w32 (v3 + 1) < LN ∧ (0 ≤ w32 (v3 + 2) ∧ (w32 (v3 + 2) < LN ∧ (0 ≤ w32 (v3 + 3) ∧ (w32 (v3 + 3) < LN ∧ (0 ≤ w32 (v3 + 4) ∧ (w32 (v3 + 4) < LN ∧ (0 ≤ w32 (v3 + 5) ∧ (w32 (v3 + 5) < LN ∧ (okO n v1 9 ∧ (kc ≤ 600000 ∧ (ks ≤ 7302250 ∧ (P_F_kindFor n C v1 (XS (w32 (v3 + 1)).toNat) (XS (w32 (v3 + 2)).toNat) (XS (w32 (v3 + 3)).toNat) (XS (w32 (v3 + 4)).toNat) (XS (w32 (v3 + 5)).toNat) (fun (r_396 : Int) (C_400 : Cn) => okO n v2 10 ∧ (P_G_kindFor n C_400 v2 (XS (w32 (v3 + 1)).toNat) (XS (w32 (v3 + 2)).toNat) (XS (w32 (v3 + 3)).toNat) (XS (w32 (v3 + 4)).toNat) (XS (w32 (v3 + 5)).toNat) (fun (r_403 : Int) (C_405 : Cn) => (r_396 = r_403 → (kz18 (C_405, n, kc, ks, w32 (v3 + 6)))) ∧ (¬ r_396 = r_403 → (Q 0 C_405 n)))))))))))))))))))) ∧ (and32 (XS v3.toNat) 63 = 23 → (0 ≤ w32 (v3 + 1) ∧ (w32 (v3 + 1) < LN ∧ (0 ≤ w32 (v3 + 2) ∧ (w32 (v3 + 2) < LN ∧ (okO n v1 9 ∧ (kc ≤ 600000 ∧ (ks ≤ 7302250 ∧ (P_F_asks n C v1 (XS (w32 (v3 + 1)).toNat) (XS (w32 (v3 + 2)).toNat) (fun (r_413 : Int) (C_417 : Cn) => okO n v2 10 ∧ (P_G_asks n C_417 v2 (XS (w32 (v3 + 1)).toNat) (XS (w32 (v3 + 2)).toNat) (fun (r_420 : Int) (C_422 : Cn) => (r_413 = r_420 → (kz18 (C_422, n, kc, ks, w32 (v3 + 6)))) ∧ (¬ r_413 = r_420 → (Q 0 C_422 n)))))))))))))) ∧ (and32 (XS v3.toNat) 63 = 24 → (0 ≤ w32 (v3 + 1) ∧ (w32 (v3 + 1) < LN ∧ (okO n v1 9 ∧ (kc ≤ 600000 ∧ (ks ≤ 7302250 ∧ (P_F_loose n C v1 (XS (w32 (v3 + 1)).toNat) (fun (r_428 : Int) (C_432 : Cn) => okO n v2 10 ∧ (P_G_loose n C_432 v2 (XS (w32 (v3 + 1)).toNat) (fun (r_435 : Int) (C_437 : Cn) => (r_428 = r_435 → (kz18 (C_437, n, kc, ks, w32 (v3 + 6)))) ∧ (¬ r_428 = r_435 → (Q 0 C_437 n)))))))))))) ∧ (and32 (XS v3.toNat) 63 = 25 → (0 ≤ w32 (v3 + 1) ∧ (w32 (v3 + 1) < LN ∧ (0 ≤ w32 (v3 + 2) ∧ (w32 (v3 + 2) < LN ∧ (0 ≤ w32 (v3 + 3) ∧ (w32 (v3 + 3) < LN ∧ (okO n v1 9 ∧ (kc ≤ 600000 ∧ (ks ≤ 7302250 ∧ (P_F_book n C v1 (XS (w32 (v3 + 1)).toNat) (or64 (shl64 (XS (w32 (v3 + 2)).toNat) 32) (and64 (XS (w32 (v3 + 3)).toNat) 4294967295)) (fun (r_447 : Int) (C_451 : Cn) => okO n v2 10 ∧ (P_G_book n C_451 v2 (XS (w32 (v3 + 1)).toNat) (or64 (shl64 (XS (w32 (v3 + 2)).toNat) 32) (and64 (XS (w32 (v3 + 3)).toNat) 4294967295)) (fun (r_454 : Int) (C_456 : Cn) => (r_447 = r_454 → (kz18 (C_456, n, kc, ks, w32 (v3 + 6)))) ∧ (¬ r_447 = r_454 → (Q 0 C_456 n)))))))))))))))) ∧ (and32 (XS v3.toNat) 63 = 26 → (0 ≤ w32 (v3 + 1) ∧ (w32 (v3 + 1) < LN ∧ (okO n v1 9 ∧ (kc ≤ 600000 ∧ (ks ≤ 7302250 ∧ (P_F_seed n C v1 (XS (w32 (v3 + 1)).toNat) (fun (r_462 : Int) (C_466 : Cn) => okO n v2 10 ∧ (P_G_seed n C_466 v2 (XS (w32 (v3 + 1)).toNat) (fun (r_469 : Int) (C_471 : Cn) => (r_462 = r_469 → (kz18 (C_471, n, kc, ks, w32 (v3 + 6)))) ∧ (¬ r_462 = r_469 → (Q 0 C_471 n)))))))))))) ∧ (and32 (XS v3.toNat) 63 = 27 → (okO n v1 9 ∧ (kc ≤ 600000 ∧ (ks ≤ 7302250 ∧ (P_F_prove n C v1 (fun (r_475 : Int) (C_479 : Cn) => okO n v2 10 ∧ (P_G_prove n C_479 v2 (fun (r_482 : Int) (C_484 : Cn) => (r_475 = r_482 → (kz18 (C_484, n, kc, ks, w32 (v3 + 6)))) ∧ (¬ r_475 = r_482 → (Q 0 C_484 n)))))))))) ∧ (and32 (XS v3.toNat) 63 = 28 → (0 ≤ w32 (v3 + 1) ∧ (w32 (v3 + 1) < LN ∧ (0 ≤ w32 (v3 + 2) ∧ (w32 (v3 + 2) < LN ∧ (okO n v1 9 ∧ (kc ≤ 600000 ∧ (ks ≤ 7302250 ∧ (P_F_row n C v1 (XS (w32 (v3 + 1)).toNat) (XS (w32 (v3 + 2)).toNat) (fun (r_492 : Int) (C_496 : Cn) => okO n v2 10 ∧ (P_G_row n C_496 v2 (XS (w32 (v3 + 1)).toNat) (XS (w32 (v3 + 2)).toNat) (fun (r_499 : Int) (C_501 : Cn) => (r_492 = r_499 → (kz18 (C_501, n, kc, ks, w32 (v3 + 6)))) ∧ (¬ r_492 = r_499 → (Q 0 C_501 n)))))))))))))) ∧ (and32 (XS v3.toNat) 63 = 29 → (0 ≤ w32 (v3 + 1) ∧ (w32 (v3 + 1) < LN ∧ (0 ≤ w32 (v3 + 2) ∧ (w32 (v3 + 2) < LN ∧ (0 ≤ w32 (v3 + 3) ∧ (w32 (v3 + 3) < LN ∧ (okO n v1 9 ∧ (kc ≤ 600000 ∧ (ks ≤ 7302250 ∧ (P_F_alter n C v1 (XS (w32 (v3 + 1)).toNat) (XS (w32 (v3 + 2)).toNat) (XS (w32 (v3 + 3)).toNat) (fun (r_511 : Int) (C_515 : Cn) => okO n v2 10 ∧ (P_G_alter n C_515 v2 (XS (w32 (v3 + 1)).toNat) (XS (w32 (v3 + 2)).toNat) (XS (w32 (v3 + 3)).toNat) (fun (r_518 : Int) (C_520 : Cn) => (r_511 = r_518 → (kz18 (C_520, n, kc, ks, w32 (v3 + 6)))) ∧ (¬ r_511 = r_518 → (Q 0 C_520 n)))))))))))))))) ∧ (and32 (XS v3.toNat) 63 = 30 → (okO n v1 9 ∧ (kc ≤ 600000 ∧ (ks ≤ 7302250 ∧ (P_F_judge n C v1 (fun (r_524 : Int) => okO n v2 10 ∧ (P_G_judge n C v2 (fun (r_531 : Int) (C_533 : Cn) => (r_524 = r_531 → (kz18 (C_533, n, kc, ks, w32 (v3 + 6)))) ∧ (¬ r_524 = r_531 → (Q 0 C_533 n)))))))))) ∧ (and32 (XS v3.toNat) 63 = 31 → (0 ≤ w32 (v3 + 1) ∧ (w32 (v3 + 1) < LN ∧ (0 ≤ w32 (v3 + 2) ∧ (w32 (v3 + 2) < LN ∧ (okO n v1 9 ∧ (kc ≤ 600000 ∧ (ks ≤ 7302250 ∧ (P_F_feed n C v1 (XS (w32 (v3 + 1)).toNat) (XS (w32 (v3 + 2)).toNat) (fun (r_541 : Int) (C_545 : Cn) => okO n v2 10 ∧ (P_G_feed n C_545 v2 (XS (w32 (v3 + 1)).toNat) (XS (w32 (v3 + 2)).toNat) (fun (r_548 : Int) (C_550 : Cn) => (r_541 = r_548 → (kz18 (C_550, n, kc, ks, w32 (v3 + 6)))) ∧ (¬ r_541 = r_548 → (Q 0 C_550 n)))))))))))))) ∧ (and32 (XS v3.toNat) 63 = 32 → (okO n v1 9 ∧ (kc ≤ 600000 ∧ (ks ≤ 7302250 ∧ (P_F_wipe n C v1 (fun (r_554 : Int) (C_558 : Cn) => okO n v2 10 ∧ (P_G_wipe n C_558 v2 (fun (r_561 : Int) (C_563 : Cn) => (r_554 = r_561 → (kz18 (C_563, n, kc, ks, w32 (v3 + 6)))) ∧ (¬ r_554 = r_561 → (Q 0 C_563 n)))))))))) ∧ (and32 (XS v3.toNat) 63 = 33 → (okO n v1 9 ∧ (kc ≤ 600000 ∧ (ks ≤ 7302250 ∧ (P_F_text n C v1 (fun (r_567 : Int) (C_571 : Cn) => okO n v2 10 ∧ ((kc + 130) ≤ 600000 ∧ ((ks + 780) ≤ 7302250 ∧ (P_G_text n C_571 v2 (fun (r_574 : Int) (C_578 : Cn) (n_579 : Nat) => (r_567 = r_574 → (kz18 (C_578, n_579, (kc + 130), (ks + 780), w32 (v3 + 6)))) ∧ (¬ r_567 = r_574 → (Q 0 C_578 n_579)))))))))))) ∧ (and32 (XS v3.toNat) 63 = 34 → (0 ≤ w32 (v3 + 1) ∧ (w32 (v3 + 1) < LN ∧ (0 ≤ w32 (v3 + 2) ∧ (w32 (v3 + 2) < LN ∧ (0 ≤ w32 (v3 + 3) ∧ (w32 (v3 + 3) < LN ∧ (okO n v1 9 ∧ (kc ≤ 600000 ∧ (ks ≤ 7302250 ∧ (P_F_sheet n C v1 (XS (w32 (v3 + 1)).toNat) (XS (w32 (v3 + 2)).toNat) (XS (w32 (v3 + 3)).toNat) (fun (r_588 : Int) (C_592 : Cn) => okO n v2 10 ∧ (P_G_sheet n C_592 v2 (XS (w32 (v3 + 1)).toNat) (XS (w32 (v3 + 2)).toNat) (XS (w32 (v3 + 3)).toNat) (fun (r_595 : Int) (C_597 : Cn) => (r_588 = r_595 → (kz18 (C_597, n, kc, ks, w32 (v3 + 6)))) ∧ (¬ r_588 = r_595 → (Q 0 C_597 n)))))))))))))))) ∧ (and32 (XS v3.toNat) 63 = 35 → (0 ≤ w32 (v3 + 1) ∧ (w32 (v3 + 1) < LN ∧ (0 ≤ w32 (v3 + 2) ∧ (w32 (v3 + 2) < LN ∧ (0 ≤ w32 (v3 + 3) ∧ (w32 (v3 + 3) < LN ∧ (0 ≤ w32 (v3 + 4) ∧ (w32 (v3 + 4) < LN ∧ (okO n v1 9 ∧ (kc ≤ 600000 ∧ (ks ≤ 7302250 ∧ (P_F_write n C v1 (XS (w32 (v3 + 1)).toNat) (XS (w32 (v3 + 2)).toNat) (or64 (shl64 (XS (w32 (v3 + 3)).toNat) 32) (and64 (XS (w32 (v3 + 4)).toNat) 4294967295)) (fun (r_609 : Int) (C_613 : Cn) => okO n v2 10 ∧ (P_G_write n C_613 v2 (XS (w32 (v3 + 1)).toNat) (XS (w32 (v3 + 2)).toNat) (or64 (shl64 (XS (w32 (v3 + 3)).toNat) 32) (and64 (XS (w32 (v3 + 4)).toNat) 4294967295)) (fun (r_616 : Int) (C_618 : Cn) => (r_609 = r_616 → (kz18 (C_618, n, kc, ks, w32 (v3 + 6)))) ∧ (¬ r_609 = r_616 → (Q 0 C_618 n)))))))))))))))))) ∧ (and32 (XS v3.toNat) 63 = 36 → (0 ≤ w32 (v3 + 1) ∧ (w32 (v3 + 1) < LN ∧ (0 ≤ w32 (v3 + 2) ∧ (w32 (v3 + 2) < LN ∧ (okO n v1 9 ∧ (kc ≤ 600000 ∧ (ks ≤ 7302250 ∧ (P_F_item n C v1 (XS (w32 (v3 + 1)).toNat) (XS (w32 (v3 + 2)).toNat) (fun (r_626 : Int) (C_630 : Cn) => okO n v2 10 ∧ (P_G_item n C_630 v2 (XS (w32 (v3 + 1)).toNat) (XS (w32 (v3 + 2)).toNat) (fun (r_633 : Int) (C_635 : Cn) => (r_626 = r_633 → (kz18 (C_635, n, kc, ks, w32 (v3 + 6)))) ∧ (¬ r_626 = r_633 → (Q 0 C_635 n)))))))))))))) ∧ (and32 (XS v3.toNat) 63 = 37 → (0 ≤ w32 (v3 + 1) ∧ (w32 (v3 + 1) < LN ∧ (0 ≤ w32 (v3 + 2) ∧ (w32 (v3 + 2) < LN ∧ (0 ≤ w32 (v3 + 3) ∧ (w32 (v3 + 3) < LN ∧ (0 ≤ w32 (v3 + 4) ∧ (w32 (v3 + 4) < LN ∧ (0 ≤ w32 (v3 + 5) ∧ (w32 (v3 + 5) < LN ∧ (okO n v1 9 ∧ (kc ≤ 600000 ∧ (ks ≤ 7302250 ∧ (P_F_copy n C v1 (XS (w32 (v3 + 1)).toNat) (XS (w32 (v3 + 2)).toNat) (XS (w32 (v3 + 3)).toNat) (XS (w32 (v3 + 4)).toNat) (XS (w32 (v3 + 5)).toNat) (fun (r_649 : Int) (C_653 : Cn) => okO n v2 10 ∧ (P_G_copy n C_653 v2 (XS (w32 (v3 + 1)).toNat) (XS (w32 (v3 + 2)).toNat) (XS (w32 (v3 + 3)).toNat) (XS (w32 (v3 + 4)).toNat) (XS (w32 (v3 + 5)).toNat) (fun (r_656 : Int) (C_658 : Cn) => (r_649 = r_656 → (kz18 (C_658, n, kc, ks, w32 (v3 + 6)))) ∧ (¬ r_649 = r_656 → (Q 0 C_658 n)))))))))))))))))))) ∧ (and32 (XS v3.toNat) 63 = 38 → (0 ≤ w32 (v3 + 1) ∧ (w32 (v3 + 1) < LN ∧ (0 ≤ w32 (v3 + 2) ∧ (w32 (v3 + 2) < LN ∧ (0 ≤ w32 (v3 + 3) ∧ (w32 (v3 + 3) < LN ∧ (okO n v1 9 ∧ (kc ≤ 600000 ∧ (ks ≤ 7302250 ∧ (P_F_hold n C v1 (XS (w32 (v3 + 1)).toNat) (XS (w32 (v3 + 2)).toNat) (XS (w32 (v3 + 3)).toNat) (fun (r_668 : Int) (C_672 : Cn) => okO n v2 10 ∧ (P_G_hold n C_672 v2 (XS (w32 (v3 + 1)).toNat) (XS (w32 (v3 + 2)).toNat) (XS (w32 (v3 + 3)).toNat) (fun (r_675 : Int) (C_677 : Cn) => (r_668 = r_675 → (kz18 (C_677, n, kc, ks, w32 (v3 + 6)))) ∧ (¬ r_668 = r_675 → (Q 0 C_677 n)))))))))))))))) ∧ (and32 (XS v3.toNat) 63 = 39 → (0 ≤ w32 (v3 + 1) ∧ (w32 (v3 + 1) < LN ∧ (0 ≤ w32 (v3 + 2) ∧ (w32 (v3 + 2) < LN ∧ (okO n v1 9 ∧ (kc ≤ 600000 ∧ (ks ≤ 7302250 ∧ (P_F_taken n C v1 (XS (w32 (v3 + 1)).toNat) (XS (w32 (v3 + 2)).toNat) (fun (r_685 : Int) (C_689 : Cn) => okO n v2 10 ∧ (P_G_taken n C_689 v2 (XS (w32 (v3 + 1)).toNat) (XS (w32 (v3 + 2)).toNat) (fun (r_692 : Int) (C_694 : Cn) => (r_685 = r_692 → (kz18 (C_694, n, kc, ks, w32 (v3 + 6)))) ∧ (¬ r_685 = r_692 → (Q 0 C_694 n)))))))))))))) ∧ (and32 (XS v3.toNat) 63 = 40 → (okO n v1 9 ∧ (kc ≤ 600000 ∧ (ks ≤ 7302250 ∧ (P_F_image n C v1 (fun (r_698 : Int) (C_702 : Cn) => okO n v2 10 ∧ (P_G_image n C_702 v2 (fun (r_705 : Int) (C_707 : Cn) => (r_698 = r_705 → (kz18 (C_707, n, kc, ks, w32 (v3 + 6)))) ∧ (¬ r_698 = r_705 → (Q 0 C_707 n)))))))))) ∧ (and32 (XS v3.toNat) 63 = 41 → (okO n v1 9 ∧ (kc ≤ 600000 ∧ (ks ≤ 7302250 ∧ (P_F_back n C v1 (fun (r_711 : Int) (C_715 : Cn) => okO n v2 10 ∧ (P_G_back n C_715 v2 (fun (r_718 : Int) (C_720 : Cn) => (r_711 = r_718 → (kz18 (C_720, n, kc, ks, w32 (v3 + 6)))) ∧ (¬ r_711 = r_718 → (Q 0 C_720 n)))))))))) ∧ (and32 (XS v3.toNat) 63 = 42 → (0 ≤ w32 (v3 + 1) ∧ (w32 (v3 + 1) < LN ∧ (okO n v1 9 ∧ (kc ≤ 600000 ∧ (ks ≤ 7302250 ∧ (P_F_count n C v1 (XS (w32 (v3 + 1)).toNat) (fun (r_726 : Int) (C_730 : Cn) => okO n v2 10 ∧ (P_G_count n C_730 v2 (XS (w32 (v3 + 1)).toNat) (fun (r_733 : Int) (C_735 : Cn) => (r_726 = r_733 → (kz18 (C_735, n, kc, ks, w32 (v3 + 6)))) ∧ (¬ r_726 = r_733 → (Q 0 C_735 n)))))))))))) ∧ (and32 (XS v3.toNat) 63 = 43 → (0 ≤ w32 (v3 + 1) ∧ (w32 (v3 + 1) < LN ∧ (okO n v1 9 ∧ (kc ≤ 600000 ∧ (ks ≤ 7302250 ∧ (P_F_status n C v1 (XS (w32 (v3 + 1)).toNat) (fun (r_741 : Int) (C_745 : Cn) => okO n v2 10 ∧ (P_G_status n C_745 v2 (XS (w32 (v3 + 1)).toNat) (fun (r_748 : Int) (C_750 : Cn) => (r_741 = r_748 → (kz18 (C_750, n, kc, ks, w32 (v3 + 6)))) ∧ (¬ r_741 = r_748 → (Q 0 C_750 n)))))))))))) ∧ ((and32 (XS v3.toNat) 63 < 0 ∨ 43 < and32 (XS v3.toNat) 63) → (kz18 (C, n, kc, ks, w32 (v3 + 6)))))))))
theorem bB_L_law_18 (XS : Nat → Int) (LN : Int) (hX : SCR E s XS LN) (v0 v1 v2 : Int) (Q : Int → Cn → Nat → Prop) (kz18 : Cn × Nat × Nat × Nat × Int → Prop) (hkz18 : ∀ (Cz : Cn) (nz : Nat) (kcz : Nat) (ksz : Nat) (z3 : Int), kz18 (Cz, nz, kcz, ksz, z3) → AW p l e R s m args below meth c E (M_L_law nmz) true Q nz kcz ksz 18 [(3, v0), (2, v1), (2, v2), (0, z3)] [] Cz) (C : Cn) (n : Nat) (kc : Nat) (ks : Nat) (v3 : Int) (h : B_L_law_18 XS LN v0 v1 v2 Q kz18 (C, n, kc, ks, v3)) : AW p l e R s m args below meth c E (M_L_law nmz) true Q n kc ks 18 [(3, v0), (2, v1), (2, v2), (0, v3)] [] C := by
  unfold B_L_law_18 at h
  dsimp only at h
  refine AW.iload_n (dc hdl_0 10 rfl) rfl ?_
  refine AW.ra_n (dc hdl_0 11 rfl) rfl rfl rfl ?_
  obtain ⟨g_1, h⟩ := h
  refine AW.scl hX (dc hdl_0 12 rfl) g_1 ?_
  refine AW.bipush (dc hdl_0 13 rfl) (by decide) (by decide +kernel) ?_
  refine AW.isub (dc hdl_0 14 rfl) ?_
  refine AW.icmp_gt (t := 1704) (dc hdl_0 15 rfl) (by decide) (fun c_2 => ?_) (fun c_2 => ?_)
  · have h := h.1 c_2
    refine AW.iconst (dc hdl_6 22 rfl) (by decide) ?_
    obtain ⟨g_3, h⟩ := h
    obtain ⟨g_4, h⟩ := h
    exact AW.zret (dc hdl_6 23 rfl) rfl rfl g_3 g_4 (by decide) h
  · have h := h.2 c_2
    refine AW.ra_n (dc hdl_0 16 rfl) rfl rfl rfl ?_
    refine AW.iload_n (dc hdl_0 17 rfl) rfl ?_
    obtain ⟨g_5, h⟩ := h
    obtain ⟨g_6, h⟩ := h
    refine AW.scr hX (dc hdl_0 18 rfl) g_1 g_5 g_6 ?_
    refine AW.bipush (dc hdl_0 19 rfl) (by decide) (by decide +kernel) ?_
    refine AW.iand (dc hdl_0 20 rfl) ?_
    refine AW.tsw (td := 1698) (dc hdl_0 21 rfl) [224, 287, 350, 383, 396, 429, 452, 475, 498, 531, 564, 597, 640, 693, 726, 749, 782, 795, 818, 851, 884, 917, 970, 1033, 1066, 1089, 1153, 1176, 1189, 1222, 1265, 1278, 1311, 1324, 1337, 1380, 1453, 1487, 1550, 1593, 1626, 1639, 1652, 1675] (by decide +kernel) (by decide) (by decide) (fun j t hj hx => ?_) (fun q_7 => ?_)
    · match j, hj with
      | 0, hj =>
        cases hj
        have h := h.1 (hx.trans (by decide))
        refine AW.ra_n (dc hdl_0 22 rfl) rfl rfl rfl ?_
        refine AW.ra_n (dc hdl_0 23 rfl) rfl rfl rfl ?_
        refine AW.iload_n (dc hdl_0 24 rfl) rfl ?_
        refine AW.iconst (dc hdl_0 25 rfl) (by decide) ?_
        refine AW.iadd (dc hdl_0 26 rfl) ?_
        obtain ⟨g_8, h⟩ := h
        obtain ⟨g_9, h⟩ := h
        refine AW.scr hX (dc hdl_0 27 rfl) g_1 g_8 g_9 ?_
        refine AW.ra_n (dc hdl_0 28 rfl) rfl rfl rfl ?_
        refine AW.iload_n (dc hdl_0 29 rfl) rfl ?_
        refine AW.iconst (dc hdl_0 30 rfl) (by decide) ?_
        refine AW.iadd (dc hdl_0 31 rfl) ?_
        obtain ⟨g_10, h⟩ := h
        obtain ⟨g_11, h⟩ := h
        refine AW.scr hX (dc hdl_0 32 rfl) g_1 g_10 g_11 ?_
        refine AW.ra_n (dc hdl_0 33 rfl) rfl rfl rfl ?_
        refine AW.iload_n (dc hdl_0 34 rfl) rfl ?_
        refine AW.iconst (dc hdl_0 35 rfl) (by decide) ?_
        refine AW.iadd (dc hdl_0 36 rfl) ?_
        obtain ⟨g_12, h⟩ := h
        obtain ⟨g_13, h⟩ := h
        refine AW.scr hX (dc hdl_0 37 rfl) g_1 g_12 g_13 ?_
        refine AW.ra_n (dc hdl_0 38 rfl) rfl rfl rfl ?_
        refine AW.iload_n (dc hdl_0 39 rfl) rfl ?_
        refine AW.iconst (dc hdl_0 40 rfl) (by decide) ?_
        refine AW.iadd (dc hdl_0 41 rfl) ?_
        obtain ⟨g_14, h⟩ := h
        obtain ⟨g_15, h⟩ := h
        refine AW.scr hX (dc hdl_0 42 rfl) g_1 g_14 g_15 ?_
        refine AW.ra_n (dc hdl_0 43 rfl) rfl rfl rfl ?_
        refine AW.iload_n (dc hdl_0 44 rfl) rfl ?_
        refine AW.iconst (dc hdl_0 45 rfl) (by decide) ?_
        refine AW.iadd (dc hdl_0 46 rfl) ?_
        obtain ⟨g_16, h⟩ := h
        obtain ⟨g_17, h⟩ := h
        refine AW.scr hX (dc hdl_0 47 rfl) g_1 g_16 g_17 ?_
        obtain ⟨g_19, h⟩ := h
        obtain ⟨g_20, h⟩ := h
        obtain ⟨g_21, h⟩ := h
        refine AW.callV (As := [(0, XS (w32 (v3 + 1)).toNat), (0, XS (w32 (v3 + 2)).toNat), (0, XS (w32 (v3 + 3)).toNat), (0, XS (w32 (v3 + 4)).toNat), (0, XS (w32 (v3 + 5)).toNat)]) (rest := []) (ci := 9) (m_F_segment l E n C v1 (XS (w32 (v3 + 1)).toNat) (XS (w32 (v3 + 2)).toNat) (XS (w32 (v3 + 3)).toNat) (XS (w32 (v3 + 4)).toNat) (XS (w32 (v3 + 5)).toNat) _ h) cb_11_13 im_F_segment se_F_segment ⟨_, _, rfl⟩ (by decide) (dc hdl_0 48 rfl) g_19 rfl rfl ⟨Nat.le_of_ble_eq_true rfl, Nat.le_of_ble_eq_true rfl⟩ ⟨g_20, g_21⟩ (Nat.le_of_ble_eq_true rfl) (fun _ h => by cases h) (fun _ => rfl) (fun r_18 C_22 d_24 q_23 => ?_)
        obtain ⟨q_23a, h⟩ := q_23
        subst d_24
        show AW p l e _ s m args below meth c E (M_L_law nmz) true _ n _ _ _ [(3, v0), (2, v1), (2, v2), (0, v3)] [(0, r_18)] C_22
        refine AW.ra_n (dc hdl_0 49 rfl) rfl rfl rfl ?_
        refine AW.ra_n (dc hdl_0 50 rfl) rfl rfl rfl ?_
        refine AW.iload_n (dc hdl_0 51 rfl) rfl ?_
        refine AW.iconst (dc hdl_0 52 rfl) (by decide) ?_
        refine AW.iadd (dc hdl_0 53 rfl) ?_
        refine AW.scr hX (dc hdl_0 54 rfl) g_1 g_8 g_9 ?_
        refine AW.ra_n (dc hdl_0 55 rfl) rfl rfl rfl ?_
        refine AW.iload_n (dc hdl_0 56 rfl) rfl ?_
        refine AW.iconst (dc hdl_0 57 rfl) (by decide) ?_
        refine AW.iadd (dc hdl_0 58 rfl) ?_
        refine AW.scr hX (dc hdl_0 59 rfl) g_1 g_10 g_11 ?_
        refine AW.ra_n (dc hdl_0 60 rfl) rfl rfl rfl ?_
        refine AW.iload_n (dc hdl_0 61 rfl) rfl ?_
        refine AW.iconst (dc hdl_0 62 rfl) (by decide) ?_
        refine AW.iadd (dc hdl_0 63 rfl) ?_
        refine AW.scr hX (dc hdl_0 64 rfl) g_1 g_12 g_13 ?_
        refine AW.ra_n (dc hdl_0 65 rfl) rfl rfl rfl ?_
        refine AW.iload_n (dc hdl_0 66 rfl) rfl ?_
        refine AW.iconst (dc hdl_0 67 rfl) (by decide) ?_
        refine AW.iadd (dc hdl_0 68 rfl) ?_
        refine AW.scr hX (dc hdl_0 69 rfl) g_1 g_14 g_15 ?_
        refine AW.ra_n (dc hdl_0 70 rfl) rfl rfl rfl ?_
        refine AW.iload_n (dc hdl_0 71 rfl) rfl ?_
        refine AW.iconst (dc hdl_0 72 rfl) (by decide) ?_
        refine AW.iadd (dc hdl_0 73 rfl) ?_
        refine AW.scr hX (dc hdl_0 74 rfl) g_1 g_16 g_17 ?_
        obtain ⟨g_26, h⟩ := h
        refine AW.callV (As := [(0, XS (w32 (v3 + 1)).toNat), (0, XS (w32 (v3 + 2)).toNat), (0, XS (w32 (v3 + 3)).toNat), (0, XS (w32 (v3 + 4)).toNat), (0, XS (w32 (v3 + 5)).toNat)]) (rest := [(0, r_18)]) (ci := 10) (m_G_segment l E n C_22 v2 (XS (w32 (v3 + 1)).toNat) (XS (w32 (v3 + 2)).toNat) (XS (w32 (v3 + 3)).toNat) (XS (w32 (v3 + 4)).toNat) (XS (w32 (v3 + 5)).toNat) _ h) cb_11_17 im_G_segment se_G_segment ⟨_, _, rfl⟩ (by decide) (dc hdl_0 75 rfl) g_26 rfl rfl ⟨Nat.le_of_ble_eq_true rfl, Nat.le_of_ble_eq_true rfl⟩ ⟨g_20, g_21⟩ (Nat.le_of_ble_eq_true rfl) (fun _ h => by cases h) (fun _ => rfl) (fun r_25 C_27 d_29 q_28 => ?_)
        obtain ⟨q_28a, h⟩ := q_28
        subst d_29
        show AW p l e _ s m args below meth c E (M_L_law nmz) true _ n _ _ _ [(3, v0), (2, v1), (2, v2), (0, v3)] [(0, r_25), (0, r_18)] C_27
        refine AW.icmp_eq (t := 1698) (dc hdl_0 76 rfl) (by decide) (fun c_30 => ?_) (fun c_30 => ?_)
        · have h := h.1 c_30
          refine AW.iinc [(3, v0), (2, v1), (2, v2), (0, w32 (v3 + 6))] (dc hdl_6 20 rfl) rfl (Nat.le_of_ble_eq_true rfl) rfl rfl ?_
          refine AW.goto (t := 18) (dc hdl_6 21 rfl) (by decide) ?_
          exact hkz18 C_27 n kc ks (w32 (v3 + 6)) h
        · have h := h.2 c_30
          refine AW.iconst (dc hdl_0 77 rfl) (by decide) ?_
          exact AW.zret (dc hdl_0 78 rfl) rfl rfl g_20 g_21 (by decide) h
      | 1, hj =>
        cases hj
        have h := h.2.1 (hx.trans (by decide))
        refine AW.ra_n (dc hdl_0 79 rfl) rfl rfl rfl ?_
        refine AW.ra_n (dc hdl_0 80 rfl) rfl rfl rfl ?_
        refine AW.iload_n (dc hdl_0 81 rfl) rfl ?_
        refine AW.iconst (dc hdl_0 82 rfl) (by decide) ?_
        refine AW.iadd (dc hdl_0 83 rfl) ?_
        obtain ⟨g_31, h⟩ := h
        obtain ⟨g_32, h⟩ := h
        refine AW.scr hX (dc hdl_0 84 rfl) g_1 g_31 g_32 ?_
        refine AW.ra_n (dc hdl_0 85 rfl) rfl rfl rfl ?_
        refine AW.iload_n (dc hdl_0 86 rfl) rfl ?_
        refine AW.iconst (dc hdl_0 87 rfl) (by decide) ?_
        refine AW.iadd (dc hdl_0 88 rfl) ?_
        obtain ⟨g_33, h⟩ := h
        obtain ⟨g_34, h⟩ := h
        refine AW.scr hX (dc hdl_0 89 rfl) g_1 g_33 g_34 ?_
        refine AW.ra_n (dc hdl_0 90 rfl) rfl rfl rfl ?_
        refine AW.iload_n (dc hdl_0 91 rfl) rfl ?_
        refine AW.iconst (dc hdl_0 92 rfl) (by decide) ?_
        refine AW.iadd (dc hdl_0 93 rfl) ?_
        obtain ⟨g_35, h⟩ := h
        obtain ⟨g_36, h⟩ := h
        refine AW.scr hX (dc hdl_0 94 rfl) g_1 g_35 g_36 ?_
        refine AW.ra_n (dc hdl_0 95 rfl) rfl rfl rfl ?_
        refine AW.iload_n (dc hdl_0 96 rfl) rfl ?_
        refine AW.iconst (dc hdl_0 97 rfl) (by decide) ?_
        refine AW.iadd (dc hdl_0 98 rfl) ?_
        obtain ⟨g_37, h⟩ := h
        obtain ⟨g_38, h⟩ := h
        refine AW.scr hX (dc hdl_0 99 rfl) g_1 g_37 g_38 ?_
        refine AW.ra_n (dc hdl_0 100 rfl) rfl rfl rfl ?_
        refine AW.iload_n (dc hdl_0 101 rfl) rfl ?_
        refine AW.iconst (dc hdl_0 102 rfl) (by decide) ?_
        refine AW.iadd (dc hdl_0 103 rfl) ?_
        obtain ⟨g_39, h⟩ := h
        obtain ⟨g_40, h⟩ := h
        refine AW.scr hX (dc hdl_0 104 rfl) g_1 g_39 g_40 ?_
        obtain ⟨g_42, h⟩ := h
        obtain ⟨g_43, h⟩ := h
        obtain ⟨g_44, h⟩ := h
        refine AW.callV (As := [(0, XS (w32 (v3 + 1)).toNat), (0, XS (w32 (v3 + 2)).toNat), (0, XS (w32 (v3 + 3)).toNat), (0, XS (w32 (v3 + 4)).toNat), (0, XS (w32 (v3 + 5)).toNat)]) (rest := []) (ci := 9) (m_F_move l E n C v1 (XS (w32 (v3 + 1)).toNat) (XS (w32 (v3 + 2)).toNat) (XS (w32 (v3 + 3)).toNat) (XS (w32 (v3 + 4)).toNat) (XS (w32 (v3 + 5)).toNat) _ h) cb_11_18 im_F_move se_F_move ⟨_, _, rfl⟩ (by decide) (dc hdl_0 105 rfl) g_42 rfl rfl ⟨Nat.le_of_ble_eq_true rfl, Nat.le_of_ble_eq_true rfl⟩ ⟨g_43, g_44⟩ (Nat.le_of_ble_eq_true rfl) (fun _ h => by cases h) (fun _ => rfl) (fun r_41 C_45 d_47 q_46 => ?_)
        obtain ⟨q_46a, h⟩ := q_46
        subst d_47
        show AW p l e _ s m args below meth c E (M_L_law nmz) true _ n _ _ _ [(3, v0), (2, v1), (2, v2), (0, v3)] [(0, r_41)] C_45
        refine AW.ra_n (dc hdl_0 106 rfl) rfl rfl rfl ?_
        refine AW.ra_n (dc hdl_0 107 rfl) rfl rfl rfl ?_
        refine AW.iload_n (dc hdl_0 108 rfl) rfl ?_
        refine AW.iconst (dc hdl_0 109 rfl) (by decide) ?_
        refine AW.iadd (dc hdl_0 110 rfl) ?_
        refine AW.scr hX (dc hdl_0 111 rfl) g_1 g_31 g_32 ?_
        refine AW.ra_n (dc hdl_0 112 rfl) rfl rfl rfl ?_
        refine AW.iload_n (dc hdl_0 113 rfl) rfl ?_
        refine AW.iconst (dc hdl_0 114 rfl) (by decide) ?_
        refine AW.iadd (dc hdl_0 115 rfl) ?_
        refine AW.scr hX (dc hdl_0 116 rfl) g_1 g_33 g_34 ?_
        refine AW.ra_n (dc hdl_0 117 rfl) rfl rfl rfl ?_
        refine AW.iload_n (dc hdl_0 118 rfl) rfl ?_
        refine AW.iconst (dc hdl_0 119 rfl) (by decide) ?_
        refine AW.iadd (dc hdl_0 120 rfl) ?_
        refine AW.scr hX (dc hdl_0 121 rfl) g_1 g_35 g_36 ?_
        refine AW.ra_n (dc hdl_0 122 rfl) rfl rfl rfl ?_
        refine AW.iload_n (dc hdl_0 123 rfl) rfl ?_
        refine AW.iconst (dc hdl_0 124 rfl) (by decide) ?_
        refine AW.iadd (dc hdl_0 125 rfl) ?_
        refine AW.scr hX (dc hdl_0 126 rfl) g_1 g_37 g_38 ?_
        refine AW.ra_n (dc hdl_0 127 rfl) rfl rfl rfl ?_
        refine AW.iload_n (dc hdl_0 128 rfl) rfl ?_
        refine AW.iconst (dc hdl_0 129 rfl) (by decide) ?_
        refine AW.iadd (dc hdl_0 130 rfl) ?_
        refine AW.scr hX (dc hdl_0 131 rfl) g_1 g_39 g_40 ?_
        obtain ⟨g_49, h⟩ := h
        refine AW.callV (As := [(0, XS (w32 (v3 + 1)).toNat), (0, XS (w32 (v3 + 2)).toNat), (0, XS (w32 (v3 + 3)).toNat), (0, XS (w32 (v3 + 4)).toNat), (0, XS (w32 (v3 + 5)).toNat)]) (rest := [(0, r_41)]) (ci := 10) (m_G_move l E n C_45 v2 (XS (w32 (v3 + 1)).toNat) (XS (w32 (v3 + 2)).toNat) (XS (w32 (v3 + 3)).toNat) (XS (w32 (v3 + 4)).toNat) (XS (w32 (v3 + 5)).toNat) _ h) cb_11_21 im_G_move se_G_move ⟨_, _, rfl⟩ (by decide) (dc hdl_0 132 rfl) g_49 rfl rfl ⟨Nat.le_of_ble_eq_true rfl, Nat.le_of_ble_eq_true rfl⟩ ⟨g_43, g_44⟩ (Nat.le_of_ble_eq_true rfl) (fun _ h => by cases h) (fun _ => rfl) (fun r_48 C_50 d_52 q_51 => ?_)
        obtain ⟨q_51a, h⟩ := q_51
        subst d_52
        show AW p l e _ s m args below meth c E (M_L_law nmz) true _ n _ _ _ [(3, v0), (2, v1), (2, v2), (0, v3)] [(0, r_48), (0, r_41)] C_50
        refine AW.icmp_eq (t := 1698) (dc hdl_0 133 rfl) (by decide) (fun c_53 => ?_) (fun c_53 => ?_)
        · have h := h.1 c_53
          refine AW.iinc [(3, v0), (2, v1), (2, v2), (0, w32 (v3 + 6))] (dc hdl_6 20 rfl) rfl (Nat.le_of_ble_eq_true rfl) rfl rfl ?_
          refine AW.goto (t := 18) (dc hdl_6 21 rfl) (by decide) ?_
          exact hkz18 C_50 n kc ks (w32 (v3 + 6)) h
        · have h := h.2 c_53
          refine AW.iconst (dc hdl_0 134 rfl) (by decide) ?_
          exact AW.zret (dc hdl_0 135 rfl) rfl rfl g_43 g_44 (by decide) h
      | 2, hj =>
        cases hj
        have h := h.2.2.1 (hx.trans (by decide))
        refine AW.ra_n (dc hdl_0 136 rfl) rfl rfl rfl ?_
        refine AW.ra_n (dc hdl_0 137 rfl) rfl rfl rfl ?_
        refine AW.iload_n (dc hdl_0 138 rfl) rfl ?_
        refine AW.iconst (dc hdl_0 139 rfl) (by decide) ?_
        refine AW.iadd (dc hdl_0 140 rfl) ?_
        obtain ⟨g_54, h⟩ := h
        obtain ⟨g_55, h⟩ := h
        refine AW.scr hX (dc hdl_0 141 rfl) g_1 g_54 g_55 ?_
        refine AW.ra_n (dc hdl_0 142 rfl) rfl rfl rfl ?_
        refine AW.iload_n (dc hdl_0 143 rfl) rfl ?_
        refine AW.iconst (dc hdl_0 144 rfl) (by decide) ?_
        refine AW.iadd (dc hdl_0 145 rfl) ?_
        obtain ⟨g_56, h⟩ := h
        obtain ⟨g_57, h⟩ := h
        refine AW.scr hX (dc hdl_0 146 rfl) g_1 g_56 g_57 ?_
        obtain ⟨g_59, h⟩ := h
        obtain ⟨g_60, h⟩ := h
        obtain ⟨g_61, h⟩ := h
        refine AW.callV (As := [(0, XS (w32 (v3 + 1)).toNat), (0, XS (w32 (v3 + 2)).toNat)]) (rest := []) (ci := 9) (m_F_become l E n C v1 (XS (w32 (v3 + 1)).toNat) (XS (w32 (v3 + 2)).toNat) _ h) cb_11_22 im_F_become se_F_become ⟨_, _, rfl⟩ (by decide) (dc hdl_0 147 rfl) g_59 rfl rfl ⟨Nat.le_of_ble_eq_true rfl, Nat.le_of_ble_eq_true rfl⟩ ⟨g_60, g_61⟩ (Nat.le_of_ble_eq_true rfl) (fun _ h => by cases h) (fun _ => rfl) (fun r_58 C_62 d_64 q_63 => ?_)
        obtain ⟨q_63a, h⟩ := q_63
        subst d_64
        show AW p l e _ s m args below meth c E (M_L_law nmz) true _ n _ _ _ [(3, v0), (2, v1), (2, v2), (0, v3)] [(0, r_58)] C_62
        refine AW.ra_n (dc hdl_0 148 rfl) rfl rfl rfl ?_
        refine AW.ra_n (dc hdl_0 149 rfl) rfl rfl rfl ?_
        refine AW.iload_n (dc hdl_0 150 rfl) rfl ?_
        refine AW.iconst (dc hdl_0 151 rfl) (by decide) ?_
        refine AW.iadd (dc hdl_0 152 rfl) ?_
        refine AW.scr hX (dc hdl_0 153 rfl) g_1 g_54 g_55 ?_
        refine AW.ra_n (dc hdl_0 154 rfl) rfl rfl rfl ?_
        refine AW.iload_n (dc hdl_0 155 rfl) rfl ?_
        refine AW.iconst (dc hdl_0 156 rfl) (by decide) ?_
        refine AW.iadd (dc hdl_0 157 rfl) ?_
        refine AW.scr hX (dc hdl_0 158 rfl) g_1 g_56 g_57 ?_
        obtain ⟨g_66, h⟩ := h
        refine AW.callV (As := [(0, XS (w32 (v3 + 1)).toNat), (0, XS (w32 (v3 + 2)).toNat)]) (rest := [(0, r_58)]) (ci := 10) (m_G_become l E n C_62 v2 (XS (w32 (v3 + 1)).toNat) (XS (w32 (v3 + 2)).toNat) _ h) cb_11_26 im_G_become se_G_become ⟨_, _, rfl⟩ (by decide) (dc hdl_0 159 rfl) g_66 rfl rfl ⟨Nat.le_of_ble_eq_true rfl, Nat.le_of_ble_eq_true rfl⟩ ⟨g_60, g_61⟩ (Nat.le_of_ble_eq_true rfl) (fun _ h => by cases h) (fun _ => rfl) (fun r_65 C_67 d_69 q_68 => ?_)
        obtain ⟨q_68a, h⟩ := q_68
        subst d_69
        show AW p l e _ s m args below meth c E (M_L_law nmz) true _ n _ _ _ [(3, v0), (2, v1), (2, v2), (0, v3)] [(0, r_65), (0, r_58)] C_67
        refine AW.icmp_eq (t := 1698) (dc hdl_0 160 rfl) (by decide) (fun c_70 => ?_) (fun c_70 => ?_)
        · have h := h.1 c_70
          refine AW.iinc [(3, v0), (2, v1), (2, v2), (0, w32 (v3 + 6))] (dc hdl_6 20 rfl) rfl (Nat.le_of_ble_eq_true rfl) rfl rfl ?_
          refine AW.goto (t := 18) (dc hdl_6 21 rfl) (by decide) ?_
          exact hkz18 C_67 n kc ks (w32 (v3 + 6)) h
        · have h := h.2 c_70
          refine AW.iconst (dc hdl_0 161 rfl) (by decide) ?_
          exact AW.zret (dc hdl_0 162 rfl) rfl rfl g_60 g_61 (by decide) h
      | 3, hj =>
        cases hj
        have h := h.2.2.2.1 (hx.trans (by decide))
        refine AW.ra_n (dc hdl_0 163 rfl) rfl rfl rfl ?_
        obtain ⟨g_72, h⟩ := h
        obtain ⟨g_73, h⟩ := h
        obtain ⟨g_74, h⟩ := h
        refine AW.callV (As := []) (rest := []) (ci := 9) (m_F_drop l E n C v1 _ h) cb_11_27 im_F_drop se_F_drop ⟨_, _, rfl⟩ (by decide) (dc hdl_0 164 rfl) g_72 rfl rfl ⟨Nat.le_of_ble_eq_true rfl, Nat.le_of_ble_eq_true rfl⟩ ⟨g_73, g_74⟩ (Nat.le_of_ble_eq_true rfl) (fun _ h => by cases h) (fun _ => rfl) (fun r_71 C_75 d_77 q_76 => ?_)
        obtain ⟨q_76a, h⟩ := q_76
        subst d_77
        show AW p l e _ s m args below meth c E (M_L_law nmz) true _ n _ _ _ [(3, v0), (2, v1), (2, v2), (0, v3)] [(0, r_71)] C_75
        refine AW.ra_n (dc hdl_0 165 rfl) rfl rfl rfl ?_
        obtain ⟨g_79, h⟩ := h
        refine AW.callV (As := []) (rest := [(0, r_71)]) (ci := 10) (m_G_drop l E n C_75 v2 _ h) cb_11_31 im_G_drop se_G_drop ⟨_, _, rfl⟩ (by decide) (dc hdl_0 166 rfl) g_79 rfl rfl ⟨Nat.le_of_ble_eq_true rfl, Nat.le_of_ble_eq_true rfl⟩ ⟨g_73, g_74⟩ (Nat.le_of_ble_eq_true rfl) (fun _ h => by cases h) (fun _ => rfl) (fun r_78 C_80 d_82 q_81 => ?_)
        obtain ⟨q_81a, h⟩ := q_81
        subst d_82
        show AW p l e _ s m args below meth c E (M_L_law nmz) true _ n _ _ _ [(3, v0), (2, v1), (2, v2), (0, v3)] [(0, r_78), (0, r_71)] C_80
        refine AW.icmp_eq (t := 1698) (dc hdl_0 167 rfl) (by decide) (fun c_83 => ?_) (fun c_83 => ?_)
        · have h := h.1 c_83
          refine AW.iinc [(3, v0), (2, v1), (2, v2), (0, w32 (v3 + 6))] (dc hdl_6 20 rfl) rfl (Nat.le_of_ble_eq_true rfl) rfl rfl ?_
          refine AW.goto (t := 18) (dc hdl_6 21 rfl) (by decide) ?_
          exact hkz18 C_80 n kc ks (w32 (v3 + 6)) h
        · have h := h.2 c_83
          refine AW.iconst (dc hdl_0 168 rfl) (by decide) ?_
          exact AW.zret (dc hdl_0 169 rfl) rfl rfl g_73 g_74 (by decide) h
      | 4, hj =>
        cases hj
        have h := h.2.2.2.2.1 (hx.trans (by decide))
        refine AW.ra_n (dc hdl_0 170 rfl) rfl rfl rfl ?_
        refine AW.ra_n (dc hdl_0 171 rfl) rfl rfl rfl ?_
        refine AW.iload_n (dc hdl_0 172 rfl) rfl ?_
        refine AW.iconst (dc hdl_0 173 rfl) (by decide) ?_
        refine AW.iadd (dc hdl_0 174 rfl) ?_
        obtain ⟨g_84, h⟩ := h
        obtain ⟨g_85, h⟩ := h
        refine AW.scr hX (dc hdl_0 175 rfl) g_1 g_84 g_85 ?_
        refine AW.ra_n (dc hdl_0 176 rfl) rfl rfl rfl ?_
        refine AW.iload_n (dc hdl_0 177 rfl) rfl ?_
        refine AW.iconst (dc hdl_0 178 rfl) (by decide) ?_
        refine AW.iadd (dc hdl_0 179 rfl) ?_
        obtain ⟨g_86, h⟩ := h
        obtain ⟨g_87, h⟩ := h
        refine AW.scr hX (dc hdl_0 180 rfl) g_1 g_86 g_87 ?_
        obtain ⟨g_89, h⟩ := h
        obtain ⟨g_90, h⟩ := h
        obtain ⟨g_91, h⟩ := h
        refine AW.callV (As := [(0, XS (w32 (v3 + 1)).toNat), (0, XS (w32 (v3 + 2)).toNat)]) (rest := []) (ci := 9) (m_F_of l E n C v1 (XS (w32 (v3 + 1)).toNat) (XS (w32 (v3 + 2)).toNat) _ h) cb_11_32 im_F_of se_F_of ⟨_, _, rfl⟩ (by decide) (dc hdl_0 181 rfl) g_89 rfl rfl ⟨Nat.le_of_ble_eq_true rfl, Nat.le_of_ble_eq_true rfl⟩ ⟨g_90, g_91⟩ (Nat.le_of_ble_eq_true rfl) (fun _ h => by cases h) (fun _ => rfl) (fun r_88 C_92 d_94 q_93 => ?_)
        obtain ⟨q_93a, h⟩ := q_93
        subst d_94
        show AW p l e _ s m args below meth c E (M_L_law nmz) true _ n _ _ _ [(3, v0), (2, v1), (2, v2), (0, v3)] [(0, r_88)] C_92
        refine AW.ra_n (dc hdl_0 182 rfl) rfl rfl rfl ?_
        refine AW.ra_n (dc hdl_0 183 rfl) rfl rfl rfl ?_
        refine AW.iload_n (dc hdl_0 184 rfl) rfl ?_
        refine AW.iconst (dc hdl_0 185 rfl) (by decide) ?_
        refine AW.iadd (dc hdl_0 186 rfl) ?_
        refine AW.scr hX (dc hdl_0 187 rfl) g_1 g_84 g_85 ?_
        refine AW.ra_n (dc hdl_0 188 rfl) rfl rfl rfl ?_
        refine AW.iload_n (dc hdl_0 189 rfl) rfl ?_
        refine AW.iconst (dc hdl_0 190 rfl) (by decide) ?_
        refine AW.iadd (dc hdl_0 191 rfl) ?_
        refine AW.scr hX (dc hdl_0 192 rfl) g_1 g_86 g_87 ?_
        obtain ⟨g_96, h⟩ := h
        refine AW.callV (As := [(0, XS (w32 (v3 + 1)).toNat), (0, XS (w32 (v3 + 2)).toNat)]) (rest := [(0, r_88)]) (ci := 10) (m_G_of l E n C_92 v2 (XS (w32 (v3 + 1)).toNat) (XS (w32 (v3 + 2)).toNat) _ h) cb_11_35 im_G_of se_G_of ⟨_, _, rfl⟩ (by decide) (dc hdl_0 193 rfl) g_96 rfl rfl ⟨Nat.le_of_ble_eq_true rfl, Nat.le_of_ble_eq_true rfl⟩ ⟨g_90, g_91⟩ (Nat.le_of_ble_eq_true rfl) (fun _ h => by cases h) (fun _ => rfl) (fun r_95 C_97 d_99 q_98 => ?_)
        obtain ⟨q_98a, h⟩ := q_98
        subst d_99
        show AW p l e _ s m args below meth c E (M_L_law nmz) true _ n _ _ _ [(3, v0), (2, v1), (2, v2), (0, v3)] [(0, r_95), (0, r_88)] C_97
        refine AW.icmp_eq (t := 1698) (dc hdl_0 194 rfl) (by decide) (fun c_100 => ?_) (fun c_100 => ?_)
        · have h := h.1 c_100
          refine AW.iinc [(3, v0), (2, v1), (2, v2), (0, w32 (v3 + 6))] (dc hdl_6 20 rfl) rfl (Nat.le_of_ble_eq_true rfl) rfl rfl ?_
          refine AW.goto (t := 18) (dc hdl_6 21 rfl) (by decide) ?_
          exact hkz18 C_97 n kc ks (w32 (v3 + 6)) h
        · have h := h.2 c_100
          refine AW.iconst (dc hdl_0 195 rfl) (by decide) ?_
          exact AW.zret (dc hdl_0 196 rfl) rfl rfl g_90 g_91 (by decide) h
      | 5, hj =>
        cases hj
        have h := h.2.2.2.2.2.1 (hx.trans (by decide))
        refine AW.ra_n (dc hdl_0 197 rfl) rfl rfl rfl ?_
        refine AW.ra_n (dc hdl_0 198 rfl) rfl rfl rfl ?_
        refine AW.iload_n (dc hdl_0 199 rfl) rfl ?_
        refine AW.iconst (dc hdl_1 0 rfl) (by decide) ?_
        refine AW.iadd (dc hdl_1 1 rfl) ?_
        obtain ⟨g_101, h⟩ := h
        obtain ⟨g_102, h⟩ := h
        refine AW.scr hX (dc hdl_1 2 rfl) g_1 g_101 g_102 ?_
        obtain ⟨g_104, h⟩ := h
        obtain ⟨g_105, h⟩ := h
        obtain ⟨g_106, h⟩ := h
        refine AW.callV (As := [(0, XS (w32 (v3 + 1)).toNat)]) (rest := []) (ci := 9) (m_F_tide l E n C v1 (XS (w32 (v3 + 1)).toNat) _ h) cb_11_36 im_F_tide se_F_tide ⟨_, _, rfl⟩ (by decide) (dc hdl_1 3 rfl) g_104 rfl rfl ⟨Nat.le_of_ble_eq_true rfl, Nat.le_of_ble_eq_true rfl⟩ ⟨g_105, g_106⟩ (Nat.le_of_ble_eq_true rfl) (fun _ h => by cases h) (fun _ => rfl) (fun r_103 C_107 d_109 q_108 => ?_)
        obtain ⟨q_108a, h⟩ := q_108
        subst d_109
        show AW p l e _ s m args below meth c E (M_L_law nmz) true _ n _ _ _ [(3, v0), (2, v1), (2, v2), (0, v3)] [(0, r_103)] C_107
        refine AW.ra_n (dc hdl_1 4 rfl) rfl rfl rfl ?_
        refine AW.ra_n (dc hdl_1 5 rfl) rfl rfl rfl ?_
        refine AW.iload_n (dc hdl_1 6 rfl) rfl ?_
        refine AW.iconst (dc hdl_1 7 rfl) (by decide) ?_
        refine AW.iadd (dc hdl_1 8 rfl) ?_
        refine AW.scr hX (dc hdl_1 9 rfl) g_1 g_101 g_102 ?_
        obtain ⟨g_111, h⟩ := h
        refine AW.callV (As := [(0, XS (w32 (v3 + 1)).toNat)]) (rest := [(0, r_103)]) (ci := 10) (m_G_tide l E n C_107 v2 (XS (w32 (v3 + 1)).toNat) _ h) cb_11_40 im_G_tide se_G_tide ⟨_, _, rfl⟩ (by decide) (dc hdl_1 10 rfl) g_111 rfl rfl ⟨Nat.le_of_ble_eq_true rfl, Nat.le_of_ble_eq_true rfl⟩ ⟨g_105, g_106⟩ (Nat.le_of_ble_eq_true rfl) (fun _ h => by cases h) (fun _ => rfl) (fun r_110 C_112 d_114 q_113 => ?_)
        obtain ⟨q_113a, h⟩ := q_113
        subst d_114
        show AW p l e _ s m args below meth c E (M_L_law nmz) true _ n _ _ _ [(3, v0), (2, v1), (2, v2), (0, v3)] [(0, r_110), (0, r_103)] C_112
        refine AW.icmp_eq (t := 1698) (dc hdl_1 11 rfl) (by decide) (fun c_115 => ?_) (fun c_115 => ?_)
        · have h := h.1 c_115
          refine AW.iinc [(3, v0), (2, v1), (2, v2), (0, w32 (v3 + 6))] (dc hdl_6 20 rfl) rfl (Nat.le_of_ble_eq_true rfl) rfl rfl ?_
          refine AW.goto (t := 18) (dc hdl_6 21 rfl) (by decide) ?_
          exact hkz18 C_112 n kc ks (w32 (v3 + 6)) h
        · have h := h.2 c_115
          refine AW.iconst (dc hdl_1 12 rfl) (by decide) ?_
          exact AW.zret (dc hdl_1 13 rfl) rfl rfl g_105 g_106 (by decide) h
      | 6, hj =>
        cases hj
        have h := h.2.2.2.2.2.2.1 (hx.trans (by decide))
        refine AW.ra_n (dc hdl_1 14 rfl) rfl rfl rfl ?_
        refine AW.ra_n (dc hdl_1 15 rfl) rfl rfl rfl ?_
        refine AW.iload_n (dc hdl_1 16 rfl) rfl ?_
        refine AW.iconst (dc hdl_1 17 rfl) (by decide) ?_
        refine AW.iadd (dc hdl_1 18 rfl) ?_
        obtain ⟨g_116, h⟩ := h
        obtain ⟨g_117, h⟩ := h
        refine AW.scr hX (dc hdl_1 19 rfl) g_1 g_116 g_117 ?_
        obtain ⟨g_119, h⟩ := h
        obtain ⟨g_120, h⟩ := h
        obtain ⟨g_121, h⟩ := h
        refine AW.callV (As := [(0, XS (w32 (v3 + 1)).toNat)]) (rest := []) (ci := 9) (m_F_blame l E n C v1 (XS (w32 (v3 + 1)).toNat) _ h) cb_11_41 im_F_blame se_F_blame ⟨_, _, rfl⟩ (by decide) (dc hdl_1 20 rfl) g_119 rfl rfl ⟨Nat.le_of_ble_eq_true rfl, Nat.le_of_ble_eq_true rfl⟩ ⟨g_120, g_121⟩ (Nat.le_of_ble_eq_true rfl) (fun _ h => by cases h) (fun _ => rfl) (fun r_118 C_122 d_124 q_123 => ?_)
        obtain ⟨q_123a, h⟩ := q_123
        subst d_124
        show AW p l e _ s m args below meth c E (M_L_law nmz) true _ n _ _ _ [(3, v0), (2, v1), (2, v2), (0, v3)] [(0, r_118)] C_122
        refine AW.ra_n (dc hdl_1 21 rfl) rfl rfl rfl ?_
        refine AW.ra_n (dc hdl_1 22 rfl) rfl rfl rfl ?_
        refine AW.iload_n (dc hdl_1 23 rfl) rfl ?_
        refine AW.iconst (dc hdl_1 24 rfl) (by decide) ?_
        refine AW.iadd (dc hdl_1 25 rfl) ?_
        refine AW.scr hX (dc hdl_1 26 rfl) g_1 g_116 g_117 ?_
        obtain ⟨g_126, h⟩ := h
        refine AW.callV (As := [(0, XS (w32 (v3 + 1)).toNat)]) (rest := [(0, r_118)]) (ci := 10) (m_G_blame l E n C_122 v2 (XS (w32 (v3 + 1)).toNat) _ h) cb_11_44 im_G_blame se_G_blame ⟨_, _, rfl⟩ (by decide) (dc hdl_1 27 rfl) g_126 rfl rfl ⟨Nat.le_of_ble_eq_true rfl, Nat.le_of_ble_eq_true rfl⟩ ⟨g_120, g_121⟩ (Nat.le_of_ble_eq_true rfl) (fun _ h => by cases h) (fun _ => rfl) (fun r_125 C_127 d_129 q_128 => ?_)
        obtain ⟨q_128a, h⟩ := q_128
        subst d_129
        show AW p l e _ s m args below meth c E (M_L_law nmz) true _ n _ _ _ [(3, v0), (2, v1), (2, v2), (0, v3)] [(0, r_125), (0, r_118)] C_127
        refine AW.icmp_eq (t := 1698) (dc hdl_1 28 rfl) (by decide) (fun c_130 => ?_) (fun c_130 => ?_)
        · have h := h.1 c_130
          refine AW.iinc [(3, v0), (2, v1), (2, v2), (0, w32 (v3 + 6))] (dc hdl_6 20 rfl) rfl (Nat.le_of_ble_eq_true rfl) rfl rfl ?_
          refine AW.goto (t := 18) (dc hdl_6 21 rfl) (by decide) ?_
          exact hkz18 C_127 n kc ks (w32 (v3 + 6)) h
        · have h := h.2 c_130
          refine AW.iconst (dc hdl_1 29 rfl) (by decide) ?_
          exact AW.zret (dc hdl_1 30 rfl) rfl rfl g_120 g_121 (by decide) h
      | 7, hj =>
        cases hj
        have h := h.2.2.2.2.2.2.2.1 (hx.trans (by decide))
        refine AW.ra_n (dc hdl_1 31 rfl) rfl rfl rfl ?_
        refine AW.ra_n (dc hdl_1 32 rfl) rfl rfl rfl ?_
        refine AW.iload_n (dc hdl_1 33 rfl) rfl ?_
        refine AW.iconst (dc hdl_1 34 rfl) (by decide) ?_
        refine AW.iadd (dc hdl_1 35 rfl) ?_
        obtain ⟨g_131, h⟩ := h
        obtain ⟨g_132, h⟩ := h
        refine AW.scr hX (dc hdl_1 36 rfl) g_1 g_131 g_132 ?_
        obtain ⟨g_134, h⟩ := h
        obtain ⟨g_135, h⟩ := h
        obtain ⟨g_136, h⟩ := h
        refine AW.callV (As := [(0, XS (w32 (v3 + 1)).toNat)]) (rest := []) (ci := 9) (m_F_many l E n C v1 (XS (w32 (v3 + 1)).toNat) _ h) cb_11_45 im_F_many se_F_many ⟨_, _, rfl⟩ (by decide) (dc hdl_1 37 rfl) g_134 rfl rfl ⟨Nat.le_of_ble_eq_true rfl, Nat.le_of_ble_eq_true rfl⟩ ⟨g_135, g_136⟩ (Nat.le_of_ble_eq_true rfl) (fun _ h => by cases h) (fun _ => rfl) (fun r_133 C_137 d_139 q_138 => ?_)
        obtain ⟨q_138a, h⟩ := q_138
        subst d_139
        show AW p l e _ s m args below meth c E (M_L_law nmz) true _ n _ _ _ [(3, v0), (2, v1), (2, v2), (0, v3)] [(0, r_133)] C_137
        refine AW.ra_n (dc hdl_1 38 rfl) rfl rfl rfl ?_
        refine AW.ra_n (dc hdl_1 39 rfl) rfl rfl rfl ?_
        refine AW.iload_n (dc hdl_1 40 rfl) rfl ?_
        refine AW.iconst (dc hdl_1 41 rfl) (by decide) ?_
        refine AW.iadd (dc hdl_1 42 rfl) ?_
        refine AW.scr hX (dc hdl_1 43 rfl) g_1 g_131 g_132 ?_
        obtain ⟨g_141, h⟩ := h
        refine AW.callV (As := [(0, XS (w32 (v3 + 1)).toNat)]) (rest := [(0, r_133)]) (ci := 10) (m_G_many l E n C_137 v2 (XS (w32 (v3 + 1)).toNat) _ h) cb_11_48 im_G_many se_G_many ⟨_, _, rfl⟩ (by decide) (dc hdl_1 44 rfl) g_141 rfl rfl ⟨Nat.le_of_ble_eq_true rfl, Nat.le_of_ble_eq_true rfl⟩ ⟨g_135, g_136⟩ (Nat.le_of_ble_eq_true rfl) (fun _ h => by cases h) (fun _ => rfl) (fun r_140 C_142 d_144 q_143 => ?_)
        obtain ⟨q_143a, h⟩ := q_143
        subst d_144
        show AW p l e _ s m args below meth c E (M_L_law nmz) true _ n _ _ _ [(3, v0), (2, v1), (2, v2), (0, v3)] [(0, r_140), (0, r_133)] C_142
        refine AW.icmp_eq (t := 1698) (dc hdl_1 45 rfl) (by decide) (fun c_145 => ?_) (fun c_145 => ?_)
        · have h := h.1 c_145
          refine AW.iinc [(3, v0), (2, v1), (2, v2), (0, w32 (v3 + 6))] (dc hdl_6 20 rfl) rfl (Nat.le_of_ble_eq_true rfl) rfl rfl ?_
          refine AW.goto (t := 18) (dc hdl_6 21 rfl) (by decide) ?_
          exact hkz18 C_142 n kc ks (w32 (v3 + 6)) h
        · have h := h.2 c_145
          refine AW.iconst (dc hdl_1 46 rfl) (by decide) ?_
          exact AW.zret (dc hdl_1 47 rfl) rfl rfl g_135 g_136 (by decide) h
      | 8, hj =>
        cases hj
        have h := h.2.2.2.2.2.2.2.2.1 (hx.trans (by decide))
        refine AW.ra_n (dc hdl_1 48 rfl) rfl rfl rfl ?_
        refine AW.ra_n (dc hdl_1 49 rfl) rfl rfl rfl ?_
        refine AW.iload_n (dc hdl_1 50 rfl) rfl ?_
        refine AW.iconst (dc hdl_1 51 rfl) (by decide) ?_
        refine AW.iadd (dc hdl_1 52 rfl) ?_
        obtain ⟨g_146, h⟩ := h
        obtain ⟨g_147, h⟩ := h
        refine AW.scr hX (dc hdl_1 53 rfl) g_1 g_146 g_147 ?_
        refine AW.ra_n (dc hdl_1 54 rfl) rfl rfl rfl ?_
        refine AW.iload_n (dc hdl_1 55 rfl) rfl ?_
        refine AW.iconst (dc hdl_1 56 rfl) (by decide) ?_
        refine AW.iadd (dc hdl_1 57 rfl) ?_
        obtain ⟨g_148, h⟩ := h
        obtain ⟨g_149, h⟩ := h
        refine AW.scr hX (dc hdl_1 58 rfl) g_1 g_148 g_149 ?_
        obtain ⟨g_151, h⟩ := h
        obtain ⟨g_152, h⟩ := h
        obtain ⟨g_153, h⟩ := h
        refine AW.callV (As := [(0, XS (w32 (v3 + 1)).toNat), (0, XS (w32 (v3 + 2)).toNat)]) (rest := []) (ci := 9) (m_F_end l E n C v1 (XS (w32 (v3 + 1)).toNat) (XS (w32 (v3 + 2)).toNat) _ h) cb_11_49 im_F_end se_F_end ⟨_, _, rfl⟩ (by decide) (dc hdl_1 59 rfl) g_151 rfl rfl ⟨Nat.le_of_ble_eq_true rfl, Nat.le_of_ble_eq_true rfl⟩ ⟨g_152, g_153⟩ (Nat.le_of_ble_eq_true rfl) (fun _ h => by cases h) (fun _ => rfl) (fun r_150 C_154 d_156 q_155 => ?_)
        obtain ⟨q_155a, h⟩ := q_155
        subst d_156
        show AW p l e _ s m args below meth c E (M_L_law nmz) true _ n _ _ _ [(3, v0), (2, v1), (2, v2), (0, v3)] [(0, r_150)] C_154
        refine AW.ra_n (dc hdl_1 60 rfl) rfl rfl rfl ?_
        refine AW.ra_n (dc hdl_1 61 rfl) rfl rfl rfl ?_
        refine AW.iload_n (dc hdl_1 62 rfl) rfl ?_
        refine AW.iconst (dc hdl_1 63 rfl) (by decide) ?_
        refine AW.iadd (dc hdl_1 64 rfl) ?_
        refine AW.scr hX (dc hdl_1 65 rfl) g_1 g_146 g_147 ?_
        refine AW.ra_n (dc hdl_1 66 rfl) rfl rfl rfl ?_
        refine AW.iload_n (dc hdl_1 67 rfl) rfl ?_
        refine AW.iconst (dc hdl_1 68 rfl) (by decide) ?_
        refine AW.iadd (dc hdl_1 69 rfl) ?_
        refine AW.scr hX (dc hdl_1 70 rfl) g_1 g_148 g_149 ?_
        obtain ⟨g_158, h⟩ := h
        refine AW.callV (As := [(0, XS (w32 (v3 + 1)).toNat), (0, XS (w32 (v3 + 2)).toNat)]) (rest := [(0, r_150)]) (ci := 10) (m_G_end l E n C_154 v2 (XS (w32 (v3 + 1)).toNat) (XS (w32 (v3 + 2)).toNat) _ h) cb_11_52 im_G_end se_G_end ⟨_, _, rfl⟩ (by decide) (dc hdl_1 71 rfl) g_158 rfl rfl ⟨Nat.le_of_ble_eq_true rfl, Nat.le_of_ble_eq_true rfl⟩ ⟨g_152, g_153⟩ (Nat.le_of_ble_eq_true rfl) (fun _ h => by cases h) (fun _ => rfl) (fun r_157 C_159 d_161 q_160 => ?_)
        obtain ⟨q_160a, h⟩ := q_160
        subst d_161
        show AW p l e _ s m args below meth c E (M_L_law nmz) true _ n _ _ _ [(3, v0), (2, v1), (2, v2), (0, v3)] [(0, r_157), (0, r_150)] C_159
        refine AW.icmp_eq (t := 1698) (dc hdl_1 72 rfl) (by decide) (fun c_162 => ?_) (fun c_162 => ?_)
        · have h := h.1 c_162
          refine AW.iinc [(3, v0), (2, v1), (2, v2), (0, w32 (v3 + 6))] (dc hdl_6 20 rfl) rfl (Nat.le_of_ble_eq_true rfl) rfl rfl ?_
          refine AW.goto (t := 18) (dc hdl_6 21 rfl) (by decide) ?_
          exact hkz18 C_159 n kc ks (w32 (v3 + 6)) h
        · have h := h.2 c_162
          refine AW.iconst (dc hdl_1 73 rfl) (by decide) ?_
          exact AW.zret (dc hdl_1 74 rfl) rfl rfl g_152 g_153 (by decide) h
      | 9, hj =>
        cases hj
        have h := h.2.2.2.2.2.2.2.2.2.1 (hx.trans (by decide))
        refine AW.ra_n (dc hdl_1 75 rfl) rfl rfl rfl ?_
        refine AW.ra_n (dc hdl_1 76 rfl) rfl rfl rfl ?_
        refine AW.iload_n (dc hdl_1 77 rfl) rfl ?_
        refine AW.iconst (dc hdl_1 78 rfl) (by decide) ?_
        refine AW.iadd (dc hdl_1 79 rfl) ?_
        obtain ⟨g_163, h⟩ := h
        obtain ⟨g_164, h⟩ := h
        refine AW.scr hX (dc hdl_1 80 rfl) g_1 g_163 g_164 ?_
        refine AW.ra_n (dc hdl_1 81 rfl) rfl rfl rfl ?_
        refine AW.iload_n (dc hdl_1 82 rfl) rfl ?_
        refine AW.iconst (dc hdl_1 83 rfl) (by decide) ?_
        refine AW.iadd (dc hdl_1 84 rfl) ?_
        obtain ⟨g_165, h⟩ := h
        obtain ⟨g_166, h⟩ := h
        refine AW.scr hX (dc hdl_1 85 rfl) g_1 g_165 g_166 ?_
        obtain ⟨g_168, h⟩ := h
        obtain ⟨g_169, h⟩ := h
        obtain ⟨g_170, h⟩ := h
        refine AW.callV (As := [(0, XS (w32 (v3 + 1)).toNat), (0, XS (w32 (v3 + 2)).toNat)]) (rest := []) (ci := 9) (m_F_field l E n C v1 (XS (w32 (v3 + 1)).toNat) (XS (w32 (v3 + 2)).toNat) _ h) cb_11_53 im_F_field se_F_field ⟨_, _, rfl⟩ (by decide) (dc hdl_1 86 rfl) g_168 rfl rfl ⟨Nat.le_of_ble_eq_true rfl, Nat.le_of_ble_eq_true rfl⟩ ⟨g_169, g_170⟩ (Nat.le_of_ble_eq_true rfl) (fun _ h => by cases h) (fun _ => rfl) (fun r_167 C_171 d_173 q_172 => ?_)
        obtain ⟨q_172a, h⟩ := q_172
        subst d_173
        show AW p l e _ s m args below meth c E (M_L_law nmz) true _ n _ _ _ [(3, v0), (2, v1), (2, v2), (0, v3)] [(0, r_167)] C_171
        refine AW.ra_n (dc hdl_1 87 rfl) rfl rfl rfl ?_
        refine AW.ra_n (dc hdl_1 88 rfl) rfl rfl rfl ?_
        refine AW.iload_n (dc hdl_1 89 rfl) rfl ?_
        refine AW.iconst (dc hdl_1 90 rfl) (by decide) ?_
        refine AW.iadd (dc hdl_1 91 rfl) ?_
        refine AW.scr hX (dc hdl_1 92 rfl) g_1 g_163 g_164 ?_
        refine AW.ra_n (dc hdl_1 93 rfl) rfl rfl rfl ?_
        refine AW.iload_n (dc hdl_1 94 rfl) rfl ?_
        refine AW.iconst (dc hdl_1 95 rfl) (by decide) ?_
        refine AW.iadd (dc hdl_1 96 rfl) ?_
        refine AW.scr hX (dc hdl_1 97 rfl) g_1 g_165 g_166 ?_
        obtain ⟨g_175, h⟩ := h
        refine AW.callV (As := [(0, XS (w32 (v3 + 1)).toNat), (0, XS (w32 (v3 + 2)).toNat)]) (rest := [(0, r_167)]) (ci := 10) (m_G_field l E n C_171 v2 (XS (w32 (v3 + 1)).toNat) (XS (w32 (v3 + 2)).toNat) _ h) cb_11_56 im_G_field se_G_field ⟨_, _, rfl⟩ (by decide) (dc hdl_1 98 rfl) g_175 rfl rfl ⟨Nat.le_of_ble_eq_true rfl, Nat.le_of_ble_eq_true rfl⟩ ⟨g_169, g_170⟩ (Nat.le_of_ble_eq_true rfl) (fun _ h => by cases h) (fun _ => rfl) (fun r_174 C_176 d_178 q_177 => ?_)
        obtain ⟨q_177a, h⟩ := q_177
        subst d_178
        show AW p l e _ s m args below meth c E (M_L_law nmz) true _ n _ _ _ [(3, v0), (2, v1), (2, v2), (0, v3)] [(0, r_174), (0, r_167)] C_176
        refine AW.icmp_eq (t := 1698) (dc hdl_1 99 rfl) (by decide) (fun c_179 => ?_) (fun c_179 => ?_)
        · have h := h.1 c_179
          refine AW.iinc [(3, v0), (2, v1), (2, v2), (0, w32 (v3 + 6))] (dc hdl_6 20 rfl) rfl (Nat.le_of_ble_eq_true rfl) rfl rfl ?_
          refine AW.goto (t := 18) (dc hdl_6 21 rfl) (by decide) ?_
          exact hkz18 C_176 n kc ks (w32 (v3 + 6)) h
        · have h := h.2 c_179
          refine AW.iconst (dc hdl_1 100 rfl) (by decide) ?_
          exact AW.zret (dc hdl_1 101 rfl) rfl rfl g_169 g_170 (by decide) h
      | 10, hj =>
        cases hj
        have h := h.2.2.2.2.2.2.2.2.2.2.1 (hx.trans (by decide))
        refine AW.ra_n (dc hdl_1 102 rfl) rfl rfl rfl ?_
        refine AW.ra_n (dc hdl_1 103 rfl) rfl rfl rfl ?_
        refine AW.iload_n (dc hdl_1 104 rfl) rfl ?_
        refine AW.iconst (dc hdl_1 105 rfl) (by decide) ?_
        refine AW.iadd (dc hdl_1 106 rfl) ?_
        obtain ⟨g_180, h⟩ := h
        obtain ⟨g_181, h⟩ := h
        refine AW.scr hX (dc hdl_1 107 rfl) g_1 g_180 g_181 ?_
        refine AW.ra_n (dc hdl_1 108 rfl) rfl rfl rfl ?_
        refine AW.iload_n (dc hdl_1 109 rfl) rfl ?_
        refine AW.iconst (dc hdl_1 110 rfl) (by decide) ?_
        refine AW.iadd (dc hdl_1 111 rfl) ?_
        obtain ⟨g_182, h⟩ := h
        obtain ⟨g_183, h⟩ := h
        refine AW.scr hX (dc hdl_1 112 rfl) g_1 g_182 g_183 ?_
        obtain ⟨g_185, h⟩ := h
        obtain ⟨g_186, h⟩ := h
        obtain ⟨g_187, h⟩ := h
        refine AW.callV (As := [(0, XS (w32 (v3 + 1)).toNat), (0, XS (w32 (v3 + 2)).toNat)]) (rest := []) (ci := 9) (m_F_at l E n C v1 (XS (w32 (v3 + 1)).toNat) (XS (w32 (v3 + 2)).toNat) _ h) cb_11_57 im_F_at se_F_at ⟨_, _, rfl⟩ (by decide) (dc hdl_1 113 rfl) g_185 rfl rfl ⟨Nat.le_of_ble_eq_true rfl, Nat.le_of_ble_eq_true rfl⟩ ⟨g_186, g_187⟩ (Nat.le_of_ble_eq_true rfl) (fun _ h => by cases h) (fun _ => rfl) (fun r_184 C_188 d_190 q_189 => ?_)
        obtain ⟨q_189a, h⟩ := q_189
        subst d_190
        show AW p l e _ s m args below meth c E (M_L_law nmz) true _ n _ _ _ [(3, v0), (2, v1), (2, v2), (0, v3)] [(0, r_184)] C_188
        refine AW.ra_n (dc hdl_1 114 rfl) rfl rfl rfl ?_
        refine AW.ra_n (dc hdl_1 115 rfl) rfl rfl rfl ?_
        refine AW.iload_n (dc hdl_1 116 rfl) rfl ?_
        refine AW.iconst (dc hdl_1 117 rfl) (by decide) ?_
        refine AW.iadd (dc hdl_1 118 rfl) ?_
        refine AW.scr hX (dc hdl_1 119 rfl) g_1 g_180 g_181 ?_
        refine AW.ra_n (dc hdl_1 120 rfl) rfl rfl rfl ?_
        refine AW.iload_n (dc hdl_1 121 rfl) rfl ?_
        refine AW.iconst (dc hdl_1 122 rfl) (by decide) ?_
        refine AW.iadd (dc hdl_1 123 rfl) ?_
        refine AW.scr hX (dc hdl_1 124 rfl) g_1 g_182 g_183 ?_
        obtain ⟨g_192, h⟩ := h
        refine AW.callV (As := [(0, XS (w32 (v3 + 1)).toNat), (0, XS (w32 (v3 + 2)).toNat)]) (rest := [(0, r_184)]) (ci := 10) (m_G_at l E n C_188 v2 (XS (w32 (v3 + 1)).toNat) (XS (w32 (v3 + 2)).toNat) _ h) cb_11_60 im_G_at se_G_at ⟨_, _, rfl⟩ (by decide) (dc hdl_1 125 rfl) g_192 rfl rfl ⟨Nat.le_of_ble_eq_true rfl, Nat.le_of_ble_eq_true rfl⟩ ⟨g_186, g_187⟩ (Nat.le_of_ble_eq_true rfl) (fun _ h => by cases h) (fun _ => rfl) (fun r_191 C_193 d_195 q_194 => ?_)
        obtain ⟨q_194a, h⟩ := q_194
        subst d_195
        show AW p l e _ s m args below meth c E (M_L_law nmz) true _ n _ _ _ [(3, v0), (2, v1), (2, v2), (0, v3)] [(0, r_191), (0, r_184)] C_193
        refine AW.icmp_eq (t := 1698) (dc hdl_1 126 rfl) (by decide) (fun c_196 => ?_) (fun c_196 => ?_)
        · have h := h.1 c_196
          refine AW.iinc [(3, v0), (2, v1), (2, v2), (0, w32 (v3 + 6))] (dc hdl_6 20 rfl) rfl (Nat.le_of_ble_eq_true rfl) rfl rfl ?_
          refine AW.goto (t := 18) (dc hdl_6 21 rfl) (by decide) ?_
          exact hkz18 C_193 n kc ks (w32 (v3 + 6)) h
        · have h := h.2 c_196
          refine AW.iconst (dc hdl_1 127 rfl) (by decide) ?_
          exact AW.zret (dc hdl_1 128 rfl) rfl rfl g_186 g_187 (by decide) h
      | 11, hj =>
        cases hj
        have h := h.2.2.2.2.2.2.2.2.2.2.2.1 (hx.trans (by decide))
        refine AW.ra_n (dc hdl_1 129 rfl) rfl rfl rfl ?_
        refine AW.ra_n (dc hdl_1 130 rfl) rfl rfl rfl ?_
        refine AW.iload_n (dc hdl_1 131 rfl) rfl ?_
        refine AW.iconst (dc hdl_1 132 rfl) (by decide) ?_
        refine AW.iadd (dc hdl_1 133 rfl) ?_
        obtain ⟨g_197, h⟩ := h
        obtain ⟨g_198, h⟩ := h
        refine AW.scr hX (dc hdl_1 134 rfl) g_1 g_197 g_198 ?_
        refine AW.ra_n (dc hdl_1 135 rfl) rfl rfl rfl ?_
        refine AW.iload_n (dc hdl_1 136 rfl) rfl ?_
        refine AW.iconst (dc hdl_1 137 rfl) (by decide) ?_
        refine AW.iadd (dc hdl_1 138 rfl) ?_
        obtain ⟨g_199, h⟩ := h
        obtain ⟨g_200, h⟩ := h
        refine AW.scr hX (dc hdl_1 139 rfl) g_1 g_199 g_200 ?_
        refine AW.ra_n (dc hdl_1 140 rfl) rfl rfl rfl ?_
        refine AW.iload_n (dc hdl_1 141 rfl) rfl ?_
        refine AW.iconst (dc hdl_1 142 rfl) (by decide) ?_
        refine AW.iadd (dc hdl_1 143 rfl) ?_
        obtain ⟨g_201, h⟩ := h
        obtain ⟨g_202, h⟩ := h
        refine AW.scr hX (dc hdl_1 144 rfl) g_1 g_201 g_202 ?_
        obtain ⟨g_204, h⟩ := h
        obtain ⟨g_205, h⟩ := h
        obtain ⟨g_206, h⟩ := h
        refine AW.callV (As := [(0, XS (w32 (v3 + 1)).toNat), (0, XS (w32 (v3 + 2)).toNat), (0, XS (w32 (v3 + 3)).toNat)]) (rest := []) (ci := 9) (m_F_near l E n C v1 (XS (w32 (v3 + 1)).toNat) (XS (w32 (v3 + 2)).toNat) (XS (w32 (v3 + 3)).toNat) _ h) cb_11_61 im_F_near se_F_near ⟨_, _, rfl⟩ (by decide) (dc hdl_1 145 rfl) g_204 rfl rfl ⟨Nat.le_of_ble_eq_true rfl, Nat.le_of_ble_eq_true rfl⟩ ⟨g_205, g_206⟩ (Nat.le_of_ble_eq_true rfl) (fun _ h => by cases h) (fun _ => rfl) (fun r_203 C_207 d_209 q_208 => ?_)
        obtain ⟨q_208a, h⟩ := q_208
        subst d_209
        show AW p l e _ s m args below meth c E (M_L_law nmz) true _ n _ _ _ [(3, v0), (2, v1), (2, v2), (0, v3)] [(0, r_203)] C_207
        refine AW.ra_n (dc hdl_1 146 rfl) rfl rfl rfl ?_
        refine AW.ra_n (dc hdl_1 147 rfl) rfl rfl rfl ?_
        refine AW.iload_n (dc hdl_1 148 rfl) rfl ?_
        refine AW.iconst (dc hdl_1 149 rfl) (by decide) ?_
        refine AW.iadd (dc hdl_1 150 rfl) ?_
        refine AW.scr hX (dc hdl_1 151 rfl) g_1 g_197 g_198 ?_
        refine AW.ra_n (dc hdl_1 152 rfl) rfl rfl rfl ?_
        refine AW.iload_n (dc hdl_1 153 rfl) rfl ?_
        refine AW.iconst (dc hdl_1 154 rfl) (by decide) ?_
        refine AW.iadd (dc hdl_1 155 rfl) ?_
        refine AW.scr hX (dc hdl_1 156 rfl) g_1 g_199 g_200 ?_
        refine AW.ra_n (dc hdl_1 157 rfl) rfl rfl rfl ?_
        refine AW.iload_n (dc hdl_1 158 rfl) rfl ?_
        refine AW.iconst (dc hdl_1 159 rfl) (by decide) ?_
        refine AW.iadd (dc hdl_1 160 rfl) ?_
        refine AW.scr hX (dc hdl_1 161 rfl) g_1 g_201 g_202 ?_
        obtain ⟨g_211, h⟩ := h
        refine AW.callV (As := [(0, XS (w32 (v3 + 1)).toNat), (0, XS (w32 (v3 + 2)).toNat), (0, XS (w32 (v3 + 3)).toNat)]) (rest := [(0, r_203)]) (ci := 10) (m_G_near l E n C_207 v2 (XS (w32 (v3 + 1)).toNat) (XS (w32 (v3 + 2)).toNat) (XS (w32 (v3 + 3)).toNat) _ h) cb_11_65 im_G_near se_G_near ⟨_, _, rfl⟩ (by decide) (dc hdl_1 162 rfl) g_211 rfl rfl ⟨Nat.le_of_ble_eq_true rfl, Nat.le_of_ble_eq_true rfl⟩ ⟨g_205, g_206⟩ (Nat.le_of_ble_eq_true rfl) (fun _ h => by cases h) (fun _ => rfl) (fun r_210 C_212 d_214 q_213 => ?_)
        obtain ⟨q_213a, h⟩ := q_213
        subst d_214
        show AW p l e _ s m args below meth c E (M_L_law nmz) true _ n _ _ _ [(3, v0), (2, v1), (2, v2), (0, v3)] [(0, r_210), (0, r_203)] C_212
        refine AW.icmp_eq (t := 1698) (dc hdl_1 163 rfl) (by decide) (fun c_215 => ?_) (fun c_215 => ?_)
        · have h := h.1 c_215
          refine AW.iinc [(3, v0), (2, v1), (2, v2), (0, w32 (v3 + 6))] (dc hdl_6 20 rfl) rfl (Nat.le_of_ble_eq_true rfl) rfl rfl ?_
          refine AW.goto (t := 18) (dc hdl_6 21 rfl) (by decide) ?_
          exact hkz18 C_212 n kc ks (w32 (v3 + 6)) h
        · have h := h.2 c_215
          refine AW.iconst (dc hdl_1 164 rfl) (by decide) ?_
          exact AW.zret (dc hdl_1 165 rfl) rfl rfl g_205 g_206 (by decide) h
      | 12, hj =>
        cases hj
        have h := h.2.2.2.2.2.2.2.2.2.2.2.2.1 (hx.trans (by decide))
        refine AW.ra_n (dc hdl_1 166 rfl) rfl rfl rfl ?_
        refine AW.ra_n (dc hdl_1 167 rfl) rfl rfl rfl ?_
        refine AW.iload_n (dc hdl_1 168 rfl) rfl ?_
        refine AW.iconst (dc hdl_1 169 rfl) (by decide) ?_
        refine AW.iadd (dc hdl_1 170 rfl) ?_
        obtain ⟨g_216, h⟩ := h
        obtain ⟨g_217, h⟩ := h
        refine AW.scr hX (dc hdl_1 171 rfl) g_1 g_216 g_217 ?_
        refine AW.ra_n (dc hdl_1 172 rfl) rfl rfl rfl ?_
        refine AW.iload_n (dc hdl_1 173 rfl) rfl ?_
        refine AW.iconst (dc hdl_1 174 rfl) (by decide) ?_
        refine AW.iadd (dc hdl_1 175 rfl) ?_
        obtain ⟨g_218, h⟩ := h
        obtain ⟨g_219, h⟩ := h
        refine AW.scr hX (dc hdl_1 176 rfl) g_1 g_218 g_219 ?_
        refine AW.ra_n (dc hdl_1 177 rfl) rfl rfl rfl ?_
        refine AW.iload_n (dc hdl_1 178 rfl) rfl ?_
        refine AW.iconst (dc hdl_1 179 rfl) (by decide) ?_
        refine AW.iadd (dc hdl_1 180 rfl) ?_
        obtain ⟨g_220, h⟩ := h
        obtain ⟨g_221, h⟩ := h
        refine AW.scr hX (dc hdl_1 181 rfl) g_1 g_220 g_221 ?_
        refine AW.ra_n (dc hdl_1 182 rfl) rfl rfl rfl ?_
        refine AW.iload_n (dc hdl_1 183 rfl) rfl ?_
        refine AW.iconst (dc hdl_1 184 rfl) (by decide) ?_
        refine AW.iadd (dc hdl_1 185 rfl) ?_
        obtain ⟨g_222, h⟩ := h
        obtain ⟨g_223, h⟩ := h
        refine AW.scr hX (dc hdl_1 186 rfl) g_1 g_222 g_223 ?_
        obtain ⟨g_225, h⟩ := h
        obtain ⟨g_226, h⟩ := h
        obtain ⟨g_227, h⟩ := h
        refine AW.callV (As := [(0, XS (w32 (v3 + 1)).toNat), (0, XS (w32 (v3 + 2)).toNat), (0, XS (w32 (v3 + 3)).toNat), (0, XS (w32 (v3 + 4)).toNat)]) (rest := []) (ci := 9) (m_F_sight l E n C v1 (XS (w32 (v3 + 1)).toNat) (XS (w32 (v3 + 2)).toNat) (XS (w32 (v3 + 3)).toNat) (XS (w32 (v3 + 4)).toNat) _ h) cb_11_66 im_F_sight se_F_sight ⟨_, _, rfl⟩ (by decide) (dc hdl_1 187 rfl) g_225 rfl rfl ⟨Nat.le_of_ble_eq_true rfl, Nat.le_of_ble_eq_true rfl⟩ ⟨g_226, g_227⟩ (Nat.le_of_ble_eq_true rfl) (fun _ h => by cases h) (fun _ => rfl) (fun r_224 C_228 d_230 q_229 => ?_)
        obtain ⟨q_229a, h⟩ := q_229
        subst d_230
        show AW p l e _ s m args below meth c E (M_L_law nmz) true _ n _ _ _ [(3, v0), (2, v1), (2, v2), (0, v3)] [(0, r_224)] C_228
        refine AW.ra_n (dc hdl_1 188 rfl) rfl rfl rfl ?_
        refine AW.ra_n (dc hdl_1 189 rfl) rfl rfl rfl ?_
        refine AW.iload_n (dc hdl_1 190 rfl) rfl ?_
        refine AW.iconst (dc hdl_1 191 rfl) (by decide) ?_
        refine AW.iadd (dc hdl_1 192 rfl) ?_
        refine AW.scr hX (dc hdl_1 193 rfl) g_1 g_216 g_217 ?_
        refine AW.ra_n (dc hdl_1 194 rfl) rfl rfl rfl ?_
        refine AW.iload_n (dc hdl_1 195 rfl) rfl ?_
        refine AW.iconst (dc hdl_1 196 rfl) (by decide) ?_
        refine AW.iadd (dc hdl_1 197 rfl) ?_
        refine AW.scr hX (dc hdl_1 198 rfl) g_1 g_218 g_219 ?_
        refine AW.ra_n (dc hdl_1 199 rfl) rfl rfl rfl ?_
        refine AW.iload_n (dc hdl_2 0 rfl) rfl ?_
        refine AW.iconst (dc hdl_2 1 rfl) (by decide) ?_
        refine AW.iadd (dc hdl_2 2 rfl) ?_
        refine AW.scr hX (dc hdl_2 3 rfl) g_1 g_220 g_221 ?_
        refine AW.ra_n (dc hdl_2 4 rfl) rfl rfl rfl ?_
        refine AW.iload_n (dc hdl_2 5 rfl) rfl ?_
        refine AW.iconst (dc hdl_2 6 rfl) (by decide) ?_
        refine AW.iadd (dc hdl_2 7 rfl) ?_
        refine AW.scr hX (dc hdl_2 8 rfl) g_1 g_222 g_223 ?_
        obtain ⟨g_232, h⟩ := h
        refine AW.callV (As := [(0, XS (w32 (v3 + 1)).toNat), (0, XS (w32 (v3 + 2)).toNat), (0, XS (w32 (v3 + 3)).toNat), (0, XS (w32 (v3 + 4)).toNat)]) (rest := [(0, r_224)]) (ci := 10) (m_G_sight l E n C_228 v2 (XS (w32 (v3 + 1)).toNat) (XS (w32 (v3 + 2)).toNat) (XS (w32 (v3 + 3)).toNat) (XS (w32 (v3 + 4)).toNat) _ h) cb_11_70 im_G_sight se_G_sight ⟨_, _, rfl⟩ (by decide) (dc hdl_2 9 rfl) g_232 rfl rfl ⟨Nat.le_of_ble_eq_true rfl, Nat.le_of_ble_eq_true rfl⟩ ⟨g_226, g_227⟩ (Nat.le_of_ble_eq_true rfl) (fun _ h => by cases h) (fun _ => rfl) (fun r_231 C_233 d_235 q_234 => ?_)
        obtain ⟨q_234a, h⟩ := q_234
        subst d_235
        show AW p l e _ s m args below meth c E (M_L_law nmz) true _ n _ _ _ [(3, v0), (2, v1), (2, v2), (0, v3)] [(0, r_231), (0, r_224)] C_233
        refine AW.icmp_eq (t := 1698) (dc hdl_2 10 rfl) (by decide) (fun c_236 => ?_) (fun c_236 => ?_)
        · have h := h.1 c_236
          refine AW.iinc [(3, v0), (2, v1), (2, v2), (0, w32 (v3 + 6))] (dc hdl_6 20 rfl) rfl (Nat.le_of_ble_eq_true rfl) rfl rfl ?_
          refine AW.goto (t := 18) (dc hdl_6 21 rfl) (by decide) ?_
          exact hkz18 C_233 n kc ks (w32 (v3 + 6)) h
        · have h := h.2 c_236
          refine AW.iconst (dc hdl_2 11 rfl) (by decide) ?_
          exact AW.zret (dc hdl_2 12 rfl) rfl rfl g_226 g_227 (by decide) h
      | 13, hj =>
        cases hj
        have h := h.2.2.2.2.2.2.2.2.2.2.2.2.2.1 (hx.trans (by decide))
        refine AW.ra_n (dc hdl_2 13 rfl) rfl rfl rfl ?_
        refine AW.ra_n (dc hdl_2 14 rfl) rfl rfl rfl ?_
        refine AW.iload_n (dc hdl_2 15 rfl) rfl ?_
        refine AW.iconst (dc hdl_2 16 rfl) (by decide) ?_
        refine AW.iadd (dc hdl_2 17 rfl) ?_
        obtain ⟨g_237, h⟩ := h
        obtain ⟨g_238, h⟩ := h
        refine AW.scr hX (dc hdl_2 18 rfl) g_1 g_237 g_238 ?_
        refine AW.ra_n (dc hdl_2 19 rfl) rfl rfl rfl ?_
        refine AW.iload_n (dc hdl_2 20 rfl) rfl ?_
        refine AW.iconst (dc hdl_2 21 rfl) (by decide) ?_
        refine AW.iadd (dc hdl_2 22 rfl) ?_
        obtain ⟨g_239, h⟩ := h
        obtain ⟨g_240, h⟩ := h
        refine AW.scr hX (dc hdl_2 23 rfl) g_1 g_239 g_240 ?_
        obtain ⟨g_242, h⟩ := h
        obtain ⟨g_243, h⟩ := h
        obtain ⟨g_244, h⟩ := h
        refine AW.callV (As := [(0, XS (w32 (v3 + 1)).toNat), (0, XS (w32 (v3 + 2)).toNat)]) (rest := []) (ci := 9) (m_F_steps l E n C v1 (XS (w32 (v3 + 1)).toNat) (XS (w32 (v3 + 2)).toNat) _ h) cb_11_71 im_F_steps se_F_steps ⟨_, _, rfl⟩ (by decide) (dc hdl_2 24 rfl) g_242 rfl rfl ⟨Nat.le_of_ble_eq_true rfl, Nat.le_of_ble_eq_true rfl⟩ ⟨g_243, g_244⟩ (Nat.le_of_ble_eq_true rfl) (fun _ h => by cases h) (fun _ => rfl) (fun r_241 C_245 d_247 q_246 => ?_)
        obtain ⟨q_246a, h⟩ := q_246
        subst d_247
        show AW p l e _ s m args below meth c E (M_L_law nmz) true _ n _ _ _ [(3, v0), (2, v1), (2, v2), (0, v3)] [(0, r_241)] C_245
        refine AW.ra_n (dc hdl_2 25 rfl) rfl rfl rfl ?_
        refine AW.ra_n (dc hdl_2 26 rfl) rfl rfl rfl ?_
        refine AW.iload_n (dc hdl_2 27 rfl) rfl ?_
        refine AW.iconst (dc hdl_2 28 rfl) (by decide) ?_
        refine AW.iadd (dc hdl_2 29 rfl) ?_
        refine AW.scr hX (dc hdl_2 30 rfl) g_1 g_237 g_238 ?_
        refine AW.ra_n (dc hdl_2 31 rfl) rfl rfl rfl ?_
        refine AW.iload_n (dc hdl_2 32 rfl) rfl ?_
        refine AW.iconst (dc hdl_2 33 rfl) (by decide) ?_
        refine AW.iadd (dc hdl_2 34 rfl) ?_
        refine AW.scr hX (dc hdl_2 35 rfl) g_1 g_239 g_240 ?_
        obtain ⟨g_249, h⟩ := h
        refine AW.callV (As := [(0, XS (w32 (v3 + 1)).toNat), (0, XS (w32 (v3 + 2)).toNat)]) (rest := [(0, r_241)]) (ci := 10) (m_G_steps l E n C_245 v2 (XS (w32 (v3 + 1)).toNat) (XS (w32 (v3 + 2)).toNat) _ h) cb_11_74 im_G_steps se_G_steps ⟨_, _, rfl⟩ (by decide) (dc hdl_2 36 rfl) g_249 rfl rfl ⟨Nat.le_of_ble_eq_true rfl, Nat.le_of_ble_eq_true rfl⟩ ⟨g_243, g_244⟩ (Nat.le_of_ble_eq_true rfl) (fun _ h => by cases h) (fun _ => rfl) (fun r_248 C_250 d_252 q_251 => ?_)
        obtain ⟨q_251a, h⟩ := q_251
        subst d_252
        show AW p l e _ s m args below meth c E (M_L_law nmz) true _ n _ _ _ [(3, v0), (2, v1), (2, v2), (0, v3)] [(0, r_248), (0, r_241)] C_250
        refine AW.icmp_eq (t := 1698) (dc hdl_2 37 rfl) (by decide) (fun c_253 => ?_) (fun c_253 => ?_)
        · have h := h.1 c_253
          refine AW.iinc [(3, v0), (2, v1), (2, v2), (0, w32 (v3 + 6))] (dc hdl_6 20 rfl) rfl (Nat.le_of_ble_eq_true rfl) rfl rfl ?_
          refine AW.goto (t := 18) (dc hdl_6 21 rfl) (by decide) ?_
          exact hkz18 C_250 n kc ks (w32 (v3 + 6)) h
        · have h := h.2 c_253
          refine AW.iconst (dc hdl_2 38 rfl) (by decide) ?_
          exact AW.zret (dc hdl_2 39 rfl) rfl rfl g_243 g_244 (by decide) h
      | 14, hj =>
        cases hj
        have h := h.2.2.2.2.2.2.2.2.2.2.2.2.2.2.1 (hx.trans (by decide))
        refine AW.ra_n (dc hdl_2 40 rfl) rfl rfl rfl ?_
        refine AW.ra_n (dc hdl_2 41 rfl) rfl rfl rfl ?_
        refine AW.iload_n (dc hdl_2 42 rfl) rfl ?_
        refine AW.iconst (dc hdl_2 43 rfl) (by decide) ?_
        refine AW.iadd (dc hdl_2 44 rfl) ?_
        obtain ⟨g_254, h⟩ := h
        obtain ⟨g_255, h⟩ := h
        refine AW.scr hX (dc hdl_2 45 rfl) g_1 g_254 g_255 ?_
        obtain ⟨g_257, h⟩ := h
        obtain ⟨g_258, h⟩ := h
        obtain ⟨g_259, h⟩ := h
        refine AW.callV (As := [(0, XS (w32 (v3 + 1)).toNat)]) (rest := []) (ci := 9) (m_F_depth l E n C v1 (XS (w32 (v3 + 1)).toNat) _ h) cb_11_75 im_F_depth se_F_depth ⟨_, _, rfl⟩ (by decide) (dc hdl_2 46 rfl) g_257 rfl rfl ⟨Nat.le_of_ble_eq_true rfl, Nat.le_of_ble_eq_true rfl⟩ ⟨g_258, g_259⟩ (Nat.le_of_ble_eq_true rfl) (fun _ h => by cases h) (fun _ => rfl) (fun r_256 C_260 d_262 q_261 => ?_)
        obtain ⟨q_261a, h⟩ := q_261
        subst d_262
        show AW p l e _ s m args below meth c E (M_L_law nmz) true _ n _ _ _ [(3, v0), (2, v1), (2, v2), (0, v3)] [(0, r_256)] C_260
        refine AW.ra_n (dc hdl_2 47 rfl) rfl rfl rfl ?_
        refine AW.ra_n (dc hdl_2 48 rfl) rfl rfl rfl ?_
        refine AW.iload_n (dc hdl_2 49 rfl) rfl ?_
        refine AW.iconst (dc hdl_2 50 rfl) (by decide) ?_
        refine AW.iadd (dc hdl_2 51 rfl) ?_
        refine AW.scr hX (dc hdl_2 52 rfl) g_1 g_254 g_255 ?_
        obtain ⟨g_264, h⟩ := h
        refine AW.callV (As := [(0, XS (w32 (v3 + 1)).toNat)]) (rest := [(0, r_256)]) (ci := 10) (m_G_depth l E n C_260 v2 (XS (w32 (v3 + 1)).toNat) _ h) cb_11_78 im_G_depth se_G_depth ⟨_, _, rfl⟩ (by decide) (dc hdl_2 53 rfl) g_264 rfl rfl ⟨Nat.le_of_ble_eq_true rfl, Nat.le_of_ble_eq_true rfl⟩ ⟨g_258, g_259⟩ (Nat.le_of_ble_eq_true rfl) (fun _ h => by cases h) (fun _ => rfl) (fun r_263 C_265 d_267 q_266 => ?_)
        obtain ⟨q_266a, h⟩ := q_266
        subst d_267
        show AW p l e _ s m args below meth c E (M_L_law nmz) true _ n _ _ _ [(3, v0), (2, v1), (2, v2), (0, v3)] [(0, r_263), (0, r_256)] C_265
        refine AW.icmp_eq (t := 1698) (dc hdl_2 54 rfl) (by decide) (fun c_268 => ?_) (fun c_268 => ?_)
        · have h := h.1 c_268
          refine AW.iinc [(3, v0), (2, v1), (2, v2), (0, w32 (v3 + 6))] (dc hdl_6 20 rfl) rfl (Nat.le_of_ble_eq_true rfl) rfl rfl ?_
          refine AW.goto (t := 18) (dc hdl_6 21 rfl) (by decide) ?_
          exact hkz18 C_265 n kc ks (w32 (v3 + 6)) h
        · have h := h.2 c_268
          refine AW.iconst (dc hdl_2 55 rfl) (by decide) ?_
          exact AW.zret (dc hdl_2 56 rfl) rfl rfl g_258 g_259 (by decide) h
      | 15, hj =>
        cases hj
        have h := h.2.2.2.2.2.2.2.2.2.2.2.2.2.2.2.1 (hx.trans (by decide))
        refine AW.ra_n (dc hdl_2 57 rfl) rfl rfl rfl ?_
        refine AW.ra_n (dc hdl_2 58 rfl) rfl rfl rfl ?_
        refine AW.iload_n (dc hdl_2 59 rfl) rfl ?_
        refine AW.iconst (dc hdl_2 60 rfl) (by decide) ?_
        refine AW.iadd (dc hdl_2 61 rfl) ?_
        obtain ⟨g_269, h⟩ := h
        obtain ⟨g_270, h⟩ := h
        refine AW.scr hX (dc hdl_2 62 rfl) g_1 g_269 g_270 ?_
        refine AW.ra_n (dc hdl_2 63 rfl) rfl rfl rfl ?_
        refine AW.iload_n (dc hdl_2 64 rfl) rfl ?_
        refine AW.iconst (dc hdl_2 65 rfl) (by decide) ?_
        refine AW.iadd (dc hdl_2 66 rfl) ?_
        obtain ⟨g_271, h⟩ := h
        obtain ⟨g_272, h⟩ := h
        refine AW.scr hX (dc hdl_2 67 rfl) g_1 g_271 g_272 ?_
        obtain ⟨g_274, h⟩ := h
        obtain ⟨g_275, h⟩ := h
        obtain ⟨g_276, h⟩ := h
        refine AW.callV (As := [(0, XS (w32 (v3 + 1)).toNat), (0, XS (w32 (v3 + 2)).toNat)]) (rest := []) (ci := 9) (m_F_ordered l E n C v1 (XS (w32 (v3 + 1)).toNat) (XS (w32 (v3 + 2)).toNat) _ h) cb_11_79 im_F_ordered se_F_ordered ⟨_, _, rfl⟩ (by decide) (dc hdl_2 68 rfl) g_274 rfl rfl ⟨Nat.le_of_ble_eq_true rfl, Nat.le_of_ble_eq_true rfl⟩ ⟨g_275, g_276⟩ (Nat.le_of_ble_eq_true rfl) (fun _ h => by cases h) (fun _ => rfl) (fun r_273 C_277 d_279 q_278 => ?_)
        obtain ⟨q_278a, h⟩ := q_278
        subst d_279
        show AW p l e _ s m args below meth c E (M_L_law nmz) true _ n _ _ _ [(3, v0), (2, v1), (2, v2), (0, v3)] [(0, r_273)] C_277
        refine AW.ra_n (dc hdl_2 69 rfl) rfl rfl rfl ?_
        refine AW.ra_n (dc hdl_2 70 rfl) rfl rfl rfl ?_
        refine AW.iload_n (dc hdl_2 71 rfl) rfl ?_
        refine AW.iconst (dc hdl_2 72 rfl) (by decide) ?_
        refine AW.iadd (dc hdl_2 73 rfl) ?_
        refine AW.scr hX (dc hdl_2 74 rfl) g_1 g_269 g_270 ?_
        refine AW.ra_n (dc hdl_2 75 rfl) rfl rfl rfl ?_
        refine AW.iload_n (dc hdl_2 76 rfl) rfl ?_
        refine AW.iconst (dc hdl_2 77 rfl) (by decide) ?_
        refine AW.iadd (dc hdl_2 78 rfl) ?_
        refine AW.scr hX (dc hdl_2 79 rfl) g_1 g_271 g_272 ?_
        obtain ⟨g_281, h⟩ := h
        refine AW.callV (As := [(0, XS (w32 (v3 + 1)).toNat), (0, XS (w32 (v3 + 2)).toNat)]) (rest := [(0, r_273)]) (ci := 10) (m_G_ordered l E n C_277 v2 (XS (w32 (v3 + 1)).toNat) (XS (w32 (v3 + 2)).toNat) _ h) cb_11_82 im_G_ordered se_G_ordered ⟨_, _, rfl⟩ (by decide) (dc hdl_2 80 rfl) g_281 rfl rfl ⟨Nat.le_of_ble_eq_true rfl, Nat.le_of_ble_eq_true rfl⟩ ⟨g_275, g_276⟩ (Nat.le_of_ble_eq_true rfl) (fun _ h => by cases h) (fun _ => rfl) (fun r_280 C_282 d_284 q_283 => ?_)
        obtain ⟨q_283a, h⟩ := q_283
        subst d_284
        show AW p l e _ s m args below meth c E (M_L_law nmz) true _ n _ _ _ [(3, v0), (2, v1), (2, v2), (0, v3)] [(0, r_280), (0, r_273)] C_282
        refine AW.icmp_eq (t := 1698) (dc hdl_2 81 rfl) (by decide) (fun c_285 => ?_) (fun c_285 => ?_)
        · have h := h.1 c_285
          refine AW.iinc [(3, v0), (2, v1), (2, v2), (0, w32 (v3 + 6))] (dc hdl_6 20 rfl) rfl (Nat.le_of_ble_eq_true rfl) rfl rfl ?_
          refine AW.goto (t := 18) (dc hdl_6 21 rfl) (by decide) ?_
          exact hkz18 C_282 n kc ks (w32 (v3 + 6)) h
        · have h := h.2 c_285
          refine AW.iconst (dc hdl_2 82 rfl) (by decide) ?_
          exact AW.zret (dc hdl_2 83 rfl) rfl rfl g_275 g_276 (by decide) h
      | 16, hj =>
        cases hj
        have h := h.2.2.2.2.2.2.2.2.2.2.2.2.2.2.2.2.1 (hx.trans (by decide))
        refine AW.ra_n (dc hdl_2 84 rfl) rfl rfl rfl ?_
        obtain ⟨g_287, h⟩ := h
        obtain ⟨g_288, h⟩ := h
        obtain ⟨g_289, h⟩ := h
        refine AW.callV (As := []) (rest := []) (ci := 9) (m_F_best l E n C v1 _ h) cb_11_83 im_F_best se_F_best ⟨_, _, rfl⟩ (by decide) (dc hdl_2 85 rfl) g_287 rfl rfl ⟨Nat.le_of_ble_eq_true rfl, Nat.le_of_ble_eq_true rfl⟩ ⟨g_288, g_289⟩ (Nat.le_of_ble_eq_true rfl) (fun _ h => by cases h) (fun _ => rfl) (fun r_286 C_290 d_292 q_291 => ?_)
        obtain ⟨q_291a, h⟩ := q_291
        subst d_292
        show AW p l e _ s m args below meth c E (M_L_law nmz) true _ n _ _ _ [(3, v0), (2, v1), (2, v2), (0, v3)] [(0, r_286)] C_290
        refine AW.ra_n (dc hdl_2 86 rfl) rfl rfl rfl ?_
        obtain ⟨g_294, h⟩ := h
        refine AW.callV (As := []) (rest := [(0, r_286)]) (ci := 10) (m_G_best l E n C_290 v2 _ h) cb_11_86 im_G_best se_G_best ⟨_, _, rfl⟩ (by decide) (dc hdl_2 87 rfl) g_294 rfl rfl ⟨Nat.le_of_ble_eq_true rfl, Nat.le_of_ble_eq_true rfl⟩ ⟨g_288, g_289⟩ (Nat.le_of_ble_eq_true rfl) (fun _ h => by cases h) (fun _ => rfl) (fun r_293 C_295 d_297 q_296 => ?_)
        obtain ⟨q_296a, h⟩ := q_296
        subst d_297
        show AW p l e _ s m args below meth c E (M_L_law nmz) true _ n _ _ _ [(3, v0), (2, v1), (2, v2), (0, v3)] [(0, r_293), (0, r_286)] C_295
        refine AW.icmp_eq (t := 1698) (dc hdl_2 88 rfl) (by decide) (fun c_298 => ?_) (fun c_298 => ?_)
        · have h := h.1 c_298
          refine AW.iinc [(3, v0), (2, v1), (2, v2), (0, w32 (v3 + 6))] (dc hdl_6 20 rfl) rfl (Nat.le_of_ble_eq_true rfl) rfl rfl ?_
          refine AW.goto (t := 18) (dc hdl_6 21 rfl) (by decide) ?_
          exact hkz18 C_295 n kc ks (w32 (v3 + 6)) h
        · have h := h.2 c_298
          refine AW.iconst (dc hdl_2 89 rfl) (by decide) ?_
          exact AW.zret (dc hdl_2 90 rfl) rfl rfl g_288 g_289 (by decide) h
      | 17, hj =>
        cases hj
        have h := h.2.2.2.2.2.2.2.2.2.2.2.2.2.2.2.2.2.1 (hx.trans (by decide))
        refine AW.ra_n (dc hdl_2 91 rfl) rfl rfl rfl ?_
        refine AW.ra_n (dc hdl_2 92 rfl) rfl rfl rfl ?_
        refine AW.iload_n (dc hdl_2 93 rfl) rfl ?_
        refine AW.iconst (dc hdl_2 94 rfl) (by decide) ?_
        refine AW.iadd (dc hdl_2 95 rfl) ?_
        obtain ⟨g_299, h⟩ := h
        obtain ⟨g_300, h⟩ := h
        refine AW.scr hX (dc hdl_2 96 rfl) g_1 g_299 g_300 ?_
        obtain ⟨g_302, h⟩ := h
        obtain ⟨g_303, h⟩ := h
        obtain ⟨g_304, h⟩ := h
        refine AW.callV (As := [(0, XS (w32 (v3 + 1)).toNat)]) (rest := []) (ci := 9) (m_F_renumber l E n C v1 (XS (w32 (v3 + 1)).toNat) _ h) cb_11_87 im_F_renumber se_F_renumber ⟨_, _, rfl⟩ (by decide) (dc hdl_2 97 rfl) g_302 rfl rfl ⟨Nat.le_of_ble_eq_true rfl, Nat.le_of_ble_eq_true rfl⟩ ⟨g_303, g_304⟩ (Nat.le_of_ble_eq_true rfl) (fun _ h => by cases h) (fun _ => rfl) (fun r_301 C_305 d_307 q_306 => ?_)
        obtain ⟨q_306a, h⟩ := q_306
        subst d_307
        show AW p l e _ s m args below meth c E (M_L_law nmz) true _ n _ _ _ [(3, v0), (2, v1), (2, v2), (0, v3)] [(0, r_301)] C_305
        refine AW.ra_n (dc hdl_2 98 rfl) rfl rfl rfl ?_
        refine AW.ra_n (dc hdl_2 99 rfl) rfl rfl rfl ?_
        refine AW.iload_n (dc hdl_2 100 rfl) rfl ?_
        refine AW.iconst (dc hdl_2 101 rfl) (by decide) ?_
        refine AW.iadd (dc hdl_2 102 rfl) ?_
        refine AW.scr hX (dc hdl_2 103 rfl) g_1 g_299 g_300 ?_
        obtain ⟨g_309, h⟩ := h
        refine AW.callV (As := [(0, XS (w32 (v3 + 1)).toNat)]) (rest := [(0, r_301)]) (ci := 10) (m_G_renumber l E n C_305 v2 (XS (w32 (v3 + 1)).toNat) _ h) cb_11_90 im_G_renumber se_G_renumber ⟨_, _, rfl⟩ (by decide) (dc hdl_2 104 rfl) g_309 rfl rfl ⟨Nat.le_of_ble_eq_true rfl, Nat.le_of_ble_eq_true rfl⟩ ⟨g_303, g_304⟩ (Nat.le_of_ble_eq_true rfl) (fun _ h => by cases h) (fun _ => rfl) (fun r_308 C_310 d_312 q_311 => ?_)
        obtain ⟨q_311a, h⟩ := q_311
        subst d_312
        show AW p l e _ s m args below meth c E (M_L_law nmz) true _ n _ _ _ [(3, v0), (2, v1), (2, v2), (0, v3)] [(0, r_308), (0, r_301)] C_310
        refine AW.icmp_eq (t := 1698) (dc hdl_2 105 rfl) (by decide) (fun c_313 => ?_) (fun c_313 => ?_)
        · have h := h.1 c_313
          refine AW.iinc [(3, v0), (2, v1), (2, v2), (0, w32 (v3 + 6))] (dc hdl_6 20 rfl) rfl (Nat.le_of_ble_eq_true rfl) rfl rfl ?_
          refine AW.goto (t := 18) (dc hdl_6 21 rfl) (by decide) ?_
          exact hkz18 C_310 n kc ks (w32 (v3 + 6)) h
        · have h := h.2 c_313
          refine AW.iconst (dc hdl_2 106 rfl) (by decide) ?_
          exact AW.zret (dc hdl_2 107 rfl) rfl rfl g_303 g_304 (by decide) h
      | 18, hj =>
        cases hj
        have h := h.2.2.2.2.2.2.2.2.2.2.2.2.2.2.2.2.2.2.1 (hx.trans (by decide))
        refine AW.ra_n (dc hdl_2 108 rfl) rfl rfl rfl ?_
        refine AW.ra_n (dc hdl_2 109 rfl) rfl rfl rfl ?_
        refine AW.iload_n (dc hdl_2 110 rfl) rfl ?_
        refine AW.iconst (dc hdl_2 111 rfl) (by decide) ?_
        refine AW.iadd (dc hdl_2 112 rfl) ?_
        obtain ⟨g_314, h⟩ := h
        obtain ⟨g_315, h⟩ := h
        refine AW.scr hX (dc hdl_2 113 rfl) g_1 g_314 g_315 ?_
        refine AW.ra_n (dc hdl_2 114 rfl) rfl rfl rfl ?_
        refine AW.iload_n (dc hdl_2 115 rfl) rfl ?_
        refine AW.iconst (dc hdl_2 116 rfl) (by decide) ?_
        refine AW.iadd (dc hdl_2 117 rfl) ?_
        obtain ⟨g_316, h⟩ := h
        obtain ⟨g_317, h⟩ := h
        refine AW.scr hX (dc hdl_2 118 rfl) g_1 g_316 g_317 ?_
        obtain ⟨g_319, h⟩ := h
        obtain ⟨g_320, h⟩ := h
        obtain ⟨g_321, h⟩ := h
        refine AW.callV (As := [(0, XS (w32 (v3 + 1)).toNat), (0, XS (w32 (v3 + 2)).toNat)]) (rest := []) (ci := 9) (m_F_cost l E n C v1 (XS (w32 (v3 + 1)).toNat) (XS (w32 (v3 + 2)).toNat) _ h) cb_11_91 im_F_cost se_F_cost ⟨_, _, rfl⟩ (by decide) (dc hdl_2 119 rfl) g_319 rfl rfl ⟨Nat.le_of_ble_eq_true rfl, Nat.le_of_ble_eq_true rfl⟩ ⟨g_320, g_321⟩ (Nat.le_of_ble_eq_true rfl) (fun _ h => by cases h) (fun _ => rfl) (fun r_318 C_322 d_324 q_323 => ?_)
        obtain ⟨q_323a, h⟩ := q_323
        subst d_324
        show AW p l e _ s m args below meth c E (M_L_law nmz) true _ n _ _ _ [(3, v0), (2, v1), (2, v2), (0, v3)] [(0, r_318)] C_322
        refine AW.ra_n (dc hdl_2 120 rfl) rfl rfl rfl ?_
        refine AW.ra_n (dc hdl_2 121 rfl) rfl rfl rfl ?_
        refine AW.iload_n (dc hdl_2 122 rfl) rfl ?_
        refine AW.iconst (dc hdl_2 123 rfl) (by decide) ?_
        refine AW.iadd (dc hdl_2 124 rfl) ?_
        refine AW.scr hX (dc hdl_2 125 rfl) g_1 g_314 g_315 ?_
        refine AW.ra_n (dc hdl_2 126 rfl) rfl rfl rfl ?_
        refine AW.iload_n (dc hdl_2 127 rfl) rfl ?_
        refine AW.iconst (dc hdl_2 128 rfl) (by decide) ?_
        refine AW.iadd (dc hdl_2 129 rfl) ?_
        refine AW.scr hX (dc hdl_2 130 rfl) g_1 g_316 g_317 ?_
        obtain ⟨g_326, h⟩ := h
        refine AW.callV (As := [(0, XS (w32 (v3 + 1)).toNat), (0, XS (w32 (v3 + 2)).toNat)]) (rest := [(0, r_318)]) (ci := 10) (m_G_cost l E n C_322 v2 (XS (w32 (v3 + 1)).toNat) (XS (w32 (v3 + 2)).toNat) _ h) cb_11_94 im_G_cost se_G_cost ⟨_, _, rfl⟩ (by decide) (dc hdl_2 131 rfl) g_326 rfl rfl ⟨Nat.le_of_ble_eq_true rfl, Nat.le_of_ble_eq_true rfl⟩ ⟨g_320, g_321⟩ (Nat.le_of_ble_eq_true rfl) (fun _ h => by cases h) (fun _ => rfl) (fun r_325 C_327 d_329 q_328 => ?_)
        obtain ⟨q_328a, h⟩ := q_328
        subst d_329
        show AW p l e _ s m args below meth c E (M_L_law nmz) true _ n _ _ _ [(3, v0), (2, v1), (2, v2), (0, v3)] [(0, r_325), (0, r_318)] C_327
        refine AW.icmp_eq (t := 1698) (dc hdl_2 132 rfl) (by decide) (fun c_330 => ?_) (fun c_330 => ?_)
        · have h := h.1 c_330
          refine AW.iinc [(3, v0), (2, v1), (2, v2), (0, w32 (v3 + 6))] (dc hdl_6 20 rfl) rfl (Nat.le_of_ble_eq_true rfl) rfl rfl ?_
          refine AW.goto (t := 18) (dc hdl_6 21 rfl) (by decide) ?_
          exact hkz18 C_327 n kc ks (w32 (v3 + 6)) h
        · have h := h.2 c_330
          refine AW.iconst (dc hdl_2 133 rfl) (by decide) ?_
          exact AW.zret (dc hdl_2 134 rfl) rfl rfl g_320 g_321 (by decide) h
      | 19, hj =>
        cases hj
        have h := h.2.2.2.2.2.2.2.2.2.2.2.2.2.2.2.2.2.2.2.1 (hx.trans (by decide))
        refine AW.ra_n (dc hdl_2 135 rfl) rfl rfl rfl ?_
        refine AW.ra_n (dc hdl_2 136 rfl) rfl rfl rfl ?_
        refine AW.iload_n (dc hdl_2 137 rfl) rfl ?_
        refine AW.iconst (dc hdl_2 138 rfl) (by decide) ?_
        refine AW.iadd (dc hdl_2 139 rfl) ?_
        obtain ⟨g_331, h⟩ := h
        obtain ⟨g_332, h⟩ := h
        refine AW.scr hX (dc hdl_2 140 rfl) g_1 g_331 g_332 ?_
        refine AW.ra_n (dc hdl_2 141 rfl) rfl rfl rfl ?_
        refine AW.iload_n (dc hdl_2 142 rfl) rfl ?_
        refine AW.iconst (dc hdl_2 143 rfl) (by decide) ?_
        refine AW.iadd (dc hdl_2 144 rfl) ?_
        obtain ⟨g_333, h⟩ := h
        obtain ⟨g_334, h⟩ := h
        refine AW.scr hX (dc hdl_2 145 rfl) g_1 g_333 g_334 ?_
        obtain ⟨g_336, h⟩ := h
        obtain ⟨g_337, h⟩ := h
        obtain ⟨g_338, h⟩ := h
        refine AW.callV (As := [(0, XS (w32 (v3 + 1)).toNat), (0, XS (w32 (v3 + 2)).toNat)]) (rest := []) (ci := 9) (m_F_next l E n C v1 (XS (w32 (v3 + 1)).toNat) (XS (w32 (v3 + 2)).toNat) _ h) cb_11_95 im_F_next se_F_next ⟨_, _, rfl⟩ (by decide) (dc hdl_2 146 rfl) g_336 rfl rfl ⟨Nat.le_of_ble_eq_true rfl, Nat.le_of_ble_eq_true rfl⟩ ⟨g_337, g_338⟩ (Nat.le_of_ble_eq_true rfl) (fun _ h => by cases h) (fun _ => rfl) (fun r_335 C_339 d_341 q_340 => ?_)
        obtain ⟨q_340a, h⟩ := q_340
        subst d_341
        show AW p l e _ s m args below meth c E (M_L_law nmz) true _ n _ _ _ [(3, v0), (2, v1), (2, v2), (0, v3)] [(0, r_335)] C_339
        refine AW.ra_n (dc hdl_2 147 rfl) rfl rfl rfl ?_
        refine AW.ra_n (dc hdl_2 148 rfl) rfl rfl rfl ?_
        refine AW.iload_n (dc hdl_2 149 rfl) rfl ?_
        refine AW.iconst (dc hdl_2 150 rfl) (by decide) ?_
        refine AW.iadd (dc hdl_2 151 rfl) ?_
        refine AW.scr hX (dc hdl_2 152 rfl) g_1 g_331 g_332 ?_
        refine AW.ra_n (dc hdl_2 153 rfl) rfl rfl rfl ?_
        refine AW.iload_n (dc hdl_2 154 rfl) rfl ?_
        refine AW.iconst (dc hdl_2 155 rfl) (by decide) ?_
        refine AW.iadd (dc hdl_2 156 rfl) ?_
        refine AW.scr hX (dc hdl_2 157 rfl) g_1 g_333 g_334 ?_
        obtain ⟨g_343, h⟩ := h
        refine AW.callV (As := [(0, XS (w32 (v3 + 1)).toNat), (0, XS (w32 (v3 + 2)).toNat)]) (rest := [(0, r_335)]) (ci := 10) (m_G_next l E n C_339 v2 (XS (w32 (v3 + 1)).toNat) (XS (w32 (v3 + 2)).toNat) _ h) cb_11_98 im_G_next se_G_next ⟨_, _, rfl⟩ (by decide) (dc hdl_2 158 rfl) g_343 rfl rfl ⟨Nat.le_of_ble_eq_true rfl, Nat.le_of_ble_eq_true rfl⟩ ⟨g_337, g_338⟩ (Nat.le_of_ble_eq_true rfl) (fun _ h => by cases h) (fun _ => rfl) (fun r_342 C_344 d_346 q_345 => ?_)
        obtain ⟨q_345a, h⟩ := q_345
        subst d_346
        show AW p l e _ s m args below meth c E (M_L_law nmz) true _ n _ _ _ [(3, v0), (2, v1), (2, v2), (0, v3)] [(0, r_342), (0, r_335)] C_344
        refine AW.icmp_eq (t := 1698) (dc hdl_2 159 rfl) (by decide) (fun c_347 => ?_) (fun c_347 => ?_)
        · have h := h.1 c_347
          refine AW.iinc [(3, v0), (2, v1), (2, v2), (0, w32 (v3 + 6))] (dc hdl_6 20 rfl) rfl (Nat.le_of_ble_eq_true rfl) rfl rfl ?_
          refine AW.goto (t := 18) (dc hdl_6 21 rfl) (by decide) ?_
          exact hkz18 C_344 n kc ks (w32 (v3 + 6)) h
        · have h := h.2 c_347
          refine AW.iconst (dc hdl_2 160 rfl) (by decide) ?_
          exact AW.zret (dc hdl_2 161 rfl) rfl rfl g_337 g_338 (by decide) h
      | 20, hj =>
        cases hj
        have h := h.2.2.2.2.2.2.2.2.2.2.2.2.2.2.2.2.2.2.2.2.1 (hx.trans (by decide))
        refine AW.ra_n (dc hdl_2 162 rfl) rfl rfl rfl ?_
        refine AW.ra_n (dc hdl_2 163 rfl) rfl rfl rfl ?_
        refine AW.iload_n (dc hdl_2 164 rfl) rfl ?_
        refine AW.iconst (dc hdl_2 165 rfl) (by decide) ?_
        refine AW.iadd (dc hdl_2 166 rfl) ?_
        obtain ⟨g_348, h⟩ := h
        obtain ⟨g_349, h⟩ := h
        refine AW.scr hX (dc hdl_2 167 rfl) g_1 g_348 g_349 ?_
        refine AW.ra_n (dc hdl_2 168 rfl) rfl rfl rfl ?_
        refine AW.iload_n (dc hdl_2 169 rfl) rfl ?_
        refine AW.iconst (dc hdl_2 170 rfl) (by decide) ?_
        refine AW.iadd (dc hdl_2 171 rfl) ?_
        obtain ⟨g_350, h⟩ := h
        obtain ⟨g_351, h⟩ := h
        refine AW.scr hX (dc hdl_2 172 rfl) g_1 g_350 g_351 ?_
        obtain ⟨g_353, h⟩ := h
        obtain ⟨g_354, h⟩ := h
        obtain ⟨g_355, h⟩ := h
        refine AW.callV (As := [(0, XS (w32 (v3 + 1)).toNat), (0, XS (w32 (v3 + 2)).toNat)]) (rest := []) (ci := 9) (m_F_within l E n C v1 (XS (w32 (v3 + 1)).toNat) (XS (w32 (v3 + 2)).toNat) _ h) cb_11_99 im_F_within se_F_within ⟨_, _, rfl⟩ (by decide) (dc hdl_2 173 rfl) g_353 rfl rfl ⟨Nat.le_of_ble_eq_true rfl, Nat.le_of_ble_eq_true rfl⟩ ⟨g_354, g_355⟩ (Nat.le_of_ble_eq_true rfl) (fun _ h => by cases h) (fun _ => rfl) (fun r_352 C_356 d_358 q_357 => ?_)
        obtain ⟨q_357a, h⟩ := q_357
        subst d_358
        show AW p l e _ s m args below meth c E (M_L_law nmz) true _ n _ _ _ [(3, v0), (2, v1), (2, v2), (0, v3)] [(0, r_352)] C_356
        refine AW.ra_n (dc hdl_2 174 rfl) rfl rfl rfl ?_
        refine AW.ra_n (dc hdl_2 175 rfl) rfl rfl rfl ?_
        refine AW.iload_n (dc hdl_2 176 rfl) rfl ?_
        refine AW.iconst (dc hdl_2 177 rfl) (by decide) ?_
        refine AW.iadd (dc hdl_2 178 rfl) ?_
        refine AW.scr hX (dc hdl_2 179 rfl) g_1 g_348 g_349 ?_
        refine AW.ra_n (dc hdl_2 180 rfl) rfl rfl rfl ?_
        refine AW.iload_n (dc hdl_2 181 rfl) rfl ?_
        refine AW.iconst (dc hdl_2 182 rfl) (by decide) ?_
        refine AW.iadd (dc hdl_2 183 rfl) ?_
        refine AW.scr hX (dc hdl_2 184 rfl) g_1 g_350 g_351 ?_
        obtain ⟨g_360, h⟩ := h
        refine AW.callV (As := [(0, XS (w32 (v3 + 1)).toNat), (0, XS (w32 (v3 + 2)).toNat)]) (rest := [(0, r_352)]) (ci := 10) (m_G_within l E n C_356 v2 (XS (w32 (v3 + 1)).toNat) (XS (w32 (v3 + 2)).toNat) _ h) cb_11_102 im_G_within se_G_within ⟨_, _, rfl⟩ (by decide) (dc hdl_2 185 rfl) g_360 rfl rfl ⟨Nat.le_of_ble_eq_true rfl, Nat.le_of_ble_eq_true rfl⟩ ⟨g_354, g_355⟩ (Nat.le_of_ble_eq_true rfl) (fun _ h => by cases h) (fun _ => rfl) (fun r_359 C_361 d_363 q_362 => ?_)
        obtain ⟨q_362a, h⟩ := q_362
        subst d_363
        show AW p l e _ s m args below meth c E (M_L_law nmz) true _ n _ _ _ [(3, v0), (2, v1), (2, v2), (0, v3)] [(0, r_359), (0, r_352)] C_361
        refine AW.icmp_eq (t := 1698) (dc hdl_2 186 rfl) (by decide) (fun c_364 => ?_) (fun c_364 => ?_)
        · have h := h.1 c_364
          refine AW.iinc [(3, v0), (2, v1), (2, v2), (0, w32 (v3 + 6))] (dc hdl_6 20 rfl) rfl (Nat.le_of_ble_eq_true rfl) rfl rfl ?_
          refine AW.goto (t := 18) (dc hdl_6 21 rfl) (by decide) ?_
          exact hkz18 C_361 n kc ks (w32 (v3 + 6)) h
        · have h := h.2 c_364
          refine AW.iconst (dc hdl_2 187 rfl) (by decide) ?_
          exact AW.zret (dc hdl_2 188 rfl) rfl rfl g_354 g_355 (by decide) h
      | 21, hj =>
        cases hj
        have h := h.2.2.2.2.2.2.2.2.2.2.2.2.2.2.2.2.2.2.2.2.2.1 (hx.trans (by decide))
        refine AW.ra_n (dc hdl_2 189 rfl) rfl rfl rfl ?_
        refine AW.ra_n (dc hdl_2 190 rfl) rfl rfl rfl ?_
        refine AW.iload_n (dc hdl_2 191 rfl) rfl ?_
        refine AW.iconst (dc hdl_2 192 rfl) (by decide) ?_
        refine AW.iadd (dc hdl_2 193 rfl) ?_
        obtain ⟨g_365, h⟩ := h
        obtain ⟨g_366, h⟩ := h
        refine AW.scr hX (dc hdl_2 194 rfl) g_1 g_365 g_366 ?_
        refine AW.ra_n (dc hdl_2 195 rfl) rfl rfl rfl ?_
        refine AW.iload_n (dc hdl_2 196 rfl) rfl ?_
        refine AW.iconst (dc hdl_2 197 rfl) (by decide) ?_
        refine AW.iadd (dc hdl_2 198 rfl) ?_
        obtain ⟨g_367, h⟩ := h
        obtain ⟨g_368, h⟩ := h
        refine AW.scr hX (dc hdl_2 199 rfl) g_1 g_367 g_368 ?_
        refine AW.ra_n (dc hdl_3 0 rfl) rfl rfl rfl ?_
        refine AW.iload_n (dc hdl_3 1 rfl) rfl ?_
        refine AW.iconst (dc hdl_3 2 rfl) (by decide) ?_
        refine AW.iadd (dc hdl_3 3 rfl) ?_
        obtain ⟨g_369, h⟩ := h
        obtain ⟨g_370, h⟩ := h
        refine AW.scr hX (dc hdl_3 4 rfl) g_1 g_369 g_370 ?_
        refine AW.ra_n (dc hdl_3 5 rfl) rfl rfl rfl ?_
        refine AW.iload_n (dc hdl_3 6 rfl) rfl ?_
        refine AW.iconst (dc hdl_3 7 rfl) (by decide) ?_
        refine AW.iadd (dc hdl_3 8 rfl) ?_
        obtain ⟨g_371, h⟩ := h
        obtain ⟨g_372, h⟩ := h
        refine AW.scr hX (dc hdl_3 9 rfl) g_1 g_371 g_372 ?_
        obtain ⟨g_374, h⟩ := h
        obtain ⟨g_375, h⟩ := h
        obtain ⟨g_376, h⟩ := h
        refine AW.callV (As := [(0, XS (w32 (v3 + 1)).toNat), (0, XS (w32 (v3 + 2)).toNat), (0, XS (w32 (v3 + 3)).toNat), (0, XS (w32 (v3 + 4)).toNat)]) (rest := []) (ci := 9) (m_F_lose l E n C v1 (XS (w32 (v3 + 1)).toNat) (XS (w32 (v3 + 2)).toNat) (XS (w32 (v3 + 3)).toNat) (XS (w32 (v3 + 4)).toNat) _ h) cb_11_103 im_F_lose se_F_lose ⟨_, _, rfl⟩ (by decide) (dc hdl_3 10 rfl) g_374 rfl rfl ⟨Nat.le_of_ble_eq_true rfl, Nat.le_of_ble_eq_true rfl⟩ ⟨g_375, g_376⟩ (Nat.le_of_ble_eq_true rfl) (fun _ h => by cases h) (fun _ => rfl) (fun r_373 C_377 d_379 q_378 => ?_)
        obtain ⟨q_378a, h⟩ := q_378
        subst d_379
        show AW p l e _ s m args below meth c E (M_L_law nmz) true _ n _ _ _ [(3, v0), (2, v1), (2, v2), (0, v3)] [(0, r_373)] C_377
        refine AW.ra_n (dc hdl_3 11 rfl) rfl rfl rfl ?_
        refine AW.ra_n (dc hdl_3 12 rfl) rfl rfl rfl ?_
        refine AW.iload_n (dc hdl_3 13 rfl) rfl ?_
        refine AW.iconst (dc hdl_3 14 rfl) (by decide) ?_
        refine AW.iadd (dc hdl_3 15 rfl) ?_
        refine AW.scr hX (dc hdl_3 16 rfl) g_1 g_365 g_366 ?_
        refine AW.ra_n (dc hdl_3 17 rfl) rfl rfl rfl ?_
        refine AW.iload_n (dc hdl_3 18 rfl) rfl ?_
        refine AW.iconst (dc hdl_3 19 rfl) (by decide) ?_
        refine AW.iadd (dc hdl_3 20 rfl) ?_
        refine AW.scr hX (dc hdl_3 21 rfl) g_1 g_367 g_368 ?_
        refine AW.ra_n (dc hdl_3 22 rfl) rfl rfl rfl ?_
        refine AW.iload_n (dc hdl_3 23 rfl) rfl ?_
        refine AW.iconst (dc hdl_3 24 rfl) (by decide) ?_
        refine AW.iadd (dc hdl_3 25 rfl) ?_
        refine AW.scr hX (dc hdl_3 26 rfl) g_1 g_369 g_370 ?_
        refine AW.ra_n (dc hdl_3 27 rfl) rfl rfl rfl ?_
        refine AW.iload_n (dc hdl_3 28 rfl) rfl ?_
        refine AW.iconst (dc hdl_3 29 rfl) (by decide) ?_
        refine AW.iadd (dc hdl_3 30 rfl) ?_
        refine AW.scr hX (dc hdl_3 31 rfl) g_1 g_371 g_372 ?_
        obtain ⟨g_381, h⟩ := h
        refine AW.callV (As := [(0, XS (w32 (v3 + 1)).toNat), (0, XS (w32 (v3 + 2)).toNat), (0, XS (w32 (v3 + 3)).toNat), (0, XS (w32 (v3 + 4)).toNat)]) (rest := [(0, r_373)]) (ci := 10) (m_G_lose l E n C_377 v2 (XS (w32 (v3 + 1)).toNat) (XS (w32 (v3 + 2)).toNat) (XS (w32 (v3 + 3)).toNat) (XS (w32 (v3 + 4)).toNat) _ h) cb_11_106 im_G_lose se_G_lose ⟨_, _, rfl⟩ (by decide) (dc hdl_3 32 rfl) g_381 rfl rfl ⟨Nat.le_of_ble_eq_true rfl, Nat.le_of_ble_eq_true rfl⟩ ⟨g_375, g_376⟩ (Nat.le_of_ble_eq_true rfl) (fun _ h => by cases h) (fun _ => rfl) (fun r_380 C_382 d_384 q_383 => ?_)
        obtain ⟨q_383a, h⟩ := q_383
        subst d_384
        show AW p l e _ s m args below meth c E (M_L_law nmz) true _ n _ _ _ [(3, v0), (2, v1), (2, v2), (0, v3)] [(0, r_380), (0, r_373)] C_382
        refine AW.icmp_eq (t := 1698) (dc hdl_3 33 rfl) (by decide) (fun c_385 => ?_) (fun c_385 => ?_)
        · have h := h.1 c_385
          refine AW.iinc [(3, v0), (2, v1), (2, v2), (0, w32 (v3 + 6))] (dc hdl_6 20 rfl) rfl (Nat.le_of_ble_eq_true rfl) rfl rfl ?_
          refine AW.goto (t := 18) (dc hdl_6 21 rfl) (by decide) ?_
          exact hkz18 C_382 n kc ks (w32 (v3 + 6)) h
        · have h := h.2 c_385
          refine AW.iconst (dc hdl_3 34 rfl) (by decide) ?_
          exact AW.zret (dc hdl_3 35 rfl) rfl rfl g_375 g_376 (by decide) h
      | 22, hj =>
        cases hj
        have h := h.2.2.2.2.2.2.2.2.2.2.2.2.2.2.2.2.2.2.2.2.2.2.1 (hx.trans (by decide))
        refine AW.ra_n (dc hdl_3 36 rfl) rfl rfl rfl ?_
        refine AW.ra_n (dc hdl_3 37 rfl) rfl rfl rfl ?_
        refine AW.iload_n (dc hdl_3 38 rfl) rfl ?_
        refine AW.iconst (dc hdl_3 39 rfl) (by decide) ?_
        refine AW.iadd (dc hdl_3 40 rfl) ?_
        obtain ⟨g_386, h⟩ := h
        obtain ⟨g_387, h⟩ := h
        refine AW.scr hX (dc hdl_3 41 rfl) g_1 g_386 g_387 ?_
        refine AW.ra_n (dc hdl_3 42 rfl) rfl rfl rfl ?_
        refine AW.iload_n (dc hdl_3 43 rfl) rfl ?_
        refine AW.iconst (dc hdl_3 44 rfl) (by decide) ?_
        refine AW.iadd (dc hdl_3 45 rfl) ?_
        obtain ⟨g_388, h⟩ := h
        obtain ⟨g_389, h⟩ := h
        refine AW.scr hX (dc hdl_3 46 rfl) g_1 g_388 g_389 ?_
        refine AW.ra_n (dc hdl_3 47 rfl) rfl rfl rfl ?_
        refine AW.iload_n (dc hdl_3 48 rfl) rfl ?_
        refine AW.iconst (dc hdl_3 49 rfl) (by decide) ?_
        refine AW.iadd (dc hdl_3 50 rfl) ?_
        obtain ⟨g_390, h⟩ := h
        obtain ⟨g_391, h⟩ := h
        refine AW.scr hX (dc hdl_3 51 rfl) g_1 g_390 g_391 ?_
        refine AW.ra_n (dc hdl_3 52 rfl) rfl rfl rfl ?_
        refine AW.iload_n (dc hdl_3 53 rfl) rfl ?_
        refine AW.iconst (dc hdl_3 54 rfl) (by decide) ?_
        refine AW.iadd (dc hdl_3 55 rfl) ?_
        obtain ⟨g_392, h⟩ := h
        obtain ⟨g_393, h⟩ := h
        refine AW.scr hX (dc hdl_3 56 rfl) g_1 g_392 g_393 ?_
        refine AW.ra_n (dc hdl_3 57 rfl) rfl rfl rfl ?_
        refine AW.iload_n (dc hdl_3 58 rfl) rfl ?_
        refine AW.iconst (dc hdl_3 59 rfl) (by decide) ?_
        refine AW.iadd (dc hdl_3 60 rfl) ?_
        obtain ⟨g_394, h⟩ := h
        obtain ⟨g_395, h⟩ := h
        refine AW.scr hX (dc hdl_3 61 rfl) g_1 g_394 g_395 ?_
        obtain ⟨g_397, h⟩ := h
        obtain ⟨g_398, h⟩ := h
        obtain ⟨g_399, h⟩ := h
        refine AW.callV (As := [(0, XS (w32 (v3 + 1)).toNat), (0, XS (w32 (v3 + 2)).toNat), (0, XS (w32 (v3 + 3)).toNat), (0, XS (w32 (v3 + 4)).toNat), (0, XS (w32 (v3 + 5)).toNat)]) (rest := []) (ci := 9) (m_F_kindFor l E n C v1 (XS (w32 (v3 + 1)).toNat) (XS (w32 (v3 + 2)).toNat) (XS (w32 (v3 + 3)).toNat) (XS (w32 (v3 + 4)).toNat) (XS (w32 (v3 + 5)).toNat) _ h) cb_11_107 im_F_kindFor se_F_kindFor ⟨_, _, rfl⟩ (by decide) (dc hdl_3 62 rfl) g_397 rfl rfl ⟨Nat.le_of_ble_eq_true rfl, Nat.le_of_ble_eq_true rfl⟩ ⟨g_398, g_399⟩ (Nat.le_of_ble_eq_true rfl) (fun _ h => by cases h) (fun _ => rfl) (fun r_396 C_400 d_402 q_401 => ?_)
        obtain ⟨q_401a, h⟩ := q_401
        subst d_402
        show AW p l e _ s m args below meth c E (M_L_law nmz) true _ n _ _ _ [(3, v0), (2, v1), (2, v2), (0, v3)] [(0, r_396)] C_400
        refine AW.ra_n (dc hdl_3 63 rfl) rfl rfl rfl ?_
        refine AW.ra_n (dc hdl_3 64 rfl) rfl rfl rfl ?_
        refine AW.iload_n (dc hdl_3 65 rfl) rfl ?_
        refine AW.iconst (dc hdl_3 66 rfl) (by decide) ?_
        refine AW.iadd (dc hdl_3 67 rfl) ?_
        refine AW.scr hX (dc hdl_3 68 rfl) g_1 g_386 g_387 ?_
        refine AW.ra_n (dc hdl_3 69 rfl) rfl rfl rfl ?_
        refine AW.iload_n (dc hdl_3 70 rfl) rfl ?_
        refine AW.iconst (dc hdl_3 71 rfl) (by decide) ?_
        refine AW.iadd (dc hdl_3 72 rfl) ?_
        refine AW.scr hX (dc hdl_3 73 rfl) g_1 g_388 g_389 ?_
        refine AW.ra_n (dc hdl_3 74 rfl) rfl rfl rfl ?_
        refine AW.iload_n (dc hdl_3 75 rfl) rfl ?_
        refine AW.iconst (dc hdl_3 76 rfl) (by decide) ?_
        refine AW.iadd (dc hdl_3 77 rfl) ?_
        refine AW.scr hX (dc hdl_3 78 rfl) g_1 g_390 g_391 ?_
        refine AW.ra_n (dc hdl_3 79 rfl) rfl rfl rfl ?_
        refine AW.iload_n (dc hdl_3 80 rfl) rfl ?_
        refine AW.iconst (dc hdl_3 81 rfl) (by decide) ?_
        refine AW.iadd (dc hdl_3 82 rfl) ?_
        refine AW.scr hX (dc hdl_3 83 rfl) g_1 g_392 g_393 ?_
        refine AW.ra_n (dc hdl_3 84 rfl) rfl rfl rfl ?_
        refine AW.iload_n (dc hdl_3 85 rfl) rfl ?_
        refine AW.iconst (dc hdl_3 86 rfl) (by decide) ?_
        refine AW.iadd (dc hdl_3 87 rfl) ?_
        refine AW.scr hX (dc hdl_3 88 rfl) g_1 g_394 g_395 ?_
        obtain ⟨g_404, h⟩ := h
        refine AW.callV (As := [(0, XS (w32 (v3 + 1)).toNat), (0, XS (w32 (v3 + 2)).toNat), (0, XS (w32 (v3 + 3)).toNat), (0, XS (w32 (v3 + 4)).toNat), (0, XS (w32 (v3 + 5)).toNat)]) (rest := [(0, r_396)]) (ci := 10) (m_G_kindFor l E n C_400 v2 (XS (w32 (v3 + 1)).toNat) (XS (w32 (v3 + 2)).toNat) (XS (w32 (v3 + 3)).toNat) (XS (w32 (v3 + 4)).toNat) (XS (w32 (v3 + 5)).toNat) _ h) cb_11_110 im_G_kindFor se_G_kindFor ⟨_, _, rfl⟩ (by decide) (dc hdl_3 89 rfl) g_404 rfl rfl ⟨Nat.le_of_ble_eq_true rfl, Nat.le_of_ble_eq_true rfl⟩ ⟨g_398, g_399⟩ (Nat.le_of_ble_eq_true rfl) (fun _ h => by cases h) (fun _ => rfl) (fun r_403 C_405 d_407 q_406 => ?_)
        obtain ⟨q_406a, h⟩ := q_406
        subst d_407
        show AW p l e _ s m args below meth c E (M_L_law nmz) true _ n _ _ _ [(3, v0), (2, v1), (2, v2), (0, v3)] [(0, r_403), (0, r_396)] C_405
        refine AW.icmp_eq (t := 1698) (dc hdl_3 90 rfl) (by decide) (fun c_408 => ?_) (fun c_408 => ?_)
        · have h := h.1 c_408
          refine AW.iinc [(3, v0), (2, v1), (2, v2), (0, w32 (v3 + 6))] (dc hdl_6 20 rfl) rfl (Nat.le_of_ble_eq_true rfl) rfl rfl ?_
          refine AW.goto (t := 18) (dc hdl_6 21 rfl) (by decide) ?_
          exact hkz18 C_405 n kc ks (w32 (v3 + 6)) h
        · have h := h.2 c_408
          refine AW.iconst (dc hdl_3 91 rfl) (by decide) ?_
          exact AW.zret (dc hdl_3 92 rfl) rfl rfl g_398 g_399 (by decide) h
      | 23, hj =>
        cases hj
        have h := h.2.2.2.2.2.2.2.2.2.2.2.2.2.2.2.2.2.2.2.2.2.2.2.1 (hx.trans (by decide))
        refine AW.ra_n (dc hdl_3 93 rfl) rfl rfl rfl ?_
        refine AW.ra_n (dc hdl_3 94 rfl) rfl rfl rfl ?_
        refine AW.iload_n (dc hdl_3 95 rfl) rfl ?_
        refine AW.iconst (dc hdl_3 96 rfl) (by decide) ?_
        refine AW.iadd (dc hdl_3 97 rfl) ?_
        obtain ⟨g_409, h⟩ := h
        obtain ⟨g_410, h⟩ := h
        refine AW.scr hX (dc hdl_3 98 rfl) g_1 g_409 g_410 ?_
        refine AW.ra_n (dc hdl_3 99 rfl) rfl rfl rfl ?_
        refine AW.iload_n (dc hdl_3 100 rfl) rfl ?_
        refine AW.iconst (dc hdl_3 101 rfl) (by decide) ?_
        refine AW.iadd (dc hdl_3 102 rfl) ?_
        obtain ⟨g_411, h⟩ := h
        obtain ⟨g_412, h⟩ := h
        refine AW.scr hX (dc hdl_3 103 rfl) g_1 g_411 g_412 ?_
        obtain ⟨g_414, h⟩ := h
        obtain ⟨g_415, h⟩ := h
        obtain ⟨g_416, h⟩ := h
        refine AW.callV (As := [(0, XS (w32 (v3 + 1)).toNat), (0, XS (w32 (v3 + 2)).toNat)]) (rest := []) (ci := 9) (m_F_asks l E n C v1 (XS (w32 (v3 + 1)).toNat) (XS (w32 (v3 + 2)).toNat) _ h) cb_11_111 im_F_asks se_F_asks ⟨_, _, rfl⟩ (by decide) (dc hdl_3 104 rfl) g_414 rfl rfl ⟨Nat.le_of_ble_eq_true rfl, Nat.le_of_ble_eq_true rfl⟩ ⟨g_415, g_416⟩ (Nat.le_of_ble_eq_true rfl) (fun _ h => by cases h) (fun _ => rfl) (fun r_413 C_417 d_419 q_418 => ?_)
        obtain ⟨q_418a, h⟩ := q_418
        subst d_419
        show AW p l e _ s m args below meth c E (M_L_law nmz) true _ n _ _ _ [(3, v0), (2, v1), (2, v2), (0, v3)] [(0, r_413)] C_417
        refine AW.ra_n (dc hdl_3 105 rfl) rfl rfl rfl ?_
        refine AW.ra_n (dc hdl_3 106 rfl) rfl rfl rfl ?_
        refine AW.iload_n (dc hdl_3 107 rfl) rfl ?_
        refine AW.iconst (dc hdl_3 108 rfl) (by decide) ?_
        refine AW.iadd (dc hdl_3 109 rfl) ?_
        refine AW.scr hX (dc hdl_3 110 rfl) g_1 g_409 g_410 ?_
        refine AW.ra_n (dc hdl_3 111 rfl) rfl rfl rfl ?_
        refine AW.iload_n (dc hdl_3 112 rfl) rfl ?_
        refine AW.iconst (dc hdl_3 113 rfl) (by decide) ?_
        refine AW.iadd (dc hdl_3 114 rfl) ?_
        refine AW.scr hX (dc hdl_3 115 rfl) g_1 g_411 g_412 ?_
        obtain ⟨g_421, h⟩ := h
        refine AW.callV (As := [(0, XS (w32 (v3 + 1)).toNat), (0, XS (w32 (v3 + 2)).toNat)]) (rest := [(0, r_413)]) (ci := 10) (m_G_asks l E n C_417 v2 (XS (w32 (v3 + 1)).toNat) (XS (w32 (v3 + 2)).toNat) _ h) cb_11_114 im_G_asks se_G_asks ⟨_, _, rfl⟩ (by decide) (dc hdl_3 116 rfl) g_421 rfl rfl ⟨Nat.le_of_ble_eq_true rfl, Nat.le_of_ble_eq_true rfl⟩ ⟨g_415, g_416⟩ (Nat.le_of_ble_eq_true rfl) (fun _ h => by cases h) (fun _ => rfl) (fun r_420 C_422 d_424 q_423 => ?_)
        obtain ⟨q_423a, h⟩ := q_423
        subst d_424
        show AW p l e _ s m args below meth c E (M_L_law nmz) true _ n _ _ _ [(3, v0), (2, v1), (2, v2), (0, v3)] [(0, r_420), (0, r_413)] C_422
        refine AW.icmp_eq (t := 1698) (dc hdl_3 117 rfl) (by decide) (fun c_425 => ?_) (fun c_425 => ?_)
        · have h := h.1 c_425
          refine AW.iinc [(3, v0), (2, v1), (2, v2), (0, w32 (v3 + 6))] (dc hdl_6 20 rfl) rfl (Nat.le_of_ble_eq_true rfl) rfl rfl ?_
          refine AW.goto (t := 18) (dc hdl_6 21 rfl) (by decide) ?_
          exact hkz18 C_422 n kc ks (w32 (v3 + 6)) h
        · have h := h.2 c_425
          refine AW.iconst (dc hdl_3 118 rfl) (by decide) ?_
          exact AW.zret (dc hdl_3 119 rfl) rfl rfl g_415 g_416 (by decide) h
      | 24, hj =>
        cases hj
        have h := h.2.2.2.2.2.2.2.2.2.2.2.2.2.2.2.2.2.2.2.2.2.2.2.2.1 (hx.trans (by decide))
        refine AW.ra_n (dc hdl_3 120 rfl) rfl rfl rfl ?_
        refine AW.ra_n (dc hdl_3 121 rfl) rfl rfl rfl ?_
        refine AW.iload_n (dc hdl_3 122 rfl) rfl ?_
        refine AW.iconst (dc hdl_3 123 rfl) (by decide) ?_
        refine AW.iadd (dc hdl_3 124 rfl) ?_
        obtain ⟨g_426, h⟩ := h
        obtain ⟨g_427, h⟩ := h
        refine AW.scr hX (dc hdl_3 125 rfl) g_1 g_426 g_427 ?_
        obtain ⟨g_429, h⟩ := h
        obtain ⟨g_430, h⟩ := h
        obtain ⟨g_431, h⟩ := h
        refine AW.callV (As := [(0, XS (w32 (v3 + 1)).toNat)]) (rest := []) (ci := 9) (m_F_loose l E n C v1 (XS (w32 (v3 + 1)).toNat) _ h) cb_11_115 im_F_loose se_F_loose ⟨_, _, rfl⟩ (by decide) (dc hdl_3 126 rfl) g_429 rfl rfl ⟨Nat.le_of_ble_eq_true rfl, Nat.le_of_ble_eq_true rfl⟩ ⟨g_430, g_431⟩ (Nat.le_of_ble_eq_true rfl) (fun _ h => by cases h) (fun _ => rfl) (fun r_428 C_432 d_434 q_433 => ?_)
        obtain ⟨q_433a, h⟩ := q_433
        subst d_434
        show AW p l e _ s m args below meth c E (M_L_law nmz) true _ n _ _ _ [(3, v0), (2, v1), (2, v2), (0, v3)] [(0, r_428)] C_432
        refine AW.ra_n (dc hdl_3 127 rfl) rfl rfl rfl ?_
        refine AW.ra_n (dc hdl_3 128 rfl) rfl rfl rfl ?_
        refine AW.iload_n (dc hdl_3 129 rfl) rfl ?_
        refine AW.iconst (dc hdl_3 130 rfl) (by decide) ?_
        refine AW.iadd (dc hdl_3 131 rfl) ?_
        refine AW.scr hX (dc hdl_3 132 rfl) g_1 g_426 g_427 ?_
        obtain ⟨g_436, h⟩ := h
        refine AW.callV (As := [(0, XS (w32 (v3 + 1)).toNat)]) (rest := [(0, r_428)]) (ci := 10) (m_G_loose l E n C_432 v2 (XS (w32 (v3 + 1)).toNat) _ h) cb_11_118 im_G_loose se_G_loose ⟨_, _, rfl⟩ (by decide) (dc hdl_3 133 rfl) g_436 rfl rfl ⟨Nat.le_of_ble_eq_true rfl, Nat.le_of_ble_eq_true rfl⟩ ⟨g_430, g_431⟩ (Nat.le_of_ble_eq_true rfl) (fun _ h => by cases h) (fun _ => rfl) (fun r_435 C_437 d_439 q_438 => ?_)
        obtain ⟨q_438a, h⟩ := q_438
        subst d_439
        show AW p l e _ s m args below meth c E (M_L_law nmz) true _ n _ _ _ [(3, v0), (2, v1), (2, v2), (0, v3)] [(0, r_435), (0, r_428)] C_437
        refine AW.icmp_eq (t := 1698) (dc hdl_3 134 rfl) (by decide) (fun c_440 => ?_) (fun c_440 => ?_)
        · have h := h.1 c_440
          refine AW.iinc [(3, v0), (2, v1), (2, v2), (0, w32 (v3 + 6))] (dc hdl_6 20 rfl) rfl (Nat.le_of_ble_eq_true rfl) rfl rfl ?_
          refine AW.goto (t := 18) (dc hdl_6 21 rfl) (by decide) ?_
          exact hkz18 C_437 n kc ks (w32 (v3 + 6)) h
        · have h := h.2 c_440
          refine AW.iconst (dc hdl_3 135 rfl) (by decide) ?_
          exact AW.zret (dc hdl_3 136 rfl) rfl rfl g_430 g_431 (by decide) h
      | 25, hj =>
        cases hj
        have h := h.2.2.2.2.2.2.2.2.2.2.2.2.2.2.2.2.2.2.2.2.2.2.2.2.2.1 (hx.trans (by decide))
        refine AW.ra_n (dc hdl_3 137 rfl) rfl rfl rfl ?_
        refine AW.ra_n (dc hdl_3 138 rfl) rfl rfl rfl ?_
        refine AW.iload_n (dc hdl_3 139 rfl) rfl ?_
        refine AW.iconst (dc hdl_3 140 rfl) (by decide) ?_
        refine AW.iadd (dc hdl_3 141 rfl) ?_
        obtain ⟨g_441, h⟩ := h
        obtain ⟨g_442, h⟩ := h
        refine AW.scr hX (dc hdl_3 142 rfl) g_1 g_441 g_442 ?_
        refine AW.ra_n (dc hdl_3 143 rfl) rfl rfl rfl ?_
        refine AW.iload_n (dc hdl_3 144 rfl) rfl ?_
        refine AW.iconst (dc hdl_3 145 rfl) (by decide) ?_
        refine AW.iadd (dc hdl_3 146 rfl) ?_
        obtain ⟨g_443, h⟩ := h
        obtain ⟨g_444, h⟩ := h
        refine AW.scr hX (dc hdl_3 147 rfl) g_1 g_443 g_444 ?_
        refine AW.i2l (dc hdl_3 148 rfl) ?_
        refine AW.bipush (dc hdl_3 149 rfl) (by decide) (by decide +kernel) ?_
        refine AW.lshl (dc hdl_3 150 rfl) ?_
        refine AW.ra_n (dc hdl_3 151 rfl) rfl rfl rfl ?_
        refine AW.iload_n (dc hdl_3 152 rfl) rfl ?_
        refine AW.iconst (dc hdl_3 153 rfl) (by decide) ?_
        refine AW.iadd (dc hdl_3 154 rfl) ?_
        obtain ⟨g_445, h⟩ := h
        obtain ⟨g_446, h⟩ := h
        refine AW.scr hX (dc hdl_3 155 rfl) g_1 g_445 g_446 ?_
        refine AW.i2l (dc hdl_3 156 rfl) ?_
        refine AW.ldc2 (v := 4294967295) (dc hdl_3 157 rfl) ck_11_119 (by decide) rfl ?_
        refine AW.land (dc hdl_3 158 rfl) ?_
        refine AW.lor (dc hdl_3 159 rfl) ?_
        obtain ⟨g_448, h⟩ := h
        obtain ⟨g_449, h⟩ := h
        obtain ⟨g_450, h⟩ := h
        refine AW.callV (As := [(0, XS (w32 (v3 + 1)).toNat), (1, or64 (shl64 (XS (w32 (v3 + 2)).toNat) 32) (and64 (XS (w32 (v3 + 3)).toNat) 4294967295))]) (rest := []) (ci := 9) (m_F_book l E n C v1 (XS (w32 (v3 + 1)).toNat) (or64 (shl64 (XS (w32 (v3 + 2)).toNat) 32) (and64 (XS (w32 (v3 + 3)).toNat) 4294967295)) _ h) cb_11_121 im_F_book se_F_book ⟨_, _, rfl⟩ (by decide) (dc hdl_3 160 rfl) g_448 rfl rfl ⟨Nat.le_of_ble_eq_true rfl, Nat.le_of_ble_eq_true rfl⟩ ⟨g_449, g_450⟩ (Nat.le_of_ble_eq_true rfl) (fun _ h => by cases h) (fun _ => rfl) (fun r_447 C_451 d_453 q_452 => ?_)
        obtain ⟨q_452a, h⟩ := q_452
        subst d_453
        show AW p l e _ s m args below meth c E (M_L_law nmz) true _ n _ _ _ [(3, v0), (2, v1), (2, v2), (0, v3)] [(1, r_447)] C_451
        refine AW.ra_n (dc hdl_3 161 rfl) rfl rfl rfl ?_
        refine AW.ra_n (dc hdl_3 162 rfl) rfl rfl rfl ?_
        refine AW.iload_n (dc hdl_3 163 rfl) rfl ?_
        refine AW.iconst (dc hdl_3 164 rfl) (by decide) ?_
        refine AW.iadd (dc hdl_3 165 rfl) ?_
        refine AW.scr hX (dc hdl_3 166 rfl) g_1 g_441 g_442 ?_
        refine AW.ra_n (dc hdl_3 167 rfl) rfl rfl rfl ?_
        refine AW.iload_n (dc hdl_3 168 rfl) rfl ?_
        refine AW.iconst (dc hdl_3 169 rfl) (by decide) ?_
        refine AW.iadd (dc hdl_3 170 rfl) ?_
        refine AW.scr hX (dc hdl_3 171 rfl) g_1 g_443 g_444 ?_
        refine AW.i2l (dc hdl_3 172 rfl) ?_
        refine AW.bipush (dc hdl_3 173 rfl) (by decide) (by decide +kernel) ?_
        refine AW.lshl (dc hdl_3 174 rfl) ?_
        refine AW.ra_n (dc hdl_3 175 rfl) rfl rfl rfl ?_
        refine AW.iload_n (dc hdl_3 176 rfl) rfl ?_
        refine AW.iconst (dc hdl_3 177 rfl) (by decide) ?_
        refine AW.iadd (dc hdl_3 178 rfl) ?_
        refine AW.scr hX (dc hdl_3 179 rfl) g_1 g_445 g_446 ?_
        refine AW.i2l (dc hdl_3 180 rfl) ?_
        refine AW.ldc2 (v := 4294967295) (dc hdl_3 181 rfl) ck_11_119 (by decide) rfl ?_
        refine AW.land (dc hdl_3 182 rfl) ?_
        refine AW.lor (dc hdl_3 183 rfl) ?_
        obtain ⟨g_455, h⟩ := h
        refine AW.callV (As := [(0, XS (w32 (v3 + 1)).toNat), (1, or64 (shl64 (XS (w32 (v3 + 2)).toNat) 32) (and64 (XS (w32 (v3 + 3)).toNat) 4294967295))]) (rest := [(1, r_447)]) (ci := 10) (m_G_book l E n C_451 v2 (XS (w32 (v3 + 1)).toNat) (or64 (shl64 (XS (w32 (v3 + 2)).toNat) 32) (and64 (XS (w32 (v3 + 3)).toNat) 4294967295)) _ h) cb_11_125 im_G_book se_G_book ⟨_, _, rfl⟩ (by decide) (dc hdl_3 184 rfl) g_455 rfl rfl ⟨Nat.le_of_ble_eq_true rfl, Nat.le_of_ble_eq_true rfl⟩ ⟨g_449, g_450⟩ (Nat.le_of_ble_eq_true rfl) (fun _ h => by cases h) (fun _ => rfl) (fun r_454 C_456 d_458 q_457 => ?_)
        obtain ⟨q_457a, h⟩ := q_457
        subst d_458
        show AW p l e _ s m args below meth c E (M_L_law nmz) true _ n _ _ _ [(3, v0), (2, v1), (2, v2), (0, v3)] [(1, r_454), (1, r_447)] C_456
        refine AW.lc (dc hdl_3 185 rfl) ?_
        refine AW.if_eq (t := 1698) (dc hdl_3 186 rfl) (by decide) (fun c_459 => ?_) (fun c_459 => ?_)
        · replace c_459 := (lc_eq _ _).mp c_459
          have h := h.1 c_459
          refine AW.iinc [(3, v0), (2, v1), (2, v2), (0, w32 (v3 + 6))] (dc hdl_6 20 rfl) rfl (Nat.le_of_ble_eq_true rfl) rfl rfl ?_
          refine AW.goto (t := 18) (dc hdl_6 21 rfl) (by decide) ?_
          exact hkz18 C_456 n kc ks (w32 (v3 + 6)) h
        · replace c_459 : ¬ r_447 = r_454 := fun q => c_459 ((lc_eq _ _).mpr q)
          have h := h.2 c_459
          refine AW.iconst (dc hdl_3 187 rfl) (by decide) ?_
          exact AW.zret (dc hdl_3 188 rfl) rfl rfl g_449 g_450 (by decide) h
      | 26, hj =>
        cases hj
        have h := h.2.2.2.2.2.2.2.2.2.2.2.2.2.2.2.2.2.2.2.2.2.2.2.2.2.2.1 (hx.trans (by decide))
        refine AW.ra_n (dc hdl_3 189 rfl) rfl rfl rfl ?_
        refine AW.ra_n (dc hdl_3 190 rfl) rfl rfl rfl ?_
        refine AW.iload_n (dc hdl_3 191 rfl) rfl ?_
        refine AW.iconst (dc hdl_3 192 rfl) (by decide) ?_
        refine AW.iadd (dc hdl_3 193 rfl) ?_
        obtain ⟨g_460, h⟩ := h
        obtain ⟨g_461, h⟩ := h
        refine AW.scr hX (dc hdl_3 194 rfl) g_1 g_460 g_461 ?_
        obtain ⟨g_463, h⟩ := h
        obtain ⟨g_464, h⟩ := h
        obtain ⟨g_465, h⟩ := h
        refine AW.callV (As := [(0, XS (w32 (v3 + 1)).toNat)]) (rest := []) (ci := 9) (m_F_seed l E n C v1 (XS (w32 (v3 + 1)).toNat) _ h) cb_11_126 im_F_seed se_F_seed ⟨_, _, rfl⟩ (by decide) (dc hdl_3 195 rfl) g_463 rfl rfl ⟨Nat.le_of_ble_eq_true rfl, Nat.le_of_ble_eq_true rfl⟩ ⟨g_464, g_465⟩ (Nat.le_of_ble_eq_true rfl) (fun _ h => by cases h) (fun _ => rfl) (fun r_462 C_466 d_468 q_467 => ?_)
        obtain ⟨q_467a, h⟩ := q_467
        subst d_468
        show AW p l e _ s m args below meth c E (M_L_law nmz) true _ n _ _ _ [(3, v0), (2, v1), (2, v2), (0, v3)] [(0, r_462)] C_466
        refine AW.ra_n (dc hdl_3 196 rfl) rfl rfl rfl ?_
        refine AW.ra_n (dc hdl_3 197 rfl) rfl rfl rfl ?_
        refine AW.iload_n (dc hdl_3 198 rfl) rfl ?_
        refine AW.iconst (dc hdl_3 199 rfl) (by decide) ?_
        refine AW.iadd (dc hdl_4 0 rfl) ?_
        refine AW.scr hX (dc hdl_4 1 rfl) g_1 g_460 g_461 ?_
        obtain ⟨g_470, h⟩ := h
        refine AW.callV (As := [(0, XS (w32 (v3 + 1)).toNat)]) (rest := [(0, r_462)]) (ci := 10) (m_G_seed l E n C_466 v2 (XS (w32 (v3 + 1)).toNat) _ h) cb_11_129 im_G_seed se_G_seed ⟨_, _, rfl⟩ (by decide) (dc hdl_4 2 rfl) g_470 rfl rfl ⟨Nat.le_of_ble_eq_true rfl, Nat.le_of_ble_eq_true rfl⟩ ⟨g_464, g_465⟩ (Nat.le_of_ble_eq_true rfl) (fun _ h => by cases h) (fun _ => rfl) (fun r_469 C_471 d_473 q_472 => ?_)
        obtain ⟨q_472a, h⟩ := q_472
        subst d_473
        show AW p l e _ s m args below meth c E (M_L_law nmz) true _ n _ _ _ [(3, v0), (2, v1), (2, v2), (0, v3)] [(0, r_469), (0, r_462)] C_471
        refine AW.icmp_eq (t := 1698) (dc hdl_4 3 rfl) (by decide) (fun c_474 => ?_) (fun c_474 => ?_)
        · have h := h.1 c_474
          refine AW.iinc [(3, v0), (2, v1), (2, v2), (0, w32 (v3 + 6))] (dc hdl_6 20 rfl) rfl (Nat.le_of_ble_eq_true rfl) rfl rfl ?_
          refine AW.goto (t := 18) (dc hdl_6 21 rfl) (by decide) ?_
          exact hkz18 C_471 n kc ks (w32 (v3 + 6)) h
        · have h := h.2 c_474
          refine AW.iconst (dc hdl_4 4 rfl) (by decide) ?_
          exact AW.zret (dc hdl_4 5 rfl) rfl rfl g_464 g_465 (by decide) h
      | 27, hj =>
        cases hj
        have h := h.2.2.2.2.2.2.2.2.2.2.2.2.2.2.2.2.2.2.2.2.2.2.2.2.2.2.2.1 (hx.trans (by decide))
        refine AW.ra_n (dc hdl_4 6 rfl) rfl rfl rfl ?_
        obtain ⟨g_476, h⟩ := h
        obtain ⟨g_477, h⟩ := h
        obtain ⟨g_478, h⟩ := h
        refine AW.callV (As := []) (rest := []) (ci := 9) (m_F_prove l E n C v1 _ h) cb_11_130 im_F_prove se_F_prove ⟨_, _, rfl⟩ (by decide) (dc hdl_4 7 rfl) g_476 rfl rfl ⟨Nat.le_of_ble_eq_true rfl, Nat.le_of_ble_eq_true rfl⟩ ⟨g_477, g_478⟩ (Nat.le_of_ble_eq_true rfl) (fun _ h => by cases h) (fun _ => rfl) (fun r_475 C_479 d_481 q_480 => ?_)
        obtain ⟨q_480a, h⟩ := q_480
        subst d_481
        show AW p l e _ s m args below meth c E (M_L_law nmz) true _ n _ _ _ [(3, v0), (2, v1), (2, v2), (0, v3)] [(0, r_475)] C_479
        refine AW.ra_n (dc hdl_4 8 rfl) rfl rfl rfl ?_
        obtain ⟨g_483, h⟩ := h
        refine AW.callV (As := []) (rest := [(0, r_475)]) (ci := 10) (m_G_prove l E n C_479 v2 _ h) cb_11_133 im_G_prove se_G_prove ⟨_, _, rfl⟩ (by decide) (dc hdl_4 9 rfl) g_483 rfl rfl ⟨Nat.le_of_ble_eq_true rfl, Nat.le_of_ble_eq_true rfl⟩ ⟨g_477, g_478⟩ (Nat.le_of_ble_eq_true rfl) (fun _ h => by cases h) (fun _ => rfl) (fun r_482 C_484 d_486 q_485 => ?_)
        obtain ⟨q_485a, h⟩ := q_485
        subst d_486
        show AW p l e _ s m args below meth c E (M_L_law nmz) true _ n _ _ _ [(3, v0), (2, v1), (2, v2), (0, v3)] [(0, r_482), (0, r_475)] C_484
        refine AW.icmp_eq (t := 1698) (dc hdl_4 10 rfl) (by decide) (fun c_487 => ?_) (fun c_487 => ?_)
        · have h := h.1 c_487
          refine AW.iinc [(3, v0), (2, v1), (2, v2), (0, w32 (v3 + 6))] (dc hdl_6 20 rfl) rfl (Nat.le_of_ble_eq_true rfl) rfl rfl ?_
          refine AW.goto (t := 18) (dc hdl_6 21 rfl) (by decide) ?_
          exact hkz18 C_484 n kc ks (w32 (v3 + 6)) h
        · have h := h.2 c_487
          refine AW.iconst (dc hdl_4 11 rfl) (by decide) ?_
          exact AW.zret (dc hdl_4 12 rfl) rfl rfl g_477 g_478 (by decide) h
      | 28, hj =>
        cases hj
        have h := h.2.2.2.2.2.2.2.2.2.2.2.2.2.2.2.2.2.2.2.2.2.2.2.2.2.2.2.2.1 (hx.trans (by decide))
        refine AW.ra_n (dc hdl_4 13 rfl) rfl rfl rfl ?_
        refine AW.ra_n (dc hdl_4 14 rfl) rfl rfl rfl ?_
        refine AW.iload_n (dc hdl_4 15 rfl) rfl ?_
        refine AW.iconst (dc hdl_4 16 rfl) (by decide) ?_
        refine AW.iadd (dc hdl_4 17 rfl) ?_
        obtain ⟨g_488, h⟩ := h
        obtain ⟨g_489, h⟩ := h
        refine AW.scr hX (dc hdl_4 18 rfl) g_1 g_488 g_489 ?_
        refine AW.ra_n (dc hdl_4 19 rfl) rfl rfl rfl ?_
        refine AW.iload_n (dc hdl_4 20 rfl) rfl ?_
        refine AW.iconst (dc hdl_4 21 rfl) (by decide) ?_
        refine AW.iadd (dc hdl_4 22 rfl) ?_
        obtain ⟨g_490, h⟩ := h
        obtain ⟨g_491, h⟩ := h
        refine AW.scr hX (dc hdl_4 23 rfl) g_1 g_490 g_491 ?_
        obtain ⟨g_493, h⟩ := h
        obtain ⟨g_494, h⟩ := h
        obtain ⟨g_495, h⟩ := h
        refine AW.callV (As := [(0, XS (w32 (v3 + 1)).toNat), (0, XS (w32 (v3 + 2)).toNat)]) (rest := []) (ci := 9) (m_F_row l E n C v1 (XS (w32 (v3 + 1)).toNat) (XS (w32 (v3 + 2)).toNat) _ h) cb_11_134 im_F_row se_F_row ⟨_, _, rfl⟩ (by decide) (dc hdl_4 24 rfl) g_493 rfl rfl ⟨Nat.le_of_ble_eq_true rfl, Nat.le_of_ble_eq_true rfl⟩ ⟨g_494, g_495⟩ (Nat.le_of_ble_eq_true rfl) (fun _ h => by cases h) (fun _ => rfl) (fun r_492 C_496 d_498 q_497 => ?_)
        obtain ⟨q_497a, h⟩ := q_497
        subst d_498
        show AW p l e _ s m args below meth c E (M_L_law nmz) true _ n _ _ _ [(3, v0), (2, v1), (2, v2), (0, v3)] [(0, r_492)] C_496
        refine AW.ra_n (dc hdl_4 25 rfl) rfl rfl rfl ?_
        refine AW.ra_n (dc hdl_4 26 rfl) rfl rfl rfl ?_
        refine AW.iload_n (dc hdl_4 27 rfl) rfl ?_
        refine AW.iconst (dc hdl_4 28 rfl) (by decide) ?_
        refine AW.iadd (dc hdl_4 29 rfl) ?_
        refine AW.scr hX (dc hdl_4 30 rfl) g_1 g_488 g_489 ?_
        refine AW.ra_n (dc hdl_4 31 rfl) rfl rfl rfl ?_
        refine AW.iload_n (dc hdl_4 32 rfl) rfl ?_
        refine AW.iconst (dc hdl_4 33 rfl) (by decide) ?_
        refine AW.iadd (dc hdl_4 34 rfl) ?_
        refine AW.scr hX (dc hdl_4 35 rfl) g_1 g_490 g_491 ?_
        obtain ⟨g_500, h⟩ := h
        refine AW.callV (As := [(0, XS (w32 (v3 + 1)).toNat), (0, XS (w32 (v3 + 2)).toNat)]) (rest := [(0, r_492)]) (ci := 10) (m_G_row l E n C_496 v2 (XS (w32 (v3 + 1)).toNat) (XS (w32 (v3 + 2)).toNat) _ h) cb_11_137 im_G_row se_G_row ⟨_, _, rfl⟩ (by decide) (dc hdl_4 36 rfl) g_500 rfl rfl ⟨Nat.le_of_ble_eq_true rfl, Nat.le_of_ble_eq_true rfl⟩ ⟨g_494, g_495⟩ (Nat.le_of_ble_eq_true rfl) (fun _ h => by cases h) (fun _ => rfl) (fun r_499 C_501 d_503 q_502 => ?_)
        obtain ⟨q_502a, h⟩ := q_502
        subst d_503
        show AW p l e _ s m args below meth c E (M_L_law nmz) true _ n _ _ _ [(3, v0), (2, v1), (2, v2), (0, v3)] [(0, r_499), (0, r_492)] C_501
        refine AW.icmp_eq (t := 1698) (dc hdl_4 37 rfl) (by decide) (fun c_504 => ?_) (fun c_504 => ?_)
        · have h := h.1 c_504
          refine AW.iinc [(3, v0), (2, v1), (2, v2), (0, w32 (v3 + 6))] (dc hdl_6 20 rfl) rfl (Nat.le_of_ble_eq_true rfl) rfl rfl ?_
          refine AW.goto (t := 18) (dc hdl_6 21 rfl) (by decide) ?_
          exact hkz18 C_501 n kc ks (w32 (v3 + 6)) h
        · have h := h.2 c_504
          refine AW.iconst (dc hdl_4 38 rfl) (by decide) ?_
          exact AW.zret (dc hdl_4 39 rfl) rfl rfl g_494 g_495 (by decide) h
      | 29, hj =>
        cases hj
        have h := h.2.2.2.2.2.2.2.2.2.2.2.2.2.2.2.2.2.2.2.2.2.2.2.2.2.2.2.2.2.1 (hx.trans (by decide))
        refine AW.ra_n (dc hdl_4 40 rfl) rfl rfl rfl ?_
        refine AW.ra_n (dc hdl_4 41 rfl) rfl rfl rfl ?_
        refine AW.iload_n (dc hdl_4 42 rfl) rfl ?_
        refine AW.iconst (dc hdl_4 43 rfl) (by decide) ?_
        refine AW.iadd (dc hdl_4 44 rfl) ?_
        obtain ⟨g_505, h⟩ := h
        obtain ⟨g_506, h⟩ := h
        refine AW.scr hX (dc hdl_4 45 rfl) g_1 g_505 g_506 ?_
        refine AW.ra_n (dc hdl_4 46 rfl) rfl rfl rfl ?_
        refine AW.iload_n (dc hdl_4 47 rfl) rfl ?_
        refine AW.iconst (dc hdl_4 48 rfl) (by decide) ?_
        refine AW.iadd (dc hdl_4 49 rfl) ?_
        obtain ⟨g_507, h⟩ := h
        obtain ⟨g_508, h⟩ := h
        refine AW.scr hX (dc hdl_4 50 rfl) g_1 g_507 g_508 ?_
        refine AW.ra_n (dc hdl_4 51 rfl) rfl rfl rfl ?_
        refine AW.iload_n (dc hdl_4 52 rfl) rfl ?_
        refine AW.iconst (dc hdl_4 53 rfl) (by decide) ?_
        refine AW.iadd (dc hdl_4 54 rfl) ?_
        obtain ⟨g_509, h⟩ := h
        obtain ⟨g_510, h⟩ := h
        refine AW.scr hX (dc hdl_4 55 rfl) g_1 g_509 g_510 ?_
        obtain ⟨g_512, h⟩ := h
        obtain ⟨g_513, h⟩ := h
        obtain ⟨g_514, h⟩ := h
        refine AW.callV (As := [(0, XS (w32 (v3 + 1)).toNat), (0, XS (w32 (v3 + 2)).toNat), (0, XS (w32 (v3 + 3)).toNat)]) (rest := []) (ci := 9) (m_F_alter l E n C v1 (XS (w32 (v3 + 1)).toNat) (XS (w32 (v3 + 2)).toNat) (XS (w32 (v3 + 3)).toNat) _ h) cb_11_138 im_F_alter se_F_alter ⟨_, _, rfl⟩ (by decide) (dc hdl_4 56 rfl) g_512 rfl rfl ⟨Nat.le_of_ble_eq_true rfl, Nat.le_of_ble_eq_true rfl⟩ ⟨g_513, g_514⟩ (Nat.le_of_ble_eq_true rfl) (fun _ h => by cases h) (fun _ => rfl) (fun r_511 C_515 d_517 q_516 => ?_)
        obtain ⟨q_516a, h⟩ := q_516
        subst d_517
        show AW p l e _ s m args below meth c E (M_L_law nmz) true _ n _ _ _ [(3, v0), (2, v1), (2, v2), (0, v3)] [(0, r_511)] C_515
        refine AW.ra_n (dc hdl_4 57 rfl) rfl rfl rfl ?_
        refine AW.ra_n (dc hdl_4 58 rfl) rfl rfl rfl ?_
        refine AW.iload_n (dc hdl_4 59 rfl) rfl ?_
        refine AW.iconst (dc hdl_4 60 rfl) (by decide) ?_
        refine AW.iadd (dc hdl_4 61 rfl) ?_
        refine AW.scr hX (dc hdl_4 62 rfl) g_1 g_505 g_506 ?_
        refine AW.ra_n (dc hdl_4 63 rfl) rfl rfl rfl ?_
        refine AW.iload_n (dc hdl_4 64 rfl) rfl ?_
        refine AW.iconst (dc hdl_4 65 rfl) (by decide) ?_
        refine AW.iadd (dc hdl_4 66 rfl) ?_
        refine AW.scr hX (dc hdl_4 67 rfl) g_1 g_507 g_508 ?_
        refine AW.ra_n (dc hdl_4 68 rfl) rfl rfl rfl ?_
        refine AW.iload_n (dc hdl_4 69 rfl) rfl ?_
        refine AW.iconst (dc hdl_4 70 rfl) (by decide) ?_
        refine AW.iadd (dc hdl_4 71 rfl) ?_
        refine AW.scr hX (dc hdl_4 72 rfl) g_1 g_509 g_510 ?_
        obtain ⟨g_519, h⟩ := h
        refine AW.callV (As := [(0, XS (w32 (v3 + 1)).toNat), (0, XS (w32 (v3 + 2)).toNat), (0, XS (w32 (v3 + 3)).toNat)]) (rest := [(0, r_511)]) (ci := 10) (m_G_alter l E n C_515 v2 (XS (w32 (v3 + 1)).toNat) (XS (w32 (v3 + 2)).toNat) (XS (w32 (v3 + 3)).toNat) _ h) cb_11_141 im_G_alter se_G_alter ⟨_, _, rfl⟩ (by decide) (dc hdl_4 73 rfl) g_519 rfl rfl ⟨Nat.le_of_ble_eq_true rfl, Nat.le_of_ble_eq_true rfl⟩ ⟨g_513, g_514⟩ (Nat.le_of_ble_eq_true rfl) (fun _ h => by cases h) (fun _ => rfl) (fun r_518 C_520 d_522 q_521 => ?_)
        obtain ⟨q_521a, h⟩ := q_521
        subst d_522
        show AW p l e _ s m args below meth c E (M_L_law nmz) true _ n _ _ _ [(3, v0), (2, v1), (2, v2), (0, v3)] [(0, r_518), (0, r_511)] C_520
        refine AW.icmp_eq (t := 1698) (dc hdl_4 74 rfl) (by decide) (fun c_523 => ?_) (fun c_523 => ?_)
        · have h := h.1 c_523
          refine AW.iinc [(3, v0), (2, v1), (2, v2), (0, w32 (v3 + 6))] (dc hdl_6 20 rfl) rfl (Nat.le_of_ble_eq_true rfl) rfl rfl ?_
          refine AW.goto (t := 18) (dc hdl_6 21 rfl) (by decide) ?_
          exact hkz18 C_520 n kc ks (w32 (v3 + 6)) h
        · have h := h.2 c_523
          refine AW.iconst (dc hdl_4 75 rfl) (by decide) ?_
          exact AW.zret (dc hdl_4 76 rfl) rfl rfl g_513 g_514 (by decide) h
      | 30, hj =>
        cases hj
        have h := h.2.2.2.2.2.2.2.2.2.2.2.2.2.2.2.2.2.2.2.2.2.2.2.2.2.2.2.2.2.2.1 (hx.trans (by decide))
        refine AW.ra_n (dc hdl_4 77 rfl) rfl rfl rfl ?_
        obtain ⟨g_525, h⟩ := h
        obtain ⟨g_526, h⟩ := h
        obtain ⟨g_527, h⟩ := h
        refine AW.callV (As := []) (rest := []) (ci := 9) (m_F_judge l E n C v1 _ h) cb_11_142 im_F_judge se_F_judge ⟨_, _, rfl⟩ (by decide) (dc hdl_4 78 rfl) g_525 rfl rfl ⟨Nat.le_of_ble_eq_true rfl, Nat.le_of_ble_eq_true rfl⟩ ⟨g_526, g_527⟩ (Nat.le_of_ble_eq_true rfl) (fun _ h => by cases h) (fun _ => rfl) (fun r_524 D_529 d_530 q_528 => ?_)
        obtain ⟨q_528a, q_528b, h⟩ := q_528
        subst D_529
        subst d_530
        show AW p l e _ s m args below meth c E (M_L_law nmz) true _ n _ _ _ [(3, v0), (2, v1), (2, v2), (0, v3)] [(0, r_524)] C
        refine AW.ra_n (dc hdl_4 79 rfl) rfl rfl rfl ?_
        obtain ⟨g_532, h⟩ := h
        refine AW.callV (As := []) (rest := [(0, r_524)]) (ci := 10) (m_G_judge l E n C v2 _ h) cb_11_145 im_G_judge se_G_judge ⟨_, _, rfl⟩ (by decide) (dc hdl_4 80 rfl) g_532 rfl rfl ⟨Nat.le_of_ble_eq_true rfl, Nat.le_of_ble_eq_true rfl⟩ ⟨g_526, g_527⟩ (Nat.le_of_ble_eq_true rfl) (fun _ h => by cases h) (fun _ => rfl) (fun r_531 C_533 d_535 q_534 => ?_)
        obtain ⟨q_534a, h⟩ := q_534
        subst d_535
        show AW p l e _ s m args below meth c E (M_L_law nmz) true _ n _ _ _ [(3, v0), (2, v1), (2, v2), (0, v3)] [(0, r_531), (0, r_524)] C_533
        refine AW.icmp_eq (t := 1698) (dc hdl_4 81 rfl) (by decide) (fun c_536 => ?_) (fun c_536 => ?_)
        · have h := h.1 c_536
          refine AW.iinc [(3, v0), (2, v1), (2, v2), (0, w32 (v3 + 6))] (dc hdl_6 20 rfl) rfl (Nat.le_of_ble_eq_true rfl) rfl rfl ?_
          refine AW.goto (t := 18) (dc hdl_6 21 rfl) (by decide) ?_
          exact hkz18 C_533 n kc ks (w32 (v3 + 6)) h
        · have h := h.2 c_536
          refine AW.iconst (dc hdl_4 82 rfl) (by decide) ?_
          exact AW.zret (dc hdl_4 83 rfl) rfl rfl g_526 g_527 (by decide) h
      | 31, hj =>
        cases hj
        have h := h.2.2.2.2.2.2.2.2.2.2.2.2.2.2.2.2.2.2.2.2.2.2.2.2.2.2.2.2.2.2.2.1 (hx.trans (by decide))
        refine AW.ra_n (dc hdl_4 84 rfl) rfl rfl rfl ?_
        refine AW.ra_n (dc hdl_4 85 rfl) rfl rfl rfl ?_
        refine AW.iload_n (dc hdl_4 86 rfl) rfl ?_
        refine AW.iconst (dc hdl_4 87 rfl) (by decide) ?_
        refine AW.iadd (dc hdl_4 88 rfl) ?_
        obtain ⟨g_537, h⟩ := h
        obtain ⟨g_538, h⟩ := h
        refine AW.scr hX (dc hdl_4 89 rfl) g_1 g_537 g_538 ?_
        refine AW.ra_n (dc hdl_4 90 rfl) rfl rfl rfl ?_
        refine AW.iload_n (dc hdl_4 91 rfl) rfl ?_
        refine AW.iconst (dc hdl_4 92 rfl) (by decide) ?_
        refine AW.iadd (dc hdl_4 93 rfl) ?_
        obtain ⟨g_539, h⟩ := h
        obtain ⟨g_540, h⟩ := h
        refine AW.scr hX (dc hdl_4 94 rfl) g_1 g_539 g_540 ?_
        obtain ⟨g_542, h⟩ := h
        obtain ⟨g_543, h⟩ := h
        obtain ⟨g_544, h⟩ := h
        refine AW.callV (As := [(0, XS (w32 (v3 + 1)).toNat), (0, XS (w32 (v3 + 2)).toNat)]) (rest := []) (ci := 9) (m_F_feed l E n C v1 (XS (w32 (v3 + 1)).toNat) (XS (w32 (v3 + 2)).toNat) _ h) cb_11_146 im_F_feed se_F_feed ⟨_, _, rfl⟩ (by decide) (dc hdl_4 95 rfl) g_542 rfl rfl ⟨Nat.le_of_ble_eq_true rfl, Nat.le_of_ble_eq_true rfl⟩ ⟨g_543, g_544⟩ (Nat.le_of_ble_eq_true rfl) (fun _ h => by cases h) (fun _ => rfl) (fun r_541 C_545 d_547 q_546 => ?_)
        obtain ⟨q_546a, h⟩ := q_546
        subst d_547
        show AW p l e _ s m args below meth c E (M_L_law nmz) true _ n _ _ _ [(3, v0), (2, v1), (2, v2), (0, v3)] [(0, r_541)] C_545
        refine AW.ra_n (dc hdl_4 96 rfl) rfl rfl rfl ?_
        refine AW.ra_n (dc hdl_4 97 rfl) rfl rfl rfl ?_
        refine AW.iload_n (dc hdl_4 98 rfl) rfl ?_
        refine AW.iconst (dc hdl_4 99 rfl) (by decide) ?_
        refine AW.iadd (dc hdl_4 100 rfl) ?_
        refine AW.scr hX (dc hdl_4 101 rfl) g_1 g_537 g_538 ?_
        refine AW.ra_n (dc hdl_4 102 rfl) rfl rfl rfl ?_
        refine AW.iload_n (dc hdl_4 103 rfl) rfl ?_
        refine AW.iconst (dc hdl_4 104 rfl) (by decide) ?_
        refine AW.iadd (dc hdl_4 105 rfl) ?_
        refine AW.scr hX (dc hdl_4 106 rfl) g_1 g_539 g_540 ?_
        obtain ⟨g_549, h⟩ := h
        refine AW.callV (As := [(0, XS (w32 (v3 + 1)).toNat), (0, XS (w32 (v3 + 2)).toNat)]) (rest := [(0, r_541)]) (ci := 10) (m_G_feed l E n C_545 v2 (XS (w32 (v3 + 1)).toNat) (XS (w32 (v3 + 2)).toNat) _ h) cb_11_149 im_G_feed se_G_feed ⟨_, _, rfl⟩ (by decide) (dc hdl_4 107 rfl) g_549 rfl rfl ⟨Nat.le_of_ble_eq_true rfl, Nat.le_of_ble_eq_true rfl⟩ ⟨g_543, g_544⟩ (Nat.le_of_ble_eq_true rfl) (fun _ h => by cases h) (fun _ => rfl) (fun r_548 C_550 d_552 q_551 => ?_)
        obtain ⟨q_551a, h⟩ := q_551
        subst d_552
        show AW p l e _ s m args below meth c E (M_L_law nmz) true _ n _ _ _ [(3, v0), (2, v1), (2, v2), (0, v3)] [(0, r_548), (0, r_541)] C_550
        refine AW.icmp_eq (t := 1698) (dc hdl_4 108 rfl) (by decide) (fun c_553 => ?_) (fun c_553 => ?_)
        · have h := h.1 c_553
          refine AW.iinc [(3, v0), (2, v1), (2, v2), (0, w32 (v3 + 6))] (dc hdl_6 20 rfl) rfl (Nat.le_of_ble_eq_true rfl) rfl rfl ?_
          refine AW.goto (t := 18) (dc hdl_6 21 rfl) (by decide) ?_
          exact hkz18 C_550 n kc ks (w32 (v3 + 6)) h
        · have h := h.2 c_553
          refine AW.iconst (dc hdl_4 109 rfl) (by decide) ?_
          exact AW.zret (dc hdl_4 110 rfl) rfl rfl g_543 g_544 (by decide) h
      | 32, hj =>
        cases hj
        have h := h.2.2.2.2.2.2.2.2.2.2.2.2.2.2.2.2.2.2.2.2.2.2.2.2.2.2.2.2.2.2.2.2.1 (hx.trans (by decide))
        refine AW.ra_n (dc hdl_4 111 rfl) rfl rfl rfl ?_
        obtain ⟨g_555, h⟩ := h
        obtain ⟨g_556, h⟩ := h
        obtain ⟨g_557, h⟩ := h
        refine AW.callV (As := []) (rest := []) (ci := 9) (m_F_wipe l E n C v1 _ h) cb_11_150 im_F_wipe se_F_wipe ⟨_, _, rfl⟩ (by decide) (dc hdl_4 112 rfl) g_555 rfl rfl ⟨Nat.le_of_ble_eq_true rfl, Nat.le_of_ble_eq_true rfl⟩ ⟨g_556, g_557⟩ (Nat.le_of_ble_eq_true rfl) (fun _ h => by cases h) (fun _ => rfl) (fun r_554 C_558 d_560 q_559 => ?_)
        obtain ⟨q_559a, h⟩ := q_559
        subst d_560
        show AW p l e _ s m args below meth c E (M_L_law nmz) true _ n _ _ _ [(3, v0), (2, v1), (2, v2), (0, v3)] [(0, r_554)] C_558
        refine AW.ra_n (dc hdl_4 113 rfl) rfl rfl rfl ?_
        obtain ⟨g_562, h⟩ := h
        refine AW.callV (As := []) (rest := [(0, r_554)]) (ci := 10) (m_G_wipe l E n C_558 v2 _ h) cb_11_153 im_G_wipe se_G_wipe ⟨_, _, rfl⟩ (by decide) (dc hdl_4 114 rfl) g_562 rfl rfl ⟨Nat.le_of_ble_eq_true rfl, Nat.le_of_ble_eq_true rfl⟩ ⟨g_556, g_557⟩ (Nat.le_of_ble_eq_true rfl) (fun _ h => by cases h) (fun _ => rfl) (fun r_561 C_563 d_565 q_564 => ?_)
        obtain ⟨q_564a, h⟩ := q_564
        subst d_565
        show AW p l e _ s m args below meth c E (M_L_law nmz) true _ n _ _ _ [(3, v0), (2, v1), (2, v2), (0, v3)] [(0, r_561), (0, r_554)] C_563
        refine AW.icmp_eq (t := 1698) (dc hdl_4 115 rfl) (by decide) (fun c_566 => ?_) (fun c_566 => ?_)
        · have h := h.1 c_566
          refine AW.iinc [(3, v0), (2, v1), (2, v2), (0, w32 (v3 + 6))] (dc hdl_6 20 rfl) rfl (Nat.le_of_ble_eq_true rfl) rfl rfl ?_
          refine AW.goto (t := 18) (dc hdl_6 21 rfl) (by decide) ?_
          exact hkz18 C_563 n kc ks (w32 (v3 + 6)) h
        · have h := h.2 c_566
          refine AW.iconst (dc hdl_4 116 rfl) (by decide) ?_
          exact AW.zret (dc hdl_4 117 rfl) rfl rfl g_556 g_557 (by decide) h
      | 33, hj =>
        cases hj
        have h := h.2.2.2.2.2.2.2.2.2.2.2.2.2.2.2.2.2.2.2.2.2.2.2.2.2.2.2.2.2.2.2.2.2.1 (hx.trans (by decide))
        refine AW.ra_n (dc hdl_4 118 rfl) rfl rfl rfl ?_
        obtain ⟨g_568, h⟩ := h
        obtain ⟨g_569, h⟩ := h
        obtain ⟨g_570, h⟩ := h
        refine AW.callV (As := []) (rest := []) (ci := 9) (m_F_text l E n C v1 _ h) cb_11_154 im_F_text se_F_text ⟨_, _, rfl⟩ (by decide) (dc hdl_4 119 rfl) g_568 rfl rfl ⟨Nat.le_of_ble_eq_true rfl, Nat.le_of_ble_eq_true rfl⟩ ⟨g_569, g_570⟩ (Nat.le_of_ble_eq_true rfl) (fun _ h => by cases h) (fun _ => rfl) (fun r_567 C_571 d_573 q_572 => ?_)
        obtain ⟨q_572a, h⟩ := q_572
        subst d_573
        show AW p l e _ s m args below meth c E (M_L_law nmz) true _ n _ _ _ [(3, v0), (2, v1), (2, v2), (0, v3)] [(0, r_567)] C_571
        refine AW.ra_n (dc hdl_4 120 rfl) rfl rfl rfl ?_
        obtain ⟨g_575, h⟩ := h
        obtain ⟨g_576, h⟩ := h
        obtain ⟨g_577, h⟩ := h
        refine AW.callV (As := []) (rest := [(0, r_567)]) (ci := 10) (m_G_text l E n C_571 v2 _ h) cb_11_157 im_G_text se_G_text ⟨_, _, rfl⟩ (by decide) (dc hdl_4 121 rfl) g_575 rfl rfl ⟨Nat.le_of_ble_eq_true rfl, Nat.le_of_ble_eq_true rfl⟩ ⟨g_576, g_577⟩ (Nat.le_of_ble_eq_true rfl) (fun _ h => by cases h) (fun _ => rfl) (fun r_574 C_578 n_579 q_580 => ?_)
        have h := q_580
        show AW p l e _ s m args below meth c E (M_L_law nmz) true _ n_579 _ _ _ [(3, v0), (2, v1), (2, v2), (0, v3)] [(0, r_574), (0, r_567)] C_578
        refine AW.icmp_eq (t := 1698) (dc hdl_4 122 rfl) (by decide) (fun c_581 => ?_) (fun c_581 => ?_)
        · have h := h.1 c_581
          refine AW.iinc [(3, v0), (2, v1), (2, v2), (0, w32 (v3 + 6))] (dc hdl_6 20 rfl) rfl (Nat.le_of_ble_eq_true rfl) rfl rfl ?_
          refine AW.goto (t := 18) (dc hdl_6 21 rfl) (by decide) ?_
          exact hkz18 C_578 n_579 (kc + 130) (ks + 780) (w32 (v3 + 6)) h
        · have h := h.2 c_581
          refine AW.iconst (dc hdl_4 123 rfl) (by decide) ?_
          exact AW.zret (dc hdl_4 124 rfl) rfl rfl g_576 g_577 (by decide) h
      | 34, hj =>
        cases hj
        have h := h.2.2.2.2.2.2.2.2.2.2.2.2.2.2.2.2.2.2.2.2.2.2.2.2.2.2.2.2.2.2.2.2.2.2.1 (hx.trans (by decide))
        refine AW.ra_n (dc hdl_4 125 rfl) rfl rfl rfl ?_
        refine AW.ra_n (dc hdl_4 126 rfl) rfl rfl rfl ?_
        refine AW.iload_n (dc hdl_4 127 rfl) rfl ?_
        refine AW.iconst (dc hdl_4 128 rfl) (by decide) ?_
        refine AW.iadd (dc hdl_4 129 rfl) ?_
        obtain ⟨g_582, h⟩ := h
        obtain ⟨g_583, h⟩ := h
        refine AW.scr hX (dc hdl_4 130 rfl) g_1 g_582 g_583 ?_
        refine AW.ra_n (dc hdl_4 131 rfl) rfl rfl rfl ?_
        refine AW.iload_n (dc hdl_4 132 rfl) rfl ?_
        refine AW.iconst (dc hdl_4 133 rfl) (by decide) ?_
        refine AW.iadd (dc hdl_4 134 rfl) ?_
        obtain ⟨g_584, h⟩ := h
        obtain ⟨g_585, h⟩ := h
        refine AW.scr hX (dc hdl_4 135 rfl) g_1 g_584 g_585 ?_
        refine AW.ra_n (dc hdl_4 136 rfl) rfl rfl rfl ?_
        refine AW.iload_n (dc hdl_4 137 rfl) rfl ?_
        refine AW.iconst (dc hdl_4 138 rfl) (by decide) ?_
        refine AW.iadd (dc hdl_4 139 rfl) ?_
        obtain ⟨g_586, h⟩ := h
        obtain ⟨g_587, h⟩ := h
        refine AW.scr hX (dc hdl_4 140 rfl) g_1 g_586 g_587 ?_
        obtain ⟨g_589, h⟩ := h
        obtain ⟨g_590, h⟩ := h
        obtain ⟨g_591, h⟩ := h
        refine AW.callV (As := [(0, XS (w32 (v3 + 1)).toNat), (0, XS (w32 (v3 + 2)).toNat), (0, XS (w32 (v3 + 3)).toNat)]) (rest := []) (ci := 9) (m_F_sheet l E n C v1 (XS (w32 (v3 + 1)).toNat) (XS (w32 (v3 + 2)).toNat) (XS (w32 (v3 + 3)).toNat) _ h) cb_11_158 im_F_sheet se_F_sheet ⟨_, _, rfl⟩ (by decide) (dc hdl_4 141 rfl) g_589 rfl rfl ⟨Nat.le_of_ble_eq_true rfl, Nat.le_of_ble_eq_true rfl⟩ ⟨g_590, g_591⟩ (Nat.le_of_ble_eq_true rfl) (fun _ h => by cases h) (fun _ => rfl) (fun r_588 C_592 d_594 q_593 => ?_)
        obtain ⟨q_593a, h⟩ := q_593
        subst d_594
        show AW p l e _ s m args below meth c E (M_L_law nmz) true _ n _ _ _ [(3, v0), (2, v1), (2, v2), (0, v3)] [(0, r_588)] C_592
        refine AW.ra_n (dc hdl_4 142 rfl) rfl rfl rfl ?_
        refine AW.ra_n (dc hdl_4 143 rfl) rfl rfl rfl ?_
        refine AW.iload_n (dc hdl_4 144 rfl) rfl ?_
        refine AW.iconst (dc hdl_4 145 rfl) (by decide) ?_
        refine AW.iadd (dc hdl_4 146 rfl) ?_
        refine AW.scr hX (dc hdl_4 147 rfl) g_1 g_582 g_583 ?_
        refine AW.ra_n (dc hdl_4 148 rfl) rfl rfl rfl ?_
        refine AW.iload_n (dc hdl_4 149 rfl) rfl ?_
        refine AW.iconst (dc hdl_4 150 rfl) (by decide) ?_
        refine AW.iadd (dc hdl_4 151 rfl) ?_
        refine AW.scr hX (dc hdl_4 152 rfl) g_1 g_584 g_585 ?_
        refine AW.ra_n (dc hdl_4 153 rfl) rfl rfl rfl ?_
        refine AW.iload_n (dc hdl_4 154 rfl) rfl ?_
        refine AW.iconst (dc hdl_4 155 rfl) (by decide) ?_
        refine AW.iadd (dc hdl_4 156 rfl) ?_
        refine AW.scr hX (dc hdl_4 157 rfl) g_1 g_586 g_587 ?_
        obtain ⟨g_596, h⟩ := h
        refine AW.callV (As := [(0, XS (w32 (v3 + 1)).toNat), (0, XS (w32 (v3 + 2)).toNat), (0, XS (w32 (v3 + 3)).toNat)]) (rest := [(0, r_588)]) (ci := 10) (m_G_sheet l E n C_592 v2 (XS (w32 (v3 + 1)).toNat) (XS (w32 (v3 + 2)).toNat) (XS (w32 (v3 + 3)).toNat) _ h) cb_11_161 im_G_sheet se_G_sheet ⟨_, _, rfl⟩ (by decide) (dc hdl_4 158 rfl) g_596 rfl rfl ⟨Nat.le_of_ble_eq_true rfl, Nat.le_of_ble_eq_true rfl⟩ ⟨g_590, g_591⟩ (Nat.le_of_ble_eq_true rfl) (fun _ h => by cases h) (fun _ => rfl) (fun r_595 C_597 d_599 q_598 => ?_)
        obtain ⟨q_598a, h⟩ := q_598
        subst d_599
        show AW p l e _ s m args below meth c E (M_L_law nmz) true _ n _ _ _ [(3, v0), (2, v1), (2, v2), (0, v3)] [(0, r_595), (0, r_588)] C_597
        refine AW.icmp_eq (t := 1698) (dc hdl_4 159 rfl) (by decide) (fun c_600 => ?_) (fun c_600 => ?_)
        · have h := h.1 c_600
          refine AW.iinc [(3, v0), (2, v1), (2, v2), (0, w32 (v3 + 6))] (dc hdl_6 20 rfl) rfl (Nat.le_of_ble_eq_true rfl) rfl rfl ?_
          refine AW.goto (t := 18) (dc hdl_6 21 rfl) (by decide) ?_
          exact hkz18 C_597 n kc ks (w32 (v3 + 6)) h
        · have h := h.2 c_600
          refine AW.iconst (dc hdl_4 160 rfl) (by decide) ?_
          exact AW.zret (dc hdl_4 161 rfl) rfl rfl g_590 g_591 (by decide) h
      | 35, hj =>
        cases hj
        have h := h.2.2.2.2.2.2.2.2.2.2.2.2.2.2.2.2.2.2.2.2.2.2.2.2.2.2.2.2.2.2.2.2.2.2.2.1 (hx.trans (by decide))
        refine AW.ra_n (dc hdl_4 162 rfl) rfl rfl rfl ?_
        refine AW.ra_n (dc hdl_4 163 rfl) rfl rfl rfl ?_
        refine AW.iload_n (dc hdl_4 164 rfl) rfl ?_
        refine AW.iconst (dc hdl_4 165 rfl) (by decide) ?_
        refine AW.iadd (dc hdl_4 166 rfl) ?_
        obtain ⟨g_601, h⟩ := h
        obtain ⟨g_602, h⟩ := h
        refine AW.scr hX (dc hdl_4 167 rfl) g_1 g_601 g_602 ?_
        refine AW.ra_n (dc hdl_4 168 rfl) rfl rfl rfl ?_
        refine AW.iload_n (dc hdl_4 169 rfl) rfl ?_
        refine AW.iconst (dc hdl_4 170 rfl) (by decide) ?_
        refine AW.iadd (dc hdl_4 171 rfl) ?_
        obtain ⟨g_603, h⟩ := h
        obtain ⟨g_604, h⟩ := h
        refine AW.scr hX (dc hdl_4 172 rfl) g_1 g_603 g_604 ?_
        refine AW.ra_n (dc hdl_4 173 rfl) rfl rfl rfl ?_
        refine AW.iload_n (dc hdl_4 174 rfl) rfl ?_
        refine AW.iconst (dc hdl_4 175 rfl) (by decide) ?_
        refine AW.iadd (dc hdl_4 176 rfl) ?_
        obtain ⟨g_605, h⟩ := h
        obtain ⟨g_606, h⟩ := h
        refine AW.scr hX (dc hdl_4 177 rfl) g_1 g_605 g_606 ?_
        refine AW.i2l (dc hdl_4 178 rfl) ?_
        refine AW.bipush (dc hdl_4 179 rfl) (by decide) (by decide +kernel) ?_
        refine AW.lshl (dc hdl_4 180 rfl) ?_
        refine AW.ra_n (dc hdl_4 181 rfl) rfl rfl rfl ?_
        refine AW.iload_n (dc hdl_4 182 rfl) rfl ?_
        refine AW.iconst (dc hdl_4 183 rfl) (by decide) ?_
        refine AW.iadd (dc hdl_4 184 rfl) ?_
        obtain ⟨g_607, h⟩ := h
        obtain ⟨g_608, h⟩ := h
        refine AW.scr hX (dc hdl_4 185 rfl) g_1 g_607 g_608 ?_
        refine AW.i2l (dc hdl_4 186 rfl) ?_
        refine AW.ldc2 (v := 4294967295) (dc hdl_4 187 rfl) ck_11_119 (by decide) rfl ?_
        refine AW.land (dc hdl_4 188 rfl) ?_
        refine AW.lor (dc hdl_4 189 rfl) ?_
        obtain ⟨g_610, h⟩ := h
        obtain ⟨g_611, h⟩ := h
        obtain ⟨g_612, h⟩ := h
        refine AW.callV (As := [(0, XS (w32 (v3 + 1)).toNat), (0, XS (w32 (v3 + 2)).toNat), (1, or64 (shl64 (XS (w32 (v3 + 3)).toNat) 32) (and64 (XS (w32 (v3 + 4)).toNat) 4294967295))]) (rest := []) (ci := 9) (m_F_write l E n C v1 (XS (w32 (v3 + 1)).toNat) (XS (w32 (v3 + 2)).toNat) (or64 (shl64 (XS (w32 (v3 + 3)).toNat) 32) (and64 (XS (w32 (v3 + 4)).toNat) 4294967295)) _ h) cb_11_162 im_F_write se_F_write ⟨_, _, rfl⟩ (by decide) (dc hdl_4 190 rfl) g_610 rfl rfl ⟨Nat.le_of_ble_eq_true rfl, Nat.le_of_ble_eq_true rfl⟩ ⟨g_611, g_612⟩ (Nat.le_of_ble_eq_true rfl) (fun _ h => by cases h) (fun _ => rfl) (fun r_609 C_613 d_615 q_614 => ?_)
        obtain ⟨q_614a, h⟩ := q_614
        subst d_615
        show AW p l e _ s m args below meth c E (M_L_law nmz) true _ n _ _ _ [(3, v0), (2, v1), (2, v2), (0, v3)] [(0, r_609)] C_613
        refine AW.ra_n (dc hdl_4 191 rfl) rfl rfl rfl ?_
        refine AW.ra_n (dc hdl_4 192 rfl) rfl rfl rfl ?_
        refine AW.iload_n (dc hdl_4 193 rfl) rfl ?_
        refine AW.iconst (dc hdl_4 194 rfl) (by decide) ?_
        refine AW.iadd (dc hdl_4 195 rfl) ?_
        refine AW.scr hX (dc hdl_4 196 rfl) g_1 g_601 g_602 ?_
        refine AW.ra_n (dc hdl_4 197 rfl) rfl rfl rfl ?_
        refine AW.iload_n (dc hdl_4 198 rfl) rfl ?_
        refine AW.iconst (dc hdl_4 199 rfl) (by decide) ?_
        refine AW.iadd (dc hdl_5 0 rfl) ?_
        refine AW.scr hX (dc hdl_5 1 rfl) g_1 g_603 g_604 ?_
        refine AW.ra_n (dc hdl_5 2 rfl) rfl rfl rfl ?_
        refine AW.iload_n (dc hdl_5 3 rfl) rfl ?_
        refine AW.iconst (dc hdl_5 4 rfl) (by decide) ?_
        refine AW.iadd (dc hdl_5 5 rfl) ?_
        refine AW.scr hX (dc hdl_5 6 rfl) g_1 g_605 g_606 ?_
        refine AW.i2l (dc hdl_5 7 rfl) ?_
        refine AW.bipush (dc hdl_5 8 rfl) (by decide) (by decide +kernel) ?_
        refine AW.lshl (dc hdl_5 9 rfl) ?_
        refine AW.ra_n (dc hdl_5 10 rfl) rfl rfl rfl ?_
        refine AW.iload_n (dc hdl_5 11 rfl) rfl ?_
        refine AW.iconst (dc hdl_5 12 rfl) (by decide) ?_
        refine AW.iadd (dc hdl_5 13 rfl) ?_
        refine AW.scr hX (dc hdl_5 14 rfl) g_1 g_607 g_608 ?_
        refine AW.i2l (dc hdl_5 15 rfl) ?_
        refine AW.ldc2 (v := 4294967295) (dc hdl_5 16 rfl) ck_11_119 (by decide) rfl ?_
        refine AW.land (dc hdl_5 17 rfl) ?_
        refine AW.lor (dc hdl_5 18 rfl) ?_
        obtain ⟨g_617, h⟩ := h
        refine AW.callV (As := [(0, XS (w32 (v3 + 1)).toNat), (0, XS (w32 (v3 + 2)).toNat), (1, or64 (shl64 (XS (w32 (v3 + 3)).toNat) 32) (and64 (XS (w32 (v3 + 4)).toNat) 4294967295))]) (rest := [(0, r_609)]) (ci := 10) (m_G_write l E n C_613 v2 (XS (w32 (v3 + 1)).toNat) (XS (w32 (v3 + 2)).toNat) (or64 (shl64 (XS (w32 (v3 + 3)).toNat) 32) (and64 (XS (w32 (v3 + 4)).toNat) 4294967295)) _ h) cb_11_166 im_G_write se_G_write ⟨_, _, rfl⟩ (by decide) (dc hdl_5 19 rfl) g_617 rfl rfl ⟨Nat.le_of_ble_eq_true rfl, Nat.le_of_ble_eq_true rfl⟩ ⟨g_611, g_612⟩ (Nat.le_of_ble_eq_true rfl) (fun _ h => by cases h) (fun _ => rfl) (fun r_616 C_618 d_620 q_619 => ?_)
        obtain ⟨q_619a, h⟩ := q_619
        subst d_620
        show AW p l e _ s m args below meth c E (M_L_law nmz) true _ n _ _ _ [(3, v0), (2, v1), (2, v2), (0, v3)] [(0, r_616), (0, r_609)] C_618
        refine AW.icmp_eq (t := 1698) (dc hdl_5 20 rfl) (by decide) (fun c_621 => ?_) (fun c_621 => ?_)
        · have h := h.1 c_621
          refine AW.iinc [(3, v0), (2, v1), (2, v2), (0, w32 (v3 + 6))] (dc hdl_6 20 rfl) rfl (Nat.le_of_ble_eq_true rfl) rfl rfl ?_
          refine AW.goto (t := 18) (dc hdl_6 21 rfl) (by decide) ?_
          exact hkz18 C_618 n kc ks (w32 (v3 + 6)) h
        · have h := h.2 c_621
          refine AW.iconst (dc hdl_5 21 rfl) (by decide) ?_
          exact AW.zret (dc hdl_5 22 rfl) rfl rfl g_611 g_612 (by decide) h
      | 36, hj =>
        cases hj
        have h := h.2.2.2.2.2.2.2.2.2.2.2.2.2.2.2.2.2.2.2.2.2.2.2.2.2.2.2.2.2.2.2.2.2.2.2.2.1 (hx.trans (by decide))
        refine AW.ra_n (dc hdl_5 23 rfl) rfl rfl rfl ?_
        refine AW.ra_n (dc hdl_5 24 rfl) rfl rfl rfl ?_
        refine AW.iload_n (dc hdl_5 25 rfl) rfl ?_
        refine AW.iconst (dc hdl_5 26 rfl) (by decide) ?_
        refine AW.iadd (dc hdl_5 27 rfl) ?_
        obtain ⟨g_622, h⟩ := h
        obtain ⟨g_623, h⟩ := h
        refine AW.scr hX (dc hdl_5 28 rfl) g_1 g_622 g_623 ?_
        refine AW.ra_n (dc hdl_5 29 rfl) rfl rfl rfl ?_
        refine AW.iload_n (dc hdl_5 30 rfl) rfl ?_
        refine AW.iconst (dc hdl_5 31 rfl) (by decide) ?_
        refine AW.iadd (dc hdl_5 32 rfl) ?_
        obtain ⟨g_624, h⟩ := h
        obtain ⟨g_625, h⟩ := h
        refine AW.scr hX (dc hdl_5 33 rfl) g_1 g_624 g_625 ?_
        obtain ⟨g_627, h⟩ := h
        obtain ⟨g_628, h⟩ := h
        obtain ⟨g_629, h⟩ := h
        refine AW.callV (As := [(0, XS (w32 (v3 + 1)).toNat), (0, XS (w32 (v3 + 2)).toNat)]) (rest := []) (ci := 9) (m_F_item l E n C v1 (XS (w32 (v3 + 1)).toNat) (XS (w32 (v3 + 2)).toNat) _ h) cb_11_167 im_F_item se_F_item ⟨_, _, rfl⟩ (by decide) (dc hdl_5 34 rfl) g_627 rfl rfl ⟨Nat.le_of_ble_eq_true rfl, Nat.le_of_ble_eq_true rfl⟩ ⟨g_628, g_629⟩ (Nat.le_of_ble_eq_true rfl) (fun _ h => by cases h) (fun _ => rfl) (fun r_626 C_630 d_632 q_631 => ?_)
        obtain ⟨q_631a, h⟩ := q_631
        subst d_632
        show AW p l e _ s m args below meth c E (M_L_law nmz) true _ n _ _ _ [(3, v0), (2, v1), (2, v2), (0, v3)] [(1, r_626)] C_630
        refine AW.ra_n (dc hdl_5 35 rfl) rfl rfl rfl ?_
        refine AW.ra_n (dc hdl_5 36 rfl) rfl rfl rfl ?_
        refine AW.iload_n (dc hdl_5 37 rfl) rfl ?_
        refine AW.iconst (dc hdl_5 38 rfl) (by decide) ?_
        refine AW.iadd (dc hdl_5 39 rfl) ?_
        refine AW.scr hX (dc hdl_5 40 rfl) g_1 g_622 g_623 ?_
        refine AW.ra_n (dc hdl_5 41 rfl) rfl rfl rfl ?_
        refine AW.iload_n (dc hdl_5 42 rfl) rfl ?_
        refine AW.iconst (dc hdl_5 43 rfl) (by decide) ?_
        refine AW.iadd (dc hdl_5 44 rfl) ?_
        refine AW.scr hX (dc hdl_5 45 rfl) g_1 g_624 g_625 ?_
        obtain ⟨g_634, h⟩ := h
        refine AW.callV (As := [(0, XS (w32 (v3 + 1)).toNat), (0, XS (w32 (v3 + 2)).toNat)]) (rest := [(1, r_626)]) (ci := 10) (m_G_item l E n C_630 v2 (XS (w32 (v3 + 1)).toNat) (XS (w32 (v3 + 2)).toNat) _ h) cb_11_171 im_G_item se_G_item ⟨_, _, rfl⟩ (by decide) (dc hdl_5 46 rfl) g_634 rfl rfl ⟨Nat.le_of_ble_eq_true rfl, Nat.le_of_ble_eq_true rfl⟩ ⟨g_628, g_629⟩ (Nat.le_of_ble_eq_true rfl) (fun _ h => by cases h) (fun _ => rfl) (fun r_633 C_635 d_637 q_636 => ?_)
        obtain ⟨q_636a, h⟩ := q_636
        subst d_637
        show AW p l e _ s m args below meth c E (M_L_law nmz) true _ n _ _ _ [(3, v0), (2, v1), (2, v2), (0, v3)] [(1, r_633), (1, r_626)] C_635
        refine AW.lc (dc hdl_5 47 rfl) ?_
        refine AW.if_eq (t := 1698) (dc hdl_5 48 rfl) (by decide) (fun c_638 => ?_) (fun c_638 => ?_)
        · replace c_638 := (lc_eq _ _).mp c_638
          have h := h.1 c_638
          refine AW.iinc [(3, v0), (2, v1), (2, v2), (0, w32 (v3 + 6))] (dc hdl_6 20 rfl) rfl (Nat.le_of_ble_eq_true rfl) rfl rfl ?_
          refine AW.goto (t := 18) (dc hdl_6 21 rfl) (by decide) ?_
          exact hkz18 C_635 n kc ks (w32 (v3 + 6)) h
        · replace c_638 : ¬ r_626 = r_633 := fun q => c_638 ((lc_eq _ _).mpr q)
          have h := h.2 c_638
          refine AW.iconst (dc hdl_5 49 rfl) (by decide) ?_
          exact AW.zret (dc hdl_5 50 rfl) rfl rfl g_628 g_629 (by decide) h
      | 37, hj =>
        cases hj
        have h := h.2.2.2.2.2.2.2.2.2.2.2.2.2.2.2.2.2.2.2.2.2.2.2.2.2.2.2.2.2.2.2.2.2.2.2.2.2.1 (hx.trans (by decide))
        refine AW.ra_n (dc hdl_5 51 rfl) rfl rfl rfl ?_
        refine AW.ra_n (dc hdl_5 52 rfl) rfl rfl rfl ?_
        refine AW.iload_n (dc hdl_5 53 rfl) rfl ?_
        refine AW.iconst (dc hdl_5 54 rfl) (by decide) ?_
        refine AW.iadd (dc hdl_5 55 rfl) ?_
        obtain ⟨g_639, h⟩ := h
        obtain ⟨g_640, h⟩ := h
        refine AW.scr hX (dc hdl_5 56 rfl) g_1 g_639 g_640 ?_
        refine AW.ra_n (dc hdl_5 57 rfl) rfl rfl rfl ?_
        refine AW.iload_n (dc hdl_5 58 rfl) rfl ?_
        refine AW.iconst (dc hdl_5 59 rfl) (by decide) ?_
        refine AW.iadd (dc hdl_5 60 rfl) ?_
        obtain ⟨g_641, h⟩ := h
        obtain ⟨g_642, h⟩ := h
        refine AW.scr hX (dc hdl_5 61 rfl) g_1 g_641 g_642 ?_
        refine AW.ra_n (dc hdl_5 62 rfl) rfl rfl rfl ?_
        refine AW.iload_n (dc hdl_5 63 rfl) rfl ?_
        refine AW.iconst (dc hdl_5 64 rfl) (by decide) ?_
        refine AW.iadd (dc hdl_5 65 rfl) ?_
        obtain ⟨g_643, h⟩ := h
        obtain ⟨g_644, h⟩ := h
        refine AW.scr hX (dc hdl_5 66 rfl) g_1 g_643 g_644 ?_
        refine AW.ra_n (dc hdl_5 67 rfl) rfl rfl rfl ?_
        refine AW.iload_n (dc hdl_5 68 rfl) rfl ?_
        refine AW.iconst (dc hdl_5 69 rfl) (by decide) ?_
        refine AW.iadd (dc hdl_5 70 rfl) ?_
        obtain ⟨g_645, h⟩ := h
        obtain ⟨g_646, h⟩ := h
        refine AW.scr hX (dc hdl_5 71 rfl) g_1 g_645 g_646 ?_
        refine AW.ra_n (dc hdl_5 72 rfl) rfl rfl rfl ?_
        refine AW.iload_n (dc hdl_5 73 rfl) rfl ?_
        refine AW.iconst (dc hdl_5 74 rfl) (by decide) ?_
        refine AW.iadd (dc hdl_5 75 rfl) ?_
        obtain ⟨g_647, h⟩ := h
        obtain ⟨g_648, h⟩ := h
        refine AW.scr hX (dc hdl_5 76 rfl) g_1 g_647 g_648 ?_
        obtain ⟨g_650, h⟩ := h
        obtain ⟨g_651, h⟩ := h
        obtain ⟨g_652, h⟩ := h
        refine AW.callV (As := [(0, XS (w32 (v3 + 1)).toNat), (0, XS (w32 (v3 + 2)).toNat), (0, XS (w32 (v3 + 3)).toNat), (0, XS (w32 (v3 + 4)).toNat), (0, XS (w32 (v3 + 5)).toNat)]) (rest := []) (ci := 9) (m_F_copy l E n C v1 (XS (w32 (v3 + 1)).toNat) (XS (w32 (v3 + 2)).toNat) (XS (w32 (v3 + 3)).toNat) (XS (w32 (v3 + 4)).toNat) (XS (w32 (v3 + 5)).toNat) _ h) cb_11_172 im_F_copy se_F_copy ⟨_, _, rfl⟩ (by decide) (dc hdl_5 77 rfl) g_650 rfl rfl ⟨Nat.le_of_ble_eq_true rfl, Nat.le_of_ble_eq_true rfl⟩ ⟨g_651, g_652⟩ (Nat.le_of_ble_eq_true rfl) (fun _ h => by cases h) (fun _ => rfl) (fun r_649 C_653 d_655 q_654 => ?_)
        obtain ⟨q_654a, h⟩ := q_654
        subst d_655
        show AW p l e _ s m args below meth c E (M_L_law nmz) true _ n _ _ _ [(3, v0), (2, v1), (2, v2), (0, v3)] [(0, r_649)] C_653
        refine AW.ra_n (dc hdl_5 78 rfl) rfl rfl rfl ?_
        refine AW.ra_n (dc hdl_5 79 rfl) rfl rfl rfl ?_
        refine AW.iload_n (dc hdl_5 80 rfl) rfl ?_
        refine AW.iconst (dc hdl_5 81 rfl) (by decide) ?_
        refine AW.iadd (dc hdl_5 82 rfl) ?_
        refine AW.scr hX (dc hdl_5 83 rfl) g_1 g_639 g_640 ?_
        refine AW.ra_n (dc hdl_5 84 rfl) rfl rfl rfl ?_
        refine AW.iload_n (dc hdl_5 85 rfl) rfl ?_
        refine AW.iconst (dc hdl_5 86 rfl) (by decide) ?_
        refine AW.iadd (dc hdl_5 87 rfl) ?_
        refine AW.scr hX (dc hdl_5 88 rfl) g_1 g_641 g_642 ?_
        refine AW.ra_n (dc hdl_5 89 rfl) rfl rfl rfl ?_
        refine AW.iload_n (dc hdl_5 90 rfl) rfl ?_
        refine AW.iconst (dc hdl_5 91 rfl) (by decide) ?_
        refine AW.iadd (dc hdl_5 92 rfl) ?_
        refine AW.scr hX (dc hdl_5 93 rfl) g_1 g_643 g_644 ?_
        refine AW.ra_n (dc hdl_5 94 rfl) rfl rfl rfl ?_
        refine AW.iload_n (dc hdl_5 95 rfl) rfl ?_
        refine AW.iconst (dc hdl_5 96 rfl) (by decide) ?_
        refine AW.iadd (dc hdl_5 97 rfl) ?_
        refine AW.scr hX (dc hdl_5 98 rfl) g_1 g_645 g_646 ?_
        refine AW.ra_n (dc hdl_5 99 rfl) rfl rfl rfl ?_
        refine AW.iload_n (dc hdl_5 100 rfl) rfl ?_
        refine AW.iconst (dc hdl_5 101 rfl) (by decide) ?_
        refine AW.iadd (dc hdl_5 102 rfl) ?_
        refine AW.scr hX (dc hdl_5 103 rfl) g_1 g_647 g_648 ?_
        obtain ⟨g_657, h⟩ := h
        refine AW.callV (As := [(0, XS (w32 (v3 + 1)).toNat), (0, XS (w32 (v3 + 2)).toNat), (0, XS (w32 (v3 + 3)).toNat), (0, XS (w32 (v3 + 4)).toNat), (0, XS (w32 (v3 + 5)).toNat)]) (rest := [(0, r_649)]) (ci := 10) (m_G_copy l E n C_653 v2 (XS (w32 (v3 + 1)).toNat) (XS (w32 (v3 + 2)).toNat) (XS (w32 (v3 + 3)).toNat) (XS (w32 (v3 + 4)).toNat) (XS (w32 (v3 + 5)).toNat) _ h) cb_11_175 im_G_copy se_G_copy ⟨_, _, rfl⟩ (by decide) (dc hdl_5 104 rfl) g_657 rfl rfl ⟨Nat.le_of_ble_eq_true rfl, Nat.le_of_ble_eq_true rfl⟩ ⟨g_651, g_652⟩ (Nat.le_of_ble_eq_true rfl) (fun _ h => by cases h) (fun _ => rfl) (fun r_656 C_658 d_660 q_659 => ?_)
        obtain ⟨q_659a, h⟩ := q_659
        subst d_660
        show AW p l e _ s m args below meth c E (M_L_law nmz) true _ n _ _ _ [(3, v0), (2, v1), (2, v2), (0, v3)] [(0, r_656), (0, r_649)] C_658
        refine AW.icmp_eq (t := 1698) (dc hdl_5 105 rfl) (by decide) (fun c_661 => ?_) (fun c_661 => ?_)
        · have h := h.1 c_661
          refine AW.iinc [(3, v0), (2, v1), (2, v2), (0, w32 (v3 + 6))] (dc hdl_6 20 rfl) rfl (Nat.le_of_ble_eq_true rfl) rfl rfl ?_
          refine AW.goto (t := 18) (dc hdl_6 21 rfl) (by decide) ?_
          exact hkz18 C_658 n kc ks (w32 (v3 + 6)) h
        · have h := h.2 c_661
          refine AW.iconst (dc hdl_5 106 rfl) (by decide) ?_
          exact AW.zret (dc hdl_5 107 rfl) rfl rfl g_651 g_652 (by decide) h
      | 38, hj =>
        cases hj
        have h := h.2.2.2.2.2.2.2.2.2.2.2.2.2.2.2.2.2.2.2.2.2.2.2.2.2.2.2.2.2.2.2.2.2.2.2.2.2.2.1 (hx.trans (by decide))
        refine AW.ra_n (dc hdl_5 108 rfl) rfl rfl rfl ?_
        refine AW.ra_n (dc hdl_5 109 rfl) rfl rfl rfl ?_
        refine AW.iload_n (dc hdl_5 110 rfl) rfl ?_
        refine AW.iconst (dc hdl_5 111 rfl) (by decide) ?_
        refine AW.iadd (dc hdl_5 112 rfl) ?_
        obtain ⟨g_662, h⟩ := h
        obtain ⟨g_663, h⟩ := h
        refine AW.scr hX (dc hdl_5 113 rfl) g_1 g_662 g_663 ?_
        refine AW.ra_n (dc hdl_5 114 rfl) rfl rfl rfl ?_
        refine AW.iload_n (dc hdl_5 115 rfl) rfl ?_
        refine AW.iconst (dc hdl_5 116 rfl) (by decide) ?_
        refine AW.iadd (dc hdl_5 117 rfl) ?_
        obtain ⟨g_664, h⟩ := h
        obtain ⟨g_665, h⟩ := h
        refine AW.scr hX (dc hdl_5 118 rfl) g_1 g_664 g_665 ?_
        refine AW.ra_n (dc hdl_5 119 rfl) rfl rfl rfl ?_
        refine AW.iload_n (dc hdl_5 120 rfl) rfl ?_
        refine AW.iconst (dc hdl_5 121 rfl) (by decide) ?_
        refine AW.iadd (dc hdl_5 122 rfl) ?_
        obtain ⟨g_666, h⟩ := h
        obtain ⟨g_667, h⟩ := h
        refine AW.scr hX (dc hdl_5 123 rfl) g_1 g_666 g_667 ?_
        obtain ⟨g_669, h⟩ := h
        obtain ⟨g_670, h⟩ := h
        obtain ⟨g_671, h⟩ := h
        refine AW.callV (As := [(0, XS (w32 (v3 + 1)).toNat), (0, XS (w32 (v3 + 2)).toNat), (0, XS (w32 (v3 + 3)).toNat)]) (rest := []) (ci := 9) (m_F_hold l E n C v1 (XS (w32 (v3 + 1)).toNat) (XS (w32 (v3 + 2)).toNat) (XS (w32 (v3 + 3)).toNat) _ h) cb_11_176 im_F_hold se_F_hold ⟨_, _, rfl⟩ (by decide) (dc hdl_5 124 rfl) g_669 rfl rfl ⟨Nat.le_of_ble_eq_true rfl, Nat.le_of_ble_eq_true rfl⟩ ⟨g_670, g_671⟩ (Nat.le_of_ble_eq_true rfl) (fun _ h => by cases h) (fun _ => rfl) (fun r_668 C_672 d_674 q_673 => ?_)
        obtain ⟨q_673a, h⟩ := q_673
        subst d_674
        show AW p l e _ s m args below meth c E (M_L_law nmz) true _ n _ _ _ [(3, v0), (2, v1), (2, v2), (0, v3)] [(0, r_668)] C_672
        refine AW.ra_n (dc hdl_5 125 rfl) rfl rfl rfl ?_
        refine AW.ra_n (dc hdl_5 126 rfl) rfl rfl rfl ?_
        refine AW.iload_n (dc hdl_5 127 rfl) rfl ?_
        refine AW.iconst (dc hdl_5 128 rfl) (by decide) ?_
        refine AW.iadd (dc hdl_5 129 rfl) ?_
        refine AW.scr hX (dc hdl_5 130 rfl) g_1 g_662 g_663 ?_
        refine AW.ra_n (dc hdl_5 131 rfl) rfl rfl rfl ?_
        refine AW.iload_n (dc hdl_5 132 rfl) rfl ?_
        refine AW.iconst (dc hdl_5 133 rfl) (by decide) ?_
        refine AW.iadd (dc hdl_5 134 rfl) ?_
        refine AW.scr hX (dc hdl_5 135 rfl) g_1 g_664 g_665 ?_
        refine AW.ra_n (dc hdl_5 136 rfl) rfl rfl rfl ?_
        refine AW.iload_n (dc hdl_5 137 rfl) rfl ?_
        refine AW.iconst (dc hdl_5 138 rfl) (by decide) ?_
        refine AW.iadd (dc hdl_5 139 rfl) ?_
        refine AW.scr hX (dc hdl_5 140 rfl) g_1 g_666 g_667 ?_
        obtain ⟨g_676, h⟩ := h
        refine AW.callV (As := [(0, XS (w32 (v3 + 1)).toNat), (0, XS (w32 (v3 + 2)).toNat), (0, XS (w32 (v3 + 3)).toNat)]) (rest := [(0, r_668)]) (ci := 10) (m_G_hold l E n C_672 v2 (XS (w32 (v3 + 1)).toNat) (XS (w32 (v3 + 2)).toNat) (XS (w32 (v3 + 3)).toNat) _ h) cb_11_179 im_G_hold se_G_hold ⟨_, _, rfl⟩ (by decide) (dc hdl_5 141 rfl) g_676 rfl rfl ⟨Nat.le_of_ble_eq_true rfl, Nat.le_of_ble_eq_true rfl⟩ ⟨g_670, g_671⟩ (Nat.le_of_ble_eq_true rfl) (fun _ h => by cases h) (fun _ => rfl) (fun r_675 C_677 d_679 q_678 => ?_)
        obtain ⟨q_678a, h⟩ := q_678
        subst d_679
        show AW p l e _ s m args below meth c E (M_L_law nmz) true _ n _ _ _ [(3, v0), (2, v1), (2, v2), (0, v3)] [(0, r_675), (0, r_668)] C_677
        refine AW.icmp_eq (t := 1698) (dc hdl_5 142 rfl) (by decide) (fun c_680 => ?_) (fun c_680 => ?_)
        · have h := h.1 c_680
          refine AW.iinc [(3, v0), (2, v1), (2, v2), (0, w32 (v3 + 6))] (dc hdl_6 20 rfl) rfl (Nat.le_of_ble_eq_true rfl) rfl rfl ?_
          refine AW.goto (t := 18) (dc hdl_6 21 rfl) (by decide) ?_
          exact hkz18 C_677 n kc ks (w32 (v3 + 6)) h
        · have h := h.2 c_680
          refine AW.iconst (dc hdl_5 143 rfl) (by decide) ?_
          exact AW.zret (dc hdl_5 144 rfl) rfl rfl g_670 g_671 (by decide) h
      | 39, hj =>
        cases hj
        have h := h.2.2.2.2.2.2.2.2.2.2.2.2.2.2.2.2.2.2.2.2.2.2.2.2.2.2.2.2.2.2.2.2.2.2.2.2.2.2.2.1 (hx.trans (by decide))
        refine AW.ra_n (dc hdl_5 145 rfl) rfl rfl rfl ?_
        refine AW.ra_n (dc hdl_5 146 rfl) rfl rfl rfl ?_
        refine AW.iload_n (dc hdl_5 147 rfl) rfl ?_
        refine AW.iconst (dc hdl_5 148 rfl) (by decide) ?_
        refine AW.iadd (dc hdl_5 149 rfl) ?_
        obtain ⟨g_681, h⟩ := h
        obtain ⟨g_682, h⟩ := h
        refine AW.scr hX (dc hdl_5 150 rfl) g_1 g_681 g_682 ?_
        refine AW.ra_n (dc hdl_5 151 rfl) rfl rfl rfl ?_
        refine AW.iload_n (dc hdl_5 152 rfl) rfl ?_
        refine AW.iconst (dc hdl_5 153 rfl) (by decide) ?_
        refine AW.iadd (dc hdl_5 154 rfl) ?_
        obtain ⟨g_683, h⟩ := h
        obtain ⟨g_684, h⟩ := h
        refine AW.scr hX (dc hdl_5 155 rfl) g_1 g_683 g_684 ?_
        obtain ⟨g_686, h⟩ := h
        obtain ⟨g_687, h⟩ := h
        obtain ⟨g_688, h⟩ := h
        refine AW.callV (As := [(0, XS (w32 (v3 + 1)).toNat), (0, XS (w32 (v3 + 2)).toNat)]) (rest := []) (ci := 9) (m_F_taken l E n C v1 (XS (w32 (v3 + 1)).toNat) (XS (w32 (v3 + 2)).toNat) _ h) cb_11_180 im_F_taken se_F_taken ⟨_, _, rfl⟩ (by decide) (dc hdl_5 156 rfl) g_686 rfl rfl ⟨Nat.le_of_ble_eq_true rfl, Nat.le_of_ble_eq_true rfl⟩ ⟨g_687, g_688⟩ (Nat.le_of_ble_eq_true rfl) (fun _ h => by cases h) (fun _ => rfl) (fun r_685 C_689 d_691 q_690 => ?_)
        obtain ⟨q_690a, h⟩ := q_690
        subst d_691
        show AW p l e _ s m args below meth c E (M_L_law nmz) true _ n _ _ _ [(3, v0), (2, v1), (2, v2), (0, v3)] [(0, r_685)] C_689
        refine AW.ra_n (dc hdl_5 157 rfl) rfl rfl rfl ?_
        refine AW.ra_n (dc hdl_5 158 rfl) rfl rfl rfl ?_
        refine AW.iload_n (dc hdl_5 159 rfl) rfl ?_
        refine AW.iconst (dc hdl_5 160 rfl) (by decide) ?_
        refine AW.iadd (dc hdl_5 161 rfl) ?_
        refine AW.scr hX (dc hdl_5 162 rfl) g_1 g_681 g_682 ?_
        refine AW.ra_n (dc hdl_5 163 rfl) rfl rfl rfl ?_
        refine AW.iload_n (dc hdl_5 164 rfl) rfl ?_
        refine AW.iconst (dc hdl_5 165 rfl) (by decide) ?_
        refine AW.iadd (dc hdl_5 166 rfl) ?_
        refine AW.scr hX (dc hdl_5 167 rfl) g_1 g_683 g_684 ?_
        obtain ⟨g_693, h⟩ := h
        refine AW.callV (As := [(0, XS (w32 (v3 + 1)).toNat), (0, XS (w32 (v3 + 2)).toNat)]) (rest := [(0, r_685)]) (ci := 10) (m_G_taken l E n C_689 v2 (XS (w32 (v3 + 1)).toNat) (XS (w32 (v3 + 2)).toNat) _ h) cb_11_183 im_G_taken se_G_taken ⟨_, _, rfl⟩ (by decide) (dc hdl_5 168 rfl) g_693 rfl rfl ⟨Nat.le_of_ble_eq_true rfl, Nat.le_of_ble_eq_true rfl⟩ ⟨g_687, g_688⟩ (Nat.le_of_ble_eq_true rfl) (fun _ h => by cases h) (fun _ => rfl) (fun r_692 C_694 d_696 q_695 => ?_)
        obtain ⟨q_695a, h⟩ := q_695
        subst d_696
        show AW p l e _ s m args below meth c E (M_L_law nmz) true _ n _ _ _ [(3, v0), (2, v1), (2, v2), (0, v3)] [(0, r_692), (0, r_685)] C_694
        refine AW.icmp_eq (t := 1698) (dc hdl_5 169 rfl) (by decide) (fun c_697 => ?_) (fun c_697 => ?_)
        · have h := h.1 c_697
          refine AW.iinc [(3, v0), (2, v1), (2, v2), (0, w32 (v3 + 6))] (dc hdl_6 20 rfl) rfl (Nat.le_of_ble_eq_true rfl) rfl rfl ?_
          refine AW.goto (t := 18) (dc hdl_6 21 rfl) (by decide) ?_
          exact hkz18 C_694 n kc ks (w32 (v3 + 6)) h
        · have h := h.2 c_697
          refine AW.iconst (dc hdl_5 170 rfl) (by decide) ?_
          exact AW.zret (dc hdl_5 171 rfl) rfl rfl g_687 g_688 (by decide) h
      | 40, hj =>
        cases hj
        have h := h.2.2.2.2.2.2.2.2.2.2.2.2.2.2.2.2.2.2.2.2.2.2.2.2.2.2.2.2.2.2.2.2.2.2.2.2.2.2.2.2.1 (hx.trans (by decide))
        refine AW.ra_n (dc hdl_5 172 rfl) rfl rfl rfl ?_
        obtain ⟨g_699, h⟩ := h
        obtain ⟨g_700, h⟩ := h
        obtain ⟨g_701, h⟩ := h
        refine AW.callV (As := []) (rest := []) (ci := 9) (m_F_image l E n C v1 _ h) cb_11_184 im_F_image se_F_image ⟨_, _, rfl⟩ (by decide) (dc hdl_5 173 rfl) g_699 rfl rfl ⟨Nat.le_of_ble_eq_true rfl, Nat.le_of_ble_eq_true rfl⟩ ⟨g_700, g_701⟩ (Nat.le_of_ble_eq_true rfl) (fun _ h => by cases h) (fun _ => rfl) (fun r_698 C_702 d_704 q_703 => ?_)
        obtain ⟨q_703a, h⟩ := q_703
        subst d_704
        show AW p l e _ s m args below meth c E (M_L_law nmz) true _ n _ _ _ [(3, v0), (2, v1), (2, v2), (0, v3)] [(0, r_698)] C_702
        refine AW.ra_n (dc hdl_5 174 rfl) rfl rfl rfl ?_
        obtain ⟨g_706, h⟩ := h
        refine AW.callV (As := []) (rest := [(0, r_698)]) (ci := 10) (m_G_image l E n C_702 v2 _ h) cb_11_187 im_G_image se_G_image ⟨_, _, rfl⟩ (by decide) (dc hdl_5 175 rfl) g_706 rfl rfl ⟨Nat.le_of_ble_eq_true rfl, Nat.le_of_ble_eq_true rfl⟩ ⟨g_700, g_701⟩ (Nat.le_of_ble_eq_true rfl) (fun _ h => by cases h) (fun _ => rfl) (fun r_705 C_707 d_709 q_708 => ?_)
        obtain ⟨q_708a, h⟩ := q_708
        subst d_709
        show AW p l e _ s m args below meth c E (M_L_law nmz) true _ n _ _ _ [(3, v0), (2, v1), (2, v2), (0, v3)] [(0, r_705), (0, r_698)] C_707
        refine AW.icmp_eq (t := 1698) (dc hdl_5 176 rfl) (by decide) (fun c_710 => ?_) (fun c_710 => ?_)
        · have h := h.1 c_710
          refine AW.iinc [(3, v0), (2, v1), (2, v2), (0, w32 (v3 + 6))] (dc hdl_6 20 rfl) rfl (Nat.le_of_ble_eq_true rfl) rfl rfl ?_
          refine AW.goto (t := 18) (dc hdl_6 21 rfl) (by decide) ?_
          exact hkz18 C_707 n kc ks (w32 (v3 + 6)) h
        · have h := h.2 c_710
          refine AW.iconst (dc hdl_5 177 rfl) (by decide) ?_
          exact AW.zret (dc hdl_5 178 rfl) rfl rfl g_700 g_701 (by decide) h
      | 41, hj =>
        cases hj
        have h := h.2.2.2.2.2.2.2.2.2.2.2.2.2.2.2.2.2.2.2.2.2.2.2.2.2.2.2.2.2.2.2.2.2.2.2.2.2.2.2.2.2.1 (hx.trans (by decide))
        refine AW.ra_n (dc hdl_5 179 rfl) rfl rfl rfl ?_
        obtain ⟨g_712, h⟩ := h
        obtain ⟨g_713, h⟩ := h
        obtain ⟨g_714, h⟩ := h
        refine AW.callV (As := []) (rest := []) (ci := 9) (m_F_back l E n C v1 _ h) cb_11_188 im_F_back se_F_back ⟨_, _, rfl⟩ (by decide) (dc hdl_5 180 rfl) g_712 rfl rfl ⟨Nat.le_of_ble_eq_true rfl, Nat.le_of_ble_eq_true rfl⟩ ⟨g_713, g_714⟩ (Nat.le_of_ble_eq_true rfl) (fun _ h => by cases h) (fun _ => rfl) (fun r_711 C_715 d_717 q_716 => ?_)
        obtain ⟨q_716a, h⟩ := q_716
        subst d_717
        show AW p l e _ s m args below meth c E (M_L_law nmz) true _ n _ _ _ [(3, v0), (2, v1), (2, v2), (0, v3)] [(0, r_711)] C_715
        refine AW.ra_n (dc hdl_5 181 rfl) rfl rfl rfl ?_
        obtain ⟨g_719, h⟩ := h
        refine AW.callV (As := []) (rest := [(0, r_711)]) (ci := 10) (m_G_back l E n C_715 v2 _ h) cb_11_191 im_G_back se_G_back ⟨_, _, rfl⟩ (by decide) (dc hdl_5 182 rfl) g_719 rfl rfl ⟨Nat.le_of_ble_eq_true rfl, Nat.le_of_ble_eq_true rfl⟩ ⟨g_713, g_714⟩ (Nat.le_of_ble_eq_true rfl) (fun _ h => by cases h) (fun _ => rfl) (fun r_718 C_720 d_722 q_721 => ?_)
        obtain ⟨q_721a, h⟩ := q_721
        subst d_722
        show AW p l e _ s m args below meth c E (M_L_law nmz) true _ n _ _ _ [(3, v0), (2, v1), (2, v2), (0, v3)] [(0, r_718), (0, r_711)] C_720
        refine AW.icmp_eq (t := 1698) (dc hdl_5 183 rfl) (by decide) (fun c_723 => ?_) (fun c_723 => ?_)
        · have h := h.1 c_723
          refine AW.iinc [(3, v0), (2, v1), (2, v2), (0, w32 (v3 + 6))] (dc hdl_6 20 rfl) rfl (Nat.le_of_ble_eq_true rfl) rfl rfl ?_
          refine AW.goto (t := 18) (dc hdl_6 21 rfl) (by decide) ?_
          exact hkz18 C_720 n kc ks (w32 (v3 + 6)) h
        · have h := h.2 c_723
          refine AW.iconst (dc hdl_5 184 rfl) (by decide) ?_
          exact AW.zret (dc hdl_5 185 rfl) rfl rfl g_713 g_714 (by decide) h
      | 42, hj =>
        cases hj
        have h := h.2.2.2.2.2.2.2.2.2.2.2.2.2.2.2.2.2.2.2.2.2.2.2.2.2.2.2.2.2.2.2.2.2.2.2.2.2.2.2.2.2.2.1 (hx.trans (by decide))
        refine AW.ra_n (dc hdl_5 186 rfl) rfl rfl rfl ?_
        refine AW.ra_n (dc hdl_5 187 rfl) rfl rfl rfl ?_
        refine AW.iload_n (dc hdl_5 188 rfl) rfl ?_
        refine AW.iconst (dc hdl_5 189 rfl) (by decide) ?_
        refine AW.iadd (dc hdl_5 190 rfl) ?_
        obtain ⟨g_724, h⟩ := h
        obtain ⟨g_725, h⟩ := h
        refine AW.scr hX (dc hdl_5 191 rfl) g_1 g_724 g_725 ?_
        obtain ⟨g_727, h⟩ := h
        obtain ⟨g_728, h⟩ := h
        obtain ⟨g_729, h⟩ := h
        refine AW.callV (As := [(0, XS (w32 (v3 + 1)).toNat)]) (rest := []) (ci := 9) (m_F_count l E n C v1 (XS (w32 (v3 + 1)).toNat) _ h) cb_11_192 im_F_count se_F_count ⟨_, _, rfl⟩ (by decide) (dc hdl_5 192 rfl) g_727 rfl rfl ⟨Nat.le_of_ble_eq_true rfl, Nat.le_of_ble_eq_true rfl⟩ ⟨g_728, g_729⟩ (Nat.le_of_ble_eq_true rfl) (fun _ h => by cases h) (fun _ => rfl) (fun r_726 C_730 d_732 q_731 => ?_)
        obtain ⟨q_731a, h⟩ := q_731
        subst d_732
        show AW p l e _ s m args below meth c E (M_L_law nmz) true _ n _ _ _ [(3, v0), (2, v1), (2, v2), (0, v3)] [(0, r_726)] C_730
        refine AW.ra_n (dc hdl_5 193 rfl) rfl rfl rfl ?_
        refine AW.ra_n (dc hdl_5 194 rfl) rfl rfl rfl ?_
        refine AW.iload_n (dc hdl_5 195 rfl) rfl ?_
        refine AW.iconst (dc hdl_5 196 rfl) (by decide) ?_
        refine AW.iadd (dc hdl_5 197 rfl) ?_
        refine AW.scr hX (dc hdl_5 198 rfl) g_1 g_724 g_725 ?_
        obtain ⟨g_734, h⟩ := h
        refine AW.callV (As := [(0, XS (w32 (v3 + 1)).toNat)]) (rest := [(0, r_726)]) (ci := 10) (m_G_count l E n C_730 v2 (XS (w32 (v3 + 1)).toNat) _ h) cb_11_195 im_G_count se_G_count ⟨_, _, rfl⟩ (by decide) (dc hdl_5 199 rfl) g_734 rfl rfl ⟨Nat.le_of_ble_eq_true rfl, Nat.le_of_ble_eq_true rfl⟩ ⟨g_728, g_729⟩ (Nat.le_of_ble_eq_true rfl) (fun _ h => by cases h) (fun _ => rfl) (fun r_733 C_735 d_737 q_736 => ?_)
        obtain ⟨q_736a, h⟩ := q_736
        subst d_737
        show AW p l e _ s m args below meth c E (M_L_law nmz) true _ n _ _ _ [(3, v0), (2, v1), (2, v2), (0, v3)] [(0, r_733), (0, r_726)] C_735
        refine AW.icmp_eq (t := 1698) (dc hdl_6 0 rfl) (by decide) (fun c_738 => ?_) (fun c_738 => ?_)
        · have h := h.1 c_738
          refine AW.iinc [(3, v0), (2, v1), (2, v2), (0, w32 (v3 + 6))] (dc hdl_6 20 rfl) rfl (Nat.le_of_ble_eq_true rfl) rfl rfl ?_
          refine AW.goto (t := 18) (dc hdl_6 21 rfl) (by decide) ?_
          exact hkz18 C_735 n kc ks (w32 (v3 + 6)) h
        · have h := h.2 c_738
          refine AW.iconst (dc hdl_6 1 rfl) (by decide) ?_
          exact AW.zret (dc hdl_6 2 rfl) rfl rfl g_728 g_729 (by decide) h
      | 43, hj =>
        cases hj
        have h := h.2.2.2.2.2.2.2.2.2.2.2.2.2.2.2.2.2.2.2.2.2.2.2.2.2.2.2.2.2.2.2.2.2.2.2.2.2.2.2.2.2.2.2.1 (hx.trans (by decide))
        refine AW.ra_n (dc hdl_6 3 rfl) rfl rfl rfl ?_
        refine AW.ra_n (dc hdl_6 4 rfl) rfl rfl rfl ?_
        refine AW.iload_n (dc hdl_6 5 rfl) rfl ?_
        refine AW.iconst (dc hdl_6 6 rfl) (by decide) ?_
        refine AW.iadd (dc hdl_6 7 rfl) ?_
        obtain ⟨g_739, h⟩ := h
        obtain ⟨g_740, h⟩ := h
        refine AW.scr hX (dc hdl_6 8 rfl) g_1 g_739 g_740 ?_
        obtain ⟨g_742, h⟩ := h
        obtain ⟨g_743, h⟩ := h
        obtain ⟨g_744, h⟩ := h
        refine AW.callV (As := [(0, XS (w32 (v3 + 1)).toNat)]) (rest := []) (ci := 9) (m_F_status l E n C v1 (XS (w32 (v3 + 1)).toNat) _ h) cb_11_196 im_F_status se_F_status ⟨_, _, rfl⟩ (by decide) (dc hdl_6 9 rfl) g_742 rfl rfl ⟨Nat.le_of_ble_eq_true rfl, Nat.le_of_ble_eq_true rfl⟩ ⟨g_743, g_744⟩ (Nat.le_of_ble_eq_true rfl) (fun _ h => by cases h) (fun _ => rfl) (fun r_741 C_745 d_747 q_746 => ?_)
        obtain ⟨q_746a, h⟩ := q_746
        subst d_747
        show AW p l e _ s m args below meth c E (M_L_law nmz) true _ n _ _ _ [(3, v0), (2, v1), (2, v2), (0, v3)] [(0, r_741)] C_745
        refine AW.ra_n (dc hdl_6 10 rfl) rfl rfl rfl ?_
        refine AW.ra_n (dc hdl_6 11 rfl) rfl rfl rfl ?_
        refine AW.iload_n (dc hdl_6 12 rfl) rfl ?_
        refine AW.iconst (dc hdl_6 13 rfl) (by decide) ?_
        refine AW.iadd (dc hdl_6 14 rfl) ?_
        refine AW.scr hX (dc hdl_6 15 rfl) g_1 g_739 g_740 ?_
        obtain ⟨g_749, h⟩ := h
        refine AW.callV (As := [(0, XS (w32 (v3 + 1)).toNat)]) (rest := [(0, r_741)]) (ci := 10) (m_G_status l E n C_745 v2 (XS (w32 (v3 + 1)).toNat) _ h) cb_11_199 im_G_status se_G_status ⟨_, _, rfl⟩ (by decide) (dc hdl_6 16 rfl) g_749 rfl rfl ⟨Nat.le_of_ble_eq_true rfl, Nat.le_of_ble_eq_true rfl⟩ ⟨g_743, g_744⟩ (Nat.le_of_ble_eq_true rfl) (fun _ h => by cases h) (fun _ => rfl) (fun r_748 C_750 d_752 q_751 => ?_)
        obtain ⟨q_751a, h⟩ := q_751
        subst d_752
        show AW p l e _ s m args below meth c E (M_L_law nmz) true _ n _ _ _ [(3, v0), (2, v1), (2, v2), (0, v3)] [(0, r_748), (0, r_741)] C_750
        refine AW.icmp_eq (t := 1698) (dc hdl_6 17 rfl) (by decide) (fun c_753 => ?_) (fun c_753 => ?_)
        · have h := h.1 c_753
          refine AW.iinc [(3, v0), (2, v1), (2, v2), (0, w32 (v3 + 6))] (dc hdl_6 20 rfl) rfl (Nat.le_of_ble_eq_true rfl) rfl rfl ?_
          refine AW.goto (t := 18) (dc hdl_6 21 rfl) (by decide) ?_
          exact hkz18 C_750 n kc ks (w32 (v3 + 6)) h
        · have h := h.2 c_753
          refine AW.iconst (dc hdl_6 18 rfl) (by decide) ?_
          exact AW.zret (dc hdl_6 19 rfl) rfl rfl g_743 g_744 (by decide) h
      | j + 44, hj => exact absurd hj (by simp)
    · have h := h.2.2.2.2.2.2.2.2.2.2.2.2.2.2.2.2.2.2.2.2.2.2.2.2.2.2.2.2.2.2.2.2.2.2.2.2.2.2.2.2.2.2.2.2 q_7
      refine AW.iinc [(3, v0), (2, v1), (2, v2), (0, w32 (v3 + 6))] (dc hdl_6 20 rfl) rfl (Nat.le_of_ble_eq_true rfl) rfl rfl ?_
      refine AW.goto (t := 18) (dc hdl_6 21 rfl) (by decide) ?_
      exact hkz18 C n kc ks (w32 (v3 + 6)) h
theorem aB_L_law_18 (XS : Nat → Int) (LN : Int) (hX : SCR E s XS LN) (v0 v1 v2 : Int) (Q : Int → Cn → Nat → Prop) : ∀ (f : Nat) (z : Cn × Nat × Nat × Nat × Int), lp (B_L_law_18 XS LN v0 v1 v2 Q) f z → AW p l e R s m args below meth c E (M_L_law nmz) true Q z.2.1 z.2.2.1 z.2.2.2.1 18 [(3, v0), (2, v1), (2, v2), (0, z.2.2.2.2)] [] (z.1) := by
  intro f
  induction f with
  | zero => intro z h; exact False.elim h
  | succ f ih => intro z h; exact bB_L_law_18 XS LN hX v0 v1 v2 Q (lp (B_L_law_18 XS LN v0 v1 v2 Q) f) (fun a0 a1 a2 a3 a4 h => ih (a0, a1, a2, a3, a4) h) z.1 z.2.1 z.2.2.1 z.2.2.2.1 z.2.2.2.2 h
def E_L_law (XS : Nat → Int) (LN : Int) (n : Nat) (C : Cn) (kc ks : Nat) (v0 v1 v2 : Int) (Q : Int → Cn → Nat → Prop) : Prop :=
  ∃ f_754 : Nat, lp (B_L_law_18 XS LN v0 v1 v2 Q) f_754 (C, n, kc, ks, 0)
theorem aE_L_law (XS : Nat → Int) (LN : Int) (hX : SCR E s XS LN) (n : Nat) (C : Cn) (kc ks : Nat) (v0 v1 v2 : Int) (Q : Int → Cn → Nat → Prop) (h : E_L_law XS LN n C kc ks v0 v1 v2 Q) : AW p l e R s m args below meth c E (M_L_law nmz) true Q n kc ks 16 [(3, v0), (2, v1), (2, v2), (0, 0)] [] C := by
  unfold E_L_law at h
  refine AW.iconst (dc hdl_0 8 rfl) (by decide) ?_
  refine AW.istore_n [(3, v0), (2, v1), (2, v2), (0, 0)] (dc hdl_0 9 rfl) (Nat.le_of_ble_eq_true rfl) rfl rfl ?_
  obtain ⟨f_754, h⟩ := h
  exact aB_L_law_18 XS LN hX v0 v1 v2 Q f_754 (C, n, kc, ks, 0) h
end
